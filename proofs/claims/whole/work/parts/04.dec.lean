theorem dX0_ofDouble_0 : decode cX0_ofDouble 0 = .ok (.dload_n 0, 1) := by decide +kernel
theorem dX0_ofDouble_1 : decode cX0_ofDouble 1 = .ok (.dconst 0, 1) := by decide +kernel
theorem dX0_ofDouble_2 : decode cX0_ofDouble 2 = .ok (.dcmp .l, 1) := by decide +kernel
theorem dX0_ofDouble_3 : decode cX0_ofDouble 3 = .ok (.ifCond .ne 5, 3) := by decide +kernel
theorem dX0_ofDouble_6 : decode cX0_ofDouble 6 = .ok (.lconst 0, 1) := by decide +kernel
theorem dX0_ofDouble_7 : decode cX0_ofDouble 7 = .ok (.lreturn, 1) := by decide +kernel
theorem dX0_ofDouble_8 : decode cX0_ofDouble 8 = .ok (.sipush 1023, 3) := by decide +kernel
theorem dX0_ofDouble_11 : decode cX0_ofDouble 11 = .ok (.istore_n 2, 1) := by decide +kernel
theorem dX0_ofDouble_12 : decode cX0_ofDouble 12 = .ok (.dload_n 0, 1) := by decide +kernel
theorem dX0_ofDouble_13 : decode cX0_ofDouble 13 = .ok (.dstore_n 3, 1) := by decide +kernel
theorem dX0_ofDouble_14 : decode cX0_ofDouble 14 = .ok (.dload_n 3, 1) := by decide +kernel
theorem dX0_ofDouble_15 : decode cX0_ofDouble 15 = .ok (.dconst 1, 1) := by decide +kernel
theorem dX0_ofDouble_16 : decode cX0_ofDouble 16 = .ok (.dcmp .g, 1) := by decide +kernel
theorem dX0_ofDouble_17 : decode cX0_ofDouble 17 = .ok (.ifCond .ge 20, 3) := by decide +kernel
theorem dX0_ofDouble_20 : decode cX0_ofDouble 20 = .ok (.iload_n 2, 1) := by decide +kernel
theorem dX0_ofDouble_21 : decode cX0_ofDouble 21 = .ok (.iconst 1, 1) := by decide +kernel
theorem dX0_ofDouble_22 : decode cX0_ofDouble 22 = .ok (.if_icmp .le 15, 3) := by decide +kernel
theorem dX0_ofDouble_25 : decode cX0_ofDouble 25 = .ok (.dload_n 3, 1) := by decide +kernel
theorem dX0_ofDouble_26 : decode cX0_ofDouble 26 = .ok (.ldc2_w 7, 3) := by decide +kernel
theorem dX0_ofDouble_29 : decode cX0_ofDouble 29 = .ok (.dmul, 1) := by decide +kernel
theorem dX0_ofDouble_30 : decode cX0_ofDouble 30 = .ok (.dstore_n 3, 1) := by decide +kernel
theorem dX0_ofDouble_31 : decode cX0_ofDouble 31 = .ok (.iinc 2 (-1), 3) := by decide +kernel
theorem dX0_ofDouble_34 : decode cX0_ofDouble 34 = .ok (.goto (-20), 3) := by decide +kernel
theorem dX0_ofDouble_37 : decode cX0_ofDouble 37 = .ok (.dload_n 3, 1) := by decide +kernel
theorem dX0_ofDouble_38 : decode cX0_ofDouble 38 = .ok (.ldc2_w 9, 3) := by decide +kernel
theorem dX0_ofDouble_41 : decode cX0_ofDouble 41 = .ok (.dmul, 1) := by decide +kernel
theorem dX0_ofDouble_42 : decode cX0_ofDouble 42 = .ok (.d2l, 1) := by decide +kernel
theorem dX0_ofDouble_43 : decode cX0_ofDouble 43 = .ok (.ldc2_w 11, 3) := by decide +kernel
theorem dX0_ofDouble_46 : decode cX0_ofDouble 46 = .ok (.lsub, 1) := by decide +kernel
theorem dX0_ofDouble_47 : decode cX0_ofDouble 47 = .ok (.lstore 5, 2) := by decide +kernel
theorem dX0_ofDouble_49 : decode cX0_ofDouble 49 = .ok (.iload_n 2, 1) := by decide +kernel
theorem dX0_ofDouble_50 : decode cX0_ofDouble 50 = .ok (.i2l, 1) := by decide +kernel
theorem dX0_ofDouble_51 : decode cX0_ofDouble 51 = .ok (.bipush 52, 2) := by decide +kernel
theorem dX0_ofDouble_53 : decode cX0_ofDouble 53 = .ok (.lshl, 1) := by decide +kernel
theorem dX0_ofDouble_54 : decode cX0_ofDouble 54 = .ok (.lload 5, 2) := by decide +kernel
theorem dX0_ofDouble_56 : decode cX0_ofDouble 56 = .ok (.ladd, 1) := by decide +kernel
theorem dX0_ofDouble_57 : decode cX0_ofDouble 57 = .ok (.lreturn, 1) := by decide +kernel
theorem dX0_ofFloat_0 : decode cX0_ofFloat 0 = .ok (.fload_n 0, 1) := by decide +kernel
theorem dX0_ofFloat_1 : decode cX0_ofFloat 1 = .ok (.fconst 0, 1) := by decide +kernel
theorem dX0_ofFloat_2 : decode cX0_ofFloat 2 = .ok (.fcmp .l, 1) := by decide +kernel
theorem dX0_ofFloat_3 : decode cX0_ofFloat 3 = .ok (.ifCond .ne 5, 3) := by decide +kernel
theorem dX0_ofFloat_6 : decode cX0_ofFloat 6 = .ok (.iconst 0, 1) := by decide +kernel
theorem dX0_ofFloat_7 : decode cX0_ofFloat 7 = .ok (.ireturn, 1) := by decide +kernel
theorem dX0_ofFloat_8 : decode cX0_ofFloat 8 = .ok (.bipush 127, 2) := by decide +kernel
theorem dX0_ofFloat_10 : decode cX0_ofFloat 10 = .ok (.istore_n 1, 1) := by decide +kernel
theorem dX0_ofFloat_11 : decode cX0_ofFloat 11 = .ok (.fload_n 0, 1) := by decide +kernel
theorem dX0_ofFloat_12 : decode cX0_ofFloat 12 = .ok (.fstore_n 2, 1) := by decide +kernel
theorem dX0_ofFloat_13 : decode cX0_ofFloat 13 = .ok (.fload_n 2, 1) := by decide +kernel
theorem dX0_ofFloat_14 : decode cX0_ofFloat 14 = .ok (.fconst 1, 1) := by decide +kernel
theorem dX0_ofFloat_15 : decode cX0_ofFloat 15 = .ok (.fcmp .g, 1) := by decide +kernel
theorem dX0_ofFloat_16 : decode cX0_ofFloat 16 = .ok (.ifCond .ge 18, 3) := by decide +kernel
theorem dX0_ofFloat_19 : decode cX0_ofFloat 19 = .ok (.iload_n 1, 1) := by decide +kernel
theorem dX0_ofFloat_20 : decode cX0_ofFloat 20 = .ok (.iconst 1, 1) := by decide +kernel
theorem dX0_ofFloat_21 : decode cX0_ofFloat 21 = .ok (.if_icmp .le 13, 3) := by decide +kernel
theorem dX0_ofFloat_24 : decode cX0_ofFloat 24 = .ok (.fload_n 2, 1) := by decide +kernel
theorem dX0_ofFloat_25 : decode cX0_ofFloat 25 = .ok (.fconst 2, 1) := by decide +kernel
theorem dX0_ofFloat_26 : decode cX0_ofFloat 26 = .ok (.fmul, 1) := by decide +kernel
theorem dX0_ofFloat_27 : decode cX0_ofFloat 27 = .ok (.fstore_n 2, 1) := by decide +kernel
theorem dX0_ofFloat_28 : decode cX0_ofFloat 28 = .ok (.iinc 1 (-1), 3) := by decide +kernel
theorem dX0_ofFloat_31 : decode cX0_ofFloat 31 = .ok (.goto (-18), 3) := by decide +kernel
theorem dX0_ofFloat_34 : decode cX0_ofFloat 34 = .ok (.fload_n 2, 1) := by decide +kernel
theorem dX0_ofFloat_35 : decode cX0_ofFloat 35 = .ok (.ldc 13, 2) := by decide +kernel
theorem dX0_ofFloat_37 : decode cX0_ofFloat 37 = .ok (.fmul, 1) := by decide +kernel
theorem dX0_ofFloat_38 : decode cX0_ofFloat 38 = .ok (.f2i, 1) := by decide +kernel
theorem dX0_ofFloat_39 : decode cX0_ofFloat 39 = .ok (.ldc 14, 2) := by decide +kernel
theorem dX0_ofFloat_41 : decode cX0_ofFloat 41 = .ok (.isub, 1) := by decide +kernel
theorem dX0_ofFloat_42 : decode cX0_ofFloat 42 = .ok (.istore_n 3, 1) := by decide +kernel
theorem dX0_ofFloat_43 : decode cX0_ofFloat 43 = .ok (.iload_n 1, 1) := by decide +kernel
theorem dX0_ofFloat_44 : decode cX0_ofFloat 44 = .ok (.bipush 23, 2) := by decide +kernel
theorem dX0_ofFloat_46 : decode cX0_ofFloat 46 = .ok (.ishl, 1) := by decide +kernel
theorem dX0_ofFloat_47 : decode cX0_ofFloat 47 = .ok (.iload_n 3, 1) := by decide +kernel
theorem dX0_ofFloat_48 : decode cX0_ofFloat 48 = .ok (.iadd, 1) := by decide +kernel
theorem dX0_ofFloat_49 : decode cX0_ofFloat 49 = .ok (.ireturn, 1) := by decide +kernel
theorem dX1_init_0 : decode cX1_init 0 = .ok (.aload_n 0, 1) := by decide +kernel
theorem dX1_init_1 : decode cX1_init 1 = .ok (.invokespecial 1, 3) := by decide +kernel
theorem dX1_init_4 : decode cX1_init 4 = .ok (.aload_n 0, 1) := by decide +kernel
theorem dX1_init_5 : decode cX1_init 5 = .ok (.aload_n 1, 1) := by decide +kernel
theorem dX1_init_6 : decode cX1_init 6 = .ok (.putfield 7, 3) := by decide +kernel
theorem dX1_init_9 : decode cX1_init 9 = .ok (.aload_n 0, 1) := by decide +kernel
theorem dX1_init_10 : decode cX1_init 10 = .ok (.aload_n 1, 1) := by decide +kernel
theorem dX1_init_11 : decode cX1_init 11 = .ok (.invokevirtual 13, 3) := by decide +kernel
theorem dX1_init_14 : decode cX1_init 14 = .ok (.iconst 1, 1) := by decide +kernel
theorem dX1_init_15 : decode cX1_init 15 = .ok (.iadd, 1) := by decide +kernel
theorem dX1_init_16 : decode cX1_init 16 = .ok (.newarray .int, 2) := by decide +kernel
theorem dX1_init_18 : decode cX1_init 18 = .ok (.putfield 19, 3) := by decide +kernel
theorem dX1_init_21 : decode cX1_init 21 = .ok (.aload_n 0, 1) := by decide +kernel
theorem dX1_init_22 : decode cX1_init 22 = .ok (.aload_n 1, 1) := by decide +kernel
theorem dX1_init_23 : decode cX1_init 23 = .ok (.invokevirtual 13, 3) := by decide +kernel
theorem dX1_init_26 : decode cX1_init 26 = .ok (.iconst 1, 1) := by decide +kernel
theorem dX1_init_27 : decode cX1_init 27 = .ok (.iadd, 1) := by decide +kernel
theorem dX1_init_28 : decode cX1_init 28 = .ok (.newarray .int, 2) := by decide +kernel
theorem dX1_init_30 : decode cX1_init 30 = .ok (.putfield 23, 3) := by decide +kernel
theorem dX1_init_33 : decode cX1_init 33 = .ok (.aload_n 0, 1) := by decide +kernel
theorem dX1_init_34 : decode cX1_init 34 = .ok (.aload_n 1, 1) := by decide +kernel
theorem dX1_init_35 : decode cX1_init 35 = .ok (.invokevirtual 13, 3) := by decide +kernel
theorem dX1_init_38 : decode cX1_init 38 = .ok (.iconst 1, 1) := by decide +kernel
theorem dX1_init_39 : decode cX1_init 39 = .ok (.iadd, 1) := by decide +kernel
theorem dX1_init_40 : decode cX1_init 40 = .ok (.newarray .boolean, 2) := by decide +kernel
theorem dX1_init_42 : decode cX1_init 42 = .ok (.putfield 26, 3) := by decide +kernel
theorem dX1_init_45 : decode cX1_init 45 = .ok (.aload_n 0, 1) := by decide +kernel
theorem dX1_init_46 : decode cX1_init 46 = .ok (.aload_n 1, 1) := by decide +kernel
theorem dX1_init_47 : decode cX1_init 47 = .ok (.invokevirtual 13, 3) := by decide +kernel
theorem dX1_init_50 : decode cX1_init 50 = .ok (.iconst 1, 1) := by decide +kernel
theorem dX1_init_51 : decode cX1_init 51 = .ok (.iadd, 1) := by decide +kernel
theorem dX1_init_52 : decode cX1_init 52 = .ok (.newarray .boolean, 2) := by decide +kernel
theorem dX1_init_54 : decode cX1_init 54 = .ok (.putfield 30, 3) := by decide +kernel
theorem dX1_init_57 : decode cX1_init 57 = .ok (.return_, 1) := by decide +kernel
theorem dX1_isFulfilledBy_0 : decode cX1_isFulfilledBy 0 = .ok (.aload_n 0, 1) := by decide +kernel
theorem dX1_isFulfilledBy_1 : decode cX1_isFulfilledBy 1 = .ok (.iconst 0, 1) := by decide +kernel
theorem dX1_isFulfilledBy_2 : decode cX1_isFulfilledBy 2 = .ok (.putfield 33, 3) := by decide +kernel
theorem dX1_isFulfilledBy_5 : decode cX1_isFulfilledBy 5 = .ok (.aload_n 0, 1) := by decide +kernel
theorem dX1_isFulfilledBy_6 : decode cX1_isFulfilledBy 6 = .ok (.iconst 1, 1) := by decide +kernel
theorem dX1_isFulfilledBy_7 : decode cX1_isFulfilledBy 7 = .ok (.invokevirtual 37, 3) := by decide +kernel
theorem dX1_isFulfilledBy_10 : decode cX1_isFulfilledBy 10 = .ok (.iconst 1, 1) := by decide +kernel
theorem dX1_isFulfilledBy_11 : decode cX1_isFulfilledBy 11 = .ok (.istore_n 2, 1) := by decide +kernel
theorem dX1_isFulfilledBy_12 : decode cX1_isFulfilledBy 12 = .ok (.iconst 0, 1) := by decide +kernel
theorem dX1_isFulfilledBy_13 : decode cX1_isFulfilledBy 13 = .ok (.istore_n 3, 1) := by decide +kernel
theorem dX1_isFulfilledBy_14 : decode cX1_isFulfilledBy 14 = .ok (.iload_n 3, 1) := by decide +kernel
theorem dX1_isFulfilledBy_15 : decode cX1_isFulfilledBy 15 = .ok (.aload_n 0, 1) := by decide +kernel
theorem dX1_isFulfilledBy_16 : decode cX1_isFulfilledBy 16 = .ok (.getfield 7, 3) := by decide +kernel
theorem dX1_isFulfilledBy_19 : decode cX1_isFulfilledBy 19 = .ok (.invokevirtual 13, 3) := by decide +kernel
theorem dX1_isFulfilledBy_22 : decode cX1_isFulfilledBy 22 = .ok (.if_icmp .ge 157, 3) := by decide +kernel
theorem dX1_isFulfilledBy_25 : decode cX1_isFulfilledBy 25 = .ok (.aload_n 0, 1) := by decide +kernel
theorem dX1_isFulfilledBy_26 : decode cX1_isFulfilledBy 26 = .ok (.getfield 7, 3) := by decide +kernel
theorem dX1_isFulfilledBy_29 : decode cX1_isFulfilledBy 29 = .ok (.iload_n 3, 1) := by decide +kernel
theorem dX1_isFulfilledBy_30 : decode cX1_isFulfilledBy 30 = .ok (.invokevirtual 41, 3) := by decide +kernel
theorem dX1_isFulfilledBy_33 : decode cX1_isFulfilledBy 33 = .ok (.istore 4, 2) := by decide +kernel
theorem dX1_isFulfilledBy_35 : decode cX1_isFulfilledBy 35 = .ok (.aload_n 0, 1) := by decide +kernel
theorem dX1_isFulfilledBy_36 : decode cX1_isFulfilledBy 36 = .ok (.getfield 7, 3) := by decide +kernel
theorem dX1_isFulfilledBy_39 : decode cX1_isFulfilledBy 39 = .ok (.iload_n 3, 1) := by decide +kernel
theorem dX1_isFulfilledBy_40 : decode cX1_isFulfilledBy 40 = .ok (.invokestatic 45, 3) := by decide +kernel
theorem dX1_isFulfilledBy_43 : decode cX1_isFulfilledBy 43 = .ok (.ifCond .eq 12, 3) := by decide +kernel
theorem dX1_isFulfilledBy_46 : decode cX1_isFulfilledBy 46 = .ok (.iload 4, 2) := by decide +kernel
theorem dX1_isFulfilledBy_48 : decode cX1_isFulfilledBy 48 = .ok (.bipush 48, 2) := by decide +kernel
theorem dX1_isFulfilledBy_50 : decode cX1_isFulfilledBy 50 = .ok (.isub, 1) := by decide +kernel
theorem dX1_isFulfilledBy_51 : decode cX1_isFulfilledBy 51 = .ok (.istore_n 2, 1) := by decide +kernel
theorem dX1_isFulfilledBy_52 : decode cX1_isFulfilledBy 52 = .ok (.goto 121, 3) := by decide +kernel
theorem dX1_isFulfilledBy_55 : decode cX1_isFulfilledBy 55 = .ok (.aload_n 0, 1) := by decide +kernel
theorem dX1_isFulfilledBy_56 : decode cX1_isFulfilledBy 56 = .ok (.getfield 7, 3) := by decide +kernel
theorem dX1_isFulfilledBy_59 : decode cX1_isFulfilledBy 59 = .ok (.iload_n 3, 1) := by decide +kernel
theorem dX1_isFulfilledBy_60 : decode cX1_isFulfilledBy 60 = .ok (.invokestatic 51, 3) := by decide +kernel
theorem dX1_isFulfilledBy_63 : decode cX1_isFulfilledBy 63 = .ok (.ifCond .eq 19, 3) := by decide +kernel
theorem dX1_isFulfilledBy_66 : decode cX1_isFulfilledBy 66 = .ok (.aload_n 0, 1) := by decide +kernel
theorem dX1_isFulfilledBy_67 : decode cX1_isFulfilledBy 67 = .ok (.iload_n 1, 1) := by decide +kernel
theorem dX1_isFulfilledBy_68 : decode cX1_isFulfilledBy 68 = .ok (.iload 4, 2) := by decide +kernel
theorem dX1_isFulfilledBy_70 : decode cX1_isFulfilledBy 70 = .ok (.bipush 48, 2) := by decide +kernel
theorem dX1_isFulfilledBy_72 : decode cX1_isFulfilledBy 72 = .ok (.isub, 1) := by decide +kernel
theorem dX1_isFulfilledBy_73 : decode cX1_isFulfilledBy 73 = .ok (.invokestatic 54, 3) := by decide +kernel
theorem dX1_isFulfilledBy_76 : decode cX1_isFulfilledBy 76 = .ok (.invokevirtual 60, 3) := by decide +kernel
theorem dX1_isFulfilledBy_79 : decode cX1_isFulfilledBy 79 = .ok (.goto 94, 3) := by decide +kernel
theorem dX1_isFulfilledBy_82 : decode cX1_isFulfilledBy 82 = .ok (.iload 4, 2) := by decide +kernel
theorem dX1_isFulfilledBy_84 : decode cX1_isFulfilledBy 84 = .ok (.bipush 40, 2) := by decide +kernel
theorem dX1_isFulfilledBy_86 : decode cX1_isFulfilledBy 86 = .ok (.if_icmp .ne 23, 3) := by decide +kernel
theorem dX1_isFulfilledBy_89 : decode cX1_isFulfilledBy 89 = .ok (.aload_n 0, 1) := by decide +kernel
theorem dX1_isFulfilledBy_90 : decode cX1_isFulfilledBy 90 = .ok (.dup, 1) := by decide +kernel
theorem dX1_isFulfilledBy_91 : decode cX1_isFulfilledBy 91 = .ok (.getfield 33, 3) := by decide +kernel
theorem dX1_isFulfilledBy_94 : decode cX1_isFulfilledBy 94 = .ok (.iconst 1, 1) := by decide +kernel
theorem dX1_isFulfilledBy_95 : decode cX1_isFulfilledBy 95 = .ok (.iadd, 1) := by decide +kernel
theorem dX1_isFulfilledBy_96 : decode cX1_isFulfilledBy 96 = .ok (.putfield 33, 3) := by decide +kernel
theorem dX1_isFulfilledBy_99 : decode cX1_isFulfilledBy 99 = .ok (.aload_n 0, 1) := by decide +kernel
theorem dX1_isFulfilledBy_100 : decode cX1_isFulfilledBy 100 = .ok (.iload_n 2, 1) := by decide +kernel
theorem dX1_isFulfilledBy_101 : decode cX1_isFulfilledBy 101 = .ok (.invokevirtual 37, 3) := by decide +kernel
theorem dX1_isFulfilledBy_104 : decode cX1_isFulfilledBy 104 = .ok (.iconst 1, 1) := by decide +kernel
theorem dX1_isFulfilledBy_105 : decode cX1_isFulfilledBy 105 = .ok (.istore_n 2, 1) := by decide +kernel
theorem dX1_isFulfilledBy_106 : decode cX1_isFulfilledBy 106 = .ok (.goto 67, 3) := by decide +kernel
theorem dX1_isFulfilledBy_109 : decode cX1_isFulfilledBy 109 = .ok (.iload 4, 2) := by decide +kernel
theorem dX1_isFulfilledBy_111 : decode cX1_isFulfilledBy 111 = .ok (.bipush 124, 2) := by decide +kernel
theorem dX1_isFulfilledBy_113 : decode cX1_isFulfilledBy 113 = .ok (.if_icmp .ne 10, 3) := by decide +kernel
theorem dX1_isFulfilledBy_116 : decode cX1_isFulfilledBy 116 = .ok (.aload_n 0, 1) := by decide +kernel
theorem dX1_isFulfilledBy_117 : decode cX1_isFulfilledBy 117 = .ok (.invokevirtual 64, 3) := by decide +kernel
theorem dX1_isFulfilledBy_120 : decode cX1_isFulfilledBy 120 = .ok (.goto 53, 3) := by decide +kernel
theorem dX1_isFulfilledBy_123 : decode cX1_isFulfilledBy 123 = .ok (.iload 4, 2) := by decide +kernel
theorem dX1_isFulfilledBy_125 : decode cX1_isFulfilledBy 125 = .ok (.bipush 44, 2) := by decide +kernel
theorem dX1_isFulfilledBy_127 : decode cX1_isFulfilledBy 127 = .ok (.if_icmp .ne 10, 3) := by decide +kernel
theorem dX1_isFulfilledBy_130 : decode cX1_isFulfilledBy 130 = .ok (.aload_n 0, 1) := by decide +kernel
theorem dX1_isFulfilledBy_131 : decode cX1_isFulfilledBy 131 = .ok (.invokevirtual 67, 3) := by decide +kernel
theorem dX1_isFulfilledBy_134 : decode cX1_isFulfilledBy 134 = .ok (.goto 39, 3) := by decide +kernel
theorem dX1_isFulfilledBy_137 : decode cX1_isFulfilledBy 137 = .ok (.iload 4, 2) := by decide +kernel
theorem dX1_isFulfilledBy_139 : decode cX1_isFulfilledBy 139 = .ok (.bipush 41, 2) := by decide +kernel
theorem dX1_isFulfilledBy_141 : decode cX1_isFulfilledBy 141 = .ok (.if_icmp .ne 32, 3) := by decide +kernel
theorem dX1_isFulfilledBy_144 : decode cX1_isFulfilledBy 144 = .ok (.aload_n 0, 1) := by decide +kernel
theorem dX1_isFulfilledBy_145 : decode cX1_isFulfilledBy 145 = .ok (.getfield 33, 3) := by decide +kernel
theorem dX1_isFulfilledBy_148 : decode cX1_isFulfilledBy 148 = .ok (.ifCond .le 25, 3) := by decide +kernel
theorem dX1_isFulfilledBy_151 : decode cX1_isFulfilledBy 151 = .ok (.aload_n 0, 1) := by decide +kernel
theorem dX1_isFulfilledBy_152 : decode cX1_isFulfilledBy 152 = .ok (.invokevirtual 70, 3) := by decide +kernel
theorem dX1_isFulfilledBy_155 : decode cX1_isFulfilledBy 155 = .ok (.istore 5, 2) := by decide +kernel
theorem dX1_isFulfilledBy_157 : decode cX1_isFulfilledBy 157 = .ok (.aload_n 0, 1) := by decide +kernel
theorem dX1_isFulfilledBy_158 : decode cX1_isFulfilledBy 158 = .ok (.dup, 1) := by decide +kernel
theorem dX1_isFulfilledBy_159 : decode cX1_isFulfilledBy 159 = .ok (.getfield 33, 3) := by decide +kernel
theorem dX1_isFulfilledBy_162 : decode cX1_isFulfilledBy 162 = .ok (.iconst 1, 1) := by decide +kernel
theorem dX1_isFulfilledBy_163 : decode cX1_isFulfilledBy 163 = .ok (.isub, 1) := by decide +kernel
theorem dX1_isFulfilledBy_164 : decode cX1_isFulfilledBy 164 = .ok (.putfield 33, 3) := by decide +kernel
theorem dX1_isFulfilledBy_167 : decode cX1_isFulfilledBy 167 = .ok (.aload_n 0, 1) := by decide +kernel
theorem dX1_isFulfilledBy_168 : decode cX1_isFulfilledBy 168 = .ok (.iload 5, 2) := by decide +kernel
theorem dX1_isFulfilledBy_170 : decode cX1_isFulfilledBy 170 = .ok (.invokevirtual 60, 3) := by decide +kernel
theorem dX1_isFulfilledBy_173 : decode cX1_isFulfilledBy 173 = .ok (.iinc 3 1, 3) := by decide +kernel
theorem dX1_isFulfilledBy_176 : decode cX1_isFulfilledBy 176 = .ok (.goto (-162), 3) := by decide +kernel
theorem dX1_isFulfilledBy_179 : decode cX1_isFulfilledBy 179 = .ok (.aload_n 0, 1) := by decide +kernel
theorem dX1_isFulfilledBy_180 : decode cX1_isFulfilledBy 180 = .ok (.invokevirtual 70, 3) := by decide +kernel
theorem dX1_isFulfilledBy_183 : decode cX1_isFulfilledBy 183 = .ok (.ireturn, 1) := by decide +kernel
theorem dX1_begin_0 : decode cX1_begin 0 = .ok (.aload_n 0, 1) := by decide +kernel
theorem dX1_begin_1 : decode cX1_begin 1 = .ok (.getfield 19, 3) := by decide +kernel
theorem dX1_begin_4 : decode cX1_begin 4 = .ok (.aload_n 0, 1) := by decide +kernel
theorem dX1_begin_5 : decode cX1_begin 5 = .ok (.getfield 33, 3) := by decide +kernel
theorem dX1_begin_8 : decode cX1_begin 8 = .ok (.iload_n 1, 1) := by decide +kernel
theorem dX1_begin_9 : decode cX1_begin 9 = .ok (.iastore, 1) := by decide +kernel
theorem dX1_begin_10 : decode cX1_begin 10 = .ok (.aload_n 0, 1) := by decide +kernel
theorem dX1_begin_11 : decode cX1_begin 11 = .ok (.getfield 23, 3) := by decide +kernel
theorem dX1_begin_14 : decode cX1_begin 14 = .ok (.aload_n 0, 1) := by decide +kernel
theorem dX1_begin_15 : decode cX1_begin 15 = .ok (.getfield 33, 3) := by decide +kernel
theorem dX1_begin_18 : decode cX1_begin 18 = .ok (.iconst 0, 1) := by decide +kernel
theorem dX1_begin_19 : decode cX1_begin 19 = .ok (.iastore, 1) := by decide +kernel
theorem dX1_begin_20 : decode cX1_begin 20 = .ok (.aload_n 0, 1) := by decide +kernel
theorem dX1_begin_21 : decode cX1_begin 21 = .ok (.getfield 26, 3) := by decide +kernel
theorem dX1_begin_24 : decode cX1_begin 24 = .ok (.aload_n 0, 1) := by decide +kernel
theorem dX1_begin_25 : decode cX1_begin 25 = .ok (.getfield 33, 3) := by decide +kernel
theorem dX1_begin_28 : decode cX1_begin 28 = .ok (.iconst 0, 1) := by decide +kernel
theorem dX1_begin_29 : decode cX1_begin 29 = .ok (.bastore, 1) := by decide +kernel
theorem dX1_begin_30 : decode cX1_begin 30 = .ok (.aload_n 0, 1) := by decide +kernel
theorem dX1_begin_31 : decode cX1_begin 31 = .ok (.getfield 30, 3) := by decide +kernel
theorem dX1_begin_34 : decode cX1_begin 34 = .ok (.aload_n 0, 1) := by decide +kernel
theorem dX1_begin_35 : decode cX1_begin 35 = .ok (.getfield 33, 3) := by decide +kernel
theorem dX1_begin_38 : decode cX1_begin 38 = .ok (.iconst 1, 1) := by decide +kernel
theorem dX1_begin_39 : decode cX1_begin 39 = .ok (.bastore, 1) := by decide +kernel
theorem dX1_begin_40 : decode cX1_begin 40 = .ok (.return_, 1) := by decide +kernel
theorem dX1_require_0 : decode cX1_require 0 = .ok (.aload_n 0, 1) := by decide +kernel
theorem dX1_require_1 : decode cX1_require 1 = .ok (.getfield 30, 3) := by decide +kernel
theorem dX1_require_4 : decode cX1_require 4 = .ok (.aload_n 0, 1) := by decide +kernel
theorem dX1_require_5 : decode cX1_require 5 = .ok (.getfield 33, 3) := by decide +kernel
theorem dX1_require_8 : decode cX1_require 8 = .ok (.aload_n 0, 1) := by decide +kernel
theorem dX1_require_9 : decode cX1_require 9 = .ok (.getfield 30, 3) := by decide +kernel
theorem dX1_require_12 : decode cX1_require 12 = .ok (.aload_n 0, 1) := by decide +kernel
theorem dX1_require_13 : decode cX1_require 13 = .ok (.getfield 33, 3) := by decide +kernel
theorem dX1_require_16 : decode cX1_require 16 = .ok (.baload, 1) := by decide +kernel
theorem dX1_require_17 : decode cX1_require 17 = .ok (.ifCond .eq 11, 3) := by decide +kernel
theorem dX1_require_20 : decode cX1_require 20 = .ok (.iload_n 1, 1) := by decide +kernel
theorem dX1_require_21 : decode cX1_require 21 = .ok (.ifCond .eq 7, 3) := by decide +kernel
theorem dX1_require_24 : decode cX1_require 24 = .ok (.iconst 1, 1) := by decide +kernel
theorem dX1_require_25 : decode cX1_require 25 = .ok (.goto 4, 3) := by decide +kernel
theorem dX1_require_28 : decode cX1_require 28 = .ok (.iconst 0, 1) := by decide +kernel
theorem dX1_require_29 : decode cX1_require 29 = .ok (.bastore, 1) := by decide +kernel
theorem dX1_require_30 : decode cX1_require 30 = .ok (.return_, 1) := by decide +kernel
theorem dX1_endAll_0 : decode cX1_endAll 0 = .ok (.aload_n 0, 1) := by decide +kernel
theorem dX1_endAll_1 : decode cX1_endAll 1 = .ok (.getfield 26, 3) := by decide +kernel
theorem dX1_endAll_4 : decode cX1_endAll 4 = .ok (.aload_n 0, 1) := by decide +kernel
theorem dX1_endAll_5 : decode cX1_endAll 5 = .ok (.getfield 33, 3) := by decide +kernel
theorem dX1_endAll_8 : decode cX1_endAll 8 = .ok (.aload_n 0, 1) := by decide +kernel
theorem dX1_endAll_9 : decode cX1_endAll 9 = .ok (.getfield 26, 3) := by decide +kernel
theorem dX1_endAll_12 : decode cX1_endAll 12 = .ok (.aload_n 0, 1) := by decide +kernel
theorem dX1_endAll_13 : decode cX1_endAll 13 = .ok (.getfield 33, 3) := by decide +kernel
theorem dX1_endAll_16 : decode cX1_endAll 16 = .ok (.baload, 1) := by decide +kernel
theorem dX1_endAll_17 : decode cX1_endAll 17 = .ok (.ifCond .ne 15, 3) := by decide +kernel
theorem dX1_endAll_20 : decode cX1_endAll 20 = .ok (.aload_n 0, 1) := by decide +kernel
theorem dX1_endAll_21 : decode cX1_endAll 21 = .ok (.getfield 30, 3) := by decide +kernel
theorem dX1_endAll_24 : decode cX1_endAll 24 = .ok (.aload_n 0, 1) := by decide +kernel
theorem dX1_endAll_25 : decode cX1_endAll 25 = .ok (.getfield 33, 3) := by decide +kernel
theorem dX1_endAll_28 : decode cX1_endAll 28 = .ok (.baload, 1) := by decide +kernel
theorem dX1_endAll_29 : decode cX1_endAll 29 = .ok (.ifCond .eq 7, 3) := by decide +kernel
theorem dX1_endAll_32 : decode cX1_endAll 32 = .ok (.iconst 1, 1) := by decide +kernel
theorem dX1_endAll_33 : decode cX1_endAll 33 = .ok (.goto 4, 3) := by decide +kernel
theorem dX1_endAll_36 : decode cX1_endAll 36 = .ok (.iconst 0, 1) := by decide +kernel
theorem dX1_endAll_37 : decode cX1_endAll 37 = .ok (.bastore, 1) := by decide +kernel
theorem dX1_endAll_38 : decode cX1_endAll 38 = .ok (.aload_n 0, 1) := by decide +kernel
theorem dX1_endAll_39 : decode cX1_endAll 39 = .ok (.getfield 30, 3) := by decide +kernel
theorem dX1_endAll_42 : decode cX1_endAll 42 = .ok (.aload_n 0, 1) := by decide +kernel
theorem dX1_endAll_43 : decode cX1_endAll 43 = .ok (.getfield 33, 3) := by decide +kernel
theorem dX1_endAll_46 : decode cX1_endAll 46 = .ok (.iconst 1, 1) := by decide +kernel
theorem dX1_endAll_47 : decode cX1_endAll 47 = .ok (.bastore, 1) := by decide +kernel
theorem dX1_endAll_48 : decode cX1_endAll 48 = .ok (.return_, 1) := by decide +kernel
theorem dX1_endCondition_0 : decode cX1_endCondition 0 = .ok (.aload_n 0, 1) := by decide +kernel
theorem dX1_endCondition_1 : decode cX1_endCondition 1 = .ok (.invokevirtual 64, 3) := by decide +kernel
theorem dX1_endCondition_4 : decode cX1_endCondition 4 = .ok (.aload_n 0, 1) := by decide +kernel
theorem dX1_endCondition_5 : decode cX1_endCondition 5 = .ok (.getfield 23, 3) := by decide +kernel
theorem dX1_endCondition_8 : decode cX1_endCondition 8 = .ok (.aload_n 0, 1) := by decide +kernel
theorem dX1_endCondition_9 : decode cX1_endCondition 9 = .ok (.getfield 33, 3) := by decide +kernel
theorem dX1_endCondition_12 : decode cX1_endCondition 12 = .ok (.dup2, 1) := by decide +kernel
theorem dX1_endCondition_13 : decode cX1_endCondition 13 = .ok (.iaload, 1) := by decide +kernel
theorem dX1_endCondition_14 : decode cX1_endCondition 14 = .ok (.aload_n 0, 1) := by decide +kernel
theorem dX1_endCondition_15 : decode cX1_endCondition 15 = .ok (.getfield 26, 3) := by decide +kernel
theorem dX1_endCondition_18 : decode cX1_endCondition 18 = .ok (.aload_n 0, 1) := by decide +kernel
theorem dX1_endCondition_19 : decode cX1_endCondition 19 = .ok (.getfield 33, 3) := by decide +kernel
theorem dX1_endCondition_22 : decode cX1_endCondition 22 = .ok (.baload, 1) := by decide +kernel
theorem dX1_endCondition_23 : decode cX1_endCondition 23 = .ok (.ifCond .eq 7, 3) := by decide +kernel
theorem dX1_endCondition_26 : decode cX1_endCondition 26 = .ok (.iconst 1, 1) := by decide +kernel
theorem dX1_endCondition_27 : decode cX1_endCondition 27 = .ok (.goto 4, 3) := by decide +kernel
theorem dX1_endCondition_30 : decode cX1_endCondition 30 = .ok (.iconst 0, 1) := by decide +kernel
theorem dX1_endCondition_31 : decode cX1_endCondition 31 = .ok (.iadd, 1) := by decide +kernel
theorem dX1_endCondition_32 : decode cX1_endCondition 32 = .ok (.iastore, 1) := by decide +kernel
theorem dX1_endCondition_33 : decode cX1_endCondition 33 = .ok (.aload_n 0, 1) := by decide +kernel
theorem dX1_endCondition_34 : decode cX1_endCondition 34 = .ok (.getfield 26, 3) := by decide +kernel
theorem dX1_endCondition_37 : decode cX1_endCondition 37 = .ok (.aload_n 0, 1) := by decide +kernel
theorem dX1_endCondition_38 : decode cX1_endCondition 38 = .ok (.getfield 33, 3) := by decide +kernel
theorem dX1_endCondition_41 : decode cX1_endCondition 41 = .ok (.iconst 0, 1) := by decide +kernel
theorem dX1_endCondition_42 : decode cX1_endCondition 42 = .ok (.bastore, 1) := by decide +kernel
theorem dX1_endCondition_43 : decode cX1_endCondition 43 = .ok (.return_, 1) := by decide +kernel
theorem dX1_end_0 : decode cX1_end 0 = .ok (.aload_n 0, 1) := by decide +kernel
theorem dX1_end_1 : decode cX1_end 1 = .ok (.invokevirtual 67, 3) := by decide +kernel
theorem dX1_end_4 : decode cX1_end 4 = .ok (.aload_n 0, 1) := by decide +kernel
theorem dX1_end_5 : decode cX1_end 5 = .ok (.getfield 23, 3) := by decide +kernel
theorem dX1_end_8 : decode cX1_end 8 = .ok (.aload_n 0, 1) := by decide +kernel
theorem dX1_end_9 : decode cX1_end 9 = .ok (.getfield 33, 3) := by decide +kernel
theorem dX1_end_12 : decode cX1_end 12 = .ok (.iaload, 1) := by decide +kernel
theorem dX1_end_13 : decode cX1_end 13 = .ok (.aload_n 0, 1) := by decide +kernel
theorem dX1_end_14 : decode cX1_end 14 = .ok (.getfield 19, 3) := by decide +kernel
theorem dX1_end_17 : decode cX1_end 17 = .ok (.aload_n 0, 1) := by decide +kernel
theorem dX1_end_18 : decode cX1_end 18 = .ok (.getfield 33, 3) := by decide +kernel
theorem dX1_end_21 : decode cX1_end 21 = .ok (.iaload, 1) := by decide +kernel
theorem dX1_end_22 : decode cX1_end 22 = .ok (.if_icmp .lt 7, 3) := by decide +kernel
theorem dX1_end_25 : decode cX1_end 25 = .ok (.iconst 1, 1) := by decide +kernel
theorem dX1_end_26 : decode cX1_end 26 = .ok (.goto 4, 3) := by decide +kernel
theorem dX1_end_29 : decode cX1_end 29 = .ok (.iconst 0, 1) := by decide +kernel
theorem dX1_end_30 : decode cX1_end 30 = .ok (.ireturn, 1) := by decide +kernel
theorem dX2_powerModQ_0 : decode cX2_powerModQ 0 = .ok (.iconst 1, 1) := by decide +kernel
theorem dX2_powerModQ_1 : decode cX2_powerModQ 1 = .ok (.istore_n 2, 1) := by decide +kernel
theorem dX2_powerModQ_2 : decode cX2_powerModQ 2 = .ok (.bipush 9, 2) := by decide +kernel
theorem dX2_powerModQ_4 : decode cX2_powerModQ 4 = .ok (.istore_n 3, 1) := by decide +kernel
theorem dX2_powerModQ_5 : decode cX2_powerModQ 5 = .ok (.iload_n 3, 1) := by decide +kernel
theorem dX2_powerModQ_6 : decode cX2_powerModQ 6 = .ok (.ifCond .lt 34, 3) := by decide +kernel
theorem dX2_powerModQ_9 : decode cX2_powerModQ 9 = .ok (.iload_n 2, 1) := by decide +kernel
theorem dX2_powerModQ_10 : decode cX2_powerModQ 10 = .ok (.iload_n 2, 1) := by decide +kernel
theorem dX2_powerModQ_11 : decode cX2_powerModQ 11 = .ok (.imul, 1) := by decide +kernel
theorem dX2_powerModQ_12 : decode cX2_powerModQ 12 = .ok (.sipush 2039, 3) := by decide +kernel
theorem dX2_powerModQ_15 : decode cX2_powerModQ 15 = .ok (.irem, 1) := by decide +kernel
theorem dX2_powerModQ_16 : decode cX2_powerModQ 16 = .ok (.istore_n 2, 1) := by decide +kernel
theorem dX2_powerModQ_17 : decode cX2_powerModQ 17 = .ok (.iload_n 1, 1) := by decide +kernel
theorem dX2_powerModQ_18 : decode cX2_powerModQ 18 = .ok (.iload_n 3, 1) := by decide +kernel
theorem dX2_powerModQ_19 : decode cX2_powerModQ 19 = .ok (.ishr, 1) := by decide +kernel
theorem dX2_powerModQ_20 : decode cX2_powerModQ 20 = .ok (.iconst 1, 1) := by decide +kernel
theorem dX2_powerModQ_21 : decode cX2_powerModQ 21 = .ok (.iand, 1) := by decide +kernel
theorem dX2_powerModQ_22 : decode cX2_powerModQ 22 = .ok (.iconst 1, 1) := by decide +kernel
theorem dX2_powerModQ_23 : decode cX2_powerModQ 23 = .ok (.if_icmp .ne 11, 3) := by decide +kernel
theorem dX2_powerModQ_26 : decode cX2_powerModQ 26 = .ok (.iload_n 2, 1) := by decide +kernel
theorem dX2_powerModQ_27 : decode cX2_powerModQ 27 = .ok (.iload_n 0, 1) := by decide +kernel
theorem dX2_powerModQ_28 : decode cX2_powerModQ 28 = .ok (.imul, 1) := by decide +kernel
theorem dX2_powerModQ_29 : decode cX2_powerModQ 29 = .ok (.sipush 2039, 3) := by decide +kernel
theorem dX2_powerModQ_32 : decode cX2_powerModQ 32 = .ok (.irem, 1) := by decide +kernel
theorem dX2_powerModQ_33 : decode cX2_powerModQ 33 = .ok (.istore_n 2, 1) := by decide +kernel
theorem dX2_powerModQ_34 : decode cX2_powerModQ 34 = .ok (.iinc 3 (-1), 3) := by decide +kernel
theorem dX2_powerModQ_37 : decode cX2_powerModQ 37 = .ok (.goto (-32), 3) := by decide +kernel
theorem dX2_powerModQ_40 : decode cX2_powerModQ 40 = .ok (.iload_n 2, 1) := by decide +kernel
theorem dX2_powerModQ_41 : decode cX2_powerModQ 41 = .ok (.ireturn, 1) := by decide +kernel
theorem dX2_commitmentTo_0 : decode cX2_commitmentTo 0 = .ok (.iconst 4, 1) := by decide +kernel
theorem dX2_commitmentTo_1 : decode cX2_commitmentTo 1 = .ok (.iload_n 0, 1) := by decide +kernel
theorem dX2_commitmentTo_2 : decode cX2_commitmentTo 2 = .ok (.invokestatic 9, 3) := by decide +kernel
theorem dX2_commitmentTo_5 : decode cX2_commitmentTo 5 = .ok (.ireturn, 1) := by decide +kernel
theorem dX2_inverse_0 : decode cX2_inverse 0 = .ok (.iconst 1, 1) := by decide +kernel
theorem dX2_inverse_1 : decode cX2_inverse 1 = .ok (.istore_n 1, 1) := by decide +kernel
theorem dX2_inverse_2 : decode cX2_inverse 2 = .ok (.bipush 9, 2) := by decide +kernel
theorem dX2_inverse_4 : decode cX2_inverse 4 = .ok (.istore_n 2, 1) := by decide +kernel
theorem dX2_inverse_5 : decode cX2_inverse 5 = .ok (.iload_n 2, 1) := by decide +kernel
theorem dX2_inverse_6 : decode cX2_inverse 6 = .ok (.ifCond .lt 36, 3) := by decide +kernel
theorem dX2_inverse_9 : decode cX2_inverse 9 = .ok (.iload_n 1, 1) := by decide +kernel
theorem dX2_inverse_10 : decode cX2_inverse 10 = .ok (.iload_n 1, 1) := by decide +kernel
theorem dX2_inverse_11 : decode cX2_inverse 11 = .ok (.imul, 1) := by decide +kernel
theorem dX2_inverse_12 : decode cX2_inverse 12 = .ok (.sipush 1019, 3) := by decide +kernel
theorem dX2_inverse_15 : decode cX2_inverse 15 = .ok (.irem, 1) := by decide +kernel
theorem dX2_inverse_16 : decode cX2_inverse 16 = .ok (.istore_n 1, 1) := by decide +kernel
theorem dX2_inverse_17 : decode cX2_inverse 17 = .ok (.sipush 1017, 3) := by decide +kernel
theorem dX2_inverse_20 : decode cX2_inverse 20 = .ok (.iload_n 2, 1) := by decide +kernel
theorem dX2_inverse_21 : decode cX2_inverse 21 = .ok (.ishr, 1) := by decide +kernel
theorem dX2_inverse_22 : decode cX2_inverse 22 = .ok (.iconst 1, 1) := by decide +kernel
theorem dX2_inverse_23 : decode cX2_inverse 23 = .ok (.iand, 1) := by decide +kernel
theorem dX2_inverse_24 : decode cX2_inverse 24 = .ok (.iconst 1, 1) := by decide +kernel
theorem dX2_inverse_25 : decode cX2_inverse 25 = .ok (.if_icmp .ne 11, 3) := by decide +kernel
theorem dX2_inverse_28 : decode cX2_inverse 28 = .ok (.iload_n 1, 1) := by decide +kernel
theorem dX2_inverse_29 : decode cX2_inverse 29 = .ok (.iload_n 0, 1) := by decide +kernel
theorem dX2_inverse_30 : decode cX2_inverse 30 = .ok (.imul, 1) := by decide +kernel
theorem dX2_inverse_31 : decode cX2_inverse 31 = .ok (.sipush 1019, 3) := by decide +kernel
theorem dX2_inverse_34 : decode cX2_inverse 34 = .ok (.irem, 1) := by decide +kernel
theorem dX2_inverse_35 : decode cX2_inverse 35 = .ok (.istore_n 1, 1) := by decide +kernel
theorem dX2_inverse_36 : decode cX2_inverse 36 = .ok (.iinc 2 (-1), 3) := by decide +kernel
theorem dX2_inverse_39 : decode cX2_inverse 39 = .ok (.goto (-34), 3) := by decide +kernel
theorem dX2_inverse_42 : decode cX2_inverse 42 = .ok (.iload_n 1, 1) := by decide +kernel
theorem dX2_inverse_43 : decode cX2_inverse 43 = .ok (.ireturn, 1) := by decide +kernel
theorem dX2_polynomialAt_0 : decode cX2_polynomialAt 0 = .ok (.iconst 0, 1) := by decide +kernel
theorem dX2_polynomialAt_1 : decode cX2_polynomialAt 1 = .ok (.istore_n 3, 1) := by decide +kernel
theorem dX2_polynomialAt_2 : decode cX2_polynomialAt 2 = .ok (.iload_n 2, 1) := by decide +kernel
theorem dX2_polynomialAt_3 : decode cX2_polynomialAt 3 = .ok (.iconst 1, 1) := by decide +kernel
theorem dX2_polynomialAt_4 : decode cX2_polynomialAt 4 = .ok (.isub, 1) := by decide +kernel
theorem dX2_polynomialAt_5 : decode cX2_polynomialAt 5 = .ok (.istore 4, 2) := by decide +kernel
theorem dX2_polynomialAt_7 : decode cX2_polynomialAt 7 = .ok (.iload 4, 2) := by decide +kernel
theorem dX2_polynomialAt_9 : decode cX2_polynomialAt 9 = .ok (.ifCond .lt 22, 3) := by decide +kernel
theorem dX2_polynomialAt_12 : decode cX2_polynomialAt 12 = .ok (.iload_n 3, 1) := by decide +kernel
theorem dX2_polynomialAt_13 : decode cX2_polynomialAt 13 = .ok (.iload_n 0, 1) := by decide +kernel
theorem dX2_polynomialAt_14 : decode cX2_polynomialAt 14 = .ok (.imul, 1) := by decide +kernel
theorem dX2_polynomialAt_15 : decode cX2_polynomialAt 15 = .ok (.aload_n 1, 1) := by decide +kernel
theorem dX2_polynomialAt_16 : decode cX2_polynomialAt 16 = .ok (.iload 4, 2) := by decide +kernel
theorem dX2_polynomialAt_18 : decode cX2_polynomialAt 18 = .ok (.iaload, 1) := by decide +kernel
theorem dX2_polynomialAt_19 : decode cX2_polynomialAt 19 = .ok (.iadd, 1) := by decide +kernel
theorem dX2_polynomialAt_20 : decode cX2_polynomialAt 20 = .ok (.sipush 1019, 3) := by decide +kernel
theorem dX2_polynomialAt_23 : decode cX2_polynomialAt 23 = .ok (.irem, 1) := by decide +kernel
theorem dX2_polynomialAt_24 : decode cX2_polynomialAt 24 = .ok (.istore_n 3, 1) := by decide +kernel
theorem dX2_polynomialAt_25 : decode cX2_polynomialAt 25 = .ok (.iinc 4 (-1), 3) := by decide +kernel
theorem dX2_polynomialAt_28 : decode cX2_polynomialAt 28 = .ok (.goto (-21), 3) := by decide +kernel
theorem dX2_polynomialAt_31 : decode cX2_polynomialAt 31 = .ok (.iload_n 3, 1) := by decide +kernel
theorem dX2_polynomialAt_32 : decode cX2_polynomialAt 32 = .ok (.ireturn, 1) := by decide +kernel
theorem dX2_checkDigit_0 : decode cX2_checkDigit 0 = .ok (.bipush 7, 2) := by decide +kernel
theorem dX2_checkDigit_2 : decode cX2_checkDigit 2 = .ok (.iload_n 0, 1) := by decide +kernel
theorem dX2_checkDigit_3 : decode cX2_checkDigit 3 = .ok (.imul, 1) := by decide +kernel
theorem dX2_checkDigit_4 : decode cX2_checkDigit 4 = .ok (.iconst 3, 1) := by decide +kernel
theorem dX2_checkDigit_5 : decode cX2_checkDigit 5 = .ok (.iload_n 1, 1) := by decide +kernel
theorem dX2_checkDigit_6 : decode cX2_checkDigit 6 = .ok (.imul, 1) := by decide +kernel
theorem dX2_checkDigit_7 : decode cX2_checkDigit 7 = .ok (.iadd, 1) := by decide +kernel
theorem dX2_checkDigit_8 : decode cX2_checkDigit 8 = .ok (.iload_n 2, 1) := by decide +kernel
theorem dX2_checkDigit_9 : decode cX2_checkDigit 9 = .ok (.iadd, 1) := by decide +kernel
theorem dX2_checkDigit_10 : decode cX2_checkDigit 10 = .ok (.bipush 10, 2) := by decide +kernel
theorem dX2_checkDigit_12 : decode cX2_checkDigit 12 = .ok (.irem, 1) := by decide +kernel
theorem dX2_checkDigit_13 : decode cX2_checkDigit 13 = .ok (.ireturn, 1) := by decide +kernel
theorem dX3_init_0 : decode cX3_init 0 = .ok (.aload_n 0, 1) := by decide +kernel
theorem dX3_init_1 : decode cX3_init 1 = .ok (.invokespecial 3, 3) := by decide +kernel
theorem dX3_init_4 : decode cX3_init 4 = .ok (.aload_n 0, 1) := by decide +kernel
theorem dX3_init_5 : decode cX3_init 5 = .ok (.aload_n 1, 1) := by decide +kernel
theorem dX3_init_6 : decode cX3_init 6 = .ok (.putfield 9, 3) := by decide +kernel
theorem dX3_init_9 : decode cX3_init 9 = .ok (.aload_n 0, 1) := by decide +kernel
theorem dX3_init_10 : decode cX3_init 10 = .ok (.iload_n 2, 1) := by decide +kernel
theorem dX3_init_11 : decode cX3_init 11 = .ok (.putfield 15, 3) := by decide +kernel
theorem dX3_init_14 : decode cX3_init 14 = .ok (.aload_n 0, 1) := by decide +kernel
theorem dX3_init_15 : decode cX3_init 15 = .ok (.iload_n 3, 1) := by decide +kernel
theorem dX3_init_16 : decode cX3_init 16 = .ok (.putfield 19, 3) := by decide +kernel
theorem dX3_init_19 : decode cX3_init 19 = .ok (.aload_n 0, 1) := by decide +kernel
theorem dX3_init_20 : decode cX3_init 20 = .ok (.iload 4, 2) := by decide +kernel
theorem dX3_init_22 : decode cX3_init 22 = .ok (.putfield 22, 3) := by decide +kernel
theorem dX3_init_25 : decode cX3_init 25 = .ok (.aload_n 0, 1) := by decide +kernel
theorem dX3_init_26 : decode cX3_init 26 = .ok (.aload 5, 2) := by decide +kernel
theorem dX3_init_28 : decode cX3_init 28 = .ok (.putfield 25, 3) := by decide +kernel
theorem dX3_init_31 : decode cX3_init 31 = .ok (.return_, 1) := by decide +kernel
theorem dX3_from_0 : decode cX3_from 0 = .ok (.aload_n 0, 1) := by decide +kernel
theorem dX3_from_1 : decode cX3_from 1 = .ok (.invokestatic 29, 3) := by decide +kernel
theorem dX3_from_4 : decode cX3_from 4 = .ok (.astore_n 1, 1) := by decide +kernel
theorem dX3_from_5 : decode cX3_from 5 = .ok (.new 35, 3) := by decide +kernel
theorem dX3_from_8 : decode cX3_from 8 = .ok (.dup, 1) := by decide +kernel
theorem dX3_from_9 : decode cX3_from 9 = .ok (.aload_n 1, 1) := by decide +kernel
theorem dX3_from_10 : decode cX3_from 10 = .ok (.invokespecial 37, 3) := by decide +kernel
theorem dX3_from_13 : decode cX3_from 13 = .ok (.astore_n 2, 1) := by decide +kernel
theorem dX3_from_14 : decode cX3_from 14 = .ok (.sipush 256, 3) := by decide +kernel
theorem dX3_from_17 : decode cX3_from 17 = .ok (.newarray .boolean, 2) := by decide +kernel
theorem dX3_from_19 : decode cX3_from 19 = .ok (.astore_n 3, 1) := by decide +kernel
theorem dX3_from_20 : decode cX3_from 20 = .ok (.iconst 0, 1) := by decide +kernel
theorem dX3_from_21 : decode cX3_from 21 = .ok (.istore 4, 2) := by decide +kernel
theorem dX3_from_23 : decode cX3_from 23 = .ok (.iload 4, 2) := by decide +kernel
theorem dX3_from_25 : decode cX3_from 25 = .ok (.sipush 256, 3) := by decide +kernel
theorem dX3_from_28 : decode cX3_from 28 = .ok (.if_icmp .ge 19, 3) := by decide +kernel
theorem dX3_from_31 : decode cX3_from 31 = .ok (.aload_n 3, 1) := by decide +kernel
theorem dX3_from_32 : decode cX3_from 32 = .ok (.iload 4, 2) := by decide +kernel
theorem dX3_from_34 : decode cX3_from 34 = .ok (.aload_n 2, 1) := by decide +kernel
theorem dX3_from_35 : decode cX3_from 35 = .ok (.iload 4, 2) := by decide +kernel
theorem dX3_from_37 : decode cX3_from 37 = .ok (.invokevirtual 40, 3) := by decide +kernel
theorem dX3_from_40 : decode cX3_from 40 = .ok (.bastore, 1) := by decide +kernel
theorem dX3_from_41 : decode cX3_from 41 = .ok (.iinc 4 1, 3) := by decide +kernel
theorem dX3_from_44 : decode cX3_from 44 = .ok (.goto (-21), 3) := by decide +kernel
theorem dX3_from_47 : decode cX3_from 47 = .ok (.iconst 0, 1) := by decide +kernel
theorem dX3_from_48 : decode cX3_from 48 = .ok (.istore 4, 2) := by decide +kernel
theorem dX3_from_50 : decode cX3_from 50 = .ok (.iconst 0, 1) := by decide +kernel
theorem dX3_from_51 : decode cX3_from 51 = .ok (.istore 5, 2) := by decide +kernel
theorem dX3_from_53 : decode cX3_from 53 = .ok (.iconst 0, 1) := by decide +kernel
theorem dX3_from_54 : decode cX3_from 54 = .ok (.istore 6, 2) := by decide +kernel
theorem dX3_from_56 : decode cX3_from 56 = .ok (.iload 6, 2) := by decide +kernel
theorem dX3_from_58 : decode cX3_from 58 = .ok (.aload_n 1, 1) := by decide +kernel
theorem dX3_from_59 : decode cX3_from 59 = .ok (.invokevirtual 44, 3) := by decide +kernel
theorem dX3_from_62 : decode cX3_from 62 = .ok (.if_icmp .ge 52, 3) := by decide +kernel
theorem dX3_from_65 : decode cX3_from 65 = .ok (.aload_n 1, 1) := by decide +kernel
theorem dX3_from_66 : decode cX3_from 66 = .ok (.iload 6, 2) := by decide +kernel
theorem dX3_from_68 : decode cX3_from 68 = .ok (.invokestatic 50, 3) := by decide +kernel
theorem dX3_from_71 : decode cX3_from 71 = .ok (.ifCond .eq 25, 3) := by decide +kernel
theorem dX3_from_74 : decode cX3_from 74 = .ok (.iload 5, 2) := by decide +kernel
theorem dX3_from_76 : decode cX3_from 76 = .ok (.iconst 1, 1) := by decide +kernel
theorem dX3_from_77 : decode cX3_from 77 = .ok (.aload_n 1, 1) := by decide +kernel
theorem dX3_from_78 : decode cX3_from 78 = .ok (.iload 6, 2) := by decide +kernel
theorem dX3_from_80 : decode cX3_from 80 = .ok (.invokevirtual 54, 3) := by decide +kernel
theorem dX3_from_83 : decode cX3_from 83 = .ok (.bipush 48, 2) := by decide +kernel
theorem dX3_from_85 : decode cX3_from 85 = .ok (.isub, 1) := by decide +kernel
theorem dX3_from_86 : decode cX3_from 86 = .ok (.ishl, 1) := by decide +kernel
theorem dX3_from_87 : decode cX3_from 87 = .ok (.ior, 1) := by decide +kernel
theorem dX3_from_88 : decode cX3_from 88 = .ok (.istore 5, 2) := by decide +kernel
theorem dX3_from_90 : decode cX3_from 90 = .ok (.iinc 4 1, 3) := by decide +kernel
theorem dX3_from_93 : decode cX3_from 93 = .ok (.goto 15, 3) := by decide +kernel
theorem dX3_from_96 : decode cX3_from 96 = .ok (.aload_n 1, 1) := by decide +kernel
theorem dX3_from_97 : decode cX3_from 97 = .ok (.iload 6, 2) := by decide +kernel
theorem dX3_from_99 : decode cX3_from 99 = .ok (.invokestatic 58, 3) := by decide +kernel
theorem dX3_from_102 : decode cX3_from 102 = .ok (.ifCond .eq 6, 3) := by decide +kernel
theorem dX3_from_105 : decode cX3_from 105 = .ok (.iinc 4 1, 3) := by decide +kernel
theorem dX3_from_108 : decode cX3_from 108 = .ok (.iinc 6 1, 3) := by decide +kernel
theorem dX3_from_111 : decode cX3_from 111 = .ok (.goto (-55), 3) := by decide +kernel
theorem dX3_from_114 : decode cX3_from 114 = .ok (.new 10, 3) := by decide +kernel
theorem dX3_from_117 : decode cX3_from 117 = .ok (.dup, 1) := by decide +kernel
theorem dX3_from_118 : decode cX3_from 118 = .ok (.aload_n 1, 1) := by decide +kernel
theorem dX3_from_119 : decode cX3_from 119 = .ok (.iload 4, 2) := by decide +kernel
theorem dX3_from_121 : decode cX3_from 121 = .ok (.aload_n 1, 1) := by decide +kernel
theorem dX3_from_122 : decode cX3_from 122 = .ok (.invokestatic 61, 3) := by decide +kernel
theorem dX3_from_125 : decode cX3_from 125 = .ok (.iload 5, 2) := by decide +kernel
theorem dX3_from_127 : decode cX3_from 127 = .ok (.aload_n 3, 1) := by decide +kernel
theorem dX3_from_128 : decode cX3_from 128 = .ok (.invokespecial 65, 3) := by decide +kernel
theorem dX3_from_131 : decode cX3_from 131 = .ok (.areturn, 1) := by decide +kernel
theorem dX4_init_0 : decode cX4_init 0 = .ok (.aload_n 0, 1) := by decide +kernel
theorem dX4_init_1 : decode cX4_init 1 = .ok (.invokespecial 1, 3) := by decide +kernel
theorem dX4_init_4 : decode cX4_init 4 = .ok (.aload_n 0, 1) := by decide +kernel
theorem dX4_init_5 : decode cX4_init 5 = .ok (.aload_n 1, 1) := by decide +kernel
theorem dX4_init_6 : decode cX4_init 6 = .ok (.putfield 7, 3) := by decide +kernel
theorem dX4_init_9 : decode cX4_init 9 = .ok (.aload_n 0, 1) := by decide +kernel
theorem dX4_init_10 : decode cX4_init 10 = .ok (.aload_n 1, 1) := by decide +kernel
theorem dX4_init_11 : decode cX4_init 11 = .ok (.invokevirtual 13, 3) := by decide +kernel
theorem dX4_init_14 : decode cX4_init 14 = .ok (.iconst 1, 1) := by decide +kernel
theorem dX4_init_15 : decode cX4_init 15 = .ok (.iadd, 1) := by decide +kernel
theorem dX4_init_16 : decode cX4_init 16 = .ok (.newarray .boolean, 2) := by decide +kernel
theorem dX4_init_18 : decode cX4_init 18 = .ok (.putfield 19, 3) := by decide +kernel
theorem dX4_init_21 : decode cX4_init 21 = .ok (.aload_n 0, 1) := by decide +kernel
theorem dX4_init_22 : decode cX4_init 22 = .ok (.iconst 0, 1) := by decide +kernel
theorem dX4_init_23 : decode cX4_init 23 = .ok (.putfield 23, 3) := by decide +kernel
theorem dX4_init_26 : decode cX4_init 26 = .ok (.return_, 1) := by decide +kernel
theorem dX4_read_0 : decode cX4_read 0 = .ok (.iconst 0, 1) := by decide +kernel
theorem dX4_read_1 : decode cX4_read 1 = .ok (.istore_n 1, 1) := by decide +kernel
theorem dX4_read_2 : decode cX4_read 2 = .ok (.iload_n 1, 1) := by decide +kernel
theorem dX4_read_3 : decode cX4_read 3 = .ok (.aload_n 0, 1) := by decide +kernel
theorem dX4_read_4 : decode cX4_read 4 = .ok (.getfield 7, 3) := by decide +kernel
theorem dX4_read_7 : decode cX4_read 7 = .ok (.invokevirtual 13, 3) := by decide +kernel
theorem dX4_read_10 : decode cX4_read 10 = .ok (.if_icmp .ge 19, 3) := by decide +kernel
theorem dX4_read_13 : decode cX4_read 13 = .ok (.aload_n 0, 1) := by decide +kernel
theorem dX4_read_14 : decode cX4_read 14 = .ok (.iload_n 1, 1) := by decide +kernel
theorem dX4_read_15 : decode cX4_read 15 = .ok (.invokevirtual 27, 3) := by decide +kernel
theorem dX4_read_18 : decode cX4_read 18 = .ok (.ifCond .ne 5, 3) := by decide +kernel
theorem dX4_read_21 : decode cX4_read 21 = .ok (.iload_n 1, 1) := by decide +kernel
theorem dX4_read_22 : decode cX4_read 22 = .ok (.ireturn, 1) := by decide +kernel
theorem dX4_read_23 : decode cX4_read 23 = .ok (.iinc 1 1, 3) := by decide +kernel
theorem dX4_read_26 : decode cX4_read 26 = .ok (.goto (-24), 3) := by decide +kernel
theorem dX4_read_29 : decode cX4_read 29 = .ok (.aload_n 0, 1) := by decide +kernel
theorem dX4_read_30 : decode cX4_read 30 = .ok (.getfield 23, 3) := by decide +kernel
theorem dX4_read_33 : decode cX4_read 33 = .ok (.iconst 4, 1) := by decide +kernel
theorem dX4_read_34 : decode cX4_read 34 = .ok (.if_icmp .ne 14, 3) := by decide +kernel
theorem dX4_read_37 : decode cX4_read 37 = .ok (.aload_n 0, 1) := by decide +kernel
theorem dX4_read_38 : decode cX4_read 38 = .ok (.getfield 31, 3) := by decide +kernel
theorem dX4_read_41 : decode cX4_read 41 = .ok (.ifCond .ne 7, 3) := by decide +kernel
theorem dX4_read_44 : decode cX4_read 44 = .ok (.iconst (-1), 1) := by decide +kernel
theorem dX4_read_45 : decode cX4_read 45 = .ok (.goto 10, 3) := by decide +kernel
theorem dX4_read_48 : decode cX4_read 48 = .ok (.aload_n 0, 1) := by decide +kernel
theorem dX4_read_49 : decode cX4_read 49 = .ok (.getfield 7, 3) := by decide +kernel
theorem dX4_read_52 : decode cX4_read 52 = .ok (.invokevirtual 13, 3) := by decide +kernel
theorem dX4_read_55 : decode cX4_read 55 = .ok (.ireturn, 1) := by decide +kernel
theorem dX4_takes_0 : decode cX4_takes 0 = .ok (.aload_n 0, 1) := by decide +kernel
theorem dX4_takes_1 : decode cX4_takes 1 = .ok (.getfield 7, 3) := by decide +kernel
theorem dX4_takes_4 : decode cX4_takes 4 = .ok (.iload_n 1, 1) := by decide +kernel
theorem dX4_takes_5 : decode cX4_takes 5 = .ok (.invokevirtual 34, 3) := by decide +kernel
theorem dX4_takes_8 : decode cX4_takes 8 = .ok (.istore_n 2, 1) := by decide +kernel
theorem dX4_takes_9 : decode cX4_takes 9 = .ok (.aload_n 0, 1) := by decide +kernel
theorem dX4_takes_10 : decode cX4_takes 10 = .ok (.getfield 23, 3) := by decide +kernel
theorem dX4_takes_13 : decode cX4_takes 13 = .ok (.tableswitch 89 0 3 #[31, 38, 55, 72], 31) := by decide +kernel
theorem dX4_takes_44 : decode cX4_takes 44 = .ok (.aload_n 0, 1) := by decide +kernel
theorem dX4_takes_45 : decode cX4_takes 45 = .ok (.iload_n 1, 1) := by decide +kernel
theorem dX4_takes_46 : decode cX4_takes 46 = .ok (.iload_n 2, 1) := by decide +kernel
theorem dX4_takes_47 : decode cX4_takes 47 = .ok (.invokevirtual 38, 3) := by decide +kernel
theorem dX4_takes_50 : decode cX4_takes 50 = .ok (.ireturn, 1) := by decide +kernel
theorem dX4_takes_51 : decode cX4_takes 51 = .ok (.aload_n 0, 1) := by decide +kernel
theorem dX4_takes_52 : decode cX4_takes 52 = .ok (.iconst 2, 1) := by decide +kernel
theorem dX4_takes_53 : decode cX4_takes 53 = .ok (.putfield 23, 3) := by decide +kernel
theorem dX4_takes_56 : decode cX4_takes 56 = .ok (.iload_n 2, 1) := by decide +kernel
theorem dX4_takes_57 : decode cX4_takes 57 = .ok (.bipush 111, 2) := by decide +kernel
theorem dX4_takes_59 : decode cX4_takes 59 = .ok (.if_icmp .ne 7, 3) := by decide +kernel
theorem dX4_takes_62 : decode cX4_takes 62 = .ok (.iconst 1, 1) := by decide +kernel
theorem dX4_takes_63 : decode cX4_takes 63 = .ok (.goto 4, 3) := by decide +kernel
theorem dX4_takes_66 : decode cX4_takes 66 = .ok (.iconst 0, 1) := by decide +kernel
theorem dX4_takes_67 : decode cX4_takes 67 = .ok (.ireturn, 1) := by decide +kernel
theorem dX4_takes_68 : decode cX4_takes 68 = .ok (.aload_n 0, 1) := by decide +kernel
theorem dX4_takes_69 : decode cX4_takes 69 = .ok (.iconst 3, 1) := by decide +kernel
theorem dX4_takes_70 : decode cX4_takes 70 = .ok (.putfield 23, 3) := by decide +kernel
theorem dX4_takes_73 : decode cX4_takes 73 = .ok (.iload_n 2, 1) := by decide +kernel
theorem dX4_takes_74 : decode cX4_takes 74 = .ok (.bipush 102, 2) := by decide +kernel
theorem dX4_takes_76 : decode cX4_takes 76 = .ok (.if_icmp .ne 7, 3) := by decide +kernel
theorem dX4_takes_79 : decode cX4_takes 79 = .ok (.iconst 1, 1) := by decide +kernel
theorem dX4_takes_80 : decode cX4_takes 80 = .ok (.goto 4, 3) := by decide +kernel
theorem dX4_takes_83 : decode cX4_takes 83 = .ok (.iconst 0, 1) := by decide +kernel
theorem dX4_takes_84 : decode cX4_takes 84 = .ok (.ireturn, 1) := by decide +kernel
theorem dX4_takes_85 : decode cX4_takes 85 = .ok (.aload_n 0, 1) := by decide +kernel
theorem dX4_takes_86 : decode cX4_takes 86 = .ok (.iconst 1, 1) := by decide +kernel
theorem dX4_takes_87 : decode cX4_takes 87 = .ok (.invokevirtual 42, 3) := by decide +kernel
theorem dX4_takes_90 : decode cX4_takes 90 = .ok (.iload_n 2, 1) := by decide +kernel
theorem dX4_takes_91 : decode cX4_takes 91 = .ok (.bipush 40, 2) := by decide +kernel
theorem dX4_takes_93 : decode cX4_takes 93 = .ok (.if_icmp .ne 7, 3) := by decide +kernel
theorem dX4_takes_96 : decode cX4_takes 96 = .ok (.iconst 1, 1) := by decide +kernel
theorem dX4_takes_97 : decode cX4_takes 97 = .ok (.goto 4, 3) := by decide +kernel
theorem dX4_takes_100 : decode cX4_takes 100 = .ok (.iconst 0, 1) := by decide +kernel
theorem dX4_takes_101 : decode cX4_takes 101 = .ok (.ireturn, 1) := by decide +kernel
theorem dX4_takes_102 : decode cX4_takes 102 = .ok (.aload_n 0, 1) := by decide +kernel
theorem dX4_takes_103 : decode cX4_takes 103 = .ok (.iload_n 2, 1) := by decide +kernel
theorem dX4_takes_104 : decode cX4_takes 104 = .ok (.invokevirtual 46, 3) := by decide +kernel
theorem dX4_takes_107 : decode cX4_takes 107 = .ok (.ireturn, 1) := by decide +kernel
theorem dX4_takesBeginOfPart_0 : decode cX4_takesBeginOfPart 0 = .ok (.iload_n 2, 1) := by decide +kernel
theorem dX4_takesBeginOfPart_1 : decode cX4_takesBeginOfPart 1 = .ok (.bipush 40, 2) := by decide +kernel
theorem dX4_takesBeginOfPart_3 : decode cX4_takesBeginOfPart 3 = .ok (.if_icmp .ne 10, 3) := by decide +kernel
theorem dX4_takesBeginOfPart_6 : decode cX4_takesBeginOfPart 6 = .ok (.aload_n 0, 1) := by decide +kernel
theorem dX4_takesBeginOfPart_7 : decode cX4_takesBeginOfPart 7 = .ok (.iconst 0, 1) := by decide +kernel
theorem dX4_takesBeginOfPart_8 : decode cX4_takesBeginOfPart 8 = .ok (.invokevirtual 42, 3) := by decide +kernel
theorem dX4_takesBeginOfPart_11 : decode cX4_takesBeginOfPart 11 = .ok (.iconst 1, 1) := by decide +kernel
theorem dX4_takesBeginOfPart_12 : decode cX4_takesBeginOfPart 12 = .ok (.ireturn, 1) := by decide +kernel
theorem dX4_takesBeginOfPart_13 : decode cX4_takesBeginOfPart 13 = .ok (.iload_n 2, 1) := by decide +kernel
theorem dX4_takesBeginOfPart_14 : decode cX4_takesBeginOfPart 14 = .ok (.bipush 56, 2) := by decide +kernel
theorem dX4_takesBeginOfPart_16 : decode cX4_takesBeginOfPart 16 = .ok (.if_icmp .eq 20, 3) := by decide +kernel
theorem dX4_takesBeginOfPart_19 : decode cX4_takesBeginOfPart 19 = .ok (.iload_n 2, 1) := by decide +kernel
theorem dX4_takesBeginOfPart_20 : decode cX4_takesBeginOfPart 20 = .ok (.bipush 57, 2) := by decide +kernel
theorem dX4_takesBeginOfPart_22 : decode cX4_takesBeginOfPart 22 = .ok (.if_icmp .eq 14, 3) := by decide +kernel
theorem dX4_takesBeginOfPart_25 : decode cX4_takesBeginOfPart 25 = .ok (.aload_n 0, 1) := by decide +kernel
theorem dX4_takesBeginOfPart_26 : decode cX4_takesBeginOfPart 26 = .ok (.getfield 7, 3) := by decide +kernel
theorem dX4_takesBeginOfPart_29 : decode cX4_takesBeginOfPart 29 = .ok (.iload_n 1, 1) := by decide +kernel
theorem dX4_takesBeginOfPart_30 : decode cX4_takesBeginOfPart 30 = .ok (.invokestatic 50, 3) := by decide +kernel
theorem dX4_takesBeginOfPart_33 : decode cX4_takesBeginOfPart 33 = .ok (.ifCond .eq 10, 3) := by decide +kernel
theorem dX4_takesBeginOfPart_36 : decode cX4_takesBeginOfPart 36 = .ok (.aload_n 0, 1) := by decide +kernel
theorem dX4_takesBeginOfPart_37 : decode cX4_takesBeginOfPart 37 = .ok (.iconst 1, 1) := by decide +kernel
theorem dX4_takesBeginOfPart_38 : decode cX4_takesBeginOfPart 38 = .ok (.putfield 23, 3) := by decide +kernel
theorem dX4_takesBeginOfPart_41 : decode cX4_takesBeginOfPart 41 = .ok (.iconst 1, 1) := by decide +kernel
theorem dX4_takesBeginOfPart_42 : decode cX4_takesBeginOfPart 42 = .ok (.ireturn, 1) := by decide +kernel
theorem dX4_takesBeginOfPart_43 : decode cX4_takesBeginOfPart 43 = .ok (.aload_n 0, 1) := by decide +kernel
theorem dX4_takesBeginOfPart_44 : decode cX4_takesBeginOfPart 44 = .ok (.iconst 4, 1) := by decide +kernel
theorem dX4_takesBeginOfPart_45 : decode cX4_takesBeginOfPart 45 = .ok (.putfield 23, 3) := by decide +kernel
theorem dX4_takesBeginOfPart_48 : decode cX4_takesBeginOfPart 48 = .ok (.aload_n 0, 1) := by decide +kernel
theorem dX4_takesBeginOfPart_49 : decode cX4_takesBeginOfPart 49 = .ok (.getfield 7, 3) := by decide +kernel
theorem dX4_takesBeginOfPart_52 : decode cX4_takesBeginOfPart 52 = .ok (.iload_n 1, 1) := by decide +kernel
theorem dX4_takesBeginOfPart_53 : decode cX4_takesBeginOfPart 53 = .ok (.invokestatic 56, 3) := by decide +kernel
theorem dX4_takesBeginOfPart_56 : decode cX4_takesBeginOfPart 56 = .ok (.ireturn, 1) := by decide +kernel
theorem dX4_takesBehindPart_0 : decode cX4_takesBehindPart 0 = .ok (.iload_n 1, 1) := by decide +kernel
theorem dX4_takesBehindPart_1 : decode cX4_takesBehindPart 1 = .ok (.bipush 41, 2) := by decide +kernel
theorem dX4_takesBehindPart_3 : decode cX4_takesBehindPart 3 = .ok (.if_icmp .ne 22, 3) := by decide +kernel
theorem dX4_takesBehindPart_6 : decode cX4_takesBehindPart 6 = .ok (.aload_n 0, 1) := by decide +kernel
theorem dX4_takesBehindPart_7 : decode cX4_takesBehindPart 7 = .ok (.getfield 31, 3) := by decide +kernel
theorem dX4_takesBehindPart_10 : decode cX4_takesBehindPart 10 = .ok (.ifCond .le 15, 3) := by decide +kernel
theorem dX4_takesBehindPart_13 : decode cX4_takesBehindPart 13 = .ok (.aload_n 0, 1) := by decide +kernel
theorem dX4_takesBehindPart_14 : decode cX4_takesBehindPart 14 = .ok (.dup, 1) := by decide +kernel
theorem dX4_takesBehindPart_15 : decode cX4_takesBehindPart 15 = .ok (.getfield 31, 3) := by decide +kernel
theorem dX4_takesBehindPart_18 : decode cX4_takesBehindPart 18 = .ok (.iconst 1, 1) := by decide +kernel
theorem dX4_takesBehindPart_19 : decode cX4_takesBehindPart 19 = .ok (.isub, 1) := by decide +kernel
theorem dX4_takesBehindPart_20 : decode cX4_takesBehindPart 20 = .ok (.putfield 31, 3) := by decide +kernel
theorem dX4_takesBehindPart_23 : decode cX4_takesBehindPart 23 = .ok (.iconst 1, 1) := by decide +kernel
theorem dX4_takesBehindPart_24 : decode cX4_takesBehindPart 24 = .ok (.ireturn, 1) := by decide +kernel
theorem dX4_takesBehindPart_25 : decode cX4_takesBehindPart 25 = .ok (.aload_n 0, 1) := by decide +kernel
theorem dX4_takesBehindPart_26 : decode cX4_takesBehindPart 26 = .ok (.iconst 0, 1) := by decide +kernel
theorem dX4_takesBehindPart_27 : decode cX4_takesBehindPart 27 = .ok (.putfield 23, 3) := by decide +kernel
theorem dX4_takesBehindPart_30 : decode cX4_takesBehindPart 30 = .ok (.iload_n 1, 1) := by decide +kernel
theorem dX4_takesBehindPart_31 : decode cX4_takesBehindPart 31 = .ok (.bipush 38, 2) := by decide +kernel
theorem dX4_takesBehindPart_33 : decode cX4_takesBehindPart 33 = .ok (.if_icmp .eq 27, 3) := by decide +kernel
theorem dX4_takesBehindPart_36 : decode cX4_takesBehindPart 36 = .ok (.iload_n 1, 1) := by decide +kernel
theorem dX4_takesBehindPart_37 : decode cX4_takesBehindPart 37 = .ok (.bipush 124, 2) := by decide +kernel
theorem dX4_takesBehindPart_39 : decode cX4_takesBehindPart 39 = .ok (.if_icmp .eq 21, 3) := by decide +kernel
theorem dX4_takesBehindPart_42 : decode cX4_takesBehindPart 42 = .ok (.iload_n 1, 1) := by decide +kernel
theorem dX4_takesBehindPart_43 : decode cX4_takesBehindPart 43 = .ok (.bipush 44, 2) := by decide +kernel
theorem dX4_takesBehindPart_45 : decode cX4_takesBehindPart 45 = .ok (.if_icmp .ne 19, 3) := by decide +kernel
theorem dX4_takesBehindPart_48 : decode cX4_takesBehindPart 48 = .ok (.aload_n 0, 1) := by decide +kernel
theorem dX4_takesBehindPart_49 : decode cX4_takesBehindPart 49 = .ok (.getfield 19, 3) := by decide +kernel
theorem dX4_takesBehindPart_52 : decode cX4_takesBehindPart 52 = .ok (.aload_n 0, 1) := by decide +kernel
theorem dX4_takesBehindPart_53 : decode cX4_takesBehindPart 53 = .ok (.getfield 31, 3) := by decide +kernel
theorem dX4_takesBehindPart_56 : decode cX4_takesBehindPart 56 = .ok (.baload, 1) := by decide +kernel
theorem dX4_takesBehindPart_57 : decode cX4_takesBehindPart 57 = .ok (.ifCond .eq 7, 3) := by decide +kernel
theorem dX4_takesBehindPart_60 : decode cX4_takesBehindPart 60 = .ok (.iconst 1, 1) := by decide +kernel
theorem dX4_takesBehindPart_61 : decode cX4_takesBehindPart 61 = .ok (.goto 4, 3) := by decide +kernel
theorem dX4_takesBehindPart_64 : decode cX4_takesBehindPart 64 = .ok (.iconst 0, 1) := by decide +kernel
theorem dX4_takesBehindPart_65 : decode cX4_takesBehindPart 65 = .ok (.ireturn, 1) := by decide +kernel
theorem dX4_begin_0 : decode cX4_begin 0 = .ok (.aload_n 0, 1) := by decide +kernel
theorem dX4_begin_1 : decode cX4_begin 1 = .ok (.getfield 31, 3) := by decide +kernel
theorem dX4_begin_4 : decode cX4_begin 4 = .ok (.iconst 1, 1) := by decide +kernel
theorem dX4_begin_5 : decode cX4_begin 5 = .ok (.iadd, 1) := by decide +kernel
theorem dX4_begin_6 : decode cX4_begin 6 = .ok (.aload_n 0, 1) := by decide +kernel
theorem dX4_begin_7 : decode cX4_begin 7 = .ok (.getfield 19, 3) := by decide +kernel
theorem dX4_begin_10 : decode cX4_begin 10 = .ok (.arraylength, 1) := by decide +kernel
theorem dX4_begin_11 : decode cX4_begin 11 = .ok (.if_icmp .ge 23, 3) := by decide +kernel
theorem dX4_begin_14 : decode cX4_begin 14 = .ok (.aload_n 0, 1) := by decide +kernel
theorem dX4_begin_15 : decode cX4_begin 15 = .ok (.dup, 1) := by decide +kernel
theorem dX4_begin_16 : decode cX4_begin 16 = .ok (.getfield 31, 3) := by decide +kernel
theorem dX4_begin_19 : decode cX4_begin 19 = .ok (.iconst 1, 1) := by decide +kernel
theorem dX4_begin_20 : decode cX4_begin 20 = .ok (.iadd, 1) := by decide +kernel
theorem dX4_begin_21 : decode cX4_begin 21 = .ok (.putfield 31, 3) := by decide +kernel
theorem dX4_begin_24 : decode cX4_begin 24 = .ok (.aload_n 0, 1) := by decide +kernel
theorem dX4_begin_25 : decode cX4_begin 25 = .ok (.getfield 19, 3) := by decide +kernel
theorem dX4_begin_28 : decode cX4_begin 28 = .ok (.aload_n 0, 1) := by decide +kernel
theorem dX4_begin_29 : decode cX4_begin 29 = .ok (.getfield 31, 3) := by decide +kernel
theorem dX4_begin_32 : decode cX4_begin 32 = .ok (.iload_n 1, 1) := by decide +kernel
theorem dX4_begin_33 : decode cX4_begin 33 = .ok (.bastore, 1) := by decide +kernel
theorem dX4_begin_34 : decode cX4_begin 34 = .ok (.aload_n 0, 1) := by decide +kernel
theorem dX4_begin_35 : decode cX4_begin 35 = .ok (.iconst 0, 1) := by decide +kernel
theorem dX4_begin_36 : decode cX4_begin 36 = .ok (.putfield 23, 3) := by decide +kernel
theorem dX4_begin_39 : decode cX4_begin 39 = .ok (.return_, 1) := by decide +kernel
theorem dX5_isSignAt_0 : decode cX5_isSignAt 0 = .ok (.iload_n 1, 1) := by decide +kernel
theorem dX5_isSignAt_1 : decode cX5_isSignAt 1 = .ok (.ifCond .lt 24, 3) := by decide +kernel
theorem dX5_isSignAt_4 : decode cX5_isSignAt 4 = .ok (.iload_n 1, 1) := by decide +kernel
theorem dX5_isSignAt_5 : decode cX5_isSignAt 5 = .ok (.aload_n 0, 1) := by decide +kernel
theorem dX5_isSignAt_6 : decode cX5_isSignAt 6 = .ok (.invokevirtual 7, 3) := by decide +kernel
theorem dX5_isSignAt_9 : decode cX5_isSignAt 9 = .ok (.if_icmp .ge 16, 3) := by decide +kernel
theorem dX5_isSignAt_12 : decode cX5_isSignAt 12 = .ok (.aload_n 0, 1) := by decide +kernel
theorem dX5_isSignAt_13 : decode cX5_isSignAt 13 = .ok (.iload_n 1, 1) := by decide +kernel
theorem dX5_isSignAt_14 : decode cX5_isSignAt 14 = .ok (.invokevirtual 13, 3) := by decide +kernel
theorem dX5_isSignAt_17 : decode cX5_isSignAt 17 = .ok (.iload_n 2, 1) := by decide +kernel
theorem dX5_isSignAt_18 : decode cX5_isSignAt 18 = .ok (.if_icmp .ne 7, 3) := by decide +kernel
theorem dX5_isSignAt_21 : decode cX5_isSignAt 21 = .ok (.iconst 1, 1) := by decide +kernel
theorem dX5_isSignAt_22 : decode cX5_isSignAt 22 = .ok (.goto 4, 3) := by decide +kernel
theorem dX5_isSignAt_25 : decode cX5_isSignAt 25 = .ok (.iconst 0, 1) := by decide +kernel
theorem dX5_isSignAt_26 : decode cX5_isSignAt 26 = .ok (.ireturn, 1) := by decide +kernel
theorem dX5_isCount_0 : decode cX5_isCount 0 = .ok (.aload_n 0, 1) := by decide +kernel
theorem dX5_isCount_1 : decode cX5_isCount 1 = .ok (.iload_n 1, 1) := by decide +kernel
theorem dX5_isCount_2 : decode cX5_isCount 2 = .ok (.invokevirtual 13, 3) := by decide +kernel
theorem dX5_isCount_5 : decode cX5_isCount 5 = .ok (.bipush 49, 2) := by decide +kernel
theorem dX5_isCount_7 : decode cX5_isCount 7 = .ok (.if_icmp .lt 29, 3) := by decide +kernel
theorem dX5_isCount_10 : decode cX5_isCount 10 = .ok (.aload_n 0, 1) := by decide +kernel
theorem dX5_isCount_11 : decode cX5_isCount 11 = .ok (.iload_n 1, 1) := by decide +kernel
theorem dX5_isCount_12 : decode cX5_isCount 12 = .ok (.invokevirtual 13, 3) := by decide +kernel
theorem dX5_isCount_15 : decode cX5_isCount 15 = .ok (.bipush 57, 2) := by decide +kernel
theorem dX5_isCount_17 : decode cX5_isCount 17 = .ok (.if_icmp .gt 19, 3) := by decide +kernel
theorem dX5_isCount_20 : decode cX5_isCount 20 = .ok (.aload_n 0, 1) := by decide +kernel
theorem dX5_isCount_21 : decode cX5_isCount 21 = .ok (.iload_n 1, 1) := by decide +kernel
theorem dX5_isCount_22 : decode cX5_isCount 22 = .ok (.iconst 1, 1) := by decide +kernel
theorem dX5_isCount_23 : decode cX5_isCount 23 = .ok (.iadd, 1) := by decide +kernel
theorem dX5_isCount_24 : decode cX5_isCount 24 = .ok (.bipush 111, 2) := by decide +kernel
theorem dX5_isCount_26 : decode cX5_isCount 26 = .ok (.invokestatic 17, 3) := by decide +kernel
theorem dX5_isCount_29 : decode cX5_isCount 29 = .ok (.ifCond .eq 7, 3) := by decide +kernel
theorem dX5_isCount_32 : decode cX5_isCount 32 = .ok (.iconst 1, 1) := by decide +kernel
theorem dX5_isCount_33 : decode cX5_isCount 33 = .ok (.goto 4, 3) := by decide +kernel
theorem dX5_isCount_36 : decode cX5_isCount 36 = .ok (.iconst 0, 1) := by decide +kernel
theorem dX5_isCount_37 : decode cX5_isCount 37 = .ok (.ireturn, 1) := by decide +kernel
theorem dX5_isMember_0 : decode cX5_isMember 0 = .ok (.aload_n 0, 1) := by decide +kernel
theorem dX5_isMember_1 : decode cX5_isMember 1 = .ok (.iload_n 1, 1) := by decide +kernel
theorem dX5_isMember_2 : decode cX5_isMember 2 = .ok (.invokevirtual 13, 3) := by decide +kernel
theorem dX5_isMember_5 : decode cX5_isMember 5 = .ok (.bipush 48, 2) := by decide +kernel
theorem dX5_isMember_7 : decode cX5_isMember 7 = .ok (.if_icmp .lt 25, 3) := by decide +kernel
theorem dX5_isMember_10 : decode cX5_isMember 10 = .ok (.aload_n 0, 1) := by decide +kernel
theorem dX5_isMember_11 : decode cX5_isMember 11 = .ok (.iload_n 1, 1) := by decide +kernel
theorem dX5_isMember_12 : decode cX5_isMember 12 = .ok (.invokevirtual 13, 3) := by decide +kernel
theorem dX5_isMember_15 : decode cX5_isMember 15 = .ok (.bipush 55, 2) := by decide +kernel
theorem dX5_isMember_17 : decode cX5_isMember 17 = .ok (.if_icmp .gt 15, 3) := by decide +kernel
theorem dX5_isMember_20 : decode cX5_isMember 20 = .ok (.aload_n 0, 1) := by decide +kernel
theorem dX5_isMember_21 : decode cX5_isMember 21 = .ok (.iload_n 1, 1) := by decide +kernel
theorem dX5_isMember_22 : decode cX5_isMember 22 = .ok (.invokestatic 23, 3) := by decide +kernel
theorem dX5_isMember_25 : decode cX5_isMember 25 = .ok (.ifCond .ne 7, 3) := by decide +kernel
theorem dX5_isMember_28 : decode cX5_isMember 28 = .ok (.iconst 1, 1) := by decide +kernel
theorem dX5_isMember_29 : decode cX5_isMember 29 = .ok (.goto 4, 3) := by decide +kernel
theorem dX5_isMember_32 : decode cX5_isMember 32 = .ok (.iconst 0, 1) := by decide +kernel
theorem dX5_isMember_33 : decode cX5_isMember 33 = .ok (.ireturn, 1) := by decide +kernel
theorem dX5_withoutNeedlessParentheses_0 : decode cX5_withoutNeedlessParentheses 0 = .ok (.aload_n 0, 1) := by decide +kernel
theorem dX5_withoutNeedlessParentheses_1 : decode cX5_withoutNeedlessParentheses 1 = .ok (.invokevirtual 7, 3) := by decide +kernel
theorem dX5_withoutNeedlessParentheses_4 : decode cX5_withoutNeedlessParentheses 4 = .ok (.newarray .boolean, 2) := by decide +kernel
theorem dX5_withoutNeedlessParentheses_6 : decode cX5_withoutNeedlessParentheses 6 = .ok (.astore_n 1, 1) := by decide +kernel
theorem dX5_withoutNeedlessParentheses_7 : decode cX5_withoutNeedlessParentheses 7 = .ok (.aload_n 0, 1) := by decide +kernel
theorem dX5_withoutNeedlessParentheses_8 : decode cX5_withoutNeedlessParentheses 8 = .ok (.invokevirtual 7, 3) := by decide +kernel
theorem dX5_withoutNeedlessParentheses_11 : decode cX5_withoutNeedlessParentheses 11 = .ok (.iconst 1, 1) := by decide +kernel
theorem dX5_withoutNeedlessParentheses_12 : decode cX5_withoutNeedlessParentheses 12 = .ok (.iadd, 1) := by decide +kernel
theorem dX5_withoutNeedlessParentheses_13 : decode cX5_withoutNeedlessParentheses 13 = .ok (.newarray .int, 2) := by decide +kernel
theorem dX5_withoutNeedlessParentheses_15 : decode cX5_withoutNeedlessParentheses 15 = .ok (.astore_n 2, 1) := by decide +kernel
theorem dX5_withoutNeedlessParentheses_16 : decode cX5_withoutNeedlessParentheses 16 = .ok (.aload_n 0, 1) := by decide +kernel
theorem dX5_withoutNeedlessParentheses_17 : decode cX5_withoutNeedlessParentheses 17 = .ok (.invokevirtual 7, 3) := by decide +kernel
theorem dX5_withoutNeedlessParentheses_20 : decode cX5_withoutNeedlessParentheses 20 = .ok (.iconst 1, 1) := by decide +kernel
theorem dX5_withoutNeedlessParentheses_21 : decode cX5_withoutNeedlessParentheses 21 = .ok (.iadd, 1) := by decide +kernel
theorem dX5_withoutNeedlessParentheses_22 : decode cX5_withoutNeedlessParentheses 22 = .ok (.newarray .boolean, 2) := by decide +kernel
theorem dX5_withoutNeedlessParentheses_24 : decode cX5_withoutNeedlessParentheses 24 = .ok (.astore_n 3, 1) := by decide +kernel
theorem dX5_withoutNeedlessParentheses_25 : decode cX5_withoutNeedlessParentheses 25 = .ok (.iconst 0, 1) := by decide +kernel
theorem dX5_withoutNeedlessParentheses_26 : decode cX5_withoutNeedlessParentheses 26 = .ok (.istore 4, 2) := by decide +kernel
theorem dX5_withoutNeedlessParentheses_28 : decode cX5_withoutNeedlessParentheses 28 = .ok (.iconst 0, 1) := by decide +kernel
theorem dX5_withoutNeedlessParentheses_29 : decode cX5_withoutNeedlessParentheses 29 = .ok (.istore 5, 2) := by decide +kernel
theorem dX5_withoutNeedlessParentheses_31 : decode cX5_withoutNeedlessParentheses 31 = .ok (.iload 5, 2) := by decide +kernel
theorem dX5_withoutNeedlessParentheses_33 : decode cX5_withoutNeedlessParentheses 33 = .ok (.aload_n 0, 1) := by decide +kernel
theorem dX5_withoutNeedlessParentheses_34 : decode cX5_withoutNeedlessParentheses 34 = .ok (.invokevirtual 7, 3) := by decide +kernel
theorem dX5_withoutNeedlessParentheses_37 : decode cX5_withoutNeedlessParentheses 37 = .ok (.if_icmp .ge 170, 3) := by decide +kernel
theorem dX5_withoutNeedlessParentheses_40 : decode cX5_withoutNeedlessParentheses 40 = .ok (.aload_n 0, 1) := by decide +kernel
theorem dX5_withoutNeedlessParentheses_41 : decode cX5_withoutNeedlessParentheses 41 = .ok (.iload 5, 2) := by decide +kernel
theorem dX5_withoutNeedlessParentheses_43 : decode cX5_withoutNeedlessParentheses 43 = .ok (.invokevirtual 13, 3) := by decide +kernel
theorem dX5_withoutNeedlessParentheses_46 : decode cX5_withoutNeedlessParentheses 46 = .ok (.istore 6, 2) := by decide +kernel
theorem dX5_withoutNeedlessParentheses_48 : decode cX5_withoutNeedlessParentheses 48 = .ok (.iload 6, 2) := by decide +kernel
theorem dX5_withoutNeedlessParentheses_50 : decode cX5_withoutNeedlessParentheses 50 = .ok (.bipush 40, 2) := by decide +kernel
theorem dX5_withoutNeedlessParentheses_52 : decode cX5_withoutNeedlessParentheses 52 = .ok (.if_icmp .ne 20, 3) := by decide +kernel
theorem dX5_withoutNeedlessParentheses_55 : decode cX5_withoutNeedlessParentheses 55 = .ok (.iinc 4 1, 3) := by decide +kernel
theorem dX5_withoutNeedlessParentheses_58 : decode cX5_withoutNeedlessParentheses 58 = .ok (.aload_n 2, 1) := by decide +kernel
theorem dX5_withoutNeedlessParentheses_59 : decode cX5_withoutNeedlessParentheses 59 = .ok (.iload 4, 2) := by decide +kernel
theorem dX5_withoutNeedlessParentheses_61 : decode cX5_withoutNeedlessParentheses 61 = .ok (.iload 5, 2) := by decide +kernel
theorem dX5_withoutNeedlessParentheses_63 : decode cX5_withoutNeedlessParentheses 63 = .ok (.iastore, 1) := by decide +kernel
theorem dX5_withoutNeedlessParentheses_64 : decode cX5_withoutNeedlessParentheses 64 = .ok (.aload_n 3, 1) := by decide +kernel
theorem dX5_withoutNeedlessParentheses_65 : decode cX5_withoutNeedlessParentheses 65 = .ok (.iload 4, 2) := by decide +kernel
theorem dX5_withoutNeedlessParentheses_67 : decode cX5_withoutNeedlessParentheses 67 = .ok (.iconst 0, 1) := by decide +kernel
theorem dX5_withoutNeedlessParentheses_68 : decode cX5_withoutNeedlessParentheses 68 = .ok (.bastore, 1) := by decide +kernel
theorem dX5_withoutNeedlessParentheses_69 : decode cX5_withoutNeedlessParentheses 69 = .ok (.goto 132, 3) := by decide +kernel
theorem dX5_withoutNeedlessParentheses_72 : decode cX5_withoutNeedlessParentheses 72 = .ok (.iload 6, 2) := by decide +kernel
theorem dX5_withoutNeedlessParentheses_74 : decode cX5_withoutNeedlessParentheses 74 = .ok (.bipush 124, 2) := by decide +kernel
theorem dX5_withoutNeedlessParentheses_76 : decode cX5_withoutNeedlessParentheses 76 = .ok (.if_icmp .ne 11, 3) := by decide +kernel
theorem dX5_withoutNeedlessParentheses_79 : decode cX5_withoutNeedlessParentheses 79 = .ok (.aload_n 3, 1) := by decide +kernel
theorem dX5_withoutNeedlessParentheses_80 : decode cX5_withoutNeedlessParentheses 80 = .ok (.iload 4, 2) := by decide +kernel
theorem dX5_withoutNeedlessParentheses_82 : decode cX5_withoutNeedlessParentheses 82 = .ok (.iconst 1, 1) := by decide +kernel
theorem dX5_withoutNeedlessParentheses_83 : decode cX5_withoutNeedlessParentheses 83 = .ok (.bastore, 1) := by decide +kernel
theorem dX5_withoutNeedlessParentheses_84 : decode cX5_withoutNeedlessParentheses 84 = .ok (.goto 117, 3) := by decide +kernel
theorem dX5_withoutNeedlessParentheses_87 : decode cX5_withoutNeedlessParentheses 87 = .ok (.iload 6, 2) := by decide +kernel
theorem dX5_withoutNeedlessParentheses_89 : decode cX5_withoutNeedlessParentheses 89 = .ok (.bipush 41, 2) := by decide +kernel
theorem dX5_withoutNeedlessParentheses_91 : decode cX5_withoutNeedlessParentheses 91 = .ok (.if_icmp .ne 110, 3) := by decide +kernel
theorem dX5_withoutNeedlessParentheses_94 : decode cX5_withoutNeedlessParentheses 94 = .ok (.iload 4, 2) := by decide +kernel
theorem dX5_withoutNeedlessParentheses_96 : decode cX5_withoutNeedlessParentheses 96 = .ok (.ifCond .le 105, 3) := by decide +kernel
theorem dX5_withoutNeedlessParentheses_99 : decode cX5_withoutNeedlessParentheses 99 = .ok (.aload_n 2, 1) := by decide +kernel
theorem dX5_withoutNeedlessParentheses_100 : decode cX5_withoutNeedlessParentheses 100 = .ok (.iload 4, 2) := by decide +kernel
theorem dX5_withoutNeedlessParentheses_102 : decode cX5_withoutNeedlessParentheses 102 = .ok (.iaload, 1) := by decide +kernel
theorem dX5_withoutNeedlessParentheses_103 : decode cX5_withoutNeedlessParentheses 103 = .ok (.istore 7, 2) := by decide +kernel
theorem dX5_withoutNeedlessParentheses_105 : decode cX5_withoutNeedlessParentheses 105 = .ok (.aload_n 3, 1) := by decide +kernel
theorem dX5_withoutNeedlessParentheses_106 : decode cX5_withoutNeedlessParentheses 106 = .ok (.iload 4, 2) := by decide +kernel
theorem dX5_withoutNeedlessParentheses_108 : decode cX5_withoutNeedlessParentheses 108 = .ok (.baload, 1) := by decide +kernel
theorem dX5_withoutNeedlessParentheses_109 : decode cX5_withoutNeedlessParentheses 109 = .ok (.istore 8, 2) := by decide +kernel
theorem dX5_withoutNeedlessParentheses_111 : decode cX5_withoutNeedlessParentheses 111 = .ok (.iinc 4 (-1), 3) := by decide +kernel
theorem dX5_withoutNeedlessParentheses_114 : decode cX5_withoutNeedlessParentheses 114 = .ok (.aload_n 0, 1) := by decide +kernel
theorem dX5_withoutNeedlessParentheses_115 : decode cX5_withoutNeedlessParentheses 115 = .ok (.iload 7, 2) := by decide +kernel
theorem dX5_withoutNeedlessParentheses_117 : decode cX5_withoutNeedlessParentheses 117 = .ok (.iconst 1, 1) := by decide +kernel
theorem dX5_withoutNeedlessParentheses_118 : decode cX5_withoutNeedlessParentheses 118 = .ok (.isub, 1) := by decide +kernel
theorem dX5_withoutNeedlessParentheses_119 : decode cX5_withoutNeedlessParentheses 119 = .ok (.bipush 38, 2) := by decide +kernel
theorem dX5_withoutNeedlessParentheses_121 : decode cX5_withoutNeedlessParentheses 121 = .ok (.invokestatic 17, 3) := by decide +kernel
theorem dX5_withoutNeedlessParentheses_124 : decode cX5_withoutNeedlessParentheses 124 = .ok (.ifCond .ne 16, 3) := by decide +kernel
theorem dX5_withoutNeedlessParentheses_127 : decode cX5_withoutNeedlessParentheses 127 = .ok (.aload_n 0, 1) := by decide +kernel
theorem dX5_withoutNeedlessParentheses_128 : decode cX5_withoutNeedlessParentheses 128 = .ok (.iload 5, 2) := by decide +kernel
theorem dX5_withoutNeedlessParentheses_130 : decode cX5_withoutNeedlessParentheses 130 = .ok (.iconst 1, 1) := by decide +kernel
theorem dX5_withoutNeedlessParentheses_131 : decode cX5_withoutNeedlessParentheses 131 = .ok (.iadd, 1) := by decide +kernel
theorem dX5_withoutNeedlessParentheses_132 : decode cX5_withoutNeedlessParentheses 132 = .ok (.bipush 38, 2) := by decide +kernel
theorem dX5_withoutNeedlessParentheses_134 : decode cX5_withoutNeedlessParentheses 134 = .ok (.invokestatic 17, 3) := by decide +kernel
theorem dX5_withoutNeedlessParentheses_137 : decode cX5_withoutNeedlessParentheses 137 = .ok (.ifCond .eq 7, 3) := by decide +kernel
theorem dX5_withoutNeedlessParentheses_140 : decode cX5_withoutNeedlessParentheses 140 = .ok (.iconst 1, 1) := by decide +kernel
theorem dX5_withoutNeedlessParentheses_141 : decode cX5_withoutNeedlessParentheses 141 = .ok (.goto 4, 3) := by decide +kernel
theorem dX5_withoutNeedlessParentheses_144 : decode cX5_withoutNeedlessParentheses 144 = .ok (.iconst 0, 1) := by decide +kernel
theorem dX5_withoutNeedlessParentheses_145 : decode cX5_withoutNeedlessParentheses 145 = .ok (.istore 9, 2) := by decide +kernel
theorem dX5_withoutNeedlessParentheses_147 : decode cX5_withoutNeedlessParentheses 147 = .ok (.aload_n 0, 1) := by decide +kernel
theorem dX5_withoutNeedlessParentheses_148 : decode cX5_withoutNeedlessParentheses 148 = .ok (.iload 7, 2) := by decide +kernel
theorem dX5_withoutNeedlessParentheses_150 : decode cX5_withoutNeedlessParentheses 150 = .ok (.iconst 1, 1) := by decide +kernel
theorem dX5_withoutNeedlessParentheses_151 : decode cX5_withoutNeedlessParentheses 151 = .ok (.isub, 1) := by decide +kernel
theorem dX5_withoutNeedlessParentheses_152 : decode cX5_withoutNeedlessParentheses 152 = .ok (.bipush 102, 2) := by decide +kernel
theorem dX5_withoutNeedlessParentheses_154 : decode cX5_withoutNeedlessParentheses 154 = .ok (.invokestatic 17, 3) := by decide +kernel
theorem dX5_withoutNeedlessParentheses_157 : decode cX5_withoutNeedlessParentheses 157 = .ok (.ifCond .ne 44, 3) := by decide +kernel
theorem dX5_withoutNeedlessParentheses_160 : decode cX5_withoutNeedlessParentheses 160 = .ok (.iload 8, 2) := by decide +kernel
theorem dX5_withoutNeedlessParentheses_162 : decode cX5_withoutNeedlessParentheses 162 = .ok (.ifCond .eq 8, 3) := by decide +kernel
theorem dX5_withoutNeedlessParentheses_165 : decode cX5_withoutNeedlessParentheses 165 = .ok (.iload 9, 2) := by decide +kernel
theorem dX5_withoutNeedlessParentheses_167 : decode cX5_withoutNeedlessParentheses 167 = .ok (.ifCond .ne 34, 3) := by decide +kernel
theorem dX5_withoutNeedlessParentheses_170 : decode cX5_withoutNeedlessParentheses 170 = .ok (.aload_n 1, 1) := by decide +kernel
theorem dX5_withoutNeedlessParentheses_171 : decode cX5_withoutNeedlessParentheses 171 = .ok (.iload 7, 2) := by decide +kernel
theorem dX5_withoutNeedlessParentheses_173 : decode cX5_withoutNeedlessParentheses 173 = .ok (.iconst 1, 1) := by decide +kernel
theorem dX5_withoutNeedlessParentheses_174 : decode cX5_withoutNeedlessParentheses 174 = .ok (.bastore, 1) := by decide +kernel
theorem dX5_withoutNeedlessParentheses_175 : decode cX5_withoutNeedlessParentheses 175 = .ok (.aload_n 1, 1) := by decide +kernel
theorem dX5_withoutNeedlessParentheses_176 : decode cX5_withoutNeedlessParentheses 176 = .ok (.iload 5, 2) := by decide +kernel
theorem dX5_withoutNeedlessParentheses_178 : decode cX5_withoutNeedlessParentheses 178 = .ok (.iconst 1, 1) := by decide +kernel
theorem dX5_withoutNeedlessParentheses_179 : decode cX5_withoutNeedlessParentheses 179 = .ok (.bastore, 1) := by decide +kernel
theorem dX5_withoutNeedlessParentheses_180 : decode cX5_withoutNeedlessParentheses 180 = .ok (.aload_n 3, 1) := by decide +kernel
theorem dX5_withoutNeedlessParentheses_181 : decode cX5_withoutNeedlessParentheses 181 = .ok (.iload 4, 2) := by decide +kernel
theorem dX5_withoutNeedlessParentheses_183 : decode cX5_withoutNeedlessParentheses 183 = .ok (.aload_n 3, 1) := by decide +kernel
theorem dX5_withoutNeedlessParentheses_184 : decode cX5_withoutNeedlessParentheses 184 = .ok (.iload 4, 2) := by decide +kernel
theorem dX5_withoutNeedlessParentheses_186 : decode cX5_withoutNeedlessParentheses 186 = .ok (.baload, 1) := by decide +kernel
theorem dX5_withoutNeedlessParentheses_187 : decode cX5_withoutNeedlessParentheses 187 = .ok (.ifCond .ne 8, 3) := by decide +kernel
theorem dX5_withoutNeedlessParentheses_190 : decode cX5_withoutNeedlessParentheses 190 = .ok (.iload 8, 2) := by decide +kernel
theorem dX5_withoutNeedlessParentheses_192 : decode cX5_withoutNeedlessParentheses 192 = .ok (.ifCond .eq 7, 3) := by decide +kernel
theorem dX5_withoutNeedlessParentheses_195 : decode cX5_withoutNeedlessParentheses 195 = .ok (.iconst 1, 1) := by decide +kernel
theorem dX5_withoutNeedlessParentheses_196 : decode cX5_withoutNeedlessParentheses 196 = .ok (.goto 4, 3) := by decide +kernel
theorem dX5_withoutNeedlessParentheses_199 : decode cX5_withoutNeedlessParentheses 199 = .ok (.iconst 0, 1) := by decide +kernel
theorem dX5_withoutNeedlessParentheses_200 : decode cX5_withoutNeedlessParentheses 200 = .ok (.bastore, 1) := by decide +kernel
theorem dX5_withoutNeedlessParentheses_201 : decode cX5_withoutNeedlessParentheses 201 = .ok (.iinc 5 1, 3) := by decide +kernel
theorem dX5_withoutNeedlessParentheses_204 : decode cX5_withoutNeedlessParentheses 204 = .ok (.goto (-173), 3) := by decide +kernel
theorem dX5_withoutNeedlessParentheses_207 : decode cX5_withoutNeedlessParentheses 207 = .ok (.aload_n 0, 1) := by decide +kernel
theorem dX5_withoutNeedlessParentheses_208 : decode cX5_withoutNeedlessParentheses 208 = .ok (.aload_n 1, 1) := by decide +kernel
theorem dX5_withoutNeedlessParentheses_209 : decode cX5_withoutNeedlessParentheses 209 = .ok (.invokestatic 27, 3) := by decide +kernel
theorem dX5_withoutNeedlessParentheses_212 : decode cX5_withoutNeedlessParentheses 212 = .ok (.areturn, 1) := by decide +kernel
theorem dX5_without_0 : decode cX5_without 0 = .ok (.new 31, 3) := by decide +kernel
theorem dX5_without_3 : decode cX5_without 3 = .ok (.dup, 1) := by decide +kernel
theorem dX5_without_4 : decode cX5_without 4 = .ok (.invokespecial 33, 3) := by decide +kernel
theorem dX5_without_7 : decode cX5_without 7 = .ok (.astore_n 2, 1) := by decide +kernel
theorem dX5_without_8 : decode cX5_without 8 = .ok (.iconst 0, 1) := by decide +kernel
theorem dX5_without_9 : decode cX5_without 9 = .ok (.istore_n 3, 1) := by decide +kernel
theorem dX5_without_10 : decode cX5_without 10 = .ok (.iload_n 3, 1) := by decide +kernel
theorem dX5_without_11 : decode cX5_without 11 = .ok (.aload_n 0, 1) := by decide +kernel
theorem dX5_without_12 : decode cX5_without 12 = .ok (.invokevirtual 7, 3) := by decide +kernel
theorem dX5_without_15 : decode cX5_without 15 = .ok (.if_icmp .ge 31, 3) := by decide +kernel
theorem dX5_without_18 : decode cX5_without 18 = .ok (.iload_n 3, 1) := by decide +kernel
theorem dX5_without_19 : decode cX5_without 19 = .ok (.aload_n 1, 1) := by decide +kernel
theorem dX5_without_20 : decode cX5_without 20 = .ok (.arraylength, 1) := by decide +kernel
theorem dX5_without_21 : decode cX5_without 21 = .ok (.if_icmp .ge 25, 3) := by decide +kernel
theorem dX5_without_24 : decode cX5_without 24 = .ok (.aload_n 1, 1) := by decide +kernel
theorem dX5_without_25 : decode cX5_without 25 = .ok (.iload_n 3, 1) := by decide +kernel
theorem dX5_without_26 : decode cX5_without 26 = .ok (.baload, 1) := by decide +kernel
theorem dX5_without_27 : decode cX5_without 27 = .ok (.ifCond .ne 13, 3) := by decide +kernel
theorem dX5_without_30 : decode cX5_without 30 = .ok (.aload_n 2, 1) := by decide +kernel
theorem dX5_without_31 : decode cX5_without 31 = .ok (.aload_n 0, 1) := by decide +kernel
theorem dX5_without_32 : decode cX5_without 32 = .ok (.iload_n 3, 1) := by decide +kernel
theorem dX5_without_33 : decode cX5_without 33 = .ok (.invokevirtual 13, 3) := by decide +kernel
theorem dX5_without_36 : decode cX5_without 36 = .ok (.invokevirtual 34, 3) := by decide +kernel
theorem dX5_without_39 : decode cX5_without 39 = .ok (.pop, 1) := by decide +kernel
theorem dX5_without_40 : decode cX5_without 40 = .ok (.iinc 3 1, 3) := by decide +kernel
theorem dX5_without_43 : decode cX5_without 43 = .ok (.goto (-33), 3) := by decide +kernel
theorem dX5_without_46 : decode cX5_without 46 = .ok (.aload_n 2, 1) := by decide +kernel
theorem dX5_without_47 : decode cX5_without 47 = .ok (.invokevirtual 38, 3) := by decide +kernel
theorem dX5_without_50 : decode cX5_without 50 = .ok (.areturn, 1) := by decide +kernel
theorem dX5_nestingOf_0 : decode cX5_nestingOf 0 = .ok (.aload_n 0, 1) := by decide +kernel
theorem dX5_nestingOf_1 : decode cX5_nestingOf 1 = .ok (.invokevirtual 7, 3) := by decide +kernel
theorem dX5_nestingOf_4 : decode cX5_nestingOf 4 = .ok (.iconst 1, 1) := by decide +kernel
theorem dX5_nestingOf_5 : decode cX5_nestingOf 5 = .ok (.iadd, 1) := by decide +kernel
theorem dX5_nestingOf_6 : decode cX5_nestingOf 6 = .ok (.newarray .int, 2) := by decide +kernel
theorem dX5_nestingOf_8 : decode cX5_nestingOf 8 = .ok (.astore_n 1, 1) := by decide +kernel
theorem dX5_nestingOf_9 : decode cX5_nestingOf 9 = .ok (.iconst 0, 1) := by decide +kernel
theorem dX5_nestingOf_10 : decode cX5_nestingOf 10 = .ok (.istore_n 2, 1) := by decide +kernel
theorem dX5_nestingOf_11 : decode cX5_nestingOf 11 = .ok (.iconst 0, 1) := by decide +kernel
theorem dX5_nestingOf_12 : decode cX5_nestingOf 12 = .ok (.istore_n 3, 1) := by decide +kernel
theorem dX5_nestingOf_13 : decode cX5_nestingOf 13 = .ok (.iconst 0, 1) := by decide +kernel
theorem dX5_nestingOf_14 : decode cX5_nestingOf 14 = .ok (.istore 4, 2) := by decide +kernel
theorem dX5_nestingOf_16 : decode cX5_nestingOf 16 = .ok (.iload 4, 2) := by decide +kernel
theorem dX5_nestingOf_18 : decode cX5_nestingOf 18 = .ok (.aload_n 0, 1) := by decide +kernel
theorem dX5_nestingOf_19 : decode cX5_nestingOf 19 = .ok (.invokevirtual 7, 3) := by decide +kernel
theorem dX5_nestingOf_22 : decode cX5_nestingOf 22 = .ok (.if_icmp .ge 79, 3) := by decide +kernel
theorem dX5_nestingOf_25 : decode cX5_nestingOf 25 = .ok (.aload_n 0, 1) := by decide +kernel
theorem dX5_nestingOf_26 : decode cX5_nestingOf 26 = .ok (.iload 4, 2) := by decide +kernel
theorem dX5_nestingOf_28 : decode cX5_nestingOf 28 = .ok (.invokevirtual 13, 3) := by decide +kernel
theorem dX5_nestingOf_31 : decode cX5_nestingOf 31 = .ok (.bipush 40, 2) := by decide +kernel
theorem dX5_nestingOf_33 : decode cX5_nestingOf 33 = .ok (.if_icmp .ne 44, 3) := by decide +kernel
theorem dX5_nestingOf_36 : decode cX5_nestingOf 36 = .ok (.aload_n 1, 1) := by decide +kernel
theorem dX5_nestingOf_37 : decode cX5_nestingOf 37 = .ok (.iload_n 2, 1) := by decide +kernel
theorem dX5_nestingOf_38 : decode cX5_nestingOf 38 = .ok (.iconst 1, 1) := by decide +kernel
theorem dX5_nestingOf_39 : decode cX5_nestingOf 39 = .ok (.iadd, 1) := by decide +kernel
theorem dX5_nestingOf_40 : decode cX5_nestingOf 40 = .ok (.aload_n 1, 1) := by decide +kernel
theorem dX5_nestingOf_41 : decode cX5_nestingOf 41 = .ok (.iload_n 2, 1) := by decide +kernel
theorem dX5_nestingOf_42 : decode cX5_nestingOf 42 = .ok (.iaload, 1) := by decide +kernel
theorem dX5_nestingOf_43 : decode cX5_nestingOf 43 = .ok (.aload_n 0, 1) := by decide +kernel
theorem dX5_nestingOf_44 : decode cX5_nestingOf 44 = .ok (.iload 4, 2) := by decide +kernel
theorem dX5_nestingOf_46 : decode cX5_nestingOf 46 = .ok (.iconst 1, 1) := by decide +kernel
theorem dX5_nestingOf_47 : decode cX5_nestingOf 47 = .ok (.isub, 1) := by decide +kernel
theorem dX5_nestingOf_48 : decode cX5_nestingOf 48 = .ok (.bipush 102, 2) := by decide +kernel
theorem dX5_nestingOf_50 : decode cX5_nestingOf 50 = .ok (.invokestatic 17, 3) := by decide +kernel
theorem dX5_nestingOf_53 : decode cX5_nestingOf 53 = .ok (.ifCond .eq 7, 3) := by decide +kernel
theorem dX5_nestingOf_56 : decode cX5_nestingOf 56 = .ok (.iconst 1, 1) := by decide +kernel
theorem dX5_nestingOf_57 : decode cX5_nestingOf 57 = .ok (.goto 4, 3) := by decide +kernel
theorem dX5_nestingOf_60 : decode cX5_nestingOf 60 = .ok (.iconst 0, 1) := by decide +kernel
theorem dX5_nestingOf_61 : decode cX5_nestingOf 61 = .ok (.iadd, 1) := by decide +kernel
theorem dX5_nestingOf_62 : decode cX5_nestingOf 62 = .ok (.iastore, 1) := by decide +kernel
theorem dX5_nestingOf_63 : decode cX5_nestingOf 63 = .ok (.iinc 2 1, 3) := by decide +kernel
theorem dX5_nestingOf_66 : decode cX5_nestingOf 66 = .ok (.iload_n 3, 1) := by decide +kernel
theorem dX5_nestingOf_67 : decode cX5_nestingOf 67 = .ok (.aload_n 1, 1) := by decide +kernel
theorem dX5_nestingOf_68 : decode cX5_nestingOf 68 = .ok (.iload_n 2, 1) := by decide +kernel
theorem dX5_nestingOf_69 : decode cX5_nestingOf 69 = .ok (.iaload, 1) := by decide +kernel
theorem dX5_nestingOf_70 : decode cX5_nestingOf 70 = .ok (.invokestatic 42, 3) := by decide +kernel
theorem dX5_nestingOf_73 : decode cX5_nestingOf 73 = .ok (.istore_n 3, 1) := by decide +kernel
theorem dX5_nestingOf_74 : decode cX5_nestingOf 74 = .ok (.goto 21, 3) := by decide +kernel
theorem dX5_nestingOf_77 : decode cX5_nestingOf 77 = .ok (.aload_n 0, 1) := by decide +kernel
theorem dX5_nestingOf_78 : decode cX5_nestingOf 78 = .ok (.iload 4, 2) := by decide +kernel
theorem dX5_nestingOf_80 : decode cX5_nestingOf 80 = .ok (.invokevirtual 13, 3) := by decide +kernel
theorem dX5_nestingOf_83 : decode cX5_nestingOf 83 = .ok (.bipush 41, 2) := by decide +kernel
theorem dX5_nestingOf_85 : decode cX5_nestingOf 85 = .ok (.if_icmp .ne 10, 3) := by decide +kernel
theorem dX5_nestingOf_88 : decode cX5_nestingOf 88 = .ok (.iload_n 2, 1) := by decide +kernel
theorem dX5_nestingOf_89 : decode cX5_nestingOf 89 = .ok (.ifCond .le 6, 3) := by decide +kernel
theorem dX5_nestingOf_92 : decode cX5_nestingOf 92 = .ok (.iinc 2 (-1), 3) := by decide +kernel
theorem dX5_nestingOf_95 : decode cX5_nestingOf 95 = .ok (.iinc 4 1, 3) := by decide +kernel
theorem dX5_nestingOf_98 : decode cX5_nestingOf 98 = .ok (.goto (-82), 3) := by decide +kernel
theorem dX5_nestingOf_101 : decode cX5_nestingOf 101 = .ok (.iload_n 3, 1) := by decide +kernel
theorem dX5_nestingOf_102 : decode cX5_nestingOf 102 = .ok (.ireturn, 1) := by decide +kernel
theorem dX6_init_0 : decode cX6_init 0 = .ok (.aload_n 0, 1) := by decide +kernel
theorem dX6_init_1 : decode cX6_init 1 = .ok (.invokespecial 3, 3) := by decide +kernel
theorem dX6_init_4 : decode cX6_init 4 = .ok (.aload_n 0, 1) := by decide +kernel
theorem dX6_init_5 : decode cX6_init 5 = .ok (.bipush 26, 2) := by decide +kernel
theorem dX6_init_7 : decode cX6_init 7 = .ok (.newarray .int, 2) := by decide +kernel
theorem dX6_init_9 : decode cX6_init 9 = .ok (.putfield 9, 3) := by decide +kernel
theorem dX6_init_12 : decode cX6_init 12 = .ok (.aload_n 0, 1) := by decide +kernel
theorem dX6_init_13 : decode cX6_init 13 = .ok (.bipush 26, 2) := by decide +kernel
theorem dX6_init_15 : decode cX6_init 15 = .ok (.newarray .int, 2) := by decide +kernel
theorem dX6_init_17 : decode cX6_init 17 = .ok (.putfield 15, 3) := by decide +kernel
theorem dX6_init_20 : decode cX6_init 20 = .ok (.return_, 1) := by decide +kernel
theorem dX6_begin_0 : decode cX6_begin 0 = .ok (.aload_n 0, 1) := by decide +kernel
theorem dX6_begin_1 : decode cX6_begin 1 = .ok (.iconst 0, 1) := by decide +kernel
theorem dX6_begin_2 : decode cX6_begin 2 = .ok (.putfield 18, 3) := by decide +kernel
theorem dX6_begin_5 : decode cX6_begin 5 = .ok (.aload_n 0, 1) := by decide +kernel
theorem dX6_begin_6 : decode cX6_begin 6 = .ok (.iconst 1, 1) := by decide +kernel
theorem dX6_begin_7 : decode cX6_begin 7 = .ok (.iload_n 1, 1) := by decide +kernel
theorem dX6_begin_8 : decode cX6_begin 8 = .ok (.invokevirtual 22, 3) := by decide +kernel
theorem dX6_begin_11 : decode cX6_begin 11 = .ok (.return_, 1) := by decide +kernel
theorem dX6_add_0 : decode cX6_add 0 = .ok (.aload_n 0, 1) := by decide +kernel
theorem dX6_add_1 : decode cX6_add 1 = .ok (.getfield 18, 3) := by decide +kernel
theorem dX6_add_4 : decode cX6_add 4 = .ok (.aload_n 0, 1) := by decide +kernel
theorem dX6_add_5 : decode cX6_add 5 = .ok (.getfield 9, 3) := by decide +kernel
theorem dX6_add_8 : decode cX6_add 8 = .ok (.arraylength, 1) := by decide +kernel
theorem dX6_add_9 : decode cX6_add 9 = .ok (.if_icmp .ge 33, 3) := by decide +kernel
theorem dX6_add_12 : decode cX6_add 12 = .ok (.aload_n 0, 1) := by decide +kernel
theorem dX6_add_13 : decode cX6_add 13 = .ok (.getfield 9, 3) := by decide +kernel
theorem dX6_add_16 : decode cX6_add 16 = .ok (.aload_n 0, 1) := by decide +kernel
theorem dX6_add_17 : decode cX6_add 17 = .ok (.getfield 18, 3) := by decide +kernel
theorem dX6_add_20 : decode cX6_add 20 = .ok (.iload_n 1, 1) := by decide +kernel
theorem dX6_add_21 : decode cX6_add 21 = .ok (.iastore, 1) := by decide +kernel
theorem dX6_add_22 : decode cX6_add 22 = .ok (.aload_n 0, 1) := by decide +kernel
theorem dX6_add_23 : decode cX6_add 23 = .ok (.getfield 15, 3) := by decide +kernel
theorem dX6_add_26 : decode cX6_add 26 = .ok (.aload_n 0, 1) := by decide +kernel
theorem dX6_add_27 : decode cX6_add 27 = .ok (.getfield 18, 3) := by decide +kernel
theorem dX6_add_30 : decode cX6_add 30 = .ok (.iload_n 2, 1) := by decide +kernel
theorem dX6_add_31 : decode cX6_add 31 = .ok (.iastore, 1) := by decide +kernel
theorem dX6_add_32 : decode cX6_add 32 = .ok (.aload_n 0, 1) := by decide +kernel
theorem dX6_add_33 : decode cX6_add 33 = .ok (.dup, 1) := by decide +kernel
theorem dX6_add_34 : decode cX6_add 34 = .ok (.getfield 18, 3) := by decide +kernel
theorem dX6_add_37 : decode cX6_add 37 = .ok (.iconst 1, 1) := by decide +kernel
theorem dX6_add_38 : decode cX6_add 38 = .ok (.iadd, 1) := by decide +kernel
theorem dX6_add_39 : decode cX6_add 39 = .ok (.putfield 18, 3) := by decide +kernel
theorem dX6_add_42 : decode cX6_add 42 = .ok (.return_, 1) := by decide +kernel
theorem dX7_init_0 : decode cX7_init 0 = .ok (.aload_n 0, 1) := by decide +kernel
theorem dX7_init_1 : decode cX7_init 1 = .ok (.invokespecial 3, 3) := by decide +kernel
theorem dX7_init_4 : decode cX7_init 4 = .ok (.aload_n 0, 1) := by decide +kernel
theorem dX7_init_5 : decode cX7_init 5 = .ok (.bipush 8, 2) := by decide +kernel
theorem dX7_init_7 : decode cX7_init 7 = .ok (.newarray .int, 2) := by decide +kernel
theorem dX7_init_9 : decode cX7_init 9 = .ok (.putfield 9, 3) := by decide +kernel
theorem dX7_init_12 : decode cX7_init 12 = .ok (.aload_n 0, 1) := by decide +kernel
theorem dX7_init_13 : decode cX7_init 13 = .ok (.bipush 25, 2) := by decide +kernel
theorem dX7_init_15 : decode cX7_init 15 = .ok (.newarray .int, 2) := by decide +kernel
theorem dX7_init_17 : decode cX7_init 17 = .ok (.putfield 15, 3) := by decide +kernel
theorem dX7_init_20 : decode cX7_init 20 = .ok (.aload_n 0, 1) := by decide +kernel
theorem dX7_init_21 : decode cX7_init 21 = .ok (.bipush 25, 2) := by decide +kernel
theorem dX7_init_23 : decode cX7_init 23 = .ok (.newarray .int, 2) := by decide +kernel
theorem dX7_init_25 : decode cX7_init 25 = .ok (.putfield 18, 3) := by decide +kernel
theorem dX7_init_28 : decode cX7_init 28 = .ok (.return_, 1) := by decide +kernel
theorem dX7_copyFrom_0 : decode cX7_copyFrom 0 = .ok (.aload_n 0, 1) := by decide +kernel
theorem dX7_copyFrom_1 : decode cX7_copyFrom 1 = .ok (.aload_n 1, 1) := by decide +kernel
theorem dX7_copyFrom_2 : decode cX7_copyFrom 2 = .ok (.getfield 21, 3) := by decide +kernel
theorem dX7_copyFrom_5 : decode cX7_copyFrom 5 = .ok (.putfield 21, 3) := by decide +kernel
theorem dX7_copyFrom_8 : decode cX7_copyFrom 8 = .ok (.aload_n 0, 1) := by decide +kernel
theorem dX7_copyFrom_9 : decode cX7_copyFrom 9 = .ok (.aload_n 1, 1) := by decide +kernel
theorem dX7_copyFrom_10 : decode cX7_copyFrom 10 = .ok (.getfield 25, 3) := by decide +kernel
theorem dX7_copyFrom_13 : decode cX7_copyFrom 13 = .ok (.putfield 25, 3) := by decide +kernel
theorem dX7_copyFrom_16 : decode cX7_copyFrom 16 = .ok (.aload_n 0, 1) := by decide +kernel
theorem dX7_copyFrom_17 : decode cX7_copyFrom 17 = .ok (.aload_n 1, 1) := by decide +kernel
theorem dX7_copyFrom_18 : decode cX7_copyFrom 18 = .ok (.getfield 29, 3) := by decide +kernel
theorem dX7_copyFrom_21 : decode cX7_copyFrom 21 = .ok (.putfield 29, 3) := by decide +kernel
theorem dX7_copyFrom_24 : decode cX7_copyFrom 24 = .ok (.aload_n 1, 1) := by decide +kernel
theorem dX7_copyFrom_25 : decode cX7_copyFrom 25 = .ok (.getfield 9, 3) := by decide +kernel
theorem dX7_copyFrom_28 : decode cX7_copyFrom 28 = .ok (.iconst 0, 1) := by decide +kernel
theorem dX7_copyFrom_29 : decode cX7_copyFrom 29 = .ok (.aload_n 0, 1) := by decide +kernel
theorem dX7_copyFrom_30 : decode cX7_copyFrom 30 = .ok (.getfield 9, 3) := by decide +kernel
theorem dX7_copyFrom_33 : decode cX7_copyFrom 33 = .ok (.iconst 0, 1) := by decide +kernel
theorem dX7_copyFrom_34 : decode cX7_copyFrom 34 = .ok (.bipush 8, 2) := by decide +kernel
theorem dX7_copyFrom_36 : decode cX7_copyFrom 36 = .ok (.invokestatic 32, 3) := by decide +kernel
theorem dX7_copyFrom_39 : decode cX7_copyFrom 39 = .ok (.aload_n 0, 1) := by decide +kernel
theorem dX7_copyFrom_40 : decode cX7_copyFrom 40 = .ok (.aload_n 1, 1) := by decide +kernel
theorem dX7_copyFrom_41 : decode cX7_copyFrom 41 = .ok (.getfield 38, 3) := by decide +kernel
theorem dX7_copyFrom_44 : decode cX7_copyFrom 44 = .ok (.putfield 38, 3) := by decide +kernel
theorem dX7_copyFrom_47 : decode cX7_copyFrom 47 = .ok (.aload_n 1, 1) := by decide +kernel
theorem dX7_copyFrom_48 : decode cX7_copyFrom 48 = .ok (.getfield 15, 3) := by decide +kernel
theorem dX7_copyFrom_51 : decode cX7_copyFrom 51 = .ok (.iconst 0, 1) := by decide +kernel
theorem dX7_copyFrom_52 : decode cX7_copyFrom 52 = .ok (.aload_n 0, 1) := by decide +kernel
theorem dX7_copyFrom_53 : decode cX7_copyFrom 53 = .ok (.getfield 15, 3) := by decide +kernel
theorem dX7_copyFrom_56 : decode cX7_copyFrom 56 = .ok (.iconst 0, 1) := by decide +kernel
theorem dX7_copyFrom_57 : decode cX7_copyFrom 57 = .ok (.bipush 25, 2) := by decide +kernel
theorem dX7_copyFrom_59 : decode cX7_copyFrom 59 = .ok (.invokestatic 32, 3) := by decide +kernel
theorem dX7_copyFrom_62 : decode cX7_copyFrom 62 = .ok (.aload_n 1, 1) := by decide +kernel
theorem dX7_copyFrom_63 : decode cX7_copyFrom 63 = .ok (.getfield 18, 3) := by decide +kernel
theorem dX7_copyFrom_66 : decode cX7_copyFrom 66 = .ok (.iconst 0, 1) := by decide +kernel
theorem dX7_copyFrom_67 : decode cX7_copyFrom 67 = .ok (.aload_n 0, 1) := by decide +kernel
theorem dX7_copyFrom_68 : decode cX7_copyFrom 68 = .ok (.getfield 18, 3) := by decide +kernel
theorem dX7_copyFrom_71 : decode cX7_copyFrom 71 = .ok (.iconst 0, 1) := by decide +kernel
theorem dX7_copyFrom_72 : decode cX7_copyFrom 72 = .ok (.bipush 25, 2) := by decide +kernel
theorem dX7_copyFrom_74 : decode cX7_copyFrom 74 = .ok (.invokestatic 32, 3) := by decide +kernel
theorem dX7_copyFrom_77 : decode cX7_copyFrom 77 = .ok (.return_, 1) := by decide +kernel
theorem dX7_holds_0 : decode cX7_holds 0 = .ok (.aload_n 0, 1) := by decide +kernel
theorem dX7_holds_1 : decode cX7_holds 1 = .ok (.getfield 18, 3) := by decide +kernel
theorem dX7_holds_4 : decode cX7_holds 4 = .ok (.iload_n 1, 1) := by decide +kernel
theorem dX7_holds_5 : decode cX7_holds 5 = .ok (.iaload, 1) := by decide +kernel
theorem dX7_holds_6 : decode cX7_holds 6 = .ok (.ifCond .eq 7, 3) := by decide +kernel
theorem dX7_holds_9 : decode cX7_holds 9 = .ok (.iconst 1, 1) := by decide +kernel
theorem dX7_holds_10 : decode cX7_holds 10 = .ok (.goto 4, 3) := by decide +kernel
theorem dX7_holds_13 : decode cX7_holds 13 = .ok (.iconst 0, 1) := by decide +kernel
theorem dX7_holds_14 : decode cX7_holds 14 = .ok (.ireturn, 1) := by decide +kernel
theorem dX7_give_0 : decode cX7_give 0 = .ok (.aload_n 0, 1) := by decide +kernel
theorem dX7_give_1 : decode cX7_give 1 = .ok (.getfield 15, 3) := by decide +kernel
theorem dX7_give_4 : decode cX7_give 4 = .ok (.iload_n 1, 1) := by decide +kernel
theorem dX7_give_5 : decode cX7_give 5 = .ok (.iload_n 2, 1) := by decide +kernel
theorem dX7_give_6 : decode cX7_give 6 = .ok (.iastore, 1) := by decide +kernel
theorem dX7_give_7 : decode cX7_give 7 = .ok (.aload_n 0, 1) := by decide +kernel
theorem dX7_give_8 : decode cX7_give 8 = .ok (.getfield 18, 3) := by decide +kernel
theorem dX7_give_11 : decode cX7_give 11 = .ok (.iload_n 1, 1) := by decide +kernel
theorem dX7_give_12 : decode cX7_give 12 = .ok (.iload_n 3, 1) := by decide +kernel
theorem dX7_give_13 : decode cX7_give 13 = .ok (.iastore, 1) := by decide +kernel
theorem dX7_give_14 : decode cX7_give 14 = .ok (.return_, 1) := by decide +kernel
theorem dX7_drop_0 : decode cX7_drop 0 = .ok (.aload_n 0, 1) := by decide +kernel
theorem dX7_drop_1 : decode cX7_drop 1 = .ok (.getfield 15, 3) := by decide +kernel
theorem dX7_drop_4 : decode cX7_drop 4 = .ok (.iload_n 1, 1) := by decide +kernel
theorem dX7_drop_5 : decode cX7_drop 5 = .ok (.iconst 0, 1) := by decide +kernel
theorem dX7_drop_6 : decode cX7_drop 6 = .ok (.iastore, 1) := by decide +kernel
theorem dX7_drop_7 : decode cX7_drop 7 = .ok (.aload_n 0, 1) := by decide +kernel
theorem dX7_drop_8 : decode cX7_drop 8 = .ok (.getfield 18, 3) := by decide +kernel
theorem dX7_drop_11 : decode cX7_drop 11 = .ok (.iload_n 1, 1) := by decide +kernel
theorem dX7_drop_12 : decode cX7_drop 12 = .ok (.iconst 0, 1) := by decide +kernel
theorem dX7_drop_13 : decode cX7_drop 13 = .ok (.iastore, 1) := by decide +kernel
theorem dX7_drop_14 : decode cX7_drop 14 = .ok (.return_, 1) := by decide +kernel
theorem dX7_dropShares_0 : decode cX7_dropShares 0 = .ok (.iconst 1, 1) := by decide +kernel
theorem dX7_dropShares_1 : decode cX7_dropShares 1 = .ok (.istore_n 1, 1) := by decide +kernel
theorem dX7_dropShares_2 : decode cX7_dropShares 2 = .ok (.iload_n 1, 1) := by decide +kernel
theorem dX7_dropShares_3 : decode cX7_dropShares 3 = .ok (.bipush 24, 2) := by decide +kernel
theorem dX7_dropShares_5 : decode cX7_dropShares 5 = .ok (.if_icmp .gt 14, 3) := by decide +kernel
theorem dX7_dropShares_8 : decode cX7_dropShares 8 = .ok (.aload_n 0, 1) := by decide +kernel
theorem dX7_dropShares_9 : decode cX7_dropShares 9 = .ok (.iload_n 1, 1) := by decide +kernel
theorem dX7_dropShares_10 : decode cX7_dropShares 10 = .ok (.invokevirtual 42, 3) := by decide +kernel
theorem dX7_dropShares_13 : decode cX7_dropShares 13 = .ok (.iinc 1 1, 3) := by decide +kernel
theorem dX7_dropShares_16 : decode cX7_dropShares 16 = .ok (.goto (-14), 3) := by decide +kernel
theorem dX7_dropShares_19 : decode cX7_dropShares 19 = .ok (.return_, 1) := by decide +kernel
theorem dX7_stateOf_0 : decode cX7_stateOf 0 = .ok (.aload_n 0, 1) := by decide +kernel
theorem dX7_stateOf_1 : decode cX7_stateOf 1 = .ok (.getfield 18, 3) := by decide +kernel
theorem dX7_stateOf_4 : decode cX7_stateOf 4 = .ok (.iload_n 1, 1) := by decide +kernel
theorem dX7_stateOf_5 : decode cX7_stateOf 5 = .ok (.iaload, 1) := by decide +kernel
theorem dX7_stateOf_6 : decode cX7_stateOf 6 = .ok (.aload_n 0, 1) := by decide +kernel
theorem dX7_stateOf_7 : decode cX7_stateOf 7 = .ok (.getfield 29, 3) := by decide +kernel
theorem dX7_stateOf_10 : decode cX7_stateOf 10 = .ok (.if_icmp .eq 5, 3) := by decide +kernel
theorem dX7_stateOf_13 : decode cX7_stateOf 13 = .ok (.iconst 1, 1) := by decide +kernel
theorem dX7_stateOf_14 : decode cX7_stateOf 14 = .ok (.ireturn, 1) := by decide +kernel
theorem dX7_stateOf_15 : decode cX7_stateOf 15 = .ok (.aload_n 0, 1) := by decide +kernel
theorem dX7_stateOf_16 : decode cX7_stateOf 16 = .ok (.getfield 15, 3) := by decide +kernel
theorem dX7_stateOf_19 : decode cX7_stateOf 19 = .ok (.iload_n 1, 1) := by decide +kernel
theorem dX7_stateOf_20 : decode cX7_stateOf 20 = .ok (.iaload, 1) := by decide +kernel
theorem dX7_stateOf_21 : decode cX7_stateOf 21 = .ok (.invokestatic 46, 3) := by decide +kernel
theorem dX7_stateOf_24 : decode cX7_stateOf 24 = .ok (.aload_n 0, 1) := by decide +kernel
theorem dX7_stateOf_25 : decode cX7_stateOf 25 = .ok (.iload_n 1, 1) := by decide +kernel
theorem dX7_stateOf_26 : decode cX7_stateOf 26 = .ok (.invokevirtual 52, 3) := by decide +kernel
theorem dX7_stateOf_29 : decode cX7_stateOf 29 = .ok (.if_icmp .ne 7, 3) := by decide +kernel
theorem dX7_stateOf_32 : decode cX7_stateOf 32 = .ok (.iconst 0, 1) := by decide +kernel
theorem dX7_stateOf_33 : decode cX7_stateOf 33 = .ok (.goto 4, 3) := by decide +kernel
theorem dX7_stateOf_36 : decode cX7_stateOf 36 = .ok (.iconst 2, 1) := by decide +kernel
theorem dX7_stateOf_37 : decode cX7_stateOf 37 = .ok (.ireturn, 1) := by decide +kernel
theorem dX7_holdsGood_0 : decode cX7_holdsGood 0 = .ok (.aload_n 0, 1) := by decide +kernel
theorem dX7_holdsGood_1 : decode cX7_holdsGood 1 = .ok (.iload_n 1, 1) := by decide +kernel
theorem dX7_holdsGood_2 : decode cX7_holdsGood 2 = .ok (.invokevirtual 55, 3) := by decide +kernel
theorem dX7_holdsGood_5 : decode cX7_holdsGood 5 = .ok (.ifCond .eq 15, 3) := by decide +kernel
theorem dX7_holdsGood_8 : decode cX7_holdsGood 8 = .ok (.aload_n 0, 1) := by decide +kernel
theorem dX7_holdsGood_9 : decode cX7_holdsGood 9 = .ok (.iload_n 1, 1) := by decide +kernel
theorem dX7_holdsGood_10 : decode cX7_holdsGood 10 = .ok (.invokevirtual 59, 3) := by decide +kernel
theorem dX7_holdsGood_13 : decode cX7_holdsGood 13 = .ok (.ifCond .ne 7, 3) := by decide +kernel
theorem dX7_holdsGood_16 : decode cX7_holdsGood 16 = .ok (.iconst 1, 1) := by decide +kernel
theorem dX7_holdsGood_17 : decode cX7_holdsGood 17 = .ok (.goto 4, 3) := by decide +kernel
theorem dX7_holdsGood_20 : decode cX7_holdsGood 20 = .ok (.iconst 0, 1) := by decide +kernel
theorem dX7_holdsGood_21 : decode cX7_holdsGood 21 = .ok (.ireturn, 1) := by decide +kernel
theorem dX7_committedAt_0 : decode cX7_committedAt 0 = .ok (.iconst 1, 1) := by decide +kernel
theorem dX7_committedAt_1 : decode cX7_committedAt 1 = .ok (.istore_n 2, 1) := by decide +kernel
theorem dX7_committedAt_2 : decode cX7_committedAt 2 = .ok (.iconst 1, 1) := by decide +kernel
theorem dX7_committedAt_3 : decode cX7_committedAt 3 = .ok (.istore_n 3, 1) := by decide +kernel
theorem dX7_committedAt_4 : decode cX7_committedAt 4 = .ok (.iconst 0, 1) := by decide +kernel
theorem dX7_committedAt_5 : decode cX7_committedAt 5 = .ok (.istore 4, 2) := by decide +kernel
theorem dX7_committedAt_7 : decode cX7_committedAt 7 = .ok (.iload 4, 2) := by decide +kernel
theorem dX7_committedAt_9 : decode cX7_committedAt 9 = .ok (.aload_n 0, 1) := by decide +kernel
theorem dX7_committedAt_10 : decode cX7_committedAt 10 = .ok (.getfield 25, 3) := by decide +kernel
theorem dX7_committedAt_13 : decode cX7_committedAt 13 = .ok (.if_icmp .ge 35, 3) := by decide +kernel
theorem dX7_committedAt_16 : decode cX7_committedAt 16 = .ok (.iload_n 2, 1) := by decide +kernel
theorem dX7_committedAt_17 : decode cX7_committedAt 17 = .ok (.aload_n 0, 1) := by decide +kernel
theorem dX7_committedAt_18 : decode cX7_committedAt 18 = .ok (.getfield 9, 3) := by decide +kernel
theorem dX7_committedAt_21 : decode cX7_committedAt 21 = .ok (.iload 4, 2) := by decide +kernel
theorem dX7_committedAt_23 : decode cX7_committedAt 23 = .ok (.iaload, 1) := by decide +kernel
theorem dX7_committedAt_24 : decode cX7_committedAt 24 = .ok (.iload_n 3, 1) := by decide +kernel
theorem dX7_committedAt_25 : decode cX7_committedAt 25 = .ok (.invokestatic 62, 3) := by decide +kernel
theorem dX7_committedAt_28 : decode cX7_committedAt 28 = .ok (.imul, 1) := by decide +kernel
theorem dX7_committedAt_29 : decode cX7_committedAt 29 = .ok (.sipush 2039, 3) := by decide +kernel
theorem dX7_committedAt_32 : decode cX7_committedAt 32 = .ok (.irem, 1) := by decide +kernel
theorem dX7_committedAt_33 : decode cX7_committedAt 33 = .ok (.istore_n 2, 1) := by decide +kernel
theorem dX7_committedAt_34 : decode cX7_committedAt 34 = .ok (.iload_n 3, 1) := by decide +kernel
theorem dX7_committedAt_35 : decode cX7_committedAt 35 = .ok (.iload_n 1, 1) := by decide +kernel
theorem dX7_committedAt_36 : decode cX7_committedAt 36 = .ok (.imul, 1) := by decide +kernel
theorem dX7_committedAt_37 : decode cX7_committedAt 37 = .ok (.sipush 1019, 3) := by decide +kernel
theorem dX7_committedAt_40 : decode cX7_committedAt 40 = .ok (.irem, 1) := by decide +kernel
theorem dX7_committedAt_41 : decode cX7_committedAt 41 = .ok (.istore_n 3, 1) := by decide +kernel
theorem dX7_committedAt_42 : decode cX7_committedAt 42 = .ok (.iinc 4 1, 3) := by decide +kernel
theorem dX7_committedAt_45 : decode cX7_committedAt 45 = .ok (.goto (-38), 3) := by decide +kernel
theorem dX7_committedAt_48 : decode cX7_committedAt 48 = .ok (.iload_n 2, 1) := by decide +kernel
theorem dX7_committedAt_49 : decode cX7_committedAt 49 = .ok (.ireturn, 1) := by decide +kernel
theorem dX7_shareCount_0 : decode cX7_shareCount 0 = .ok (.iconst 0, 1) := by decide +kernel
theorem dX7_shareCount_1 : decode cX7_shareCount 1 = .ok (.istore_n 2, 1) := by decide +kernel
theorem dX7_shareCount_2 : decode cX7_shareCount 2 = .ok (.iconst 1, 1) := by decide +kernel
theorem dX7_shareCount_3 : decode cX7_shareCount 3 = .ok (.istore_n 3, 1) := by decide +kernel
theorem dX7_shareCount_4 : decode cX7_shareCount 4 = .ok (.iload_n 3, 1) := by decide +kernel
theorem dX7_shareCount_5 : decode cX7_shareCount 5 = .ok (.bipush 24, 2) := by decide +kernel
theorem dX7_shareCount_7 : decode cX7_shareCount 7 = .ok (.if_icmp .gt 36, 3) := by decide +kernel
theorem dX7_shareCount_10 : decode cX7_shareCount 10 = .ok (.iload_n 2, 1) := by decide +kernel
theorem dX7_shareCount_11 : decode cX7_shareCount 11 = .ok (.iload_n 1, 1) := by decide +kernel
theorem dX7_shareCount_12 : decode cX7_shareCount 12 = .ok (.iload_n 3, 1) := by decide +kernel
theorem dX7_shareCount_13 : decode cX7_shareCount 13 = .ok (.invokestatic 66, 3) := by decide +kernel
theorem dX7_shareCount_16 : decode cX7_shareCount 16 = .ok (.invokestatic 69, 3) := by decide +kernel
theorem dX7_shareCount_19 : decode cX7_shareCount 19 = .ok (.ifCond .eq 15, 3) := by decide +kernel
theorem dX7_shareCount_22 : decode cX7_shareCount 22 = .ok (.aload_n 0, 1) := by decide +kernel
theorem dX7_shareCount_23 : decode cX7_shareCount 23 = .ok (.iload_n 3, 1) := by decide +kernel
theorem dX7_shareCount_24 : decode cX7_shareCount 24 = .ok (.invokevirtual 55, 3) := by decide +kernel
theorem dX7_shareCount_27 : decode cX7_shareCount 27 = .ok (.ifCond .eq 7, 3) := by decide +kernel
theorem dX7_shareCount_30 : decode cX7_shareCount 30 = .ok (.iconst 1, 1) := by decide +kernel
theorem dX7_shareCount_31 : decode cX7_shareCount 31 = .ok (.goto 4, 3) := by decide +kernel
theorem dX7_shareCount_34 : decode cX7_shareCount 34 = .ok (.iconst 0, 1) := by decide +kernel
theorem dX7_shareCount_35 : decode cX7_shareCount 35 = .ok (.iadd, 1) := by decide +kernel
theorem dX7_shareCount_36 : decode cX7_shareCount 36 = .ok (.istore_n 2, 1) := by decide +kernel
theorem dX7_shareCount_37 : decode cX7_shareCount 37 = .ok (.iinc 3 1, 3) := by decide +kernel
theorem dX7_shareCount_40 : decode cX7_shareCount 40 = .ok (.goto (-36), 3) := by decide +kernel
theorem dX7_shareCount_43 : decode cX7_shareCount 43 = .ok (.iload_n 2, 1) := by decide +kernel
theorem dX7_shareCount_44 : decode cX7_shareCount 44 = .ok (.ireturn, 1) := by decide +kernel
theorem dX7_shareCount__0 : decode cX7_shareCount_ 0 = .ok (.iconst 0, 1) := by decide +kernel
theorem dX7_shareCount__1 : decode cX7_shareCount_ 1 = .ok (.istore_n 3, 1) := by decide +kernel
theorem dX7_shareCount__2 : decode cX7_shareCount_ 2 = .ok (.iconst 1, 1) := by decide +kernel
theorem dX7_shareCount__3 : decode cX7_shareCount_ 3 = .ok (.istore 4, 2) := by decide +kernel
theorem dX7_shareCount__5 : decode cX7_shareCount_ 5 = .ok (.iload 4, 2) := by decide +kernel
theorem dX7_shareCount__7 : decode cX7_shareCount_ 7 = .ok (.bipush 24, 2) := by decide +kernel
theorem dX7_shareCount__9 : decode cX7_shareCount_ 9 = .ok (.if_icmp .gt 43, 3) := by decide +kernel
theorem dX7_shareCount__12 : decode cX7_shareCount_ 12 = .ok (.iload_n 1, 1) := by decide +kernel
theorem dX7_shareCount__13 : decode cX7_shareCount_ 13 = .ok (.iload 4, 2) := by decide +kernel
theorem dX7_shareCount__15 : decode cX7_shareCount_ 15 = .ok (.invokestatic 66, 3) := by decide +kernel
theorem dX7_shareCount__18 : decode cX7_shareCount_ 18 = .ok (.invokestatic 69, 3) := by decide +kernel
theorem dX7_shareCount__21 : decode cX7_shareCount_ 21 = .ok (.ifCond .eq 25, 3) := by decide +kernel
theorem dX7_shareCount__24 : decode cX7_shareCount_ 24 = .ok (.aload_n 0, 1) := by decide +kernel
theorem dX7_shareCount__25 : decode cX7_shareCount_ 25 = .ok (.iload 4, 2) := by decide +kernel
theorem dX7_shareCount__27 : decode cX7_shareCount_ 27 = .ok (.invokevirtual 55, 3) := by decide +kernel
theorem dX7_shareCount__30 : decode cX7_shareCount_ 30 = .ok (.ifCond .eq 16, 3) := by decide +kernel
theorem dX7_shareCount__33 : decode cX7_shareCount_ 33 = .ok (.aload_n 0, 1) := by decide +kernel
theorem dX7_shareCount__34 : decode cX7_shareCount_ 34 = .ok (.iload 4, 2) := by decide +kernel
theorem dX7_shareCount__36 : decode cX7_shareCount_ 36 = .ok (.invokevirtual 59, 3) := by decide +kernel
theorem dX7_shareCount__39 : decode cX7_shareCount_ 39 = .ok (.iload_n 2, 1) := by decide +kernel
theorem dX7_shareCount__40 : decode cX7_shareCount_ 40 = .ok (.if_icmp .ne 6, 3) := by decide +kernel
theorem dX7_shareCount__43 : decode cX7_shareCount_ 43 = .ok (.iinc 3 1, 3) := by decide +kernel
theorem dX7_shareCount__46 : decode cX7_shareCount_ 46 = .ok (.iinc 4 1, 3) := by decide +kernel
theorem dX7_shareCount__49 : decode cX7_shareCount_ 49 = .ok (.goto (-44), 3) := by decide +kernel
theorem dX7_shareCount__52 : decode cX7_shareCount_ 52 = .ok (.iload_n 3, 1) := by decide +kernel
theorem dX7_shareCount__53 : decode cX7_shareCount_ 53 = .ok (.ireturn, 1) := by decide +kernel
theorem dX7_allows_0 : decode cX7_allows 0 = .ok (.aload_n 0, 1) := by decide +kernel
theorem dX7_allows_1 : decode cX7_allows 1 = .ok (.getfield 38, 3) := by decide +kernel
theorem dX7_allows_4 : decode cX7_allows 4 = .ok (.ifnull 15, 3) := by decide +kernel
theorem dX7_allows_7 : decode cX7_allows 7 = .ok (.aload_n 0, 1) := by decide +kernel
theorem dX7_allows_8 : decode cX7_allows 8 = .ok (.getfield 38, 3) := by decide +kernel
theorem dX7_allows_11 : decode cX7_allows 11 = .ok (.getfield 73, 3) := by decide +kernel
theorem dX7_allows_14 : decode cX7_allows 14 = .ok (.iload_n 1, 1) := by decide +kernel
theorem dX7_allows_15 : decode cX7_allows 15 = .ok (.baload, 1) := by decide +kernel
theorem dX7_allows_16 : decode cX7_allows 16 = .ok (.ifCond .eq 7, 3) := by decide +kernel
theorem dX7_allows_19 : decode cX7_allows 19 = .ok (.iconst 1, 1) := by decide +kernel
theorem dX7_allows_20 : decode cX7_allows 20 = .ok (.goto 4, 3) := by decide +kernel
theorem dX7_allows_23 : decode cX7_allows 23 = .ok (.iconst 0, 1) := by decide +kernel
theorem dX7_allows_24 : decode cX7_allows 24 = .ok (.ireturn, 1) := by decide +kernel
theorem dX7_valueThrough_0 : decode cX7_valueThrough 0 = .ok (.iconst 0, 1) := by decide +kernel
theorem dX7_valueThrough_1 : decode cX7_valueThrough 1 = .ok (.istore_n 3, 1) := by decide +kernel
theorem dX7_valueThrough_2 : decode cX7_valueThrough 2 = .ok (.iconst 0, 1) := by decide +kernel
theorem dX7_valueThrough_3 : decode cX7_valueThrough 3 = .ok (.istore 4, 2) := by decide +kernel
theorem dX7_valueThrough_5 : decode cX7_valueThrough 5 = .ok (.iload 4, 2) := by decide +kernel
theorem dX7_valueThrough_7 : decode cX7_valueThrough 7 = .ok (.aload_n 0, 1) := by decide +kernel
theorem dX7_valueThrough_8 : decode cX7_valueThrough 8 = .ok (.getfield 25, 3) := by decide +kernel
theorem dX7_valueThrough_11 : decode cX7_valueThrough 11 = .ok (.if_icmp .ge 108, 3) := by decide +kernel
theorem dX7_valueThrough_14 : decode cX7_valueThrough 14 = .ok (.aload_n 0, 1) := by decide +kernel
theorem dX7_valueThrough_15 : decode cX7_valueThrough 15 = .ok (.getfield 15, 3) := by decide +kernel
theorem dX7_valueThrough_18 : decode cX7_valueThrough 18 = .ok (.aload_n 1, 1) := by decide +kernel
theorem dX7_valueThrough_19 : decode cX7_valueThrough 19 = .ok (.iload 4, 2) := by decide +kernel
theorem dX7_valueThrough_21 : decode cX7_valueThrough 21 = .ok (.iaload, 1) := by decide +kernel
theorem dX7_valueThrough_22 : decode cX7_valueThrough 22 = .ok (.iaload, 1) := by decide +kernel
theorem dX7_valueThrough_23 : decode cX7_valueThrough 23 = .ok (.istore 5, 2) := by decide +kernel
theorem dX7_valueThrough_25 : decode cX7_valueThrough 25 = .ok (.iconst 1, 1) := by decide +kernel
theorem dX7_valueThrough_26 : decode cX7_valueThrough 26 = .ok (.istore 6, 2) := by decide +kernel
theorem dX7_valueThrough_28 : decode cX7_valueThrough 28 = .ok (.iconst 0, 1) := by decide +kernel
theorem dX7_valueThrough_29 : decode cX7_valueThrough 29 = .ok (.istore 7, 2) := by decide +kernel
theorem dX7_valueThrough_31 : decode cX7_valueThrough 31 = .ok (.iload 7, 2) := by decide +kernel
theorem dX7_valueThrough_33 : decode cX7_valueThrough 33 = .ok (.aload_n 0, 1) := by decide +kernel
theorem dX7_valueThrough_34 : decode cX7_valueThrough 34 = .ok (.getfield 25, 3) := by decide +kernel
theorem dX7_valueThrough_37 : decode cX7_valueThrough 37 = .ok (.if_icmp .ge 61, 3) := by decide +kernel
theorem dX7_valueThrough_40 : decode cX7_valueThrough 40 = .ok (.iload 7, 2) := by decide +kernel
theorem dX7_valueThrough_42 : decode cX7_valueThrough 42 = .ok (.iload 4, 2) := by decide +kernel
theorem dX7_valueThrough_44 : decode cX7_valueThrough 44 = .ok (.if_icmp .eq 48, 3) := by decide +kernel
theorem dX7_valueThrough_47 : decode cX7_valueThrough 47 = .ok (.iload 5, 2) := by decide +kernel
theorem dX7_valueThrough_49 : decode cX7_valueThrough 49 = .ok (.iload_n 2, 1) := by decide +kernel
theorem dX7_valueThrough_50 : decode cX7_valueThrough 50 = .ok (.aload_n 1, 1) := by decide +kernel
theorem dX7_valueThrough_51 : decode cX7_valueThrough 51 = .ok (.iload 7, 2) := by decide +kernel
theorem dX7_valueThrough_53 : decode cX7_valueThrough 53 = .ok (.iaload, 1) := by decide +kernel
theorem dX7_valueThrough_54 : decode cX7_valueThrough 54 = .ok (.isub, 1) := by decide +kernel
theorem dX7_valueThrough_55 : decode cX7_valueThrough 55 = .ok (.sipush 1019, 3) := by decide +kernel
theorem dX7_valueThrough_58 : decode cX7_valueThrough 58 = .ok (.invokestatic 79, 3) := by decide +kernel
theorem dX7_valueThrough_61 : decode cX7_valueThrough 61 = .ok (.imul, 1) := by decide +kernel
theorem dX7_valueThrough_62 : decode cX7_valueThrough 62 = .ok (.sipush 1019, 3) := by decide +kernel
theorem dX7_valueThrough_65 : decode cX7_valueThrough 65 = .ok (.irem, 1) := by decide +kernel
theorem dX7_valueThrough_66 : decode cX7_valueThrough 66 = .ok (.istore 5, 2) := by decide +kernel
theorem dX7_valueThrough_68 : decode cX7_valueThrough 68 = .ok (.iload 6, 2) := by decide +kernel
theorem dX7_valueThrough_70 : decode cX7_valueThrough 70 = .ok (.aload_n 1, 1) := by decide +kernel
theorem dX7_valueThrough_71 : decode cX7_valueThrough 71 = .ok (.iload 4, 2) := by decide +kernel
theorem dX7_valueThrough_73 : decode cX7_valueThrough 73 = .ok (.iaload, 1) := by decide +kernel
theorem dX7_valueThrough_74 : decode cX7_valueThrough 74 = .ok (.aload_n 1, 1) := by decide +kernel
theorem dX7_valueThrough_75 : decode cX7_valueThrough 75 = .ok (.iload 7, 2) := by decide +kernel
theorem dX7_valueThrough_77 : decode cX7_valueThrough 77 = .ok (.iaload, 1) := by decide +kernel
theorem dX7_valueThrough_78 : decode cX7_valueThrough 78 = .ok (.isub, 1) := by decide +kernel
theorem dX7_valueThrough_79 : decode cX7_valueThrough 79 = .ok (.sipush 1019, 3) := by decide +kernel
theorem dX7_valueThrough_82 : decode cX7_valueThrough 82 = .ok (.invokestatic 79, 3) := by decide +kernel
theorem dX7_valueThrough_85 : decode cX7_valueThrough 85 = .ok (.imul, 1) := by decide +kernel
theorem dX7_valueThrough_86 : decode cX7_valueThrough 86 = .ok (.sipush 1019, 3) := by decide +kernel
theorem dX7_valueThrough_89 : decode cX7_valueThrough 89 = .ok (.irem, 1) := by decide +kernel
theorem dX7_valueThrough_90 : decode cX7_valueThrough 90 = .ok (.istore 6, 2) := by decide +kernel
theorem dX7_valueThrough_92 : decode cX7_valueThrough 92 = .ok (.iinc 7 1, 3) := by decide +kernel
theorem dX7_valueThrough_95 : decode cX7_valueThrough 95 = .ok (.goto (-64), 3) := by decide +kernel
theorem dX7_valueThrough_98 : decode cX7_valueThrough 98 = .ok (.iload_n 3, 1) := by decide +kernel
theorem dX7_valueThrough_99 : decode cX7_valueThrough 99 = .ok (.iload 5, 2) := by decide +kernel
theorem dX7_valueThrough_101 : decode cX7_valueThrough 101 = .ok (.iload 6, 2) := by decide +kernel
theorem dX7_valueThrough_103 : decode cX7_valueThrough 103 = .ok (.invokestatic 84, 3) := by decide +kernel
theorem dX7_valueThrough_106 : decode cX7_valueThrough 106 = .ok (.imul, 1) := by decide +kernel
theorem dX7_valueThrough_107 : decode cX7_valueThrough 107 = .ok (.iadd, 1) := by decide +kernel
theorem dX7_valueThrough_108 : decode cX7_valueThrough 108 = .ok (.sipush 1019, 3) := by decide +kernel
theorem dX7_valueThrough_111 : decode cX7_valueThrough 111 = .ok (.irem, 1) := by decide +kernel
theorem dX7_valueThrough_112 : decode cX7_valueThrough 112 = .ok (.istore_n 3, 1) := by decide +kernel
theorem dX7_valueThrough_113 : decode cX7_valueThrough 113 = .ok (.iinc 4 1, 3) := by decide +kernel
theorem dX7_valueThrough_116 : decode cX7_valueThrough 116 = .ok (.goto (-111), 3) := by decide +kernel
theorem dX7_valueThrough_119 : decode cX7_valueThrough 119 = .ok (.iload_n 3, 1) := by decide +kernel
theorem dX7_valueThrough_120 : decode cX7_valueThrough 120 = .ok (.ireturn, 1) := by decide +kernel
theorem dX8_init_0 : decode cX8_init 0 = .ok (.aload_n 0, 1) := by decide +kernel
theorem dX8_init_1 : decode cX8_init 1 = .ok (.invokespecial 3, 3) := by decide +kernel
theorem dX8_init_4 : decode cX8_init 4 = .ok (.aload_n 0, 1) := by decide +kernel
theorem dX8_init_5 : decode cX8_init 5 = .ok (.aload_n 1, 1) := by decide +kernel
theorem dX8_init_6 : decode cX8_init 6 = .ok (.putfield 9, 3) := by decide +kernel
theorem dX8_init_9 : decode cX8_init 9 = .ok (.aload_n 0, 1) := by decide +kernel
theorem dX8_init_10 : decode cX8_init 10 = .ok (.iconst (-1), 1) := by decide +kernel
theorem dX8_init_11 : decode cX8_init 11 = .ok (.putfield 15, 3) := by decide +kernel
theorem dX8_init_14 : decode cX8_init 14 = .ok (.return_, 1) := by decide +kernel
theorem dX8_read_0 : decode cX8_read 0 = .ok (.aload_n 0, 1) := by decide +kernel
theorem dX8_read_1 : decode cX8_read 1 = .ok (.aload_n 0, 1) := by decide +kernel
theorem dX8_read_2 : decode cX8_read 2 = .ok (.iconst 1, 1) := by decide +kernel
theorem dX8_read_3 : decode cX8_read 3 = .ok (.bipush 24, 2) := by decide +kernel
theorem dX8_read_5 : decode cX8_read 5 = .ok (.invokevirtual 19, 3) := by decide +kernel
theorem dX8_read_8 : decode cX8_read 8 = .ok (.putfield 23, 3) := by decide +kernel
theorem dX8_read_11 : decode cX8_read 11 = .ok (.aload_n 0, 1) := by decide +kernel
theorem dX8_read_12 : decode cX8_read 12 = .ok (.bipush 58, 2) := by decide +kernel
theorem dX8_read_14 : decode cX8_read 14 = .ok (.invokevirtual 26, 3) := by decide +kernel
theorem dX8_read_17 : decode cX8_read 17 = .ok (.aload_n 0, 1) := by decide +kernel
theorem dX8_read_18 : decode cX8_read 18 = .ok (.aload_n 0, 1) := by decide +kernel
theorem dX8_read_19 : decode cX8_read 19 = .ok (.iconst 0, 1) := by decide +kernel
theorem dX8_read_20 : decode cX8_read 20 = .ok (.sipush 1018, 3) := by decide +kernel
theorem dX8_read_23 : decode cX8_read 23 = .ok (.invokevirtual 19, 3) := by decide +kernel
theorem dX8_read_26 : decode cX8_read 26 = .ok (.putfield 30, 3) := by decide +kernel
theorem dX8_read_29 : decode cX8_read 29 = .ok (.aload_n 0, 1) := by decide +kernel
theorem dX8_read_30 : decode cX8_read 30 = .ok (.bipush 64, 2) := by decide +kernel
theorem dX8_read_32 : decode cX8_read 32 = .ok (.invokevirtual 26, 3) := by decide +kernel
theorem dX8_read_35 : decode cX8_read 35 = .ok (.aload_n 0, 1) := by decide +kernel
theorem dX8_read_36 : decode cX8_read 36 = .ok (.aload_n 0, 1) := by decide +kernel
theorem dX8_read_37 : decode cX8_read 37 = .ok (.iconst 1, 1) := by decide +kernel
theorem dX8_read_38 : decode cX8_read 38 = .ok (.sipush 9999, 3) := by decide +kernel
theorem dX8_read_41 : decode cX8_read 41 = .ok (.invokevirtual 19, 3) := by decide +kernel
theorem dX8_read_44 : decode cX8_read 44 = .ok (.putfield 33, 3) := by decide +kernel
theorem dX8_read_47 : decode cX8_read 47 = .ok (.aload_n 0, 1) := by decide +kernel
theorem dX8_read_48 : decode cX8_read 48 = .ok (.bipush 35, 2) := by decide +kernel
theorem dX8_read_50 : decode cX8_read 50 = .ok (.invokevirtual 26, 3) := by decide +kernel
theorem dX8_read_53 : decode cX8_read 53 = .ok (.aload_n 0, 1) := by decide +kernel
theorem dX8_read_54 : decode cX8_read 54 = .ok (.bipush 48, 2) := by decide +kernel
theorem dX8_read_56 : decode cX8_read 56 = .ok (.aload_n 0, 1) := by decide +kernel
theorem dX8_read_57 : decode cX8_read 57 = .ok (.getfield 23, 3) := by decide +kernel
theorem dX8_read_60 : decode cX8_read 60 = .ok (.aload_n 0, 1) := by decide +kernel
theorem dX8_read_61 : decode cX8_read 61 = .ok (.getfield 30, 3) := by decide +kernel
theorem dX8_read_64 : decode cX8_read 64 = .ok (.aload_n 0, 1) := by decide +kernel
theorem dX8_read_65 : decode cX8_read 65 = .ok (.getfield 33, 3) := by decide +kernel
theorem dX8_read_68 : decode cX8_read 68 = .ok (.invokestatic 36, 3) := by decide +kernel
theorem dX8_read_71 : decode cX8_read 71 = .ok (.iadd, 1) := by decide +kernel
theorem dX8_read_72 : decode cX8_read 72 = .ok (.i2c, 1) := by decide +kernel
theorem dX8_read_73 : decode cX8_read 73 = .ok (.invokevirtual 26, 3) := by decide +kernel
theorem dX8_read_76 : decode cX8_read 76 = .ok (.aload_n 0, 1) := by decide +kernel
theorem dX8_read_77 : decode cX8_read 77 = .ok (.getfield 15, 3) := by decide +kernel
theorem dX8_read_80 : decode cX8_read 80 = .ok (.ifCond .ge 25, 3) := by decide +kernel
theorem dX8_read_83 : decode cX8_read 83 = .ok (.aload_n 0, 1) := by decide +kernel
theorem dX8_read_84 : decode cX8_read 84 = .ok (.getfield 42, 3) := by decide +kernel
theorem dX8_read_87 : decode cX8_read 87 = .ok (.aload_n 0, 1) := by decide +kernel
theorem dX8_read_88 : decode cX8_read 88 = .ok (.getfield 9, 3) := by decide +kernel
theorem dX8_read_91 : decode cX8_read 91 = .ok (.invokevirtual 45, 3) := by decide +kernel
theorem dX8_read_94 : decode cX8_read 94 = .ok (.if_icmp .ge 11, 3) := by decide +kernel
theorem dX8_read_97 : decode cX8_read 97 = .ok (.aload_n 0, 1) := by decide +kernel
theorem dX8_read_98 : decode cX8_read 98 = .ok (.aload_n 0, 1) := by decide +kernel
theorem dX8_read_99 : decode cX8_read 99 = .ok (.getfield 42, 3) := by decide +kernel
theorem dX8_read_102 : decode cX8_read 102 = .ok (.putfield 15, 3) := by decide +kernel
theorem dX8_read_105 : decode cX8_read 105 = .ok (.aload_n 0, 1) := by decide +kernel
theorem dX8_read_106 : decode cX8_read 106 = .ok (.getfield 15, 3) := by decide +kernel
theorem dX8_read_109 : decode cX8_read 109 = .ok (.ireturn, 1) := by decide +kernel
theorem dX8_readNumber_0 : decode cX8_readNumber 0 = .ok (.aload_n 0, 1) := by decide +kernel
theorem dX8_readNumber_1 : decode cX8_readNumber 1 = .ok (.getfield 15, 3) := by decide +kernel
theorem dX8_readNumber_4 : decode cX8_readNumber 4 = .ok (.ifCond .lt 5, 3) := by decide +kernel
theorem dX8_readNumber_7 : decode cX8_readNumber 7 = .ok (.iconst 0, 1) := by decide +kernel
theorem dX8_readNumber_8 : decode cX8_readNumber 8 = .ok (.ireturn, 1) := by decide +kernel
theorem dX8_readNumber_9 : decode cX8_readNumber 9 = .ok (.aload_n 0, 1) := by decide +kernel
theorem dX8_readNumber_10 : decode cX8_readNumber 10 = .ok (.getfield 42, 3) := by decide +kernel
theorem dX8_readNumber_13 : decode cX8_readNumber 13 = .ok (.istore_n 3, 1) := by decide +kernel
theorem dX8_readNumber_14 : decode cX8_readNumber 14 = .ok (.iconst 0, 1) := by decide +kernel
theorem dX8_readNumber_15 : decode cX8_readNumber 15 = .ok (.istore 4, 2) := by decide +kernel
theorem dX8_readNumber_17 : decode cX8_readNumber 17 = .ok (.aload_n 0, 1) := by decide +kernel
theorem dX8_readNumber_18 : decode cX8_readNumber 18 = .ok (.getfield 42, 3) := by decide +kernel
theorem dX8_readNumber_21 : decode cX8_readNumber 21 = .ok (.iload_n 3, 1) := by decide +kernel
theorem dX8_readNumber_22 : decode cX8_readNumber 22 = .ok (.iconst 4, 1) := by decide +kernel
theorem dX8_readNumber_23 : decode cX8_readNumber 23 = .ok (.iadd, 1) := by decide +kernel
theorem dX8_readNumber_24 : decode cX8_readNumber 24 = .ok (.if_icmp .ge 62, 3) := by decide +kernel
theorem dX8_readNumber_27 : decode cX8_readNumber 27 = .ok (.aload_n 0, 1) := by decide +kernel
theorem dX8_readNumber_28 : decode cX8_readNumber 28 = .ok (.aload_n 0, 1) := by decide +kernel
theorem dX8_readNumber_29 : decode cX8_readNumber 29 = .ok (.getfield 42, 3) := by decide +kernel
theorem dX8_readNumber_32 : decode cX8_readNumber 32 = .ok (.invokevirtual 51, 3) := by decide +kernel
theorem dX8_readNumber_35 : decode cX8_readNumber 35 = .ok (.ifCond .eq 51, 3) := by decide +kernel
theorem dX8_readNumber_38 : decode cX8_readNumber 38 = .ok (.aload_n 0, 1) := by decide +kernel
theorem dX8_readNumber_39 : decode cX8_readNumber 39 = .ok (.getfield 42, 3) := by decide +kernel
theorem dX8_readNumber_42 : decode cX8_readNumber 42 = .ok (.iload_n 3, 1) := by decide +kernel
theorem dX8_readNumber_43 : decode cX8_readNumber 43 = .ok (.if_icmp .eq 8, 3) := by decide +kernel
theorem dX8_readNumber_46 : decode cX8_readNumber 46 = .ok (.iload 4, 2) := by decide +kernel
theorem dX8_readNumber_48 : decode cX8_readNumber 48 = .ok (.ifCond .eq 38, 3) := by decide +kernel
theorem dX8_readNumber_51 : decode cX8_readNumber 51 = .ok (.bipush 10, 2) := by decide +kernel
theorem dX8_readNumber_53 : decode cX8_readNumber 53 = .ok (.iload 4, 2) := by decide +kernel
theorem dX8_readNumber_55 : decode cX8_readNumber 55 = .ok (.imul, 1) := by decide +kernel
theorem dX8_readNumber_56 : decode cX8_readNumber 56 = .ok (.aload_n 0, 1) := by decide +kernel
theorem dX8_readNumber_57 : decode cX8_readNumber 57 = .ok (.getfield 9, 3) := by decide +kernel
theorem dX8_readNumber_60 : decode cX8_readNumber 60 = .ok (.aload_n 0, 1) := by decide +kernel
theorem dX8_readNumber_61 : decode cX8_readNumber 61 = .ok (.getfield 42, 3) := by decide +kernel
theorem dX8_readNumber_64 : decode cX8_readNumber 64 = .ok (.invokevirtual 55, 3) := by decide +kernel
theorem dX8_readNumber_67 : decode cX8_readNumber 67 = .ok (.bipush 48, 2) := by decide +kernel
theorem dX8_readNumber_69 : decode cX8_readNumber 69 = .ok (.isub, 1) := by decide +kernel
theorem dX8_readNumber_70 : decode cX8_readNumber 70 = .ok (.iadd, 1) := by decide +kernel
theorem dX8_readNumber_71 : decode cX8_readNumber 71 = .ok (.istore 4, 2) := by decide +kernel
theorem dX8_readNumber_73 : decode cX8_readNumber 73 = .ok (.aload_n 0, 1) := by decide +kernel
theorem dX8_readNumber_74 : decode cX8_readNumber 74 = .ok (.dup, 1) := by decide +kernel
theorem dX8_readNumber_75 : decode cX8_readNumber 75 = .ok (.getfield 42, 3) := by decide +kernel
theorem dX8_readNumber_78 : decode cX8_readNumber 78 = .ok (.iconst 1, 1) := by decide +kernel
theorem dX8_readNumber_79 : decode cX8_readNumber 79 = .ok (.iadd, 1) := by decide +kernel
theorem dX8_readNumber_80 : decode cX8_readNumber 80 = .ok (.putfield 42, 3) := by decide +kernel
theorem dX8_readNumber_83 : decode cX8_readNumber 83 = .ok (.goto (-66), 3) := by decide +kernel
theorem dX8_readNumber_86 : decode cX8_readNumber 86 = .ok (.aload_n 0, 1) := by decide +kernel
theorem dX8_readNumber_87 : decode cX8_readNumber 87 = .ok (.getfield 42, 3) := by decide +kernel
theorem dX8_readNumber_90 : decode cX8_readNumber 90 = .ok (.iload_n 3, 1) := by decide +kernel
theorem dX8_readNumber_91 : decode cX8_readNumber 91 = .ok (.if_icmp .eq 15, 3) := by decide +kernel
theorem dX8_readNumber_94 : decode cX8_readNumber 94 = .ok (.iload 4, 2) := by decide +kernel
theorem dX8_readNumber_96 : decode cX8_readNumber 96 = .ok (.iload_n 1, 1) := by decide +kernel
theorem dX8_readNumber_97 : decode cX8_readNumber 97 = .ok (.if_icmp .lt 9, 3) := by decide +kernel
theorem dX8_readNumber_100 : decode cX8_readNumber 100 = .ok (.iload 4, 2) := by decide +kernel
theorem dX8_readNumber_102 : decode cX8_readNumber 102 = .ok (.iload_n 2, 1) := by decide +kernel
theorem dX8_readNumber_103 : decode cX8_readNumber 103 = .ok (.if_icmp .le 8, 3) := by decide +kernel
theorem dX8_readNumber_106 : decode cX8_readNumber 106 = .ok (.aload_n 0, 1) := by decide +kernel
theorem dX8_readNumber_107 : decode cX8_readNumber 107 = .ok (.iload_n 3, 1) := by decide +kernel
theorem dX8_readNumber_108 : decode cX8_readNumber 108 = .ok (.putfield 15, 3) := by decide +kernel
theorem dX8_readNumber_111 : decode cX8_readNumber 111 = .ok (.iload 4, 2) := by decide +kernel
theorem dX8_readNumber_113 : decode cX8_readNumber 113 = .ok (.ireturn, 1) := by decide +kernel
theorem dX8_readSign_0 : decode cX8_readSign 0 = .ok (.aload_n 0, 1) := by decide +kernel
theorem dX8_readSign_1 : decode cX8_readSign 1 = .ok (.getfield 15, 3) := by decide +kernel
theorem dX8_readSign_4 : decode cX8_readSign 4 = .ok (.ifCond .lt 4, 3) := by decide +kernel
theorem dX8_readSign_7 : decode cX8_readSign 7 = .ok (.return_, 1) := by decide +kernel
theorem dX8_readSign_8 : decode cX8_readSign 8 = .ok (.aload_n 0, 1) := by decide +kernel
theorem dX8_readSign_9 : decode cX8_readSign 9 = .ok (.getfield 42, 3) := by decide +kernel
theorem dX8_readSign_12 : decode cX8_readSign 12 = .ok (.aload_n 0, 1) := by decide +kernel
theorem dX8_readSign_13 : decode cX8_readSign 13 = .ok (.getfield 9, 3) := by decide +kernel
theorem dX8_readSign_16 : decode cX8_readSign 16 = .ok (.invokevirtual 45, 3) := by decide +kernel
theorem dX8_readSign_19 : decode cX8_readSign 19 = .ok (.if_icmp .ge 31, 3) := by decide +kernel
theorem dX8_readSign_22 : decode cX8_readSign 22 = .ok (.aload_n 0, 1) := by decide +kernel
theorem dX8_readSign_23 : decode cX8_readSign 23 = .ok (.getfield 9, 3) := by decide +kernel
theorem dX8_readSign_26 : decode cX8_readSign 26 = .ok (.aload_n 0, 1) := by decide +kernel
theorem dX8_readSign_27 : decode cX8_readSign 27 = .ok (.getfield 42, 3) := by decide +kernel
theorem dX8_readSign_30 : decode cX8_readSign 30 = .ok (.invokevirtual 55, 3) := by decide +kernel
theorem dX8_readSign_33 : decode cX8_readSign 33 = .ok (.iload_n 1, 1) := by decide +kernel
theorem dX8_readSign_34 : decode cX8_readSign 34 = .ok (.if_icmp .ne 16, 3) := by decide +kernel
theorem dX8_readSign_37 : decode cX8_readSign 37 = .ok (.aload_n 0, 1) := by decide +kernel
theorem dX8_readSign_38 : decode cX8_readSign 38 = .ok (.dup, 1) := by decide +kernel
theorem dX8_readSign_39 : decode cX8_readSign 39 = .ok (.getfield 42, 3) := by decide +kernel
theorem dX8_readSign_42 : decode cX8_readSign 42 = .ok (.iconst 1, 1) := by decide +kernel
theorem dX8_readSign_43 : decode cX8_readSign 43 = .ok (.iadd, 1) := by decide +kernel
theorem dX8_readSign_44 : decode cX8_readSign 44 = .ok (.putfield 42, 3) := by decide +kernel
theorem dX8_readSign_47 : decode cX8_readSign 47 = .ok (.goto 11, 3) := by decide +kernel
theorem dX8_readSign_50 : decode cX8_readSign 50 = .ok (.aload_n 0, 1) := by decide +kernel
theorem dX8_readSign_51 : decode cX8_readSign 51 = .ok (.aload_n 0, 1) := by decide +kernel
theorem dX8_readSign_52 : decode cX8_readSign 52 = .ok (.getfield 42, 3) := by decide +kernel
theorem dX8_readSign_55 : decode cX8_readSign 55 = .ok (.putfield 15, 3) := by decide +kernel
theorem dX8_readSign_58 : decode cX8_readSign 58 = .ok (.return_, 1) := by decide +kernel
theorem dX8_isDigitAt_0 : decode cX8_isDigitAt 0 = .ok (.iload_n 1, 1) := by decide +kernel
theorem dX8_isDigitAt_1 : decode cX8_isDigitAt 1 = .ok (.aload_n 0, 1) := by decide +kernel
theorem dX8_isDigitAt_2 : decode cX8_isDigitAt 2 = .ok (.getfield 9, 3) := by decide +kernel
theorem dX8_isDigitAt_5 : decode cX8_isDigitAt 5 = .ok (.invokevirtual 45, 3) := by decide +kernel
theorem dX8_isDigitAt_8 : decode cX8_isDigitAt 8 = .ok (.if_icmp .ge 33, 3) := by decide +kernel
theorem dX8_isDigitAt_11 : decode cX8_isDigitAt 11 = .ok (.aload_n 0, 1) := by decide +kernel
theorem dX8_isDigitAt_12 : decode cX8_isDigitAt 12 = .ok (.getfield 9, 3) := by decide +kernel
theorem dX8_isDigitAt_15 : decode cX8_isDigitAt 15 = .ok (.iload_n 1, 1) := by decide +kernel
theorem dX8_isDigitAt_16 : decode cX8_isDigitAt 16 = .ok (.invokevirtual 55, 3) := by decide +kernel
theorem dX8_isDigitAt_19 : decode cX8_isDigitAt 19 = .ok (.bipush 48, 2) := by decide +kernel
theorem dX8_isDigitAt_21 : decode cX8_isDigitAt 21 = .ok (.if_icmp .lt 20, 3) := by decide +kernel
theorem dX8_isDigitAt_24 : decode cX8_isDigitAt 24 = .ok (.aload_n 0, 1) := by decide +kernel
theorem dX8_isDigitAt_25 : decode cX8_isDigitAt 25 = .ok (.getfield 9, 3) := by decide +kernel
theorem dX8_isDigitAt_28 : decode cX8_isDigitAt 28 = .ok (.iload_n 1, 1) := by decide +kernel
theorem dX8_isDigitAt_29 : decode cX8_isDigitAt 29 = .ok (.invokevirtual 55, 3) := by decide +kernel
theorem dX8_isDigitAt_32 : decode cX8_isDigitAt 32 = .ok (.bipush 57, 2) := by decide +kernel
theorem dX8_isDigitAt_34 : decode cX8_isDigitAt 34 = .ok (.if_icmp .gt 7, 3) := by decide +kernel
theorem dX8_isDigitAt_37 : decode cX8_isDigitAt 37 = .ok (.iconst 1, 1) := by decide +kernel
theorem dX8_isDigitAt_38 : decode cX8_isDigitAt 38 = .ok (.goto 4, 3) := by decide +kernel
theorem dX8_isDigitAt_41 : decode cX8_isDigitAt 41 = .ok (.iconst 0, 1) := by decide +kernel
theorem dX8_isDigitAt_42 : decode cX8_isDigitAt 42 = .ok (.ireturn, 1) := by decide +kernel
theorem dX9_init_0 : decode cX9_init 0 = .ok (.aload_n 0, 1) := by decide +kernel
theorem dX9_init_1 : decode cX9_init 1 = .ok (.invokespecial 3, 3) := by decide +kernel
theorem dX9_init_4 : decode cX9_init 4 = .ok (.aload_n 0, 1) := by decide +kernel
theorem dX9_init_5 : decode cX9_init 5 = .ok (.iconst 1, 1) := by decide +kernel
theorem dX9_init_6 : decode cX9_init 6 = .ok (.putfield 9, 3) := by decide +kernel
theorem dX9_init_9 : decode cX9_init 9 = .ok (.aload_n 0, 1) := by decide +kernel
theorem dX9_init_10 : decode cX9_init 10 = .ok (.bipush 8, 2) := by decide +kernel
theorem dX9_init_12 : decode cX9_init 12 = .ok (.newarray .int, 2) := by decide +kernel
theorem dX9_init_14 : decode cX9_init 14 = .ok (.putfield 15, 3) := by decide +kernel
theorem dX9_init_17 : decode cX9_init 17 = .ok (.iconst 0, 1) := by decide +kernel
theorem dX9_init_18 : decode cX9_init 18 = .ok (.istore_n 1, 1) := by decide +kernel
theorem dX9_init_19 : decode cX9_init 19 = .ok (.iload_n 1, 1) := by decide +kernel
theorem dX9_init_20 : decode cX9_init 20 = .ok (.bipush 8, 2) := by decide +kernel
theorem dX9_init_22 : decode cX9_init 22 = .ok (.if_icmp .ge 16, 3) := by decide +kernel
theorem dX9_init_25 : decode cX9_init 25 = .ok (.aload_n 0, 1) := by decide +kernel
theorem dX9_init_26 : decode cX9_init 26 = .ok (.getfield 15, 3) := by decide +kernel
theorem dX9_init_29 : decode cX9_init 29 = .ok (.iload_n 1, 1) := by decide +kernel
theorem dX9_init_30 : decode cX9_init 30 = .ok (.iconst 1, 1) := by decide +kernel
theorem dX9_init_31 : decode cX9_init 31 = .ok (.iastore, 1) := by decide +kernel
theorem dX9_init_32 : decode cX9_init 32 = .ok (.iinc 1 1, 3) := by decide +kernel
theorem dX9_init_35 : decode cX9_init 35 = .ok (.goto (-16), 3) := by decide +kernel
theorem dX9_init_38 : decode cX9_init 38 = .ok (.aload_n 0, 1) := by decide +kernel
theorem dX9_init_39 : decode cX9_init 39 = .ok (.sipush 255, 3) := by decide +kernel
theorem dX9_init_42 : decode cX9_init 42 = .ok (.putfield 19, 3) := by decide +kernel
theorem dX9_init_45 : decode cX9_init 45 = .ok (.aload_n 0, 1) := by decide +kernel
theorem dX9_init_46 : decode cX9_init 46 = .ok (.iconst 4, 1) := by decide +kernel
theorem dX9_init_47 : decode cX9_init 47 = .ok (.anewarray 22, 3) := by decide +kernel
theorem dX9_init_50 : decode cX9_init 50 = .ok (.putfield 24, 3) := by decide +kernel
theorem dX9_init_53 : decode cX9_init 53 = .ok (.iconst 0, 1) := by decide +kernel
theorem dX9_init_54 : decode cX9_init 54 = .ok (.istore_n 1, 1) := by decide +kernel
theorem dX9_init_55 : decode cX9_init 55 = .ok (.iload_n 1, 1) := by decide +kernel
theorem dX9_init_56 : decode cX9_init 56 = .ok (.iconst 4, 1) := by decide +kernel
theorem dX9_init_57 : decode cX9_init 57 = .ok (.if_icmp .ge 22, 3) := by decide +kernel
theorem dX9_init_60 : decode cX9_init 60 = .ok (.aload_n 0, 1) := by decide +kernel
theorem dX9_init_61 : decode cX9_init 61 = .ok (.getfield 24, 3) := by decide +kernel
theorem dX9_init_64 : decode cX9_init 64 = .ok (.iload_n 1, 1) := by decide +kernel
theorem dX9_init_65 : decode cX9_init 65 = .ok (.new 22, 3) := by decide +kernel
theorem dX9_init_68 : decode cX9_init 68 = .ok (.dup, 1) := by decide +kernel
theorem dX9_init_69 : decode cX9_init 69 = .ok (.invokespecial 28, 3) := by decide +kernel
theorem dX9_init_72 : decode cX9_init 72 = .ok (.aastore, 1) := by decide +kernel
theorem dX9_init_73 : decode cX9_init 73 = .ok (.iinc 1 1, 3) := by decide +kernel
theorem dX9_init_76 : decode cX9_init 76 = .ok (.goto (-21), 3) := by decide +kernel
theorem dX9_init_79 : decode cX9_init 79 = .ok (.aload_n 0, 1) := by decide +kernel
theorem dX9_init_80 : decode cX9_init 80 = .ok (.bipush 20, 2) := by decide +kernel
theorem dX9_init_82 : decode cX9_init 82 = .ok (.newarray .int, 2) := by decide +kernel
theorem dX9_init_84 : decode cX9_init 84 = .ok (.putfield 29, 3) := by decide +kernel
theorem dX9_init_87 : decode cX9_init 87 = .ok (.return_, 1) := by decide +kernel
theorem dX9_copyFrom_0 : decode cX9_copyFrom 0 = .ok (.aload_n 0, 1) := by decide +kernel
theorem dX9_copyFrom_1 : decode cX9_copyFrom 1 = .ok (.aload_n 1, 1) := by decide +kernel
theorem dX9_copyFrom_2 : decode cX9_copyFrom 2 = .ok (.getfield 9, 3) := by decide +kernel
theorem dX9_copyFrom_5 : decode cX9_copyFrom 5 = .ok (.putfield 9, 3) := by decide +kernel
theorem dX9_copyFrom_8 : decode cX9_copyFrom 8 = .ok (.aload_n 1, 1) := by decide +kernel
theorem dX9_copyFrom_9 : decode cX9_copyFrom 9 = .ok (.getfield 15, 3) := by decide +kernel
theorem dX9_copyFrom_12 : decode cX9_copyFrom 12 = .ok (.iconst 0, 1) := by decide +kernel
theorem dX9_copyFrom_13 : decode cX9_copyFrom 13 = .ok (.aload_n 0, 1) := by decide +kernel
theorem dX9_copyFrom_14 : decode cX9_copyFrom 14 = .ok (.getfield 15, 3) := by decide +kernel
theorem dX9_copyFrom_17 : decode cX9_copyFrom 17 = .ok (.iconst 0, 1) := by decide +kernel
theorem dX9_copyFrom_18 : decode cX9_copyFrom 18 = .ok (.bipush 8, 2) := by decide +kernel
theorem dX9_copyFrom_20 : decode cX9_copyFrom 20 = .ok (.invokestatic 32, 3) := by decide +kernel
theorem dX9_copyFrom_23 : decode cX9_copyFrom 23 = .ok (.aload_n 0, 1) := by decide +kernel
theorem dX9_copyFrom_24 : decode cX9_copyFrom 24 = .ok (.aload_n 1, 1) := by decide +kernel
theorem dX9_copyFrom_25 : decode cX9_copyFrom 25 = .ok (.getfield 19, 3) := by decide +kernel
theorem dX9_copyFrom_28 : decode cX9_copyFrom 28 = .ok (.putfield 19, 3) := by decide +kernel
theorem dX9_copyFrom_31 : decode cX9_copyFrom 31 = .ok (.iconst 0, 1) := by decide +kernel
theorem dX9_copyFrom_32 : decode cX9_copyFrom 32 = .ok (.istore_n 2, 1) := by decide +kernel
theorem dX9_copyFrom_33 : decode cX9_copyFrom 33 = .ok (.iload_n 2, 1) := by decide +kernel
theorem dX9_copyFrom_34 : decode cX9_copyFrom 34 = .ok (.iconst 4, 1) := by decide +kernel
theorem dX9_copyFrom_35 : decode cX9_copyFrom 35 = .ok (.if_icmp .ge 24, 3) := by decide +kernel
theorem dX9_copyFrom_38 : decode cX9_copyFrom 38 = .ok (.aload_n 0, 1) := by decide +kernel
theorem dX9_copyFrom_39 : decode cX9_copyFrom 39 = .ok (.getfield 24, 3) := by decide +kernel
theorem dX9_copyFrom_42 : decode cX9_copyFrom 42 = .ok (.iload_n 2, 1) := by decide +kernel
theorem dX9_copyFrom_43 : decode cX9_copyFrom 43 = .ok (.aaload, 1) := by decide +kernel
theorem dX9_copyFrom_44 : decode cX9_copyFrom 44 = .ok (.aload_n 1, 1) := by decide +kernel
theorem dX9_copyFrom_45 : decode cX9_copyFrom 45 = .ok (.getfield 24, 3) := by decide +kernel
theorem dX9_copyFrom_48 : decode cX9_copyFrom 48 = .ok (.iload_n 2, 1) := by decide +kernel
theorem dX9_copyFrom_49 : decode cX9_copyFrom 49 = .ok (.aaload, 1) := by decide +kernel
theorem dX9_copyFrom_50 : decode cX9_copyFrom 50 = .ok (.invokevirtual 38, 3) := by decide +kernel
theorem dX9_copyFrom_53 : decode cX9_copyFrom 53 = .ok (.iinc 2 1, 3) := by decide +kernel
theorem dX9_copyFrom_56 : decode cX9_copyFrom 56 = .ok (.goto (-23), 3) := by decide +kernel
theorem dX9_copyFrom_59 : decode cX9_copyFrom 59 = .ok (.aload_n 1, 1) := by decide +kernel
theorem dX9_copyFrom_60 : decode cX9_copyFrom 60 = .ok (.getfield 29, 3) := by decide +kernel
theorem dX9_copyFrom_63 : decode cX9_copyFrom 63 = .ok (.iconst 0, 1) := by decide +kernel
theorem dX9_copyFrom_64 : decode cX9_copyFrom 64 = .ok (.aload_n 0, 1) := by decide +kernel
theorem dX9_copyFrom_65 : decode cX9_copyFrom 65 = .ok (.getfield 29, 3) := by decide +kernel
theorem dX9_copyFrom_68 : decode cX9_copyFrom 68 = .ok (.iconst 0, 1) := by decide +kernel
theorem dX9_copyFrom_69 : decode cX9_copyFrom 69 = .ok (.bipush 20, 2) := by decide +kernel
theorem dX9_copyFrom_71 : decode cX9_copyFrom 71 = .ok (.invokestatic 32, 3) := by decide +kernel
theorem dX9_copyFrom_74 : decode cX9_copyFrom 74 = .ok (.aload_n 0, 1) := by decide +kernel
theorem dX9_copyFrom_75 : decode cX9_copyFrom 75 = .ok (.aload_n 1, 1) := by decide +kernel
theorem dX9_copyFrom_76 : decode cX9_copyFrom 76 = .ok (.getfield 42, 3) := by decide +kernel
theorem dX9_copyFrom_79 : decode cX9_copyFrom 79 = .ok (.putfield 42, 3) := by decide +kernel
theorem dX9_copyFrom_82 : decode cX9_copyFrom 82 = .ok (.aload_n 0, 1) := by decide +kernel
theorem dX9_copyFrom_83 : decode cX9_copyFrom 83 = .ok (.aload_n 1, 1) := by decide +kernel
theorem dX9_copyFrom_84 : decode cX9_copyFrom 84 = .ok (.getfield 45, 3) := by decide +kernel
theorem dX9_copyFrom_87 : decode cX9_copyFrom 87 = .ok (.putfield 45, 3) := by decide +kernel
theorem dX9_copyFrom_90 : decode cX9_copyFrom 90 = .ok (.return_, 1) := by decide +kernel
theorem dX9_nextNumber_0 : decode cX9_nextNumber 0 = .ok (.aload_n 0, 1) := by decide +kernel
theorem dX9_nextNumber_1 : decode cX9_nextNumber 1 = .ok (.aload_n 0, 1) := by decide +kernel
theorem dX9_nextNumber_2 : decode cX9_nextNumber 2 = .ok (.getfield 9, 3) := by decide +kernel
theorem dX9_nextNumber_5 : decode cX9_nextNumber 5 = .ok (.ldc 48, 2) := by decide +kernel
theorem dX9_nextNumber_7 : decode cX9_nextNumber 7 = .ok (.imul, 1) := by decide +kernel
theorem dX9_nextNumber_8 : decode cX9_nextNumber 8 = .ok (.sipush 12345, 3) := by decide +kernel
theorem dX9_nextNumber_11 : decode cX9_nextNumber 11 = .ok (.iadd, 1) := by decide +kernel
theorem dX9_nextNumber_12 : decode cX9_nextNumber 12 = .ok (.putfield 9, 3) := by decide +kernel
theorem dX9_nextNumber_15 : decode cX9_nextNumber 15 = .ok (.aload_n 0, 1) := by decide +kernel
theorem dX9_nextNumber_16 : decode cX9_nextNumber 16 = .ok (.getfield 9, 3) := by decide +kernel
theorem dX9_nextNumber_19 : decode cX9_nextNumber 19 = .ok (.bipush 16, 2) := by decide +kernel
theorem dX9_nextNumber_21 : decode cX9_nextNumber 21 = .ok (.iushr, 1) := by decide +kernel
theorem dX9_nextNumber_22 : decode cX9_nextNumber 22 = .ok (.sipush 1019, 3) := by decide +kernel
theorem dX9_nextNumber_25 : decode cX9_nextNumber 25 = .ok (.irem, 1) := by decide +kernel
theorem dX9_nextNumber_26 : decode cX9_nextNumber 26 = .ok (.ireturn, 1) := by decide +kernel
theorem dX9_note_0 : decode cX9_note 0 = .ok (.aload_n 0, 1) := by decide +kernel
theorem dX9_note_1 : decode cX9_note 1 = .ok (.aload_n 0, 1) := by decide +kernel
theorem dX9_note_2 : decode cX9_note 2 = .ok (.getfield 42, 3) := by decide +kernel
theorem dX9_note_5 : decode cX9_note 5 = .ok (.iconst 1, 1) := by decide +kernel
theorem dX9_note_6 : decode cX9_note 6 = .ok (.iadd, 1) := by decide +kernel
theorem dX9_note_7 : decode cX9_note 7 = .ok (.bipush 20, 2) := by decide +kernel
theorem dX9_note_9 : decode cX9_note 9 = .ok (.irem, 1) := by decide +kernel
theorem dX9_note_10 : decode cX9_note 10 = .ok (.putfield 42, 3) := by decide +kernel
theorem dX9_note_13 : decode cX9_note 13 = .ok (.aload_n 0, 1) := by decide +kernel
theorem dX9_note_14 : decode cX9_note 14 = .ok (.getfield 29, 3) := by decide +kernel
theorem dX9_note_17 : decode cX9_note 17 = .ok (.aload_n 0, 1) := by decide +kernel
theorem dX9_note_18 : decode cX9_note 18 = .ok (.getfield 42, 3) := by decide +kernel
theorem dX9_note_21 : decode cX9_note 21 = .ok (.iload_n 1, 1) := by decide +kernel
theorem dX9_note_22 : decode cX9_note 22 = .ok (.iastore, 1) := by decide +kernel
theorem dX9_note_23 : decode cX9_note 23 = .ok (.aload_n 0, 1) := by decide +kernel
theorem dX9_note_24 : decode cX9_note 24 = .ok (.aload_n 0, 1) := by decide +kernel
theorem dX9_note_25 : decode cX9_note 25 = .ok (.getfield 45, 3) := by decide +kernel
theorem dX9_note_28 : decode cX9_note 28 = .ok (.iconst 1, 1) := by decide +kernel
theorem dX9_note_29 : decode cX9_note 29 = .ok (.iadd, 1) := by decide +kernel
theorem dX9_note_30 : decode cX9_note 30 = .ok (.bipush 20, 2) := by decide +kernel
theorem dX9_note_32 : decode cX9_note 32 = .ok (.invokestatic 49, 3) := by decide +kernel
theorem dX9_note_35 : decode cX9_note 35 = .ok (.putfield 45, 3) := by decide +kernel
theorem dX9_note_38 : decode cX9_note 38 = .ok (.return_, 1) := by decide +kernel
theorem dX9_isDealtTo_0 : decode cX9_isDealtTo 0 = .ok (.iload_n 1, 1) := by decide +kernel
theorem dX9_isDealtTo_1 : decode cX9_isDealtTo 1 = .ok (.invokestatic 55, 3) := by decide +kernel
theorem dX9_isDealtTo_4 : decode cX9_isDealtTo 4 = .ok (.istore_n 2, 1) := by decide +kernel
theorem dX9_isDealtTo_5 : decode cX9_isDealtTo 5 = .ok (.aload_n 0, 1) := by decide +kernel
theorem dX9_isDealtTo_6 : decode cX9_isDealtTo 6 = .ok (.getfield 19, 3) := by decide +kernel
theorem dX9_isDealtTo_9 : decode cX9_isDealtTo 9 = .ok (.iload_n 2, 1) := by decide +kernel
theorem dX9_isDealtTo_10 : decode cX9_isDealtTo 10 = .ok (.invokestatic 59, 3) := by decide +kernel
theorem dX9_isDealtTo_13 : decode cX9_isDealtTo 13 = .ok (.ifCond .eq 22, 3) := by decide +kernel
theorem dX9_isDealtTo_16 : decode cX9_isDealtTo 16 = .ok (.iload_n 1, 1) := by decide +kernel
theorem dX9_isDealtTo_17 : decode cX9_isDealtTo 17 = .ok (.iload_n 2, 1) := by decide +kernel
theorem dX9_isDealtTo_18 : decode cX9_isDealtTo 18 = .ok (.invokestatic 63, 3) := by decide +kernel
theorem dX9_isDealtTo_21 : decode cX9_isDealtTo 21 = .ok (.isub, 1) := by decide +kernel
theorem dX9_isDealtTo_22 : decode cX9_isDealtTo 22 = .ok (.aload_n 0, 1) := by decide +kernel
theorem dX9_isDealtTo_23 : decode cX9_isDealtTo 23 = .ok (.getfield 15, 3) := by decide +kernel
theorem dX9_isDealtTo_26 : decode cX9_isDealtTo 26 = .ok (.iload_n 2, 1) := by decide +kernel
theorem dX9_isDealtTo_27 : decode cX9_isDealtTo 27 = .ok (.iaload, 1) := by decide +kernel
theorem dX9_isDealtTo_28 : decode cX9_isDealtTo 28 = .ok (.if_icmp .ge 7, 3) := by decide +kernel
theorem dX9_isDealtTo_31 : decode cX9_isDealtTo 31 = .ok (.iconst 1, 1) := by decide +kernel
theorem dX9_isDealtTo_32 : decode cX9_isDealtTo 32 = .ok (.goto 4, 3) := by decide +kernel
theorem dX9_isDealtTo_35 : decode cX9_isDealtTo 35 = .ok (.iconst 0, 1) := by decide +kernel
theorem dX9_isDealtTo_36 : decode cX9_isDealtTo 36 = .ok (.ireturn, 1) := by decide +kernel
theorem dX9_dealtPlaces_0 : decode cX9_dealtPlaces 0 = .ok (.iconst 0, 1) := by decide +kernel
theorem dX9_dealtPlaces_1 : decode cX9_dealtPlaces 1 = .ok (.istore_n 1, 1) := by decide +kernel
theorem dX9_dealtPlaces_2 : decode cX9_dealtPlaces 2 = .ok (.iconst 0, 1) := by decide +kernel
theorem dX9_dealtPlaces_3 : decode cX9_dealtPlaces 3 = .ok (.istore_n 2, 1) := by decide +kernel
theorem dX9_dealtPlaces_4 : decode cX9_dealtPlaces 4 = .ok (.iload_n 2, 1) := by decide +kernel
theorem dX9_dealtPlaces_5 : decode cX9_dealtPlaces 5 = .ok (.bipush 8, 2) := by decide +kernel
theorem dX9_dealtPlaces_7 : decode cX9_dealtPlaces 7 = .ok (.if_icmp .ge 33, 3) := by decide +kernel
theorem dX9_dealtPlaces_10 : decode cX9_dealtPlaces 10 = .ok (.iload_n 1, 1) := by decide +kernel
theorem dX9_dealtPlaces_11 : decode cX9_dealtPlaces 11 = .ok (.aload_n 0, 1) := by decide +kernel
theorem dX9_dealtPlaces_12 : decode cX9_dealtPlaces 12 = .ok (.getfield 19, 3) := by decide +kernel
theorem dX9_dealtPlaces_15 : decode cX9_dealtPlaces 15 = .ok (.iload_n 2, 1) := by decide +kernel
theorem dX9_dealtPlaces_16 : decode cX9_dealtPlaces 16 = .ok (.invokestatic 59, 3) := by decide +kernel
theorem dX9_dealtPlaces_19 : decode cX9_dealtPlaces 19 = .ok (.ifCond .eq 12, 3) := by decide +kernel
theorem dX9_dealtPlaces_22 : decode cX9_dealtPlaces 22 = .ok (.aload_n 0, 1) := by decide +kernel
theorem dX9_dealtPlaces_23 : decode cX9_dealtPlaces 23 = .ok (.getfield 15, 3) := by decide +kernel
theorem dX9_dealtPlaces_26 : decode cX9_dealtPlaces 26 = .ok (.iload_n 2, 1) := by decide +kernel
theorem dX9_dealtPlaces_27 : decode cX9_dealtPlaces 27 = .ok (.iaload, 1) := by decide +kernel
theorem dX9_dealtPlaces_28 : decode cX9_dealtPlaces 28 = .ok (.goto 4, 3) := by decide +kernel
theorem dX9_dealtPlaces_31 : decode cX9_dealtPlaces 31 = .ok (.iconst 0, 1) := by decide +kernel
theorem dX9_dealtPlaces_32 : decode cX9_dealtPlaces 32 = .ok (.iadd, 1) := by decide +kernel
theorem dX9_dealtPlaces_33 : decode cX9_dealtPlaces 33 = .ok (.istore_n 1, 1) := by decide +kernel
theorem dX9_dealtPlaces_34 : decode cX9_dealtPlaces 34 = .ok (.iinc 2 1, 3) := by decide +kernel
theorem dX9_dealtPlaces_37 : decode cX9_dealtPlaces 37 = .ok (.goto (-33), 3) := by decide +kernel
theorem dX9_dealtPlaces_40 : decode cX9_dealtPlaces 40 = .ok (.iload_n 1, 1) := by decide +kernel
theorem dX9_dealtPlaces_41 : decode cX9_dealtPlaces 41 = .ok (.ireturn, 1) := by decide +kernel
theorem dX9_filledSlots_0 : decode cX9_filledSlots 0 = .ok (.iconst 0, 1) := by decide +kernel
theorem dX9_filledSlots_1 : decode cX9_filledSlots 1 = .ok (.istore_n 1, 1) := by decide +kernel
theorem dX9_filledSlots_2 : decode cX9_filledSlots 2 = .ok (.iconst 0, 1) := by decide +kernel
theorem dX9_filledSlots_3 : decode cX9_filledSlots 3 = .ok (.istore_n 2, 1) := by decide +kernel
theorem dX9_filledSlots_4 : decode cX9_filledSlots 4 = .ok (.iload_n 2, 1) := by decide +kernel
theorem dX9_filledSlots_5 : decode cX9_filledSlots 5 = .ok (.iconst 4, 1) := by decide +kernel
theorem dX9_filledSlots_6 : decode cX9_filledSlots 6 = .ok (.if_icmp .ge 29, 3) := by decide +kernel
theorem dX9_filledSlots_9 : decode cX9_filledSlots 9 = .ok (.iload_n 1, 1) := by decide +kernel
theorem dX9_filledSlots_10 : decode cX9_filledSlots 10 = .ok (.aload_n 0, 1) := by decide +kernel
theorem dX9_filledSlots_11 : decode cX9_filledSlots 11 = .ok (.getfield 24, 3) := by decide +kernel
theorem dX9_filledSlots_14 : decode cX9_filledSlots 14 = .ok (.iload_n 2, 1) := by decide +kernel
theorem dX9_filledSlots_15 : decode cX9_filledSlots 15 = .ok (.aaload, 1) := by decide +kernel
theorem dX9_filledSlots_16 : decode cX9_filledSlots 16 = .ok (.getfield 66, 3) := by decide +kernel
theorem dX9_filledSlots_19 : decode cX9_filledSlots 19 = .ok (.ifCond .eq 7, 3) := by decide +kernel
theorem dX9_filledSlots_22 : decode cX9_filledSlots 22 = .ok (.iconst 1, 1) := by decide +kernel
theorem dX9_filledSlots_23 : decode cX9_filledSlots 23 = .ok (.goto 4, 3) := by decide +kernel
theorem dX9_filledSlots_26 : decode cX9_filledSlots 26 = .ok (.iconst 0, 1) := by decide +kernel
theorem dX9_filledSlots_27 : decode cX9_filledSlots 27 = .ok (.iadd, 1) := by decide +kernel
theorem dX9_filledSlots_28 : decode cX9_filledSlots 28 = .ok (.istore_n 1, 1) := by decide +kernel
theorem dX9_filledSlots_29 : decode cX9_filledSlots 29 = .ok (.iinc 2 1, 3) := by decide +kernel
theorem dX9_filledSlots_32 : decode cX9_filledSlots 32 = .ok (.goto (-28), 3) := by decide +kernel
theorem dX9_filledSlots_35 : decode cX9_filledSlots 35 = .ok (.iload_n 1, 1) := by decide +kernel
theorem dX9_filledSlots_36 : decode cX9_filledSlots 36 = .ok (.ireturn, 1) := by decide +kernel
theorem dX10_init_0 : decode cX10_init 0 = .ok (.aload_n 0, 1) := by decide +kernel
theorem dX10_init_1 : decode cX10_init 1 = .ok (.invokespecial 1, 3) := by decide +kernel
theorem dX10_init_4 : decode cX10_init 4 = .ok (.aload_n 0, 1) := by decide +kernel
theorem dX10_init_5 : decode cX10_init 5 = .ok (.new 7, 3) := by decide +kernel
theorem dX10_init_8 : decode cX10_init 8 = .ok (.dup, 1) := by decide +kernel
theorem dX10_init_9 : decode cX10_init 9 = .ok (.invokespecial 9, 3) := by decide +kernel
theorem dX10_init_12 : decode cX10_init 12 = .ok (.putfield 10, 3) := by decide +kernel
theorem dX10_init_15 : decode cX10_init 15 = .ok (.aload_n 0, 1) := by decide +kernel
theorem dX10_init_16 : decode cX10_init 16 = .ok (.new 7, 3) := by decide +kernel
theorem dX10_init_19 : decode cX10_init 19 = .ok (.dup, 1) := by decide +kernel
theorem dX10_init_20 : decode cX10_init 20 = .ok (.invokespecial 9, 3) := by decide +kernel
theorem dX10_init_23 : decode cX10_init 23 = .ok (.putfield 16, 3) := by decide +kernel
theorem dX10_init_26 : decode cX10_init 26 = .ok (.aload_n 0, 1) := by decide +kernel
theorem dX10_init_27 : decode cX10_init 27 = .ok (.new 19, 3) := by decide +kernel
theorem dX10_init_30 : decode cX10_init 30 = .ok (.dup, 1) := by decide +kernel
theorem dX10_init_31 : decode cX10_init 31 = .ok (.invokespecial 21, 3) := by decide +kernel
theorem dX10_init_34 : decode cX10_init 34 = .ok (.putfield 22, 3) := by decide +kernel
theorem dX10_init_37 : decode cX10_init 37 = .ok (.aload_n 0, 1) := by decide +kernel
theorem dX10_init_38 : decode cX10_init 38 = .ok (.iconst (-1), 1) := by decide +kernel
theorem dX10_init_39 : decode cX10_init 39 = .ok (.putfield 26, 3) := by decide +kernel
theorem dX10_init_42 : decode cX10_init 42 = .ok (.aload_n 0, 1) := by decide +kernel
theorem dX10_init_43 : decode cX10_init 43 = .ok (.new 30, 3) := by decide +kernel
theorem dX10_init_46 : decode cX10_init 46 = .ok (.dup, 1) := by decide +kernel
theorem dX10_init_47 : decode cX10_init 47 = .ok (.invokespecial 32, 3) := by decide +kernel
theorem dX10_init_50 : decode cX10_init 50 = .ok (.putfield 33, 3) := by decide +kernel
theorem dX10_init_53 : decode cX10_init 53 = .ok (.aload_n 0, 1) := by decide +kernel
theorem dX10_init_54 : decode cX10_init 54 = .ok (.bipush 8, 2) := by decide +kernel
theorem dX10_init_56 : decode cX10_init 56 = .ok (.newarray .int, 2) := by decide +kernel
theorem dX10_init_58 : decode cX10_init 58 = .ok (.putfield 37, 3) := by decide +kernel
theorem dX10_init_61 : decode cX10_init 61 = .ok (.aload_n 0, 1) := by decide +kernel
theorem dX10_init_62 : decode cX10_init 62 = .ok (.bipush 8, 2) := by decide +kernel
theorem dX10_init_64 : decode cX10_init 64 = .ok (.newarray .int, 2) := by decide +kernel
theorem dX10_init_66 : decode cX10_init 66 = .ok (.putfield 41, 3) := by decide +kernel
theorem dX10_init_69 : decode cX10_init 69 = .ok (.aload_n 0, 1) := by decide +kernel
theorem dX10_init_70 : decode cX10_init 70 = .ok (.bipush 8, 2) := by decide +kernel
theorem dX10_init_72 : decode cX10_init 72 = .ok (.newarray .int, 2) := by decide +kernel
theorem dX10_init_74 : decode cX10_init 74 = .ok (.putfield 44, 3) := by decide +kernel
theorem dX10_init_77 : decode cX10_init 77 = .ok (.aload_n 0, 1) := by decide +kernel
theorem dX10_init_78 : decode cX10_init 78 = .ok (.sipush 256, 3) := by decide +kernel
theorem dX10_init_81 : decode cX10_init 81 = .ok (.newarray .boolean, 2) := by decide +kernel
theorem dX10_init_83 : decode cX10_init 83 = .ok (.putfield 47, 3) := by decide +kernel
theorem dX10_init_86 : decode cX10_init 86 = .ok (.aload_n 0, 1) := by decide +kernel
theorem dX10_init_87 : decode cX10_init 87 = .ok (.new 19, 3) := by decide +kernel
theorem dX10_init_90 : decode cX10_init 90 = .ok (.dup, 1) := by decide +kernel
theorem dX10_init_91 : decode cX10_init 91 = .ok (.invokespecial 21, 3) := by decide +kernel
theorem dX10_init_94 : decode cX10_init 94 = .ok (.putfield 51, 3) := by decide +kernel
theorem dX10_init_97 : decode cX10_init 97 = .ok (.return_, 1) := by decide +kernel
theorem dX10_seed_0 : decode cX10_seed 0 = .ok (.aload_n 0, 1) := by decide +kernel
theorem dX10_seed_1 : decode cX10_seed 1 = .ok (.getfield 10, 3) := by decide +kernel
theorem dX10_seed_4 : decode cX10_seed 4 = .ok (.getfield 54, 3) := by decide +kernel
theorem dX10_seed_7 : decode cX10_seed 7 = .ok (.istore_n 2, 1) := by decide +kernel
theorem dX10_seed_8 : decode cX10_seed 8 = .ok (.aload_n 0, 1) := by decide +kernel
theorem dX10_seed_9 : decode cX10_seed 9 = .ok (.getfield 10, 3) := by decide +kernel
theorem dX10_seed_12 : decode cX10_seed 12 = .ok (.iload_n 1, 1) := by decide +kernel
theorem dX10_seed_13 : decode cX10_seed 13 = .ok (.putfield 54, 3) := by decide +kernel
theorem dX10_seed_16 : decode cX10_seed 16 = .ok (.iload_n 2, 1) := by decide +kernel
theorem dX10_seed_17 : decode cX10_seed 17 = .ok (.ireturn, 1) := by decide +kernel
theorem dX10_draw_0 : decode cX10_draw 0 = .ok (.aload_n 0, 1) := by decide +kernel
theorem dX10_draw_1 : decode cX10_draw 1 = .ok (.getfield 10, 3) := by decide +kernel
theorem dX10_draw_4 : decode cX10_draw 4 = .ok (.invokevirtual 57, 3) := by decide +kernel
theorem dX10_draw_7 : decode cX10_draw 7 = .ok (.ireturn, 1) := by decide +kernel
theorem dX10_setWeight_0 : decode cX10_setWeight 0 = .ok (.iload_n 1, 1) := by decide +kernel
theorem dX10_setWeight_1 : decode cX10_setWeight 1 = .ok (.invokestatic 61, 3) := by decide +kernel
theorem dX10_setWeight_4 : decode cX10_setWeight 4 = .ok (.iload_n 2, 1) := by decide +kernel
theorem dX10_setWeight_5 : decode cX10_setWeight 5 = .ok (.ifCond .lt 8, 3) := by decide +kernel
theorem dX10_setWeight_8 : decode cX10_setWeight 8 = .ok (.iload_n 2, 1) := by decide +kernel
theorem dX10_setWeight_9 : decode cX10_setWeight 9 = .ok (.iconst 3, 1) := by decide +kernel
theorem dX10_setWeight_10 : decode cX10_setWeight 10 = .ok (.if_icmp .le 13, 3) := by decide +kernel
theorem dX10_setWeight_13 : decode cX10_setWeight 13 = .ok (.new 65, 3) := by decide +kernel
theorem dX10_setWeight_16 : decode cX10_setWeight 16 = .ok (.dup, 1) := by decide +kernel
theorem dX10_setWeight_17 : decode cX10_setWeight 17 = .ok (.ldc 67, 2) := by decide +kernel
theorem dX10_setWeight_19 : decode cX10_setWeight 19 = .ok (.invokespecial 69, 3) := by decide +kernel
theorem dX10_setWeight_22 : decode cX10_setWeight 22 = .ok (.athrow, 1) := by decide +kernel
theorem dX10_setWeight_23 : decode cX10_setWeight 23 = .ok (.aload_n 0, 1) := by decide +kernel
theorem dX10_setWeight_24 : decode cX10_setWeight 24 = .ok (.getfield 10, 3) := by decide +kernel
theorem dX10_setWeight_27 : decode cX10_setWeight 27 = .ok (.getfield 72, 3) := by decide +kernel
theorem dX10_setWeight_30 : decode cX10_setWeight 30 = .ok (.iload_n 1, 1) := by decide +kernel
theorem dX10_setWeight_31 : decode cX10_setWeight 31 = .ok (.iaload, 1) := by decide +kernel
theorem dX10_setWeight_32 : decode cX10_setWeight 32 = .ok (.istore_n 3, 1) := by decide +kernel
theorem dX10_setWeight_33 : decode cX10_setWeight 33 = .ok (.aload_n 0, 1) := by decide +kernel
theorem dX10_setWeight_34 : decode cX10_setWeight 34 = .ok (.getfield 10, 3) := by decide +kernel
theorem dX10_setWeight_37 : decode cX10_setWeight 37 = .ok (.getfield 72, 3) := by decide +kernel
theorem dX10_setWeight_40 : decode cX10_setWeight 40 = .ok (.iload_n 1, 1) := by decide +kernel
theorem dX10_setWeight_41 : decode cX10_setWeight 41 = .ok (.iload_n 2, 1) := by decide +kernel
theorem dX10_setWeight_42 : decode cX10_setWeight 42 = .ok (.iastore, 1) := by decide +kernel
theorem dX10_setWeight_43 : decode cX10_setWeight 43 = .ok (.iload_n 3, 1) := by decide +kernel
theorem dX10_setWeight_44 : decode cX10_setWeight 44 = .ok (.ireturn, 1) := by decide +kernel
theorem dX10_setPresent_0 : decode cX10_setPresent 0 = .ok (.iload_n 1, 1) := by decide +kernel
theorem dX10_setPresent_1 : decode cX10_setPresent 1 = .ok (.invokestatic 61, 3) := by decide +kernel
theorem dX10_setPresent_4 : decode cX10_setPresent 4 = .ok (.aload_n 0, 1) := by decide +kernel
theorem dX10_setPresent_5 : decode cX10_setPresent 5 = .ok (.getfield 10, 3) := by decide +kernel
theorem dX10_setPresent_8 : decode cX10_setPresent 8 = .ok (.getfield 75, 3) := by decide +kernel
theorem dX10_setPresent_11 : decode cX10_setPresent 11 = .ok (.iload_n 1, 1) := by decide +kernel
theorem dX10_setPresent_12 : decode cX10_setPresent 12 = .ok (.invokestatic 78, 3) := by decide +kernel
theorem dX10_setPresent_15 : decode cX10_setPresent 15 = .ok (.istore_n 3, 1) := by decide +kernel
theorem dX10_setPresent_16 : decode cX10_setPresent 16 = .ok (.iconst 1, 1) := by decide +kernel
theorem dX10_setPresent_17 : decode cX10_setPresent 17 = .ok (.iload_n 1, 1) := by decide +kernel
theorem dX10_setPresent_18 : decode cX10_setPresent 18 = .ok (.ishl, 1) := by decide +kernel
theorem dX10_setPresent_19 : decode cX10_setPresent 19 = .ok (.istore 4, 2) := by decide +kernel
theorem dX10_setPresent_21 : decode cX10_setPresent 21 = .ok (.aload_n 0, 1) := by decide +kernel
theorem dX10_setPresent_22 : decode cX10_setPresent 22 = .ok (.getfield 10, 3) := by decide +kernel
theorem dX10_setPresent_25 : decode cX10_setPresent 25 = .ok (.iload_n 2, 1) := by decide +kernel
theorem dX10_setPresent_26 : decode cX10_setPresent 26 = .ok (.ifCond .eq 16, 3) := by decide +kernel
theorem dX10_setPresent_29 : decode cX10_setPresent 29 = .ok (.aload_n 0, 1) := by decide +kernel
theorem dX10_setPresent_30 : decode cX10_setPresent 30 = .ok (.getfield 10, 3) := by decide +kernel
theorem dX10_setPresent_33 : decode cX10_setPresent 33 = .ok (.getfield 75, 3) := by decide +kernel
theorem dX10_setPresent_36 : decode cX10_setPresent 36 = .ok (.iload 4, 2) := by decide +kernel
theorem dX10_setPresent_38 : decode cX10_setPresent 38 = .ok (.ior, 1) := by decide +kernel
theorem dX10_setPresent_39 : decode cX10_setPresent 39 = .ok (.goto 15, 3) := by decide +kernel
theorem dX10_setPresent_42 : decode cX10_setPresent 42 = .ok (.aload_n 0, 1) := by decide +kernel
theorem dX10_setPresent_43 : decode cX10_setPresent 43 = .ok (.getfield 10, 3) := by decide +kernel
theorem dX10_setPresent_46 : decode cX10_setPresent 46 = .ok (.getfield 75, 3) := by decide +kernel
theorem dX10_setPresent_49 : decode cX10_setPresent 49 = .ok (.iload 4, 2) := by decide +kernel
theorem dX10_setPresent_51 : decode cX10_setPresent 51 = .ok (.iconst (-1), 1) := by decide +kernel
theorem dX10_setPresent_52 : decode cX10_setPresent 52 = .ok (.ixor, 1) := by decide +kernel
theorem dX10_setPresent_53 : decode cX10_setPresent 53 = .ok (.iand, 1) := by decide +kernel
theorem dX10_setPresent_54 : decode cX10_setPresent 54 = .ok (.putfield 75, 3) := by decide +kernel
theorem dX10_setPresent_57 : decode cX10_setPresent 57 = .ok (.iload_n 3, 1) := by decide +kernel
theorem dX10_setPresent_58 : decode cX10_setPresent 58 = .ok (.ireturn, 1) := by decide +kernel
theorem dX10_member_0 : decode cX10_member 0 = .ok (.iload_n 1, 1) := by decide +kernel
theorem dX10_member_1 : decode cX10_member 1 = .ok (.invokestatic 61, 3) := by decide +kernel
theorem dX10_member_4 : decode cX10_member 4 = .ok (.iload_n 2, 1) := by decide +kernel
theorem dX10_member_5 : decode cX10_member 5 = .ok (.iconst 3, 1) := by decide +kernel
theorem dX10_member_6 : decode cX10_member 6 = .ok (.invokestatic 82, 3) := by decide +kernel
theorem dX10_member_9 : decode cX10_member 9 = .ok (.iload_n 2, 1) := by decide +kernel
theorem dX10_member_10 : decode cX10_member 10 = .ok (.ifCond .ne 13, 3) := by decide +kernel
theorem dX10_member_13 : decode cX10_member 13 = .ok (.aload_n 0, 1) := by decide +kernel
theorem dX10_member_14 : decode cX10_member 14 = .ok (.getfield 10, 3) := by decide +kernel
theorem dX10_member_17 : decode cX10_member 17 = .ok (.getfield 72, 3) := by decide +kernel
theorem dX10_member_20 : decode cX10_member 20 = .ok (.iload_n 1, 1) := by decide +kernel
theorem dX10_member_21 : decode cX10_member 21 = .ok (.iaload, 1) := by decide +kernel
theorem dX10_member_22 : decode cX10_member 22 = .ok (.ireturn, 1) := by decide +kernel
theorem dX10_member_23 : decode cX10_member 23 = .ok (.iload_n 2, 1) := by decide +kernel
theorem dX10_member_24 : decode cX10_member 24 = .ok (.iconst 1, 1) := by decide +kernel
theorem dX10_member_25 : decode cX10_member 25 = .ok (.if_icmp .ne 23, 3) := by decide +kernel
theorem dX10_member_28 : decode cX10_member 28 = .ok (.aload_n 0, 1) := by decide +kernel
theorem dX10_member_29 : decode cX10_member 29 = .ok (.getfield 10, 3) := by decide +kernel
theorem dX10_member_32 : decode cX10_member 32 = .ok (.getfield 75, 3) := by decide +kernel
theorem dX10_member_35 : decode cX10_member 35 = .ok (.iload_n 1, 1) := by decide +kernel
theorem dX10_member_36 : decode cX10_member 36 = .ok (.invokestatic 78, 3) := by decide +kernel
theorem dX10_member_39 : decode cX10_member 39 = .ok (.ifCond .eq 7, 3) := by decide +kernel
theorem dX10_member_42 : decode cX10_member 42 = .ok (.iconst 1, 1) := by decide +kernel
theorem dX10_member_43 : decode cX10_member 43 = .ok (.goto 4, 3) := by decide +kernel
theorem dX10_member_46 : decode cX10_member 46 = .ok (.iconst 0, 1) := by decide +kernel
theorem dX10_member_47 : decode cX10_member 47 = .ok (.ireturn, 1) := by decide +kernel
theorem dX10_member_48 : decode cX10_member 48 = .ok (.iconst 0, 1) := by decide +kernel
theorem dX10_member_49 : decode cX10_member 49 = .ok (.istore_n 3, 1) := by decide +kernel
theorem dX10_member_50 : decode cX10_member 50 = .ok (.iconst 0, 1) := by decide +kernel
theorem dX10_member_51 : decode cX10_member 51 = .ok (.istore 4, 2) := by decide +kernel
theorem dX10_member_53 : decode cX10_member 53 = .ok (.iconst 0, 1) := by decide +kernel
theorem dX10_member_54 : decode cX10_member 54 = .ok (.istore 5, 2) := by decide +kernel
theorem dX10_member_56 : decode cX10_member 56 = .ok (.iload 5, 2) := by decide +kernel
theorem dX10_member_58 : decode cX10_member 58 = .ok (.iconst 4, 1) := by decide +kernel
theorem dX10_member_59 : decode cX10_member 59 = .ok (.if_icmp .ge 50, 3) := by decide +kernel
theorem dX10_member_62 : decode cX10_member 62 = .ok (.iload_n 3, 1) := by decide +kernel
theorem dX10_member_63 : decode cX10_member 63 = .ok (.aload_n 0, 1) := by decide +kernel
theorem dX10_member_64 : decode cX10_member 64 = .ok (.getfield 10, 3) := by decide +kernel
theorem dX10_member_67 : decode cX10_member 67 = .ok (.getfield 86, 3) := by decide +kernel
theorem dX10_member_70 : decode cX10_member 70 = .ok (.iload 5, 2) := by decide +kernel
theorem dX10_member_72 : decode cX10_member 72 = .ok (.aaload, 1) := by decide +kernel
theorem dX10_member_73 : decode cX10_member 73 = .ok (.iconst 1, 1) := by decide +kernel
theorem dX10_member_74 : decode cX10_member 74 = .ok (.iload_n 1, 1) := by decide +kernel
theorem dX10_member_75 : decode cX10_member 75 = .ok (.ishl, 1) := by decide +kernel
theorem dX10_member_76 : decode cX10_member 76 = .ok (.invokevirtual 90, 3) := by decide +kernel
theorem dX10_member_79 : decode cX10_member 79 = .ok (.iadd, 1) := by decide +kernel
theorem dX10_member_80 : decode cX10_member 80 = .ok (.istore_n 3, 1) := by decide +kernel
theorem dX10_member_81 : decode cX10_member 81 = .ok (.iload 4, 2) := by decide +kernel
theorem dX10_member_83 : decode cX10_member 83 = .ok (.aload_n 0, 1) := by decide +kernel
theorem dX10_member_84 : decode cX10_member 84 = .ok (.getfield 10, 3) := by decide +kernel
theorem dX10_member_87 : decode cX10_member 87 = .ok (.getfield 86, 3) := by decide +kernel
theorem dX10_member_90 : decode cX10_member 90 = .ok (.iload 5, 2) := by decide +kernel
theorem dX10_member_92 : decode cX10_member 92 = .ok (.aaload, 1) := by decide +kernel
theorem dX10_member_93 : decode cX10_member 93 = .ok (.iconst 1, 1) := by decide +kernel
theorem dX10_member_94 : decode cX10_member 94 = .ok (.iload_n 1, 1) := by decide +kernel
theorem dX10_member_95 : decode cX10_member 95 = .ok (.ishl, 1) := by decide +kernel
theorem dX10_member_96 : decode cX10_member 96 = .ok (.iconst 0, 1) := by decide +kernel
theorem dX10_member_97 : decode cX10_member 97 = .ok (.invokevirtual 96, 3) := by decide +kernel
theorem dX10_member_100 : decode cX10_member 100 = .ok (.iadd, 1) := by decide +kernel
theorem dX10_member_101 : decode cX10_member 101 = .ok (.istore 4, 2) := by decide +kernel
theorem dX10_member_103 : decode cX10_member 103 = .ok (.iinc 5 1, 3) := by decide +kernel
theorem dX10_member_106 : decode cX10_member 106 = .ok (.goto (-50), 3) := by decide +kernel
theorem dX10_member_109 : decode cX10_member 109 = .ok (.iload_n 2, 1) := by decide +kernel
theorem dX10_member_110 : decode cX10_member 110 = .ok (.iconst 2, 1) := by decide +kernel
theorem dX10_member_111 : decode cX10_member 111 = .ok (.if_icmp .ne 7, 3) := by decide +kernel
theorem dX10_member_114 : decode cX10_member 114 = .ok (.iload_n 3, 1) := by decide +kernel
theorem dX10_member_115 : decode cX10_member 115 = .ok (.goto 7, 3) := by decide +kernel
theorem dX10_member_118 : decode cX10_member 118 = .ok (.iload_n 3, 1) := by decide +kernel
theorem dX10_member_119 : decode cX10_member 119 = .ok (.iload 4, 2) := by decide +kernel
theorem dX10_member_121 : decode cX10_member 121 = .ok (.isub, 1) := by decide +kernel
theorem dX10_member_122 : decode cX10_member 122 = .ok (.ireturn, 1) := by decide +kernel
theorem dX10_put_0 : decode cX10_put 0 = .ok (.iload_n 1, 1) := by decide +kernel
theorem dX10_put_1 : decode cX10_put 1 = .ok (.invokestatic 99, 3) := by decide +kernel
theorem dX10_put_4 : decode cX10_put 4 = .ok (.iload_n 2, 1) := by decide +kernel
theorem dX10_put_5 : decode cX10_put 5 = .ok (.invokestatic 102, 3) := by decide +kernel
theorem dX10_put_8 : decode cX10_put 8 = .ok (.iload_n 3, 1) := by decide +kernel
theorem dX10_put_9 : decode cX10_put 9 = .ok (.invokestatic 105, 3) := by decide +kernel
theorem dX10_put_12 : decode cX10_put 12 = .ok (.aload_n 0, 1) := by decide +kernel
theorem dX10_put_13 : decode cX10_put 13 = .ok (.iload_n 3, 1) := by decide +kernel
theorem dX10_put_14 : decode cX10_put 14 = .ok (.invokevirtual 108, 3) := by decide +kernel
theorem dX10_put_17 : decode cX10_put 17 = .ok (.aload_n 0, 1) := by decide +kernel
theorem dX10_put_18 : decode cX10_put 18 = .ok (.getfield 10, 3) := by decide +kernel
theorem dX10_put_21 : decode cX10_put 21 = .ok (.getfield 86, 3) := by decide +kernel
theorem dX10_put_24 : decode cX10_put 24 = .ok (.iload_n 1, 1) := by decide +kernel
theorem dX10_put_25 : decode cX10_put 25 = .ok (.aaload, 1) := by decide +kernel
theorem dX10_put_26 : decode cX10_put 26 = .ok (.astore 4, 2) := by decide +kernel
theorem dX10_put_28 : decode cX10_put 28 = .ok (.aload 4, 2) := by decide +kernel
theorem dX10_put_30 : decode cX10_put 30 = .ok (.aconst_null, 1) := by decide +kernel
theorem dX10_put_31 : decode cX10_put 31 = .ok (.putfield 111, 3) := by decide +kernel
theorem dX10_put_34 : decode cX10_put 34 = .ok (.aload 4, 2) := by decide +kernel
theorem dX10_put_36 : decode cX10_put 36 = .ok (.iconst 1, 1) := by decide +kernel
theorem dX10_put_37 : decode cX10_put 37 = .ok (.putfield 115, 3) := by decide +kernel
theorem dX10_put_40 : decode cX10_put 40 = .ok (.aload_n 0, 1) := by decide +kernel
theorem dX10_put_41 : decode cX10_put 41 = .ok (.aload 4, 2) := by decide +kernel
theorem dX10_put_43 : decode cX10_put 43 = .ok (.iload_n 2, 1) := by decide +kernel
theorem dX10_put_44 : decode cX10_put 44 = .ok (.iload_n 3, 1) := by decide +kernel
theorem dX10_put_45 : decode cX10_put 45 = .ok (.iconst 1, 1) := by decide +kernel
theorem dX10_put_46 : decode cX10_put 46 = .ok (.invokevirtual 119, 3) := by decide +kernel
theorem dX10_put_49 : decode cX10_put 49 = .ok (.istore 5, 2) := by decide +kernel
theorem dX10_put_51 : decode cX10_put 51 = .ok (.aload_n 0, 1) := by decide +kernel
theorem dX10_put_52 : decode cX10_put 52 = .ok (.getfield 10, 3) := by decide +kernel
theorem dX10_put_55 : decode cX10_put 55 = .ok (.bipush 100, 2) := by decide +kernel
theorem dX10_put_57 : decode cX10_put 57 = .ok (.iload_n 1, 1) := by decide +kernel
theorem dX10_put_58 : decode cX10_put 58 = .ok (.iadd, 1) := by decide +kernel
theorem dX10_put_59 : decode cX10_put 59 = .ok (.invokevirtual 123, 3) := by decide +kernel
theorem dX10_put_62 : decode cX10_put 62 = .ok (.iload 5, 2) := by decide +kernel
theorem dX10_put_64 : decode cX10_put 64 = .ok (.ireturn, 1) := by decide +kernel
theorem dX10_remove_0 : decode cX10_remove 0 = .ok (.iload_n 1, 1) := by decide +kernel
theorem dX10_remove_1 : decode cX10_remove 1 = .ok (.invokestatic 99, 3) := by decide +kernel
theorem dX10_remove_4 : decode cX10_remove 4 = .ok (.aload_n 0, 1) := by decide +kernel
theorem dX10_remove_5 : decode cX10_remove 5 = .ok (.iload_n 1, 1) := by decide +kernel
theorem dX10_remove_6 : decode cX10_remove 6 = .ok (.invokevirtual 126, 3) := by decide +kernel
theorem dX10_remove_9 : decode cX10_remove 9 = .ok (.astore_n 2, 1) := by decide +kernel
theorem dX10_remove_10 : decode cX10_remove 10 = .ok (.aload_n 2, 1) := by decide +kernel
theorem dX10_remove_11 : decode cX10_remove 11 = .ok (.iconst 0, 1) := by decide +kernel
theorem dX10_remove_12 : decode cX10_remove 12 = .ok (.putfield 115, 3) := by decide +kernel
theorem dX10_remove_15 : decode cX10_remove 15 = .ok (.aload_n 2, 1) := by decide +kernel
theorem dX10_remove_16 : decode cX10_remove 16 = .ok (.aconst_null, 1) := by decide +kernel
theorem dX10_remove_17 : decode cX10_remove 17 = .ok (.putfield 111, 3) := by decide +kernel
theorem dX10_remove_20 : decode cX10_remove 20 = .ok (.aload_n 2, 1) := by decide +kernel
theorem dX10_remove_21 : decode cX10_remove 21 = .ok (.invokevirtual 130, 3) := by decide +kernel
theorem dX10_remove_24 : decode cX10_remove 24 = .ok (.aload_n 0, 1) := by decide +kernel
theorem dX10_remove_25 : decode cX10_remove 25 = .ok (.getfield 10, 3) := by decide +kernel
theorem dX10_remove_28 : decode cX10_remove 28 = .ok (.sipush 200, 3) := by decide +kernel
theorem dX10_remove_31 : decode cX10_remove 31 = .ok (.iload_n 1, 1) := by decide +kernel
theorem dX10_remove_32 : decode cX10_remove 32 = .ok (.iadd, 1) := by decide +kernel
theorem dX10_remove_33 : decode cX10_remove 33 = .ok (.invokevirtual 123, 3) := by decide +kernel
theorem dX10_remove_36 : decode cX10_remove 36 = .ok (.aload_n 2, 1) := by decide +kernel
theorem dX10_remove_37 : decode cX10_remove 37 = .ok (.getfield 133, 3) := by decide +kernel
theorem dX10_remove_40 : decode cX10_remove 40 = .ok (.ireturn, 1) := by decide +kernel
theorem dX10_refresh_0 : decode cX10_refresh 0 = .ok (.iload_n 1, 1) := by decide +kernel
theorem dX10_refresh_1 : decode cX10_refresh 1 = .ok (.invokestatic 99, 3) := by decide +kernel
theorem dX10_refresh_4 : decode cX10_refresh 4 = .ok (.aload_n 0, 1) := by decide +kernel
theorem dX10_refresh_5 : decode cX10_refresh 5 = .ok (.aload_n 0, 1) := by decide +kernel
theorem dX10_refresh_6 : decode cX10_refresh 6 = .ok (.iload_n 1, 1) := by decide +kernel
theorem dX10_refresh_7 : decode cX10_refresh 7 = .ok (.invokevirtual 126, 3) := by decide +kernel
theorem dX10_refresh_10 : decode cX10_refresh 10 = .ok (.invokevirtual 136, 3) := by decide +kernel
theorem dX10_refresh_13 : decode cX10_refresh 13 = .ok (.istore_n 2, 1) := by decide +kernel
theorem dX10_refresh_14 : decode cX10_refresh 14 = .ok (.aload_n 0, 1) := by decide +kernel
theorem dX10_refresh_15 : decode cX10_refresh 15 = .ok (.getfield 10, 3) := by decide +kernel
theorem dX10_refresh_18 : decode cX10_refresh 18 = .ok (.sipush 300, 3) := by decide +kernel
theorem dX10_refresh_21 : decode cX10_refresh 21 = .ok (.iload_n 1, 1) := by decide +kernel
theorem dX10_refresh_22 : decode cX10_refresh 22 = .ok (.iadd, 1) := by decide +kernel
theorem dX10_refresh_23 : decode cX10_refresh 23 = .ok (.invokevirtual 123, 3) := by decide +kernel
theorem dX10_refresh_26 : decode cX10_refresh 26 = .ok (.iload_n 2, 1) := by decide +kernel
theorem dX10_refresh_27 : decode cX10_refresh 27 = .ok (.ireturn, 1) := by decide +kernel
theorem dX10_reshare_0 : decode cX10_reshare 0 = .ok (.iload_n 1, 1) := by decide +kernel
theorem dX10_reshare_1 : decode cX10_reshare 1 = .ok (.invokestatic 99, 3) := by decide +kernel
theorem dX10_reshare_4 : decode cX10_reshare 4 = .ok (.iload_n 2, 1) := by decide +kernel
theorem dX10_reshare_5 : decode cX10_reshare 5 = .ok (.invokestatic 140, 3) := by decide +kernel
theorem dX10_reshare_8 : decode cX10_reshare 8 = .ok (.iload_n 3, 1) := by decide +kernel
theorem dX10_reshare_9 : decode cX10_reshare 9 = .ok (.invokestatic 105, 3) := by decide +kernel
theorem dX10_reshare_12 : decode cX10_reshare 12 = .ok (.aload_n 0, 1) := by decide +kernel
theorem dX10_reshare_13 : decode cX10_reshare 13 = .ok (.iload_n 1, 1) := by decide +kernel
theorem dX10_reshare_14 : decode cX10_reshare 14 = .ok (.invokevirtual 126, 3) := by decide +kernel
theorem dX10_reshare_17 : decode cX10_reshare 17 = .ok (.astore 4, 2) := by decide +kernel
theorem dX10_reshare_19 : decode cX10_reshare 19 = .ok (.aload_n 0, 1) := by decide +kernel
theorem dX10_reshare_20 : decode cX10_reshare 20 = .ok (.iload_n 1, 1) := by decide +kernel
theorem dX10_reshare_21 : decode cX10_reshare 21 = .ok (.aload 4, 2) := by decide +kernel
theorem dX10_reshare_23 : decode cX10_reshare 23 = .ok (.iload_n 2, 1) := by decide +kernel
theorem dX10_reshare_24 : decode cX10_reshare 24 = .ok (.invokevirtual 143, 3) := by decide +kernel
theorem dX10_reshare_27 : decode cX10_reshare 27 = .ok (.aload_n 0, 1) := by decide +kernel
theorem dX10_reshare_28 : decode cX10_reshare 28 = .ok (.iload_n 3, 1) := by decide +kernel
theorem dX10_reshare_29 : decode cX10_reshare 29 = .ok (.invokevirtual 108, 3) := by decide +kernel
theorem dX10_reshare_32 : decode cX10_reshare 32 = .ok (.aload_n 0, 1) := by decide +kernel
theorem dX10_reshare_33 : decode cX10_reshare 33 = .ok (.aload 4, 2) := by decide +kernel
theorem dX10_reshare_35 : decode cX10_reshare 35 = .ok (.aload 4, 2) := by decide +kernel
theorem dX10_reshare_37 : decode cX10_reshare 37 = .ok (.aload_n 0, 1) := by decide +kernel
theorem dX10_reshare_38 : decode cX10_reshare 38 = .ok (.getfield 41, 3) := by decide +kernel
theorem dX10_reshare_41 : decode cX10_reshare 41 = .ok (.iconst 0, 1) := by decide +kernel
theorem dX10_reshare_42 : decode cX10_reshare 42 = .ok (.invokevirtual 147, 3) := by decide +kernel
theorem dX10_reshare_45 : decode cX10_reshare 45 = .ok (.iload_n 3, 1) := by decide +kernel
theorem dX10_reshare_46 : decode cX10_reshare 46 = .ok (.aload 4, 2) := by decide +kernel
theorem dX10_reshare_48 : decode cX10_reshare 48 = .ok (.getfield 133, 3) := by decide +kernel
theorem dX10_reshare_51 : decode cX10_reshare 51 = .ok (.iconst 1, 1) := by decide +kernel
theorem dX10_reshare_52 : decode cX10_reshare 52 = .ok (.iadd, 1) := by decide +kernel
theorem dX10_reshare_53 : decode cX10_reshare 53 = .ok (.invokevirtual 119, 3) := by decide +kernel
theorem dX10_reshare_56 : decode cX10_reshare 56 = .ok (.istore 5, 2) := by decide +kernel
theorem dX10_reshare_58 : decode cX10_reshare 58 = .ok (.aload_n 0, 1) := by decide +kernel
theorem dX10_reshare_59 : decode cX10_reshare 59 = .ok (.getfield 10, 3) := by decide +kernel
theorem dX10_reshare_62 : decode cX10_reshare 62 = .ok (.sipush 400, 3) := by decide +kernel
theorem dX10_reshare_65 : decode cX10_reshare 65 = .ok (.iload_n 1, 1) := by decide +kernel
theorem dX10_reshare_66 : decode cX10_reshare 66 = .ok (.iadd, 1) := by decide +kernel
theorem dX10_reshare_67 : decode cX10_reshare 67 = .ok (.invokevirtual 123, 3) := by decide +kernel
theorem dX10_reshare_70 : decode cX10_reshare 70 = .ok (.iload 5, 2) := by decide +kernel
theorem dX10_reshare_72 : decode cX10_reshare 72 = .ok (.ireturn, 1) := by decide +kernel
theorem dX10_enroll_0 : decode cX10_enroll 0 = .ok (.iload_n 1, 1) := by decide +kernel
theorem dX10_enroll_1 : decode cX10_enroll 1 = .ok (.invokestatic 99, 3) := by decide +kernel
theorem dX10_enroll_4 : decode cX10_enroll 4 = .ok (.iload_n 3, 1) := by decide +kernel
theorem dX10_enroll_5 : decode cX10_enroll 5 = .ok (.invokestatic 61, 3) := by decide +kernel
theorem dX10_enroll_8 : decode cX10_enroll 8 = .ok (.iload_n 2, 1) := by decide +kernel
theorem dX10_enroll_9 : decode cX10_enroll 9 = .ok (.invokestatic 140, 3) := by decide +kernel
theorem dX10_enroll_12 : decode cX10_enroll 12 = .ok (.aload_n 0, 1) := by decide +kernel
theorem dX10_enroll_13 : decode cX10_enroll 13 = .ok (.iload_n 1, 1) := by decide +kernel
theorem dX10_enroll_14 : decode cX10_enroll 14 = .ok (.invokevirtual 126, 3) := by decide +kernel
theorem dX10_enroll_17 : decode cX10_enroll 17 = .ok (.astore 4, 2) := by decide +kernel
theorem dX10_enroll_19 : decode cX10_enroll 19 = .ok (.aload_n 0, 1) := by decide +kernel
theorem dX10_enroll_20 : decode cX10_enroll 20 = .ok (.iload_n 1, 1) := by decide +kernel
theorem dX10_enroll_21 : decode cX10_enroll 21 = .ok (.aload 4, 2) := by decide +kernel
theorem dX10_enroll_23 : decode cX10_enroll 23 = .ok (.iload_n 2, 1) := by decide +kernel
theorem dX10_enroll_24 : decode cX10_enroll 24 = .ok (.invokevirtual 143, 3) := by decide +kernel
theorem dX10_enroll_27 : decode cX10_enroll 27 = .ok (.iconst 0, 1) := by decide +kernel
theorem dX10_enroll_28 : decode cX10_enroll 28 = .ok (.istore 5, 2) := by decide +kernel
theorem dX10_enroll_30 : decode cX10_enroll 30 = .ok (.iconst 0, 1) := by decide +kernel
theorem dX10_enroll_31 : decode cX10_enroll 31 = .ok (.istore 6, 2) := by decide +kernel
theorem dX10_enroll_33 : decode cX10_enroll 33 = .ok (.iload 6, 2) := by decide +kernel
theorem dX10_enroll_35 : decode cX10_enroll 35 = .ok (.aload_n 0, 1) := by decide +kernel
theorem dX10_enroll_36 : decode cX10_enroll 36 = .ok (.getfield 10, 3) := by decide +kernel
theorem dX10_enroll_39 : decode cX10_enroll 39 = .ok (.getfield 72, 3) := by decide +kernel
theorem dX10_enroll_42 : decode cX10_enroll 42 = .ok (.iload_n 3, 1) := by decide +kernel
theorem dX10_enroll_43 : decode cX10_enroll 43 = .ok (.iaload, 1) := by decide +kernel
theorem dX10_enroll_44 : decode cX10_enroll 44 = .ok (.if_icmp .ge 54, 3) := by decide +kernel
theorem dX10_enroll_47 : decode cX10_enroll 47 = .ok (.iload_n 3, 1) := by decide +kernel
theorem dX10_enroll_48 : decode cX10_enroll 48 = .ok (.invokestatic 151, 3) := by decide +kernel
theorem dX10_enroll_51 : decode cX10_enroll 51 = .ok (.iload 6, 2) := by decide +kernel
theorem dX10_enroll_53 : decode cX10_enroll 53 = .ok (.iadd, 1) := by decide +kernel
theorem dX10_enroll_54 : decode cX10_enroll 54 = .ok (.istore 7, 2) := by decide +kernel
theorem dX10_enroll_56 : decode cX10_enroll 56 = .ok (.aload 4, 2) := by decide +kernel
theorem dX10_enroll_58 : decode cX10_enroll 58 = .ok (.iload 7, 2) := by decide +kernel
theorem dX10_enroll_60 : decode cX10_enroll 60 = .ok (.invokevirtual 154, 3) := by decide +kernel
theorem dX10_enroll_63 : decode cX10_enroll 63 = .ok (.ifCond .ne 29, 3) := by decide +kernel
theorem dX10_enroll_66 : decode cX10_enroll 66 = .ok (.aload 4, 2) := by decide +kernel
theorem dX10_enroll_68 : decode cX10_enroll 68 = .ok (.iload 7, 2) := by decide +kernel
theorem dX10_enroll_70 : decode cX10_enroll 70 = .ok (.aload 4, 2) := by decide +kernel
theorem dX10_enroll_72 : decode cX10_enroll 72 = .ok (.aload_n 0, 1) := by decide +kernel
theorem dX10_enroll_73 : decode cX10_enroll 73 = .ok (.getfield 41, 3) := by decide +kernel
theorem dX10_enroll_76 : decode cX10_enroll 76 = .ok (.iload 7, 2) := by decide +kernel
theorem dX10_enroll_78 : decode cX10_enroll 78 = .ok (.invokevirtual 147, 3) := by decide +kernel
theorem dX10_enroll_81 : decode cX10_enroll 81 = .ok (.aload 4, 2) := by decide +kernel
theorem dX10_enroll_83 : decode cX10_enroll 83 = .ok (.getfield 133, 3) := by decide +kernel
theorem dX10_enroll_86 : decode cX10_enroll 86 = .ok (.invokevirtual 158, 3) := by decide +kernel
theorem dX10_enroll_89 : decode cX10_enroll 89 = .ok (.iinc 5 1, 3) := by decide +kernel
theorem dX10_enroll_92 : decode cX10_enroll 92 = .ok (.iinc 6 1, 3) := by decide +kernel
theorem dX10_enroll_95 : decode cX10_enroll 95 = .ok (.goto (-62), 3) := by decide +kernel
theorem dX10_enroll_98 : decode cX10_enroll 98 = .ok (.aload_n 0, 1) := by decide +kernel
theorem dX10_enroll_99 : decode cX10_enroll 99 = .ok (.getfield 10, 3) := by decide +kernel
theorem dX10_enroll_102 : decode cX10_enroll 102 = .ok (.sipush 500, 3) := by decide +kernel
theorem dX10_enroll_105 : decode cX10_enroll 105 = .ok (.bipush 10, 2) := by decide +kernel
theorem dX10_enroll_107 : decode cX10_enroll 107 = .ok (.iload_n 1, 1) := by decide +kernel
theorem dX10_enroll_108 : decode cX10_enroll 108 = .ok (.imul, 1) := by decide +kernel
theorem dX10_enroll_109 : decode cX10_enroll 109 = .ok (.iadd, 1) := by decide +kernel
theorem dX10_enroll_110 : decode cX10_enroll 110 = .ok (.iload_n 3, 1) := by decide +kernel
theorem dX10_enroll_111 : decode cX10_enroll 111 = .ok (.iadd, 1) := by decide +kernel
theorem dX10_enroll_112 : decode cX10_enroll 112 = .ok (.invokevirtual 123, 3) := by decide +kernel
theorem dX10_enroll_115 : decode cX10_enroll 115 = .ok (.iload 5, 2) := by decide +kernel
theorem dX10_enroll_117 : decode cX10_enroll 117 = .ok (.ireturn, 1) := by decide +kernel
theorem dX10_expel_0 : decode cX10_expel 0 = .ok (.iload_n 1, 1) := by decide +kernel
theorem dX10_expel_1 : decode cX10_expel 1 = .ok (.invokestatic 99, 3) := by decide +kernel
theorem dX10_expel_4 : decode cX10_expel 4 = .ok (.iload_n 2, 1) := by decide +kernel
theorem dX10_expel_5 : decode cX10_expel 5 = .ok (.invokestatic 61, 3) := by decide +kernel
theorem dX10_expel_8 : decode cX10_expel 8 = .ok (.aload_n 0, 1) := by decide +kernel
theorem dX10_expel_9 : decode cX10_expel 9 = .ok (.iload_n 1, 1) := by decide +kernel
theorem dX10_expel_10 : decode cX10_expel 10 = .ok (.invokevirtual 126, 3) := by decide +kernel
theorem dX10_expel_13 : decode cX10_expel 13 = .ok (.astore_n 3, 1) := by decide +kernel
theorem dX10_expel_14 : decode cX10_expel 14 = .ok (.aload_n 3, 1) := by decide +kernel
theorem dX10_expel_15 : decode cX10_expel 15 = .ok (.iconst 1, 1) := by decide +kernel
theorem dX10_expel_16 : decode cX10_expel 16 = .ok (.iload_n 2, 1) := by decide +kernel
theorem dX10_expel_17 : decode cX10_expel 17 = .ok (.ishl, 1) := by decide +kernel
theorem dX10_expel_18 : decode cX10_expel 18 = .ok (.invokevirtual 90, 3) := by decide +kernel
theorem dX10_expel_21 : decode cX10_expel 21 = .ok (.istore 4, 2) := by decide +kernel
theorem dX10_expel_23 : decode cX10_expel 23 = .ok (.iconst 0, 1) := by decide +kernel
theorem dX10_expel_24 : decode cX10_expel 24 = .ok (.istore 5, 2) := by decide +kernel
theorem dX10_expel_26 : decode cX10_expel 26 = .ok (.iload 5, 2) := by decide +kernel
theorem dX10_expel_28 : decode cX10_expel 28 = .ok (.iconst 3, 1) := by decide +kernel
theorem dX10_expel_29 : decode cX10_expel 29 = .ok (.if_icmp .ge 20, 3) := by decide +kernel
theorem dX10_expel_32 : decode cX10_expel 32 = .ok (.aload_n 3, 1) := by decide +kernel
theorem dX10_expel_33 : decode cX10_expel 33 = .ok (.iload_n 2, 1) := by decide +kernel
theorem dX10_expel_34 : decode cX10_expel 34 = .ok (.invokestatic 151, 3) := by decide +kernel
theorem dX10_expel_37 : decode cX10_expel 37 = .ok (.iload 5, 2) := by decide +kernel
theorem dX10_expel_39 : decode cX10_expel 39 = .ok (.iadd, 1) := by decide +kernel
theorem dX10_expel_40 : decode cX10_expel 40 = .ok (.invokevirtual 162, 3) := by decide +kernel
theorem dX10_expel_43 : decode cX10_expel 43 = .ok (.iinc 5 1, 3) := by decide +kernel
theorem dX10_expel_46 : decode cX10_expel 46 = .ok (.goto (-20), 3) := by decide +kernel
theorem dX10_expel_49 : decode cX10_expel 49 = .ok (.aload_n 0, 1) := by decide +kernel
theorem dX10_expel_50 : decode cX10_expel 50 = .ok (.getfield 10, 3) := by decide +kernel
theorem dX10_expel_53 : decode cX10_expel 53 = .ok (.sipush 600, 3) := by decide +kernel
theorem dX10_expel_56 : decode cX10_expel 56 = .ok (.bipush 10, 2) := by decide +kernel
theorem dX10_expel_58 : decode cX10_expel 58 = .ok (.iload_n 1, 1) := by decide +kernel
theorem dX10_expel_59 : decode cX10_expel 59 = .ok (.imul, 1) := by decide +kernel
theorem dX10_expel_60 : decode cX10_expel 60 = .ok (.iadd, 1) := by decide +kernel
theorem dX10_expel_61 : decode cX10_expel 61 = .ok (.iload_n 2, 1) := by decide +kernel
theorem dX10_expel_62 : decode cX10_expel 62 = .ok (.iadd, 1) := by decide +kernel
theorem dX10_expel_63 : decode cX10_expel 63 = .ok (.invokevirtual 123, 3) := by decide +kernel
theorem dX10_expel_66 : decode cX10_expel 66 = .ok (.iload 4, 2) := by decide +kernel
theorem dX10_expel_68 : decode cX10_expel 68 = .ok (.ireturn, 1) := by decide +kernel
theorem dX10_open_0 : decode cX10_open 0 = .ok (.iload_n 1, 1) := by decide +kernel
theorem dX10_open_1 : decode cX10_open 1 = .ok (.invokestatic 99, 3) := by decide +kernel
theorem dX10_open_4 : decode cX10_open 4 = .ok (.iload_n 2, 1) := by decide +kernel
theorem dX10_open_5 : decode cX10_open 5 = .ok (.invokestatic 140, 3) := by decide +kernel
theorem dX10_open_8 : decode cX10_open 8 = .ok (.aload_n 0, 1) := by decide +kernel
theorem dX10_open_9 : decode cX10_open 9 = .ok (.iload_n 1, 1) := by decide +kernel
theorem dX10_open_10 : decode cX10_open 10 = .ok (.invokevirtual 126, 3) := by decide +kernel
theorem dX10_open_13 : decode cX10_open 13 = .ok (.astore_n 3, 1) := by decide +kernel
theorem dX10_open_14 : decode cX10_open 14 = .ok (.aload_n 0, 1) := by decide +kernel
theorem dX10_open_15 : decode cX10_open 15 = .ok (.iload_n 1, 1) := by decide +kernel
theorem dX10_open_16 : decode cX10_open 16 = .ok (.aload_n 3, 1) := by decide +kernel
theorem dX10_open_17 : decode cX10_open 17 = .ok (.iload_n 2, 1) := by decide +kernel
theorem dX10_open_18 : decode cX10_open 18 = .ok (.invokevirtual 143, 3) := by decide +kernel
theorem dX10_open_21 : decode cX10_open 21 = .ok (.aload_n 0, 1) := by decide +kernel
theorem dX10_open_22 : decode cX10_open 22 = .ok (.getfield 10, 3) := by decide +kernel
theorem dX10_open_25 : decode cX10_open 25 = .ok (.sipush 700, 3) := by decide +kernel
theorem dX10_open_28 : decode cX10_open 28 = .ok (.iload_n 1, 1) := by decide +kernel
theorem dX10_open_29 : decode cX10_open 29 = .ok (.iadd, 1) := by decide +kernel
theorem dX10_open_30 : decode cX10_open 30 = .ok (.invokevirtual 123, 3) := by decide +kernel
theorem dX10_open_33 : decode cX10_open 33 = .ok (.aload_n 3, 1) := by decide +kernel
theorem dX10_open_34 : decode cX10_open 34 = .ok (.aload_n 0, 1) := by decide +kernel
theorem dX10_open_35 : decode cX10_open 35 = .ok (.getfield 41, 3) := by decide +kernel
theorem dX10_open_38 : decode cX10_open 38 = .ok (.iconst 0, 1) := by decide +kernel
theorem dX10_open_39 : decode cX10_open 39 = .ok (.invokevirtual 147, 3) := by decide +kernel
theorem dX10_open_42 : decode cX10_open 42 = .ok (.ireturn, 1) := by decide +kernel
theorem dX10_combine_0 : decode cX10_combine 0 = .ok (.iload_n 1, 1) := by decide +kernel
theorem dX10_combine_1 : decode cX10_combine 1 = .ok (.invokestatic 99, 3) := by decide +kernel
theorem dX10_combine_4 : decode cX10_combine 4 = .ok (.iload_n 2, 1) := by decide +kernel
theorem dX10_combine_5 : decode cX10_combine 5 = .ok (.invokestatic 140, 3) := by decide +kernel
theorem dX10_combine_8 : decode cX10_combine 8 = .ok (.aload_n 0, 1) := by decide +kernel
theorem dX10_combine_9 : decode cX10_combine 9 = .ok (.iload_n 1, 1) := by decide +kernel
theorem dX10_combine_10 : decode cX10_combine 10 = .ok (.invokevirtual 126, 3) := by decide +kernel
theorem dX10_combine_13 : decode cX10_combine 13 = .ok (.astore_n 3, 1) := by decide +kernel
theorem dX10_combine_14 : decode cX10_combine 14 = .ok (.aload_n 0, 1) := by decide +kernel
theorem dX10_combine_15 : decode cX10_combine 15 = .ok (.aload_n 3, 1) := by decide +kernel
theorem dX10_combine_16 : decode cX10_combine 16 = .ok (.iload_n 2, 1) := by decide +kernel
theorem dX10_combine_17 : decode cX10_combine 17 = .ok (.iconst 0, 1) := by decide +kernel
theorem dX10_combine_18 : decode cX10_combine 18 = .ok (.invokevirtual 165, 3) := by decide +kernel
theorem dX10_combine_21 : decode cX10_combine 21 = .ok (.aload_n 3, 1) := by decide +kernel
theorem dX10_combine_22 : decode cX10_combine 22 = .ok (.getfield 169, 3) := by decide +kernel
theorem dX10_combine_25 : decode cX10_combine 25 = .ok (.if_icmp .ge 13, 3) := by decide +kernel
theorem dX10_combine_28 : decode cX10_combine 28 = .ok (.new 172, 3) := by decide +kernel
theorem dX10_combine_31 : decode cX10_combine 31 = .ok (.dup, 1) := by decide +kernel
theorem dX10_combine_32 : decode cX10_combine 32 = .ok (.ldc 174, 2) := by decide +kernel
theorem dX10_combine_34 : decode cX10_combine 34 = .ok (.invokespecial 176, 3) := by decide +kernel
theorem dX10_combine_37 : decode cX10_combine 37 = .ok (.athrow, 1) := by decide +kernel
theorem dX10_combine_38 : decode cX10_combine 38 = .ok (.aload_n 3, 1) := by decide +kernel
theorem dX10_combine_39 : decode cX10_combine 39 = .ok (.aload_n 0, 1) := by decide +kernel
theorem dX10_combine_40 : decode cX10_combine 40 = .ok (.getfield 41, 3) := by decide +kernel
theorem dX10_combine_43 : decode cX10_combine 43 = .ok (.iconst 0, 1) := by decide +kernel
theorem dX10_combine_44 : decode cX10_combine 44 = .ok (.invokevirtual 147, 3) := by decide +kernel
theorem dX10_combine_47 : decode cX10_combine 47 = .ok (.ireturn, 1) := by decide +kernel
theorem dX10_agree_0 : decode cX10_agree 0 = .ok (.iload_n 1, 1) := by decide +kernel
theorem dX10_agree_1 : decode cX10_agree 1 = .ok (.invokestatic 99, 3) := by decide +kernel
theorem dX10_agree_4 : decode cX10_agree 4 = .ok (.iload_n 2, 1) := by decide +kernel
theorem dX10_agree_5 : decode cX10_agree 5 = .ok (.invokestatic 140, 3) := by decide +kernel
theorem dX10_agree_8 : decode cX10_agree 8 = .ok (.aload_n 0, 1) := by decide +kernel
theorem dX10_agree_9 : decode cX10_agree 9 = .ok (.iload_n 1, 1) := by decide +kernel
theorem dX10_agree_10 : decode cX10_agree 10 = .ok (.invokevirtual 126, 3) := by decide +kernel
theorem dX10_agree_13 : decode cX10_agree 13 = .ok (.astore_n 3, 1) := by decide +kernel
theorem dX10_agree_14 : decode cX10_agree 14 = .ok (.aload_n 0, 1) := by decide +kernel
theorem dX10_agree_15 : decode cX10_agree 15 = .ok (.aload_n 3, 1) := by decide +kernel
theorem dX10_agree_16 : decode cX10_agree 16 = .ok (.iload_n 2, 1) := by decide +kernel
theorem dX10_agree_17 : decode cX10_agree 17 = .ok (.iconst 0, 1) := by decide +kernel
theorem dX10_agree_18 : decode cX10_agree 18 = .ok (.invokevirtual 165, 3) := by decide +kernel
theorem dX10_agree_21 : decode cX10_agree 21 = .ok (.aload_n 3, 1) := by decide +kernel
theorem dX10_agree_22 : decode cX10_agree 22 = .ok (.getfield 169, 3) := by decide +kernel
theorem dX10_agree_25 : decode cX10_agree 25 = .ok (.if_icmp .ge 5, 3) := by decide +kernel
theorem dX10_agree_28 : decode cX10_agree 28 = .ok (.iconst 1, 1) := by decide +kernel
theorem dX10_agree_29 : decode cX10_agree 29 = .ok (.ireturn, 1) := by decide +kernel
theorem dX10_agree_30 : decode cX10_agree 30 = .ok (.iconst 1, 1) := by decide +kernel
theorem dX10_agree_31 : decode cX10_agree 31 = .ok (.istore 4, 2) := by decide +kernel
theorem dX10_agree_33 : decode cX10_agree 33 = .ok (.iload 4, 2) := by decide +kernel
theorem dX10_agree_35 : decode cX10_agree 35 = .ok (.bipush 24, 2) := by decide +kernel
theorem dX10_agree_37 : decode cX10_agree 37 = .ok (.if_icmp .gt 52, 3) := by decide +kernel
theorem dX10_agree_40 : decode cX10_agree 40 = .ok (.iload_n 2, 1) := by decide +kernel
theorem dX10_agree_41 : decode cX10_agree 41 = .ok (.iload 4, 2) := by decide +kernel
theorem dX10_agree_43 : decode cX10_agree 43 = .ok (.invokestatic 177, 3) := by decide +kernel
theorem dX10_agree_46 : decode cX10_agree 46 = .ok (.invokestatic 78, 3) := by decide +kernel
theorem dX10_agree_49 : decode cX10_agree 49 = .ok (.ifCond .eq 34, 3) := by decide +kernel
theorem dX10_agree_52 : decode cX10_agree 52 = .ok (.aload_n 3, 1) := by decide +kernel
theorem dX10_agree_53 : decode cX10_agree 53 = .ok (.iload 4, 2) := by decide +kernel
theorem dX10_agree_55 : decode cX10_agree 55 = .ok (.invokevirtual 180, 3) := by decide +kernel
theorem dX10_agree_58 : decode cX10_agree 58 = .ok (.ifCond .eq 25, 3) := by decide +kernel
theorem dX10_agree_61 : decode cX10_agree 61 = .ok (.aload_n 3, 1) := by decide +kernel
theorem dX10_agree_62 : decode cX10_agree 62 = .ok (.aload_n 0, 1) := by decide +kernel
theorem dX10_agree_63 : decode cX10_agree 63 = .ok (.getfield 41, 3) := by decide +kernel
theorem dX10_agree_66 : decode cX10_agree 66 = .ok (.iload 4, 2) := by decide +kernel
theorem dX10_agree_68 : decode cX10_agree 68 = .ok (.invokevirtual 147, 3) := by decide +kernel
theorem dX10_agree_71 : decode cX10_agree 71 = .ok (.aload_n 3, 1) := by decide +kernel
theorem dX10_agree_72 : decode cX10_agree 72 = .ok (.getfield 183, 3) := by decide +kernel
theorem dX10_agree_75 : decode cX10_agree 75 = .ok (.iload 4, 2) := by decide +kernel
theorem dX10_agree_77 : decode cX10_agree 77 = .ok (.iaload, 1) := by decide +kernel
theorem dX10_agree_78 : decode cX10_agree 78 = .ok (.if_icmp .eq 5, 3) := by decide +kernel
theorem dX10_agree_81 : decode cX10_agree 81 = .ok (.iconst 0, 1) := by decide +kernel
theorem dX10_agree_82 : decode cX10_agree 82 = .ok (.ireturn, 1) := by decide +kernel
theorem dX10_agree_83 : decode cX10_agree 83 = .ok (.iinc 4 1, 3) := by decide +kernel
theorem dX10_agree_86 : decode cX10_agree 86 = .ok (.goto (-53), 3) := by decide +kernel
theorem dX10_agree_89 : decode cX10_agree 89 = .ok (.iconst 1, 1) := by decide +kernel
theorem dX10_agree_90 : decode cX10_agree 90 = .ok (.ireturn, 1) := by decide +kernel
theorem dX10_secret_0 : decode cX10_secret 0 = .ok (.iload_n 1, 1) := by decide +kernel
theorem dX10_secret_1 : decode cX10_secret 1 = .ok (.invokestatic 99, 3) := by decide +kernel
theorem dX10_secret_4 : decode cX10_secret 4 = .ok (.iload_n 2, 1) := by decide +kernel
theorem dX10_secret_5 : decode cX10_secret 5 = .ok (.bipush 6, 2) := by decide +kernel
theorem dX10_secret_7 : decode cX10_secret 7 = .ok (.invokestatic 82, 3) := by decide +kernel
theorem dX10_secret_10 : decode cX10_secret 10 = .ok (.aload_n 0, 1) := by decide +kernel
theorem dX10_secret_11 : decode cX10_secret 11 = .ok (.iload_n 1, 1) := by decide +kernel
theorem dX10_secret_12 : decode cX10_secret 12 = .ok (.invokevirtual 126, 3) := by decide +kernel
theorem dX10_secret_15 : decode cX10_secret 15 = .ok (.astore_n 3, 1) := by decide +kernel
theorem dX10_secret_16 : decode cX10_secret 16 = .ok (.iload_n 2, 1) := by decide +kernel
theorem dX10_secret_17 : decode cX10_secret 17 = .ok (.tableswitch 84 0 5 #[39, 44, 49, 57, 66, 75], 39) := by decide +kernel
theorem dX10_secret_56 : decode cX10_secret 56 = .ok (.aload_n 3, 1) := by decide +kernel
theorem dX10_secret_57 : decode cX10_secret 57 = .ok (.getfield 169, 3) := by decide +kernel
theorem dX10_secret_60 : decode cX10_secret 60 = .ok (.ireturn, 1) := by decide +kernel
theorem dX10_secret_61 : decode cX10_secret 61 = .ok (.aload_n 3, 1) := by decide +kernel
theorem dX10_secret_62 : decode cX10_secret 62 = .ok (.getfield 133, 3) := by decide +kernel
theorem dX10_secret_65 : decode cX10_secret 65 = .ok (.ireturn, 1) := by decide +kernel
theorem dX10_secret_66 : decode cX10_secret 66 = .ok (.aload_n 3, 1) := by decide +kernel
theorem dX10_secret_67 : decode cX10_secret 67 = .ok (.sipush 255, 3) := by decide +kernel
theorem dX10_secret_70 : decode cX10_secret 70 = .ok (.invokevirtual 90, 3) := by decide +kernel
theorem dX10_secret_73 : decode cX10_secret 73 = .ok (.ireturn, 1) := by decide +kernel
theorem dX10_secret_74 : decode cX10_secret 74 = .ok (.aload_n 3, 1) := by decide +kernel
theorem dX10_secret_75 : decode cX10_secret 75 = .ok (.sipush 255, 3) := by decide +kernel
theorem dX10_secret_78 : decode cX10_secret 78 = .ok (.iconst 0, 1) := by decide +kernel
theorem dX10_secret_79 : decode cX10_secret 79 = .ok (.invokevirtual 96, 3) := by decide +kernel
theorem dX10_secret_82 : decode cX10_secret 82 = .ok (.ireturn, 1) := by decide +kernel
theorem dX10_secret_83 : decode cX10_secret 83 = .ok (.aload_n 3, 1) := by decide +kernel
theorem dX10_secret_84 : decode cX10_secret 84 = .ok (.sipush 255, 3) := by decide +kernel
theorem dX10_secret_87 : decode cX10_secret 87 = .ok (.iconst 1, 1) := by decide +kernel
theorem dX10_secret_88 : decode cX10_secret 88 = .ok (.invokevirtual 96, 3) := by decide +kernel
theorem dX10_secret_91 : decode cX10_secret 91 = .ok (.ireturn, 1) := by decide +kernel
theorem dX10_secret_92 : decode cX10_secret 92 = .ok (.aload_n 3, 1) := by decide +kernel
theorem dX10_secret_93 : decode cX10_secret 93 = .ok (.sipush 255, 3) := by decide +kernel
theorem dX10_secret_96 : decode cX10_secret 96 = .ok (.iconst 2, 1) := by decide +kernel
theorem dX10_secret_97 : decode cX10_secret 97 = .ok (.invokevirtual 96, 3) := by decide +kernel
theorem dX10_secret_100 : decode cX10_secret 100 = .ok (.ireturn, 1) := by decide +kernel
theorem dX10_secret_101 : decode cX10_secret 101 = .ok (.aload_n 3, 1) := by decide +kernel
theorem dX10_secret_102 : decode cX10_secret 102 = .ok (.getfield 111, 3) := by decide +kernel
theorem dX10_secret_105 : decode cX10_secret 105 = .ok (.ifnonnull 7, 3) := by decide +kernel
theorem dX10_secret_108 : decode cX10_secret 108 = .ok (.iconst 0, 1) := by decide +kernel
theorem dX10_secret_109 : decode cX10_secret 109 = .ok (.goto 4, 3) := by decide +kernel
theorem dX10_secret_112 : decode cX10_secret 112 = .ok (.iconst 1, 1) := by decide +kernel
theorem dX10_secret_113 : decode cX10_secret 113 = .ok (.ireturn, 1) := by decide +kernel
theorem dX10_commitment_0 : decode cX10_commitment 0 = .ok (.iload_n 1, 1) := by decide +kernel
theorem dX10_commitment_1 : decode cX10_commitment 1 = .ok (.invokestatic 99, 3) := by decide +kernel
theorem dX10_commitment_4 : decode cX10_commitment 4 = .ok (.aload_n 0, 1) := by decide +kernel
theorem dX10_commitment_5 : decode cX10_commitment 5 = .ok (.iload_n 1, 1) := by decide +kernel
theorem dX10_commitment_6 : decode cX10_commitment 6 = .ok (.invokevirtual 126, 3) := by decide +kernel
theorem dX10_commitment_9 : decode cX10_commitment 9 = .ok (.astore_n 3, 1) := by decide +kernel
theorem dX10_commitment_10 : decode cX10_commitment 10 = .ok (.iload_n 2, 1) := by decide +kernel
theorem dX10_commitment_11 : decode cX10_commitment 11 = .ok (.ifCond .lt 11, 3) := by decide +kernel
theorem dX10_commitment_14 : decode cX10_commitment 14 = .ok (.iload_n 2, 1) := by decide +kernel
theorem dX10_commitment_15 : decode cX10_commitment 15 = .ok (.aload_n 3, 1) := by decide +kernel
theorem dX10_commitment_16 : decode cX10_commitment 16 = .ok (.getfield 169, 3) := by decide +kernel
theorem dX10_commitment_19 : decode cX10_commitment 19 = .ok (.if_icmp .lt 13, 3) := by decide +kernel
theorem dX10_commitment_22 : decode cX10_commitment 22 = .ok (.new 186, 3) := by decide +kernel
theorem dX10_commitment_25 : decode cX10_commitment 25 = .ok (.dup, 1) := by decide +kernel
theorem dX10_commitment_26 : decode cX10_commitment 26 = .ok (.ldc 188, 2) := by decide +kernel
theorem dX10_commitment_28 : decode cX10_commitment 28 = .ok (.invokespecial 190, 3) := by decide +kernel
theorem dX10_commitment_31 : decode cX10_commitment 31 = .ok (.athrow, 1) := by decide +kernel
theorem dX10_commitment_32 : decode cX10_commitment 32 = .ok (.aload_n 3, 1) := by decide +kernel
theorem dX10_commitment_33 : decode cX10_commitment 33 = .ok (.getfield 191, 3) := by decide +kernel
theorem dX10_commitment_36 : decode cX10_commitment 36 = .ok (.iload_n 2, 1) := by decide +kernel
theorem dX10_commitment_37 : decode cX10_commitment 37 = .ok (.iaload, 1) := by decide +kernel
theorem dX10_commitment_38 : decode cX10_commitment 38 = .ok (.ireturn, 1) := by decide +kernel
theorem dX10_share_0 : decode cX10_share 0 = .ok (.iload_n 1, 1) := by decide +kernel
theorem dX10_share_1 : decode cX10_share 1 = .ok (.invokestatic 99, 3) := by decide +kernel
theorem dX10_share_4 : decode cX10_share 4 = .ok (.iload_n 2, 1) := by decide +kernel
theorem dX10_share_5 : decode cX10_share 5 = .ok (.invokestatic 194, 3) := by decide +kernel
theorem dX10_share_8 : decode cX10_share 8 = .ok (.iload_n 3, 1) := by decide +kernel
theorem dX10_share_9 : decode cX10_share 9 = .ok (.iconst 2, 1) := by decide +kernel
theorem dX10_share_10 : decode cX10_share 10 = .ok (.invokestatic 82, 3) := by decide +kernel
theorem dX10_share_13 : decode cX10_share 13 = .ok (.aload_n 0, 1) := by decide +kernel
theorem dX10_share_14 : decode cX10_share 14 = .ok (.iload_n 1, 1) := by decide +kernel
theorem dX10_share_15 : decode cX10_share 15 = .ok (.iload_n 2, 1) := by decide +kernel
theorem dX10_share_16 : decode cX10_share 16 = .ok (.invokevirtual 197, 3) := by decide +kernel
theorem dX10_share_19 : decode cX10_share 19 = .ok (.astore 4, 2) := by decide +kernel
theorem dX10_share_21 : decode cX10_share 21 = .ok (.iload_n 3, 1) := by decide +kernel
theorem dX10_share_22 : decode cX10_share 22 = .ok (.ifCond .ne 11, 3) := by decide +kernel
theorem dX10_share_25 : decode cX10_share 25 = .ok (.aload 4, 2) := by decide +kernel
theorem dX10_share_27 : decode cX10_share 27 = .ok (.getfield 183, 3) := by decide +kernel
theorem dX10_share_30 : decode cX10_share 30 = .ok (.iload_n 2, 1) := by decide +kernel
theorem dX10_share_31 : decode cX10_share 31 = .ok (.iaload, 1) := by decide +kernel
theorem dX10_share_32 : decode cX10_share 32 = .ok (.ireturn, 1) := by decide +kernel
theorem dX10_share_33 : decode cX10_share 33 = .ok (.iload_n 3, 1) := by decide +kernel
theorem dX10_share_34 : decode cX10_share 34 = .ok (.iconst 1, 1) := by decide +kernel
theorem dX10_share_35 : decode cX10_share 35 = .ok (.if_icmp .ne 13, 3) := by decide +kernel
theorem dX10_share_38 : decode cX10_share 38 = .ok (.aload 4, 2) := by decide +kernel
theorem dX10_share_40 : decode cX10_share 40 = .ok (.getfield 201, 3) := by decide +kernel
theorem dX10_share_43 : decode cX10_share 43 = .ok (.iload_n 2, 1) := by decide +kernel
theorem dX10_share_44 : decode cX10_share 44 = .ok (.iaload, 1) := by decide +kernel
theorem dX10_share_45 : decode cX10_share 45 = .ok (.goto 9, 3) := by decide +kernel
theorem dX10_share_48 : decode cX10_share 48 = .ok (.aload 4, 2) := by decide +kernel
theorem dX10_share_50 : decode cX10_share 50 = .ok (.iload_n 2, 1) := by decide +kernel
theorem dX10_share_51 : decode cX10_share 51 = .ok (.invokevirtual 204, 3) := by decide +kernel
theorem dX10_share_54 : decode cX10_share 54 = .ok (.ireturn, 1) := by decide +kernel
theorem dX10_setShare_0 : decode cX10_setShare 0 = .ok (.iload_n 1, 1) := by decide +kernel
theorem dX10_setShare_1 : decode cX10_setShare 1 = .ok (.invokestatic 99, 3) := by decide +kernel
theorem dX10_setShare_4 : decode cX10_setShare 4 = .ok (.iload_n 2, 1) := by decide +kernel
theorem dX10_setShare_5 : decode cX10_setShare 5 = .ok (.invokestatic 194, 3) := by decide +kernel
theorem dX10_setShare_8 : decode cX10_setShare 8 = .ok (.iload_n 3, 1) := by decide +kernel
theorem dX10_setShare_9 : decode cX10_setShare 9 = .ok (.invokestatic 102, 3) := by decide +kernel
theorem dX10_setShare_12 : decode cX10_setShare 12 = .ok (.aload_n 0, 1) := by decide +kernel
theorem dX10_setShare_13 : decode cX10_setShare 13 = .ok (.iload_n 1, 1) := by decide +kernel
theorem dX10_setShare_14 : decode cX10_setShare 14 = .ok (.iload_n 2, 1) := by decide +kernel
theorem dX10_setShare_15 : decode cX10_setShare 15 = .ok (.invokevirtual 197, 3) := by decide +kernel
theorem dX10_setShare_18 : decode cX10_setShare 18 = .ok (.astore 4, 2) := by decide +kernel
theorem dX10_setShare_20 : decode cX10_setShare 20 = .ok (.aload 4, 2) := by decide +kernel
theorem dX10_setShare_22 : decode cX10_setShare 22 = .ok (.getfield 183, 3) := by decide +kernel
theorem dX10_setShare_25 : decode cX10_setShare 25 = .ok (.iload_n 2, 1) := by decide +kernel
theorem dX10_setShare_26 : decode cX10_setShare 26 = .ok (.iaload, 1) := by decide +kernel
theorem dX10_setShare_27 : decode cX10_setShare 27 = .ok (.istore 5, 2) := by decide +kernel
theorem dX10_setShare_29 : decode cX10_setShare 29 = .ok (.aload 4, 2) := by decide +kernel
theorem dX10_setShare_31 : decode cX10_setShare 31 = .ok (.getfield 183, 3) := by decide +kernel
theorem dX10_setShare_34 : decode cX10_setShare 34 = .ok (.iload_n 2, 1) := by decide +kernel
theorem dX10_setShare_35 : decode cX10_setShare 35 = .ok (.iload_n 3, 1) := by decide +kernel
theorem dX10_setShare_36 : decode cX10_setShare 36 = .ok (.iastore, 1) := by decide +kernel
theorem dX10_setShare_37 : decode cX10_setShare 37 = .ok (.iload 5, 2) := by decide +kernel
theorem dX10_setShare_39 : decode cX10_setShare 39 = .ok (.ireturn, 1) := by decide +kernel
theorem dX10_shareText_0 : decode cX10_shareText 0 = .ok (.iload_n 1, 1) := by decide +kernel
theorem dX10_shareText_1 : decode cX10_shareText 1 = .ok (.invokestatic 99, 3) := by decide +kernel
theorem dX10_shareText_4 : decode cX10_shareText 4 = .ok (.iload_n 2, 1) := by decide +kernel
theorem dX10_shareText_5 : decode cX10_shareText 5 = .ok (.invokestatic 194, 3) := by decide +kernel
theorem dX10_shareText_8 : decode cX10_shareText 8 = .ok (.iload_n 3, 1) := by decide +kernel
theorem dX10_shareText_9 : decode cX10_shareText 9 = .ok (.invokestatic 207, 3) := by decide +kernel
theorem dX10_shareText_12 : decode cX10_shareText 12 = .ok (.aload_n 0, 1) := by decide +kernel
theorem dX10_shareText_13 : decode cX10_shareText 13 = .ok (.iload_n 1, 1) := by decide +kernel
theorem dX10_shareText_14 : decode cX10_shareText 14 = .ok (.iload_n 2, 1) := by decide +kernel
theorem dX10_shareText_15 : decode cX10_shareText 15 = .ok (.invokevirtual 197, 3) := by decide +kernel
theorem dX10_shareText_18 : decode cX10_shareText 18 = .ok (.astore 4, 2) := by decide +kernel
theorem dX10_shareText_20 : decode cX10_shareText 20 = .ok (.aload_n 0, 1) := by decide +kernel
theorem dX10_shareText_21 : decode cX10_shareText 21 = .ok (.iload_n 2, 1) := by decide +kernel
theorem dX10_shareText_22 : decode cX10_shareText 22 = .ok (.aload 4, 2) := by decide +kernel
theorem dX10_shareText_24 : decode cX10_shareText 24 = .ok (.getfield 183, 3) := by decide +kernel
theorem dX10_shareText_27 : decode cX10_shareText 27 = .ok (.iload_n 2, 1) := by decide +kernel
theorem dX10_shareText_28 : decode cX10_shareText 28 = .ok (.iaload, 1) := by decide +kernel
theorem dX10_shareText_29 : decode cX10_shareText 29 = .ok (.aload 4, 2) := by decide +kernel
theorem dX10_shareText_31 : decode cX10_shareText 31 = .ok (.getfield 201, 3) := by decide +kernel
theorem dX10_shareText_34 : decode cX10_shareText 34 = .ok (.iload_n 2, 1) := by decide +kernel
theorem dX10_shareText_35 : decode cX10_shareText 35 = .ok (.iaload, 1) := by decide +kernel
theorem dX10_shareText_36 : decode cX10_shareText 36 = .ok (.invokevirtual 210, 3) := by decide +kernel
theorem dX10_shareText_39 : decode cX10_shareText 39 = .ok (.iload_n 3, 1) := by decide +kernel
theorem dX10_shareText_40 : decode cX10_shareText 40 = .ok (.aload_n 0, 1) := by decide +kernel
theorem dX10_shareText_41 : decode cX10_shareText 41 = .ok (.getfield 51, 3) := by decide +kernel
theorem dX10_shareText_44 : decode cX10_shareText 44 = .ok (.invokevirtual 213, 3) := by decide +kernel
theorem dX10_shareText_47 : decode cX10_shareText 47 = .ok (.if_icmp .lt 13, 3) := by decide +kernel
theorem dX10_shareText_50 : decode cX10_shareText 50 = .ok (.new 186, 3) := by decide +kernel
theorem dX10_shareText_53 : decode cX10_shareText 53 = .ok (.dup, 1) := by decide +kernel
theorem dX10_shareText_54 : decode cX10_shareText 54 = .ok (.ldc 216, 2) := by decide +kernel
theorem dX10_shareText_56 : decode cX10_shareText 56 = .ok (.invokespecial 190, 3) := by decide +kernel
theorem dX10_shareText_59 : decode cX10_shareText 59 = .ok (.athrow, 1) := by decide +kernel
theorem dX10_shareText_60 : decode cX10_shareText 60 = .ok (.iload_n 3, 1) := by decide +kernel
theorem dX10_shareText_61 : decode cX10_shareText 61 = .ok (.ifCond .ge 13, 3) := by decide +kernel
theorem dX10_shareText_64 : decode cX10_shareText 64 = .ok (.aload_n 0, 1) := by decide +kernel
theorem dX10_shareText_65 : decode cX10_shareText 65 = .ok (.getfield 51, 3) := by decide +kernel
theorem dX10_shareText_68 : decode cX10_shareText 68 = .ok (.invokevirtual 213, 3) := by decide +kernel
theorem dX10_shareText_71 : decode cX10_shareText 71 = .ok (.goto 11, 3) := by decide +kernel
theorem dX10_shareText_74 : decode cX10_shareText 74 = .ok (.aload_n 0, 1) := by decide +kernel
theorem dX10_shareText_75 : decode cX10_shareText 75 = .ok (.getfield 51, 3) := by decide +kernel
theorem dX10_shareText_78 : decode cX10_shareText 78 = .ok (.iload_n 3, 1) := by decide +kernel
theorem dX10_shareText_79 : decode cX10_shareText 79 = .ok (.invokevirtual 218, 3) := by decide +kernel
theorem dX10_shareText_82 : decode cX10_shareText 82 = .ok (.ireturn, 1) := by decide +kernel
theorem dX10_importShare_0 : decode cX10_importShare 0 = .ok (.iload_n 1, 1) := by decide +kernel
theorem dX10_importShare_1 : decode cX10_importShare 1 = .ok (.invokestatic 99, 3) := by decide +kernel
theorem dX10_importShare_4 : decode cX10_importShare 4 = .ok (.aload_n 0, 1) := by decide +kernel
theorem dX10_importShare_5 : decode cX10_importShare 5 = .ok (.iload_n 1, 1) := by decide +kernel
theorem dX10_importShare_6 : decode cX10_importShare 6 = .ok (.invokevirtual 126, 3) := by decide +kernel
theorem dX10_importShare_9 : decode cX10_importShare 9 = .ok (.astore_n 2, 1) := by decide +kernel
theorem dX10_importShare_10 : decode cX10_importShare 10 = .ok (.new 222, 3) := by decide +kernel
theorem dX10_importShare_13 : decode cX10_importShare 13 = .ok (.dup, 1) := by decide +kernel
theorem dX10_importShare_14 : decode cX10_importShare 14 = .ok (.aload_n 0, 1) := by decide +kernel
theorem dX10_importShare_15 : decode cX10_importShare 15 = .ok (.invokevirtual 224, 3) := by decide +kernel
theorem dX10_importShare_18 : decode cX10_importShare 18 = .ok (.invokespecial 228, 3) := by decide +kernel
theorem dX10_importShare_21 : decode cX10_importShare 21 = .ok (.astore_n 3, 1) := by decide +kernel
theorem dX10_importShare_22 : decode cX10_importShare 22 = .ok (.aload_n 0, 1) := by decide +kernel
theorem dX10_importShare_23 : decode cX10_importShare 23 = .ok (.aload_n 3, 1) := by decide +kernel
theorem dX10_importShare_24 : decode cX10_importShare 24 = .ok (.invokevirtual 229, 3) := by decide +kernel
theorem dX10_importShare_27 : decode cX10_importShare 27 = .ok (.putfield 26, 3) := by decide +kernel
theorem dX10_importShare_30 : decode cX10_importShare 30 = .ok (.aload_n 0, 1) := by decide +kernel
theorem dX10_importShare_31 : decode cX10_importShare 31 = .ok (.getfield 26, 3) := by decide +kernel
theorem dX10_importShare_34 : decode cX10_importShare 34 = .ok (.ifCond .lt 13, 3) := by decide +kernel
theorem dX10_importShare_37 : decode cX10_importShare 37 = .ok (.new 65, 3) := by decide +kernel
theorem dX10_importShare_40 : decode cX10_importShare 40 = .ok (.dup, 1) := by decide +kernel
theorem dX10_importShare_41 : decode cX10_importShare 41 = .ok (.ldc 232, 2) := by decide +kernel
theorem dX10_importShare_43 : decode cX10_importShare 43 = .ok (.invokespecial 69, 3) := by decide +kernel
theorem dX10_importShare_46 : decode cX10_importShare 46 = .ok (.athrow, 1) := by decide +kernel
theorem dX10_importShare_47 : decode cX10_importShare 47 = .ok (.aload_n 2, 1) := by decide +kernel
theorem dX10_importShare_48 : decode cX10_importShare 48 = .ok (.aload_n 3, 1) := by decide +kernel
theorem dX10_importShare_49 : decode cX10_importShare 49 = .ok (.getfield 234, 3) := by decide +kernel
theorem dX10_importShare_52 : decode cX10_importShare 52 = .ok (.aload_n 3, 1) := by decide +kernel
theorem dX10_importShare_53 : decode cX10_importShare 53 = .ok (.getfield 237, 3) := by decide +kernel
theorem dX10_importShare_56 : decode cX10_importShare 56 = .ok (.aload_n 3, 1) := by decide +kernel
theorem dX10_importShare_57 : decode cX10_importShare 57 = .ok (.getfield 240, 3) := by decide +kernel
theorem dX10_importShare_60 : decode cX10_importShare 60 = .ok (.invokevirtual 158, 3) := by decide +kernel
theorem dX10_importShare_63 : decode cX10_importShare 63 = .ok (.aload_n 3, 1) := by decide +kernel
theorem dX10_importShare_64 : decode cX10_importShare 64 = .ok (.getfield 234, 3) := by decide +kernel
theorem dX10_importShare_67 : decode cX10_importShare 67 = .ok (.ireturn, 1) := by decide +kernel
theorem dX10_bad_0 : decode cX10_bad 0 = .ok (.iload_n 1, 1) := by decide +kernel
theorem dX10_bad_1 : decode cX10_bad 1 = .ok (.invokestatic 99, 3) := by decide +kernel
theorem dX10_bad_4 : decode cX10_bad 4 = .ok (.aload_n 0, 1) := by decide +kernel
theorem dX10_bad_5 : decode cX10_bad 5 = .ok (.iload_n 1, 1) := by decide +kernel
theorem dX10_bad_6 : decode cX10_bad 6 = .ok (.invokevirtual 126, 3) := by decide +kernel
theorem dX10_bad_9 : decode cX10_bad 9 = .ok (.astore_n 3, 1) := by decide +kernel
theorem dX10_bad_10 : decode cX10_bad 10 = .ok (.iconst 0, 1) := by decide +kernel
theorem dX10_bad_11 : decode cX10_bad 11 = .ok (.istore 4, 2) := by decide +kernel
theorem dX10_bad_13 : decode cX10_bad 13 = .ok (.iconst 1, 1) := by decide +kernel
theorem dX10_bad_14 : decode cX10_bad 14 = .ok (.istore 5, 2) := by decide +kernel
theorem dX10_bad_16 : decode cX10_bad 16 = .ok (.iload 5, 2) := by decide +kernel
theorem dX10_bad_18 : decode cX10_bad 18 = .ok (.bipush 24, 2) := by decide +kernel
theorem dX10_bad_20 : decode cX10_bad 20 = .ok (.if_icmp .gt 39, 3) := by decide +kernel
theorem dX10_bad_23 : decode cX10_bad 23 = .ok (.aload_n 3, 1) := by decide +kernel
theorem dX10_bad_24 : decode cX10_bad 24 = .ok (.iload 5, 2) := by decide +kernel
theorem dX10_bad_26 : decode cX10_bad 26 = .ok (.invokevirtual 180, 3) := by decide +kernel
theorem dX10_bad_29 : decode cX10_bad 29 = .ok (.ifCond .eq 24, 3) := by decide +kernel
theorem dX10_bad_32 : decode cX10_bad 32 = .ok (.aload_n 3, 1) := by decide +kernel
theorem dX10_bad_33 : decode cX10_bad 33 = .ok (.iload 5, 2) := by decide +kernel
theorem dX10_bad_35 : decode cX10_bad 35 = .ok (.invokevirtual 204, 3) := by decide +kernel
theorem dX10_bad_38 : decode cX10_bad 38 = .ok (.ifCond .eq 15, 3) := by decide +kernel
theorem dX10_bad_41 : decode cX10_bad 41 = .ok (.iload 4, 2) := by decide +kernel
theorem dX10_bad_43 : decode cX10_bad 43 = .ok (.iload_n 2, 1) := by decide +kernel
theorem dX10_bad_44 : decode cX10_bad 44 = .ok (.if_icmp .ne 6, 3) := by decide +kernel
theorem dX10_bad_47 : decode cX10_bad 47 = .ok (.iload 5, 2) := by decide +kernel
theorem dX10_bad_49 : decode cX10_bad 49 = .ok (.ireturn, 1) := by decide +kernel
theorem dX10_bad_50 : decode cX10_bad 50 = .ok (.iinc 4 1, 3) := by decide +kernel
theorem dX10_bad_53 : decode cX10_bad 53 = .ok (.iinc 5 1, 3) := by decide +kernel
theorem dX10_bad_56 : decode cX10_bad 56 = .ok (.goto (-40), 3) := by decide +kernel
theorem dX10_bad_59 : decode cX10_bad 59 = .ok (.new 186, 3) := by decide +kernel
theorem dX10_bad_62 : decode cX10_bad 62 = .ok (.dup, 1) := by decide +kernel
theorem dX10_bad_63 : decode cX10_bad 63 = .ok (.ldc 241, 2) := by decide +kernel
theorem dX10_bad_65 : decode cX10_bad 65 = .ok (.invokespecial 190, 3) := by decide +kernel
theorem dX10_bad_68 : decode cX10_bad 68 = .ok (.athrow, 1) := by decide +kernel
theorem dX10_append_0 : decode cX10_append 0 = .ok (.iconst 0, 1) := by decide +kernel
theorem dX10_append_1 : decode cX10_append 1 = .ok (.istore_n 2, 1) := by decide +kernel
theorem dX10_append_2 : decode cX10_append 2 = .ok (.bipush 24, 2) := by decide +kernel
theorem dX10_append_4 : decode cX10_append 4 = .ok (.istore_n 3, 1) := by decide +kernel
theorem dX10_append_5 : decode cX10_append 5 = .ok (.iload_n 3, 1) := by decide +kernel
theorem dX10_append_6 : decode cX10_append 6 = .ok (.ifCond .lt 60, 3) := by decide +kernel
theorem dX10_append_9 : decode cX10_append 9 = .ok (.iload_n 1, 1) := by decide +kernel
theorem dX10_append_10 : decode cX10_append 10 = .ok (.iload_n 3, 1) := by decide +kernel
theorem dX10_append_11 : decode cX10_append 11 = .ok (.iushr, 1) := by decide +kernel
theorem dX10_append_12 : decode cX10_append 12 = .ok (.sipush 255, 3) := by decide +kernel
theorem dX10_append_15 : decode cX10_append 15 = .ok (.iand, 1) := by decide +kernel
theorem dX10_append_16 : decode cX10_append 16 = .ok (.istore 4, 2) := by decide +kernel
theorem dX10_append_18 : decode cX10_append 18 = .ok (.iload 4, 2) := by decide +kernel
theorem dX10_append_20 : decode cX10_append 20 = .ok (.ifCond .eq 27, 3) := by decide +kernel
theorem dX10_append_23 : decode cX10_append 23 = .ok (.iload 4, 2) := by decide +kernel
theorem dX10_append_25 : decode cX10_append 25 = .ok (.bipush 33, 2) := by decide +kernel
theorem dX10_append_27 : decode cX10_append 27 = .ok (.if_icmp .lt 10, 3) := by decide +kernel
theorem dX10_append_30 : decode cX10_append 30 = .ok (.iload 4, 2) := by decide +kernel
theorem dX10_append_32 : decode cX10_append 32 = .ok (.bipush 126, 2) := by decide +kernel
theorem dX10_append_34 : decode cX10_append 34 = .ok (.if_icmp .le 13, 3) := by decide +kernel
theorem dX10_append_37 : decode cX10_append 37 = .ok (.new 65, 3) := by decide +kernel
theorem dX10_append_40 : decode cX10_append 40 = .ok (.dup, 1) := by decide +kernel
theorem dX10_append_41 : decode cX10_append 41 = .ok (.ldc 243, 2) := by decide +kernel
theorem dX10_append_43 : decode cX10_append 43 = .ok (.invokespecial 69, 3) := by decide +kernel
theorem dX10_append_46 : decode cX10_append 46 = .ok (.athrow, 1) := by decide +kernel
theorem dX10_append_47 : decode cX10_append 47 = .ok (.iload_n 2, 1) := by decide +kernel
theorem dX10_append_48 : decode cX10_append 48 = .ok (.iload 4, 2) := by decide +kernel
theorem dX10_append_50 : decode cX10_append 50 = .ok (.ifCond .ne 7, 3) := by decide +kernel
theorem dX10_append_53 : decode cX10_append 53 = .ok (.iconst 0, 1) := by decide +kernel
theorem dX10_append_54 : decode cX10_append 54 = .ok (.goto 4, 3) := by decide +kernel
theorem dX10_append_57 : decode cX10_append 57 = .ok (.iconst 1, 1) := by decide +kernel
theorem dX10_append_58 : decode cX10_append 58 = .ok (.iadd, 1) := by decide +kernel
theorem dX10_append_59 : decode cX10_append 59 = .ok (.istore_n 2, 1) := by decide +kernel
theorem dX10_append_60 : decode cX10_append 60 = .ok (.iinc 3 (-8), 3) := by decide +kernel
theorem dX10_append_63 : decode cX10_append 63 = .ok (.goto (-58), 3) := by decide +kernel
theorem dX10_append_66 : decode cX10_append 66 = .ok (.aload_n 0, 1) := by decide +kernel
theorem dX10_append_67 : decode cX10_append 67 = .ok (.getfield 22, 3) := by decide +kernel
theorem dX10_append_70 : decode cX10_append 70 = .ok (.invokevirtual 213, 3) := by decide +kernel
theorem dX10_append_73 : decode cX10_append 73 = .ok (.iload_n 2, 1) := by decide +kernel
theorem dX10_append_74 : decode cX10_append 74 = .ok (.iadd, 1) := by decide +kernel
theorem dX10_append_75 : decode cX10_append 75 = .ok (.bipush 40, 2) := by decide +kernel
theorem dX10_append_77 : decode cX10_append 77 = .ok (.if_icmp .le 13, 3) := by decide +kernel
theorem dX10_append_80 : decode cX10_append 80 = .ok (.new 172, 3) := by decide +kernel
theorem dX10_append_83 : decode cX10_append 83 = .ok (.dup, 1) := by decide +kernel
theorem dX10_append_84 : decode cX10_append 84 = .ok (.ldc 245, 2) := by decide +kernel
theorem dX10_append_86 : decode cX10_append 86 = .ok (.invokespecial 176, 3) := by decide +kernel
theorem dX10_append_89 : decode cX10_append 89 = .ok (.athrow, 1) := by decide +kernel
theorem dX10_append_90 : decode cX10_append 90 = .ok (.bipush 24, 2) := by decide +kernel
theorem dX10_append_92 : decode cX10_append 92 = .ok (.istore_n 3, 1) := by decide +kernel
theorem dX10_append_93 : decode cX10_append 93 = .ok (.iload_n 3, 1) := by decide +kernel
theorem dX10_append_94 : decode cX10_append 94 = .ok (.ifCond .lt 34, 3) := by decide +kernel
theorem dX10_append_97 : decode cX10_append 97 = .ok (.iload_n 1, 1) := by decide +kernel
theorem dX10_append_98 : decode cX10_append 98 = .ok (.iload_n 3, 1) := by decide +kernel
theorem dX10_append_99 : decode cX10_append 99 = .ok (.iushr, 1) := by decide +kernel
theorem dX10_append_100 : decode cX10_append 100 = .ok (.sipush 255, 3) := by decide +kernel
theorem dX10_append_103 : decode cX10_append 103 = .ok (.iand, 1) := by decide +kernel
theorem dX10_append_104 : decode cX10_append 104 = .ok (.istore 4, 2) := by decide +kernel
theorem dX10_append_106 : decode cX10_append 106 = .ok (.iload 4, 2) := by decide +kernel
theorem dX10_append_108 : decode cX10_append 108 = .ok (.ifCond .eq 14, 3) := by decide +kernel
theorem dX10_append_111 : decode cX10_append 111 = .ok (.aload_n 0, 1) := by decide +kernel
theorem dX10_append_112 : decode cX10_append 112 = .ok (.getfield 22, 3) := by decide +kernel
theorem dX10_append_115 : decode cX10_append 115 = .ok (.iload 4, 2) := by decide +kernel
theorem dX10_append_117 : decode cX10_append 117 = .ok (.i2c, 1) := by decide +kernel
theorem dX10_append_118 : decode cX10_append 118 = .ok (.invokevirtual 247, 3) := by decide +kernel
theorem dX10_append_121 : decode cX10_append 121 = .ok (.pop, 1) := by decide +kernel
theorem dX10_append_122 : decode cX10_append 122 = .ok (.iinc 3 (-8), 3) := by decide +kernel
theorem dX10_append_125 : decode cX10_append 125 = .ok (.goto (-32), 3) := by decide +kernel
theorem dX10_append_128 : decode cX10_append 128 = .ok (.aload_n 0, 1) := by decide +kernel
theorem dX10_append_129 : decode cX10_append 129 = .ok (.getfield 22, 3) := by decide +kernel
theorem dX10_append_132 : decode cX10_append 132 = .ok (.invokevirtual 213, 3) := by decide +kernel
theorem dX10_append_135 : decode cX10_append 135 = .ok (.ireturn, 1) := by decide +kernel
theorem dX10_setPolicy_0 : decode cX10_setPolicy 0 = .ok (.iload_n 1, 1) := by decide +kernel
theorem dX10_setPolicy_1 : decode cX10_setPolicy 1 = .ok (.invokestatic 99, 3) := by decide +kernel
theorem dX10_setPolicy_4 : decode cX10_setPolicy 4 = .ok (.aload_n 0, 1) := by decide +kernel
theorem dX10_setPolicy_5 : decode cX10_setPolicy 5 = .ok (.iload_n 1, 1) := by decide +kernel
theorem dX10_setPolicy_6 : decode cX10_setPolicy 6 = .ok (.invokevirtual 126, 3) := by decide +kernel
theorem dX10_setPolicy_9 : decode cX10_setPolicy 9 = .ok (.astore_n 2, 1) := by decide +kernel
theorem dX10_setPolicy_10 : decode cX10_setPolicy 10 = .ok (.aload_n 0, 1) := by decide +kernel
theorem dX10_setPolicy_11 : decode cX10_setPolicy 11 = .ok (.invokevirtual 224, 3) := by decide +kernel
theorem dX10_setPolicy_14 : decode cX10_setPolicy 14 = .ok (.astore_n 3, 1) := by decide +kernel
theorem dX10_setPolicy_15 : decode cX10_setPolicy 15 = .ok (.aload_n 0, 1) := by decide +kernel
theorem dX10_setPolicy_16 : decode cX10_setPolicy 16 = .ok (.aload_n 3, 1) := by decide +kernel
theorem dX10_setPolicy_17 : decode cX10_setPolicy 17 = .ok (.invokevirtual 251, 3) := by decide +kernel
theorem dX10_setPolicy_20 : decode cX10_setPolicy 20 = .ok (.ifCond .eq 7, 3) := by decide +kernel
theorem dX10_setPolicy_23 : decode cX10_setPolicy 23 = .ok (.iconst (-1), 1) := by decide +kernel
theorem dX10_setPolicy_24 : decode cX10_setPolicy 24 = .ok (.goto 14, 3) := by decide +kernel
theorem dX10_setPolicy_27 : decode cX10_setPolicy 27 = .ok (.new 257, 3) := by decide +kernel
theorem dX10_setPolicy_30 : decode cX10_setPolicy 30 = .ok (.dup, 1) := by decide +kernel
theorem dX10_setPolicy_31 : decode cX10_setPolicy 31 = .ok (.aload_n 3, 1) := by decide +kernel
theorem dX10_setPolicy_32 : decode cX10_setPolicy 32 = .ok (.invokespecial 259, 3) := by decide +kernel
theorem dX10_setPolicy_35 : decode cX10_setPolicy 35 = .ok (.invokevirtual 260, 3) := by decide +kernel
theorem dX10_setPolicy_38 : decode cX10_setPolicy 38 = .ok (.putfield 26, 3) := by decide +kernel
theorem dX10_setPolicy_41 : decode cX10_setPolicy 41 = .ok (.aload_n 0, 1) := by decide +kernel
theorem dX10_setPolicy_42 : decode cX10_setPolicy 42 = .ok (.getfield 26, 3) := by decide +kernel
theorem dX10_setPolicy_45 : decode cX10_setPolicy 45 = .ok (.ifCond .lt 14, 3) := by decide +kernel
theorem dX10_setPolicy_48 : decode cX10_setPolicy 48 = .ok (.new 65, 3) := by decide +kernel
theorem dX10_setPolicy_51 : decode cX10_setPolicy 51 = .ok (.dup, 1) := by decide +kernel
theorem dX10_setPolicy_52 : decode cX10_setPolicy 52 = .ok (.ldc_w 261, 3) := by decide +kernel
theorem dX10_setPolicy_55 : decode cX10_setPolicy 55 = .ok (.invokespecial 69, 3) := by decide +kernel
theorem dX10_setPolicy_58 : decode cX10_setPolicy 58 = .ok (.athrow, 1) := by decide +kernel
theorem dX10_setPolicy_59 : decode cX10_setPolicy 59 = .ok (.aload_n 2, 1) := by decide +kernel
theorem dX10_setPolicy_60 : decode cX10_setPolicy 60 = .ok (.getfield 111, 3) := by decide +kernel
theorem dX10_setPolicy_63 : decode cX10_setPolicy 63 = .ok (.ifnull 7, 3) := by decide +kernel
theorem dX10_setPolicy_66 : decode cX10_setPolicy 66 = .ok (.iconst 1, 1) := by decide +kernel
theorem dX10_setPolicy_67 : decode cX10_setPolicy 67 = .ok (.goto 4, 3) := by decide +kernel
theorem dX10_setPolicy_70 : decode cX10_setPolicy 70 = .ok (.iconst 0, 1) := by decide +kernel
theorem dX10_setPolicy_71 : decode cX10_setPolicy 71 = .ok (.istore 4, 2) := by decide +kernel
theorem dX10_setPolicy_73 : decode cX10_setPolicy 73 = .ok (.aload_n 2, 1) := by decide +kernel
theorem dX10_setPolicy_74 : decode cX10_setPolicy 74 = .ok (.aload_n 3, 1) := by decide +kernel
theorem dX10_setPolicy_75 : decode cX10_setPolicy 75 = .ok (.invokevirtual 251, 3) := by decide +kernel
theorem dX10_setPolicy_78 : decode cX10_setPolicy 78 = .ok (.ifCond .eq 7, 3) := by decide +kernel
theorem dX10_setPolicy_81 : decode cX10_setPolicy 81 = .ok (.aconst_null, 1) := by decide +kernel
theorem dX10_setPolicy_82 : decode cX10_setPolicy 82 = .ok (.goto 7, 3) := by decide +kernel
theorem dX10_setPolicy_85 : decode cX10_setPolicy 85 = .ok (.aload_n 3, 1) := by decide +kernel
theorem dX10_setPolicy_86 : decode cX10_setPolicy 86 = .ok (.invokestatic 263, 3) := by decide +kernel
theorem dX10_setPolicy_89 : decode cX10_setPolicy 89 = .ok (.putfield 111, 3) := by decide +kernel
theorem dX10_setPolicy_92 : decode cX10_setPolicy 92 = .ok (.iload 4, 2) := by decide +kernel
theorem dX10_setPolicy_94 : decode cX10_setPolicy 94 = .ok (.ireturn, 1) := by decide +kernel
theorem dX10_errorPosition_0 : decode cX10_errorPosition 0 = .ok (.aload_n 0, 1) := by decide +kernel
theorem dX10_errorPosition_1 : decode cX10_errorPosition 1 = .ok (.getfield 26, 3) := by decide +kernel
theorem dX10_errorPosition_4 : decode cX10_errorPosition 4 = .ok (.ireturn, 1) := by decide +kernel
theorem dX10_fulfils_0 : decode cX10_fulfils 0 = .ok (.iload_n 1, 1) := by decide +kernel
theorem dX10_fulfils_1 : decode cX10_fulfils 1 = .ok (.invokestatic 99, 3) := by decide +kernel
theorem dX10_fulfils_4 : decode cX10_fulfils 4 = .ok (.iload_n 2, 1) := by decide +kernel
theorem dX10_fulfils_5 : decode cX10_fulfils 5 = .ok (.invokestatic 140, 3) := by decide +kernel
theorem dX10_fulfils_8 : decode cX10_fulfils 8 = .ok (.aload_n 0, 1) := by decide +kernel
theorem dX10_fulfils_9 : decode cX10_fulfils 9 = .ok (.iload_n 1, 1) := by decide +kernel
theorem dX10_fulfils_10 : decode cX10_fulfils 10 = .ok (.invokevirtual 126, 3) := by decide +kernel
theorem dX10_fulfils_13 : decode cX10_fulfils 13 = .ok (.iload_n 2, 1) := by decide +kernel
theorem dX10_fulfils_14 : decode cX10_fulfils 14 = .ok (.invokevirtual 269, 3) := by decide +kernel
theorem dX10_fulfils_17 : decode cX10_fulfils 17 = .ok (.ireturn, 1) := by decide +kernel
theorem dX10_policyText_0 : decode cX10_policyText 0 = .ok (.iload_n 1, 1) := by decide +kernel
theorem dX10_policyText_1 : decode cX10_policyText 1 = .ok (.invokestatic 99, 3) := by decide +kernel
theorem dX10_policyText_4 : decode cX10_policyText 4 = .ok (.iload_n 2, 1) := by decide +kernel
theorem dX10_policyText_5 : decode cX10_policyText 5 = .ok (.invokestatic 207, 3) := by decide +kernel
theorem dX10_policyText_8 : decode cX10_policyText 8 = .ok (.aload_n 0, 1) := by decide +kernel
theorem dX10_policyText_9 : decode cX10_policyText 9 = .ok (.iload_n 1, 1) := by decide +kernel
theorem dX10_policyText_10 : decode cX10_policyText 10 = .ok (.invokevirtual 126, 3) := by decide +kernel
theorem dX10_policyText_13 : decode cX10_policyText 13 = .ok (.invokestatic 272, 3) := by decide +kernel
theorem dX10_policyText_16 : decode cX10_policyText 16 = .ok (.getfield 276, 3) := by decide +kernel
theorem dX10_policyText_19 : decode cX10_policyText 19 = .ok (.astore_n 3, 1) := by decide +kernel
theorem dX10_policyText_20 : decode cX10_policyText 20 = .ok (.iload_n 2, 1) := by decide +kernel
theorem dX10_policyText_21 : decode cX10_policyText 21 = .ok (.aload_n 3, 1) := by decide +kernel
theorem dX10_policyText_22 : decode cX10_policyText 22 = .ok (.invokevirtual 280, 3) := by decide +kernel
theorem dX10_policyText_25 : decode cX10_policyText 25 = .ok (.if_icmp .lt 14, 3) := by decide +kernel
theorem dX10_policyText_28 : decode cX10_policyText 28 = .ok (.new 186, 3) := by decide +kernel
theorem dX10_policyText_31 : decode cX10_policyText 31 = .ok (.dup, 1) := by decide +kernel
theorem dX10_policyText_32 : decode cX10_policyText 32 = .ok (.ldc_w 281, 3) := by decide +kernel
theorem dX10_policyText_35 : decode cX10_policyText 35 = .ok (.invokespecial 190, 3) := by decide +kernel
theorem dX10_policyText_38 : decode cX10_policyText 38 = .ok (.athrow, 1) := by decide +kernel
theorem dX10_policyText_39 : decode cX10_policyText 39 = .ok (.iload_n 2, 1) := by decide +kernel
theorem dX10_policyText_40 : decode cX10_policyText 40 = .ok (.ifCond .ge 10, 3) := by decide +kernel
theorem dX10_policyText_43 : decode cX10_policyText 43 = .ok (.aload_n 3, 1) := by decide +kernel
theorem dX10_policyText_44 : decode cX10_policyText 44 = .ok (.invokevirtual 280, 3) := by decide +kernel
theorem dX10_policyText_47 : decode cX10_policyText 47 = .ok (.goto 8, 3) := by decide +kernel
theorem dX10_policyText_50 : decode cX10_policyText 50 = .ok (.aload_n 3, 1) := by decide +kernel
theorem dX10_policyText_51 : decode cX10_policyText 51 = .ok (.iload_n 2, 1) := by decide +kernel
theorem dX10_policyText_52 : decode cX10_policyText 52 = .ok (.invokevirtual 283, 3) := by decide +kernel
theorem dX10_policyText_55 : decode cX10_policyText 55 = .ok (.ireturn, 1) := by decide +kernel
theorem dX10_policy_0 : decode cX10_policy 0 = .ok (.iload_n 1, 1) := by decide +kernel
theorem dX10_policy_1 : decode cX10_policy 1 = .ok (.invokestatic 99, 3) := by decide +kernel
theorem dX10_policy_4 : decode cX10_policy 4 = .ok (.iload_n 2, 1) := by decide +kernel
theorem dX10_policy_5 : decode cX10_policy 5 = .ok (.iconst 2, 1) := by decide +kernel
theorem dX10_policy_6 : decode cX10_policy 6 = .ok (.invokestatic 82, 3) := by decide +kernel
theorem dX10_policy_9 : decode cX10_policy 9 = .ok (.aload_n 0, 1) := by decide +kernel
theorem dX10_policy_10 : decode cX10_policy 10 = .ok (.iload_n 1, 1) := by decide +kernel
theorem dX10_policy_11 : decode cX10_policy 11 = .ok (.invokevirtual 126, 3) := by decide +kernel
theorem dX10_policy_14 : decode cX10_policy 14 = .ok (.invokestatic 272, 3) := by decide +kernel
theorem dX10_policy_17 : decode cX10_policy 17 = .ok (.astore_n 3, 1) := by decide +kernel
theorem dX10_policy_18 : decode cX10_policy 18 = .ok (.iload_n 2, 1) := by decide +kernel
theorem dX10_policy_19 : decode cX10_policy 19 = .ok (.ifCond .ne 8, 3) := by decide +kernel
theorem dX10_policy_22 : decode cX10_policy 22 = .ok (.aload_n 3, 1) := by decide +kernel
theorem dX10_policy_23 : decode cX10_policy 23 = .ok (.getfield 284, 3) := by decide +kernel
theorem dX10_policy_26 : decode cX10_policy 26 = .ok (.ireturn, 1) := by decide +kernel
theorem dX10_policy_27 : decode cX10_policy 27 = .ok (.iload_n 2, 1) := by decide +kernel
theorem dX10_policy_28 : decode cX10_policy 28 = .ok (.iconst 1, 1) := by decide +kernel
theorem dX10_policy_29 : decode cX10_policy 29 = .ok (.if_icmp .ne 10, 3) := by decide +kernel
theorem dX10_policy_32 : decode cX10_policy 32 = .ok (.aload_n 3, 1) := by decide +kernel
theorem dX10_policy_33 : decode cX10_policy 33 = .ok (.getfield 287, 3) := by decide +kernel
theorem dX10_policy_36 : decode cX10_policy 36 = .ok (.goto 7, 3) := by decide +kernel
theorem dX10_policy_39 : decode cX10_policy 39 = .ok (.aload_n 3, 1) := by decide +kernel
theorem dX10_policy_40 : decode cX10_policy 40 = .ok (.getfield 290, 3) := by decide +kernel
theorem dX10_policy_43 : decode cX10_policy 43 = .ok (.ireturn, 1) := by decide +kernel
theorem dX10_groups_0 : decode cX10_groups 0 = .ok (.iload_n 1, 1) := by decide +kernel
theorem dX10_groups_1 : decode cX10_groups 1 = .ok (.invokestatic 99, 3) := by decide +kernel
theorem dX10_groups_4 : decode cX10_groups 4 = .ok (.aload_n 0, 1) := by decide +kernel
theorem dX10_groups_5 : decode cX10_groups 5 = .ok (.aload_n 0, 1) := by decide +kernel
theorem dX10_groups_6 : decode cX10_groups 6 = .ok (.iload_n 1, 1) := by decide +kernel
theorem dX10_groups_7 : decode cX10_groups 7 = .ok (.invokevirtual 126, 3) := by decide +kernel
theorem dX10_groups_10 : decode cX10_groups 10 = .ok (.invokevirtual 293, 3) := by decide +kernel
theorem dX10_groups_13 : decode cX10_groups 13 = .ok (.iconst 0, 1) := by decide +kernel
theorem dX10_groups_14 : decode cX10_groups 14 = .ok (.istore_n 2, 1) := by decide +kernel
theorem dX10_groups_15 : decode cX10_groups 15 = .ok (.iconst 0, 1) := by decide +kernel
theorem dX10_groups_16 : decode cX10_groups 16 = .ok (.istore_n 3, 1) := by decide +kernel
theorem dX10_groups_17 : decode cX10_groups 17 = .ok (.iload_n 3, 1) := by decide +kernel
theorem dX10_groups_18 : decode cX10_groups 18 = .ok (.sipush 256, 3) := by decide +kernel
theorem dX10_groups_21 : decode cX10_groups 21 = .ok (.if_icmp .ge 26, 3) := by decide +kernel
theorem dX10_groups_24 : decode cX10_groups 24 = .ok (.iload_n 2, 1) := by decide +kernel
theorem dX10_groups_25 : decode cX10_groups 25 = .ok (.aload_n 0, 1) := by decide +kernel
theorem dX10_groups_26 : decode cX10_groups 26 = .ok (.getfield 47, 3) := by decide +kernel
theorem dX10_groups_29 : decode cX10_groups 29 = .ok (.iload_n 3, 1) := by decide +kernel
theorem dX10_groups_30 : decode cX10_groups 30 = .ok (.baload, 1) := by decide +kernel
theorem dX10_groups_31 : decode cX10_groups 31 = .ok (.ifCond .eq 7, 3) := by decide +kernel
theorem dX10_groups_34 : decode cX10_groups 34 = .ok (.iconst 1, 1) := by decide +kernel
theorem dX10_groups_35 : decode cX10_groups 35 = .ok (.goto 4, 3) := by decide +kernel
theorem dX10_groups_38 : decode cX10_groups 38 = .ok (.iconst 0, 1) := by decide +kernel
theorem dX10_groups_39 : decode cX10_groups 39 = .ok (.iadd, 1) := by decide +kernel
theorem dX10_groups_40 : decode cX10_groups 40 = .ok (.istore_n 2, 1) := by decide +kernel
theorem dX10_groups_41 : decode cX10_groups 41 = .ok (.iinc 3 1, 3) := by decide +kernel
theorem dX10_groups_44 : decode cX10_groups 44 = .ok (.goto (-27), 3) := by decide +kernel
theorem dX10_groups_47 : decode cX10_groups 47 = .ok (.iload_n 2, 1) := by decide +kernel
theorem dX10_groups_48 : decode cX10_groups 48 = .ok (.ireturn, 1) := by decide +kernel
theorem dX10_smallest_0 : decode cX10_smallest 0 = .ok (.iload_n 1, 1) := by decide +kernel
theorem dX10_smallest_1 : decode cX10_smallest 1 = .ok (.invokestatic 99, 3) := by decide +kernel
theorem dX10_smallest_4 : decode cX10_smallest 4 = .ok (.aload_n 0, 1) := by decide +kernel
theorem dX10_smallest_5 : decode cX10_smallest 5 = .ok (.aload_n 0, 1) := by decide +kernel
theorem dX10_smallest_6 : decode cX10_smallest 6 = .ok (.iload_n 1, 1) := by decide +kernel
theorem dX10_smallest_7 : decode cX10_smallest 7 = .ok (.invokevirtual 126, 3) := by decide +kernel
theorem dX10_smallest_10 : decode cX10_smallest 10 = .ok (.invokevirtual 293, 3) := by decide +kernel
theorem dX10_smallest_13 : decode cX10_smallest 13 = .ok (.iconst 0, 1) := by decide +kernel
theorem dX10_smallest_14 : decode cX10_smallest 14 = .ok (.istore_n 3, 1) := by decide +kernel
theorem dX10_smallest_15 : decode cX10_smallest 15 = .ok (.iconst 0, 1) := by decide +kernel
theorem dX10_smallest_16 : decode cX10_smallest 16 = .ok (.istore 4, 2) := by decide +kernel
theorem dX10_smallest_18 : decode cX10_smallest 18 = .ok (.iload 4, 2) := by decide +kernel
theorem dX10_smallest_20 : decode cX10_smallest 20 = .ok (.sipush 256, 3) := by decide +kernel
theorem dX10_smallest_23 : decode cX10_smallest 23 = .ok (.if_icmp .ge 29, 3) := by decide +kernel
theorem dX10_smallest_26 : decode cX10_smallest 26 = .ok (.aload_n 0, 1) := by decide +kernel
theorem dX10_smallest_27 : decode cX10_smallest 27 = .ok (.iload 4, 2) := by decide +kernel
theorem dX10_smallest_29 : decode cX10_smallest 29 = .ok (.invokevirtual 297, 3) := by decide +kernel
theorem dX10_smallest_32 : decode cX10_smallest 32 = .ok (.ifCond .eq 14, 3) := by decide +kernel
theorem dX10_smallest_35 : decode cX10_smallest 35 = .ok (.iload_n 3, 1) := by decide +kernel
theorem dX10_smallest_36 : decode cX10_smallest 36 = .ok (.iload_n 2, 1) := by decide +kernel
theorem dX10_smallest_37 : decode cX10_smallest 37 = .ok (.if_icmp .ne 6, 3) := by decide +kernel
theorem dX10_smallest_40 : decode cX10_smallest 40 = .ok (.iload 4, 2) := by decide +kernel
theorem dX10_smallest_42 : decode cX10_smallest 42 = .ok (.ireturn, 1) := by decide +kernel
theorem dX10_smallest_43 : decode cX10_smallest 43 = .ok (.iinc 3 1, 3) := by decide +kernel
theorem dX10_smallest_46 : decode cX10_smallest 46 = .ok (.iinc 4 1, 3) := by decide +kernel
theorem dX10_smallest_49 : decode cX10_smallest 49 = .ok (.goto (-31), 3) := by decide +kernel
theorem dX10_smallest_52 : decode cX10_smallest 52 = .ok (.new 186, 3) := by decide +kernel
theorem dX10_smallest_55 : decode cX10_smallest 55 = .ok (.dup, 1) := by decide +kernel
theorem dX10_smallest_56 : decode cX10_smallest 56 = .ok (.ldc_w 300, 3) := by decide +kernel
theorem dX10_smallest_59 : decode cX10_smallest 59 = .ok (.invokespecial 190, 3) := by decide +kernel
theorem dX10_smallest_62 : decode cX10_smallest 62 = .ok (.athrow, 1) := by decide +kernel
theorem dX10_powerBits_0 : decode cX10_powerBits 0 = .ok (.iload_n 1, 1) := by decide +kernel
theorem dX10_powerBits_1 : decode cX10_powerBits 1 = .ok (.invokestatic 99, 3) := by decide +kernel
theorem dX10_powerBits_4 : decode cX10_powerBits 4 = .ok (.iload_n 2, 1) := by decide +kernel
theorem dX10_powerBits_5 : decode cX10_powerBits 5 = .ok (.invokestatic 61, 3) := by decide +kernel
theorem dX10_powerBits_8 : decode cX10_powerBits 8 = .ok (.aload_n 0, 1) := by decide +kernel
theorem dX10_powerBits_9 : decode cX10_powerBits 9 = .ok (.aload_n 0, 1) := by decide +kernel
theorem dX10_powerBits_10 : decode cX10_powerBits 10 = .ok (.iload_n 1, 1) := by decide +kernel
theorem dX10_powerBits_11 : decode cX10_powerBits 11 = .ok (.invokevirtual 126, 3) := by decide +kernel
theorem dX10_powerBits_14 : decode cX10_powerBits 14 = .ok (.invokevirtual 293, 3) := by decide +kernel
theorem dX10_powerBits_17 : decode cX10_powerBits 17 = .ok (.iconst 0, 1) := by decide +kernel
theorem dX10_powerBits_18 : decode cX10_powerBits 18 = .ok (.istore_n 3, 1) := by decide +kernel
theorem dX10_powerBits_19 : decode cX10_powerBits 19 = .ok (.iconst 0, 1) := by decide +kernel
theorem dX10_powerBits_20 : decode cX10_powerBits 20 = .ok (.istore 4, 2) := by decide +kernel
theorem dX10_powerBits_22 : decode cX10_powerBits 22 = .ok (.iload 4, 2) := by decide +kernel
theorem dX10_powerBits_24 : decode cX10_powerBits 24 = .ok (.sipush 256, 3) := by decide +kernel
theorem dX10_powerBits_27 : decode cX10_powerBits 27 = .ok (.if_icmp .ge 27, 3) := by decide +kernel
theorem dX10_powerBits_30 : decode cX10_powerBits 30 = .ok (.iload_n 3, 1) := by decide +kernel
theorem dX10_powerBits_31 : decode cX10_powerBits 31 = .ok (.aload_n 0, 1) := by decide +kernel
theorem dX10_powerBits_32 : decode cX10_powerBits 32 = .ok (.iload_n 2, 1) := by decide +kernel
theorem dX10_powerBits_33 : decode cX10_powerBits 33 = .ok (.iload 4, 2) := by decide +kernel
theorem dX10_powerBits_35 : decode cX10_powerBits 35 = .ok (.invokevirtual 302, 3) := by decide +kernel
theorem dX10_powerBits_38 : decode cX10_powerBits 38 = .ok (.ifCond .eq 7, 3) := by decide +kernel
theorem dX10_powerBits_41 : decode cX10_powerBits 41 = .ok (.iconst 1, 1) := by decide +kernel
theorem dX10_powerBits_42 : decode cX10_powerBits 42 = .ok (.goto 4, 3) := by decide +kernel
theorem dX10_powerBits_45 : decode cX10_powerBits 45 = .ok (.iconst 0, 1) := by decide +kernel
theorem dX10_powerBits_46 : decode cX10_powerBits 46 = .ok (.iadd, 1) := by decide +kernel
theorem dX10_powerBits_47 : decode cX10_powerBits 47 = .ok (.istore_n 3, 1) := by decide +kernel
theorem dX10_powerBits_48 : decode cX10_powerBits 48 = .ok (.iinc 4 1, 3) := by decide +kernel
theorem dX10_powerBits_51 : decode cX10_powerBits 51 = .ok (.goto (-29), 3) := by decide +kernel
theorem dX10_powerBits_54 : decode cX10_powerBits 54 = .ok (.iload_n 3, 1) := by decide +kernel
theorem dX10_powerBits_55 : decode cX10_powerBits 55 = .ok (.i2d, 1) := by decide +kernel
theorem dX10_powerBits_56 : decode cX10_powerBits 56 = .ok (.ldc2_w 305, 3) := by decide +kernel
theorem dX10_powerBits_59 : decode cX10_powerBits 59 = .ok (.ddiv, 1) := by decide +kernel
theorem dX10_powerBits_60 : decode cX10_powerBits 60 = .ok (.invokestatic 307, 3) := by decide +kernel
theorem dX10_powerBits_63 : decode cX10_powerBits 63 = .ok (.lreturn, 1) := by decide +kernel
theorem dX10_healthBits_0 : decode cX10_healthBits 0 = .ok (.iload_n 1, 1) := by decide +kernel
theorem dX10_healthBits_1 : decode cX10_healthBits 1 = .ok (.invokestatic 99, 3) := by decide +kernel
theorem dX10_healthBits_4 : decode cX10_healthBits 4 = .ok (.aload_n 0, 1) := by decide +kernel
theorem dX10_healthBits_5 : decode cX10_healthBits 5 = .ok (.iload_n 1, 1) := by decide +kernel
theorem dX10_healthBits_6 : decode cX10_healthBits 6 = .ok (.invokevirtual 126, 3) := by decide +kernel
theorem dX10_healthBits_9 : decode cX10_healthBits 9 = .ok (.astore_n 2, 1) := by decide +kernel
theorem dX10_healthBits_10 : decode cX10_healthBits 10 = .ok (.aload_n 2, 1) := by decide +kernel
theorem dX10_healthBits_11 : decode cX10_healthBits 11 = .ok (.sipush 255, 3) := by decide +kernel
theorem dX10_healthBits_14 : decode cX10_healthBits 14 = .ok (.invokevirtual 90, 3) := by decide +kernel
theorem dX10_healthBits_17 : decode cX10_healthBits 17 = .ok (.istore_n 3, 1) := by decide +kernel
theorem dX10_healthBits_18 : decode cX10_healthBits 18 = .ok (.iload_n 3, 1) := by decide +kernel
theorem dX10_healthBits_19 : decode cX10_healthBits 19 = .ok (.ifCond .ne 14, 3) := by decide +kernel
theorem dX10_healthBits_22 : decode cX10_healthBits 22 = .ok (.new 313, 3) := by decide +kernel
theorem dX10_healthBits_25 : decode cX10_healthBits 25 = .ok (.dup, 1) := by decide +kernel
theorem dX10_healthBits_26 : decode cX10_healthBits 26 = .ok (.ldc_w 315, 3) := by decide +kernel
theorem dX10_healthBits_29 : decode cX10_healthBits 29 = .ok (.invokespecial 317, 3) := by decide +kernel
theorem dX10_healthBits_32 : decode cX10_healthBits 32 = .ok (.athrow, 1) := by decide +kernel
theorem dX10_healthBits_33 : decode cX10_healthBits 33 = .ok (.aload_n 2, 1) := by decide +kernel
theorem dX10_healthBits_34 : decode cX10_healthBits 34 = .ok (.sipush 255, 3) := by decide +kernel
theorem dX10_healthBits_37 : decode cX10_healthBits 37 = .ok (.iconst 0, 1) := by decide +kernel
theorem dX10_healthBits_38 : decode cX10_healthBits 38 = .ok (.invokevirtual 96, 3) := by decide +kernel
theorem dX10_healthBits_41 : decode cX10_healthBits 41 = .ok (.i2f, 1) := by decide +kernel
theorem dX10_healthBits_42 : decode cX10_healthBits 42 = .ok (.iload_n 3, 1) := by decide +kernel
theorem dX10_healthBits_43 : decode cX10_healthBits 43 = .ok (.i2f, 1) := by decide +kernel
theorem dX10_healthBits_44 : decode cX10_healthBits 44 = .ok (.fdiv, 1) := by decide +kernel
theorem dX10_healthBits_45 : decode cX10_healthBits 45 = .ok (.invokestatic 318, 3) := by decide +kernel
theorem dX10_healthBits_48 : decode cX10_healthBits 48 = .ok (.ireturn, 1) := by decide +kernel
theorem dX10_levels_0 : decode cX10_levels 0 = .ok (.aload_n 0, 1) := by decide +kernel
theorem dX10_levels_1 : decode cX10_levels 1 = .ok (.getfield 33, 3) := by decide +kernel
theorem dX10_levels_4 : decode cX10_levels 4 = .ok (.getfield 322, 3) := by decide +kernel
theorem dX10_levels_7 : decode cX10_levels 7 = .ok (.ireturn, 1) := by decide +kernel
theorem dX10_report_0 : decode cX10_report 0 = .ok (.iload_n 1, 1) := by decide +kernel
theorem dX10_report_1 : decode cX10_report 1 = .ok (.ifCond .lt 14, 3) := by decide +kernel
theorem dX10_report_4 : decode cX10_report 4 = .ok (.iload_n 1, 1) := by decide +kernel
theorem dX10_report_5 : decode cX10_report 5 = .ok (.aload_n 0, 1) := by decide +kernel
theorem dX10_report_6 : decode cX10_report 6 = .ok (.getfield 33, 3) := by decide +kernel
theorem dX10_report_9 : decode cX10_report 9 = .ok (.getfield 322, 3) := by decide +kernel
theorem dX10_report_12 : decode cX10_report 12 = .ok (.if_icmp .lt 14, 3) := by decide +kernel
theorem dX10_report_15 : decode cX10_report 15 = .ok (.new 186, 3) := by decide +kernel
theorem dX10_report_18 : decode cX10_report 18 = .ok (.dup, 1) := by decide +kernel
theorem dX10_report_19 : decode cX10_report 19 = .ok (.ldc_w 325, 3) := by decide +kernel
theorem dX10_report_22 : decode cX10_report 22 = .ok (.invokespecial 190, 3) := by decide +kernel
theorem dX10_report_25 : decode cX10_report 25 = .ok (.athrow, 1) := by decide +kernel
theorem dX10_report_26 : decode cX10_report 26 = .ok (.iload_n 2, 1) := by decide +kernel
theorem dX10_report_27 : decode cX10_report 27 = .ok (.iconst 1, 1) := by decide +kernel
theorem dX10_report_28 : decode cX10_report 28 = .ok (.invokestatic 82, 3) := by decide +kernel
theorem dX10_report_31 : decode cX10_report 31 = .ok (.iload_n 2, 1) := by decide +kernel
theorem dX10_report_32 : decode cX10_report 32 = .ok (.ifCond .ne 15, 3) := by decide +kernel
theorem dX10_report_35 : decode cX10_report 35 = .ok (.aload_n 0, 1) := by decide +kernel
theorem dX10_report_36 : decode cX10_report 36 = .ok (.getfield 33, 3) := by decide +kernel
theorem dX10_report_39 : decode cX10_report 39 = .ok (.getfield 327, 3) := by decide +kernel
theorem dX10_report_42 : decode cX10_report 42 = .ok (.iload_n 1, 1) := by decide +kernel
theorem dX10_report_43 : decode cX10_report 43 = .ok (.iaload, 1) := by decide +kernel
theorem dX10_report_44 : decode cX10_report 44 = .ok (.goto 12, 3) := by decide +kernel
theorem dX10_report_47 : decode cX10_report 47 = .ok (.aload_n 0, 1) := by decide +kernel
theorem dX10_report_48 : decode cX10_report 48 = .ok (.getfield 33, 3) := by decide +kernel
theorem dX10_report_51 : decode cX10_report 51 = .ok (.getfield 330, 3) := by decide +kernel
theorem dX10_report_54 : decode cX10_report 54 = .ok (.iload_n 1, 1) := by decide +kernel
theorem dX10_report_55 : decode cX10_report 55 = .ok (.iaload, 1) := by decide +kernel
theorem dX10_report_56 : decode cX10_report 56 = .ok (.ireturn, 1) := by decide +kernel
theorem dX10_event_0 : decode cX10_event 0 = .ok (.iload_n 1, 1) := by decide +kernel
theorem dX10_event_1 : decode cX10_event 1 = .ok (.ifCond .lt 14, 3) := by decide +kernel
theorem dX10_event_4 : decode cX10_event 4 = .ok (.iload_n 1, 1) := by decide +kernel
theorem dX10_event_5 : decode cX10_event 5 = .ok (.aload_n 0, 1) := by decide +kernel
theorem dX10_event_6 : decode cX10_event 6 = .ok (.getfield 10, 3) := by decide +kernel
theorem dX10_event_9 : decode cX10_event 9 = .ok (.getfield 333, 3) := by decide +kernel
theorem dX10_event_12 : decode cX10_event 12 = .ok (.if_icmp .lt 14, 3) := by decide +kernel
theorem dX10_event_15 : decode cX10_event 15 = .ok (.new 186, 3) := by decide +kernel
theorem dX10_event_18 : decode cX10_event 18 = .ok (.dup, 1) := by decide +kernel
theorem dX10_event_19 : decode cX10_event 19 = .ok (.ldc_w 336, 3) := by decide +kernel
theorem dX10_event_22 : decode cX10_event 22 = .ok (.invokespecial 190, 3) := by decide +kernel
theorem dX10_event_25 : decode cX10_event 25 = .ok (.athrow, 1) := by decide +kernel
theorem dX10_event_26 : decode cX10_event 26 = .ok (.aload_n 0, 1) := by decide +kernel
theorem dX10_event_27 : decode cX10_event 27 = .ok (.getfield 10, 3) := by decide +kernel
theorem dX10_event_30 : decode cX10_event 30 = .ok (.getfield 338, 3) := by decide +kernel
theorem dX10_event_33 : decode cX10_event 33 = .ok (.aload_n 0, 1) := by decide +kernel
theorem dX10_event_34 : decode cX10_event 34 = .ok (.getfield 10, 3) := by decide +kernel
theorem dX10_event_37 : decode cX10_event 37 = .ok (.getfield 341, 3) := by decide +kernel
theorem dX10_event_40 : decode cX10_event 40 = .ok (.bipush 20, 2) := by decide +kernel
theorem dX10_event_42 : decode cX10_event 42 = .ok (.iadd, 1) := by decide +kernel
theorem dX10_event_43 : decode cX10_event 43 = .ok (.iload_n 1, 1) := by decide +kernel
theorem dX10_event_44 : decode cX10_event 44 = .ok (.isub, 1) := by decide +kernel
theorem dX10_event_45 : decode cX10_event 45 = .ok (.bipush 20, 2) := by decide +kernel
theorem dX10_event_47 : decode cX10_event 47 = .ok (.irem, 1) := by decide +kernel
theorem dX10_event_48 : decode cX10_event 48 = .ok (.iaload, 1) := by decide +kernel
theorem dX10_event_49 : decode cX10_event 49 = .ok (.ireturn, 1) := by decide +kernel
theorem dX10_save_0 : decode cX10_save 0 = .ok (.aload_n 0, 1) := by decide +kernel
theorem dX10_save_1 : decode cX10_save 1 = .ok (.getfield 16, 3) := by decide +kernel
theorem dX10_save_4 : decode cX10_save 4 = .ok (.aload_n 0, 1) := by decide +kernel
theorem dX10_save_5 : decode cX10_save 5 = .ok (.getfield 10, 3) := by decide +kernel
theorem dX10_save_8 : decode cX10_save 8 = .ok (.invokevirtual 344, 3) := by decide +kernel
theorem dX10_save_11 : decode cX10_save 11 = .ok (.aload_n 0, 1) := by decide +kernel
theorem dX10_save_12 : decode cX10_save 12 = .ok (.iconst 1, 1) := by decide +kernel
theorem dX10_save_13 : decode cX10_save 13 = .ok (.putfield 348, 3) := by decide +kernel
theorem dX10_save_16 : decode cX10_save 16 = .ok (.aload_n 0, 1) := by decide +kernel
theorem dX10_save_17 : decode cX10_save 17 = .ok (.getfield 10, 3) := by decide +kernel
theorem dX10_save_20 : decode cX10_save 20 = .ok (.invokevirtual 351, 3) := by decide +kernel
theorem dX10_save_23 : decode cX10_save 23 = .ok (.ireturn, 1) := by decide +kernel
theorem dX10_restore_0 : decode cX10_restore 0 = .ok (.aload_n 0, 1) := by decide +kernel
theorem dX10_restore_1 : decode cX10_restore 1 = .ok (.getfield 348, 3) := by decide +kernel
theorem dX10_restore_4 : decode cX10_restore 4 = .ok (.ifCond .ne 14, 3) := by decide +kernel
theorem dX10_restore_7 : decode cX10_restore 7 = .ok (.new 172, 3) := by decide +kernel
theorem dX10_restore_10 : decode cX10_restore 10 = .ok (.dup, 1) := by decide +kernel
theorem dX10_restore_11 : decode cX10_restore 11 = .ok (.ldc_w 354, 3) := by decide +kernel
theorem dX10_restore_14 : decode cX10_restore 14 = .ok (.invokespecial 176, 3) := by decide +kernel
theorem dX10_restore_17 : decode cX10_restore 17 = .ok (.athrow, 1) := by decide +kernel
theorem dX10_restore_18 : decode cX10_restore 18 = .ok (.aload_n 0, 1) := by decide +kernel
theorem dX10_restore_19 : decode cX10_restore 19 = .ok (.getfield 10, 3) := by decide +kernel
theorem dX10_restore_22 : decode cX10_restore 22 = .ok (.aload_n 0, 1) := by decide +kernel
theorem dX10_restore_23 : decode cX10_restore 23 = .ok (.getfield 16, 3) := by decide +kernel
theorem dX10_restore_26 : decode cX10_restore 26 = .ok (.invokevirtual 344, 3) := by decide +kernel
theorem dX10_restore_29 : decode cX10_restore 29 = .ok (.aload_n 0, 1) := by decide +kernel
theorem dX10_restore_30 : decode cX10_restore 30 = .ok (.getfield 10, 3) := by decide +kernel
theorem dX10_restore_33 : decode cX10_restore 33 = .ok (.invokevirtual 351, 3) := by decide +kernel
theorem dX10_restore_36 : decode cX10_restore 36 = .ok (.ireturn, 1) := by decide +kernel
theorem dX10_checkMember_0 : decode cX10_checkMember 0 = .ok (.iload_n 0, 1) := by decide +kernel
theorem dX10_checkMember_1 : decode cX10_checkMember 1 = .ok (.ifCond .lt 9, 3) := by decide +kernel
theorem dX10_checkMember_4 : decode cX10_checkMember 4 = .ok (.iload_n 0, 1) := by decide +kernel
theorem dX10_checkMember_5 : decode cX10_checkMember 5 = .ok (.bipush 8, 2) := by decide +kernel
theorem dX10_checkMember_7 : decode cX10_checkMember 7 = .ok (.if_icmp .lt 14, 3) := by decide +kernel
theorem dX10_checkMember_10 : decode cX10_checkMember 10 = .ok (.new 356, 3) := by decide +kernel
theorem dX10_checkMember_13 : decode cX10_checkMember 13 = .ok (.dup, 1) := by decide +kernel
theorem dX10_checkMember_14 : decode cX10_checkMember 14 = .ok (.ldc_w 358, 3) := by decide +kernel
theorem dX10_checkMember_17 : decode cX10_checkMember 17 = .ok (.invokespecial 360, 3) := by decide +kernel
theorem dX10_checkMember_20 : decode cX10_checkMember 20 = .ok (.athrow, 1) := by decide +kernel
theorem dX10_checkMember_21 : decode cX10_checkMember 21 = .ok (.return_, 1) := by decide +kernel
theorem dX10_checkSlot_0 : decode cX10_checkSlot 0 = .ok (.iload_n 0, 1) := by decide +kernel
theorem dX10_checkSlot_1 : decode cX10_checkSlot 1 = .ok (.ifCond .lt 8, 3) := by decide +kernel
theorem dX10_checkSlot_4 : decode cX10_checkSlot 4 = .ok (.iload_n 0, 1) := by decide +kernel
theorem dX10_checkSlot_5 : decode cX10_checkSlot 5 = .ok (.iconst 4, 1) := by decide +kernel
theorem dX10_checkSlot_6 : decode cX10_checkSlot 6 = .ok (.if_icmp .lt 14, 3) := by decide +kernel
theorem dX10_checkSlot_9 : decode cX10_checkSlot 9 = .ok (.new 356, 3) := by decide +kernel
theorem dX10_checkSlot_12 : decode cX10_checkSlot 12 = .ok (.dup, 1) := by decide +kernel
theorem dX10_checkSlot_13 : decode cX10_checkSlot 13 = .ok (.ldc_w 361, 3) := by decide +kernel
theorem dX10_checkSlot_16 : decode cX10_checkSlot 16 = .ok (.invokespecial 360, 3) := by decide +kernel
theorem dX10_checkSlot_19 : decode cX10_checkSlot 19 = .ok (.athrow, 1) := by decide +kernel
theorem dX10_checkSlot_20 : decode cX10_checkSlot 20 = .ok (.return_, 1) := by decide +kernel
theorem dX10_checkPlace_0 : decode cX10_checkPlace 0 = .ok (.iload_n 0, 1) := by decide +kernel
theorem dX10_checkPlace_1 : decode cX10_checkPlace 1 = .ok (.iconst 1, 1) := by decide +kernel
theorem dX10_checkPlace_2 : decode cX10_checkPlace 2 = .ok (.if_icmp .lt 9, 3) := by decide +kernel
theorem dX10_checkPlace_5 : decode cX10_checkPlace 5 = .ok (.iload_n 0, 1) := by decide +kernel
theorem dX10_checkPlace_6 : decode cX10_checkPlace 6 = .ok (.bipush 24, 2) := by decide +kernel
theorem dX10_checkPlace_8 : decode cX10_checkPlace 8 = .ok (.if_icmp .le 13, 3) := by decide +kernel
theorem dX10_checkPlace_11 : decode cX10_checkPlace 11 = .ok (.new 356, 3) := by decide +kernel
theorem dX10_checkPlace_14 : decode cX10_checkPlace 14 = .ok (.dup, 1) := by decide +kernel
theorem dX10_checkPlace_15 : decode cX10_checkPlace 15 = .ok (.ldc 241, 2) := by decide +kernel
theorem dX10_checkPlace_17 : decode cX10_checkPlace 17 = .ok (.invokespecial 360, 3) := by decide +kernel
theorem dX10_checkPlace_20 : decode cX10_checkPlace 20 = .ok (.athrow, 1) := by decide +kernel
theorem dX10_checkPlace_21 : decode cX10_checkPlace 21 = .ok (.return_, 1) := by decide +kernel
theorem dX10_checkTextIndex_0 : decode cX10_checkTextIndex 0 = .ok (.iload_n 0, 1) := by decide +kernel
theorem dX10_checkTextIndex_1 : decode cX10_checkTextIndex 1 = .ok (.iconst (-1), 1) := by decide +kernel
theorem dX10_checkTextIndex_2 : decode cX10_checkTextIndex 2 = .ok (.if_icmp .ge 14, 3) := by decide +kernel
theorem dX10_checkTextIndex_5 : decode cX10_checkTextIndex 5 = .ok (.new 356, 3) := by decide +kernel
theorem dX10_checkTextIndex_8 : decode cX10_checkTextIndex 8 = .ok (.dup, 1) := by decide +kernel
theorem dX10_checkTextIndex_9 : decode cX10_checkTextIndex 9 = .ok (.ldc_w 363, 3) := by decide +kernel
theorem dX10_checkTextIndex_12 : decode cX10_checkTextIndex 12 = .ok (.invokespecial 360, 3) := by decide +kernel
theorem dX10_checkTextIndex_15 : decode cX10_checkTextIndex 15 = .ok (.athrow, 1) := by decide +kernel
theorem dX10_checkTextIndex_16 : decode cX10_checkTextIndex 16 = .ok (.return_, 1) := by decide +kernel
theorem dX10_checkWhat_0 : decode cX10_checkWhat 0 = .ok (.iload_n 0, 1) := by decide +kernel
theorem dX10_checkWhat_1 : decode cX10_checkWhat 1 = .ok (.ifCond .lt 8, 3) := by decide +kernel
theorem dX10_checkWhat_4 : decode cX10_checkWhat 4 = .ok (.iload_n 0, 1) := by decide +kernel
theorem dX10_checkWhat_5 : decode cX10_checkWhat 5 = .ok (.iload_n 1, 1) := by decide +kernel
theorem dX10_checkWhat_6 : decode cX10_checkWhat 6 = .ok (.if_icmp .le 14, 3) := by decide +kernel
theorem dX10_checkWhat_9 : decode cX10_checkWhat 9 = .ok (.new 65, 3) := by decide +kernel
theorem dX10_checkWhat_12 : decode cX10_checkWhat 12 = .ok (.dup, 1) := by decide +kernel
theorem dX10_checkWhat_13 : decode cX10_checkWhat 13 = .ok (.ldc_w 365, 3) := by decide +kernel
theorem dX10_checkWhat_16 : decode cX10_checkWhat 16 = .ok (.invokespecial 69, 3) := by decide +kernel
theorem dX10_checkWhat_19 : decode cX10_checkWhat 19 = .ok (.athrow, 1) := by decide +kernel
theorem dX10_checkWhat_20 : decode cX10_checkWhat 20 = .ok (.return_, 1) := by decide +kernel
theorem dX10_checkSet_0 : decode cX10_checkSet 0 = .ok (.iload_n 0, 1) := by decide +kernel
theorem dX10_checkSet_1 : decode cX10_checkSet 1 = .ok (.ifCond .lt 10, 3) := by decide +kernel
theorem dX10_checkSet_4 : decode cX10_checkSet 4 = .ok (.iload_n 0, 1) := by decide +kernel
theorem dX10_checkSet_5 : decode cX10_checkSet 5 = .ok (.sipush 256, 3) := by decide +kernel
theorem dX10_checkSet_8 : decode cX10_checkSet 8 = .ok (.if_icmp .lt 14, 3) := by decide +kernel
theorem dX10_checkSet_11 : decode cX10_checkSet 11 = .ok (.new 65, 3) := by decide +kernel
theorem dX10_checkSet_14 : decode cX10_checkSet 14 = .ok (.dup, 1) := by decide +kernel
theorem dX10_checkSet_15 : decode cX10_checkSet 15 = .ok (.ldc_w 367, 3) := by decide +kernel
theorem dX10_checkSet_18 : decode cX10_checkSet 18 = .ok (.invokespecial 69, 3) := by decide +kernel
theorem dX10_checkSet_21 : decode cX10_checkSet 21 = .ok (.athrow, 1) := by decide +kernel
theorem dX10_checkSet_22 : decode cX10_checkSet 22 = .ok (.return_, 1) := by decide +kernel
theorem dX10_checkValue_0 : decode cX10_checkValue 0 = .ok (.iload_n 0, 1) := by decide +kernel
theorem dX10_checkValue_1 : decode cX10_checkValue 1 = .ok (.ifCond .lt 10, 3) := by decide +kernel
theorem dX10_checkValue_4 : decode cX10_checkValue 4 = .ok (.iload_n 0, 1) := by decide +kernel
theorem dX10_checkValue_5 : decode cX10_checkValue 5 = .ok (.sipush 1019, 3) := by decide +kernel
theorem dX10_checkValue_8 : decode cX10_checkValue 8 = .ok (.if_icmp .lt 14, 3) := by decide +kernel
theorem dX10_checkValue_11 : decode cX10_checkValue 11 = .ok (.new 65, 3) := by decide +kernel
theorem dX10_checkValue_14 : decode cX10_checkValue 14 = .ok (.dup, 1) := by decide +kernel
theorem dX10_checkValue_15 : decode cX10_checkValue 15 = .ok (.ldc_w 369, 3) := by decide +kernel
theorem dX10_checkValue_18 : decode cX10_checkValue 18 = .ok (.invokespecial 69, 3) := by decide +kernel
theorem dX10_checkValue_21 : decode cX10_checkValue 21 = .ok (.athrow, 1) := by decide +kernel
theorem dX10_checkValue_22 : decode cX10_checkValue 22 = .ok (.return_, 1) := by decide +kernel
theorem dX10_checkThreshold_0 : decode cX10_checkThreshold 0 = .ok (.iload_n 0, 1) := by decide +kernel
theorem dX10_checkThreshold_1 : decode cX10_checkThreshold 1 = .ok (.iconst 1, 1) := by decide +kernel
theorem dX10_checkThreshold_2 : decode cX10_checkThreshold 2 = .ok (.if_icmp .lt 9, 3) := by decide +kernel
theorem dX10_checkThreshold_5 : decode cX10_checkThreshold 5 = .ok (.iload_n 0, 1) := by decide +kernel
theorem dX10_checkThreshold_6 : decode cX10_checkThreshold 6 = .ok (.bipush 8, 2) := by decide +kernel
theorem dX10_checkThreshold_8 : decode cX10_checkThreshold 8 = .ok (.if_icmp .le 14, 3) := by decide +kernel
theorem dX10_checkThreshold_11 : decode cX10_checkThreshold 11 = .ok (.new 65, 3) := by decide +kernel
theorem dX10_checkThreshold_14 : decode cX10_checkThreshold 14 = .ok (.dup, 1) := by decide +kernel
theorem dX10_checkThreshold_15 : decode cX10_checkThreshold 15 = .ok (.ldc_w 371, 3) := by decide +kernel
theorem dX10_checkThreshold_18 : decode cX10_checkThreshold 18 = .ok (.invokespecial 69, 3) := by decide +kernel
theorem dX10_checkThreshold_21 : decode cX10_checkThreshold 21 = .ok (.athrow, 1) := by decide +kernel
theorem dX10_checkThreshold_22 : decode cX10_checkThreshold 22 = .ok (.return_, 1) := by decide +kernel
theorem dX10_checkPlacesSuffice_0 : decode cX10_checkPlacesSuffice 0 = .ok (.aload_n 0, 1) := by decide +kernel
theorem dX10_checkPlacesSuffice_1 : decode cX10_checkPlacesSuffice 1 = .ok (.getfield 10, 3) := by decide +kernel
theorem dX10_checkPlacesSuffice_4 : decode cX10_checkPlacesSuffice 4 = .ok (.invokevirtual 373, 3) := by decide +kernel
theorem dX10_checkPlacesSuffice_7 : decode cX10_checkPlacesSuffice 7 = .ok (.iload_n 1, 1) := by decide +kernel
theorem dX10_checkPlacesSuffice_8 : decode cX10_checkPlacesSuffice 8 = .ok (.if_icmp .ge 14, 3) := by decide +kernel
theorem dX10_checkPlacesSuffice_11 : decode cX10_checkPlacesSuffice 11 = .ok (.new 172, 3) := by decide +kernel
theorem dX10_checkPlacesSuffice_14 : decode cX10_checkPlacesSuffice 14 = .ok (.dup, 1) := by decide +kernel
theorem dX10_checkPlacesSuffice_15 : decode cX10_checkPlacesSuffice 15 = .ok (.ldc_w 376, 3) := by decide +kernel
theorem dX10_checkPlacesSuffice_18 : decode cX10_checkPlacesSuffice 18 = .ok (.invokespecial 176, 3) := by decide +kernel
theorem dX10_checkPlacesSuffice_21 : decode cX10_checkPlacesSuffice 21 = .ok (.athrow, 1) := by decide +kernel
theorem dX10_checkPlacesSuffice_22 : decode cX10_checkPlacesSuffice 22 = .ok (.return_, 1) := by decide +kernel
theorem dX10_secretIn_0 : decode cX10_secretIn 0 = .ok (.aload_n 0, 1) := by decide +kernel
theorem dX10_secretIn_1 : decode cX10_secretIn 1 = .ok (.getfield 10, 3) := by decide +kernel
theorem dX10_secretIn_4 : decode cX10_secretIn 4 = .ok (.getfield 86, 3) := by decide +kernel
theorem dX10_secretIn_7 : decode cX10_secretIn 7 = .ok (.iload_n 1, 1) := by decide +kernel
theorem dX10_secretIn_8 : decode cX10_secretIn 8 = .ok (.aaload, 1) := by decide +kernel
theorem dX10_secretIn_9 : decode cX10_secretIn 9 = .ok (.astore_n 2, 1) := by decide +kernel
theorem dX10_secretIn_10 : decode cX10_secretIn 10 = .ok (.aload_n 2, 1) := by decide +kernel
theorem dX10_secretIn_11 : decode cX10_secretIn 11 = .ok (.getfield 115, 3) := by decide +kernel
theorem dX10_secretIn_14 : decode cX10_secretIn 14 = .ok (.ifCond .ne 14, 3) := by decide +kernel
theorem dX10_secretIn_17 : decode cX10_secretIn 17 = .ok (.new 186, 3) := by decide +kernel
theorem dX10_secretIn_20 : decode cX10_secretIn 20 = .ok (.dup, 1) := by decide +kernel
theorem dX10_secretIn_21 : decode cX10_secretIn 21 = .ok (.ldc_w 378, 3) := by decide +kernel
theorem dX10_secretIn_24 : decode cX10_secretIn 24 = .ok (.invokespecial 190, 3) := by decide +kernel
theorem dX10_secretIn_27 : decode cX10_secretIn 27 = .ok (.athrow, 1) := by decide +kernel
theorem dX10_secretIn_28 : decode cX10_secretIn 28 = .ok (.aload_n 2, 1) := by decide +kernel
theorem dX10_secretIn_29 : decode cX10_secretIn 29 = .ok (.areturn, 1) := by decide +kernel
theorem dX10_secretWithShare_0 : decode cX10_secretWithShare 0 = .ok (.aload_n 0, 1) := by decide +kernel
theorem dX10_secretWithShare_1 : decode cX10_secretWithShare 1 = .ok (.iload_n 1, 1) := by decide +kernel
theorem dX10_secretWithShare_2 : decode cX10_secretWithShare 2 = .ok (.invokevirtual 126, 3) := by decide +kernel
theorem dX10_secretWithShare_5 : decode cX10_secretWithShare 5 = .ok (.astore_n 3, 1) := by decide +kernel
theorem dX10_secretWithShare_6 : decode cX10_secretWithShare 6 = .ok (.aload_n 3, 1) := by decide +kernel
theorem dX10_secretWithShare_7 : decode cX10_secretWithShare 7 = .ok (.iload_n 2, 1) := by decide +kernel
theorem dX10_secretWithShare_8 : decode cX10_secretWithShare 8 = .ok (.invokevirtual 180, 3) := by decide +kernel
theorem dX10_secretWithShare_11 : decode cX10_secretWithShare 11 = .ok (.ifCond .ne 14, 3) := by decide +kernel
theorem dX10_secretWithShare_14 : decode cX10_secretWithShare 14 = .ok (.new 186, 3) := by decide +kernel
theorem dX10_secretWithShare_17 : decode cX10_secretWithShare 17 = .ok (.dup, 1) := by decide +kernel
theorem dX10_secretWithShare_18 : decode cX10_secretWithShare 18 = .ok (.ldc_w 380, 3) := by decide +kernel
theorem dX10_secretWithShare_21 : decode cX10_secretWithShare 21 = .ok (.invokespecial 190, 3) := by decide +kernel
theorem dX10_secretWithShare_24 : decode cX10_secretWithShare 24 = .ok (.athrow, 1) := by decide +kernel
theorem dX10_secretWithShare_25 : decode cX10_secretWithShare 25 = .ok (.aload_n 3, 1) := by decide +kernel
theorem dX10_secretWithShare_26 : decode cX10_secretWithShare 26 = .ok (.areturn, 1) := by decide +kernel
theorem dX10_policyOf_0 : decode cX10_policyOf 0 = .ok (.aload_n 0, 1) := by decide +kernel
theorem dX10_policyOf_1 : decode cX10_policyOf 1 = .ok (.getfield 111, 3) := by decide +kernel
theorem dX10_policyOf_4 : decode cX10_policyOf 4 = .ok (.ifnonnull 14, 3) := by decide +kernel
theorem dX10_policyOf_7 : decode cX10_policyOf 7 = .ok (.new 186, 3) := by decide +kernel
theorem dX10_policyOf_10 : decode cX10_policyOf 10 = .ok (.dup, 1) := by decide +kernel
theorem dX10_policyOf_11 : decode cX10_policyOf 11 = .ok (.ldc_w 382, 3) := by decide +kernel
theorem dX10_policyOf_14 : decode cX10_policyOf 14 = .ok (.invokespecial 190, 3) := by decide +kernel
theorem dX10_policyOf_17 : decode cX10_policyOf 17 = .ok (.athrow, 1) := by decide +kernel
theorem dX10_policyOf_18 : decode cX10_policyOf 18 = .ok (.aload_n 0, 1) := by decide +kernel
theorem dX10_policyOf_19 : decode cX10_policyOf 19 = .ok (.getfield 111, 3) := by decide +kernel
theorem dX10_policyOf_22 : decode cX10_policyOf 22 = .ok (.areturn, 1) := by decide +kernel
theorem dX10_contains_0 : decode cX10_contains 0 = .ok (.iload_n 0, 1) := by decide +kernel
theorem dX10_contains_1 : decode cX10_contains 1 = .ok (.iload_n 1, 1) := by decide +kernel
theorem dX10_contains_2 : decode cX10_contains 2 = .ok (.ishr, 1) := by decide +kernel
theorem dX10_contains_3 : decode cX10_contains 3 = .ok (.iconst 1, 1) := by decide +kernel
theorem dX10_contains_4 : decode cX10_contains 4 = .ok (.iand, 1) := by decide +kernel
theorem dX10_contains_5 : decode cX10_contains 5 = .ok (.iconst 1, 1) := by decide +kernel
theorem dX10_contains_6 : decode cX10_contains 6 = .ok (.if_icmp .ne 7, 3) := by decide +kernel
theorem dX10_contains_9 : decode cX10_contains 9 = .ok (.iconst 1, 1) := by decide +kernel
theorem dX10_contains_10 : decode cX10_contains 10 = .ok (.goto 4, 3) := by decide +kernel
theorem dX10_contains_13 : decode cX10_contains 13 = .ok (.iconst 0, 1) := by decide +kernel
theorem dX10_contains_14 : decode cX10_contains 14 = .ok (.ireturn, 1) := by decide +kernel
theorem dX10_ownerOf_0 : decode cX10_ownerOf 0 = .ok (.iload_n 0, 1) := by decide +kernel
theorem dX10_ownerOf_1 : decode cX10_ownerOf 1 = .ok (.iconst 1, 1) := by decide +kernel
theorem dX10_ownerOf_2 : decode cX10_ownerOf 2 = .ok (.isub, 1) := by decide +kernel
theorem dX10_ownerOf_3 : decode cX10_ownerOf 3 = .ok (.iconst 3, 1) := by decide +kernel
theorem dX10_ownerOf_4 : decode cX10_ownerOf 4 = .ok (.idiv, 1) := by decide +kernel
theorem dX10_ownerOf_5 : decode cX10_ownerOf 5 = .ok (.ireturn, 1) := by decide +kernel
theorem dX10_firstPlace_0 : decode cX10_firstPlace 0 = .ok (.iconst 3, 1) := by decide +kernel
theorem dX10_firstPlace_1 : decode cX10_firstPlace 1 = .ok (.iload_n 0, 1) := by decide +kernel
theorem dX10_firstPlace_2 : decode cX10_firstPlace 2 = .ok (.imul, 1) := by decide +kernel
theorem dX10_firstPlace_3 : decode cX10_firstPlace 3 = .ok (.iconst 1, 1) := by decide +kernel
theorem dX10_firstPlace_4 : decode cX10_firstPlace 4 = .ok (.iadd, 1) := by decide +kernel
theorem dX10_firstPlace_5 : decode cX10_firstPlace 5 = .ok (.ireturn, 1) := by decide +kernel
theorem dX10_deal_0 : decode cX10_deal 0 = .ok (.aload_n 0, 1) := by decide +kernel
theorem dX10_deal_1 : decode cX10_deal 1 = .ok (.iload_n 2, 1) := by decide +kernel
theorem dX10_deal_2 : decode cX10_deal 2 = .ok (.iload_n 3, 1) := by decide +kernel
theorem dX10_deal_3 : decode cX10_deal 3 = .ok (.invokevirtual 384, 3) := by decide +kernel
theorem dX10_deal_6 : decode cX10_deal 6 = .ok (.aload_n 1, 1) := by decide +kernel
theorem dX10_deal_7 : decode cX10_deal 7 = .ok (.iload_n 3, 1) := by decide +kernel
theorem dX10_deal_8 : decode cX10_deal 8 = .ok (.putfield 169, 3) := by decide +kernel
theorem dX10_deal_11 : decode cX10_deal 11 = .ok (.aload_n 1, 1) := by decide +kernel
theorem dX10_deal_12 : decode cX10_deal 12 = .ok (.iload 4, 2) := by decide +kernel
theorem dX10_deal_14 : decode cX10_deal 14 = .ok (.putfield 133, 3) := by decide +kernel
theorem dX10_deal_17 : decode cX10_deal 17 = .ok (.iconst 0, 1) := by decide +kernel
theorem dX10_deal_18 : decode cX10_deal 18 = .ok (.istore 5, 2) := by decide +kernel
theorem dX10_deal_20 : decode cX10_deal 20 = .ok (.iload 5, 2) := by decide +kernel
theorem dX10_deal_22 : decode cX10_deal 22 = .ok (.iload_n 3, 1) := by decide +kernel
theorem dX10_deal_23 : decode cX10_deal 23 = .ok (.if_icmp .ge 26, 3) := by decide +kernel
theorem dX10_deal_26 : decode cX10_deal 26 = .ok (.aload_n 1, 1) := by decide +kernel
theorem dX10_deal_27 : decode cX10_deal 27 = .ok (.getfield 191, 3) := by decide +kernel
theorem dX10_deal_30 : decode cX10_deal 30 = .ok (.iload 5, 2) := by decide +kernel
theorem dX10_deal_32 : decode cX10_deal 32 = .ok (.aload_n 0, 1) := by decide +kernel
theorem dX10_deal_33 : decode cX10_deal 33 = .ok (.getfield 37, 3) := by decide +kernel
theorem dX10_deal_36 : decode cX10_deal 36 = .ok (.iload 5, 2) := by decide +kernel
theorem dX10_deal_38 : decode cX10_deal 38 = .ok (.iaload, 1) := by decide +kernel
theorem dX10_deal_39 : decode cX10_deal 39 = .ok (.invokestatic 387, 3) := by decide +kernel
theorem dX10_deal_42 : decode cX10_deal 42 = .ok (.iastore, 1) := by decide +kernel
theorem dX10_deal_43 : decode cX10_deal 43 = .ok (.iinc 5 1, 3) := by decide +kernel
theorem dX10_deal_46 : decode cX10_deal 46 = .ok (.goto (-26), 3) := by decide +kernel
theorem dX10_deal_49 : decode cX10_deal 49 = .ok (.aload_n 1, 1) := by decide +kernel
theorem dX10_deal_50 : decode cX10_deal 50 = .ok (.invokevirtual 130, 3) := by decide +kernel
theorem dX10_deal_53 : decode cX10_deal 53 = .ok (.iconst 0, 1) := by decide +kernel
theorem dX10_deal_54 : decode cX10_deal 54 = .ok (.istore 5, 2) := by decide +kernel
theorem dX10_deal_56 : decode cX10_deal 56 = .ok (.iconst 1, 1) := by decide +kernel
theorem dX10_deal_57 : decode cX10_deal 57 = .ok (.istore 6, 2) := by decide +kernel
theorem dX10_deal_59 : decode cX10_deal 59 = .ok (.iload 6, 2) := by decide +kernel
theorem dX10_deal_61 : decode cX10_deal 61 = .ok (.bipush 24, 2) := by decide +kernel
theorem dX10_deal_63 : decode cX10_deal 63 = .ok (.if_icmp .gt 42, 3) := by decide +kernel
theorem dX10_deal_66 : decode cX10_deal 66 = .ok (.aload_n 0, 1) := by decide +kernel
theorem dX10_deal_67 : decode cX10_deal 67 = .ok (.getfield 10, 3) := by decide +kernel
theorem dX10_deal_70 : decode cX10_deal 70 = .ok (.iload 6, 2) := by decide +kernel
theorem dX10_deal_72 : decode cX10_deal 72 = .ok (.invokevirtual 392, 3) := by decide +kernel
theorem dX10_deal_75 : decode cX10_deal 75 = .ok (.ifCond .eq 24, 3) := by decide +kernel
theorem dX10_deal_78 : decode cX10_deal 78 = .ok (.aload_n 1, 1) := by decide +kernel
theorem dX10_deal_79 : decode cX10_deal 79 = .ok (.iload 6, 2) := by decide +kernel
theorem dX10_deal_81 : decode cX10_deal 81 = .ok (.iload 6, 2) := by decide +kernel
theorem dX10_deal_83 : decode cX10_deal 83 = .ok (.aload_n 0, 1) := by decide +kernel
theorem dX10_deal_84 : decode cX10_deal 84 = .ok (.getfield 37, 3) := by decide +kernel
theorem dX10_deal_87 : decode cX10_deal 87 = .ok (.iload_n 3, 1) := by decide +kernel
theorem dX10_deal_88 : decode cX10_deal 88 = .ok (.invokestatic 395, 3) := by decide +kernel
theorem dX10_deal_91 : decode cX10_deal 91 = .ok (.iload 4, 2) := by decide +kernel
theorem dX10_deal_93 : decode cX10_deal 93 = .ok (.invokevirtual 158, 3) := by decide +kernel
theorem dX10_deal_96 : decode cX10_deal 96 = .ok (.iinc 5 1, 3) := by decide +kernel
theorem dX10_deal_99 : decode cX10_deal 99 = .ok (.iinc 6 1, 3) := by decide +kernel
theorem dX10_deal_102 : decode cX10_deal 102 = .ok (.goto (-43), 3) := by decide +kernel
theorem dX10_deal_105 : decode cX10_deal 105 = .ok (.iload 5, 2) := by decide +kernel
theorem dX10_deal_107 : decode cX10_deal 107 = .ok (.ireturn, 1) := by decide +kernel
theorem dX10_renewShares_0 : decode cX10_renewShares 0 = .ok (.aload_n 0, 1) := by decide +kernel
theorem dX10_renewShares_1 : decode cX10_renewShares 1 = .ok (.iconst 0, 1) := by decide +kernel
theorem dX10_renewShares_2 : decode cX10_renewShares 2 = .ok (.aload_n 1, 1) := by decide +kernel
theorem dX10_renewShares_3 : decode cX10_renewShares 3 = .ok (.getfield 169, 3) := by decide +kernel
theorem dX10_renewShares_6 : decode cX10_renewShares 6 = .ok (.invokevirtual 384, 3) := by decide +kernel
theorem dX10_renewShares_9 : decode cX10_renewShares 9 = .ok (.iconst 0, 1) := by decide +kernel
theorem dX10_renewShares_10 : decode cX10_renewShares 10 = .ok (.istore_n 2, 1) := by decide +kernel
theorem dX10_renewShares_11 : decode cX10_renewShares 11 = .ok (.iconst 1, 1) := by decide +kernel
theorem dX10_renewShares_12 : decode cX10_renewShares 12 = .ok (.istore_n 3, 1) := by decide +kernel
theorem dX10_renewShares_13 : decode cX10_renewShares 13 = .ok (.iload_n 3, 1) := by decide +kernel
theorem dX10_renewShares_14 : decode cX10_renewShares 14 = .ok (.bipush 24, 2) := by decide +kernel
theorem dX10_renewShares_16 : decode cX10_renewShares 16 = .ok (.if_icmp .gt 88, 3) := by decide +kernel
theorem dX10_renewShares_19 : decode cX10_renewShares 19 = .ok (.aload_n 0, 1) := by decide +kernel
theorem dX10_renewShares_20 : decode cX10_renewShares 20 = .ok (.getfield 10, 3) := by decide +kernel
theorem dX10_renewShares_23 : decode cX10_renewShares 23 = .ok (.getfield 75, 3) := by decide +kernel
theorem dX10_renewShares_26 : decode cX10_renewShares 26 = .ok (.iload_n 3, 1) := by decide +kernel
theorem dX10_renewShares_27 : decode cX10_renewShares 27 = .ok (.invokestatic 177, 3) := by decide +kernel
theorem dX10_renewShares_30 : decode cX10_renewShares 30 = .ok (.invokestatic 78, 3) := by decide +kernel
theorem dX10_renewShares_33 : decode cX10_renewShares 33 = .ok (.ifCond .eq 65, 3) := by decide +kernel
theorem dX10_renewShares_36 : decode cX10_renewShares 36 = .ok (.aload_n 1, 1) := by decide +kernel
theorem dX10_renewShares_37 : decode cX10_renewShares 37 = .ok (.iload_n 3, 1) := by decide +kernel
theorem dX10_renewShares_38 : decode cX10_renewShares 38 = .ok (.invokevirtual 180, 3) := by decide +kernel
theorem dX10_renewShares_41 : decode cX10_renewShares 41 = .ok (.ifCond .eq 57, 3) := by decide +kernel
theorem dX10_renewShares_44 : decode cX10_renewShares 44 = .ok (.aload_n 1, 1) := by decide +kernel
theorem dX10_renewShares_45 : decode cX10_renewShares 45 = .ok (.getfield 201, 3) := by decide +kernel
theorem dX10_renewShares_48 : decode cX10_renewShares 48 = .ok (.iload_n 3, 1) := by decide +kernel
theorem dX10_renewShares_49 : decode cX10_renewShares 49 = .ok (.iaload, 1) := by decide +kernel
theorem dX10_renewShares_50 : decode cX10_renewShares 50 = .ok (.aload_n 1, 1) := by decide +kernel
theorem dX10_renewShares_51 : decode cX10_renewShares 51 = .ok (.getfield 133, 3) := by decide +kernel
theorem dX10_renewShares_54 : decode cX10_renewShares 54 = .ok (.if_icmp .ne 44, 3) := by decide +kernel
theorem dX10_renewShares_57 : decode cX10_renewShares 57 = .ok (.iload_n 3, 1) := by decide +kernel
theorem dX10_renewShares_58 : decode cX10_renewShares 58 = .ok (.aload_n 0, 1) := by decide +kernel
theorem dX10_renewShares_59 : decode cX10_renewShares 59 = .ok (.getfield 37, 3) := by decide +kernel
theorem dX10_renewShares_62 : decode cX10_renewShares 62 = .ok (.aload_n 1, 1) := by decide +kernel
theorem dX10_renewShares_63 : decode cX10_renewShares 63 = .ok (.getfield 169, 3) := by decide +kernel
theorem dX10_renewShares_66 : decode cX10_renewShares 66 = .ok (.invokestatic 395, 3) := by decide +kernel
theorem dX10_renewShares_69 : decode cX10_renewShares 69 = .ok (.istore 4, 2) := by decide +kernel
theorem dX10_renewShares_71 : decode cX10_renewShares 71 = .ok (.aload_n 1, 1) := by decide +kernel
theorem dX10_renewShares_72 : decode cX10_renewShares 72 = .ok (.iload_n 3, 1) := by decide +kernel
theorem dX10_renewShares_73 : decode cX10_renewShares 73 = .ok (.aload_n 1, 1) := by decide +kernel
theorem dX10_renewShares_74 : decode cX10_renewShares 74 = .ok (.getfield 183, 3) := by decide +kernel
theorem dX10_renewShares_77 : decode cX10_renewShares 77 = .ok (.iload_n 3, 1) := by decide +kernel
theorem dX10_renewShares_78 : decode cX10_renewShares 78 = .ok (.iaload, 1) := by decide +kernel
theorem dX10_renewShares_79 : decode cX10_renewShares 79 = .ok (.iload 4, 2) := by decide +kernel
theorem dX10_renewShares_81 : decode cX10_renewShares 81 = .ok (.iadd, 1) := by decide +kernel
theorem dX10_renewShares_82 : decode cX10_renewShares 82 = .ok (.sipush 1019, 3) := by decide +kernel
theorem dX10_renewShares_85 : decode cX10_renewShares 85 = .ok (.irem, 1) := by decide +kernel
theorem dX10_renewShares_86 : decode cX10_renewShares 86 = .ok (.aload_n 1, 1) := by decide +kernel
theorem dX10_renewShares_87 : decode cX10_renewShares 87 = .ok (.getfield 133, 3) := by decide +kernel
theorem dX10_renewShares_90 : decode cX10_renewShares 90 = .ok (.iconst 1, 1) := by decide +kernel
theorem dX10_renewShares_91 : decode cX10_renewShares 91 = .ok (.iadd, 1) := by decide +kernel
theorem dX10_renewShares_92 : decode cX10_renewShares 92 = .ok (.invokevirtual 158, 3) := by decide +kernel
theorem dX10_renewShares_95 : decode cX10_renewShares 95 = .ok (.iinc 2 1, 3) := by decide +kernel
theorem dX10_renewShares_98 : decode cX10_renewShares 98 = .ok (.iinc 3 1, 3) := by decide +kernel
theorem dX10_renewShares_101 : decode cX10_renewShares 101 = .ok (.goto (-88), 3) := by decide +kernel
theorem dX10_renewShares_104 : decode cX10_renewShares 104 = .ok (.iconst 0, 1) := by decide +kernel
theorem dX10_renewShares_105 : decode cX10_renewShares 105 = .ok (.istore_n 3, 1) := by decide +kernel
theorem dX10_renewShares_106 : decode cX10_renewShares 106 = .ok (.iload_n 3, 1) := by decide +kernel
theorem dX10_renewShares_107 : decode cX10_renewShares 107 = .ok (.aload_n 1, 1) := by decide +kernel
theorem dX10_renewShares_108 : decode cX10_renewShares 108 = .ok (.getfield 169, 3) := by decide +kernel
theorem dX10_renewShares_111 : decode cX10_renewShares 111 = .ok (.if_icmp .ge 35, 3) := by decide +kernel
theorem dX10_renewShares_114 : decode cX10_renewShares 114 = .ok (.aload_n 1, 1) := by decide +kernel
theorem dX10_renewShares_115 : decode cX10_renewShares 115 = .ok (.getfield 191, 3) := by decide +kernel
theorem dX10_renewShares_118 : decode cX10_renewShares 118 = .ok (.iload_n 3, 1) := by decide +kernel
theorem dX10_renewShares_119 : decode cX10_renewShares 119 = .ok (.aload_n 1, 1) := by decide +kernel
theorem dX10_renewShares_120 : decode cX10_renewShares 120 = .ok (.getfield 191, 3) := by decide +kernel
theorem dX10_renewShares_123 : decode cX10_renewShares 123 = .ok (.iload_n 3, 1) := by decide +kernel
theorem dX10_renewShares_124 : decode cX10_renewShares 124 = .ok (.iaload, 1) := by decide +kernel
theorem dX10_renewShares_125 : decode cX10_renewShares 125 = .ok (.aload_n 0, 1) := by decide +kernel
theorem dX10_renewShares_126 : decode cX10_renewShares 126 = .ok (.getfield 37, 3) := by decide +kernel
theorem dX10_renewShares_129 : decode cX10_renewShares 129 = .ok (.iload_n 3, 1) := by decide +kernel
theorem dX10_renewShares_130 : decode cX10_renewShares 130 = .ok (.iaload, 1) := by decide +kernel
theorem dX10_renewShares_131 : decode cX10_renewShares 131 = .ok (.invokestatic 387, 3) := by decide +kernel
theorem dX10_renewShares_134 : decode cX10_renewShares 134 = .ok (.imul, 1) := by decide +kernel
theorem dX10_renewShares_135 : decode cX10_renewShares 135 = .ok (.sipush 2039, 3) := by decide +kernel
theorem dX10_renewShares_138 : decode cX10_renewShares 138 = .ok (.irem, 1) := by decide +kernel
theorem dX10_renewShares_139 : decode cX10_renewShares 139 = .ok (.iastore, 1) := by decide +kernel
theorem dX10_renewShares_140 : decode cX10_renewShares 140 = .ok (.iinc 3 1, 3) := by decide +kernel
theorem dX10_renewShares_143 : decode cX10_renewShares 143 = .ok (.goto (-37), 3) := by decide +kernel
theorem dX10_renewShares_146 : decode cX10_renewShares 146 = .ok (.aload_n 1, 1) := by decide +kernel
theorem dX10_renewShares_147 : decode cX10_renewShares 147 = .ok (.dup, 1) := by decide +kernel
theorem dX10_renewShares_148 : decode cX10_renewShares 148 = .ok (.getfield 133, 3) := by decide +kernel
theorem dX10_renewShares_151 : decode cX10_renewShares 151 = .ok (.iconst 1, 1) := by decide +kernel
theorem dX10_renewShares_152 : decode cX10_renewShares 152 = .ok (.iadd, 1) := by decide +kernel
theorem dX10_renewShares_153 : decode cX10_renewShares 153 = .ok (.putfield 133, 3) := by decide +kernel
theorem dX10_renewShares_156 : decode cX10_renewShares 156 = .ok (.iload_n 2, 1) := by decide +kernel
theorem dX10_renewShares_157 : decode cX10_renewShares 157 = .ok (.ireturn, 1) := by decide +kernel
theorem dX10_drawCoefficients_0 : decode cX10_drawCoefficients 0 = .ok (.aload_n 0, 1) := by decide +kernel
theorem dX10_drawCoefficients_1 : decode cX10_drawCoefficients 1 = .ok (.getfield 37, 3) := by decide +kernel
theorem dX10_drawCoefficients_4 : decode cX10_drawCoefficients 4 = .ok (.iconst 0, 1) := by decide +kernel
theorem dX10_drawCoefficients_5 : decode cX10_drawCoefficients 5 = .ok (.iload_n 1, 1) := by decide +kernel
theorem dX10_drawCoefficients_6 : decode cX10_drawCoefficients 6 = .ok (.iastore, 1) := by decide +kernel
theorem dX10_drawCoefficients_7 : decode cX10_drawCoefficients 7 = .ok (.iconst 1, 1) := by decide +kernel
theorem dX10_drawCoefficients_8 : decode cX10_drawCoefficients 8 = .ok (.istore_n 3, 1) := by decide +kernel
theorem dX10_drawCoefficients_9 : decode cX10_drawCoefficients 9 = .ok (.iload_n 3, 1) := by decide +kernel
theorem dX10_drawCoefficients_10 : decode cX10_drawCoefficients 10 = .ok (.iload_n 2, 1) := by decide +kernel
theorem dX10_drawCoefficients_11 : decode cX10_drawCoefficients 11 = .ok (.if_icmp .ge 22, 3) := by decide +kernel
theorem dX10_drawCoefficients_14 : decode cX10_drawCoefficients 14 = .ok (.aload_n 0, 1) := by decide +kernel
theorem dX10_drawCoefficients_15 : decode cX10_drawCoefficients 15 = .ok (.getfield 37, 3) := by decide +kernel
theorem dX10_drawCoefficients_18 : decode cX10_drawCoefficients 18 = .ok (.iload_n 3, 1) := by decide +kernel
theorem dX10_drawCoefficients_19 : decode cX10_drawCoefficients 19 = .ok (.aload_n 0, 1) := by decide +kernel
theorem dX10_drawCoefficients_20 : decode cX10_drawCoefficients 20 = .ok (.getfield 10, 3) := by decide +kernel
theorem dX10_drawCoefficients_23 : decode cX10_drawCoefficients 23 = .ok (.invokevirtual 57, 3) := by decide +kernel
theorem dX10_drawCoefficients_26 : decode cX10_drawCoefficients 26 = .ok (.iastore, 1) := by decide +kernel
theorem dX10_drawCoefficients_27 : decode cX10_drawCoefficients 27 = .ok (.iinc 3 1, 3) := by decide +kernel
theorem dX10_drawCoefficients_30 : decode cX10_drawCoefficients 30 = .ok (.goto (-21), 3) := by decide +kernel
theorem dX10_drawCoefficients_33 : decode cX10_drawCoefficients 33 = .ok (.return_, 1) := by decide +kernel
theorem dX10_chooseForOpening_0 : decode cX10_chooseForOpening 0 = .ok (.iload_n 3, 1) := by decide +kernel
theorem dX10_chooseForOpening_1 : decode cX10_chooseForOpening 1 = .ok (.aload_n 0, 1) := by decide +kernel
theorem dX10_chooseForOpening_2 : decode cX10_chooseForOpening 2 = .ok (.getfield 10, 3) := by decide +kernel
theorem dX10_chooseForOpening_5 : decode cX10_chooseForOpening 5 = .ok (.getfield 75, 3) := by decide +kernel
theorem dX10_chooseForOpening_8 : decode cX10_chooseForOpening 8 = .ok (.iand, 1) := by decide +kernel
theorem dX10_chooseForOpening_9 : decode cX10_chooseForOpening 9 = .ok (.istore 4, 2) := by decide +kernel
theorem dX10_chooseForOpening_11 : decode cX10_chooseForOpening 11 = .ok (.aload_n 2, 1) := by decide +kernel
theorem dX10_chooseForOpening_12 : decode cX10_chooseForOpening 12 = .ok (.iload 4, 2) := by decide +kernel
theorem dX10_chooseForOpening_14 : decode cX10_chooseForOpening 14 = .ok (.invokevirtual 269, 3) := by decide +kernel
theorem dX10_chooseForOpening_17 : decode cX10_chooseForOpening 17 = .ok (.ifCond .ne 32, 3) := by decide +kernel
theorem dX10_chooseForOpening_20 : decode cX10_chooseForOpening 20 = .ok (.aload_n 0, 1) := by decide +kernel
theorem dX10_chooseForOpening_21 : decode cX10_chooseForOpening 21 = .ok (.getfield 33, 3) := by decide +kernel
theorem dX10_chooseForOpening_24 : decode cX10_chooseForOpening 24 = .ok (.iload_n 1, 1) := by decide +kernel
theorem dX10_chooseForOpening_25 : decode cX10_chooseForOpening 25 = .ok (.invokevirtual 399, 3) := by decide +kernel
theorem dX10_chooseForOpening_28 : decode cX10_chooseForOpening 28 = .ok (.aload_n 0, 1) := by decide +kernel
theorem dX10_chooseForOpening_29 : decode cX10_chooseForOpening 29 = .ok (.getfield 33, 3) := by decide +kernel
theorem dX10_chooseForOpening_32 : decode cX10_chooseForOpening 32 = .ok (.iconst 2, 1) := by decide +kernel
theorem dX10_chooseForOpening_33 : decode cX10_chooseForOpening 33 = .ok (.iload 4, 2) := by decide +kernel
theorem dX10_chooseForOpening_35 : decode cX10_chooseForOpening 35 = .ok (.invokevirtual 402, 3) := by decide +kernel
theorem dX10_chooseForOpening_38 : decode cX10_chooseForOpening 38 = .ok (.new 405, 3) := by decide +kernel
theorem dX10_chooseForOpening_41 : decode cX10_chooseForOpening 41 = .ok (.dup, 1) := by decide +kernel
theorem dX10_chooseForOpening_42 : decode cX10_chooseForOpening 42 = .ok (.ldc_w 407, 3) := by decide +kernel
theorem dX10_chooseForOpening_45 : decode cX10_chooseForOpening 45 = .ok (.invokespecial 409, 3) := by decide +kernel
theorem dX10_chooseForOpening_48 : decode cX10_chooseForOpening 48 = .ok (.athrow, 1) := by decide +kernel
theorem dX10_chooseForOpening_49 : decode cX10_chooseForOpening 49 = .ok (.aload_n 0, 1) := by decide +kernel
theorem dX10_chooseForOpening_50 : decode cX10_chooseForOpening 50 = .ok (.aload_n 2, 1) := by decide +kernel
theorem dX10_chooseForOpening_51 : decode cX10_chooseForOpening 51 = .ok (.iload 4, 2) := by decide +kernel
theorem dX10_chooseForOpening_53 : decode cX10_chooseForOpening 53 = .ok (.iconst 1, 1) := by decide +kernel
theorem dX10_chooseForOpening_54 : decode cX10_chooseForOpening 54 = .ok (.invokevirtual 165, 3) := by decide +kernel
theorem dX10_chooseForOpening_57 : decode cX10_chooseForOpening 57 = .ok (.istore 5, 2) := by decide +kernel
theorem dX10_chooseForOpening_59 : decode cX10_chooseForOpening 59 = .ok (.iload 5, 2) := by decide +kernel
theorem dX10_chooseForOpening_61 : decode cX10_chooseForOpening 61 = .ok (.aload_n 2, 1) := by decide +kernel
theorem dX10_chooseForOpening_62 : decode cX10_chooseForOpening 62 = .ok (.getfield 169, 3) := by decide +kernel
theorem dX10_chooseForOpening_65 : decode cX10_chooseForOpening 65 = .ok (.if_icmp .ge 44, 3) := by decide +kernel
theorem dX10_chooseForOpening_68 : decode cX10_chooseForOpening 68 = .ok (.aload_n 0, 1) := by decide +kernel
theorem dX10_chooseForOpening_69 : decode cX10_chooseForOpening 69 = .ok (.getfield 33, 3) := by decide +kernel
theorem dX10_chooseForOpening_72 : decode cX10_chooseForOpening 72 = .ok (.iload_n 1, 1) := by decide +kernel
theorem dX10_chooseForOpening_73 : decode cX10_chooseForOpening 73 = .ok (.invokevirtual 399, 3) := by decide +kernel
theorem dX10_chooseForOpening_76 : decode cX10_chooseForOpening 76 = .ok (.aload_n 0, 1) := by decide +kernel
theorem dX10_chooseForOpening_77 : decode cX10_chooseForOpening 77 = .ok (.getfield 33, 3) := by decide +kernel
theorem dX10_chooseForOpening_80 : decode cX10_chooseForOpening 80 = .ok (.iconst 3, 1) := by decide +kernel
theorem dX10_chooseForOpening_81 : decode cX10_chooseForOpening 81 = .ok (.aload_n 2, 1) := by decide +kernel
theorem dX10_chooseForOpening_82 : decode cX10_chooseForOpening 82 = .ok (.getfield 169, 3) := by decide +kernel
theorem dX10_chooseForOpening_85 : decode cX10_chooseForOpening 85 = .ok (.iload 5, 2) := by decide +kernel
theorem dX10_chooseForOpening_87 : decode cX10_chooseForOpening 87 = .ok (.isub, 1) := by decide +kernel
theorem dX10_chooseForOpening_88 : decode cX10_chooseForOpening 88 = .ok (.invokevirtual 402, 3) := by decide +kernel
theorem dX10_chooseForOpening_91 : decode cX10_chooseForOpening 91 = .ok (.aload_n 0, 1) := by decide +kernel
theorem dX10_chooseForOpening_92 : decode cX10_chooseForOpening 92 = .ok (.aload_n 2, 1) := by decide +kernel
theorem dX10_chooseForOpening_93 : decode cX10_chooseForOpening 93 = .ok (.iload 4, 2) := by decide +kernel
theorem dX10_chooseForOpening_95 : decode cX10_chooseForOpening 95 = .ok (.invokevirtual 410, 3) := by decide +kernel
theorem dX10_chooseForOpening_98 : decode cX10_chooseForOpening 98 = .ok (.new 405, 3) := by decide +kernel
theorem dX10_chooseForOpening_101 : decode cX10_chooseForOpening 101 = .ok (.dup, 1) := by decide +kernel
theorem dX10_chooseForOpening_102 : decode cX10_chooseForOpening 102 = .ok (.ldc_w 414, 3) := by decide +kernel
theorem dX10_chooseForOpening_105 : decode cX10_chooseForOpening 105 = .ok (.invokespecial 409, 3) := by decide +kernel
theorem dX10_chooseForOpening_108 : decode cX10_chooseForOpening 108 = .ok (.athrow, 1) := by decide +kernel
theorem dX10_chooseForOpening_109 : decode cX10_chooseForOpening 109 = .ok (.return_, 1) := by decide +kernel
theorem dX10_reportBadShares_0 : decode cX10_reportBadShares 0 = .ok (.iconst 1, 1) := by decide +kernel
theorem dX10_reportBadShares_1 : decode cX10_reportBadShares 1 = .ok (.istore_n 3, 1) := by decide +kernel
theorem dX10_reportBadShares_2 : decode cX10_reportBadShares 2 = .ok (.iload_n 3, 1) := by decide +kernel
theorem dX10_reportBadShares_3 : decode cX10_reportBadShares 3 = .ok (.bipush 24, 2) := by decide +kernel
theorem dX10_reportBadShares_5 : decode cX10_reportBadShares 5 = .ok (.if_icmp .gt 59, 3) := by decide +kernel
theorem dX10_reportBadShares_8 : decode cX10_reportBadShares 8 = .ok (.iload_n 2, 1) := by decide +kernel
theorem dX10_reportBadShares_9 : decode cX10_reportBadShares 9 = .ok (.iload_n 3, 1) := by decide +kernel
theorem dX10_reportBadShares_10 : decode cX10_reportBadShares 10 = .ok (.invokestatic 177, 3) := by decide +kernel
theorem dX10_reportBadShares_13 : decode cX10_reportBadShares 13 = .ok (.invokestatic 78, 3) := by decide +kernel
theorem dX10_reportBadShares_16 : decode cX10_reportBadShares 16 = .ok (.ifCond .eq 42, 3) := by decide +kernel
theorem dX10_reportBadShares_19 : decode cX10_reportBadShares 19 = .ok (.aload_n 1, 1) := by decide +kernel
theorem dX10_reportBadShares_20 : decode cX10_reportBadShares 20 = .ok (.iload_n 3, 1) := by decide +kernel
theorem dX10_reportBadShares_21 : decode cX10_reportBadShares 21 = .ok (.invokevirtual 180, 3) := by decide +kernel
theorem dX10_reportBadShares_24 : decode cX10_reportBadShares 24 = .ok (.ifCond .eq 34, 3) := by decide +kernel
theorem dX10_reportBadShares_27 : decode cX10_reportBadShares 27 = .ok (.aload_n 1, 1) := by decide +kernel
theorem dX10_reportBadShares_28 : decode cX10_reportBadShares 28 = .ok (.iload_n 3, 1) := by decide +kernel
theorem dX10_reportBadShares_29 : decode cX10_reportBadShares 29 = .ok (.invokevirtual 204, 3) := by decide +kernel
theorem dX10_reportBadShares_32 : decode cX10_reportBadShares 32 = .ok (.istore 4, 2) := by decide +kernel
theorem dX10_reportBadShares_34 : decode cX10_reportBadShares 34 = .ok (.iload 4, 2) := by decide +kernel
theorem dX10_reportBadShares_36 : decode cX10_reportBadShares 36 = .ok (.ifCond .eq 22, 3) := by decide +kernel
theorem dX10_reportBadShares_39 : decode cX10_reportBadShares 39 = .ok (.aload_n 0, 1) := by decide +kernel
theorem dX10_reportBadShares_40 : decode cX10_reportBadShares 40 = .ok (.getfield 33, 3) := by decide +kernel
theorem dX10_reportBadShares_43 : decode cX10_reportBadShares 43 = .ok (.iload 4, 2) := by decide +kernel
theorem dX10_reportBadShares_45 : decode cX10_reportBadShares 45 = .ok (.iconst 1, 1) := by decide +kernel
theorem dX10_reportBadShares_46 : decode cX10_reportBadShares 46 = .ok (.if_icmp .ne 7, 3) := by decide +kernel
theorem dX10_reportBadShares_49 : decode cX10_reportBadShares 49 = .ok (.iconst 4, 1) := by decide +kernel
theorem dX10_reportBadShares_50 : decode cX10_reportBadShares 50 = .ok (.goto 4, 3) := by decide +kernel
theorem dX10_reportBadShares_53 : decode cX10_reportBadShares 53 = .ok (.iconst 5, 1) := by decide +kernel
theorem dX10_reportBadShares_54 : decode cX10_reportBadShares 54 = .ok (.iload_n 3, 1) := by decide +kernel
theorem dX10_reportBadShares_55 : decode cX10_reportBadShares 55 = .ok (.invokevirtual 402, 3) := by decide +kernel
theorem dX10_reportBadShares_58 : decode cX10_reportBadShares 58 = .ok (.iinc 3 1, 3) := by decide +kernel
theorem dX10_reportBadShares_61 : decode cX10_reportBadShares 61 = .ok (.goto (-59), 3) := by decide +kernel
theorem dX10_reportBadShares_64 : decode cX10_reportBadShares 64 = .ok (.return_, 1) := by decide +kernel
theorem dX10_choose_0 : decode cX10_choose 0 = .ok (.iconst 0, 1) := by decide +kernel
theorem dX10_choose_1 : decode cX10_choose 1 = .ok (.istore 4, 2) := by decide +kernel
theorem dX10_choose_3 : decode cX10_choose 3 = .ok (.iconst 1, 1) := by decide +kernel
theorem dX10_choose_4 : decode cX10_choose 4 = .ok (.istore 5, 2) := by decide +kernel
theorem dX10_choose_6 : decode cX10_choose 6 = .ok (.iload 5, 2) := by decide +kernel
theorem dX10_choose_8 : decode cX10_choose 8 = .ok (.bipush 24, 2) := by decide +kernel
theorem dX10_choose_10 : decode cX10_choose 10 = .ok (.if_icmp .gt 64, 3) := by decide +kernel
theorem dX10_choose_13 : decode cX10_choose 13 = .ok (.iload 4, 2) := by decide +kernel
theorem dX10_choose_15 : decode cX10_choose 15 = .ok (.aload_n 1, 1) := by decide +kernel
theorem dX10_choose_16 : decode cX10_choose 16 = .ok (.getfield 169, 3) := by decide +kernel
theorem dX10_choose_19 : decode cX10_choose 19 = .ok (.if_icmp .ge 55, 3) := by decide +kernel
theorem dX10_choose_22 : decode cX10_choose 22 = .ok (.iload_n 2, 1) := by decide +kernel
theorem dX10_choose_23 : decode cX10_choose 23 = .ok (.iload 5, 2) := by decide +kernel
theorem dX10_choose_25 : decode cX10_choose 25 = .ok (.invokestatic 177, 3) := by decide +kernel
theorem dX10_choose_28 : decode cX10_choose 28 = .ok (.invokestatic 78, 3) := by decide +kernel
theorem dX10_choose_31 : decode cX10_choose 31 = .ok (.ifCond .eq 37, 3) := by decide +kernel
theorem dX10_choose_34 : decode cX10_choose 34 = .ok (.aload_n 1, 1) := by decide +kernel
theorem dX10_choose_35 : decode cX10_choose 35 = .ok (.iload 5, 2) := by decide +kernel
theorem dX10_choose_37 : decode cX10_choose 37 = .ok (.invokevirtual 180, 3) := by decide +kernel
theorem dX10_choose_40 : decode cX10_choose 40 = .ok (.ifCond .eq 28, 3) := by decide +kernel
theorem dX10_choose_43 : decode cX10_choose 43 = .ok (.iload_n 3, 1) := by decide +kernel
theorem dX10_choose_44 : decode cX10_choose 44 = .ok (.ifCond .eq 12, 3) := by decide +kernel
theorem dX10_choose_47 : decode cX10_choose 47 = .ok (.aload_n 1, 1) := by decide +kernel
theorem dX10_choose_48 : decode cX10_choose 48 = .ok (.iload 5, 2) := by decide +kernel
theorem dX10_choose_50 : decode cX10_choose 50 = .ok (.invokevirtual 204, 3) := by decide +kernel
theorem dX10_choose_53 : decode cX10_choose 53 = .ok (.ifCond .ne 15, 3) := by decide +kernel
theorem dX10_choose_56 : decode cX10_choose 56 = .ok (.aload_n 0, 1) := by decide +kernel
theorem dX10_choose_57 : decode cX10_choose 57 = .ok (.getfield 41, 3) := by decide +kernel
theorem dX10_choose_60 : decode cX10_choose 60 = .ok (.iload 4, 2) := by decide +kernel
theorem dX10_choose_62 : decode cX10_choose 62 = .ok (.iload 5, 2) := by decide +kernel
theorem dX10_choose_64 : decode cX10_choose 64 = .ok (.iastore, 1) := by decide +kernel
theorem dX10_choose_65 : decode cX10_choose 65 = .ok (.iinc 4 1, 3) := by decide +kernel
theorem dX10_choose_68 : decode cX10_choose 68 = .ok (.iinc 5 1, 3) := by decide +kernel
theorem dX10_choose_71 : decode cX10_choose 71 = .ok (.goto (-65), 3) := by decide +kernel
theorem dX10_choose_74 : decode cX10_choose 74 = .ok (.iload 4, 2) := by decide +kernel
theorem dX10_choose_76 : decode cX10_choose 76 = .ok (.ireturn, 1) := by decide +kernel
theorem dX10_markOpeningSets_0 : decode cX10_markOpeningSets 0 = .ok (.iconst 0, 1) := by decide +kernel
theorem dX10_markOpeningSets_1 : decode cX10_markOpeningSets 1 = .ok (.istore_n 2, 1) := by decide +kernel
theorem dX10_markOpeningSets_2 : decode cX10_markOpeningSets 2 = .ok (.iload_n 2, 1) := by decide +kernel
theorem dX10_markOpeningSets_3 : decode cX10_markOpeningSets 3 = .ok (.bipush 8, 2) := by decide +kernel
theorem dX10_markOpeningSets_5 : decode cX10_markOpeningSets 5 = .ok (.if_icmp .ge 31, 3) := by decide +kernel
theorem dX10_markOpeningSets_8 : decode cX10_markOpeningSets 8 = .ok (.aload_n 0, 1) := by decide +kernel
theorem dX10_markOpeningSets_9 : decode cX10_markOpeningSets 9 = .ok (.getfield 44, 3) := by decide +kernel
theorem dX10_markOpeningSets_12 : decode cX10_markOpeningSets 12 = .ok (.iload_n 2, 1) := by decide +kernel
theorem dX10_markOpeningSets_13 : decode cX10_markOpeningSets 13 = .ok (.aload_n 1, 1) := by decide +kernel
theorem dX10_markOpeningSets_14 : decode cX10_markOpeningSets 14 = .ok (.iconst 1, 1) := by decide +kernel
theorem dX10_markOpeningSets_15 : decode cX10_markOpeningSets 15 = .ok (.iload_n 2, 1) := by decide +kernel
theorem dX10_markOpeningSets_16 : decode cX10_markOpeningSets 16 = .ok (.ishl, 1) := by decide +kernel
theorem dX10_markOpeningSets_17 : decode cX10_markOpeningSets 17 = .ok (.aload_n 0, 1) := by decide +kernel
theorem dX10_markOpeningSets_18 : decode cX10_markOpeningSets 18 = .ok (.getfield 10, 3) := by decide +kernel
theorem dX10_markOpeningSets_21 : decode cX10_markOpeningSets 21 = .ok (.getfield 75, 3) := by decide +kernel
theorem dX10_markOpeningSets_24 : decode cX10_markOpeningSets 24 = .ok (.iand, 1) := by decide +kernel
theorem dX10_markOpeningSets_25 : decode cX10_markOpeningSets 25 = .ok (.iconst 0, 1) := by decide +kernel
theorem dX10_markOpeningSets_26 : decode cX10_markOpeningSets 26 = .ok (.invokevirtual 96, 3) := by decide +kernel
theorem dX10_markOpeningSets_29 : decode cX10_markOpeningSets 29 = .ok (.iastore, 1) := by decide +kernel
theorem dX10_markOpeningSets_30 : decode cX10_markOpeningSets 30 = .ok (.iinc 2 1, 3) := by decide +kernel
theorem dX10_markOpeningSets_33 : decode cX10_markOpeningSets 33 = .ok (.goto (-31), 3) := by decide +kernel
theorem dX10_markOpeningSets_36 : decode cX10_markOpeningSets 36 = .ok (.iconst 0, 1) := by decide +kernel
theorem dX10_markOpeningSets_37 : decode cX10_markOpeningSets 37 = .ok (.istore_n 2, 1) := by decide +kernel
theorem dX10_markOpeningSets_38 : decode cX10_markOpeningSets 38 = .ok (.iload_n 2, 1) := by decide +kernel
theorem dX10_markOpeningSets_39 : decode cX10_markOpeningSets 39 = .ok (.sipush 256, 3) := by decide +kernel
theorem dX10_markOpeningSets_42 : decode cX10_markOpeningSets 42 = .ok (.if_icmp .ge 48, 3) := by decide +kernel
theorem dX10_markOpeningSets_45 : decode cX10_markOpeningSets 45 = .ok (.aload_n 0, 1) := by decide +kernel
theorem dX10_markOpeningSets_46 : decode cX10_markOpeningSets 46 = .ok (.getfield 47, 3) := by decide +kernel
theorem dX10_markOpeningSets_49 : decode cX10_markOpeningSets 49 = .ok (.iload_n 2, 1) := by decide +kernel
theorem dX10_markOpeningSets_50 : decode cX10_markOpeningSets 50 = .ok (.aload_n 0, 1) := by decide +kernel
theorem dX10_markOpeningSets_51 : decode cX10_markOpeningSets 51 = .ok (.iload_n 2, 1) := by decide +kernel
theorem dX10_markOpeningSets_52 : decode cX10_markOpeningSets 52 = .ok (.invokevirtual 416, 3) := by decide +kernel
theorem dX10_markOpeningSets_55 : decode cX10_markOpeningSets 55 = .ok (.aload_n 1, 1) := by decide +kernel
theorem dX10_markOpeningSets_56 : decode cX10_markOpeningSets 56 = .ok (.getfield 169, 3) := by decide +kernel
theorem dX10_markOpeningSets_59 : decode cX10_markOpeningSets 59 = .ok (.if_icmp .lt 23, 3) := by decide +kernel
theorem dX10_markOpeningSets_62 : decode cX10_markOpeningSets 62 = .ok (.aload_n 1, 1) := by decide +kernel
theorem dX10_markOpeningSets_63 : decode cX10_markOpeningSets 63 = .ok (.iload_n 2, 1) := by decide +kernel
theorem dX10_markOpeningSets_64 : decode cX10_markOpeningSets 64 = .ok (.aload_n 0, 1) := by decide +kernel
theorem dX10_markOpeningSets_65 : decode cX10_markOpeningSets 65 = .ok (.getfield 10, 3) := by decide +kernel
theorem dX10_markOpeningSets_68 : decode cX10_markOpeningSets 68 = .ok (.getfield 75, 3) := by decide +kernel
theorem dX10_markOpeningSets_71 : decode cX10_markOpeningSets 71 = .ok (.iand, 1) := by decide +kernel
theorem dX10_markOpeningSets_72 : decode cX10_markOpeningSets 72 = .ok (.invokevirtual 269, 3) := by decide +kernel
theorem dX10_markOpeningSets_75 : decode cX10_markOpeningSets 75 = .ok (.ifCond .eq 7, 3) := by decide +kernel
theorem dX10_markOpeningSets_78 : decode cX10_markOpeningSets 78 = .ok (.iconst 1, 1) := by decide +kernel
theorem dX10_markOpeningSets_79 : decode cX10_markOpeningSets 79 = .ok (.goto 4, 3) := by decide +kernel
theorem dX10_markOpeningSets_82 : decode cX10_markOpeningSets 82 = .ok (.iconst 0, 1) := by decide +kernel
theorem dX10_markOpeningSets_83 : decode cX10_markOpeningSets 83 = .ok (.bastore, 1) := by decide +kernel
theorem dX10_markOpeningSets_84 : decode cX10_markOpeningSets 84 = .ok (.iinc 2 1, 3) := by decide +kernel
theorem dX10_markOpeningSets_87 : decode cX10_markOpeningSets 87 = .ok (.goto (-49), 3) := by decide +kernel
theorem dX10_markOpeningSets_90 : decode cX10_markOpeningSets 90 = .ok (.return_, 1) := by decide +kernel
theorem dX10_goodSharesOf_0 : decode cX10_goodSharesOf 0 = .ok (.iconst 0, 1) := by decide +kernel
theorem dX10_goodSharesOf_1 : decode cX10_goodSharesOf 1 = .ok (.istore_n 2, 1) := by decide +kernel
theorem dX10_goodSharesOf_2 : decode cX10_goodSharesOf 2 = .ok (.iconst 0, 1) := by decide +kernel
theorem dX10_goodSharesOf_3 : decode cX10_goodSharesOf 3 = .ok (.istore_n 3, 1) := by decide +kernel
theorem dX10_goodSharesOf_4 : decode cX10_goodSharesOf 4 = .ok (.iload_n 3, 1) := by decide +kernel
theorem dX10_goodSharesOf_5 : decode cX10_goodSharesOf 5 = .ok (.bipush 8, 2) := by decide +kernel
theorem dX10_goodSharesOf_7 : decode cX10_goodSharesOf 7 = .ok (.if_icmp .ge 30, 3) := by decide +kernel
theorem dX10_goodSharesOf_10 : decode cX10_goodSharesOf 10 = .ok (.iload_n 2, 1) := by decide +kernel
theorem dX10_goodSharesOf_11 : decode cX10_goodSharesOf 11 = .ok (.iload_n 1, 1) := by decide +kernel
theorem dX10_goodSharesOf_12 : decode cX10_goodSharesOf 12 = .ok (.iload_n 3, 1) := by decide +kernel
theorem dX10_goodSharesOf_13 : decode cX10_goodSharesOf 13 = .ok (.invokestatic 78, 3) := by decide +kernel
theorem dX10_goodSharesOf_16 : decode cX10_goodSharesOf 16 = .ok (.ifCond .eq 12, 3) := by decide +kernel
theorem dX10_goodSharesOf_19 : decode cX10_goodSharesOf 19 = .ok (.aload_n 0, 1) := by decide +kernel
theorem dX10_goodSharesOf_20 : decode cX10_goodSharesOf 20 = .ok (.getfield 44, 3) := by decide +kernel
theorem dX10_goodSharesOf_23 : decode cX10_goodSharesOf 23 = .ok (.iload_n 3, 1) := by decide +kernel
theorem dX10_goodSharesOf_24 : decode cX10_goodSharesOf 24 = .ok (.iaload, 1) := by decide +kernel
theorem dX10_goodSharesOf_25 : decode cX10_goodSharesOf 25 = .ok (.goto 4, 3) := by decide +kernel
theorem dX10_goodSharesOf_28 : decode cX10_goodSharesOf 28 = .ok (.iconst 0, 1) := by decide +kernel
theorem dX10_goodSharesOf_29 : decode cX10_goodSharesOf 29 = .ok (.iadd, 1) := by decide +kernel
theorem dX10_goodSharesOf_30 : decode cX10_goodSharesOf 30 = .ok (.istore_n 2, 1) := by decide +kernel
theorem dX10_goodSharesOf_31 : decode cX10_goodSharesOf 31 = .ok (.iinc 3 1, 3) := by decide +kernel
theorem dX10_goodSharesOf_34 : decode cX10_goodSharesOf 34 = .ok (.goto (-30), 3) := by decide +kernel
theorem dX10_goodSharesOf_37 : decode cX10_goodSharesOf 37 = .ok (.iload_n 2, 1) := by decide +kernel
theorem dX10_goodSharesOf_38 : decode cX10_goodSharesOf 38 = .ok (.ireturn, 1) := by decide +kernel
theorem dX10_isNeeded_0 : decode cX10_isNeeded 0 = .ok (.iload_n 2, 1) := by decide +kernel
theorem dX10_isNeeded_1 : decode cX10_isNeeded 1 = .ok (.iload_n 1, 1) := by decide +kernel
theorem dX10_isNeeded_2 : decode cX10_isNeeded 2 = .ok (.invokestatic 78, 3) := by decide +kernel
theorem dX10_isNeeded_5 : decode cX10_isNeeded 5 = .ok (.ifCond .eq 31, 3) := by decide +kernel
theorem dX10_isNeeded_8 : decode cX10_isNeeded 8 = .ok (.aload_n 0, 1) := by decide +kernel
theorem dX10_isNeeded_9 : decode cX10_isNeeded 9 = .ok (.getfield 47, 3) := by decide +kernel
theorem dX10_isNeeded_12 : decode cX10_isNeeded 12 = .ok (.iload_n 2, 1) := by decide +kernel
theorem dX10_isNeeded_13 : decode cX10_isNeeded 13 = .ok (.baload, 1) := by decide +kernel
theorem dX10_isNeeded_14 : decode cX10_isNeeded 14 = .ok (.ifCond .eq 22, 3) := by decide +kernel
theorem dX10_isNeeded_17 : decode cX10_isNeeded 17 = .ok (.aload_n 0, 1) := by decide +kernel
theorem dX10_isNeeded_18 : decode cX10_isNeeded 18 = .ok (.getfield 47, 3) := by decide +kernel
theorem dX10_isNeeded_21 : decode cX10_isNeeded 21 = .ok (.iload_n 2, 1) := by decide +kernel
theorem dX10_isNeeded_22 : decode cX10_isNeeded 22 = .ok (.iconst 1, 1) := by decide +kernel
theorem dX10_isNeeded_23 : decode cX10_isNeeded 23 = .ok (.iload_n 1, 1) := by decide +kernel
theorem dX10_isNeeded_24 : decode cX10_isNeeded 24 = .ok (.ishl, 1) := by decide +kernel
theorem dX10_isNeeded_25 : decode cX10_isNeeded 25 = .ok (.iconst (-1), 1) := by decide +kernel
theorem dX10_isNeeded_26 : decode cX10_isNeeded 26 = .ok (.ixor, 1) := by decide +kernel
theorem dX10_isNeeded_27 : decode cX10_isNeeded 27 = .ok (.iand, 1) := by decide +kernel
theorem dX10_isNeeded_28 : decode cX10_isNeeded 28 = .ok (.baload, 1) := by decide +kernel
theorem dX10_isNeeded_29 : decode cX10_isNeeded 29 = .ok (.ifCond .ne 7, 3) := by decide +kernel
theorem dX10_isNeeded_32 : decode cX10_isNeeded 32 = .ok (.iconst 1, 1) := by decide +kernel
theorem dX10_isNeeded_33 : decode cX10_isNeeded 33 = .ok (.goto 4, 3) := by decide +kernel
theorem dX10_isNeeded_36 : decode cX10_isNeeded 36 = .ok (.iconst 0, 1) := by decide +kernel
theorem dX10_isNeeded_37 : decode cX10_isNeeded 37 = .ok (.ireturn, 1) := by decide +kernel
theorem dX10_needsAllMembers_0 : decode cX10_needsAllMembers 0 = .ok (.iconst 0, 1) := by decide +kernel
theorem dX10_needsAllMembers_1 : decode cX10_needsAllMembers 1 = .ok (.istore_n 2, 1) := by decide +kernel
theorem dX10_needsAllMembers_2 : decode cX10_needsAllMembers 2 = .ok (.iload_n 2, 1) := by decide +kernel
theorem dX10_needsAllMembers_3 : decode cX10_needsAllMembers 3 = .ok (.bipush 8, 2) := by decide +kernel
theorem dX10_needsAllMembers_5 : decode cX10_needsAllMembers 5 = .ok (.if_icmp .ge 28, 3) := by decide +kernel
theorem dX10_needsAllMembers_8 : decode cX10_needsAllMembers 8 = .ok (.iload_n 1, 1) := by decide +kernel
theorem dX10_needsAllMembers_9 : decode cX10_needsAllMembers 9 = .ok (.iload_n 2, 1) := by decide +kernel
theorem dX10_needsAllMembers_10 : decode cX10_needsAllMembers 10 = .ok (.invokestatic 78, 3) := by decide +kernel
theorem dX10_needsAllMembers_13 : decode cX10_needsAllMembers 13 = .ok (.ifCond .eq 14, 3) := by decide +kernel
theorem dX10_needsAllMembers_16 : decode cX10_needsAllMembers 16 = .ok (.aload_n 0, 1) := by decide +kernel
theorem dX10_needsAllMembers_17 : decode cX10_needsAllMembers 17 = .ok (.iload_n 2, 1) := by decide +kernel
theorem dX10_needsAllMembers_18 : decode cX10_needsAllMembers 18 = .ok (.iload_n 1, 1) := by decide +kernel
theorem dX10_needsAllMembers_19 : decode cX10_needsAllMembers 19 = .ok (.invokevirtual 302, 3) := by decide +kernel
theorem dX10_needsAllMembers_22 : decode cX10_needsAllMembers 22 = .ok (.ifCond .ne 5, 3) := by decide +kernel
theorem dX10_needsAllMembers_25 : decode cX10_needsAllMembers 25 = .ok (.iconst 0, 1) := by decide +kernel
theorem dX10_needsAllMembers_26 : decode cX10_needsAllMembers 26 = .ok (.ireturn, 1) := by decide +kernel
theorem dX10_needsAllMembers_27 : decode cX10_needsAllMembers 27 = .ok (.iinc 2 1, 3) := by decide +kernel
theorem dX10_needsAllMembers_30 : decode cX10_needsAllMembers 30 = .ok (.goto (-28), 3) := by decide +kernel
theorem dX10_needsAllMembers_33 : decode cX10_needsAllMembers 33 = .ok (.aload_n 0, 1) := by decide +kernel
theorem dX10_needsAllMembers_34 : decode cX10_needsAllMembers 34 = .ok (.getfield 47, 3) := by decide +kernel
theorem dX10_needsAllMembers_37 : decode cX10_needsAllMembers 37 = .ok (.iload_n 1, 1) := by decide +kernel
theorem dX10_needsAllMembers_38 : decode cX10_needsAllMembers 38 = .ok (.baload, 1) := by decide +kernel
theorem dX10_needsAllMembers_39 : decode cX10_needsAllMembers 39 = .ok (.ireturn, 1) := by decide +kernel
theorem dX10_takeText_0 : decode cX10_takeText 0 = .ok (.aload_n 0, 1) := by decide +kernel
theorem dX10_takeText_1 : decode cX10_takeText 1 = .ok (.getfield 22, 3) := by decide +kernel
theorem dX10_takeText_4 : decode cX10_takeText 4 = .ok (.invokevirtual 419, 3) := by decide +kernel
theorem dX10_takeText_7 : decode cX10_takeText 7 = .ok (.astore_n 1, 1) := by decide +kernel
theorem dX10_takeText_8 : decode cX10_takeText 8 = .ok (.aload_n 0, 1) := by decide +kernel
theorem dX10_takeText_9 : decode cX10_takeText 9 = .ok (.getfield 22, 3) := by decide +kernel
theorem dX10_takeText_12 : decode cX10_takeText 12 = .ok (.iconst 0, 1) := by decide +kernel
theorem dX10_takeText_13 : decode cX10_takeText 13 = .ok (.invokevirtual 422, 3) := by decide +kernel
theorem dX10_takeText_16 : decode cX10_takeText 16 = .ok (.aload_n 1, 1) := by decide +kernel
theorem dX10_takeText_17 : decode cX10_takeText 17 = .ok (.areturn, 1) := by decide +kernel
theorem dX10_writeShare_0 : decode cX10_writeShare 0 = .ok (.aload_n 0, 1) := by decide +kernel
theorem dX10_writeShare_1 : decode cX10_writeShare 1 = .ok (.getfield 51, 3) := by decide +kernel
theorem dX10_writeShare_4 : decode cX10_writeShare 4 = .ok (.iconst 0, 1) := by decide +kernel
theorem dX10_writeShare_5 : decode cX10_writeShare 5 = .ok (.invokevirtual 422, 3) := by decide +kernel
theorem dX10_writeShare_8 : decode cX10_writeShare 8 = .ok (.aload_n 0, 1) := by decide +kernel
theorem dX10_writeShare_9 : decode cX10_writeShare 9 = .ok (.getfield 51, 3) := by decide +kernel
theorem dX10_writeShare_12 : decode cX10_writeShare 12 = .ok (.iload_n 1, 1) := by decide +kernel
theorem dX10_writeShare_13 : decode cX10_writeShare 13 = .ok (.invokevirtual 425, 3) := by decide +kernel
theorem dX10_writeShare_16 : decode cX10_writeShare 16 = .ok (.bipush 58, 2) := by decide +kernel
theorem dX10_writeShare_18 : decode cX10_writeShare 18 = .ok (.invokevirtual 247, 3) := by decide +kernel
theorem dX10_writeShare_21 : decode cX10_writeShare 21 = .ok (.iload_n 2, 1) := by decide +kernel
theorem dX10_writeShare_22 : decode cX10_writeShare 22 = .ok (.invokevirtual 425, 3) := by decide +kernel
theorem dX10_writeShare_25 : decode cX10_writeShare 25 = .ok (.bipush 64, 2) := by decide +kernel
theorem dX10_writeShare_27 : decode cX10_writeShare 27 = .ok (.invokevirtual 247, 3) := by decide +kernel
theorem dX10_writeShare_30 : decode cX10_writeShare 30 = .ok (.iload_n 3, 1) := by decide +kernel
theorem dX10_writeShare_31 : decode cX10_writeShare 31 = .ok (.invokevirtual 425, 3) := by decide +kernel
theorem dX10_writeShare_34 : decode cX10_writeShare 34 = .ok (.bipush 35, 2) := by decide +kernel
theorem dX10_writeShare_36 : decode cX10_writeShare 36 = .ok (.invokevirtual 247, 3) := by decide +kernel
theorem dX10_writeShare_39 : decode cX10_writeShare 39 = .ok (.pop, 1) := by decide +kernel
theorem dX10_writeShare_40 : decode cX10_writeShare 40 = .ok (.aload_n 0, 1) := by decide +kernel
theorem dX10_writeShare_41 : decode cX10_writeShare 41 = .ok (.getfield 51, 3) := by decide +kernel
theorem dX10_writeShare_44 : decode cX10_writeShare 44 = .ok (.iload_n 1, 1) := by decide +kernel
theorem dX10_writeShare_45 : decode cX10_writeShare 45 = .ok (.iload_n 2, 1) := by decide +kernel
theorem dX10_writeShare_46 : decode cX10_writeShare 46 = .ok (.iload_n 3, 1) := by decide +kernel
theorem dX10_writeShare_47 : decode cX10_writeShare 47 = .ok (.invokestatic 428, 3) := by decide +kernel
theorem dX10_writeShare_50 : decode cX10_writeShare 50 = .ok (.invokevirtual 425, 3) := by decide +kernel
theorem dX10_writeShare_53 : decode cX10_writeShare 53 = .ok (.pop, 1) := by decide +kernel
theorem dX10_writeShare_54 : decode cX10_writeShare 54 = .ok (.return_, 1) := by decide +kernel
theorem dX11_init_0 : decode cX11_init 0 = .ok (.aload_n 0, 1) := by decide +kernel
theorem dX11_init_1 : decode cX11_init 1 = .ok (.invokespecial 1, 3) := by decide +kernel
theorem dX11_init_4 : decode cX11_init 4 = .ok (.aload_n 0, 1) := by decide +kernel
theorem dX11_init_5 : decode cX11_init 5 = .ok (.sipush 534, 3) := by decide +kernel
theorem dX11_init_8 : decode cX11_init 8 = .ok (.newarray .int, 2) := by decide +kernel
theorem dX11_init_10 : decode cX11_init 10 = .ok (.putfield 7, 3) := by decide +kernel
theorem dX11_init_13 : decode cX11_init 13 = .ok (.aload_n 0, 1) := by decide +kernel
theorem dX11_init_14 : decode cX11_init 14 = .ok (.sipush 534, 3) := by decide +kernel
theorem dX11_init_17 : decode cX11_init 17 = .ok (.newarray .int, 2) := by decide +kernel
theorem dX11_init_19 : decode cX11_init 19 = .ok (.putfield 13, 3) := by decide +kernel
theorem dX11_init_22 : decode cX11_init 22 = .ok (.aload_n 0, 1) := by decide +kernel
theorem dX11_init_23 : decode cX11_init 23 = .ok (.bipush 8, 2) := by decide +kernel
theorem dX11_init_25 : decode cX11_init 25 = .ok (.newarray .int, 2) := by decide +kernel
theorem dX11_init_27 : decode cX11_init 27 = .ok (.putfield 16, 3) := by decide +kernel
theorem dX11_init_30 : decode cX11_init 30 = .ok (.aload_n 0, 1) := by decide +kernel
theorem dX11_init_31 : decode cX11_init 31 = .ok (.bipush 24, 2) := by decide +kernel
theorem dX11_init_33 : decode cX11_init 33 = .ok (.newarray .int, 2) := by decide +kernel
theorem dX11_init_35 : decode cX11_init 35 = .ok (.putfield 19, 3) := by decide +kernel
theorem dX11_init_38 : decode cX11_init 38 = .ok (.aload_n 0, 1) := by decide +kernel
theorem dX11_init_39 : decode cX11_init 39 = .ok (.bipush 30, 2) := by decide +kernel
theorem dX11_init_41 : decode cX11_init 41 = .ok (.newarray .int, 2) := by decide +kernel
theorem dX11_init_43 : decode cX11_init 43 = .ok (.putfield 22, 3) := by decide +kernel
theorem dX11_init_46 : decode cX11_init 46 = .ok (.aload_n 0, 1) := by decide +kernel
theorem dX11_init_47 : decode cX11_init 47 = .ok (.bipush 30, 2) := by decide +kernel
theorem dX11_init_49 : decode cX11_init 49 = .ok (.newarray .int, 2) := by decide +kernel
theorem dX11_init_51 : decode cX11_init 51 = .ok (.putfield 25, 3) := by decide +kernel
theorem dX11_init_54 : decode cX11_init 54 = .ok (.aload_n 0, 1) := by decide +kernel
theorem dX11_init_55 : decode cX11_init 55 = .ok (.iconst 3, 1) := by decide +kernel
theorem dX11_init_56 : decode cX11_init 56 = .ok (.newarray .int, 2) := by decide +kernel
theorem dX11_init_58 : decode cX11_init 58 = .ok (.putfield 28, 3) := by decide +kernel
theorem dX11_init_61 : decode cX11_init 61 = .ok (.aload_n 0, 1) := by decide +kernel
theorem dX11_init_62 : decode cX11_init 62 = .ok (.bipush 100, 2) := by decide +kernel
theorem dX11_init_64 : decode cX11_init 64 = .ok (.newarray .char, 2) := by decide +kernel
theorem dX11_init_66 : decode cX11_init 66 = .ok (.putfield 31, 3) := by decide +kernel
theorem dX11_init_69 : decode cX11_init 69 = .ok (.aload_n 0, 1) := by decide +kernel
theorem dX11_init_70 : decode cX11_init 70 = .ok (.bipush 40, 2) := by decide +kernel
theorem dX11_init_72 : decode cX11_init 72 = .ok (.newarray .char, 2) := by decide +kernel
theorem dX11_init_74 : decode cX11_init 74 = .ok (.putfield 35, 3) := by decide +kernel
theorem dX11_init_77 : decode cX11_init 77 = .ok (.aload_n 0, 1) := by decide +kernel
theorem dX11_init_78 : decode cX11_init 78 = .ok (.iconst (-1), 1) := by decide +kernel
theorem dX11_init_79 : decode cX11_init 79 = .ok (.putfield 38, 3) := by decide +kernel
theorem dX11_init_82 : decode cX11_init 82 = .ok (.aload_n 0, 1) := by decide +kernel
theorem dX11_init_83 : decode cX11_init 83 = .ok (.getfield 7, 3) := by decide +kernel
theorem dX11_init_86 : decode cX11_init 86 = .ok (.iconst 0, 1) := by decide +kernel
theorem dX11_init_87 : decode cX11_init 87 = .ok (.iconst 1, 1) := by decide +kernel
theorem dX11_init_88 : decode cX11_init 88 = .ok (.iastore, 1) := by decide +kernel
theorem dX11_init_89 : decode cX11_init 89 = .ok (.iconst 0, 1) := by decide +kernel
theorem dX11_init_90 : decode cX11_init 90 = .ok (.istore_n 1, 1) := by decide +kernel
theorem dX11_init_91 : decode cX11_init 91 = .ok (.iload_n 1, 1) := by decide +kernel
theorem dX11_init_92 : decode cX11_init 92 = .ok (.bipush 8, 2) := by decide +kernel
theorem dX11_init_94 : decode cX11_init 94 = .ok (.if_icmp .ge 28, 3) := by decide +kernel
theorem dX11_init_97 : decode cX11_init 97 = .ok (.aload_n 0, 1) := by decide +kernel
theorem dX11_init_98 : decode cX11_init 98 = .ok (.getfield 7, 3) := by decide +kernel
theorem dX11_init_101 : decode cX11_init 101 = .ok (.iconst 1, 1) := by decide +kernel
theorem dX11_init_102 : decode cX11_init 102 = .ok (.iload_n 1, 1) := by decide +kernel
theorem dX11_init_103 : decode cX11_init 103 = .ok (.iadd, 1) := by decide +kernel
theorem dX11_init_104 : decode cX11_init 104 = .ok (.iconst 1, 1) := by decide +kernel
theorem dX11_init_105 : decode cX11_init 105 = .ok (.iastore, 1) := by decide +kernel
theorem dX11_init_106 : decode cX11_init 106 = .ok (.aload_n 0, 1) := by decide +kernel
theorem dX11_init_107 : decode cX11_init 107 = .ok (.getfield 7, 3) := by decide +kernel
theorem dX11_init_110 : decode cX11_init 110 = .ok (.bipush 9, 2) := by decide +kernel
theorem dX11_init_112 : decode cX11_init 112 = .ok (.iload_n 1, 1) := by decide +kernel
theorem dX11_init_113 : decode cX11_init 113 = .ok (.iadd, 1) := by decide +kernel
theorem dX11_init_114 : decode cX11_init 114 = .ok (.iconst 1, 1) := by decide +kernel
theorem dX11_init_115 : decode cX11_init 115 = .ok (.iastore, 1) := by decide +kernel
theorem dX11_init_116 : decode cX11_init 116 = .ok (.iinc 1 1, 3) := by decide +kernel
theorem dX11_init_119 : decode cX11_init 119 = .ok (.goto (-28), 3) := by decide +kernel
theorem dX11_init_122 : decode cX11_init 122 = .ok (.return_, 1) := by decide +kernel
theorem dX11_thrown_0 : decode cX11_thrown 0 = .ok (.aload_n 0, 1) := by decide +kernel
theorem dX11_thrown_1 : decode cX11_thrown 1 = .ok (.getfield 42, 3) := by decide +kernel
theorem dX11_thrown_4 : decode cX11_thrown 4 = .ok (.ireturn, 1) := by decide +kernel
theorem dX11_in_0 : decode cX11_in 0 = .ok (.iload_n 0, 1) := by decide +kernel
theorem dX11_in_1 : decode cX11_in 1 = .ok (.iload_n 1, 1) := by decide +kernel
theorem dX11_in_2 : decode cX11_in 2 = .ok (.if_icmp .lt 12, 3) := by decide +kernel
theorem dX11_in_5 : decode cX11_in 5 = .ok (.iload_n 0, 1) := by decide +kernel
theorem dX11_in_6 : decode cX11_in 6 = .ok (.iload_n 2, 1) := by decide +kernel
theorem dX11_in_7 : decode cX11_in 7 = .ok (.if_icmp .gt 7, 3) := by decide +kernel
theorem dX11_in_10 : decode cX11_in 10 = .ok (.iconst 1, 1) := by decide +kernel
theorem dX11_in_11 : decode cX11_in 11 = .ok (.goto 4, 3) := by decide +kernel
theorem dX11_in_14 : decode cX11_in 14 = .ok (.iconst 0, 1) := by decide +kernel
theorem dX11_in_15 : decode cX11_in 15 = .ok (.ireturn, 1) := by decide +kernel
theorem dX11_fails_0 : decode cX11_fails 0 = .ok (.aload_n 0, 1) := by decide +kernel
theorem dX11_fails_1 : decode cX11_fails 1 = .ok (.iload_n 1, 1) := by decide +kernel
theorem dX11_fails_2 : decode cX11_fails 2 = .ok (.putfield 42, 3) := by decide +kernel
theorem dX11_fails_5 : decode cX11_fails 5 = .ok (.iconst 0, 1) := by decide +kernel
theorem dX11_fails_6 : decode cX11_fails 6 = .ok (.ireturn, 1) := by decide +kernel
theorem dX11_done_0 : decode cX11_done 0 = .ok (.aload_n 0, 1) := by decide +kernel
theorem dX11_done_1 : decode cX11_done 1 = .ok (.iconst 0, 1) := by decide +kernel
theorem dX11_done_2 : decode cX11_done 2 = .ok (.putfield 42, 3) := by decide +kernel
theorem dX11_done_5 : decode cX11_done 5 = .ok (.iload_n 1, 1) := by decide +kernel
theorem dX11_done_6 : decode cX11_done 6 = .ok (.ireturn, 1) := by decide +kernel
theorem dX11_isMember_0 : decode cX11_isMember 0 = .ok (.iload_n 0, 1) := by decide +kernel
theorem dX11_isMember_1 : decode cX11_isMember 1 = .ok (.iconst 0, 1) := by decide +kernel
theorem dX11_isMember_2 : decode cX11_isMember 2 = .ok (.bipush 7, 2) := by decide +kernel
theorem dX11_isMember_4 : decode cX11_isMember 4 = .ok (.invokestatic 45, 3) := by decide +kernel
theorem dX11_isMember_7 : decode cX11_isMember 7 = .ok (.ireturn, 1) := by decide +kernel
theorem dX11_isSlot_0 : decode cX11_isSlot 0 = .ok (.iload_n 0, 1) := by decide +kernel
theorem dX11_isSlot_1 : decode cX11_isSlot 1 = .ok (.iconst 0, 1) := by decide +kernel
theorem dX11_isSlot_2 : decode cX11_isSlot 2 = .ok (.iconst 3, 1) := by decide +kernel
theorem dX11_isSlot_3 : decode cX11_isSlot 3 = .ok (.invokestatic 45, 3) := by decide +kernel
theorem dX11_isSlot_6 : decode cX11_isSlot 6 = .ok (.ireturn, 1) := by decide +kernel
theorem dX11_isSet_0 : decode cX11_isSet 0 = .ok (.iload_n 0, 1) := by decide +kernel
theorem dX11_isSet_1 : decode cX11_isSet 1 = .ok (.iconst 0, 1) := by decide +kernel
theorem dX11_isSet_2 : decode cX11_isSet 2 = .ok (.sipush 255, 3) := by decide +kernel
theorem dX11_isSet_5 : decode cX11_isSet 5 = .ok (.invokestatic 45, 3) := by decide +kernel
theorem dX11_isSet_8 : decode cX11_isSet 8 = .ok (.ireturn, 1) := by decide +kernel
theorem dX11_isPlace_0 : decode cX11_isPlace 0 = .ok (.iload_n 0, 1) := by decide +kernel
theorem dX11_isPlace_1 : decode cX11_isPlace 1 = .ok (.iconst 1, 1) := by decide +kernel
theorem dX11_isPlace_2 : decode cX11_isPlace 2 = .ok (.bipush 24, 2) := by decide +kernel
theorem dX11_isPlace_4 : decode cX11_isPlace 4 = .ok (.invokestatic 45, 3) := by decide +kernel
theorem dX11_isPlace_7 : decode cX11_isPlace 7 = .ok (.ireturn, 1) := by decide +kernel
theorem dX11_of_0 : decode cX11_of 0 = .ok (.aload_n 0, 1) := by decide +kernel
theorem dX11_of_1 : decode cX11_of 1 = .ok (.getfield 7, 3) := by decide +kernel
theorem dX11_of_4 : decode cX11_of 4 = .ok (.bipush 38, 2) := by decide +kernel
theorem dX11_of_6 : decode cX11_of 6 = .ok (.bipush 124, 2) := by decide +kernel
theorem dX11_of_8 : decode cX11_of 8 = .ok (.iload_n 1, 1) := by decide +kernel
theorem dX11_of_9 : decode cX11_of 9 = .ok (.imul, 1) := by decide +kernel
theorem dX11_of_10 : decode cX11_of 10 = .ok (.iadd, 1) := by decide +kernel
theorem dX11_of_11 : decode cX11_of 11 = .ok (.iload_n 2, 1) := by decide +kernel
theorem dX11_of_12 : decode cX11_of 12 = .ok (.iadd, 1) := by decide +kernel
theorem dX11_of_13 : decode cX11_of 13 = .ok (.iaload, 1) := by decide +kernel
theorem dX11_of_14 : decode cX11_of 14 = .ok (.ireturn, 1) := by decide +kernel
theorem dX11_sets_0 : decode cX11_sets 0 = .ok (.aload_n 0, 1) := by decide +kernel
theorem dX11_sets_1 : decode cX11_sets 1 = .ok (.getfield 7, 3) := by decide +kernel
theorem dX11_sets_4 : decode cX11_sets 4 = .ok (.bipush 38, 2) := by decide +kernel
theorem dX11_sets_6 : decode cX11_sets 6 = .ok (.bipush 124, 2) := by decide +kernel
theorem dX11_sets_8 : decode cX11_sets 8 = .ok (.iload_n 1, 1) := by decide +kernel
theorem dX11_sets_9 : decode cX11_sets 9 = .ok (.imul, 1) := by decide +kernel
theorem dX11_sets_10 : decode cX11_sets 10 = .ok (.iadd, 1) := by decide +kernel
theorem dX11_sets_11 : decode cX11_sets 11 = .ok (.iload_n 2, 1) := by decide +kernel
theorem dX11_sets_12 : decode cX11_sets 12 = .ok (.iadd, 1) := by decide +kernel
theorem dX11_sets_13 : decode cX11_sets 13 = .ok (.iload_n 3, 1) := by decide +kernel
theorem dX11_sets_14 : decode cX11_sets 14 = .ok (.iastore, 1) := by decide +kernel
theorem dX11_sets_15 : decode cX11_sets 15 = .ok (.return_, 1) := by decide +kernel
theorem dX11_shareOf_0 : decode cX11_shareOf 0 = .ok (.aload_n 0, 1) := by decide +kernel
theorem dX11_shareOf_1 : decode cX11_shareOf 1 = .ok (.iload_n 1, 1) := by decide +kernel
theorem dX11_shareOf_2 : decode cX11_shareOf 2 = .ok (.bipush 52, 2) := by decide +kernel
theorem dX11_shareOf_4 : decode cX11_shareOf 4 = .ok (.iconst 3, 1) := by decide +kernel
theorem dX11_shareOf_5 : decode cX11_shareOf 5 = .ok (.iload_n 2, 1) := by decide +kernel
theorem dX11_shareOf_6 : decode cX11_shareOf 6 = .ok (.iconst 1, 1) := by decide +kernel
theorem dX11_shareOf_7 : decode cX11_shareOf 7 = .ok (.isub, 1) := by decide +kernel
theorem dX11_shareOf_8 : decode cX11_shareOf 8 = .ok (.imul, 1) := by decide +kernel
theorem dX11_shareOf_9 : decode cX11_shareOf 9 = .ok (.iadd, 1) := by decide +kernel
theorem dX11_shareOf_10 : decode cX11_shareOf 10 = .ok (.iload_n 3, 1) := by decide +kernel
theorem dX11_shareOf_11 : decode cX11_shareOf 11 = .ok (.iadd, 1) := by decide +kernel
theorem dX11_shareOf_12 : decode cX11_shareOf 12 = .ok (.invokevirtual 49, 3) := by decide +kernel
theorem dX11_shareOf_15 : decode cX11_shareOf 15 = .ok (.ireturn, 1) := by decide +kernel
theorem dX11_setsShare_0 : decode cX11_setsShare 0 = .ok (.aload_n 0, 1) := by decide +kernel
theorem dX11_setsShare_1 : decode cX11_setsShare 1 = .ok (.iload_n 1, 1) := by decide +kernel
theorem dX11_setsShare_2 : decode cX11_setsShare 2 = .ok (.bipush 52, 2) := by decide +kernel
theorem dX11_setsShare_4 : decode cX11_setsShare 4 = .ok (.iconst 3, 1) := by decide +kernel
theorem dX11_setsShare_5 : decode cX11_setsShare 5 = .ok (.iload_n 2, 1) := by decide +kernel
theorem dX11_setsShare_6 : decode cX11_setsShare 6 = .ok (.iconst 1, 1) := by decide +kernel
theorem dX11_setsShare_7 : decode cX11_setsShare 7 = .ok (.isub, 1) := by decide +kernel
theorem dX11_setsShare_8 : decode cX11_setsShare 8 = .ok (.imul, 1) := by decide +kernel
theorem dX11_setsShare_9 : decode cX11_setsShare 9 = .ok (.iadd, 1) := by decide +kernel
theorem dX11_setsShare_10 : decode cX11_setsShare 10 = .ok (.iconst 1, 1) := by decide +kernel
theorem dX11_setsShare_11 : decode cX11_setsShare 11 = .ok (.invokevirtual 53, 3) := by decide +kernel
theorem dX11_setsShare_14 : decode cX11_setsShare 14 = .ok (.aload_n 0, 1) := by decide +kernel
theorem dX11_setsShare_15 : decode cX11_setsShare 15 = .ok (.iload_n 1, 1) := by decide +kernel
theorem dX11_setsShare_16 : decode cX11_setsShare 16 = .ok (.bipush 52, 2) := by decide +kernel
theorem dX11_setsShare_18 : decode cX11_setsShare 18 = .ok (.iconst 3, 1) := by decide +kernel
theorem dX11_setsShare_19 : decode cX11_setsShare 19 = .ok (.iload_n 2, 1) := by decide +kernel
theorem dX11_setsShare_20 : decode cX11_setsShare 20 = .ok (.iconst 1, 1) := by decide +kernel
theorem dX11_setsShare_21 : decode cX11_setsShare 21 = .ok (.isub, 1) := by decide +kernel
theorem dX11_setsShare_22 : decode cX11_setsShare 22 = .ok (.imul, 1) := by decide +kernel
theorem dX11_setsShare_23 : decode cX11_setsShare 23 = .ok (.iadd, 1) := by decide +kernel
theorem dX11_setsShare_24 : decode cX11_setsShare 24 = .ok (.iconst 1, 1) := by decide +kernel
theorem dX11_setsShare_25 : decode cX11_setsShare 25 = .ok (.iadd, 1) := by decide +kernel
theorem dX11_setsShare_26 : decode cX11_setsShare 26 = .ok (.iload_n 3, 1) := by decide +kernel
theorem dX11_setsShare_27 : decode cX11_setsShare 27 = .ok (.invokevirtual 53, 3) := by decide +kernel
theorem dX11_setsShare_30 : decode cX11_setsShare 30 = .ok (.aload_n 0, 1) := by decide +kernel
theorem dX11_setsShare_31 : decode cX11_setsShare 31 = .ok (.iload_n 1, 1) := by decide +kernel
theorem dX11_setsShare_32 : decode cX11_setsShare 32 = .ok (.bipush 52, 2) := by decide +kernel
theorem dX11_setsShare_34 : decode cX11_setsShare 34 = .ok (.iconst 3, 1) := by decide +kernel
theorem dX11_setsShare_35 : decode cX11_setsShare 35 = .ok (.iload_n 2, 1) := by decide +kernel
theorem dX11_setsShare_36 : decode cX11_setsShare 36 = .ok (.iconst 1, 1) := by decide +kernel
theorem dX11_setsShare_37 : decode cX11_setsShare 37 = .ok (.isub, 1) := by decide +kernel
theorem dX11_setsShare_38 : decode cX11_setsShare 38 = .ok (.imul, 1) := by decide +kernel
theorem dX11_setsShare_39 : decode cX11_setsShare 39 = .ok (.iadd, 1) := by decide +kernel
theorem dX11_setsShare_40 : decode cX11_setsShare 40 = .ok (.iconst 2, 1) := by decide +kernel
theorem dX11_setsShare_41 : decode cX11_setsShare 41 = .ok (.iadd, 1) := by decide +kernel
theorem dX11_setsShare_42 : decode cX11_setsShare 42 = .ok (.iload 4, 2) := by decide +kernel
theorem dX11_setsShare_44 : decode cX11_setsShare 44 = .ok (.invokevirtual 53, 3) := by decide +kernel
theorem dX11_setsShare_47 : decode cX11_setsShare 47 = .ok (.return_, 1) := by decide +kernel
theorem dX11_removes_0 : decode cX11_removes 0 = .ok (.iconst 0, 1) := by decide +kernel
theorem dX11_removes_1 : decode cX11_removes 1 = .ok (.istore_n 3, 1) := by decide +kernel
theorem dX11_removes_2 : decode cX11_removes 2 = .ok (.iload_n 3, 1) := by decide +kernel
theorem dX11_removes_3 : decode cX11_removes 3 = .ok (.iconst 3, 1) := by decide +kernel
theorem dX11_removes_4 : decode cX11_removes 4 = .ok (.if_icmp .ge 25, 3) := by decide +kernel
theorem dX11_removes_7 : decode cX11_removes 7 = .ok (.aload_n 0, 1) := by decide +kernel
theorem dX11_removes_8 : decode cX11_removes 8 = .ok (.iload_n 1, 1) := by decide +kernel
theorem dX11_removes_9 : decode cX11_removes 9 = .ok (.bipush 52, 2) := by decide +kernel
theorem dX11_removes_11 : decode cX11_removes 11 = .ok (.iconst 3, 1) := by decide +kernel
theorem dX11_removes_12 : decode cX11_removes 12 = .ok (.iload_n 2, 1) := by decide +kernel
theorem dX11_removes_13 : decode cX11_removes 13 = .ok (.iconst 1, 1) := by decide +kernel
theorem dX11_removes_14 : decode cX11_removes 14 = .ok (.isub, 1) := by decide +kernel
theorem dX11_removes_15 : decode cX11_removes 15 = .ok (.imul, 1) := by decide +kernel
theorem dX11_removes_16 : decode cX11_removes 16 = .ok (.iadd, 1) := by decide +kernel
theorem dX11_removes_17 : decode cX11_removes 17 = .ok (.iload_n 3, 1) := by decide +kernel
theorem dX11_removes_18 : decode cX11_removes 18 = .ok (.iadd, 1) := by decide +kernel
theorem dX11_removes_19 : decode cX11_removes 19 = .ok (.iconst 0, 1) := by decide +kernel
theorem dX11_removes_20 : decode cX11_removes 20 = .ok (.invokevirtual 53, 3) := by decide +kernel
theorem dX11_removes_23 : decode cX11_removes 23 = .ok (.iinc 3 1, 3) := by decide +kernel
theorem dX11_removes_26 : decode cX11_removes 26 = .ok (.goto (-24), 3) := by decide +kernel
theorem dX11_removes_29 : decode cX11_removes 29 = .ok (.return_, 1) := by decide +kernel
theorem dX11_hasShare_0 : decode cX11_hasShare 0 = .ok (.aload_n 0, 1) := by decide +kernel
theorem dX11_hasShare_1 : decode cX11_hasShare 1 = .ok (.iload_n 1, 1) := by decide +kernel
theorem dX11_hasShare_2 : decode cX11_hasShare 2 = .ok (.iload_n 2, 1) := by decide +kernel
theorem dX11_hasShare_3 : decode cX11_hasShare 3 = .ok (.iconst 0, 1) := by decide +kernel
theorem dX11_hasShare_4 : decode cX11_hasShare 4 = .ok (.invokevirtual 57, 3) := by decide +kernel
theorem dX11_hasShare_7 : decode cX11_hasShare 7 = .ok (.iconst 1, 1) := by decide +kernel
theorem dX11_hasShare_8 : decode cX11_hasShare 8 = .ok (.if_icmp .ne 7, 3) := by decide +kernel
theorem dX11_hasShare_11 : decode cX11_hasShare 11 = .ok (.iconst 1, 1) := by decide +kernel
theorem dX11_hasShare_12 : decode cX11_hasShare 12 = .ok (.goto 4, 3) := by decide +kernel
theorem dX11_hasShare_15 : decode cX11_hasShare 15 = .ok (.iconst 0, 1) := by decide +kernel
theorem dX11_hasShare_16 : decode cX11_hasShare 16 = .ok (.ireturn, 1) := by decide +kernel
theorem dX11_owner_0 : decode cX11_owner 0 = .ok (.iload_n 0, 1) := by decide +kernel
theorem dX11_owner_1 : decode cX11_owner 1 = .ok (.iconst 1, 1) := by decide +kernel
theorem dX11_owner_2 : decode cX11_owner 2 = .ok (.isub, 1) := by decide +kernel
theorem dX11_owner_3 : decode cX11_owner 3 = .ok (.iconst 3, 1) := by decide +kernel
theorem dX11_owner_4 : decode cX11_owner 4 = .ok (.idiv, 1) := by decide +kernel
theorem dX11_owner_5 : decode cX11_owner 5 = .ok (.ireturn, 1) := by decide +kernel
theorem dX11_isUsed_0 : decode cX11_isUsed 0 = .ok (.iload_n 1, 1) := by decide +kernel
theorem dX11_isUsed_1 : decode cX11_isUsed 1 = .ok (.iconst 1, 1) := by decide +kernel
theorem dX11_isUsed_2 : decode cX11_isUsed 2 = .ok (.isub, 1) := by decide +kernel
theorem dX11_isUsed_3 : decode cX11_isUsed 3 = .ok (.iconst 3, 1) := by decide +kernel
theorem dX11_isUsed_4 : decode cX11_isUsed 4 = .ok (.irem, 1) := by decide +kernel
theorem dX11_isUsed_5 : decode cX11_isUsed 5 = .ok (.aload_n 0, 1) := by decide +kernel
theorem dX11_isUsed_6 : decode cX11_isUsed 6 = .ok (.getfield 7, 3) := by decide +kernel
theorem dX11_isUsed_9 : decode cX11_isUsed 9 = .ok (.iconst 1, 1) := by decide +kernel
theorem dX11_isUsed_10 : decode cX11_isUsed 10 = .ok (.iload_n 1, 1) := by decide +kernel
theorem dX11_isUsed_11 : decode cX11_isUsed 11 = .ok (.invokestatic 61, 3) := by decide +kernel
theorem dX11_isUsed_14 : decode cX11_isUsed 14 = .ok (.iadd, 1) := by decide +kernel
theorem dX11_isUsed_15 : decode cX11_isUsed 15 = .ok (.iaload, 1) := by decide +kernel
theorem dX11_isUsed_16 : decode cX11_isUsed 16 = .ok (.if_icmp .ge 7, 3) := by decide +kernel
theorem dX11_isUsed_19 : decode cX11_isUsed 19 = .ok (.iconst 1, 1) := by decide +kernel
theorem dX11_isUsed_20 : decode cX11_isUsed 20 = .ok (.goto 4, 3) := by decide +kernel
theorem dX11_isUsed_23 : decode cX11_isUsed 23 = .ok (.iconst 0, 1) := by decide +kernel
theorem dX11_isUsed_24 : decode cX11_isUsed 24 = .ok (.ireturn, 1) := by decide +kernel
theorem dX11_isPresent_0 : decode cX11_isPresent 0 = .ok (.aload_n 0, 1) := by decide +kernel
theorem dX11_isPresent_1 : decode cX11_isPresent 1 = .ok (.getfield 7, 3) := by decide +kernel
theorem dX11_isPresent_4 : decode cX11_isPresent 4 = .ok (.bipush 9, 2) := by decide +kernel
theorem dX11_isPresent_6 : decode cX11_isPresent 6 = .ok (.iload_n 1, 1) := by decide +kernel
theorem dX11_isPresent_7 : decode cX11_isPresent 7 = .ok (.iadd, 1) := by decide +kernel
theorem dX11_isPresent_8 : decode cX11_isPresent 8 = .ok (.iaload, 1) := by decide +kernel
theorem dX11_isPresent_9 : decode cX11_isPresent 9 = .ok (.iconst 1, 1) := by decide +kernel
theorem dX11_isPresent_10 : decode cX11_isPresent 10 = .ok (.if_icmp .ne 7, 3) := by decide +kernel
theorem dX11_isPresent_13 : decode cX11_isPresent 13 = .ok (.iconst 1, 1) := by decide +kernel
theorem dX11_isPresent_14 : decode cX11_isPresent 14 = .ok (.goto 4, 3) := by decide +kernel
theorem dX11_isPresent_17 : decode cX11_isPresent 17 = .ok (.iconst 0, 1) := by decide +kernel
theorem dX11_isPresent_18 : decode cX11_isPresent 18 = .ok (.ireturn, 1) := by decide +kernel
theorem dX11_happens_0 : decode cX11_happens 0 = .ok (.bipush 19, 2) := by decide +kernel
theorem dX11_happens_2 : decode cX11_happens 2 = .ok (.istore_n 2, 1) := by decide +kernel
theorem dX11_happens_3 : decode cX11_happens 3 = .ok (.iload_n 2, 1) := by decide +kernel
theorem dX11_happens_4 : decode cX11_happens 4 = .ok (.ifCond .le 29, 3) := by decide +kernel
theorem dX11_happens_7 : decode cX11_happens 7 = .ok (.aload_n 0, 1) := by decide +kernel
theorem dX11_happens_8 : decode cX11_happens 8 = .ok (.getfield 7, 3) := by decide +kernel
theorem dX11_happens_11 : decode cX11_happens 11 = .ok (.bipush 18, 2) := by decide +kernel
theorem dX11_happens_13 : decode cX11_happens 13 = .ok (.iload_n 2, 1) := by decide +kernel
theorem dX11_happens_14 : decode cX11_happens 14 = .ok (.iadd, 1) := by decide +kernel
theorem dX11_happens_15 : decode cX11_happens 15 = .ok (.aload_n 0, 1) := by decide +kernel
theorem dX11_happens_16 : decode cX11_happens 16 = .ok (.getfield 7, 3) := by decide +kernel
theorem dX11_happens_19 : decode cX11_happens 19 = .ok (.bipush 18, 2) := by decide +kernel
theorem dX11_happens_21 : decode cX11_happens 21 = .ok (.iload_n 2, 1) := by decide +kernel
theorem dX11_happens_22 : decode cX11_happens 22 = .ok (.iadd, 1) := by decide +kernel
theorem dX11_happens_23 : decode cX11_happens 23 = .ok (.iconst 1, 1) := by decide +kernel
theorem dX11_happens_24 : decode cX11_happens 24 = .ok (.isub, 1) := by decide +kernel
theorem dX11_happens_25 : decode cX11_happens 25 = .ok (.iaload, 1) := by decide +kernel
theorem dX11_happens_26 : decode cX11_happens 26 = .ok (.iastore, 1) := by decide +kernel
theorem dX11_happens_27 : decode cX11_happens 27 = .ok (.iinc 2 (-1), 3) := by decide +kernel
theorem dX11_happens_30 : decode cX11_happens 30 = .ok (.goto (-27), 3) := by decide +kernel
theorem dX11_happens_33 : decode cX11_happens 33 = .ok (.aload_n 0, 1) := by decide +kernel
theorem dX11_happens_34 : decode cX11_happens 34 = .ok (.getfield 7, 3) := by decide +kernel
theorem dX11_happens_37 : decode cX11_happens 37 = .ok (.bipush 18, 2) := by decide +kernel
theorem dX11_happens_39 : decode cX11_happens 39 = .ok (.iload_n 1, 1) := by decide +kernel
theorem dX11_happens_40 : decode cX11_happens 40 = .ok (.iastore, 1) := by decide +kernel
theorem dX11_happens_41 : decode cX11_happens 41 = .ok (.aload_n 0, 1) := by decide +kernel
theorem dX11_happens_42 : decode cX11_happens 42 = .ok (.getfield 7, 3) := by decide +kernel
theorem dX11_happens_45 : decode cX11_happens 45 = .ok (.bipush 17, 2) := by decide +kernel
theorem dX11_happens_47 : decode cX11_happens 47 = .ok (.dup2, 1) := by decide +kernel
theorem dX11_happens_48 : decode cX11_happens 48 = .ok (.iaload, 1) := by decide +kernel
theorem dX11_happens_49 : decode cX11_happens 49 = .ok (.aload_n 0, 1) := by decide +kernel
theorem dX11_happens_50 : decode cX11_happens 50 = .ok (.getfield 7, 3) := by decide +kernel
theorem dX11_happens_53 : decode cX11_happens 53 = .ok (.bipush 17, 2) := by decide +kernel
theorem dX11_happens_55 : decode cX11_happens 55 = .ok (.iaload, 1) := by decide +kernel
theorem dX11_happens_56 : decode cX11_happens 56 = .ok (.bipush 20, 2) := by decide +kernel
theorem dX11_happens_58 : decode cX11_happens 58 = .ok (.if_icmp .ge 7, 3) := by decide +kernel
theorem dX11_happens_61 : decode cX11_happens 61 = .ok (.iconst 1, 1) := by decide +kernel
theorem dX11_happens_62 : decode cX11_happens 62 = .ok (.goto 4, 3) := by decide +kernel
theorem dX11_happens_65 : decode cX11_happens 65 = .ok (.iconst 0, 1) := by decide +kernel
theorem dX11_happens_66 : decode cX11_happens 66 = .ok (.iadd, 1) := by decide +kernel
theorem dX11_happens_67 : decode cX11_happens 67 = .ok (.iastore, 1) := by decide +kernel
theorem dX11_happens_68 : decode cX11_happens 68 = .ok (.return_, 1) := by decide +kernel
theorem dX11_power_0 : decode cX11_power 0 = .ok (.iconst 1, 1) := by decide +kernel
theorem dX11_power_1 : decode cX11_power 1 = .ok (.istore_n 3, 1) := by decide +kernel
theorem dX11_power_2 : decode cX11_power 2 = .ok (.iload_n 0, 1) := by decide +kernel
theorem dX11_power_3 : decode cX11_power 3 = .ok (.iload_n 2, 1) := by decide +kernel
theorem dX11_power_4 : decode cX11_power 4 = .ok (.irem, 1) := by decide +kernel
theorem dX11_power_5 : decode cX11_power 5 = .ok (.istore 4, 2) := by decide +kernel
theorem dX11_power_7 : decode cX11_power 7 = .ok (.iload_n 1, 1) := by decide +kernel
theorem dX11_power_8 : decode cX11_power 8 = .ok (.istore 5, 2) := by decide +kernel
theorem dX11_power_10 : decode cX11_power 10 = .ok (.iload 5, 2) := by decide +kernel
theorem dX11_power_12 : decode cX11_power 12 = .ok (.ifCond .le 40, 3) := by decide +kernel
theorem dX11_power_15 : decode cX11_power 15 = .ok (.iload 5, 2) := by decide +kernel
theorem dX11_power_17 : decode cX11_power 17 = .ok (.iconst 1, 1) := by decide +kernel
theorem dX11_power_18 : decode cX11_power 18 = .ok (.iand, 1) := by decide +kernel
theorem dX11_power_19 : decode cX11_power 19 = .ok (.iconst 1, 1) := by decide +kernel
theorem dX11_power_20 : decode cX11_power 20 = .ok (.if_icmp .ne 12, 3) := by decide +kernel
theorem dX11_power_23 : decode cX11_power 23 = .ok (.iload_n 3, 1) := by decide +kernel
theorem dX11_power_24 : decode cX11_power 24 = .ok (.iload 4, 2) := by decide +kernel
theorem dX11_power_26 : decode cX11_power 26 = .ok (.imul, 1) := by decide +kernel
theorem dX11_power_27 : decode cX11_power 27 = .ok (.iload_n 2, 1) := by decide +kernel
theorem dX11_power_28 : decode cX11_power 28 = .ok (.irem, 1) := by decide +kernel
theorem dX11_power_29 : decode cX11_power 29 = .ok (.goto 4, 3) := by decide +kernel
theorem dX11_power_32 : decode cX11_power 32 = .ok (.iload_n 3, 1) := by decide +kernel
theorem dX11_power_33 : decode cX11_power 33 = .ok (.istore_n 3, 1) := by decide +kernel
theorem dX11_power_34 : decode cX11_power 34 = .ok (.iload 4, 2) := by decide +kernel
theorem dX11_power_36 : decode cX11_power 36 = .ok (.iload 4, 2) := by decide +kernel
theorem dX11_power_38 : decode cX11_power 38 = .ok (.imul, 1) := by decide +kernel
theorem dX11_power_39 : decode cX11_power 39 = .ok (.iload_n 2, 1) := by decide +kernel
theorem dX11_power_40 : decode cX11_power 40 = .ok (.irem, 1) := by decide +kernel
theorem dX11_power_41 : decode cX11_power 41 = .ok (.istore 4, 2) := by decide +kernel
theorem dX11_power_43 : decode cX11_power 43 = .ok (.iload 5, 2) := by decide +kernel
theorem dX11_power_45 : decode cX11_power 45 = .ok (.iconst 1, 1) := by decide +kernel
theorem dX11_power_46 : decode cX11_power 46 = .ok (.ishr, 1) := by decide +kernel
theorem dX11_power_47 : decode cX11_power 47 = .ok (.istore 5, 2) := by decide +kernel
theorem dX11_power_49 : decode cX11_power 49 = .ok (.goto (-39), 3) := by decide +kernel
theorem dX11_power_52 : decode cX11_power 52 = .ok (.iload_n 3, 1) := by decide +kernel
theorem dX11_power_53 : decode cX11_power 53 = .ok (.ireturn, 1) := by decide +kernel
theorem dX11_inverse_0 : decode cX11_inverse 0 = .ok (.iload_n 0, 1) := by decide +kernel
theorem dX11_inverse_1 : decode cX11_inverse 1 = .ok (.sipush 1017, 3) := by decide +kernel
theorem dX11_inverse_4 : decode cX11_inverse 4 = .ok (.sipush 1019, 3) := by decide +kernel
theorem dX11_inverse_7 : decode cX11_inverse 7 = .ok (.invokestatic 65, 3) := by decide +kernel
theorem dX11_inverse_10 : decode cX11_inverse 10 = .ok (.ireturn, 1) := by decide +kernel
theorem dX11_drawn_0 : decode cX11_drawn 0 = .ok (.aload_n 0, 1) := by decide +kernel
theorem dX11_drawn_1 : decode cX11_drawn 1 = .ok (.getfield 7, 3) := by decide +kernel
theorem dX11_drawn_4 : decode cX11_drawn 4 = .ok (.iconst 0, 1) := by decide +kernel
theorem dX11_drawn_5 : decode cX11_drawn 5 = .ok (.aload_n 0, 1) := by decide +kernel
theorem dX11_drawn_6 : decode cX11_drawn 6 = .ok (.getfield 7, 3) := by decide +kernel
theorem dX11_drawn_9 : decode cX11_drawn 9 = .ok (.iconst 0, 1) := by decide +kernel
theorem dX11_drawn_10 : decode cX11_drawn 10 = .ok (.iaload, 1) := by decide +kernel
theorem dX11_drawn_11 : decode cX11_drawn 11 = .ok (.ldc 68, 2) := by decide +kernel
theorem dX11_drawn_13 : decode cX11_drawn 13 = .ok (.imul, 1) := by decide +kernel
theorem dX11_drawn_14 : decode cX11_drawn 14 = .ok (.sipush 12345, 3) := by decide +kernel
theorem dX11_drawn_17 : decode cX11_drawn 17 = .ok (.iadd, 1) := by decide +kernel
theorem dX11_drawn_18 : decode cX11_drawn 18 = .ok (.iastore, 1) := by decide +kernel
theorem dX11_drawn_19 : decode cX11_drawn 19 = .ok (.aload_n 0, 1) := by decide +kernel
theorem dX11_drawn_20 : decode cX11_drawn 20 = .ok (.getfield 7, 3) := by decide +kernel
theorem dX11_drawn_23 : decode cX11_drawn 23 = .ok (.iconst 0, 1) := by decide +kernel
theorem dX11_drawn_24 : decode cX11_drawn 24 = .ok (.iaload, 1) := by decide +kernel
theorem dX11_drawn_25 : decode cX11_drawn 25 = .ok (.bipush 16, 2) := by decide +kernel
theorem dX11_drawn_27 : decode cX11_drawn 27 = .ok (.iushr, 1) := by decide +kernel
theorem dX11_drawn_28 : decode cX11_drawn 28 = .ok (.sipush 1019, 3) := by decide +kernel
theorem dX11_drawn_31 : decode cX11_drawn 31 = .ok (.irem, 1) := by decide +kernel
theorem dX11_drawn_32 : decode cX11_drawn 32 = .ok (.ireturn, 1) := by decide +kernel
theorem dX11_seed_0 : decode cX11_seed 0 = .ok (.aload_n 0, 1) := by decide +kernel
theorem dX11_seed_1 : decode cX11_seed 1 = .ok (.getfield 7, 3) := by decide +kernel
theorem dX11_seed_4 : decode cX11_seed 4 = .ok (.iconst 0, 1) := by decide +kernel
theorem dX11_seed_5 : decode cX11_seed 5 = .ok (.iaload, 1) := by decide +kernel
theorem dX11_seed_6 : decode cX11_seed 6 = .ok (.istore_n 2, 1) := by decide +kernel
theorem dX11_seed_7 : decode cX11_seed 7 = .ok (.aload_n 0, 1) := by decide +kernel
theorem dX11_seed_8 : decode cX11_seed 8 = .ok (.getfield 7, 3) := by decide +kernel
theorem dX11_seed_11 : decode cX11_seed 11 = .ok (.iconst 0, 1) := by decide +kernel
theorem dX11_seed_12 : decode cX11_seed 12 = .ok (.iload_n 1, 1) := by decide +kernel
theorem dX11_seed_13 : decode cX11_seed 13 = .ok (.iastore, 1) := by decide +kernel
theorem dX11_seed_14 : decode cX11_seed 14 = .ok (.aload_n 0, 1) := by decide +kernel
theorem dX11_seed_15 : decode cX11_seed 15 = .ok (.iload_n 2, 1) := by decide +kernel
theorem dX11_seed_16 : decode cX11_seed 16 = .ok (.invokevirtual 69, 3) := by decide +kernel
theorem dX11_seed_19 : decode cX11_seed 19 = .ok (.ireturn, 1) := by decide +kernel
theorem dX11_draw_0 : decode cX11_draw 0 = .ok (.aload_n 0, 1) := by decide +kernel
theorem dX11_draw_1 : decode cX11_draw 1 = .ok (.aload_n 0, 1) := by decide +kernel
theorem dX11_draw_2 : decode cX11_draw 2 = .ok (.invokevirtual 72, 3) := by decide +kernel
theorem dX11_draw_5 : decode cX11_draw 5 = .ok (.invokevirtual 69, 3) := by decide +kernel
theorem dX11_draw_8 : decode cX11_draw 8 = .ok (.ireturn, 1) := by decide +kernel
theorem dX11_setWeight_0 : decode cX11_setWeight 0 = .ok (.iload_n 1, 1) := by decide +kernel
theorem dX11_setWeight_1 : decode cX11_setWeight 1 = .ok (.invokestatic 76, 3) := by decide +kernel
theorem dX11_setWeight_4 : decode cX11_setWeight 4 = .ok (.ifCond .ne 9, 3) := by decide +kernel
theorem dX11_setWeight_7 : decode cX11_setWeight 7 = .ok (.aload_n 0, 1) := by decide +kernel
theorem dX11_setWeight_8 : decode cX11_setWeight 8 = .ok (.iconst 1, 1) := by decide +kernel
theorem dX11_setWeight_9 : decode cX11_setWeight 9 = .ok (.invokevirtual 80, 3) := by decide +kernel
theorem dX11_setWeight_12 : decode cX11_setWeight 12 = .ok (.ireturn, 1) := by decide +kernel
theorem dX11_setWeight_13 : decode cX11_setWeight 13 = .ok (.iload_n 2, 1) := by decide +kernel
theorem dX11_setWeight_14 : decode cX11_setWeight 14 = .ok (.iconst 0, 1) := by decide +kernel
theorem dX11_setWeight_15 : decode cX11_setWeight 15 = .ok (.iconst 3, 1) := by decide +kernel
theorem dX11_setWeight_16 : decode cX11_setWeight 16 = .ok (.invokestatic 45, 3) := by decide +kernel
theorem dX11_setWeight_19 : decode cX11_setWeight 19 = .ok (.ifCond .ne 9, 3) := by decide +kernel
theorem dX11_setWeight_22 : decode cX11_setWeight 22 = .ok (.aload_n 0, 1) := by decide +kernel
theorem dX11_setWeight_23 : decode cX11_setWeight 23 = .ok (.iconst 2, 1) := by decide +kernel
theorem dX11_setWeight_24 : decode cX11_setWeight 24 = .ok (.invokevirtual 80, 3) := by decide +kernel
theorem dX11_setWeight_27 : decode cX11_setWeight 27 = .ok (.ireturn, 1) := by decide +kernel
theorem dX11_setWeight_28 : decode cX11_setWeight 28 = .ok (.aload_n 0, 1) := by decide +kernel
theorem dX11_setWeight_29 : decode cX11_setWeight 29 = .ok (.getfield 7, 3) := by decide +kernel
theorem dX11_setWeight_32 : decode cX11_setWeight 32 = .ok (.iconst 1, 1) := by decide +kernel
theorem dX11_setWeight_33 : decode cX11_setWeight 33 = .ok (.iload_n 1, 1) := by decide +kernel
theorem dX11_setWeight_34 : decode cX11_setWeight 34 = .ok (.iadd, 1) := by decide +kernel
theorem dX11_setWeight_35 : decode cX11_setWeight 35 = .ok (.iaload, 1) := by decide +kernel
theorem dX11_setWeight_36 : decode cX11_setWeight 36 = .ok (.istore_n 3, 1) := by decide +kernel
theorem dX11_setWeight_37 : decode cX11_setWeight 37 = .ok (.aload_n 0, 1) := by decide +kernel
theorem dX11_setWeight_38 : decode cX11_setWeight 38 = .ok (.getfield 7, 3) := by decide +kernel
theorem dX11_setWeight_41 : decode cX11_setWeight 41 = .ok (.iconst 1, 1) := by decide +kernel
theorem dX11_setWeight_42 : decode cX11_setWeight 42 = .ok (.iload_n 1, 1) := by decide +kernel
theorem dX11_setWeight_43 : decode cX11_setWeight 43 = .ok (.iadd, 1) := by decide +kernel
theorem dX11_setWeight_44 : decode cX11_setWeight 44 = .ok (.iload_n 2, 1) := by decide +kernel
theorem dX11_setWeight_45 : decode cX11_setWeight 45 = .ok (.iastore, 1) := by decide +kernel
theorem dX11_setWeight_46 : decode cX11_setWeight 46 = .ok (.aload_n 0, 1) := by decide +kernel
theorem dX11_setWeight_47 : decode cX11_setWeight 47 = .ok (.iload_n 3, 1) := by decide +kernel
theorem dX11_setWeight_48 : decode cX11_setWeight 48 = .ok (.invokevirtual 69, 3) := by decide +kernel
theorem dX11_setWeight_51 : decode cX11_setWeight 51 = .ok (.ireturn, 1) := by decide +kernel
theorem dX11_setPresent_0 : decode cX11_setPresent 0 = .ok (.aload_n 0, 1) := by decide +kernel
theorem dX11_setPresent_1 : decode cX11_setPresent 1 = .ok (.iload_n 1, 1) := by decide +kernel
theorem dX11_setPresent_2 : decode cX11_setPresent 2 = .ok (.invokestatic 76, 3) := by decide +kernel
theorem dX11_setPresent_5 : decode cX11_setPresent 5 = .ok (.ifCond .eq 7, 3) := by decide +kernel
theorem dX11_setPresent_8 : decode cX11_setPresent 8 = .ok (.iconst 0, 1) := by decide +kernel
theorem dX11_setPresent_9 : decode cX11_setPresent 9 = .ok (.goto 4, 3) := by decide +kernel
theorem dX11_setPresent_12 : decode cX11_setPresent 12 = .ok (.iconst 1, 1) := by decide +kernel
theorem dX11_setPresent_13 : decode cX11_setPresent 13 = .ok (.putfield 42, 3) := by decide +kernel
theorem dX11_setPresent_16 : decode cX11_setPresent 16 = .ok (.aload_n 0, 1) := by decide +kernel
theorem dX11_setPresent_17 : decode cX11_setPresent 17 = .ok (.getfield 42, 3) := by decide +kernel
theorem dX11_setPresent_20 : decode cX11_setPresent 20 = .ok (.ifCond .eq 5, 3) := by decide +kernel
theorem dX11_setPresent_23 : decode cX11_setPresent 23 = .ok (.iconst 0, 1) := by decide +kernel
theorem dX11_setPresent_24 : decode cX11_setPresent 24 = .ok (.ireturn, 1) := by decide +kernel
theorem dX11_setPresent_25 : decode cX11_setPresent 25 = .ok (.aload_n 0, 1) := by decide +kernel
theorem dX11_setPresent_26 : decode cX11_setPresent 26 = .ok (.iload_n 1, 1) := by decide +kernel
theorem dX11_setPresent_27 : decode cX11_setPresent 27 = .ok (.invokevirtual 83, 3) := by decide +kernel
theorem dX11_setPresent_30 : decode cX11_setPresent 30 = .ok (.istore_n 3, 1) := by decide +kernel
theorem dX11_setPresent_31 : decode cX11_setPresent 31 = .ok (.aload_n 0, 1) := by decide +kernel
theorem dX11_setPresent_32 : decode cX11_setPresent 32 = .ok (.getfield 7, 3) := by decide +kernel
theorem dX11_setPresent_35 : decode cX11_setPresent 35 = .ok (.bipush 9, 2) := by decide +kernel
theorem dX11_setPresent_37 : decode cX11_setPresent 37 = .ok (.iload_n 1, 1) := by decide +kernel
theorem dX11_setPresent_38 : decode cX11_setPresent 38 = .ok (.iadd, 1) := by decide +kernel
theorem dX11_setPresent_39 : decode cX11_setPresent 39 = .ok (.iload_n 2, 1) := by decide +kernel
theorem dX11_setPresent_40 : decode cX11_setPresent 40 = .ok (.ifCond .eq 7, 3) := by decide +kernel
theorem dX11_setPresent_43 : decode cX11_setPresent 43 = .ok (.iconst 1, 1) := by decide +kernel
theorem dX11_setPresent_44 : decode cX11_setPresent 44 = .ok (.goto 4, 3) := by decide +kernel
theorem dX11_setPresent_47 : decode cX11_setPresent 47 = .ok (.iconst 0, 1) := by decide +kernel
theorem dX11_setPresent_48 : decode cX11_setPresent 48 = .ok (.iastore, 1) := by decide +kernel
theorem dX11_setPresent_49 : decode cX11_setPresent 49 = .ok (.iload_n 3, 1) := by decide +kernel
theorem dX11_setPresent_50 : decode cX11_setPresent 50 = .ok (.ireturn, 1) := by decide +kernel
theorem dX11_member_0 : decode cX11_member 0 = .ok (.iload_n 1, 1) := by decide +kernel
theorem dX11_member_1 : decode cX11_member 1 = .ok (.invokestatic 76, 3) := by decide +kernel
theorem dX11_member_4 : decode cX11_member 4 = .ok (.ifCond .ne 9, 3) := by decide +kernel
theorem dX11_member_7 : decode cX11_member 7 = .ok (.aload_n 0, 1) := by decide +kernel
theorem dX11_member_8 : decode cX11_member 8 = .ok (.iconst 1, 1) := by decide +kernel
theorem dX11_member_9 : decode cX11_member 9 = .ok (.invokevirtual 80, 3) := by decide +kernel
theorem dX11_member_12 : decode cX11_member 12 = .ok (.ireturn, 1) := by decide +kernel
theorem dX11_member_13 : decode cX11_member 13 = .ok (.iload_n 2, 1) := by decide +kernel
theorem dX11_member_14 : decode cX11_member 14 = .ok (.iconst 0, 1) := by decide +kernel
theorem dX11_member_15 : decode cX11_member 15 = .ok (.iconst 3, 1) := by decide +kernel
theorem dX11_member_16 : decode cX11_member 16 = .ok (.invokestatic 45, 3) := by decide +kernel
theorem dX11_member_19 : decode cX11_member 19 = .ok (.ifCond .ne 9, 3) := by decide +kernel
theorem dX11_member_22 : decode cX11_member 22 = .ok (.aload_n 0, 1) := by decide +kernel
theorem dX11_member_23 : decode cX11_member 23 = .ok (.iconst 2, 1) := by decide +kernel
theorem dX11_member_24 : decode cX11_member 24 = .ok (.invokevirtual 80, 3) := by decide +kernel
theorem dX11_member_27 : decode cX11_member 27 = .ok (.ireturn, 1) := by decide +kernel
theorem dX11_member_28 : decode cX11_member 28 = .ok (.iload_n 2, 1) := by decide +kernel
theorem dX11_member_29 : decode cX11_member 29 = .ok (.iconst 2, 1) := by decide +kernel
theorem dX11_member_30 : decode cX11_member 30 = .ok (.if_icmp .ge 25, 3) := by decide +kernel
theorem dX11_member_33 : decode cX11_member 33 = .ok (.aload_n 0, 1) := by decide +kernel
theorem dX11_member_34 : decode cX11_member 34 = .ok (.aload_n 0, 1) := by decide +kernel
theorem dX11_member_35 : decode cX11_member 35 = .ok (.getfield 7, 3) := by decide +kernel
theorem dX11_member_38 : decode cX11_member 38 = .ok (.iload_n 2, 1) := by decide +kernel
theorem dX11_member_39 : decode cX11_member 39 = .ok (.ifCond .ne 7, 3) := by decide +kernel
theorem dX11_member_42 : decode cX11_member 42 = .ok (.iconst 1, 1) := by decide +kernel
theorem dX11_member_43 : decode cX11_member 43 = .ok (.goto 5, 3) := by decide +kernel
theorem dX11_member_46 : decode cX11_member 46 = .ok (.bipush 9, 2) := by decide +kernel
theorem dX11_member_48 : decode cX11_member 48 = .ok (.iload_n 1, 1) := by decide +kernel
theorem dX11_member_49 : decode cX11_member 49 = .ok (.iadd, 1) := by decide +kernel
theorem dX11_member_50 : decode cX11_member 50 = .ok (.iaload, 1) := by decide +kernel
theorem dX11_member_51 : decode cX11_member 51 = .ok (.invokevirtual 69, 3) := by decide +kernel
theorem dX11_member_54 : decode cX11_member 54 = .ok (.ireturn, 1) := by decide +kernel
theorem dX11_member_55 : decode cX11_member 55 = .ok (.iconst 0, 1) := by decide +kernel
theorem dX11_member_56 : decode cX11_member 56 = .ok (.istore_n 3, 1) := by decide +kernel
theorem dX11_member_57 : decode cX11_member 57 = .ok (.iconst 0, 1) := by decide +kernel
theorem dX11_member_58 : decode cX11_member 58 = .ok (.istore 4, 2) := by decide +kernel
theorem dX11_member_60 : decode cX11_member 60 = .ok (.iload 4, 2) := by decide +kernel
theorem dX11_member_62 : decode cX11_member 62 = .ok (.iconst 4, 1) := by decide +kernel
theorem dX11_member_63 : decode cX11_member 63 = .ok (.if_icmp .ge 67, 3) := by decide +kernel
theorem dX11_member_66 : decode cX11_member 66 = .ok (.iconst 3, 1) := by decide +kernel
theorem dX11_member_67 : decode cX11_member 67 = .ok (.iload_n 1, 1) := by decide +kernel
theorem dX11_member_68 : decode cX11_member 68 = .ok (.imul, 1) := by decide +kernel
theorem dX11_member_69 : decode cX11_member 69 = .ok (.iconst 1, 1) := by decide +kernel
theorem dX11_member_70 : decode cX11_member 70 = .ok (.iadd, 1) := by decide +kernel
theorem dX11_member_71 : decode cX11_member 71 = .ok (.istore 5, 2) := by decide +kernel
theorem dX11_member_73 : decode cX11_member 73 = .ok (.iload 5, 2) := by decide +kernel
theorem dX11_member_75 : decode cX11_member 75 = .ok (.iconst 3, 1) := by decide +kernel
theorem dX11_member_76 : decode cX11_member 76 = .ok (.iload_n 1, 1) := by decide +kernel
theorem dX11_member_77 : decode cX11_member 77 = .ok (.imul, 1) := by decide +kernel
theorem dX11_member_78 : decode cX11_member 78 = .ok (.iconst 3, 1) := by decide +kernel
theorem dX11_member_79 : decode cX11_member 79 = .ok (.iadd, 1) := by decide +kernel
theorem dX11_member_80 : decode cX11_member 80 = .ok (.if_icmp .gt 44, 3) := by decide +kernel
theorem dX11_member_83 : decode cX11_member 83 = .ok (.iload_n 3, 1) := by decide +kernel
theorem dX11_member_84 : decode cX11_member 84 = .ok (.aload_n 0, 1) := by decide +kernel
theorem dX11_member_85 : decode cX11_member 85 = .ok (.iload 4, 2) := by decide +kernel
theorem dX11_member_87 : decode cX11_member 87 = .ok (.iload 5, 2) := by decide +kernel
theorem dX11_member_89 : decode cX11_member 89 = .ok (.invokevirtual 86, 3) := by decide +kernel
theorem dX11_member_92 : decode cX11_member 92 = .ok (.ifCond .eq 23, 3) := by decide +kernel
theorem dX11_member_95 : decode cX11_member 95 = .ok (.iload_n 2, 1) := by decide +kernel
theorem dX11_member_96 : decode cX11_member 96 = .ok (.iconst 2, 1) := by decide +kernel
theorem dX11_member_97 : decode cX11_member 97 = .ok (.if_icmp .eq 14, 3) := by decide +kernel
theorem dX11_member_100 : decode cX11_member 100 = .ok (.aload_n 0, 1) := by decide +kernel
theorem dX11_member_101 : decode cX11_member 101 = .ok (.iload 4, 2) := by decide +kernel
theorem dX11_member_103 : decode cX11_member 103 = .ok (.iload 5, 2) := by decide +kernel
theorem dX11_member_105 : decode cX11_member 105 = .ok (.invokevirtual 90, 3) := by decide +kernel
theorem dX11_member_108 : decode cX11_member 108 = .ok (.ifCond .eq 7, 3) := by decide +kernel
theorem dX11_member_111 : decode cX11_member 111 = .ok (.iconst 1, 1) := by decide +kernel
theorem dX11_member_112 : decode cX11_member 112 = .ok (.goto 4, 3) := by decide +kernel
theorem dX11_member_115 : decode cX11_member 115 = .ok (.iconst 0, 1) := by decide +kernel
theorem dX11_member_116 : decode cX11_member 116 = .ok (.iadd, 1) := by decide +kernel
theorem dX11_member_117 : decode cX11_member 117 = .ok (.istore_n 3, 1) := by decide +kernel
theorem dX11_member_118 : decode cX11_member 118 = .ok (.iinc 5 1, 3) := by decide +kernel
theorem dX11_member_121 : decode cX11_member 121 = .ok (.goto (-48), 3) := by decide +kernel
theorem dX11_member_124 : decode cX11_member 124 = .ok (.iinc 4 1, 3) := by decide +kernel
theorem dX11_member_127 : decode cX11_member 127 = .ok (.goto (-67), 3) := by decide +kernel
theorem dX11_member_130 : decode cX11_member 130 = .ok (.aload_n 0, 1) := by decide +kernel
theorem dX11_member_131 : decode cX11_member 131 = .ok (.iload_n 3, 1) := by decide +kernel
theorem dX11_member_132 : decode cX11_member 132 = .ok (.invokevirtual 69, 3) := by decide +kernel
theorem dX11_member_135 : decode cX11_member 135 = .ok (.ireturn, 1) := by decide +kernel
theorem dX11_stateOf_0 : decode cX11_stateOf 0 = .ok (.aload_n 0, 1) := by decide +kernel
theorem dX11_stateOf_1 : decode cX11_stateOf 1 = .ok (.iload_n 1, 1) := by decide +kernel
theorem dX11_stateOf_2 : decode cX11_stateOf 2 = .ok (.iload_n 2, 1) := by decide +kernel
theorem dX11_stateOf_3 : decode cX11_stateOf 3 = .ok (.iconst 2, 1) := by decide +kernel
theorem dX11_stateOf_4 : decode cX11_stateOf 4 = .ok (.invokevirtual 57, 3) := by decide +kernel
theorem dX11_stateOf_7 : decode cX11_stateOf 7 = .ok (.aload_n 0, 1) := by decide +kernel
theorem dX11_stateOf_8 : decode cX11_stateOf 8 = .ok (.iload_n 1, 1) := by decide +kernel
theorem dX11_stateOf_9 : decode cX11_stateOf 9 = .ok (.iconst 2, 1) := by decide +kernel
theorem dX11_stateOf_10 : decode cX11_stateOf 10 = .ok (.invokevirtual 49, 3) := by decide +kernel
theorem dX11_stateOf_13 : decode cX11_stateOf 13 = .ok (.if_icmp .eq 5, 3) := by decide +kernel
theorem dX11_stateOf_16 : decode cX11_stateOf 16 = .ok (.iconst 1, 1) := by decide +kernel
theorem dX11_stateOf_17 : decode cX11_stateOf 17 = .ok (.ireturn, 1) := by decide +kernel
theorem dX11_stateOf_18 : decode cX11_stateOf 18 = .ok (.iconst 1, 1) := by decide +kernel
theorem dX11_stateOf_19 : decode cX11_stateOf 19 = .ok (.istore_n 3, 1) := by decide +kernel
theorem dX11_stateOf_20 : decode cX11_stateOf 20 = .ok (.iconst 1, 1) := by decide +kernel
theorem dX11_stateOf_21 : decode cX11_stateOf 21 = .ok (.istore 4, 2) := by decide +kernel
theorem dX11_stateOf_23 : decode cX11_stateOf 23 = .ok (.iconst 0, 1) := by decide +kernel
theorem dX11_stateOf_24 : decode cX11_stateOf 24 = .ok (.istore 5, 2) := by decide +kernel
theorem dX11_stateOf_26 : decode cX11_stateOf 26 = .ok (.iload 5, 2) := by decide +kernel
theorem dX11_stateOf_28 : decode cX11_stateOf 28 = .ok (.aload_n 0, 1) := by decide +kernel
theorem dX11_stateOf_29 : decode cX11_stateOf 29 = .ok (.iload_n 1, 1) := by decide +kernel
theorem dX11_stateOf_30 : decode cX11_stateOf 30 = .ok (.iconst 1, 1) := by decide +kernel
theorem dX11_stateOf_31 : decode cX11_stateOf 31 = .ok (.invokevirtual 49, 3) := by decide +kernel
theorem dX11_stateOf_34 : decode cX11_stateOf 34 = .ok (.if_icmp .ge 43, 3) := by decide +kernel
theorem dX11_stateOf_37 : decode cX11_stateOf 37 = .ok (.iload_n 3, 1) := by decide +kernel
theorem dX11_stateOf_38 : decode cX11_stateOf 38 = .ok (.aload_n 0, 1) := by decide +kernel
theorem dX11_stateOf_39 : decode cX11_stateOf 39 = .ok (.iload_n 1, 1) := by decide +kernel
theorem dX11_stateOf_40 : decode cX11_stateOf 40 = .ok (.iconst 3, 1) := by decide +kernel
theorem dX11_stateOf_41 : decode cX11_stateOf 41 = .ok (.iload 5, 2) := by decide +kernel
theorem dX11_stateOf_43 : decode cX11_stateOf 43 = .ok (.iadd, 1) := by decide +kernel
theorem dX11_stateOf_44 : decode cX11_stateOf 44 = .ok (.invokevirtual 49, 3) := by decide +kernel
theorem dX11_stateOf_47 : decode cX11_stateOf 47 = .ok (.iload 4, 2) := by decide +kernel
theorem dX11_stateOf_49 : decode cX11_stateOf 49 = .ok (.sipush 2039, 3) := by decide +kernel
theorem dX11_stateOf_52 : decode cX11_stateOf 52 = .ok (.invokestatic 65, 3) := by decide +kernel
theorem dX11_stateOf_55 : decode cX11_stateOf 55 = .ok (.imul, 1) := by decide +kernel
theorem dX11_stateOf_56 : decode cX11_stateOf 56 = .ok (.sipush 2039, 3) := by decide +kernel
theorem dX11_stateOf_59 : decode cX11_stateOf 59 = .ok (.irem, 1) := by decide +kernel
theorem dX11_stateOf_60 : decode cX11_stateOf 60 = .ok (.istore_n 3, 1) := by decide +kernel
theorem dX11_stateOf_61 : decode cX11_stateOf 61 = .ok (.iload 4, 2) := by decide +kernel
theorem dX11_stateOf_63 : decode cX11_stateOf 63 = .ok (.iload_n 2, 1) := by decide +kernel
theorem dX11_stateOf_64 : decode cX11_stateOf 64 = .ok (.imul, 1) := by decide +kernel
theorem dX11_stateOf_65 : decode cX11_stateOf 65 = .ok (.sipush 1019, 3) := by decide +kernel
theorem dX11_stateOf_68 : decode cX11_stateOf 68 = .ok (.irem, 1) := by decide +kernel
theorem dX11_stateOf_69 : decode cX11_stateOf 69 = .ok (.istore 4, 2) := by decide +kernel
theorem dX11_stateOf_71 : decode cX11_stateOf 71 = .ok (.iinc 5 1, 3) := by decide +kernel
theorem dX11_stateOf_74 : decode cX11_stateOf 74 = .ok (.goto (-48), 3) := by decide +kernel
theorem dX11_stateOf_77 : decode cX11_stateOf 77 = .ok (.iconst 4, 1) := by decide +kernel
theorem dX11_stateOf_78 : decode cX11_stateOf 78 = .ok (.aload_n 0, 1) := by decide +kernel
theorem dX11_stateOf_79 : decode cX11_stateOf 79 = .ok (.iload_n 1, 1) := by decide +kernel
theorem dX11_stateOf_80 : decode cX11_stateOf 80 = .ok (.iload_n 2, 1) := by decide +kernel
theorem dX11_stateOf_81 : decode cX11_stateOf 81 = .ok (.iconst 1, 1) := by decide +kernel
theorem dX11_stateOf_82 : decode cX11_stateOf 82 = .ok (.invokevirtual 57, 3) := by decide +kernel
theorem dX11_stateOf_85 : decode cX11_stateOf 85 = .ok (.sipush 2039, 3) := by decide +kernel
theorem dX11_stateOf_88 : decode cX11_stateOf 88 = .ok (.invokestatic 65, 3) := by decide +kernel
theorem dX11_stateOf_91 : decode cX11_stateOf 91 = .ok (.iload_n 3, 1) := by decide +kernel
theorem dX11_stateOf_92 : decode cX11_stateOf 92 = .ok (.if_icmp .ne 7, 3) := by decide +kernel
theorem dX11_stateOf_95 : decode cX11_stateOf 95 = .ok (.iconst 0, 1) := by decide +kernel
theorem dX11_stateOf_96 : decode cX11_stateOf 96 = .ok (.goto 4, 3) := by decide +kernel
theorem dX11_stateOf_99 : decode cX11_stateOf 99 = .ok (.iconst 2, 1) := by decide +kernel
theorem dX11_stateOf_100 : decode cX11_stateOf 100 = .ok (.ireturn, 1) := by decide +kernel
theorem dX11_isGood_0 : decode cX11_isGood 0 = .ok (.aload_n 0, 1) := by decide +kernel
theorem dX11_isGood_1 : decode cX11_isGood 1 = .ok (.iload_n 1, 1) := by decide +kernel
theorem dX11_isGood_2 : decode cX11_isGood 2 = .ok (.iload_n 2, 1) := by decide +kernel
theorem dX11_isGood_3 : decode cX11_isGood 3 = .ok (.invokevirtual 86, 3) := by decide +kernel
theorem dX11_isGood_6 : decode cX11_isGood 6 = .ok (.ifCond .eq 16, 3) := by decide +kernel
theorem dX11_isGood_9 : decode cX11_isGood 9 = .ok (.aload_n 0, 1) := by decide +kernel
theorem dX11_isGood_10 : decode cX11_isGood 10 = .ok (.iload_n 1, 1) := by decide +kernel
theorem dX11_isGood_11 : decode cX11_isGood 11 = .ok (.iload_n 2, 1) := by decide +kernel
theorem dX11_isGood_12 : decode cX11_isGood 12 = .ok (.invokevirtual 90, 3) := by decide +kernel
theorem dX11_isGood_15 : decode cX11_isGood 15 = .ok (.ifCond .ne 7, 3) := by decide +kernel
theorem dX11_isGood_18 : decode cX11_isGood 18 = .ok (.iconst 1, 1) := by decide +kernel
theorem dX11_isGood_19 : decode cX11_isGood 19 = .ok (.goto 4, 3) := by decide +kernel
theorem dX11_isGood_22 : decode cX11_isGood 22 = .ok (.iconst 0, 1) := by decide +kernel
theorem dX11_isGood_23 : decode cX11_isGood 23 = .ok (.ireturn, 1) := by decide +kernel
theorem dX11_polynomial_0 : decode cX11_polynomial 0 = .ok (.iconst 0, 1) := by decide +kernel
theorem dX11_polynomial_1 : decode cX11_polynomial 1 = .ok (.istore_n 3, 1) := by decide +kernel
theorem dX11_polynomial_2 : decode cX11_polynomial 2 = .ok (.iload_n 1, 1) := by decide +kernel
theorem dX11_polynomial_3 : decode cX11_polynomial 3 = .ok (.iconst 1, 1) := by decide +kernel
theorem dX11_polynomial_4 : decode cX11_polynomial 4 = .ok (.isub, 1) := by decide +kernel
theorem dX11_polynomial_5 : decode cX11_polynomial 5 = .ok (.istore 4, 2) := by decide +kernel
theorem dX11_polynomial_7 : decode cX11_polynomial 7 = .ok (.iload 4, 2) := by decide +kernel
theorem dX11_polynomial_9 : decode cX11_polynomial 9 = .ok (.ifCond .lt 25, 3) := by decide +kernel
theorem dX11_polynomial_12 : decode cX11_polynomial 12 = .ok (.iload_n 3, 1) := by decide +kernel
theorem dX11_polynomial_13 : decode cX11_polynomial 13 = .ok (.iload_n 2, 1) := by decide +kernel
theorem dX11_polynomial_14 : decode cX11_polynomial 14 = .ok (.imul, 1) := by decide +kernel
theorem dX11_polynomial_15 : decode cX11_polynomial 15 = .ok (.aload_n 0, 1) := by decide +kernel
theorem dX11_polynomial_16 : decode cX11_polynomial 16 = .ok (.getfield 16, 3) := by decide +kernel
theorem dX11_polynomial_19 : decode cX11_polynomial 19 = .ok (.iload 4, 2) := by decide +kernel
theorem dX11_polynomial_21 : decode cX11_polynomial 21 = .ok (.iaload, 1) := by decide +kernel
theorem dX11_polynomial_22 : decode cX11_polynomial 22 = .ok (.iadd, 1) := by decide +kernel
theorem dX11_polynomial_23 : decode cX11_polynomial 23 = .ok (.sipush 1019, 3) := by decide +kernel
theorem dX11_polynomial_26 : decode cX11_polynomial 26 = .ok (.irem, 1) := by decide +kernel
theorem dX11_polynomial_27 : decode cX11_polynomial 27 = .ok (.istore_n 3, 1) := by decide +kernel
theorem dX11_polynomial_28 : decode cX11_polynomial 28 = .ok (.iinc 4 (-1), 3) := by decide +kernel
theorem dX11_polynomial_31 : decode cX11_polynomial 31 = .ok (.goto (-24), 3) := by decide +kernel
theorem dX11_polynomial_34 : decode cX11_polynomial 34 = .ok (.iload_n 3, 1) := by decide +kernel
theorem dX11_polynomial_35 : decode cX11_polynomial 35 = .ok (.ireturn, 1) := by decide +kernel
theorem dX11_usedPlaces_0 : decode cX11_usedPlaces 0 = .ok (.iconst 0, 1) := by decide +kernel
theorem dX11_usedPlaces_1 : decode cX11_usedPlaces 1 = .ok (.istore_n 1, 1) := by decide +kernel
theorem dX11_usedPlaces_2 : decode cX11_usedPlaces 2 = .ok (.iconst 0, 1) := by decide +kernel
theorem dX11_usedPlaces_3 : decode cX11_usedPlaces 3 = .ok (.istore_n 2, 1) := by decide +kernel
theorem dX11_usedPlaces_4 : decode cX11_usedPlaces 4 = .ok (.iload_n 2, 1) := by decide +kernel
theorem dX11_usedPlaces_5 : decode cX11_usedPlaces 5 = .ok (.bipush 8, 2) := by decide +kernel
theorem dX11_usedPlaces_7 : decode cX11_usedPlaces 7 = .ok (.if_icmp .ge 32, 3) := by decide +kernel
theorem dX11_usedPlaces_10 : decode cX11_usedPlaces 10 = .ok (.iload_n 1, 1) := by decide +kernel
theorem dX11_usedPlaces_11 : decode cX11_usedPlaces 11 = .ok (.aload_n 0, 1) := by decide +kernel
theorem dX11_usedPlaces_12 : decode cX11_usedPlaces 12 = .ok (.iload_n 2, 1) := by decide +kernel
theorem dX11_usedPlaces_13 : decode cX11_usedPlaces 13 = .ok (.invokevirtual 83, 3) := by decide +kernel
theorem dX11_usedPlaces_16 : decode cX11_usedPlaces 16 = .ok (.ifCond .eq 14, 3) := by decide +kernel
theorem dX11_usedPlaces_19 : decode cX11_usedPlaces 19 = .ok (.aload_n 0, 1) := by decide +kernel
theorem dX11_usedPlaces_20 : decode cX11_usedPlaces 20 = .ok (.getfield 7, 3) := by decide +kernel
theorem dX11_usedPlaces_23 : decode cX11_usedPlaces 23 = .ok (.iconst 1, 1) := by decide +kernel
theorem dX11_usedPlaces_24 : decode cX11_usedPlaces 24 = .ok (.iload_n 2, 1) := by decide +kernel
theorem dX11_usedPlaces_25 : decode cX11_usedPlaces 25 = .ok (.iadd, 1) := by decide +kernel
theorem dX11_usedPlaces_26 : decode cX11_usedPlaces 26 = .ok (.iaload, 1) := by decide +kernel
theorem dX11_usedPlaces_27 : decode cX11_usedPlaces 27 = .ok (.goto 4, 3) := by decide +kernel
theorem dX11_usedPlaces_30 : decode cX11_usedPlaces 30 = .ok (.iconst 0, 1) := by decide +kernel
theorem dX11_usedPlaces_31 : decode cX11_usedPlaces 31 = .ok (.iadd, 1) := by decide +kernel
theorem dX11_usedPlaces_32 : decode cX11_usedPlaces 32 = .ok (.istore_n 1, 1) := by decide +kernel
theorem dX11_usedPlaces_33 : decode cX11_usedPlaces 33 = .ok (.iinc 2 1, 3) := by decide +kernel
theorem dX11_usedPlaces_36 : decode cX11_usedPlaces 36 = .ok (.goto (-32), 3) := by decide +kernel
theorem dX11_usedPlaces_39 : decode cX11_usedPlaces 39 = .ok (.iload_n 1, 1) := by decide +kernel
theorem dX11_usedPlaces_40 : decode cX11_usedPlaces 40 = .ok (.ireturn, 1) := by decide +kernel
theorem dX11_deals_0 : decode cX11_deals 0 = .ok (.aload_n 0, 1) := by decide +kernel
theorem dX11_deals_1 : decode cX11_deals 1 = .ok (.getfield 16, 3) := by decide +kernel
theorem dX11_deals_4 : decode cX11_deals 4 = .ok (.iconst 0, 1) := by decide +kernel
theorem dX11_deals_5 : decode cX11_deals 5 = .ok (.iload_n 2, 1) := by decide +kernel
theorem dX11_deals_6 : decode cX11_deals 6 = .ok (.iastore, 1) := by decide +kernel
theorem dX11_deals_7 : decode cX11_deals 7 = .ok (.iconst 1, 1) := by decide +kernel
theorem dX11_deals_8 : decode cX11_deals 8 = .ok (.istore 5, 2) := by decide +kernel
theorem dX11_deals_10 : decode cX11_deals 10 = .ok (.iload 5, 2) := by decide +kernel
theorem dX11_deals_12 : decode cX11_deals 12 = .ok (.iload_n 3, 1) := by decide +kernel
theorem dX11_deals_13 : decode cX11_deals 13 = .ok (.if_icmp .ge 20, 3) := by decide +kernel
theorem dX11_deals_16 : decode cX11_deals 16 = .ok (.aload_n 0, 1) := by decide +kernel
theorem dX11_deals_17 : decode cX11_deals 17 = .ok (.getfield 16, 3) := by decide +kernel
theorem dX11_deals_20 : decode cX11_deals 20 = .ok (.iload 5, 2) := by decide +kernel
theorem dX11_deals_22 : decode cX11_deals 22 = .ok (.aload_n 0, 1) := by decide +kernel
theorem dX11_deals_23 : decode cX11_deals 23 = .ok (.invokevirtual 72, 3) := by decide +kernel
theorem dX11_deals_26 : decode cX11_deals 26 = .ok (.iastore, 1) := by decide +kernel
theorem dX11_deals_27 : decode cX11_deals 27 = .ok (.iinc 5 1, 3) := by decide +kernel
theorem dX11_deals_30 : decode cX11_deals 30 = .ok (.goto (-20), 3) := by decide +kernel
theorem dX11_deals_33 : decode cX11_deals 33 = .ok (.iconst 0, 1) := by decide +kernel
theorem dX11_deals_34 : decode cX11_deals 34 = .ok (.istore 5, 2) := by decide +kernel
theorem dX11_deals_36 : decode cX11_deals 36 = .ok (.iconst 1, 1) := by decide +kernel
theorem dX11_deals_37 : decode cX11_deals 37 = .ok (.istore 6, 2) := by decide +kernel
theorem dX11_deals_39 : decode cX11_deals 39 = .ok (.iload 6, 2) := by decide +kernel
theorem dX11_deals_41 : decode cX11_deals 41 = .ok (.bipush 24, 2) := by decide +kernel
theorem dX11_deals_43 : decode cX11_deals 43 = .ok (.if_icmp .gt 56, 3) := by decide +kernel
theorem dX11_deals_46 : decode cX11_deals 46 = .ok (.aload_n 0, 1) := by decide +kernel
theorem dX11_deals_47 : decode cX11_deals 47 = .ok (.iload_n 1, 1) := by decide +kernel
theorem dX11_deals_48 : decode cX11_deals 48 = .ok (.iload 6, 2) := by decide +kernel
theorem dX11_deals_50 : decode cX11_deals 50 = .ok (.invokevirtual 93, 3) := by decide +kernel
theorem dX11_deals_53 : decode cX11_deals 53 = .ok (.aload_n 0, 1) := by decide +kernel
theorem dX11_deals_54 : decode cX11_deals 54 = .ok (.iload 6, 2) := by decide +kernel
theorem dX11_deals_56 : decode cX11_deals 56 = .ok (.invokestatic 61, 3) := by decide +kernel
theorem dX11_deals_59 : decode cX11_deals 59 = .ok (.invokevirtual 83, 3) := by decide +kernel
theorem dX11_deals_62 : decode cX11_deals 62 = .ok (.ifCond .eq 31, 3) := by decide +kernel
theorem dX11_deals_65 : decode cX11_deals 65 = .ok (.aload_n 0, 1) := by decide +kernel
theorem dX11_deals_66 : decode cX11_deals 66 = .ok (.iload 6, 2) := by decide +kernel
theorem dX11_deals_68 : decode cX11_deals 68 = .ok (.invokevirtual 97, 3) := by decide +kernel
theorem dX11_deals_71 : decode cX11_deals 71 = .ok (.ifCond .eq 22, 3) := by decide +kernel
theorem dX11_deals_74 : decode cX11_deals 74 = .ok (.aload_n 0, 1) := by decide +kernel
theorem dX11_deals_75 : decode cX11_deals 75 = .ok (.iload_n 1, 1) := by decide +kernel
theorem dX11_deals_76 : decode cX11_deals 76 = .ok (.iload 6, 2) := by decide +kernel
theorem dX11_deals_78 : decode cX11_deals 78 = .ok (.aload_n 0, 1) := by decide +kernel
theorem dX11_deals_79 : decode cX11_deals 79 = .ok (.iload_n 3, 1) := by decide +kernel
theorem dX11_deals_80 : decode cX11_deals 80 = .ok (.iload 6, 2) := by decide +kernel
theorem dX11_deals_82 : decode cX11_deals 82 = .ok (.invokevirtual 100, 3) := by decide +kernel
theorem dX11_deals_85 : decode cX11_deals 85 = .ok (.iload 4, 2) := by decide +kernel
theorem dX11_deals_87 : decode cX11_deals 87 = .ok (.invokevirtual 103, 3) := by decide +kernel
theorem dX11_deals_90 : decode cX11_deals 90 = .ok (.iinc 5 1, 3) := by decide +kernel
theorem dX11_deals_93 : decode cX11_deals 93 = .ok (.iinc 6 1, 3) := by decide +kernel
theorem dX11_deals_96 : decode cX11_deals 96 = .ok (.goto (-57), 3) := by decide +kernel
theorem dX11_deals_99 : decode cX11_deals 99 = .ok (.iconst 0, 1) := by decide +kernel
theorem dX11_deals_100 : decode cX11_deals 100 = .ok (.istore 6, 2) := by decide +kernel
theorem dX11_deals_102 : decode cX11_deals 102 = .ok (.iload 6, 2) := by decide +kernel
theorem dX11_deals_104 : decode cX11_deals 104 = .ok (.bipush 8, 2) := by decide +kernel
theorem dX11_deals_106 : decode cX11_deals 106 = .ok (.if_icmp .ge 42, 3) := by decide +kernel
theorem dX11_deals_109 : decode cX11_deals 109 = .ok (.aload_n 0, 1) := by decide +kernel
theorem dX11_deals_110 : decode cX11_deals 110 = .ok (.iload_n 1, 1) := by decide +kernel
theorem dX11_deals_111 : decode cX11_deals 111 = .ok (.iconst 3, 1) := by decide +kernel
theorem dX11_deals_112 : decode cX11_deals 112 = .ok (.iload 6, 2) := by decide +kernel
theorem dX11_deals_114 : decode cX11_deals 114 = .ok (.iadd, 1) := by decide +kernel
theorem dX11_deals_115 : decode cX11_deals 115 = .ok (.iload 6, 2) := by decide +kernel
theorem dX11_deals_117 : decode cX11_deals 117 = .ok (.iload_n 3, 1) := by decide +kernel
theorem dX11_deals_118 : decode cX11_deals 118 = .ok (.if_icmp .ge 20, 3) := by decide +kernel
theorem dX11_deals_121 : decode cX11_deals 121 = .ok (.iconst 4, 1) := by decide +kernel
theorem dX11_deals_122 : decode cX11_deals 122 = .ok (.aload_n 0, 1) := by decide +kernel
theorem dX11_deals_123 : decode cX11_deals 123 = .ok (.getfield 16, 3) := by decide +kernel
theorem dX11_deals_126 : decode cX11_deals 126 = .ok (.iload 6, 2) := by decide +kernel
theorem dX11_deals_128 : decode cX11_deals 128 = .ok (.iaload, 1) := by decide +kernel
theorem dX11_deals_129 : decode cX11_deals 129 = .ok (.sipush 2039, 3) := by decide +kernel
theorem dX11_deals_132 : decode cX11_deals 132 = .ok (.invokestatic 65, 3) := by decide +kernel
theorem dX11_deals_135 : decode cX11_deals 135 = .ok (.goto 4, 3) := by decide +kernel
theorem dX11_deals_138 : decode cX11_deals 138 = .ok (.iconst 0, 1) := by decide +kernel
theorem dX11_deals_139 : decode cX11_deals 139 = .ok (.invokevirtual 53, 3) := by decide +kernel
theorem dX11_deals_142 : decode cX11_deals 142 = .ok (.iinc 6 1, 3) := by decide +kernel
theorem dX11_deals_145 : decode cX11_deals 145 = .ok (.goto (-43), 3) := by decide +kernel
theorem dX11_deals_148 : decode cX11_deals 148 = .ok (.aload_n 0, 1) := by decide +kernel
theorem dX11_deals_149 : decode cX11_deals 149 = .ok (.iload_n 1, 1) := by decide +kernel
theorem dX11_deals_150 : decode cX11_deals 150 = .ok (.iconst 0, 1) := by decide +kernel
theorem dX11_deals_151 : decode cX11_deals 151 = .ok (.iconst 1, 1) := by decide +kernel
theorem dX11_deals_152 : decode cX11_deals 152 = .ok (.invokevirtual 53, 3) := by decide +kernel
theorem dX11_deals_155 : decode cX11_deals 155 = .ok (.aload_n 0, 1) := by decide +kernel
theorem dX11_deals_156 : decode cX11_deals 156 = .ok (.iload_n 1, 1) := by decide +kernel
theorem dX11_deals_157 : decode cX11_deals 157 = .ok (.iconst 1, 1) := by decide +kernel
theorem dX11_deals_158 : decode cX11_deals 158 = .ok (.iload_n 3, 1) := by decide +kernel
theorem dX11_deals_159 : decode cX11_deals 159 = .ok (.invokevirtual 53, 3) := by decide +kernel
theorem dX11_deals_162 : decode cX11_deals 162 = .ok (.aload_n 0, 1) := by decide +kernel
theorem dX11_deals_163 : decode cX11_deals 163 = .ok (.iload_n 1, 1) := by decide +kernel
theorem dX11_deals_164 : decode cX11_deals 164 = .ok (.iconst 2, 1) := by decide +kernel
theorem dX11_deals_165 : decode cX11_deals 165 = .ok (.iload 4, 2) := by decide +kernel
theorem dX11_deals_167 : decode cX11_deals 167 = .ok (.invokevirtual 53, 3) := by decide +kernel
theorem dX11_deals_170 : decode cX11_deals 170 = .ok (.iload 5, 2) := by decide +kernel
theorem dX11_deals_172 : decode cX11_deals 172 = .ok (.ireturn, 1) := by decide +kernel
theorem dX11_put_0 : decode cX11_put 0 = .ok (.iload_n 1, 1) := by decide +kernel
theorem dX11_put_1 : decode cX11_put 1 = .ok (.invokestatic 107, 3) := by decide +kernel
theorem dX11_put_4 : decode cX11_put 4 = .ok (.ifCond .ne 9, 3) := by decide +kernel
theorem dX11_put_7 : decode cX11_put 7 = .ok (.aload_n 0, 1) := by decide +kernel
theorem dX11_put_8 : decode cX11_put 8 = .ok (.iconst 1, 1) := by decide +kernel
theorem dX11_put_9 : decode cX11_put 9 = .ok (.invokevirtual 80, 3) := by decide +kernel
theorem dX11_put_12 : decode cX11_put 12 = .ok (.ireturn, 1) := by decide +kernel
theorem dX11_put_13 : decode cX11_put 13 = .ok (.iload_n 2, 1) := by decide +kernel
theorem dX11_put_14 : decode cX11_put 14 = .ok (.iconst 0, 1) := by decide +kernel
theorem dX11_put_15 : decode cX11_put 15 = .ok (.sipush 1018, 3) := by decide +kernel
theorem dX11_put_18 : decode cX11_put 18 = .ok (.invokestatic 45, 3) := by decide +kernel
theorem dX11_put_21 : decode cX11_put 21 = .ok (.ifCond .eq 13, 3) := by decide +kernel
theorem dX11_put_24 : decode cX11_put 24 = .ok (.iload_n 3, 1) := by decide +kernel
theorem dX11_put_25 : decode cX11_put 25 = .ok (.iconst 1, 1) := by decide +kernel
theorem dX11_put_26 : decode cX11_put 26 = .ok (.bipush 8, 2) := by decide +kernel
theorem dX11_put_28 : decode cX11_put 28 = .ok (.invokestatic 45, 3) := by decide +kernel
theorem dX11_put_31 : decode cX11_put 31 = .ok (.ifCond .ne 9, 3) := by decide +kernel
theorem dX11_put_34 : decode cX11_put 34 = .ok (.aload_n 0, 1) := by decide +kernel
theorem dX11_put_35 : decode cX11_put 35 = .ok (.iconst 2, 1) := by decide +kernel
theorem dX11_put_36 : decode cX11_put 36 = .ok (.invokevirtual 80, 3) := by decide +kernel
theorem dX11_put_39 : decode cX11_put 39 = .ok (.ireturn, 1) := by decide +kernel
theorem dX11_put_40 : decode cX11_put 40 = .ok (.aload_n 0, 1) := by decide +kernel
theorem dX11_put_41 : decode cX11_put 41 = .ok (.invokevirtual 110, 3) := by decide +kernel
theorem dX11_put_44 : decode cX11_put 44 = .ok (.iload_n 3, 1) := by decide +kernel
theorem dX11_put_45 : decode cX11_put 45 = .ok (.if_icmp .ge 9, 3) := by decide +kernel
theorem dX11_put_48 : decode cX11_put 48 = .ok (.aload_n 0, 1) := by decide +kernel
theorem dX11_put_49 : decode cX11_put 49 = .ok (.iconst 3, 1) := by decide +kernel
theorem dX11_put_50 : decode cX11_put 50 = .ok (.invokevirtual 80, 3) := by decide +kernel
theorem dX11_put_53 : decode cX11_put 53 = .ok (.ireturn, 1) := by decide +kernel
theorem dX11_put_54 : decode cX11_put 54 = .ok (.aload_n 0, 1) := by decide +kernel
theorem dX11_put_55 : decode cX11_put 55 = .ok (.iload_n 1, 1) := by decide +kernel
theorem dX11_put_56 : decode cX11_put 56 = .ok (.bipush 11, 2) := by decide +kernel
theorem dX11_put_58 : decode cX11_put 58 = .ok (.iconst 0, 1) := by decide +kernel
theorem dX11_put_59 : decode cX11_put 59 = .ok (.invokevirtual 53, 3) := by decide +kernel
theorem dX11_put_62 : decode cX11_put 62 = .ok (.aload_n 0, 1) := by decide +kernel
theorem dX11_put_63 : decode cX11_put 63 = .ok (.iload_n 1, 1) := by decide +kernel
theorem dX11_put_64 : decode cX11_put 64 = .ok (.iload_n 2, 1) := by decide +kernel
theorem dX11_put_65 : decode cX11_put 65 = .ok (.iload_n 3, 1) := by decide +kernel
theorem dX11_put_66 : decode cX11_put 66 = .ok (.iconst 1, 1) := by decide +kernel
theorem dX11_put_67 : decode cX11_put 67 = .ok (.invokevirtual 113, 3) := by decide +kernel
theorem dX11_put_70 : decode cX11_put 70 = .ok (.istore 4, 2) := by decide +kernel
theorem dX11_put_72 : decode cX11_put 72 = .ok (.aload_n 0, 1) := by decide +kernel
theorem dX11_put_73 : decode cX11_put 73 = .ok (.bipush 100, 2) := by decide +kernel
theorem dX11_put_75 : decode cX11_put 75 = .ok (.iload_n 1, 1) := by decide +kernel
theorem dX11_put_76 : decode cX11_put 76 = .ok (.iadd, 1) := by decide +kernel
theorem dX11_put_77 : decode cX11_put 77 = .ok (.invokevirtual 117, 3) := by decide +kernel
theorem dX11_put_80 : decode cX11_put 80 = .ok (.aload_n 0, 1) := by decide +kernel
theorem dX11_put_81 : decode cX11_put 81 = .ok (.iload 4, 2) := by decide +kernel
theorem dX11_put_83 : decode cX11_put 83 = .ok (.invokevirtual 69, 3) := by decide +kernel
theorem dX11_put_86 : decode cX11_put 86 = .ok (.ireturn, 1) := by decide +kernel
theorem dX11_lacks_0 : decode cX11_lacks 0 = .ok (.iload_n 1, 1) := by decide +kernel
theorem dX11_lacks_1 : decode cX11_lacks 1 = .ok (.invokestatic 107, 3) := by decide +kernel
theorem dX11_lacks_4 : decode cX11_lacks 4 = .ok (.ifCond .ne 7, 3) := by decide +kernel
theorem dX11_lacks_7 : decode cX11_lacks 7 = .ok (.iconst 1, 1) := by decide +kernel
theorem dX11_lacks_8 : decode cX11_lacks 8 = .ok (.goto 17, 3) := by decide +kernel
theorem dX11_lacks_11 : decode cX11_lacks 11 = .ok (.aload_n 0, 1) := by decide +kernel
theorem dX11_lacks_12 : decode cX11_lacks 12 = .ok (.iload_n 1, 1) := by decide +kernel
theorem dX11_lacks_13 : decode cX11_lacks 13 = .ok (.iconst 0, 1) := by decide +kernel
theorem dX11_lacks_14 : decode cX11_lacks 14 = .ok (.invokevirtual 49, 3) := by decide +kernel
theorem dX11_lacks_17 : decode cX11_lacks 17 = .ok (.ifCond .ne 7, 3) := by decide +kernel
theorem dX11_lacks_20 : decode cX11_lacks 20 = .ok (.iconst 2, 1) := by decide +kernel
theorem dX11_lacks_21 : decode cX11_lacks 21 = .ok (.goto 4, 3) := by decide +kernel
theorem dX11_lacks_24 : decode cX11_lacks 24 = .ok (.iconst 0, 1) := by decide +kernel
theorem dX11_lacks_25 : decode cX11_lacks 25 = .ok (.ireturn, 1) := by decide +kernel
theorem dX11_remove_0 : decode cX11_remove 0 = .ok (.aload_n 0, 1) := by decide +kernel
theorem dX11_remove_1 : decode cX11_remove 1 = .ok (.iload_n 1, 1) := by decide +kernel
theorem dX11_remove_2 : decode cX11_remove 2 = .ok (.invokevirtual 121, 3) := by decide +kernel
theorem dX11_remove_5 : decode cX11_remove 5 = .ok (.istore_n 2, 1) := by decide +kernel
theorem dX11_remove_6 : decode cX11_remove 6 = .ok (.iload_n 2, 1) := by decide +kernel
theorem dX11_remove_7 : decode cX11_remove 7 = .ok (.ifCond .eq 9, 3) := by decide +kernel
theorem dX11_remove_10 : decode cX11_remove 10 = .ok (.aload_n 0, 1) := by decide +kernel
theorem dX11_remove_11 : decode cX11_remove 11 = .ok (.iload_n 2, 1) := by decide +kernel
theorem dX11_remove_12 : decode cX11_remove 12 = .ok (.invokevirtual 80, 3) := by decide +kernel
theorem dX11_remove_15 : decode cX11_remove 15 = .ok (.ireturn, 1) := by decide +kernel
theorem dX11_remove_16 : decode cX11_remove 16 = .ok (.aload_n 0, 1) := by decide +kernel
theorem dX11_remove_17 : decode cX11_remove 17 = .ok (.iload_n 1, 1) := by decide +kernel
theorem dX11_remove_18 : decode cX11_remove 18 = .ok (.iconst 2, 1) := by decide +kernel
theorem dX11_remove_19 : decode cX11_remove 19 = .ok (.invokevirtual 49, 3) := by decide +kernel
theorem dX11_remove_22 : decode cX11_remove 22 = .ok (.istore_n 3, 1) := by decide +kernel
theorem dX11_remove_23 : decode cX11_remove 23 = .ok (.iconst 0, 1) := by decide +kernel
theorem dX11_remove_24 : decode cX11_remove 24 = .ok (.istore 4, 2) := by decide +kernel
theorem dX11_remove_26 : decode cX11_remove 26 = .ok (.iload 4, 2) := by decide +kernel
theorem dX11_remove_28 : decode cX11_remove 28 = .ok (.bipush 124, 2) := by decide +kernel
theorem dX11_remove_30 : decode cX11_remove 30 = .ok (.if_icmp .ge 17, 3) := by decide +kernel
theorem dX11_remove_33 : decode cX11_remove 33 = .ok (.aload_n 0, 1) := by decide +kernel
theorem dX11_remove_34 : decode cX11_remove 34 = .ok (.iload_n 1, 1) := by decide +kernel
theorem dX11_remove_35 : decode cX11_remove 35 = .ok (.iload 4, 2) := by decide +kernel
theorem dX11_remove_37 : decode cX11_remove 37 = .ok (.iconst 0, 1) := by decide +kernel
theorem dX11_remove_38 : decode cX11_remove 38 = .ok (.invokevirtual 53, 3) := by decide +kernel
theorem dX11_remove_41 : decode cX11_remove 41 = .ok (.iinc 4 1, 3) := by decide +kernel
theorem dX11_remove_44 : decode cX11_remove 44 = .ok (.goto (-18), 3) := by decide +kernel
theorem dX11_remove_47 : decode cX11_remove 47 = .ok (.aload_n 0, 1) := by decide +kernel
theorem dX11_remove_48 : decode cX11_remove 48 = .ok (.sipush 200, 3) := by decide +kernel
theorem dX11_remove_51 : decode cX11_remove 51 = .ok (.iload_n 1, 1) := by decide +kernel
theorem dX11_remove_52 : decode cX11_remove 52 = .ok (.iadd, 1) := by decide +kernel
theorem dX11_remove_53 : decode cX11_remove 53 = .ok (.invokevirtual 117, 3) := by decide +kernel
theorem dX11_remove_56 : decode cX11_remove 56 = .ok (.aload_n 0, 1) := by decide +kernel
theorem dX11_remove_57 : decode cX11_remove 57 = .ok (.iload_n 3, 1) := by decide +kernel
theorem dX11_remove_58 : decode cX11_remove 58 = .ok (.invokevirtual 69, 3) := by decide +kernel
theorem dX11_remove_61 : decode cX11_remove 61 = .ok (.ireturn, 1) := by decide +kernel
theorem dX11_refresh_0 : decode cX11_refresh 0 = .ok (.aload_n 0, 1) := by decide +kernel
theorem dX11_refresh_1 : decode cX11_refresh 1 = .ok (.iload_n 1, 1) := by decide +kernel
theorem dX11_refresh_2 : decode cX11_refresh 2 = .ok (.invokevirtual 121, 3) := by decide +kernel
theorem dX11_refresh_5 : decode cX11_refresh 5 = .ok (.istore_n 2, 1) := by decide +kernel
theorem dX11_refresh_6 : decode cX11_refresh 6 = .ok (.iload_n 2, 1) := by decide +kernel
theorem dX11_refresh_7 : decode cX11_refresh 7 = .ok (.ifCond .eq 9, 3) := by decide +kernel
theorem dX11_refresh_10 : decode cX11_refresh 10 = .ok (.aload_n 0, 1) := by decide +kernel
theorem dX11_refresh_11 : decode cX11_refresh 11 = .ok (.iload_n 2, 1) := by decide +kernel
theorem dX11_refresh_12 : decode cX11_refresh 12 = .ok (.invokevirtual 80, 3) := by decide +kernel
theorem dX11_refresh_15 : decode cX11_refresh 15 = .ok (.ireturn, 1) := by decide +kernel
theorem dX11_refresh_16 : decode cX11_refresh 16 = .ok (.aload_n 0, 1) := by decide +kernel
theorem dX11_refresh_17 : decode cX11_refresh 17 = .ok (.iload_n 1, 1) := by decide +kernel
theorem dX11_refresh_18 : decode cX11_refresh 18 = .ok (.iconst 1, 1) := by decide +kernel
theorem dX11_refresh_19 : decode cX11_refresh 19 = .ok (.invokevirtual 49, 3) := by decide +kernel
theorem dX11_refresh_22 : decode cX11_refresh 22 = .ok (.istore_n 3, 1) := by decide +kernel
theorem dX11_refresh_23 : decode cX11_refresh 23 = .ok (.aload_n 0, 1) := by decide +kernel
theorem dX11_refresh_24 : decode cX11_refresh 24 = .ok (.iload_n 1, 1) := by decide +kernel
theorem dX11_refresh_25 : decode cX11_refresh 25 = .ok (.iconst 2, 1) := by decide +kernel
theorem dX11_refresh_26 : decode cX11_refresh 26 = .ok (.invokevirtual 49, 3) := by decide +kernel
theorem dX11_refresh_29 : decode cX11_refresh 29 = .ok (.istore 4, 2) := by decide +kernel
theorem dX11_refresh_31 : decode cX11_refresh 31 = .ok (.aload_n 0, 1) := by decide +kernel
theorem dX11_refresh_32 : decode cX11_refresh 32 = .ok (.getfield 16, 3) := by decide +kernel
theorem dX11_refresh_35 : decode cX11_refresh 35 = .ok (.iconst 0, 1) := by decide +kernel
theorem dX11_refresh_36 : decode cX11_refresh 36 = .ok (.iconst 0, 1) := by decide +kernel
theorem dX11_refresh_37 : decode cX11_refresh 37 = .ok (.iastore, 1) := by decide +kernel
theorem dX11_refresh_38 : decode cX11_refresh 38 = .ok (.iconst 1, 1) := by decide +kernel
theorem dX11_refresh_39 : decode cX11_refresh 39 = .ok (.istore 5, 2) := by decide +kernel
theorem dX11_refresh_41 : decode cX11_refresh 41 = .ok (.iload 5, 2) := by decide +kernel
theorem dX11_refresh_43 : decode cX11_refresh 43 = .ok (.iload_n 3, 1) := by decide +kernel
theorem dX11_refresh_44 : decode cX11_refresh 44 = .ok (.if_icmp .ge 20, 3) := by decide +kernel
theorem dX11_refresh_47 : decode cX11_refresh 47 = .ok (.aload_n 0, 1) := by decide +kernel
theorem dX11_refresh_48 : decode cX11_refresh 48 = .ok (.getfield 16, 3) := by decide +kernel
theorem dX11_refresh_51 : decode cX11_refresh 51 = .ok (.iload 5, 2) := by decide +kernel
theorem dX11_refresh_53 : decode cX11_refresh 53 = .ok (.aload_n 0, 1) := by decide +kernel
theorem dX11_refresh_54 : decode cX11_refresh 54 = .ok (.invokevirtual 72, 3) := by decide +kernel
theorem dX11_refresh_57 : decode cX11_refresh 57 = .ok (.iastore, 1) := by decide +kernel
theorem dX11_refresh_58 : decode cX11_refresh 58 = .ok (.iinc 5 1, 3) := by decide +kernel
theorem dX11_refresh_61 : decode cX11_refresh 61 = .ok (.goto (-20), 3) := by decide +kernel
theorem dX11_refresh_64 : decode cX11_refresh 64 = .ok (.iconst 0, 1) := by decide +kernel
theorem dX11_refresh_65 : decode cX11_refresh 65 = .ok (.istore 5, 2) := by decide +kernel
theorem dX11_refresh_67 : decode cX11_refresh 67 = .ok (.iconst 1, 1) := by decide +kernel
theorem dX11_refresh_68 : decode cX11_refresh 68 = .ok (.istore 6, 2) := by decide +kernel
theorem dX11_refresh_70 : decode cX11_refresh 70 = .ok (.iload 6, 2) := by decide +kernel
theorem dX11_refresh_72 : decode cX11_refresh 72 = .ok (.bipush 24, 2) := by decide +kernel
theorem dX11_refresh_74 : decode cX11_refresh 74 = .ok (.if_icmp .gt 78, 3) := by decide +kernel
theorem dX11_refresh_77 : decode cX11_refresh 77 = .ok (.aload_n 0, 1) := by decide +kernel
theorem dX11_refresh_78 : decode cX11_refresh 78 = .ok (.iload 6, 2) := by decide +kernel
theorem dX11_refresh_80 : decode cX11_refresh 80 = .ok (.invokestatic 61, 3) := by decide +kernel
theorem dX11_refresh_83 : decode cX11_refresh 83 = .ok (.invokevirtual 83, 3) := by decide +kernel
theorem dX11_refresh_86 : decode cX11_refresh 86 = .ok (.ifCond .eq 60, 3) := by decide +kernel
theorem dX11_refresh_89 : decode cX11_refresh 89 = .ok (.aload_n 0, 1) := by decide +kernel
theorem dX11_refresh_90 : decode cX11_refresh 90 = .ok (.iload_n 1, 1) := by decide +kernel
theorem dX11_refresh_91 : decode cX11_refresh 91 = .ok (.iload 6, 2) := by decide +kernel
theorem dX11_refresh_93 : decode cX11_refresh 93 = .ok (.invokevirtual 86, 3) := by decide +kernel
theorem dX11_refresh_96 : decode cX11_refresh 96 = .ok (.ifCond .eq 50, 3) := by decide +kernel
theorem dX11_refresh_99 : decode cX11_refresh 99 = .ok (.aload_n 0, 1) := by decide +kernel
theorem dX11_refresh_100 : decode cX11_refresh 100 = .ok (.iload_n 1, 1) := by decide +kernel
theorem dX11_refresh_101 : decode cX11_refresh 101 = .ok (.iload 6, 2) := by decide +kernel
theorem dX11_refresh_103 : decode cX11_refresh 103 = .ok (.iconst 2, 1) := by decide +kernel
theorem dX11_refresh_104 : decode cX11_refresh 104 = .ok (.invokevirtual 57, 3) := by decide +kernel
theorem dX11_refresh_107 : decode cX11_refresh 107 = .ok (.iload 4, 2) := by decide +kernel
theorem dX11_refresh_109 : decode cX11_refresh 109 = .ok (.if_icmp .ne 37, 3) := by decide +kernel
theorem dX11_refresh_112 : decode cX11_refresh 112 = .ok (.aload_n 0, 1) := by decide +kernel
theorem dX11_refresh_113 : decode cX11_refresh 113 = .ok (.iload_n 1, 1) := by decide +kernel
theorem dX11_refresh_114 : decode cX11_refresh 114 = .ok (.iload 6, 2) := by decide +kernel
theorem dX11_refresh_116 : decode cX11_refresh 116 = .ok (.aload_n 0, 1) := by decide +kernel
theorem dX11_refresh_117 : decode cX11_refresh 117 = .ok (.iload_n 1, 1) := by decide +kernel
theorem dX11_refresh_118 : decode cX11_refresh 118 = .ok (.iload 6, 2) := by decide +kernel
theorem dX11_refresh_120 : decode cX11_refresh 120 = .ok (.iconst 1, 1) := by decide +kernel
theorem dX11_refresh_121 : decode cX11_refresh 121 = .ok (.invokevirtual 57, 3) := by decide +kernel
theorem dX11_refresh_124 : decode cX11_refresh 124 = .ok (.aload_n 0, 1) := by decide +kernel
theorem dX11_refresh_125 : decode cX11_refresh 125 = .ok (.iload_n 3, 1) := by decide +kernel
theorem dX11_refresh_126 : decode cX11_refresh 126 = .ok (.iload 6, 2) := by decide +kernel
theorem dX11_refresh_128 : decode cX11_refresh 128 = .ok (.invokevirtual 100, 3) := by decide +kernel
theorem dX11_refresh_131 : decode cX11_refresh 131 = .ok (.iadd, 1) := by decide +kernel
theorem dX11_refresh_132 : decode cX11_refresh 132 = .ok (.sipush 1019, 3) := by decide +kernel
theorem dX11_refresh_135 : decode cX11_refresh 135 = .ok (.irem, 1) := by decide +kernel
theorem dX11_refresh_136 : decode cX11_refresh 136 = .ok (.iload 4, 2) := by decide +kernel
theorem dX11_refresh_138 : decode cX11_refresh 138 = .ok (.iconst 1, 1) := by decide +kernel
theorem dX11_refresh_139 : decode cX11_refresh 139 = .ok (.iadd, 1) := by decide +kernel
theorem dX11_refresh_140 : decode cX11_refresh 140 = .ok (.invokevirtual 103, 3) := by decide +kernel
theorem dX11_refresh_143 : decode cX11_refresh 143 = .ok (.iinc 5 1, 3) := by decide +kernel
theorem dX11_refresh_146 : decode cX11_refresh 146 = .ok (.iinc 6 1, 3) := by decide +kernel
theorem dX11_refresh_149 : decode cX11_refresh 149 = .ok (.goto (-79), 3) := by decide +kernel
theorem dX11_refresh_152 : decode cX11_refresh 152 = .ok (.iconst 0, 1) := by decide +kernel
theorem dX11_refresh_153 : decode cX11_refresh 153 = .ok (.istore 6, 2) := by decide +kernel
theorem dX11_refresh_155 : decode cX11_refresh 155 = .ok (.iload 6, 2) := by decide +kernel
theorem dX11_refresh_157 : decode cX11_refresh 157 = .ok (.iload_n 3, 1) := by decide +kernel
theorem dX11_refresh_158 : decode cX11_refresh 158 = .ok (.if_icmp .ge 46, 3) := by decide +kernel
theorem dX11_refresh_161 : decode cX11_refresh 161 = .ok (.aload_n 0, 1) := by decide +kernel
theorem dX11_refresh_162 : decode cX11_refresh 162 = .ok (.iload_n 1, 1) := by decide +kernel
theorem dX11_refresh_163 : decode cX11_refresh 163 = .ok (.iconst 3, 1) := by decide +kernel
theorem dX11_refresh_164 : decode cX11_refresh 164 = .ok (.iload 6, 2) := by decide +kernel
theorem dX11_refresh_166 : decode cX11_refresh 166 = .ok (.iadd, 1) := by decide +kernel
theorem dX11_refresh_167 : decode cX11_refresh 167 = .ok (.aload_n 0, 1) := by decide +kernel
theorem dX11_refresh_168 : decode cX11_refresh 168 = .ok (.iload_n 1, 1) := by decide +kernel
theorem dX11_refresh_169 : decode cX11_refresh 169 = .ok (.iconst 3, 1) := by decide +kernel
theorem dX11_refresh_170 : decode cX11_refresh 170 = .ok (.iload 6, 2) := by decide +kernel
theorem dX11_refresh_172 : decode cX11_refresh 172 = .ok (.iadd, 1) := by decide +kernel
theorem dX11_refresh_173 : decode cX11_refresh 173 = .ok (.invokevirtual 49, 3) := by decide +kernel
theorem dX11_refresh_176 : decode cX11_refresh 176 = .ok (.iconst 4, 1) := by decide +kernel
theorem dX11_refresh_177 : decode cX11_refresh 177 = .ok (.aload_n 0, 1) := by decide +kernel
theorem dX11_refresh_178 : decode cX11_refresh 178 = .ok (.getfield 16, 3) := by decide +kernel
theorem dX11_refresh_181 : decode cX11_refresh 181 = .ok (.iload 6, 2) := by decide +kernel
theorem dX11_refresh_183 : decode cX11_refresh 183 = .ok (.iaload, 1) := by decide +kernel
theorem dX11_refresh_184 : decode cX11_refresh 184 = .ok (.sipush 2039, 3) := by decide +kernel
theorem dX11_refresh_187 : decode cX11_refresh 187 = .ok (.invokestatic 65, 3) := by decide +kernel
theorem dX11_refresh_190 : decode cX11_refresh 190 = .ok (.imul, 1) := by decide +kernel
theorem dX11_refresh_191 : decode cX11_refresh 191 = .ok (.sipush 2039, 3) := by decide +kernel
theorem dX11_refresh_194 : decode cX11_refresh 194 = .ok (.irem, 1) := by decide +kernel
theorem dX11_refresh_195 : decode cX11_refresh 195 = .ok (.invokevirtual 53, 3) := by decide +kernel
theorem dX11_refresh_198 : decode cX11_refresh 198 = .ok (.iinc 6 1, 3) := by decide +kernel
theorem dX11_refresh_201 : decode cX11_refresh 201 = .ok (.goto (-46), 3) := by decide +kernel
theorem dX11_refresh_204 : decode cX11_refresh 204 = .ok (.aload_n 0, 1) := by decide +kernel
theorem dX11_refresh_205 : decode cX11_refresh 205 = .ok (.iload_n 1, 1) := by decide +kernel
theorem dX11_refresh_206 : decode cX11_refresh 206 = .ok (.iconst 2, 1) := by decide +kernel
theorem dX11_refresh_207 : decode cX11_refresh 207 = .ok (.iload 4, 2) := by decide +kernel
theorem dX11_refresh_209 : decode cX11_refresh 209 = .ok (.iconst 1, 1) := by decide +kernel
theorem dX11_refresh_210 : decode cX11_refresh 210 = .ok (.iadd, 1) := by decide +kernel
theorem dX11_refresh_211 : decode cX11_refresh 211 = .ok (.invokevirtual 53, 3) := by decide +kernel
theorem dX11_refresh_214 : decode cX11_refresh 214 = .ok (.aload_n 0, 1) := by decide +kernel
theorem dX11_refresh_215 : decode cX11_refresh 215 = .ok (.sipush 300, 3) := by decide +kernel
theorem dX11_refresh_218 : decode cX11_refresh 218 = .ok (.iload_n 1, 1) := by decide +kernel
theorem dX11_refresh_219 : decode cX11_refresh 219 = .ok (.iadd, 1) := by decide +kernel
theorem dX11_refresh_220 : decode cX11_refresh 220 = .ok (.invokevirtual 117, 3) := by decide +kernel
theorem dX11_refresh_223 : decode cX11_refresh 223 = .ok (.aload_n 0, 1) := by decide +kernel
theorem dX11_refresh_224 : decode cX11_refresh 224 = .ok (.iload 5, 2) := by decide +kernel
theorem dX11_refresh_226 : decode cX11_refresh 226 = .ok (.invokevirtual 69, 3) := by decide +kernel
theorem dX11_refresh_229 : decode cX11_refresh 229 = .ok (.ireturn, 1) := by decide +kernel
theorem dX11_valueAt_0 : decode cX11_valueAt 0 = .ok (.iconst 0, 1) := by decide +kernel
theorem dX11_valueAt_1 : decode cX11_valueAt 1 = .ok (.istore 4, 2) := by decide +kernel
theorem dX11_valueAt_3 : decode cX11_valueAt 3 = .ok (.iconst 0, 1) := by decide +kernel
theorem dX11_valueAt_4 : decode cX11_valueAt 4 = .ok (.istore 5, 2) := by decide +kernel
theorem dX11_valueAt_6 : decode cX11_valueAt 6 = .ok (.iload 5, 2) := by decide +kernel
theorem dX11_valueAt_8 : decode cX11_valueAt 8 = .ok (.iload_n 2, 1) := by decide +kernel
theorem dX11_valueAt_9 : decode cX11_valueAt 9 = .ok (.if_icmp .ge 118, 3) := by decide +kernel
theorem dX11_valueAt_12 : decode cX11_valueAt 12 = .ok (.aload_n 0, 1) := by decide +kernel
theorem dX11_valueAt_13 : decode cX11_valueAt 13 = .ok (.iload_n 1, 1) := by decide +kernel
theorem dX11_valueAt_14 : decode cX11_valueAt 14 = .ok (.aload_n 0, 1) := by decide +kernel
theorem dX11_valueAt_15 : decode cX11_valueAt 15 = .ok (.getfield 19, 3) := by decide +kernel
theorem dX11_valueAt_18 : decode cX11_valueAt 18 = .ok (.iload 5, 2) := by decide +kernel
theorem dX11_valueAt_20 : decode cX11_valueAt 20 = .ok (.iaload, 1) := by decide +kernel
theorem dX11_valueAt_21 : decode cX11_valueAt 21 = .ok (.iconst 1, 1) := by decide +kernel
theorem dX11_valueAt_22 : decode cX11_valueAt 22 = .ok (.invokevirtual 57, 3) := by decide +kernel
theorem dX11_valueAt_25 : decode cX11_valueAt 25 = .ok (.istore 6, 2) := by decide +kernel
theorem dX11_valueAt_27 : decode cX11_valueAt 27 = .ok (.iconst 0, 1) := by decide +kernel
theorem dX11_valueAt_28 : decode cX11_valueAt 28 = .ok (.istore 7, 2) := by decide +kernel
theorem dX11_valueAt_30 : decode cX11_valueAt 30 = .ok (.iload 7, 2) := by decide +kernel
theorem dX11_valueAt_32 : decode cX11_valueAt 32 = .ok (.iload_n 2, 1) := by decide +kernel
theorem dX11_valueAt_33 : decode cX11_valueAt 33 = .ok (.if_icmp .ge 77, 3) := by decide +kernel
theorem dX11_valueAt_36 : decode cX11_valueAt 36 = .ok (.iload 7, 2) := by decide +kernel
theorem dX11_valueAt_38 : decode cX11_valueAt 38 = .ok (.iload 5, 2) := by decide +kernel
theorem dX11_valueAt_40 : decode cX11_valueAt 40 = .ok (.if_icmp .eq 64, 3) := by decide +kernel
theorem dX11_valueAt_43 : decode cX11_valueAt 43 = .ok (.iload 6, 2) := by decide +kernel
theorem dX11_valueAt_45 : decode cX11_valueAt 45 = .ok (.iload_n 3, 1) := by decide +kernel
theorem dX11_valueAt_46 : decode cX11_valueAt 46 = .ok (.aload_n 0, 1) := by decide +kernel
theorem dX11_valueAt_47 : decode cX11_valueAt 47 = .ok (.getfield 19, 3) := by decide +kernel
theorem dX11_valueAt_50 : decode cX11_valueAt 50 = .ok (.iload 7, 2) := by decide +kernel
theorem dX11_valueAt_52 : decode cX11_valueAt 52 = .ok (.iaload, 1) := by decide +kernel
theorem dX11_valueAt_53 : decode cX11_valueAt 53 = .ok (.isub, 1) := by decide +kernel
theorem dX11_valueAt_54 : decode cX11_valueAt 54 = .ok (.sipush 1019, 3) := by decide +kernel
theorem dX11_valueAt_57 : decode cX11_valueAt 57 = .ok (.iadd, 1) := by decide +kernel
theorem dX11_valueAt_58 : decode cX11_valueAt 58 = .ok (.sipush 1019, 3) := by decide +kernel
theorem dX11_valueAt_61 : decode cX11_valueAt 61 = .ok (.irem, 1) := by decide +kernel
theorem dX11_valueAt_62 : decode cX11_valueAt 62 = .ok (.imul, 1) := by decide +kernel
theorem dX11_valueAt_63 : decode cX11_valueAt 63 = .ok (.sipush 1019, 3) := by decide +kernel
theorem dX11_valueAt_66 : decode cX11_valueAt 66 = .ok (.irem, 1) := by decide +kernel
theorem dX11_valueAt_67 : decode cX11_valueAt 67 = .ok (.istore 6, 2) := by decide +kernel
theorem dX11_valueAt_69 : decode cX11_valueAt 69 = .ok (.iload 6, 2) := by decide +kernel
theorem dX11_valueAt_71 : decode cX11_valueAt 71 = .ok (.aload_n 0, 1) := by decide +kernel
theorem dX11_valueAt_72 : decode cX11_valueAt 72 = .ok (.getfield 19, 3) := by decide +kernel
theorem dX11_valueAt_75 : decode cX11_valueAt 75 = .ok (.iload 5, 2) := by decide +kernel
theorem dX11_valueAt_77 : decode cX11_valueAt 77 = .ok (.iaload, 1) := by decide +kernel
theorem dX11_valueAt_78 : decode cX11_valueAt 78 = .ok (.aload_n 0, 1) := by decide +kernel
theorem dX11_valueAt_79 : decode cX11_valueAt 79 = .ok (.getfield 19, 3) := by decide +kernel
theorem dX11_valueAt_82 : decode cX11_valueAt 82 = .ok (.iload 7, 2) := by decide +kernel
theorem dX11_valueAt_84 : decode cX11_valueAt 84 = .ok (.iaload, 1) := by decide +kernel
theorem dX11_valueAt_85 : decode cX11_valueAt 85 = .ok (.isub, 1) := by decide +kernel
theorem dX11_valueAt_86 : decode cX11_valueAt 86 = .ok (.sipush 1019, 3) := by decide +kernel
theorem dX11_valueAt_89 : decode cX11_valueAt 89 = .ok (.iadd, 1) := by decide +kernel
theorem dX11_valueAt_90 : decode cX11_valueAt 90 = .ok (.sipush 1019, 3) := by decide +kernel
theorem dX11_valueAt_93 : decode cX11_valueAt 93 = .ok (.irem, 1) := by decide +kernel
theorem dX11_valueAt_94 : decode cX11_valueAt 94 = .ok (.invokestatic 124, 3) := by decide +kernel
theorem dX11_valueAt_97 : decode cX11_valueAt 97 = .ok (.imul, 1) := by decide +kernel
theorem dX11_valueAt_98 : decode cX11_valueAt 98 = .ok (.sipush 1019, 3) := by decide +kernel
theorem dX11_valueAt_101 : decode cX11_valueAt 101 = .ok (.irem, 1) := by decide +kernel
theorem dX11_valueAt_102 : decode cX11_valueAt 102 = .ok (.istore 6, 2) := by decide +kernel
theorem dX11_valueAt_104 : decode cX11_valueAt 104 = .ok (.iinc 7 1, 3) := by decide +kernel
theorem dX11_valueAt_107 : decode cX11_valueAt 107 = .ok (.goto (-77), 3) := by decide +kernel
theorem dX11_valueAt_110 : decode cX11_valueAt 110 = .ok (.iload 4, 2) := by decide +kernel
theorem dX11_valueAt_112 : decode cX11_valueAt 112 = .ok (.iload 6, 2) := by decide +kernel
theorem dX11_valueAt_114 : decode cX11_valueAt 114 = .ok (.iadd, 1) := by decide +kernel
theorem dX11_valueAt_115 : decode cX11_valueAt 115 = .ok (.sipush 1019, 3) := by decide +kernel
theorem dX11_valueAt_118 : decode cX11_valueAt 118 = .ok (.irem, 1) := by decide +kernel
theorem dX11_valueAt_119 : decode cX11_valueAt 119 = .ok (.istore 4, 2) := by decide +kernel
theorem dX11_valueAt_121 : decode cX11_valueAt 121 = .ok (.iinc 5 1, 3) := by decide +kernel
theorem dX11_valueAt_124 : decode cX11_valueAt 124 = .ok (.goto (-118), 3) := by decide +kernel
theorem dX11_valueAt_127 : decode cX11_valueAt 127 = .ok (.iload 4, 2) := by decide +kernel
theorem dX11_valueAt_129 : decode cX11_valueAt 129 = .ok (.ireturn, 1) := by decide +kernel
theorem dX11_tellNodes_0 : decode cX11_tellNodes 0 = .ok (.aload_n 0, 1) := by decide +kernel
theorem dX11_tellNodes_1 : decode cX11_tellNodes 1 = .ok (.iconst 0, 1) := by decide +kernel
theorem dX11_tellNodes_2 : decode cX11_tellNodes 2 = .ok (.putfield 127, 3) := by decide +kernel
theorem dX11_tellNodes_5 : decode cX11_tellNodes 5 = .ok (.iconst 1, 1) := by decide +kernel
theorem dX11_tellNodes_6 : decode cX11_tellNodes 6 = .ok (.istore 4, 2) := by decide +kernel
theorem dX11_tellNodes_8 : decode cX11_tellNodes 8 = .ok (.iload 4, 2) := by decide +kernel
theorem dX11_tellNodes_10 : decode cX11_tellNodes 10 = .ok (.bipush 24, 2) := by decide +kernel
theorem dX11_tellNodes_12 : decode cX11_tellNodes 12 = .ok (.if_icmp .gt 67, 3) := by decide +kernel
theorem dX11_tellNodes_15 : decode cX11_tellNodes 15 = .ok (.iload_n 2, 1) := by decide +kernel
theorem dX11_tellNodes_16 : decode cX11_tellNodes 16 = .ok (.iload 4, 2) := by decide +kernel
theorem dX11_tellNodes_18 : decode cX11_tellNodes 18 = .ok (.invokestatic 61, 3) := by decide +kernel
theorem dX11_tellNodes_21 : decode cX11_tellNodes 21 = .ok (.ishr, 1) := by decide +kernel
theorem dX11_tellNodes_22 : decode cX11_tellNodes 22 = .ok (.iconst 1, 1) := by decide +kernel
theorem dX11_tellNodes_23 : decode cX11_tellNodes 23 = .ok (.iand, 1) := by decide +kernel
theorem dX11_tellNodes_24 : decode cX11_tellNodes 24 = .ok (.iconst 1, 1) := by decide +kernel
theorem dX11_tellNodes_25 : decode cX11_tellNodes 25 = .ok (.if_icmp .ne 48, 3) := by decide +kernel
theorem dX11_tellNodes_28 : decode cX11_tellNodes 28 = .ok (.aload_n 0, 1) := by decide +kernel
theorem dX11_tellNodes_29 : decode cX11_tellNodes 29 = .ok (.iload_n 1, 1) := by decide +kernel
theorem dX11_tellNodes_30 : decode cX11_tellNodes 30 = .ok (.iload 4, 2) := by decide +kernel
theorem dX11_tellNodes_32 : decode cX11_tellNodes 32 = .ok (.invokevirtual 86, 3) := by decide +kernel
theorem dX11_tellNodes_35 : decode cX11_tellNodes 35 = .ok (.ifCond .eq 38, 3) := by decide +kernel
theorem dX11_tellNodes_38 : decode cX11_tellNodes 38 = .ok (.iload_n 3, 1) := by decide +kernel
theorem dX11_tellNodes_39 : decode cX11_tellNodes 39 = .ok (.ifCond .eq 13, 3) := by decide +kernel
theorem dX11_tellNodes_42 : decode cX11_tellNodes 42 = .ok (.aload_n 0, 1) := by decide +kernel
theorem dX11_tellNodes_43 : decode cX11_tellNodes 43 = .ok (.iload_n 1, 1) := by decide +kernel
theorem dX11_tellNodes_44 : decode cX11_tellNodes 44 = .ok (.iload 4, 2) := by decide +kernel
theorem dX11_tellNodes_46 : decode cX11_tellNodes 46 = .ok (.invokevirtual 90, 3) := by decide +kernel
theorem dX11_tellNodes_49 : decode cX11_tellNodes 49 = .ok (.ifCond .ne 24, 3) := by decide +kernel
theorem dX11_tellNodes_52 : decode cX11_tellNodes 52 = .ok (.aload_n 0, 1) := by decide +kernel
theorem dX11_tellNodes_53 : decode cX11_tellNodes 53 = .ok (.getfield 19, 3) := by decide +kernel
theorem dX11_tellNodes_56 : decode cX11_tellNodes 56 = .ok (.aload_n 0, 1) := by decide +kernel
theorem dX11_tellNodes_57 : decode cX11_tellNodes 57 = .ok (.getfield 127, 3) := by decide +kernel
theorem dX11_tellNodes_60 : decode cX11_tellNodes 60 = .ok (.iload 4, 2) := by decide +kernel
theorem dX11_tellNodes_62 : decode cX11_tellNodes 62 = .ok (.iastore, 1) := by decide +kernel
theorem dX11_tellNodes_63 : decode cX11_tellNodes 63 = .ok (.aload_n 0, 1) := by decide +kernel
theorem dX11_tellNodes_64 : decode cX11_tellNodes 64 = .ok (.dup, 1) := by decide +kernel
theorem dX11_tellNodes_65 : decode cX11_tellNodes 65 = .ok (.getfield 127, 3) := by decide +kernel
theorem dX11_tellNodes_68 : decode cX11_tellNodes 68 = .ok (.iconst 1, 1) := by decide +kernel
theorem dX11_tellNodes_69 : decode cX11_tellNodes 69 = .ok (.iadd, 1) := by decide +kernel
theorem dX11_tellNodes_70 : decode cX11_tellNodes 70 = .ok (.putfield 127, 3) := by decide +kernel
theorem dX11_tellNodes_73 : decode cX11_tellNodes 73 = .ok (.iinc 4 1, 3) := by decide +kernel
theorem dX11_tellNodes_76 : decode cX11_tellNodes 76 = .ok (.goto (-68), 3) := by decide +kernel
theorem dX11_tellNodes_79 : decode cX11_tellNodes 79 = .ok (.return_, 1) := by decide +kernel
theorem dX11_next_0 : decode cX11_next 0 = .ok (.iconst 0, 1) := by decide +kernel
theorem dX11_next_1 : decode cX11_next 1 = .ok (.istore 5, 2) := by decide +kernel
theorem dX11_next_3 : decode cX11_next 3 = .ok (.iload_n 2, 1) := by decide +kernel
theorem dX11_next_4 : decode cX11_next 4 = .ok (.istore 6, 2) := by decide +kernel
theorem dX11_next_6 : decode cX11_next 6 = .ok (.iload 6, 2) := by decide +kernel
theorem dX11_next_8 : decode cX11_next 8 = .ok (.iload_n 3, 1) := by decide +kernel
theorem dX11_next_9 : decode cX11_next 9 = .ok (.if_icmp .ge 64, 3) := by decide +kernel
theorem dX11_next_12 : decode cX11_next 12 = .ok (.aload_n 0, 1) := by decide +kernel
theorem dX11_next_13 : decode cX11_next 13 = .ok (.iload_n 1, 1) := by decide +kernel
theorem dX11_next_14 : decode cX11_next 14 = .ok (.bipush 12, 2) := by decide +kernel
theorem dX11_next_16 : decode cX11_next 16 = .ok (.iload 6, 2) := by decide +kernel
theorem dX11_next_18 : decode cX11_next 18 = .ok (.iadd, 1) := by decide +kernel
theorem dX11_next_19 : decode cX11_next 19 = .ok (.invokevirtual 49, 3) := by decide +kernel
theorem dX11_next_22 : decode cX11_next 22 = .ok (.istore 7, 2) := by decide +kernel
theorem dX11_next_24 : decode cX11_next 24 = .ok (.iload 5, 2) := by decide +kernel
theorem dX11_next_26 : decode cX11_next 26 = .ok (.ifCond .ne 13, 3) := by decide +kernel
theorem dX11_next_29 : decode cX11_next 29 = .ok (.iload 7, 2) := by decide +kernel
theorem dX11_next_31 : decode cX11_next 31 = .ok (.iload 4, 2) := by decide +kernel
theorem dX11_next_33 : decode cX11_next 33 = .ok (.if_icmp .ne 6, 3) := by decide +kernel
theorem dX11_next_36 : decode cX11_next 36 = .ok (.iload 6, 2) := by decide +kernel
theorem dX11_next_38 : decode cX11_next 38 = .ok (.ireturn, 1) := by decide +kernel
theorem dX11_next_39 : decode cX11_next 39 = .ok (.iload 5, 2) := by decide +kernel
theorem dX11_next_41 : decode cX11_next 41 = .ok (.iload 7, 2) := by decide +kernel
theorem dX11_next_43 : decode cX11_next 43 = .ok (.bipush 40, 2) := by decide +kernel
theorem dX11_next_45 : decode cX11_next 45 = .ok (.if_icmp .ne 7, 3) := by decide +kernel
theorem dX11_next_48 : decode cX11_next 48 = .ok (.iconst 1, 1) := by decide +kernel
theorem dX11_next_49 : decode cX11_next 49 = .ok (.goto 15, 3) := by decide +kernel
theorem dX11_next_52 : decode cX11_next 52 = .ok (.iload 7, 2) := by decide +kernel
theorem dX11_next_54 : decode cX11_next 54 = .ok (.bipush 41, 2) := by decide +kernel
theorem dX11_next_56 : decode cX11_next 56 = .ok (.if_icmp .ne 7, 3) := by decide +kernel
theorem dX11_next_59 : decode cX11_next 59 = .ok (.iconst (-1), 1) := by decide +kernel
theorem dX11_next_60 : decode cX11_next 60 = .ok (.goto 4, 3) := by decide +kernel
theorem dX11_next_63 : decode cX11_next 63 = .ok (.iconst 0, 1) := by decide +kernel
theorem dX11_next_64 : decode cX11_next 64 = .ok (.iadd, 1) := by decide +kernel
theorem dX11_next_65 : decode cX11_next 65 = .ok (.istore 5, 2) := by decide +kernel
theorem dX11_next_67 : decode cX11_next 67 = .ok (.iinc 6 1, 3) := by decide +kernel
theorem dX11_next_70 : decode cX11_next 70 = .ok (.goto (-64), 3) := by decide +kernel
theorem dX11_next_73 : decode cX11_next 73 = .ok (.iload_n 3, 1) := by decide +kernel
theorem dX11_next_74 : decode cX11_next 74 = .ok (.ireturn, 1) := by decide +kernel
theorem dX11_isCount_0 : decode cX11_isCount 0 = .ok (.iload_n 2, 1) := by decide +kernel
theorem dX11_isCount_1 : decode cX11_isCount 1 = .ok (.iconst 1, 1) := by decide +kernel
theorem dX11_isCount_2 : decode cX11_isCount 2 = .ok (.iadd, 1) := by decide +kernel
theorem dX11_isCount_3 : decode cX11_isCount 3 = .ok (.iload_n 3, 1) := by decide +kernel
theorem dX11_isCount_4 : decode cX11_isCount 4 = .ok (.if_icmp .ge 23, 3) := by decide +kernel
theorem dX11_isCount_7 : decode cX11_isCount 7 = .ok (.aload_n 0, 1) := by decide +kernel
theorem dX11_isCount_8 : decode cX11_isCount 8 = .ok (.iload_n 1, 1) := by decide +kernel
theorem dX11_isCount_9 : decode cX11_isCount 9 = .ok (.bipush 12, 2) := by decide +kernel
theorem dX11_isCount_11 : decode cX11_isCount 11 = .ok (.iload_n 2, 1) := by decide +kernel
theorem dX11_isCount_12 : decode cX11_isCount 12 = .ok (.iadd, 1) := by decide +kernel
theorem dX11_isCount_13 : decode cX11_isCount 13 = .ok (.iconst 1, 1) := by decide +kernel
theorem dX11_isCount_14 : decode cX11_isCount 14 = .ok (.iadd, 1) := by decide +kernel
theorem dX11_isCount_15 : decode cX11_isCount 15 = .ok (.invokevirtual 49, 3) := by decide +kernel
theorem dX11_isCount_18 : decode cX11_isCount 18 = .ok (.bipush 111, 2) := by decide +kernel
theorem dX11_isCount_20 : decode cX11_isCount 20 = .ok (.if_icmp .ne 7, 3) := by decide +kernel
theorem dX11_isCount_23 : decode cX11_isCount 23 = .ok (.iconst 1, 1) := by decide +kernel
theorem dX11_isCount_24 : decode cX11_isCount 24 = .ok (.goto 4, 3) := by decide +kernel
theorem dX11_isCount_27 : decode cX11_isCount 27 = .ok (.iconst 0, 1) := by decide +kernel
theorem dX11_isCount_28 : decode cX11_isCount 28 = .ok (.ireturn, 1) := by decide +kernel
theorem dX11_holds_0 : decode cX11_holds 0 = .ok (.aload_n 0, 1) := by decide +kernel
theorem dX11_holds_1 : decode cX11_holds 1 = .ok (.iload_n 1, 1) := by decide +kernel
theorem dX11_holds_2 : decode cX11_holds 2 = .ok (.iload_n 2, 1) := by decide +kernel
theorem dX11_holds_3 : decode cX11_holds 3 = .ok (.iload_n 3, 1) := by decide +kernel
theorem dX11_holds_4 : decode cX11_holds 4 = .ok (.bipush 124, 2) := by decide +kernel
theorem dX11_holds_6 : decode cX11_holds 6 = .ok (.invokevirtual 130, 3) := by decide +kernel
theorem dX11_holds_9 : decode cX11_holds 9 = .ok (.istore 5, 2) := by decide +kernel
theorem dX11_holds_11 : decode cX11_holds 11 = .ok (.iload 5, 2) := by decide +kernel
theorem dX11_holds_13 : decode cX11_holds 13 = .ok (.iload_n 3, 1) := by decide +kernel
theorem dX11_holds_14 : decode cX11_holds 14 = .ok (.if_icmp .ge 37, 3) := by decide +kernel
theorem dX11_holds_17 : decode cX11_holds 17 = .ok (.aload_n 0, 1) := by decide +kernel
theorem dX11_holds_18 : decode cX11_holds 18 = .ok (.iload_n 1, 1) := by decide +kernel
theorem dX11_holds_19 : decode cX11_holds 19 = .ok (.iload_n 2, 1) := by decide +kernel
theorem dX11_holds_20 : decode cX11_holds 20 = .ok (.iload 5, 2) := by decide +kernel
theorem dX11_holds_22 : decode cX11_holds 22 = .ok (.iload 4, 2) := by decide +kernel
theorem dX11_holds_24 : decode cX11_holds 24 = .ok (.invokestatic 133, 3) := by decide +kernel
theorem dX11_holds_27 : decode cX11_holds 27 = .ok (.ifCond .ne 18, 3) := by decide +kernel
theorem dX11_holds_30 : decode cX11_holds 30 = .ok (.aload_n 0, 1) := by decide +kernel
theorem dX11_holds_31 : decode cX11_holds 31 = .ok (.iload_n 1, 1) := by decide +kernel
theorem dX11_holds_32 : decode cX11_holds 32 = .ok (.iload 5, 2) := by decide +kernel
theorem dX11_holds_34 : decode cX11_holds 34 = .ok (.iconst 1, 1) := by decide +kernel
theorem dX11_holds_35 : decode cX11_holds 35 = .ok (.iadd, 1) := by decide +kernel
theorem dX11_holds_36 : decode cX11_holds 36 = .ok (.iload_n 3, 1) := by decide +kernel
theorem dX11_holds_37 : decode cX11_holds 37 = .ok (.iload 4, 2) := by decide +kernel
theorem dX11_holds_39 : decode cX11_holds 39 = .ok (.invokestatic 133, 3) := by decide +kernel
theorem dX11_holds_42 : decode cX11_holds 42 = .ok (.ifCond .eq 7, 3) := by decide +kernel
theorem dX11_holds_45 : decode cX11_holds 45 = .ok (.iconst 1, 1) := by decide +kernel
theorem dX11_holds_46 : decode cX11_holds 46 = .ok (.goto 4, 3) := by decide +kernel
theorem dX11_holds_49 : decode cX11_holds 49 = .ok (.iconst 0, 1) := by decide +kernel
theorem dX11_holds_50 : decode cX11_holds 50 = .ok (.ireturn, 1) := by decide +kernel
theorem dX11_holds_51 : decode cX11_holds 51 = .ok (.aload_n 0, 1) := by decide +kernel
theorem dX11_holds_52 : decode cX11_holds 52 = .ok (.iload_n 1, 1) := by decide +kernel
theorem dX11_holds_53 : decode cX11_holds 53 = .ok (.iload_n 2, 1) := by decide +kernel
theorem dX11_holds_54 : decode cX11_holds 54 = .ok (.iload_n 3, 1) := by decide +kernel
theorem dX11_holds_55 : decode cX11_holds 55 = .ok (.bipush 38, 2) := by decide +kernel
theorem dX11_holds_57 : decode cX11_holds 57 = .ok (.invokevirtual 130, 3) := by decide +kernel
theorem dX11_holds_60 : decode cX11_holds 60 = .ok (.istore 6, 2) := by decide +kernel
theorem dX11_holds_62 : decode cX11_holds 62 = .ok (.iload 6, 2) := by decide +kernel
theorem dX11_holds_64 : decode cX11_holds 64 = .ok (.iload_n 3, 1) := by decide +kernel
theorem dX11_holds_65 : decode cX11_holds 65 = .ok (.if_icmp .ge 37, 3) := by decide +kernel
theorem dX11_holds_68 : decode cX11_holds 68 = .ok (.aload_n 0, 1) := by decide +kernel
theorem dX11_holds_69 : decode cX11_holds 69 = .ok (.iload_n 1, 1) := by decide +kernel
theorem dX11_holds_70 : decode cX11_holds 70 = .ok (.iload_n 2, 1) := by decide +kernel
theorem dX11_holds_71 : decode cX11_holds 71 = .ok (.iload 6, 2) := by decide +kernel
theorem dX11_holds_73 : decode cX11_holds 73 = .ok (.iload 4, 2) := by decide +kernel
theorem dX11_holds_75 : decode cX11_holds 75 = .ok (.invokestatic 133, 3) := by decide +kernel
theorem dX11_holds_78 : decode cX11_holds 78 = .ok (.ifCond .eq 22, 3) := by decide +kernel
theorem dX11_holds_81 : decode cX11_holds 81 = .ok (.aload_n 0, 1) := by decide +kernel
theorem dX11_holds_82 : decode cX11_holds 82 = .ok (.iload_n 1, 1) := by decide +kernel
theorem dX11_holds_83 : decode cX11_holds 83 = .ok (.iload 6, 2) := by decide +kernel
theorem dX11_holds_85 : decode cX11_holds 85 = .ok (.iconst 1, 1) := by decide +kernel
theorem dX11_holds_86 : decode cX11_holds 86 = .ok (.iadd, 1) := by decide +kernel
theorem dX11_holds_87 : decode cX11_holds 87 = .ok (.iload_n 3, 1) := by decide +kernel
theorem dX11_holds_88 : decode cX11_holds 88 = .ok (.iload 4, 2) := by decide +kernel
theorem dX11_holds_90 : decode cX11_holds 90 = .ok (.invokestatic 133, 3) := by decide +kernel
theorem dX11_holds_93 : decode cX11_holds 93 = .ok (.ifCond .eq 7, 3) := by decide +kernel
theorem dX11_holds_96 : decode cX11_holds 96 = .ok (.iconst 1, 1) := by decide +kernel
theorem dX11_holds_97 : decode cX11_holds 97 = .ok (.goto 4, 3) := by decide +kernel
theorem dX11_holds_100 : decode cX11_holds 100 = .ok (.iconst 0, 1) := by decide +kernel
theorem dX11_holds_101 : decode cX11_holds 101 = .ok (.ireturn, 1) := by decide +kernel
theorem dX11_holds_102 : decode cX11_holds 102 = .ok (.aload_n 0, 1) := by decide +kernel
theorem dX11_holds_103 : decode cX11_holds 103 = .ok (.iload_n 1, 1) := by decide +kernel
theorem dX11_holds_104 : decode cX11_holds 104 = .ok (.bipush 12, 2) := by decide +kernel
theorem dX11_holds_106 : decode cX11_holds 106 = .ok (.iload_n 2, 1) := by decide +kernel
theorem dX11_holds_107 : decode cX11_holds 107 = .ok (.iadd, 1) := by decide +kernel
theorem dX11_holds_108 : decode cX11_holds 108 = .ok (.invokevirtual 49, 3) := by decide +kernel
theorem dX11_holds_111 : decode cX11_holds 111 = .ok (.istore 7, 2) := by decide +kernel
theorem dX11_holds_113 : decode cX11_holds 113 = .ok (.iload 7, 2) := by decide +kernel
theorem dX11_holds_115 : decode cX11_holds 115 = .ok (.bipush 40, 2) := by decide +kernel
theorem dX11_holds_117 : decode cX11_holds 117 = .ok (.if_icmp .ne 17, 3) := by decide +kernel
theorem dX11_holds_120 : decode cX11_holds 120 = .ok (.aload_n 0, 1) := by decide +kernel
theorem dX11_holds_121 : decode cX11_holds 121 = .ok (.iload_n 1, 1) := by decide +kernel
theorem dX11_holds_122 : decode cX11_holds 122 = .ok (.iload_n 2, 1) := by decide +kernel
theorem dX11_holds_123 : decode cX11_holds 123 = .ok (.iconst 1, 1) := by decide +kernel
theorem dX11_holds_124 : decode cX11_holds 124 = .ok (.iadd, 1) := by decide +kernel
theorem dX11_holds_125 : decode cX11_holds 125 = .ok (.iload_n 3, 1) := by decide +kernel
theorem dX11_holds_126 : decode cX11_holds 126 = .ok (.iconst 1, 1) := by decide +kernel
theorem dX11_holds_127 : decode cX11_holds 127 = .ok (.isub, 1) := by decide +kernel
theorem dX11_holds_128 : decode cX11_holds 128 = .ok (.iload 4, 2) := by decide +kernel
theorem dX11_holds_130 : decode cX11_holds 130 = .ok (.invokestatic 133, 3) := by decide +kernel
theorem dX11_holds_133 : decode cX11_holds 133 = .ok (.ireturn, 1) := by decide +kernel
theorem dX11_holds_134 : decode cX11_holds 134 = .ok (.aload_n 0, 1) := by decide +kernel
theorem dX11_holds_135 : decode cX11_holds 135 = .ok (.iload_n 1, 1) := by decide +kernel
theorem dX11_holds_136 : decode cX11_holds 136 = .ok (.iload_n 2, 1) := by decide +kernel
theorem dX11_holds_137 : decode cX11_holds 137 = .ok (.iload_n 3, 1) := by decide +kernel
theorem dX11_holds_138 : decode cX11_holds 138 = .ok (.invokevirtual 137, 3) := by decide +kernel
theorem dX11_holds_141 : decode cX11_holds 141 = .ok (.ifCond .ne 23, 3) := by decide +kernel
theorem dX11_holds_144 : decode cX11_holds 144 = .ok (.iload 4, 2) := by decide +kernel
theorem dX11_holds_146 : decode cX11_holds 146 = .ok (.iload 7, 2) := by decide +kernel
theorem dX11_holds_148 : decode cX11_holds 148 = .ok (.bipush 48, 2) := by decide +kernel
theorem dX11_holds_150 : decode cX11_holds 150 = .ok (.isub, 1) := by decide +kernel
theorem dX11_holds_151 : decode cX11_holds 151 = .ok (.ishr, 1) := by decide +kernel
theorem dX11_holds_152 : decode cX11_holds 152 = .ok (.iconst 1, 1) := by decide +kernel
theorem dX11_holds_153 : decode cX11_holds 153 = .ok (.iand, 1) := by decide +kernel
theorem dX11_holds_154 : decode cX11_holds 154 = .ok (.iconst 1, 1) := by decide +kernel
theorem dX11_holds_155 : decode cX11_holds 155 = .ok (.if_icmp .ne 7, 3) := by decide +kernel
theorem dX11_holds_158 : decode cX11_holds 158 = .ok (.iconst 1, 1) := by decide +kernel
theorem dX11_holds_159 : decode cX11_holds 159 = .ok (.goto 4, 3) := by decide +kernel
theorem dX11_holds_162 : decode cX11_holds 162 = .ok (.iconst 0, 1) := by decide +kernel
theorem dX11_holds_163 : decode cX11_holds 163 = .ok (.ireturn, 1) := by decide +kernel
theorem dX11_holds_164 : decode cX11_holds 164 = .ok (.iconst 0, 1) := by decide +kernel
theorem dX11_holds_165 : decode cX11_holds 165 = .ok (.istore 8, 2) := by decide +kernel
theorem dX11_holds_167 : decode cX11_holds 167 = .ok (.iload_n 2, 1) := by decide +kernel
theorem dX11_holds_168 : decode cX11_holds 168 = .ok (.iconst 4, 1) := by decide +kernel
theorem dX11_holds_169 : decode cX11_holds 169 = .ok (.iadd, 1) := by decide +kernel
theorem dX11_holds_170 : decode cX11_holds 170 = .ok (.istore 9, 2) := by decide +kernel
theorem dX11_holds_172 : decode cX11_holds 172 = .ok (.iload 9, 2) := by decide +kernel
theorem dX11_holds_174 : decode cX11_holds 174 = .ok (.iload_n 3, 1) := by decide +kernel
theorem dX11_holds_175 : decode cX11_holds 175 = .ok (.iconst 1, 1) := by decide +kernel
theorem dX11_holds_176 : decode cX11_holds 176 = .ok (.isub, 1) := by decide +kernel
theorem dX11_holds_177 : decode cX11_holds 177 = .ok (.if_icmp .ge 50, 3) := by decide +kernel
theorem dX11_holds_180 : decode cX11_holds 180 = .ok (.aload_n 0, 1) := by decide +kernel
theorem dX11_holds_181 : decode cX11_holds 181 = .ok (.iload_n 1, 1) := by decide +kernel
theorem dX11_holds_182 : decode cX11_holds 182 = .ok (.iload 9, 2) := by decide +kernel
theorem dX11_holds_184 : decode cX11_holds 184 = .ok (.iload_n 3, 1) := by decide +kernel
theorem dX11_holds_185 : decode cX11_holds 185 = .ok (.iconst 1, 1) := by decide +kernel
theorem dX11_holds_186 : decode cX11_holds 186 = .ok (.isub, 1) := by decide +kernel
theorem dX11_holds_187 : decode cX11_holds 187 = .ok (.bipush 44, 2) := by decide +kernel
theorem dX11_holds_189 : decode cX11_holds 189 = .ok (.invokevirtual 130, 3) := by decide +kernel
theorem dX11_holds_192 : decode cX11_holds 192 = .ok (.istore 10, 2) := by decide +kernel
theorem dX11_holds_194 : decode cX11_holds 194 = .ok (.iload 8, 2) := by decide +kernel
theorem dX11_holds_196 : decode cX11_holds 196 = .ok (.aload_n 0, 1) := by decide +kernel
theorem dX11_holds_197 : decode cX11_holds 197 = .ok (.iload_n 1, 1) := by decide +kernel
theorem dX11_holds_198 : decode cX11_holds 198 = .ok (.iload 9, 2) := by decide +kernel
theorem dX11_holds_200 : decode cX11_holds 200 = .ok (.iload 10, 2) := by decide +kernel
theorem dX11_holds_202 : decode cX11_holds 202 = .ok (.iload 4, 2) := by decide +kernel
theorem dX11_holds_204 : decode cX11_holds 204 = .ok (.invokestatic 133, 3) := by decide +kernel
theorem dX11_holds_207 : decode cX11_holds 207 = .ok (.ifCond .eq 7, 3) := by decide +kernel
theorem dX11_holds_210 : decode cX11_holds 210 = .ok (.iconst 1, 1) := by decide +kernel
theorem dX11_holds_211 : decode cX11_holds 211 = .ok (.goto 4, 3) := by decide +kernel
theorem dX11_holds_214 : decode cX11_holds 214 = .ok (.iconst 0, 1) := by decide +kernel
theorem dX11_holds_215 : decode cX11_holds 215 = .ok (.iadd, 1) := by decide +kernel
theorem dX11_holds_216 : decode cX11_holds 216 = .ok (.istore 8, 2) := by decide +kernel
theorem dX11_holds_218 : decode cX11_holds 218 = .ok (.iload 10, 2) := by decide +kernel
theorem dX11_holds_220 : decode cX11_holds 220 = .ok (.iconst 1, 1) := by decide +kernel
theorem dX11_holds_221 : decode cX11_holds 221 = .ok (.iadd, 1) := by decide +kernel
theorem dX11_holds_222 : decode cX11_holds 222 = .ok (.istore 9, 2) := by decide +kernel
theorem dX11_holds_224 : decode cX11_holds 224 = .ok (.goto (-52), 3) := by decide +kernel
theorem dX11_holds_227 : decode cX11_holds 227 = .ok (.iload 8, 2) := by decide +kernel
theorem dX11_holds_229 : decode cX11_holds 229 = .ok (.iload 7, 2) := by decide +kernel
theorem dX11_holds_231 : decode cX11_holds 231 = .ok (.bipush 48, 2) := by decide +kernel
theorem dX11_holds_233 : decode cX11_holds 233 = .ok (.isub, 1) := by decide +kernel
theorem dX11_holds_234 : decode cX11_holds 234 = .ok (.if_icmp .lt 7, 3) := by decide +kernel
theorem dX11_holds_237 : decode cX11_holds 237 = .ok (.iconst 1, 1) := by decide +kernel
theorem dX11_holds_238 : decode cX11_holds 238 = .ok (.goto 4, 3) := by decide +kernel
theorem dX11_holds_241 : decode cX11_holds 241 = .ok (.iconst 0, 1) := by decide +kernel
theorem dX11_holds_242 : decode cX11_holds 242 = .ok (.ireturn, 1) := by decide +kernel
theorem dX11_hasPolicy_0 : decode cX11_hasPolicy 0 = .ok (.aload_n 0, 1) := by decide +kernel
theorem dX11_hasPolicy_1 : decode cX11_hasPolicy 1 = .ok (.iload_n 1, 1) := by decide +kernel
theorem dX11_hasPolicy_2 : decode cX11_hasPolicy 2 = .ok (.bipush 11, 2) := by decide +kernel
theorem dX11_hasPolicy_4 : decode cX11_hasPolicy 4 = .ok (.invokevirtual 49, 3) := by decide +kernel
theorem dX11_hasPolicy_7 : decode cX11_hasPolicy 7 = .ok (.ifCond .le 7, 3) := by decide +kernel
theorem dX11_hasPolicy_10 : decode cX11_hasPolicy 10 = .ok (.iconst 1, 1) := by decide +kernel
theorem dX11_hasPolicy_11 : decode cX11_hasPolicy 11 = .ok (.goto 4, 3) := by decide +kernel
theorem dX11_hasPolicy_14 : decode cX11_hasPolicy 14 = .ok (.iconst 0, 1) := by decide +kernel
theorem dX11_hasPolicy_15 : decode cX11_hasPolicy 15 = .ok (.ireturn, 1) := by decide +kernel
theorem dX11_fulfilled_0 : decode cX11_fulfilled 0 = .ok (.aload_n 0, 1) := by decide +kernel
theorem dX11_fulfilled_1 : decode cX11_fulfilled 1 = .ok (.iload_n 1, 1) := by decide +kernel
theorem dX11_fulfilled_2 : decode cX11_fulfilled 2 = .ok (.invokevirtual 140, 3) := by decide +kernel
theorem dX11_fulfilled_5 : decode cX11_fulfilled 5 = .ok (.ifCond .eq 20, 3) := by decide +kernel
theorem dX11_fulfilled_8 : decode cX11_fulfilled 8 = .ok (.aload_n 0, 1) := by decide +kernel
theorem dX11_fulfilled_9 : decode cX11_fulfilled 9 = .ok (.iload_n 1, 1) := by decide +kernel
theorem dX11_fulfilled_10 : decode cX11_fulfilled 10 = .ok (.iconst 0, 1) := by decide +kernel
theorem dX11_fulfilled_11 : decode cX11_fulfilled 11 = .ok (.aload_n 0, 1) := by decide +kernel
theorem dX11_fulfilled_12 : decode cX11_fulfilled 12 = .ok (.iload_n 1, 1) := by decide +kernel
theorem dX11_fulfilled_13 : decode cX11_fulfilled 13 = .ok (.bipush 11, 2) := by decide +kernel
theorem dX11_fulfilled_15 : decode cX11_fulfilled 15 = .ok (.invokevirtual 49, 3) := by decide +kernel
theorem dX11_fulfilled_18 : decode cX11_fulfilled 18 = .ok (.iload_n 2, 1) := by decide +kernel
theorem dX11_fulfilled_19 : decode cX11_fulfilled 19 = .ok (.invokestatic 133, 3) := by decide +kernel
theorem dX11_fulfilled_22 : decode cX11_fulfilled 22 = .ok (.ifCond .eq 7, 3) := by decide +kernel
theorem dX11_fulfilled_25 : decode cX11_fulfilled 25 = .ok (.iconst 1, 1) := by decide +kernel
theorem dX11_fulfilled_26 : decode cX11_fulfilled 26 = .ok (.goto 4, 3) := by decide +kernel
theorem dX11_fulfilled_29 : decode cX11_fulfilled 29 = .ok (.iconst 0, 1) := by decide +kernel
theorem dX11_fulfilled_30 : decode cX11_fulfilled 30 = .ok (.ireturn, 1) := by decide +kernel
theorem dX11_taken_0 : decode cX11_taken 0 = .ok (.iconst 0, 1) := by decide +kernel
theorem dX11_taken_1 : decode cX11_taken 1 = .ok (.istore_n 2, 1) := by decide +kernel
theorem dX11_taken_2 : decode cX11_taken 2 = .ok (.iconst 0, 1) := by decide +kernel
theorem dX11_taken_3 : decode cX11_taken 3 = .ok (.istore_n 3, 1) := by decide +kernel
theorem dX11_taken_4 : decode cX11_taken 4 = .ok (.iload_n 3, 1) := by decide +kernel
theorem dX11_taken_5 : decode cX11_taken 5 = .ok (.bipush 8, 2) := by decide +kernel
theorem dX11_taken_7 : decode cX11_taken 7 = .ok (.if_icmp .ge 36, 3) := by decide +kernel
theorem dX11_taken_10 : decode cX11_taken 10 = .ok (.iload_n 2, 1) := by decide +kernel
theorem dX11_taken_11 : decode cX11_taken 11 = .ok (.iload_n 1, 1) := by decide +kernel
theorem dX11_taken_12 : decode cX11_taken 12 = .ok (.iload_n 3, 1) := by decide +kernel
theorem dX11_taken_13 : decode cX11_taken 13 = .ok (.ishr, 1) := by decide +kernel
theorem dX11_taken_14 : decode cX11_taken 14 = .ok (.iconst 1, 1) := by decide +kernel
theorem dX11_taken_15 : decode cX11_taken 15 = .ok (.iand, 1) := by decide +kernel
theorem dX11_taken_16 : decode cX11_taken 16 = .ok (.iconst 1, 1) := by decide +kernel
theorem dX11_taken_17 : decode cX11_taken 17 = .ok (.if_icmp .ne 17, 3) := by decide +kernel
theorem dX11_taken_20 : decode cX11_taken 20 = .ok (.aload_n 0, 1) := by decide +kernel
theorem dX11_taken_21 : decode cX11_taken 21 = .ok (.iload_n 3, 1) := by decide +kernel
theorem dX11_taken_22 : decode cX11_taken 22 = .ok (.invokevirtual 83, 3) := by decide +kernel
theorem dX11_taken_25 : decode cX11_taken 25 = .ok (.ifCond .eq 9, 3) := by decide +kernel
theorem dX11_taken_28 : decode cX11_taken 28 = .ok (.iconst 1, 1) := by decide +kernel
theorem dX11_taken_29 : decode cX11_taken 29 = .ok (.iload_n 3, 1) := by decide +kernel
theorem dX11_taken_30 : decode cX11_taken 30 = .ok (.ishl, 1) := by decide +kernel
theorem dX11_taken_31 : decode cX11_taken 31 = .ok (.goto 4, 3) := by decide +kernel
theorem dX11_taken_34 : decode cX11_taken 34 = .ok (.iconst 0, 1) := by decide +kernel
theorem dX11_taken_35 : decode cX11_taken 35 = .ok (.ior, 1) := by decide +kernel
theorem dX11_taken_36 : decode cX11_taken 36 = .ok (.istore_n 2, 1) := by decide +kernel
theorem dX11_taken_37 : decode cX11_taken 37 = .ok (.iinc 3 1, 3) := by decide +kernel
theorem dX11_taken_40 : decode cX11_taken 40 = .ok (.goto (-36), 3) := by decide +kernel
theorem dX11_taken_43 : decode cX11_taken 43 = .ok (.iload_n 2, 1) := by decide +kernel
theorem dX11_taken_44 : decode cX11_taken 44 = .ok (.ireturn, 1) := by decide +kernel
theorem dX11_opens_0 : decode cX11_opens 0 = .ok (.aload_n 0, 1) := by decide +kernel
theorem dX11_opens_1 : decode cX11_opens 1 = .ok (.iload_n 2, 1) := by decide +kernel
theorem dX11_opens_2 : decode cX11_opens 2 = .ok (.invokevirtual 143, 3) := by decide +kernel
theorem dX11_opens_5 : decode cX11_opens 5 = .ok (.istore_n 3, 1) := by decide +kernel
theorem dX11_opens_6 : decode cX11_opens 6 = .ok (.aload_n 0, 1) := by decide +kernel
theorem dX11_opens_7 : decode cX11_opens 7 = .ok (.iload_n 1, 1) := by decide +kernel
theorem dX11_opens_8 : decode cX11_opens 8 = .ok (.iload_n 3, 1) := by decide +kernel
theorem dX11_opens_9 : decode cX11_opens 9 = .ok (.iconst 1, 1) := by decide +kernel
theorem dX11_opens_10 : decode cX11_opens 10 = .ok (.invokevirtual 146, 3) := by decide +kernel
theorem dX11_opens_13 : decode cX11_opens 13 = .ok (.aload_n 0, 1) := by decide +kernel
theorem dX11_opens_14 : decode cX11_opens 14 = .ok (.iload_n 1, 1) := by decide +kernel
theorem dX11_opens_15 : decode cX11_opens 15 = .ok (.iload_n 3, 1) := by decide +kernel
theorem dX11_opens_16 : decode cX11_opens 16 = .ok (.invokevirtual 150, 3) := by decide +kernel
theorem dX11_opens_19 : decode cX11_opens 19 = .ok (.ifCond .eq 20, 3) := by decide +kernel
theorem dX11_opens_22 : decode cX11_opens 22 = .ok (.aload_n 0, 1) := by decide +kernel
theorem dX11_opens_23 : decode cX11_opens 23 = .ok (.getfield 127, 3) := by decide +kernel
theorem dX11_opens_26 : decode cX11_opens 26 = .ok (.aload_n 0, 1) := by decide +kernel
theorem dX11_opens_27 : decode cX11_opens 27 = .ok (.iload_n 1, 1) := by decide +kernel
theorem dX11_opens_28 : decode cX11_opens 28 = .ok (.iconst 1, 1) := by decide +kernel
theorem dX11_opens_29 : decode cX11_opens 29 = .ok (.invokevirtual 49, 3) := by decide +kernel
theorem dX11_opens_32 : decode cX11_opens 32 = .ok (.if_icmp .lt 7, 3) := by decide +kernel
theorem dX11_opens_35 : decode cX11_opens 35 = .ok (.iconst 1, 1) := by decide +kernel
theorem dX11_opens_36 : decode cX11_opens 36 = .ok (.goto 4, 3) := by decide +kernel
theorem dX11_opens_39 : decode cX11_opens 39 = .ok (.iconst 0, 1) := by decide +kernel
theorem dX11_opens_40 : decode cX11_opens 40 = .ok (.ireturn, 1) := by decide +kernel
theorem dX11_level_0 : decode cX11_level 0 = .ok (.aload_n 0, 1) := by decide +kernel
theorem dX11_level_1 : decode cX11_level 1 = .ok (.getfield 22, 3) := by decide +kernel
theorem dX11_level_4 : decode cX11_level 4 = .ok (.aload_n 0, 1) := by decide +kernel
theorem dX11_level_5 : decode cX11_level 5 = .ok (.getfield 153, 3) := by decide +kernel
theorem dX11_level_8 : decode cX11_level 8 = .ok (.iload_n 1, 1) := by decide +kernel
theorem dX11_level_9 : decode cX11_level 9 = .ok (.iastore, 1) := by decide +kernel
theorem dX11_level_10 : decode cX11_level 10 = .ok (.aload_n 0, 1) := by decide +kernel
theorem dX11_level_11 : decode cX11_level 11 = .ok (.getfield 25, 3) := by decide +kernel
theorem dX11_level_14 : decode cX11_level 14 = .ok (.aload_n 0, 1) := by decide +kernel
theorem dX11_level_15 : decode cX11_level 15 = .ok (.getfield 153, 3) := by decide +kernel
theorem dX11_level_18 : decode cX11_level 18 = .ok (.iload_n 2, 1) := by decide +kernel
theorem dX11_level_19 : decode cX11_level 19 = .ok (.iastore, 1) := by decide +kernel
theorem dX11_level_20 : decode cX11_level 20 = .ok (.aload_n 0, 1) := by decide +kernel
theorem dX11_level_21 : decode cX11_level 21 = .ok (.dup, 1) := by decide +kernel
theorem dX11_level_22 : decode cX11_level 22 = .ok (.getfield 153, 3) := by decide +kernel
theorem dX11_level_25 : decode cX11_level 25 = .ok (.iconst 1, 1) := by decide +kernel
theorem dX11_level_26 : decode cX11_level 26 = .ok (.iadd, 1) := by decide +kernel
theorem dX11_level_27 : decode cX11_level 27 = .ok (.putfield 153, 3) := by decide +kernel
theorem dX11_level_30 : decode cX11_level 30 = .ok (.return_, 1) := by decide +kernel
theorem dX11_reports_0 : decode cX11_reports 0 = .ok (.aload_n 0, 1) := by decide +kernel
theorem dX11_reports_1 : decode cX11_reports 1 = .ok (.iload_n 2, 1) := by decide +kernel
theorem dX11_reports_2 : decode cX11_reports 2 = .ok (.invokevirtual 143, 3) := by decide +kernel
theorem dX11_reports_5 : decode cX11_reports 5 = .ok (.istore_n 3, 1) := by decide +kernel
theorem dX11_reports_6 : decode cX11_reports 6 = .ok (.aload_n 0, 1) := by decide +kernel
theorem dX11_reports_7 : decode cX11_reports 7 = .ok (.iconst 0, 1) := by decide +kernel
theorem dX11_reports_8 : decode cX11_reports 8 = .ok (.putfield 153, 3) := by decide +kernel
theorem dX11_reports_11 : decode cX11_reports 11 = .ok (.aload_n 0, 1) := by decide +kernel
theorem dX11_reports_12 : decode cX11_reports 12 = .ok (.iconst 1, 1) := by decide +kernel
theorem dX11_reports_13 : decode cX11_reports 13 = .ok (.iload_n 1, 1) := by decide +kernel
theorem dX11_reports_14 : decode cX11_reports 14 = .ok (.invokevirtual 156, 3) := by decide +kernel
theorem dX11_reports_17 : decode cX11_reports 17 = .ok (.aload_n 0, 1) := by decide +kernel
theorem dX11_reports_18 : decode cX11_reports 18 = .ok (.iload_n 1, 1) := by decide +kernel
theorem dX11_reports_19 : decode cX11_reports 19 = .ok (.iload_n 3, 1) := by decide +kernel
theorem dX11_reports_20 : decode cX11_reports 20 = .ok (.invokevirtual 150, 3) := by decide +kernel
theorem dX11_reports_23 : decode cX11_reports 23 = .ok (.ifCond .ne 10, 3) := by decide +kernel
theorem dX11_reports_26 : decode cX11_reports 26 = .ok (.aload_n 0, 1) := by decide +kernel
theorem dX11_reports_27 : decode cX11_reports 27 = .ok (.iconst 2, 1) := by decide +kernel
theorem dX11_reports_28 : decode cX11_reports 28 = .ok (.iload_n 3, 1) := by decide +kernel
theorem dX11_reports_29 : decode cX11_reports 29 = .ok (.invokevirtual 156, 3) := by decide +kernel
theorem dX11_reports_32 : decode cX11_reports 32 = .ok (.return_, 1) := by decide +kernel
theorem dX11_reports_33 : decode cX11_reports 33 = .ok (.aload_n 0, 1) := by decide +kernel
theorem dX11_reports_34 : decode cX11_reports 34 = .ok (.iload_n 1, 1) := by decide +kernel
theorem dX11_reports_35 : decode cX11_reports 35 = .ok (.iload_n 3, 1) := by decide +kernel
theorem dX11_reports_36 : decode cX11_reports 36 = .ok (.iconst 1, 1) := by decide +kernel
theorem dX11_reports_37 : decode cX11_reports 37 = .ok (.invokevirtual 146, 3) := by decide +kernel
theorem dX11_reports_40 : decode cX11_reports 40 = .ok (.aload_n 0, 1) := by decide +kernel
theorem dX11_reports_41 : decode cX11_reports 41 = .ok (.iconst 3, 1) := by decide +kernel
theorem dX11_reports_42 : decode cX11_reports 42 = .ok (.aload_n 0, 1) := by decide +kernel
theorem dX11_reports_43 : decode cX11_reports 43 = .ok (.iload_n 1, 1) := by decide +kernel
theorem dX11_reports_44 : decode cX11_reports 44 = .ok (.iconst 1, 1) := by decide +kernel
theorem dX11_reports_45 : decode cX11_reports 45 = .ok (.invokevirtual 49, 3) := by decide +kernel
theorem dX11_reports_48 : decode cX11_reports 48 = .ok (.aload_n 0, 1) := by decide +kernel
theorem dX11_reports_49 : decode cX11_reports 49 = .ok (.getfield 127, 3) := by decide +kernel
theorem dX11_reports_52 : decode cX11_reports 52 = .ok (.isub, 1) := by decide +kernel
theorem dX11_reports_53 : decode cX11_reports 53 = .ok (.invokevirtual 156, 3) := by decide +kernel
theorem dX11_reports_56 : decode cX11_reports 56 = .ok (.iconst 1, 1) := by decide +kernel
theorem dX11_reports_57 : decode cX11_reports 57 = .ok (.istore 4, 2) := by decide +kernel
theorem dX11_reports_59 : decode cX11_reports 59 = .ok (.iload 4, 2) := by decide +kernel
theorem dX11_reports_61 : decode cX11_reports 61 = .ok (.bipush 24, 2) := by decide +kernel
theorem dX11_reports_63 : decode cX11_reports 63 = .ok (.if_icmp .gt 57, 3) := by decide +kernel
theorem dX11_reports_66 : decode cX11_reports 66 = .ok (.iload_n 3, 1) := by decide +kernel
theorem dX11_reports_67 : decode cX11_reports 67 = .ok (.iload 4, 2) := by decide +kernel
theorem dX11_reports_69 : decode cX11_reports 69 = .ok (.invokestatic 61, 3) := by decide +kernel
theorem dX11_reports_72 : decode cX11_reports 72 = .ok (.ishr, 1) := by decide +kernel
theorem dX11_reports_73 : decode cX11_reports 73 = .ok (.iconst 1, 1) := by decide +kernel
theorem dX11_reports_74 : decode cX11_reports 74 = .ok (.iand, 1) := by decide +kernel
theorem dX11_reports_75 : decode cX11_reports 75 = .ok (.iconst 1, 1) := by decide +kernel
theorem dX11_reports_76 : decode cX11_reports 76 = .ok (.if_icmp .ne 38, 3) := by decide +kernel
theorem dX11_reports_79 : decode cX11_reports 79 = .ok (.aload_n 0, 1) := by decide +kernel
theorem dX11_reports_80 : decode cX11_reports 80 = .ok (.iload_n 1, 1) := by decide +kernel
theorem dX11_reports_81 : decode cX11_reports 81 = .ok (.iload 4, 2) := by decide +kernel
theorem dX11_reports_83 : decode cX11_reports 83 = .ok (.invokevirtual 86, 3) := by decide +kernel
theorem dX11_reports_86 : decode cX11_reports 86 = .ok (.ifCond .eq 28, 3) := by decide +kernel
theorem dX11_reports_89 : decode cX11_reports 89 = .ok (.aload_n 0, 1) := by decide +kernel
theorem dX11_reports_90 : decode cX11_reports 90 = .ok (.iload_n 1, 1) := by decide +kernel
theorem dX11_reports_91 : decode cX11_reports 91 = .ok (.iload 4, 2) := by decide +kernel
theorem dX11_reports_93 : decode cX11_reports 93 = .ok (.invokevirtual 90, 3) := by decide +kernel
theorem dX11_reports_96 : decode cX11_reports 96 = .ok (.ifCond .eq 18, 3) := by decide +kernel
theorem dX11_reports_99 : decode cX11_reports 99 = .ok (.aload_n 0, 1) := by decide +kernel
theorem dX11_reports_100 : decode cX11_reports 100 = .ok (.aload_n 0, 1) := by decide +kernel
theorem dX11_reports_101 : decode cX11_reports 101 = .ok (.iload_n 1, 1) := by decide +kernel
theorem dX11_reports_102 : decode cX11_reports 102 = .ok (.iload 4, 2) := by decide +kernel
theorem dX11_reports_104 : decode cX11_reports 104 = .ok (.invokevirtual 90, 3) := by decide +kernel
theorem dX11_reports_107 : decode cX11_reports 107 = .ok (.iconst 3, 1) := by decide +kernel
theorem dX11_reports_108 : decode cX11_reports 108 = .ok (.iadd, 1) := by decide +kernel
theorem dX11_reports_109 : decode cX11_reports 109 = .ok (.iload 4, 2) := by decide +kernel
theorem dX11_reports_111 : decode cX11_reports 111 = .ok (.invokevirtual 156, 3) := by decide +kernel
theorem dX11_reports_114 : decode cX11_reports 114 = .ok (.iinc 4 1, 3) := by decide +kernel
theorem dX11_reports_117 : decode cX11_reports 117 = .ok (.goto (-58), 3) := by decide +kernel
theorem dX11_reports_120 : decode cX11_reports 120 = .ok (.return_, 1) := by decide +kernel
theorem dX11_lacksOpen_0 : decode cX11_lacksOpen 0 = .ok (.iload_n 1, 1) := by decide +kernel
theorem dX11_lacksOpen_1 : decode cX11_lacksOpen 1 = .ok (.invokestatic 107, 3) := by decide +kernel
theorem dX11_lacksOpen_4 : decode cX11_lacksOpen 4 = .ok (.ifCond .ne 5, 3) := by decide +kernel
theorem dX11_lacksOpen_7 : decode cX11_lacksOpen 7 = .ok (.iconst 1, 1) := by decide +kernel
theorem dX11_lacksOpen_8 : decode cX11_lacksOpen 8 = .ok (.ireturn, 1) := by decide +kernel
theorem dX11_lacksOpen_9 : decode cX11_lacksOpen 9 = .ok (.iload_n 2, 1) := by decide +kernel
theorem dX11_lacksOpen_10 : decode cX11_lacksOpen 10 = .ok (.invokestatic 159, 3) := by decide +kernel
theorem dX11_lacksOpen_13 : decode cX11_lacksOpen 13 = .ok (.ifCond .ne 5, 3) := by decide +kernel
theorem dX11_lacksOpen_16 : decode cX11_lacksOpen 16 = .ok (.iconst 2, 1) := by decide +kernel
theorem dX11_lacksOpen_17 : decode cX11_lacksOpen 17 = .ok (.ireturn, 1) := by decide +kernel
theorem dX11_lacksOpen_18 : decode cX11_lacksOpen 18 = .ok (.aload_n 0, 1) := by decide +kernel
theorem dX11_lacksOpen_19 : decode cX11_lacksOpen 19 = .ok (.iload_n 1, 1) := by decide +kernel
theorem dX11_lacksOpen_20 : decode cX11_lacksOpen 20 = .ok (.iconst 0, 1) := by decide +kernel
theorem dX11_lacksOpen_21 : decode cX11_lacksOpen 21 = .ok (.invokevirtual 49, 3) := by decide +kernel
theorem dX11_lacksOpen_24 : decode cX11_lacksOpen 24 = .ok (.ifCond .ne 5, 3) := by decide +kernel
theorem dX11_lacksOpen_27 : decode cX11_lacksOpen 27 = .ok (.iconst 3, 1) := by decide +kernel
theorem dX11_lacksOpen_28 : decode cX11_lacksOpen 28 = .ok (.ireturn, 1) := by decide +kernel
theorem dX11_lacksOpen_29 : decode cX11_lacksOpen 29 = .ok (.aload_n 0, 1) := by decide +kernel
theorem dX11_lacksOpen_30 : decode cX11_lacksOpen 30 = .ok (.iload_n 1, 1) := by decide +kernel
theorem dX11_lacksOpen_31 : decode cX11_lacksOpen 31 = .ok (.iload_n 2, 1) := by decide +kernel
theorem dX11_lacksOpen_32 : decode cX11_lacksOpen 32 = .ok (.invokevirtual 162, 3) := by decide +kernel
theorem dX11_lacksOpen_35 : decode cX11_lacksOpen 35 = .ok (.ifCond .ne 11, 3) := by decide +kernel
theorem dX11_lacksOpen_38 : decode cX11_lacksOpen 38 = .ok (.aload_n 0, 1) := by decide +kernel
theorem dX11_lacksOpen_39 : decode cX11_lacksOpen 39 = .ok (.iload_n 1, 1) := by decide +kernel
theorem dX11_lacksOpen_40 : decode cX11_lacksOpen 40 = .ok (.iload_n 2, 1) := by decide +kernel
theorem dX11_lacksOpen_41 : decode cX11_lacksOpen 41 = .ok (.invokevirtual 165, 3) := by decide +kernel
theorem dX11_lacksOpen_44 : decode cX11_lacksOpen 44 = .ok (.iconst 4, 1) := by decide +kernel
theorem dX11_lacksOpen_45 : decode cX11_lacksOpen 45 = .ok (.ireturn, 1) := by decide +kernel
theorem dX11_lacksOpen_46 : decode cX11_lacksOpen 46 = .ok (.iconst 0, 1) := by decide +kernel
theorem dX11_lacksOpen_47 : decode cX11_lacksOpen 47 = .ok (.ireturn, 1) := by decide +kernel
theorem dX11_reshare_0 : decode cX11_reshare 0 = .ok (.iload_n 1, 1) := by decide +kernel
theorem dX11_reshare_1 : decode cX11_reshare 1 = .ok (.invokestatic 107, 3) := by decide +kernel
theorem dX11_reshare_4 : decode cX11_reshare 4 = .ok (.ifCond .ne 9, 3) := by decide +kernel
theorem dX11_reshare_7 : decode cX11_reshare 7 = .ok (.aload_n 0, 1) := by decide +kernel
theorem dX11_reshare_8 : decode cX11_reshare 8 = .ok (.iconst 1, 1) := by decide +kernel
theorem dX11_reshare_9 : decode cX11_reshare 9 = .ok (.invokevirtual 80, 3) := by decide +kernel
theorem dX11_reshare_12 : decode cX11_reshare 12 = .ok (.ireturn, 1) := by decide +kernel
theorem dX11_reshare_13 : decode cX11_reshare 13 = .ok (.iload_n 2, 1) := by decide +kernel
theorem dX11_reshare_14 : decode cX11_reshare 14 = .ok (.invokestatic 159, 3) := by decide +kernel
theorem dX11_reshare_17 : decode cX11_reshare 17 = .ok (.ifCond .eq 13, 3) := by decide +kernel
theorem dX11_reshare_20 : decode cX11_reshare 20 = .ok (.iload_n 3, 1) := by decide +kernel
theorem dX11_reshare_21 : decode cX11_reshare 21 = .ok (.iconst 1, 1) := by decide +kernel
theorem dX11_reshare_22 : decode cX11_reshare 22 = .ok (.bipush 8, 2) := by decide +kernel
theorem dX11_reshare_24 : decode cX11_reshare 24 = .ok (.invokestatic 45, 3) := by decide +kernel
theorem dX11_reshare_27 : decode cX11_reshare 27 = .ok (.ifCond .ne 9, 3) := by decide +kernel
theorem dX11_reshare_30 : decode cX11_reshare 30 = .ok (.aload_n 0, 1) := by decide +kernel
theorem dX11_reshare_31 : decode cX11_reshare 31 = .ok (.iconst 2, 1) := by decide +kernel
theorem dX11_reshare_32 : decode cX11_reshare 32 = .ok (.invokevirtual 80, 3) := by decide +kernel
theorem dX11_reshare_35 : decode cX11_reshare 35 = .ok (.ireturn, 1) := by decide +kernel
theorem dX11_reshare_36 : decode cX11_reshare 36 = .ok (.aload_n 0, 1) := by decide +kernel
theorem dX11_reshare_37 : decode cX11_reshare 37 = .ok (.iload_n 1, 1) := by decide +kernel
theorem dX11_reshare_38 : decode cX11_reshare 38 = .ok (.iload_n 2, 1) := by decide +kernel
theorem dX11_reshare_39 : decode cX11_reshare 39 = .ok (.invokevirtual 168, 3) := by decide +kernel
theorem dX11_reshare_42 : decode cX11_reshare 42 = .ok (.istore 4, 2) := by decide +kernel
theorem dX11_reshare_44 : decode cX11_reshare 44 = .ok (.iload 4, 2) := by decide +kernel
theorem dX11_reshare_46 : decode cX11_reshare 46 = .ok (.ifCond .eq 10, 3) := by decide +kernel
theorem dX11_reshare_49 : decode cX11_reshare 49 = .ok (.aload_n 0, 1) := by decide +kernel
theorem dX11_reshare_50 : decode cX11_reshare 50 = .ok (.iload 4, 2) := by decide +kernel
theorem dX11_reshare_52 : decode cX11_reshare 52 = .ok (.invokevirtual 80, 3) := by decide +kernel
theorem dX11_reshare_55 : decode cX11_reshare 55 = .ok (.ireturn, 1) := by decide +kernel
theorem dX11_reshare_56 : decode cX11_reshare 56 = .ok (.aload_n 0, 1) := by decide +kernel
theorem dX11_reshare_57 : decode cX11_reshare 57 = .ok (.invokevirtual 110, 3) := by decide +kernel
theorem dX11_reshare_60 : decode cX11_reshare 60 = .ok (.iload_n 3, 1) := by decide +kernel
theorem dX11_reshare_61 : decode cX11_reshare 61 = .ok (.if_icmp .ge 9, 3) := by decide +kernel
theorem dX11_reshare_64 : decode cX11_reshare 64 = .ok (.aload_n 0, 1) := by decide +kernel
theorem dX11_reshare_65 : decode cX11_reshare 65 = .ok (.iconst 5, 1) := by decide +kernel
theorem dX11_reshare_66 : decode cX11_reshare 66 = .ok (.invokevirtual 80, 3) := by decide +kernel
theorem dX11_reshare_69 : decode cX11_reshare 69 = .ok (.ireturn, 1) := by decide +kernel
theorem dX11_reshare_70 : decode cX11_reshare 70 = .ok (.aload_n 0, 1) := by decide +kernel
theorem dX11_reshare_71 : decode cX11_reshare 71 = .ok (.iload_n 1, 1) := by decide +kernel
theorem dX11_reshare_72 : decode cX11_reshare 72 = .ok (.aload_n 0, 1) := by decide +kernel
theorem dX11_reshare_73 : decode cX11_reshare 73 = .ok (.iload_n 1, 1) := by decide +kernel
theorem dX11_reshare_74 : decode cX11_reshare 74 = .ok (.aload_n 0, 1) := by decide +kernel
theorem dX11_reshare_75 : decode cX11_reshare 75 = .ok (.iload_n 1, 1) := by decide +kernel
theorem dX11_reshare_76 : decode cX11_reshare 76 = .ok (.iconst 1, 1) := by decide +kernel
theorem dX11_reshare_77 : decode cX11_reshare 77 = .ok (.invokevirtual 49, 3) := by decide +kernel
theorem dX11_reshare_80 : decode cX11_reshare 80 = .ok (.iconst 0, 1) := by decide +kernel
theorem dX11_reshare_81 : decode cX11_reshare 81 = .ok (.invokevirtual 171, 3) := by decide +kernel
theorem dX11_reshare_84 : decode cX11_reshare 84 = .ok (.iload_n 3, 1) := by decide +kernel
theorem dX11_reshare_85 : decode cX11_reshare 85 = .ok (.aload_n 0, 1) := by decide +kernel
theorem dX11_reshare_86 : decode cX11_reshare 86 = .ok (.iload_n 1, 1) := by decide +kernel
theorem dX11_reshare_87 : decode cX11_reshare 87 = .ok (.iconst 2, 1) := by decide +kernel
theorem dX11_reshare_88 : decode cX11_reshare 88 = .ok (.invokevirtual 49, 3) := by decide +kernel
theorem dX11_reshare_91 : decode cX11_reshare 91 = .ok (.iconst 1, 1) := by decide +kernel
theorem dX11_reshare_92 : decode cX11_reshare 92 = .ok (.iadd, 1) := by decide +kernel
theorem dX11_reshare_93 : decode cX11_reshare 93 = .ok (.invokevirtual 113, 3) := by decide +kernel
theorem dX11_reshare_96 : decode cX11_reshare 96 = .ok (.istore 5, 2) := by decide +kernel
theorem dX11_reshare_98 : decode cX11_reshare 98 = .ok (.aload_n 0, 1) := by decide +kernel
theorem dX11_reshare_99 : decode cX11_reshare 99 = .ok (.sipush 400, 3) := by decide +kernel
theorem dX11_reshare_102 : decode cX11_reshare 102 = .ok (.iload_n 1, 1) := by decide +kernel
theorem dX11_reshare_103 : decode cX11_reshare 103 = .ok (.iadd, 1) := by decide +kernel
theorem dX11_reshare_104 : decode cX11_reshare 104 = .ok (.invokevirtual 117, 3) := by decide +kernel
theorem dX11_reshare_107 : decode cX11_reshare 107 = .ok (.aload_n 0, 1) := by decide +kernel
theorem dX11_reshare_108 : decode cX11_reshare 108 = .ok (.iload 5, 2) := by decide +kernel
theorem dX11_reshare_110 : decode cX11_reshare 110 = .ok (.invokevirtual 69, 3) := by decide +kernel
theorem dX11_reshare_113 : decode cX11_reshare 113 = .ok (.ireturn, 1) := by decide +kernel
theorem dX11_enroll_0 : decode cX11_enroll 0 = .ok (.iload_n 1, 1) := by decide +kernel
theorem dX11_enroll_1 : decode cX11_enroll 1 = .ok (.invokestatic 107, 3) := by decide +kernel
theorem dX11_enroll_4 : decode cX11_enroll 4 = .ok (.ifCond .eq 10, 3) := by decide +kernel
theorem dX11_enroll_7 : decode cX11_enroll 7 = .ok (.iload_n 3, 1) := by decide +kernel
theorem dX11_enroll_8 : decode cX11_enroll 8 = .ok (.invokestatic 76, 3) := by decide +kernel
theorem dX11_enroll_11 : decode cX11_enroll 11 = .ok (.ifCond .ne 9, 3) := by decide +kernel
theorem dX11_enroll_14 : decode cX11_enroll 14 = .ok (.aload_n 0, 1) := by decide +kernel
theorem dX11_enroll_15 : decode cX11_enroll 15 = .ok (.iconst 1, 1) := by decide +kernel
theorem dX11_enroll_16 : decode cX11_enroll 16 = .ok (.invokevirtual 80, 3) := by decide +kernel
theorem dX11_enroll_19 : decode cX11_enroll 19 = .ok (.ireturn, 1) := by decide +kernel
theorem dX11_enroll_20 : decode cX11_enroll 20 = .ok (.aload_n 0, 1) := by decide +kernel
theorem dX11_enroll_21 : decode cX11_enroll 21 = .ok (.iload_n 1, 1) := by decide +kernel
theorem dX11_enroll_22 : decode cX11_enroll 22 = .ok (.iload_n 2, 1) := by decide +kernel
theorem dX11_enroll_23 : decode cX11_enroll 23 = .ok (.invokevirtual 168, 3) := by decide +kernel
theorem dX11_enroll_26 : decode cX11_enroll 26 = .ok (.istore 4, 2) := by decide +kernel
theorem dX11_enroll_28 : decode cX11_enroll 28 = .ok (.iload 4, 2) := by decide +kernel
theorem dX11_enroll_30 : decode cX11_enroll 30 = .ok (.ifCond .eq 10, 3) := by decide +kernel
theorem dX11_enroll_33 : decode cX11_enroll 33 = .ok (.aload_n 0, 1) := by decide +kernel
theorem dX11_enroll_34 : decode cX11_enroll 34 = .ok (.iload 4, 2) := by decide +kernel
theorem dX11_enroll_36 : decode cX11_enroll 36 = .ok (.invokevirtual 80, 3) := by decide +kernel
theorem dX11_enroll_39 : decode cX11_enroll 39 = .ok (.ireturn, 1) := by decide +kernel
theorem dX11_enroll_40 : decode cX11_enroll 40 = .ok (.iconst 0, 1) := by decide +kernel
theorem dX11_enroll_41 : decode cX11_enroll 41 = .ok (.istore 5, 2) := by decide +kernel
theorem dX11_enroll_43 : decode cX11_enroll 43 = .ok (.iconst 0, 1) := by decide +kernel
theorem dX11_enroll_44 : decode cX11_enroll 44 = .ok (.istore 6, 2) := by decide +kernel
theorem dX11_enroll_46 : decode cX11_enroll 46 = .ok (.iload 6, 2) := by decide +kernel
theorem dX11_enroll_48 : decode cX11_enroll 48 = .ok (.iconst 3, 1) := by decide +kernel
theorem dX11_enroll_49 : decode cX11_enroll 49 = .ok (.if_icmp .ge 35, 3) := by decide +kernel
theorem dX11_enroll_52 : decode cX11_enroll 52 = .ok (.aload_n 0, 1) := by decide +kernel
theorem dX11_enroll_53 : decode cX11_enroll 53 = .ok (.getfield 28, 3) := by decide +kernel
theorem dX11_enroll_56 : decode cX11_enroll 56 = .ok (.iload 6, 2) := by decide +kernel
theorem dX11_enroll_58 : decode cX11_enroll 58 = .ok (.aload_n 0, 1) := by decide +kernel
theorem dX11_enroll_59 : decode cX11_enroll 59 = .ok (.iload_n 1, 1) := by decide +kernel
theorem dX11_enroll_60 : decode cX11_enroll 60 = .ok (.aload_n 0, 1) := by decide +kernel
theorem dX11_enroll_61 : decode cX11_enroll 61 = .ok (.iload_n 1, 1) := by decide +kernel
theorem dX11_enroll_62 : decode cX11_enroll 62 = .ok (.iconst 1, 1) := by decide +kernel
theorem dX11_enroll_63 : decode cX11_enroll 63 = .ok (.invokevirtual 49, 3) := by decide +kernel
theorem dX11_enroll_66 : decode cX11_enroll 66 = .ok (.iconst 3, 1) := by decide +kernel
theorem dX11_enroll_67 : decode cX11_enroll 67 = .ok (.iload_n 3, 1) := by decide +kernel
theorem dX11_enroll_68 : decode cX11_enroll 68 = .ok (.imul, 1) := by decide +kernel
theorem dX11_enroll_69 : decode cX11_enroll 69 = .ok (.iconst 1, 1) := by decide +kernel
theorem dX11_enroll_70 : decode cX11_enroll 70 = .ok (.iadd, 1) := by decide +kernel
theorem dX11_enroll_71 : decode cX11_enroll 71 = .ok (.iload 6, 2) := by decide +kernel
theorem dX11_enroll_73 : decode cX11_enroll 73 = .ok (.iadd, 1) := by decide +kernel
theorem dX11_enroll_74 : decode cX11_enroll 74 = .ok (.invokevirtual 171, 3) := by decide +kernel
theorem dX11_enroll_77 : decode cX11_enroll 77 = .ok (.iastore, 1) := by decide +kernel
theorem dX11_enroll_78 : decode cX11_enroll 78 = .ok (.iinc 6 1, 3) := by decide +kernel
theorem dX11_enroll_81 : decode cX11_enroll 81 = .ok (.goto (-35), 3) := by decide +kernel
theorem dX11_enroll_84 : decode cX11_enroll 84 = .ok (.iconst 0, 1) := by decide +kernel
theorem dX11_enroll_85 : decode cX11_enroll 85 = .ok (.istore 6, 2) := by decide +kernel
theorem dX11_enroll_87 : decode cX11_enroll 87 = .ok (.iload 6, 2) := by decide +kernel
theorem dX11_enroll_89 : decode cX11_enroll 89 = .ok (.aload_n 0, 1) := by decide +kernel
theorem dX11_enroll_90 : decode cX11_enroll 90 = .ok (.getfield 7, 3) := by decide +kernel
theorem dX11_enroll_93 : decode cX11_enroll 93 = .ok (.iconst 1, 1) := by decide +kernel
theorem dX11_enroll_94 : decode cX11_enroll 94 = .ok (.iload_n 3, 1) := by decide +kernel
theorem dX11_enroll_95 : decode cX11_enroll 95 = .ok (.iadd, 1) := by decide +kernel
theorem dX11_enroll_96 : decode cX11_enroll 96 = .ok (.iaload, 1) := by decide +kernel
theorem dX11_enroll_97 : decode cX11_enroll 97 = .ok (.if_icmp .ge 52, 3) := by decide +kernel
theorem dX11_enroll_100 : decode cX11_enroll 100 = .ok (.iconst 3, 1) := by decide +kernel
theorem dX11_enroll_101 : decode cX11_enroll 101 = .ok (.iload_n 3, 1) := by decide +kernel
theorem dX11_enroll_102 : decode cX11_enroll 102 = .ok (.imul, 1) := by decide +kernel
theorem dX11_enroll_103 : decode cX11_enroll 103 = .ok (.iconst 1, 1) := by decide +kernel
theorem dX11_enroll_104 : decode cX11_enroll 104 = .ok (.iadd, 1) := by decide +kernel
theorem dX11_enroll_105 : decode cX11_enroll 105 = .ok (.iload 6, 2) := by decide +kernel
theorem dX11_enroll_107 : decode cX11_enroll 107 = .ok (.iadd, 1) := by decide +kernel
theorem dX11_enroll_108 : decode cX11_enroll 108 = .ok (.istore 7, 2) := by decide +kernel
theorem dX11_enroll_110 : decode cX11_enroll 110 = .ok (.aload_n 0, 1) := by decide +kernel
theorem dX11_enroll_111 : decode cX11_enroll 111 = .ok (.iload_n 1, 1) := by decide +kernel
theorem dX11_enroll_112 : decode cX11_enroll 112 = .ok (.iload 7, 2) := by decide +kernel
theorem dX11_enroll_114 : decode cX11_enroll 114 = .ok (.invokevirtual 174, 3) := by decide +kernel
theorem dX11_enroll_117 : decode cX11_enroll 117 = .ok (.ifCond .ne 26, 3) := by decide +kernel
theorem dX11_enroll_120 : decode cX11_enroll 120 = .ok (.aload_n 0, 1) := by decide +kernel
theorem dX11_enroll_121 : decode cX11_enroll 121 = .ok (.iload_n 1, 1) := by decide +kernel
theorem dX11_enroll_122 : decode cX11_enroll 122 = .ok (.iload 7, 2) := by decide +kernel
theorem dX11_enroll_124 : decode cX11_enroll 124 = .ok (.aload_n 0, 1) := by decide +kernel
theorem dX11_enroll_125 : decode cX11_enroll 125 = .ok (.getfield 28, 3) := by decide +kernel
theorem dX11_enroll_128 : decode cX11_enroll 128 = .ok (.iload 6, 2) := by decide +kernel
theorem dX11_enroll_130 : decode cX11_enroll 130 = .ok (.iaload, 1) := by decide +kernel
theorem dX11_enroll_131 : decode cX11_enroll 131 = .ok (.aload_n 0, 1) := by decide +kernel
theorem dX11_enroll_132 : decode cX11_enroll 132 = .ok (.iload_n 1, 1) := by decide +kernel
theorem dX11_enroll_133 : decode cX11_enroll 133 = .ok (.iconst 2, 1) := by decide +kernel
theorem dX11_enroll_134 : decode cX11_enroll 134 = .ok (.invokevirtual 49, 3) := by decide +kernel
theorem dX11_enroll_137 : decode cX11_enroll 137 = .ok (.invokevirtual 103, 3) := by decide +kernel
theorem dX11_enroll_140 : decode cX11_enroll 140 = .ok (.iinc 5 1, 3) := by decide +kernel
theorem dX11_enroll_143 : decode cX11_enroll 143 = .ok (.iinc 6 1, 3) := by decide +kernel
theorem dX11_enroll_146 : decode cX11_enroll 146 = .ok (.goto (-59), 3) := by decide +kernel
theorem dX11_enroll_149 : decode cX11_enroll 149 = .ok (.aload_n 0, 1) := by decide +kernel
theorem dX11_enroll_150 : decode cX11_enroll 150 = .ok (.sipush 500, 3) := by decide +kernel
theorem dX11_enroll_153 : decode cX11_enroll 153 = .ok (.bipush 10, 2) := by decide +kernel
theorem dX11_enroll_155 : decode cX11_enroll 155 = .ok (.iload_n 1, 1) := by decide +kernel
theorem dX11_enroll_156 : decode cX11_enroll 156 = .ok (.imul, 1) := by decide +kernel
theorem dX11_enroll_157 : decode cX11_enroll 157 = .ok (.iadd, 1) := by decide +kernel
theorem dX11_enroll_158 : decode cX11_enroll 158 = .ok (.iload_n 3, 1) := by decide +kernel
theorem dX11_enroll_159 : decode cX11_enroll 159 = .ok (.iadd, 1) := by decide +kernel
theorem dX11_enroll_160 : decode cX11_enroll 160 = .ok (.invokevirtual 117, 3) := by decide +kernel
theorem dX11_enroll_163 : decode cX11_enroll 163 = .ok (.aload_n 0, 1) := by decide +kernel
theorem dX11_enroll_164 : decode cX11_enroll 164 = .ok (.iload 5, 2) := by decide +kernel
theorem dX11_enroll_166 : decode cX11_enroll 166 = .ok (.invokevirtual 69, 3) := by decide +kernel
theorem dX11_enroll_169 : decode cX11_enroll 169 = .ok (.ireturn, 1) := by decide +kernel
theorem dX11_expel_0 : decode cX11_expel 0 = .ok (.iload_n 1, 1) := by decide +kernel
theorem dX11_expel_1 : decode cX11_expel 1 = .ok (.invokestatic 107, 3) := by decide +kernel
theorem dX11_expel_4 : decode cX11_expel 4 = .ok (.ifCond .eq 10, 3) := by decide +kernel
theorem dX11_expel_7 : decode cX11_expel 7 = .ok (.iload_n 2, 1) := by decide +kernel
theorem dX11_expel_8 : decode cX11_expel 8 = .ok (.invokestatic 76, 3) := by decide +kernel
theorem dX11_expel_11 : decode cX11_expel 11 = .ok (.ifCond .ne 9, 3) := by decide +kernel
theorem dX11_expel_14 : decode cX11_expel 14 = .ok (.aload_n 0, 1) := by decide +kernel
theorem dX11_expel_15 : decode cX11_expel 15 = .ok (.iconst 1, 1) := by decide +kernel
theorem dX11_expel_16 : decode cX11_expel 16 = .ok (.invokevirtual 80, 3) := by decide +kernel
theorem dX11_expel_19 : decode cX11_expel 19 = .ok (.ireturn, 1) := by decide +kernel
theorem dX11_expel_20 : decode cX11_expel 20 = .ok (.aload_n 0, 1) := by decide +kernel
theorem dX11_expel_21 : decode cX11_expel 21 = .ok (.iload_n 1, 1) := by decide +kernel
theorem dX11_expel_22 : decode cX11_expel 22 = .ok (.iconst 0, 1) := by decide +kernel
theorem dX11_expel_23 : decode cX11_expel 23 = .ok (.invokevirtual 49, 3) := by decide +kernel
theorem dX11_expel_26 : decode cX11_expel 26 = .ok (.ifCond .ne 9, 3) := by decide +kernel
theorem dX11_expel_29 : decode cX11_expel 29 = .ok (.aload_n 0, 1) := by decide +kernel
theorem dX11_expel_30 : decode cX11_expel 30 = .ok (.iconst 2, 1) := by decide +kernel
theorem dX11_expel_31 : decode cX11_expel 31 = .ok (.invokevirtual 80, 3) := by decide +kernel
theorem dX11_expel_34 : decode cX11_expel 34 = .ok (.ireturn, 1) := by decide +kernel
theorem dX11_expel_35 : decode cX11_expel 35 = .ok (.iconst 0, 1) := by decide +kernel
theorem dX11_expel_36 : decode cX11_expel 36 = .ok (.istore_n 3, 1) := by decide +kernel
theorem dX11_expel_37 : decode cX11_expel 37 = .ok (.iconst 3, 1) := by decide +kernel
theorem dX11_expel_38 : decode cX11_expel 38 = .ok (.iload_n 2, 1) := by decide +kernel
theorem dX11_expel_39 : decode cX11_expel 39 = .ok (.imul, 1) := by decide +kernel
theorem dX11_expel_40 : decode cX11_expel 40 = .ok (.iconst 1, 1) := by decide +kernel
theorem dX11_expel_41 : decode cX11_expel 41 = .ok (.iadd, 1) := by decide +kernel
theorem dX11_expel_42 : decode cX11_expel 42 = .ok (.istore 4, 2) := by decide +kernel
theorem dX11_expel_44 : decode cX11_expel 44 = .ok (.iload 4, 2) := by decide +kernel
theorem dX11_expel_46 : decode cX11_expel 46 = .ok (.iconst 3, 1) := by decide +kernel
theorem dX11_expel_47 : decode cX11_expel 47 = .ok (.iload_n 2, 1) := by decide +kernel
theorem dX11_expel_48 : decode cX11_expel 48 = .ok (.imul, 1) := by decide +kernel
theorem dX11_expel_49 : decode cX11_expel 49 = .ok (.iconst 3, 1) := by decide +kernel
theorem dX11_expel_50 : decode cX11_expel 50 = .ok (.iadd, 1) := by decide +kernel
theorem dX11_expel_51 : decode cX11_expel 51 = .ok (.if_icmp .gt 34, 3) := by decide +kernel
theorem dX11_expel_54 : decode cX11_expel 54 = .ok (.iload_n 3, 1) := by decide +kernel
theorem dX11_expel_55 : decode cX11_expel 55 = .ok (.aload_n 0, 1) := by decide +kernel
theorem dX11_expel_56 : decode cX11_expel 56 = .ok (.iload_n 1, 1) := by decide +kernel
theorem dX11_expel_57 : decode cX11_expel 57 = .ok (.iload 4, 2) := by decide +kernel
theorem dX11_expel_59 : decode cX11_expel 59 = .ok (.invokevirtual 86, 3) := by decide +kernel
theorem dX11_expel_62 : decode cX11_expel 62 = .ok (.ifCond .eq 7, 3) := by decide +kernel
theorem dX11_expel_65 : decode cX11_expel 65 = .ok (.iconst 1, 1) := by decide +kernel
theorem dX11_expel_66 : decode cX11_expel 66 = .ok (.goto 4, 3) := by decide +kernel
theorem dX11_expel_69 : decode cX11_expel 69 = .ok (.iconst 0, 1) := by decide +kernel
theorem dX11_expel_70 : decode cX11_expel 70 = .ok (.iadd, 1) := by decide +kernel
theorem dX11_expel_71 : decode cX11_expel 71 = .ok (.istore_n 3, 1) := by decide +kernel
theorem dX11_expel_72 : decode cX11_expel 72 = .ok (.aload_n 0, 1) := by decide +kernel
theorem dX11_expel_73 : decode cX11_expel 73 = .ok (.iload_n 1, 1) := by decide +kernel
theorem dX11_expel_74 : decode cX11_expel 74 = .ok (.iload 4, 2) := by decide +kernel
theorem dX11_expel_76 : decode cX11_expel 76 = .ok (.invokevirtual 93, 3) := by decide +kernel
theorem dX11_expel_79 : decode cX11_expel 79 = .ok (.iinc 4 1, 3) := by decide +kernel
theorem dX11_expel_82 : decode cX11_expel 82 = .ok (.goto (-38), 3) := by decide +kernel
theorem dX11_expel_85 : decode cX11_expel 85 = .ok (.aload_n 0, 1) := by decide +kernel
theorem dX11_expel_86 : decode cX11_expel 86 = .ok (.sipush 600, 3) := by decide +kernel
theorem dX11_expel_89 : decode cX11_expel 89 = .ok (.bipush 10, 2) := by decide +kernel
theorem dX11_expel_91 : decode cX11_expel 91 = .ok (.iload_n 1, 1) := by decide +kernel
theorem dX11_expel_92 : decode cX11_expel 92 = .ok (.imul, 1) := by decide +kernel
theorem dX11_expel_93 : decode cX11_expel 93 = .ok (.iadd, 1) := by decide +kernel
theorem dX11_expel_94 : decode cX11_expel 94 = .ok (.iload_n 2, 1) := by decide +kernel
theorem dX11_expel_95 : decode cX11_expel 95 = .ok (.iadd, 1) := by decide +kernel
theorem dX11_expel_96 : decode cX11_expel 96 = .ok (.invokevirtual 117, 3) := by decide +kernel
theorem dX11_expel_99 : decode cX11_expel 99 = .ok (.aload_n 0, 1) := by decide +kernel
theorem dX11_expel_100 : decode cX11_expel 100 = .ok (.iload_n 3, 1) := by decide +kernel
theorem dX11_expel_101 : decode cX11_expel 101 = .ok (.invokevirtual 69, 3) := by decide +kernel
theorem dX11_expel_104 : decode cX11_expel 104 = .ok (.ireturn, 1) := by decide +kernel
theorem dX11_open_0 : decode cX11_open 0 = .ok (.aload_n 0, 1) := by decide +kernel
theorem dX11_open_1 : decode cX11_open 1 = .ok (.iload_n 1, 1) := by decide +kernel
theorem dX11_open_2 : decode cX11_open 2 = .ok (.iload_n 2, 1) := by decide +kernel
theorem dX11_open_3 : decode cX11_open 3 = .ok (.invokevirtual 168, 3) := by decide +kernel
theorem dX11_open_6 : decode cX11_open 6 = .ok (.istore_n 3, 1) := by decide +kernel
theorem dX11_open_7 : decode cX11_open 7 = .ok (.iload_n 3, 1) := by decide +kernel
theorem dX11_open_8 : decode cX11_open 8 = .ok (.ifCond .eq 9, 3) := by decide +kernel
theorem dX11_open_11 : decode cX11_open 11 = .ok (.aload_n 0, 1) := by decide +kernel
theorem dX11_open_12 : decode cX11_open 12 = .ok (.iload_n 3, 1) := by decide +kernel
theorem dX11_open_13 : decode cX11_open 13 = .ok (.invokevirtual 80, 3) := by decide +kernel
theorem dX11_open_16 : decode cX11_open 16 = .ok (.ireturn, 1) := by decide +kernel
theorem dX11_open_17 : decode cX11_open 17 = .ok (.aload_n 0, 1) := by decide +kernel
theorem dX11_open_18 : decode cX11_open 18 = .ok (.sipush 700, 3) := by decide +kernel
theorem dX11_open_21 : decode cX11_open 21 = .ok (.iload_n 1, 1) := by decide +kernel
theorem dX11_open_22 : decode cX11_open 22 = .ok (.iadd, 1) := by decide +kernel
theorem dX11_open_23 : decode cX11_open 23 = .ok (.invokevirtual 117, 3) := by decide +kernel
theorem dX11_open_26 : decode cX11_open 26 = .ok (.aload_n 0, 1) := by decide +kernel
theorem dX11_open_27 : decode cX11_open 27 = .ok (.aload_n 0, 1) := by decide +kernel
theorem dX11_open_28 : decode cX11_open 28 = .ok (.iload_n 1, 1) := by decide +kernel
theorem dX11_open_29 : decode cX11_open 29 = .ok (.aload_n 0, 1) := by decide +kernel
theorem dX11_open_30 : decode cX11_open 30 = .ok (.iload_n 1, 1) := by decide +kernel
theorem dX11_open_31 : decode cX11_open 31 = .ok (.iconst 1, 1) := by decide +kernel
theorem dX11_open_32 : decode cX11_open 32 = .ok (.invokevirtual 49, 3) := by decide +kernel
theorem dX11_open_35 : decode cX11_open 35 = .ok (.iconst 0, 1) := by decide +kernel
theorem dX11_open_36 : decode cX11_open 36 = .ok (.invokevirtual 171, 3) := by decide +kernel
theorem dX11_open_39 : decode cX11_open 39 = .ok (.invokevirtual 69, 3) := by decide +kernel
theorem dX11_open_42 : decode cX11_open 42 = .ok (.ireturn, 1) := by decide +kernel
theorem dX11_lacksSet_0 : decode cX11_lacksSet 0 = .ok (.iload_n 1, 1) := by decide +kernel
theorem dX11_lacksSet_1 : decode cX11_lacksSet 1 = .ok (.invokestatic 107, 3) := by decide +kernel
theorem dX11_lacksSet_4 : decode cX11_lacksSet 4 = .ok (.ifCond .ne 7, 3) := by decide +kernel
theorem dX11_lacksSet_7 : decode cX11_lacksSet 7 = .ok (.iconst 1, 1) := by decide +kernel
theorem dX11_lacksSet_8 : decode cX11_lacksSet 8 = .ok (.goto 28, 3) := by decide +kernel
theorem dX11_lacksSet_11 : decode cX11_lacksSet 11 = .ok (.iload_n 2, 1) := by decide +kernel
theorem dX11_lacksSet_12 : decode cX11_lacksSet 12 = .ok (.invokestatic 159, 3) := by decide +kernel
theorem dX11_lacksSet_15 : decode cX11_lacksSet 15 = .ok (.ifCond .ne 7, 3) := by decide +kernel
theorem dX11_lacksSet_18 : decode cX11_lacksSet 18 = .ok (.iconst 2, 1) := by decide +kernel
theorem dX11_lacksSet_19 : decode cX11_lacksSet 19 = .ok (.goto 17, 3) := by decide +kernel
theorem dX11_lacksSet_22 : decode cX11_lacksSet 22 = .ok (.aload_n 0, 1) := by decide +kernel
theorem dX11_lacksSet_23 : decode cX11_lacksSet 23 = .ok (.iload_n 1, 1) := by decide +kernel
theorem dX11_lacksSet_24 : decode cX11_lacksSet 24 = .ok (.iconst 0, 1) := by decide +kernel
theorem dX11_lacksSet_25 : decode cX11_lacksSet 25 = .ok (.invokevirtual 49, 3) := by decide +kernel
theorem dX11_lacksSet_28 : decode cX11_lacksSet 28 = .ok (.ifCond .ne 7, 3) := by decide +kernel
theorem dX11_lacksSet_31 : decode cX11_lacksSet 31 = .ok (.iconst 3, 1) := by decide +kernel
theorem dX11_lacksSet_32 : decode cX11_lacksSet 32 = .ok (.goto 4, 3) := by decide +kernel
theorem dX11_lacksSet_35 : decode cX11_lacksSet 35 = .ok (.iconst 0, 1) := by decide +kernel
theorem dX11_lacksSet_36 : decode cX11_lacksSet 36 = .ok (.ireturn, 1) := by decide +kernel
theorem dX11_combine_0 : decode cX11_combine 0 = .ok (.aload_n 0, 1) := by decide +kernel
theorem dX11_combine_1 : decode cX11_combine 1 = .ok (.iload_n 1, 1) := by decide +kernel
theorem dX11_combine_2 : decode cX11_combine 2 = .ok (.iload_n 2, 1) := by decide +kernel
theorem dX11_combine_3 : decode cX11_combine 3 = .ok (.invokevirtual 177, 3) := by decide +kernel
theorem dX11_combine_6 : decode cX11_combine 6 = .ok (.istore_n 3, 1) := by decide +kernel
theorem dX11_combine_7 : decode cX11_combine 7 = .ok (.iload_n 3, 1) := by decide +kernel
theorem dX11_combine_8 : decode cX11_combine 8 = .ok (.ifCond .eq 9, 3) := by decide +kernel
theorem dX11_combine_11 : decode cX11_combine 11 = .ok (.aload_n 0, 1) := by decide +kernel
theorem dX11_combine_12 : decode cX11_combine 12 = .ok (.iload_n 3, 1) := by decide +kernel
theorem dX11_combine_13 : decode cX11_combine 13 = .ok (.invokevirtual 80, 3) := by decide +kernel
theorem dX11_combine_16 : decode cX11_combine 16 = .ok (.ireturn, 1) := by decide +kernel
theorem dX11_combine_17 : decode cX11_combine 17 = .ok (.aload_n 0, 1) := by decide +kernel
theorem dX11_combine_18 : decode cX11_combine 18 = .ok (.iload_n 1, 1) := by decide +kernel
theorem dX11_combine_19 : decode cX11_combine 19 = .ok (.iload_n 2, 1) := by decide +kernel
theorem dX11_combine_20 : decode cX11_combine 20 = .ok (.iconst 0, 1) := by decide +kernel
theorem dX11_combine_21 : decode cX11_combine 21 = .ok (.invokevirtual 146, 3) := by decide +kernel
theorem dX11_combine_24 : decode cX11_combine 24 = .ok (.aload_n 0, 1) := by decide +kernel
theorem dX11_combine_25 : decode cX11_combine 25 = .ok (.getfield 127, 3) := by decide +kernel
theorem dX11_combine_28 : decode cX11_combine 28 = .ok (.aload_n 0, 1) := by decide +kernel
theorem dX11_combine_29 : decode cX11_combine 29 = .ok (.iload_n 1, 1) := by decide +kernel
theorem dX11_combine_30 : decode cX11_combine 30 = .ok (.iconst 1, 1) := by decide +kernel
theorem dX11_combine_31 : decode cX11_combine 31 = .ok (.invokevirtual 49, 3) := by decide +kernel
theorem dX11_combine_34 : decode cX11_combine 34 = .ok (.if_icmp .ge 11, 3) := by decide +kernel
theorem dX11_combine_37 : decode cX11_combine 37 = .ok (.aload_n 0, 1) := by decide +kernel
theorem dX11_combine_38 : decode cX11_combine 38 = .ok (.iconst 4, 1) := by decide +kernel
theorem dX11_combine_39 : decode cX11_combine 39 = .ok (.invokevirtual 80, 3) := by decide +kernel
theorem dX11_combine_42 : decode cX11_combine 42 = .ok (.goto 19, 3) := by decide +kernel
theorem dX11_combine_45 : decode cX11_combine 45 = .ok (.aload_n 0, 1) := by decide +kernel
theorem dX11_combine_46 : decode cX11_combine 46 = .ok (.aload_n 0, 1) := by decide +kernel
theorem dX11_combine_47 : decode cX11_combine 47 = .ok (.iload_n 1, 1) := by decide +kernel
theorem dX11_combine_48 : decode cX11_combine 48 = .ok (.aload_n 0, 1) := by decide +kernel
theorem dX11_combine_49 : decode cX11_combine 49 = .ok (.iload_n 1, 1) := by decide +kernel
theorem dX11_combine_50 : decode cX11_combine 50 = .ok (.iconst 1, 1) := by decide +kernel
theorem dX11_combine_51 : decode cX11_combine 51 = .ok (.invokevirtual 49, 3) := by decide +kernel
theorem dX11_combine_54 : decode cX11_combine 54 = .ok (.iconst 0, 1) := by decide +kernel
theorem dX11_combine_55 : decode cX11_combine 55 = .ok (.invokevirtual 171, 3) := by decide +kernel
theorem dX11_combine_58 : decode cX11_combine 58 = .ok (.invokevirtual 69, 3) := by decide +kernel
theorem dX11_combine_61 : decode cX11_combine 61 = .ok (.ireturn, 1) := by decide +kernel
theorem dX11_agree_0 : decode cX11_agree 0 = .ok (.aload_n 0, 1) := by decide +kernel
theorem dX11_agree_1 : decode cX11_agree 1 = .ok (.aload_n 0, 1) := by decide +kernel
theorem dX11_agree_2 : decode cX11_agree 2 = .ok (.iload_n 1, 1) := by decide +kernel
theorem dX11_agree_3 : decode cX11_agree 3 = .ok (.iload_n 2, 1) := by decide +kernel
theorem dX11_agree_4 : decode cX11_agree 4 = .ok (.invokevirtual 177, 3) := by decide +kernel
theorem dX11_agree_7 : decode cX11_agree 7 = .ok (.putfield 42, 3) := by decide +kernel
theorem dX11_agree_10 : decode cX11_agree 10 = .ok (.aload_n 0, 1) := by decide +kernel
theorem dX11_agree_11 : decode cX11_agree 11 = .ok (.getfield 42, 3) := by decide +kernel
theorem dX11_agree_14 : decode cX11_agree 14 = .ok (.ifCond .eq 5, 3) := by decide +kernel
theorem dX11_agree_17 : decode cX11_agree 17 = .ok (.iconst 0, 1) := by decide +kernel
theorem dX11_agree_18 : decode cX11_agree 18 = .ok (.ireturn, 1) := by decide +kernel
theorem dX11_agree_19 : decode cX11_agree 19 = .ok (.aload_n 0, 1) := by decide +kernel
theorem dX11_agree_20 : decode cX11_agree 20 = .ok (.iload_n 1, 1) := by decide +kernel
theorem dX11_agree_21 : decode cX11_agree 21 = .ok (.iload_n 2, 1) := by decide +kernel
theorem dX11_agree_22 : decode cX11_agree 22 = .ok (.iconst 0, 1) := by decide +kernel
theorem dX11_agree_23 : decode cX11_agree 23 = .ok (.invokevirtual 146, 3) := by decide +kernel
theorem dX11_agree_26 : decode cX11_agree 26 = .ok (.iconst 1, 1) := by decide +kernel
theorem dX11_agree_27 : decode cX11_agree 27 = .ok (.istore_n 3, 1) := by decide +kernel
theorem dX11_agree_28 : decode cX11_agree 28 = .ok (.aload_n 0, 1) := by decide +kernel
theorem dX11_agree_29 : decode cX11_agree 29 = .ok (.iload_n 1, 1) := by decide +kernel
theorem dX11_agree_30 : decode cX11_agree 30 = .ok (.iconst 1, 1) := by decide +kernel
theorem dX11_agree_31 : decode cX11_agree 31 = .ok (.invokevirtual 49, 3) := by decide +kernel
theorem dX11_agree_34 : decode cX11_agree 34 = .ok (.istore 4, 2) := by decide +kernel
theorem dX11_agree_36 : decode cX11_agree 36 = .ok (.iload 4, 2) := by decide +kernel
theorem dX11_agree_38 : decode cX11_agree 38 = .ok (.aload_n 0, 1) := by decide +kernel
theorem dX11_agree_39 : decode cX11_agree 39 = .ok (.getfield 127, 3) := by decide +kernel
theorem dX11_agree_42 : decode cX11_agree 42 = .ok (.if_icmp .ge 53, 3) := by decide +kernel
theorem dX11_agree_45 : decode cX11_agree 45 = .ok (.iload_n 3, 1) := by decide +kernel
theorem dX11_agree_46 : decode cX11_agree 46 = .ok (.ifCond .eq 41, 3) := by decide +kernel
theorem dX11_agree_49 : decode cX11_agree 49 = .ok (.aload_n 0, 1) := by decide +kernel
theorem dX11_agree_50 : decode cX11_agree 50 = .ok (.iload_n 1, 1) := by decide +kernel
theorem dX11_agree_51 : decode cX11_agree 51 = .ok (.aload_n 0, 1) := by decide +kernel
theorem dX11_agree_52 : decode cX11_agree 52 = .ok (.iload_n 1, 1) := by decide +kernel
theorem dX11_agree_53 : decode cX11_agree 53 = .ok (.iconst 1, 1) := by decide +kernel
theorem dX11_agree_54 : decode cX11_agree 54 = .ok (.invokevirtual 49, 3) := by decide +kernel
theorem dX11_agree_57 : decode cX11_agree 57 = .ok (.aload_n 0, 1) := by decide +kernel
theorem dX11_agree_58 : decode cX11_agree 58 = .ok (.getfield 19, 3) := by decide +kernel
theorem dX11_agree_61 : decode cX11_agree 61 = .ok (.iload 4, 2) := by decide +kernel
theorem dX11_agree_63 : decode cX11_agree 63 = .ok (.iaload, 1) := by decide +kernel
theorem dX11_agree_64 : decode cX11_agree 64 = .ok (.invokevirtual 171, 3) := by decide +kernel
theorem dX11_agree_67 : decode cX11_agree 67 = .ok (.aload_n 0, 1) := by decide +kernel
theorem dX11_agree_68 : decode cX11_agree 68 = .ok (.iload_n 1, 1) := by decide +kernel
theorem dX11_agree_69 : decode cX11_agree 69 = .ok (.aload_n 0, 1) := by decide +kernel
theorem dX11_agree_70 : decode cX11_agree 70 = .ok (.getfield 19, 3) := by decide +kernel
theorem dX11_agree_73 : decode cX11_agree 73 = .ok (.iload 4, 2) := by decide +kernel
theorem dX11_agree_75 : decode cX11_agree 75 = .ok (.iaload, 1) := by decide +kernel
theorem dX11_agree_76 : decode cX11_agree 76 = .ok (.iconst 1, 1) := by decide +kernel
theorem dX11_agree_77 : decode cX11_agree 77 = .ok (.invokevirtual 57, 3) := by decide +kernel
theorem dX11_agree_80 : decode cX11_agree 80 = .ok (.if_icmp .ne 7, 3) := by decide +kernel
theorem dX11_agree_83 : decode cX11_agree 83 = .ok (.iconst 1, 1) := by decide +kernel
theorem dX11_agree_84 : decode cX11_agree 84 = .ok (.goto 4, 3) := by decide +kernel
theorem dX11_agree_87 : decode cX11_agree 87 = .ok (.iconst 0, 1) := by decide +kernel
theorem dX11_agree_88 : decode cX11_agree 88 = .ok (.istore_n 3, 1) := by decide +kernel
theorem dX11_agree_89 : decode cX11_agree 89 = .ok (.iinc 4 1, 3) := by decide +kernel
theorem dX11_agree_92 : decode cX11_agree 92 = .ok (.goto (-56), 3) := by decide +kernel
theorem dX11_agree_95 : decode cX11_agree 95 = .ok (.iload_n 3, 1) := by decide +kernel
theorem dX11_agree_96 : decode cX11_agree 96 = .ok (.ireturn, 1) := by decide +kernel
theorem dX11_count_0 : decode cX11_count 0 = .ok (.iconst 0, 1) := by decide +kernel
theorem dX11_count_1 : decode cX11_count 1 = .ok (.istore_n 3, 1) := by decide +kernel
theorem dX11_count_2 : decode cX11_count 2 = .ok (.iconst 1, 1) := by decide +kernel
theorem dX11_count_3 : decode cX11_count 3 = .ok (.istore 4, 2) := by decide +kernel
theorem dX11_count_5 : decode cX11_count 5 = .ok (.iload 4, 2) := by decide +kernel
theorem dX11_count_7 : decode cX11_count 7 = .ok (.bipush 24, 2) := by decide +kernel
theorem dX11_count_9 : decode cX11_count 9 = .ok (.if_icmp .gt 43, 3) := by decide +kernel
theorem dX11_count_12 : decode cX11_count 12 = .ok (.iload_n 3, 1) := by decide +kernel
theorem dX11_count_13 : decode cX11_count 13 = .ok (.aload_n 0, 1) := by decide +kernel
theorem dX11_count_14 : decode cX11_count 14 = .ok (.iload_n 1, 1) := by decide +kernel
theorem dX11_count_15 : decode cX11_count 15 = .ok (.iload 4, 2) := by decide +kernel
theorem dX11_count_17 : decode cX11_count 17 = .ok (.invokevirtual 86, 3) := by decide +kernel
theorem dX11_count_20 : decode cX11_count 20 = .ok (.ifCond .eq 23, 3) := by decide +kernel
theorem dX11_count_23 : decode cX11_count 23 = .ok (.iload_n 2, 1) := by decide +kernel
theorem dX11_count_24 : decode cX11_count 24 = .ok (.iconst (-1), 1) := by decide +kernel
theorem dX11_count_25 : decode cX11_count 25 = .ok (.if_icmp .eq 14, 3) := by decide +kernel
theorem dX11_count_28 : decode cX11_count 28 = .ok (.aload_n 0, 1) := by decide +kernel
theorem dX11_count_29 : decode cX11_count 29 = .ok (.iload_n 1, 1) := by decide +kernel
theorem dX11_count_30 : decode cX11_count 30 = .ok (.iload 4, 2) := by decide +kernel
theorem dX11_count_32 : decode cX11_count 32 = .ok (.invokevirtual 90, 3) := by decide +kernel
theorem dX11_count_35 : decode cX11_count 35 = .ok (.iload_n 2, 1) := by decide +kernel
theorem dX11_count_36 : decode cX11_count 36 = .ok (.if_icmp .ne 7, 3) := by decide +kernel
theorem dX11_count_39 : decode cX11_count 39 = .ok (.iconst 1, 1) := by decide +kernel
theorem dX11_count_40 : decode cX11_count 40 = .ok (.goto 4, 3) := by decide +kernel
theorem dX11_count_43 : decode cX11_count 43 = .ok (.iconst 0, 1) := by decide +kernel
theorem dX11_count_44 : decode cX11_count 44 = .ok (.iadd, 1) := by decide +kernel
theorem dX11_count_45 : decode cX11_count 45 = .ok (.istore_n 3, 1) := by decide +kernel
theorem dX11_count_46 : decode cX11_count 46 = .ok (.iinc 4 1, 3) := by decide +kernel
theorem dX11_count_49 : decode cX11_count 49 = .ok (.goto (-44), 3) := by decide +kernel
theorem dX11_count_52 : decode cX11_count 52 = .ok (.iload_n 3, 1) := by decide +kernel
theorem dX11_count_53 : decode cX11_count 53 = .ok (.ireturn, 1) := by decide +kernel
theorem dX11_secret_0 : decode cX11_secret 0 = .ok (.iload_n 1, 1) := by decide +kernel
theorem dX11_secret_1 : decode cX11_secret 1 = .ok (.invokestatic 107, 3) := by decide +kernel
theorem dX11_secret_4 : decode cX11_secret 4 = .ok (.ifCond .ne 9, 3) := by decide +kernel
theorem dX11_secret_7 : decode cX11_secret 7 = .ok (.aload_n 0, 1) := by decide +kernel
theorem dX11_secret_8 : decode cX11_secret 8 = .ok (.iconst 1, 1) := by decide +kernel
theorem dX11_secret_9 : decode cX11_secret 9 = .ok (.invokevirtual 80, 3) := by decide +kernel
theorem dX11_secret_12 : decode cX11_secret 12 = .ok (.ireturn, 1) := by decide +kernel
theorem dX11_secret_13 : decode cX11_secret 13 = .ok (.iload_n 2, 1) := by decide +kernel
theorem dX11_secret_14 : decode cX11_secret 14 = .ok (.iconst 0, 1) := by decide +kernel
theorem dX11_secret_15 : decode cX11_secret 15 = .ok (.bipush 6, 2) := by decide +kernel
theorem dX11_secret_17 : decode cX11_secret 17 = .ok (.invokestatic 45, 3) := by decide +kernel
theorem dX11_secret_20 : decode cX11_secret 20 = .ok (.ifCond .ne 9, 3) := by decide +kernel
theorem dX11_secret_23 : decode cX11_secret 23 = .ok (.aload_n 0, 1) := by decide +kernel
theorem dX11_secret_24 : decode cX11_secret 24 = .ok (.iconst 2, 1) := by decide +kernel
theorem dX11_secret_25 : decode cX11_secret 25 = .ok (.invokevirtual 80, 3) := by decide +kernel
theorem dX11_secret_28 : decode cX11_secret 28 = .ok (.ireturn, 1) := by decide +kernel
theorem dX11_secret_29 : decode cX11_secret 29 = .ok (.aload_n 0, 1) := by decide +kernel
theorem dX11_secret_30 : decode cX11_secret 30 = .ok (.iload_n 1, 1) := by decide +kernel
theorem dX11_secret_31 : decode cX11_secret 31 = .ok (.iconst 0, 1) := by decide +kernel
theorem dX11_secret_32 : decode cX11_secret 32 = .ok (.invokevirtual 49, 3) := by decide +kernel
theorem dX11_secret_35 : decode cX11_secret 35 = .ok (.ifCond .ne 9, 3) := by decide +kernel
theorem dX11_secret_38 : decode cX11_secret 38 = .ok (.aload_n 0, 1) := by decide +kernel
theorem dX11_secret_39 : decode cX11_secret 39 = .ok (.iconst 3, 1) := by decide +kernel
theorem dX11_secret_40 : decode cX11_secret 40 = .ok (.invokevirtual 80, 3) := by decide +kernel
theorem dX11_secret_43 : decode cX11_secret 43 = .ok (.ireturn, 1) := by decide +kernel
theorem dX11_secret_44 : decode cX11_secret 44 = .ok (.iload_n 2, 1) := by decide +kernel
theorem dX11_secret_45 : decode cX11_secret 45 = .ok (.lookupswitch 75 #[(0, 35), (1, 46), (6, 57)], 35) := by decide +kernel
theorem dX11_secret_80 : decode cX11_secret 80 = .ok (.aload_n 0, 1) := by decide +kernel
theorem dX11_secret_81 : decode cX11_secret 81 = .ok (.aload_n 0, 1) := by decide +kernel
theorem dX11_secret_82 : decode cX11_secret 82 = .ok (.iload_n 1, 1) := by decide +kernel
theorem dX11_secret_83 : decode cX11_secret 83 = .ok (.iconst 1, 1) := by decide +kernel
theorem dX11_secret_84 : decode cX11_secret 84 = .ok (.invokevirtual 49, 3) := by decide +kernel
theorem dX11_secret_87 : decode cX11_secret 87 = .ok (.invokevirtual 69, 3) := by decide +kernel
theorem dX11_secret_90 : decode cX11_secret 90 = .ok (.ireturn, 1) := by decide +kernel
theorem dX11_secret_91 : decode cX11_secret 91 = .ok (.aload_n 0, 1) := by decide +kernel
theorem dX11_secret_92 : decode cX11_secret 92 = .ok (.aload_n 0, 1) := by decide +kernel
theorem dX11_secret_93 : decode cX11_secret 93 = .ok (.iload_n 1, 1) := by decide +kernel
theorem dX11_secret_94 : decode cX11_secret 94 = .ok (.iconst 2, 1) := by decide +kernel
theorem dX11_secret_95 : decode cX11_secret 95 = .ok (.invokevirtual 49, 3) := by decide +kernel
theorem dX11_secret_98 : decode cX11_secret 98 = .ok (.invokevirtual 69, 3) := by decide +kernel
theorem dX11_secret_101 : decode cX11_secret 101 = .ok (.ireturn, 1) := by decide +kernel
theorem dX11_secret_102 : decode cX11_secret 102 = .ok (.aload_n 0, 1) := by decide +kernel
theorem dX11_secret_103 : decode cX11_secret 103 = .ok (.aload_n 0, 1) := by decide +kernel
theorem dX11_secret_104 : decode cX11_secret 104 = .ok (.iload_n 1, 1) := by decide +kernel
theorem dX11_secret_105 : decode cX11_secret 105 = .ok (.invokevirtual 140, 3) := by decide +kernel
theorem dX11_secret_108 : decode cX11_secret 108 = .ok (.ifCond .eq 7, 3) := by decide +kernel
theorem dX11_secret_111 : decode cX11_secret 111 = .ok (.iconst 1, 1) := by decide +kernel
theorem dX11_secret_112 : decode cX11_secret 112 = .ok (.goto 4, 3) := by decide +kernel
theorem dX11_secret_115 : decode cX11_secret 115 = .ok (.iconst 0, 1) := by decide +kernel
theorem dX11_secret_116 : decode cX11_secret 116 = .ok (.invokevirtual 69, 3) := by decide +kernel
theorem dX11_secret_119 : decode cX11_secret 119 = .ok (.ireturn, 1) := by decide +kernel
theorem dX11_secret_120 : decode cX11_secret 120 = .ok (.aload_n 0, 1) := by decide +kernel
theorem dX11_secret_121 : decode cX11_secret 121 = .ok (.aload_n 0, 1) := by decide +kernel
theorem dX11_secret_122 : decode cX11_secret 122 = .ok (.iload_n 1, 1) := by decide +kernel
theorem dX11_secret_123 : decode cX11_secret 123 = .ok (.iload_n 2, 1) := by decide +kernel
theorem dX11_secret_124 : decode cX11_secret 124 = .ok (.iconst 3, 1) := by decide +kernel
theorem dX11_secret_125 : decode cX11_secret 125 = .ok (.isub, 1) := by decide +kernel
theorem dX11_secret_126 : decode cX11_secret 126 = .ok (.invokevirtual 180, 3) := by decide +kernel
theorem dX11_secret_129 : decode cX11_secret 129 = .ok (.invokevirtual 69, 3) := by decide +kernel
theorem dX11_secret_132 : decode cX11_secret 132 = .ok (.ireturn, 1) := by decide +kernel
theorem dX11_commitment_0 : decode cX11_commitment 0 = .ok (.aload_n 0, 1) := by decide +kernel
theorem dX11_commitment_1 : decode cX11_commitment 1 = .ok (.iload_n 1, 1) := by decide +kernel
theorem dX11_commitment_2 : decode cX11_commitment 2 = .ok (.invokevirtual 121, 3) := by decide +kernel
theorem dX11_commitment_5 : decode cX11_commitment 5 = .ok (.istore_n 3, 1) := by decide +kernel
theorem dX11_commitment_6 : decode cX11_commitment 6 = .ok (.iload_n 3, 1) := by decide +kernel
theorem dX11_commitment_7 : decode cX11_commitment 7 = .ok (.ifCond .eq 9, 3) := by decide +kernel
theorem dX11_commitment_10 : decode cX11_commitment 10 = .ok (.aload_n 0, 1) := by decide +kernel
theorem dX11_commitment_11 : decode cX11_commitment 11 = .ok (.iload_n 3, 1) := by decide +kernel
theorem dX11_commitment_12 : decode cX11_commitment 12 = .ok (.invokevirtual 80, 3) := by decide +kernel
theorem dX11_commitment_15 : decode cX11_commitment 15 = .ok (.ireturn, 1) := by decide +kernel
theorem dX11_commitment_16 : decode cX11_commitment 16 = .ok (.iload_n 2, 1) := by decide +kernel
theorem dX11_commitment_17 : decode cX11_commitment 17 = .ok (.iconst 0, 1) := by decide +kernel
theorem dX11_commitment_18 : decode cX11_commitment 18 = .ok (.aload_n 0, 1) := by decide +kernel
theorem dX11_commitment_19 : decode cX11_commitment 19 = .ok (.iload_n 1, 1) := by decide +kernel
theorem dX11_commitment_20 : decode cX11_commitment 20 = .ok (.iconst 1, 1) := by decide +kernel
theorem dX11_commitment_21 : decode cX11_commitment 21 = .ok (.invokevirtual 49, 3) := by decide +kernel
theorem dX11_commitment_24 : decode cX11_commitment 24 = .ok (.iconst 1, 1) := by decide +kernel
theorem dX11_commitment_25 : decode cX11_commitment 25 = .ok (.isub, 1) := by decide +kernel
theorem dX11_commitment_26 : decode cX11_commitment 26 = .ok (.invokestatic 45, 3) := by decide +kernel
theorem dX11_commitment_29 : decode cX11_commitment 29 = .ok (.ifCond .eq 18, 3) := by decide +kernel
theorem dX11_commitment_32 : decode cX11_commitment 32 = .ok (.aload_n 0, 1) := by decide +kernel
theorem dX11_commitment_33 : decode cX11_commitment 33 = .ok (.aload_n 0, 1) := by decide +kernel
theorem dX11_commitment_34 : decode cX11_commitment 34 = .ok (.iload_n 1, 1) := by decide +kernel
theorem dX11_commitment_35 : decode cX11_commitment 35 = .ok (.iconst 3, 1) := by decide +kernel
theorem dX11_commitment_36 : decode cX11_commitment 36 = .ok (.iload_n 2, 1) := by decide +kernel
theorem dX11_commitment_37 : decode cX11_commitment 37 = .ok (.iadd, 1) := by decide +kernel
theorem dX11_commitment_38 : decode cX11_commitment 38 = .ok (.invokevirtual 49, 3) := by decide +kernel
theorem dX11_commitment_41 : decode cX11_commitment 41 = .ok (.invokevirtual 69, 3) := by decide +kernel
theorem dX11_commitment_44 : decode cX11_commitment 44 = .ok (.goto 8, 3) := by decide +kernel
theorem dX11_commitment_47 : decode cX11_commitment 47 = .ok (.aload_n 0, 1) := by decide +kernel
theorem dX11_commitment_48 : decode cX11_commitment 48 = .ok (.iconst 2, 1) := by decide +kernel
theorem dX11_commitment_49 : decode cX11_commitment 49 = .ok (.invokevirtual 80, 3) := by decide +kernel
theorem dX11_commitment_52 : decode cX11_commitment 52 = .ok (.ireturn, 1) := by decide +kernel
theorem dX11_share_0 : decode cX11_share 0 = .ok (.iload_n 1, 1) := by decide +kernel
theorem dX11_share_1 : decode cX11_share 1 = .ok (.invokestatic 107, 3) := by decide +kernel
theorem dX11_share_4 : decode cX11_share 4 = .ok (.ifCond .eq 10, 3) := by decide +kernel
theorem dX11_share_7 : decode cX11_share 7 = .ok (.iload_n 2, 1) := by decide +kernel
theorem dX11_share_8 : decode cX11_share 8 = .ok (.invokestatic 183, 3) := by decide +kernel
theorem dX11_share_11 : decode cX11_share 11 = .ok (.ifCond .ne 9, 3) := by decide +kernel
theorem dX11_share_14 : decode cX11_share 14 = .ok (.aload_n 0, 1) := by decide +kernel
theorem dX11_share_15 : decode cX11_share 15 = .ok (.iconst 1, 1) := by decide +kernel
theorem dX11_share_16 : decode cX11_share 16 = .ok (.invokevirtual 80, 3) := by decide +kernel
theorem dX11_share_19 : decode cX11_share 19 = .ok (.ireturn, 1) := by decide +kernel
theorem dX11_share_20 : decode cX11_share 20 = .ok (.iload_n 3, 1) := by decide +kernel
theorem dX11_share_21 : decode cX11_share 21 = .ok (.iconst 0, 1) := by decide +kernel
theorem dX11_share_22 : decode cX11_share 22 = .ok (.iconst 2, 1) := by decide +kernel
theorem dX11_share_23 : decode cX11_share 23 = .ok (.invokestatic 45, 3) := by decide +kernel
theorem dX11_share_26 : decode cX11_share 26 = .ok (.ifCond .ne 9, 3) := by decide +kernel
theorem dX11_share_29 : decode cX11_share 29 = .ok (.aload_n 0, 1) := by decide +kernel
theorem dX11_share_30 : decode cX11_share 30 = .ok (.iconst 2, 1) := by decide +kernel
theorem dX11_share_31 : decode cX11_share 31 = .ok (.invokevirtual 80, 3) := by decide +kernel
theorem dX11_share_34 : decode cX11_share 34 = .ok (.ireturn, 1) := by decide +kernel
theorem dX11_share_35 : decode cX11_share 35 = .ok (.aload_n 0, 1) := by decide +kernel
theorem dX11_share_36 : decode cX11_share 36 = .ok (.iload_n 1, 1) := by decide +kernel
theorem dX11_share_37 : decode cX11_share 37 = .ok (.iload_n 2, 1) := by decide +kernel
theorem dX11_share_38 : decode cX11_share 38 = .ok (.invokevirtual 86, 3) := by decide +kernel
theorem dX11_share_41 : decode cX11_share 41 = .ok (.ifCond .ne 9, 3) := by decide +kernel
theorem dX11_share_44 : decode cX11_share 44 = .ok (.aload_n 0, 1) := by decide +kernel
theorem dX11_share_45 : decode cX11_share 45 = .ok (.iconst 3, 1) := by decide +kernel
theorem dX11_share_46 : decode cX11_share 46 = .ok (.invokevirtual 80, 3) := by decide +kernel
theorem dX11_share_49 : decode cX11_share 49 = .ok (.ireturn, 1) := by decide +kernel
theorem dX11_share_50 : decode cX11_share 50 = .ok (.aload_n 0, 1) := by decide +kernel
theorem dX11_share_51 : decode cX11_share 51 = .ok (.iload_n 3, 1) := by decide +kernel
theorem dX11_share_52 : decode cX11_share 52 = .ok (.iconst 2, 1) := by decide +kernel
theorem dX11_share_53 : decode cX11_share 53 = .ok (.if_icmp .ne 12, 3) := by decide +kernel
theorem dX11_share_56 : decode cX11_share 56 = .ok (.aload_n 0, 1) := by decide +kernel
theorem dX11_share_57 : decode cX11_share 57 = .ok (.iload_n 1, 1) := by decide +kernel
theorem dX11_share_58 : decode cX11_share 58 = .ok (.iload_n 2, 1) := by decide +kernel
theorem dX11_share_59 : decode cX11_share 59 = .ok (.invokevirtual 90, 3) := by decide +kernel
theorem dX11_share_62 : decode cX11_share 62 = .ok (.goto 12, 3) := by decide +kernel
theorem dX11_share_65 : decode cX11_share 65 = .ok (.aload_n 0, 1) := by decide +kernel
theorem dX11_share_66 : decode cX11_share 66 = .ok (.iload_n 1, 1) := by decide +kernel
theorem dX11_share_67 : decode cX11_share 67 = .ok (.iload_n 2, 1) := by decide +kernel
theorem dX11_share_68 : decode cX11_share 68 = .ok (.iconst 1, 1) := by decide +kernel
theorem dX11_share_69 : decode cX11_share 69 = .ok (.iload_n 3, 1) := by decide +kernel
theorem dX11_share_70 : decode cX11_share 70 = .ok (.iadd, 1) := by decide +kernel
theorem dX11_share_71 : decode cX11_share 71 = .ok (.invokevirtual 57, 3) := by decide +kernel
theorem dX11_share_74 : decode cX11_share 74 = .ok (.invokevirtual 69, 3) := by decide +kernel
theorem dX11_share_77 : decode cX11_share 77 = .ok (.ireturn, 1) := by decide +kernel
theorem dX11_setShare_0 : decode cX11_setShare 0 = .ok (.iload_n 1, 1) := by decide +kernel
theorem dX11_setShare_1 : decode cX11_setShare 1 = .ok (.invokestatic 107, 3) := by decide +kernel
theorem dX11_setShare_4 : decode cX11_setShare 4 = .ok (.ifCond .eq 10, 3) := by decide +kernel
theorem dX11_setShare_7 : decode cX11_setShare 7 = .ok (.iload_n 2, 1) := by decide +kernel
theorem dX11_setShare_8 : decode cX11_setShare 8 = .ok (.invokestatic 183, 3) := by decide +kernel
theorem dX11_setShare_11 : decode cX11_setShare 11 = .ok (.ifCond .ne 9, 3) := by decide +kernel
theorem dX11_setShare_14 : decode cX11_setShare 14 = .ok (.aload_n 0, 1) := by decide +kernel
theorem dX11_setShare_15 : decode cX11_setShare 15 = .ok (.iconst 1, 1) := by decide +kernel
theorem dX11_setShare_16 : decode cX11_setShare 16 = .ok (.invokevirtual 80, 3) := by decide +kernel
theorem dX11_setShare_19 : decode cX11_setShare 19 = .ok (.ireturn, 1) := by decide +kernel
theorem dX11_setShare_20 : decode cX11_setShare 20 = .ok (.iload_n 3, 1) := by decide +kernel
theorem dX11_setShare_21 : decode cX11_setShare 21 = .ok (.iconst 0, 1) := by decide +kernel
theorem dX11_setShare_22 : decode cX11_setShare 22 = .ok (.sipush 1018, 3) := by decide +kernel
theorem dX11_setShare_25 : decode cX11_setShare 25 = .ok (.invokestatic 45, 3) := by decide +kernel
theorem dX11_setShare_28 : decode cX11_setShare 28 = .ok (.ifCond .ne 9, 3) := by decide +kernel
theorem dX11_setShare_31 : decode cX11_setShare 31 = .ok (.aload_n 0, 1) := by decide +kernel
theorem dX11_setShare_32 : decode cX11_setShare 32 = .ok (.iconst 2, 1) := by decide +kernel
theorem dX11_setShare_33 : decode cX11_setShare 33 = .ok (.invokevirtual 80, 3) := by decide +kernel
theorem dX11_setShare_36 : decode cX11_setShare 36 = .ok (.ireturn, 1) := by decide +kernel
theorem dX11_setShare_37 : decode cX11_setShare 37 = .ok (.aload_n 0, 1) := by decide +kernel
theorem dX11_setShare_38 : decode cX11_setShare 38 = .ok (.iload_n 1, 1) := by decide +kernel
theorem dX11_setShare_39 : decode cX11_setShare 39 = .ok (.iload_n 2, 1) := by decide +kernel
theorem dX11_setShare_40 : decode cX11_setShare 40 = .ok (.invokevirtual 86, 3) := by decide +kernel
theorem dX11_setShare_43 : decode cX11_setShare 43 = .ok (.ifCond .ne 9, 3) := by decide +kernel
theorem dX11_setShare_46 : decode cX11_setShare 46 = .ok (.aload_n 0, 1) := by decide +kernel
theorem dX11_setShare_47 : decode cX11_setShare 47 = .ok (.iconst 3, 1) := by decide +kernel
theorem dX11_setShare_48 : decode cX11_setShare 48 = .ok (.invokevirtual 80, 3) := by decide +kernel
theorem dX11_setShare_51 : decode cX11_setShare 51 = .ok (.ireturn, 1) := by decide +kernel
theorem dX11_setShare_52 : decode cX11_setShare 52 = .ok (.aload_n 0, 1) := by decide +kernel
theorem dX11_setShare_53 : decode cX11_setShare 53 = .ok (.iload_n 1, 1) := by decide +kernel
theorem dX11_setShare_54 : decode cX11_setShare 54 = .ok (.iload_n 2, 1) := by decide +kernel
theorem dX11_setShare_55 : decode cX11_setShare 55 = .ok (.iconst 1, 1) := by decide +kernel
theorem dX11_setShare_56 : decode cX11_setShare 56 = .ok (.invokevirtual 57, 3) := by decide +kernel
theorem dX11_setShare_59 : decode cX11_setShare 59 = .ok (.istore 4, 2) := by decide +kernel
theorem dX11_setShare_61 : decode cX11_setShare 61 = .ok (.aload_n 0, 1) := by decide +kernel
theorem dX11_setShare_62 : decode cX11_setShare 62 = .ok (.iload_n 1, 1) := by decide +kernel
theorem dX11_setShare_63 : decode cX11_setShare 63 = .ok (.iload_n 2, 1) := by decide +kernel
theorem dX11_setShare_64 : decode cX11_setShare 64 = .ok (.iload_n 3, 1) := by decide +kernel
theorem dX11_setShare_65 : decode cX11_setShare 65 = .ok (.aload_n 0, 1) := by decide +kernel
theorem dX11_setShare_66 : decode cX11_setShare 66 = .ok (.iload_n 1, 1) := by decide +kernel
theorem dX11_setShare_67 : decode cX11_setShare 67 = .ok (.iload_n 2, 1) := by decide +kernel
theorem dX11_setShare_68 : decode cX11_setShare 68 = .ok (.iconst 2, 1) := by decide +kernel
theorem dX11_setShare_69 : decode cX11_setShare 69 = .ok (.invokevirtual 57, 3) := by decide +kernel
theorem dX11_setShare_72 : decode cX11_setShare 72 = .ok (.invokevirtual 103, 3) := by decide +kernel
theorem dX11_setShare_75 : decode cX11_setShare 75 = .ok (.aload_n 0, 1) := by decide +kernel
theorem dX11_setShare_76 : decode cX11_setShare 76 = .ok (.iload 4, 2) := by decide +kernel
theorem dX11_setShare_78 : decode cX11_setShare 78 = .ok (.invokevirtual 69, 3) := by decide +kernel
theorem dX11_setShare_81 : decode cX11_setShare 81 = .ok (.ireturn, 1) := by decide +kernel
theorem dX11_writes_0 : decode cX11_writes 0 = .ok (.aload_n 0, 1) := by decide +kernel
theorem dX11_writes_1 : decode cX11_writes 1 = .ok (.getfield 31, 3) := by decide +kernel
theorem dX11_writes_4 : decode cX11_writes 4 = .ok (.aload_n 0, 1) := by decide +kernel
theorem dX11_writes_5 : decode cX11_writes 5 = .ok (.getfield 186, 3) := by decide +kernel
theorem dX11_writes_8 : decode cX11_writes 8 = .ok (.iload_n 1, 1) := by decide +kernel
theorem dX11_writes_9 : decode cX11_writes 9 = .ok (.i2c, 1) := by decide +kernel
theorem dX11_writes_10 : decode cX11_writes 10 = .ok (.castore, 1) := by decide +kernel
theorem dX11_writes_11 : decode cX11_writes 11 = .ok (.aload_n 0, 1) := by decide +kernel
theorem dX11_writes_12 : decode cX11_writes 12 = .ok (.dup, 1) := by decide +kernel
theorem dX11_writes_13 : decode cX11_writes 13 = .ok (.getfield 186, 3) := by decide +kernel
theorem dX11_writes_16 : decode cX11_writes 16 = .ok (.iconst 1, 1) := by decide +kernel
theorem dX11_writes_17 : decode cX11_writes 17 = .ok (.iadd, 1) := by decide +kernel
theorem dX11_writes_18 : decode cX11_writes 18 = .ok (.putfield 186, 3) := by decide +kernel
theorem dX11_writes_21 : decode cX11_writes 21 = .ok (.return_, 1) := by decide +kernel
theorem dX11_writesNumber_0 : decode cX11_writesNumber 0 = .ok (.iconst 1, 1) := by decide +kernel
theorem dX11_writesNumber_1 : decode cX11_writesNumber 1 = .ok (.istore_n 2, 1) := by decide +kernel
theorem dX11_writesNumber_2 : decode cX11_writesNumber 2 = .ok (.iload_n 1, 1) := by decide +kernel
theorem dX11_writesNumber_3 : decode cX11_writesNumber 3 = .ok (.iload_n 2, 1) := by decide +kernel
theorem dX11_writesNumber_4 : decode cX11_writesNumber 4 = .ok (.idiv, 1) := by decide +kernel
theorem dX11_writesNumber_5 : decode cX11_writesNumber 5 = .ok (.bipush 10, 2) := by decide +kernel
theorem dX11_writesNumber_7 : decode cX11_writesNumber 7 = .ok (.if_icmp .lt 11, 3) := by decide +kernel
theorem dX11_writesNumber_10 : decode cX11_writesNumber 10 = .ok (.iload_n 2, 1) := by decide +kernel
theorem dX11_writesNumber_11 : decode cX11_writesNumber 11 = .ok (.bipush 10, 2) := by decide +kernel
theorem dX11_writesNumber_13 : decode cX11_writesNumber 13 = .ok (.imul, 1) := by decide +kernel
theorem dX11_writesNumber_14 : decode cX11_writesNumber 14 = .ok (.istore_n 2, 1) := by decide +kernel
theorem dX11_writesNumber_15 : decode cX11_writesNumber 15 = .ok (.goto (-13), 3) := by decide +kernel
theorem dX11_writesNumber_18 : decode cX11_writesNumber 18 = .ok (.iload_n 2, 1) := by decide +kernel
theorem dX11_writesNumber_19 : decode cX11_writesNumber 19 = .ok (.ifCond .le 24, 3) := by decide +kernel
theorem dX11_writesNumber_22 : decode cX11_writesNumber 22 = .ok (.aload_n 0, 1) := by decide +kernel
theorem dX11_writesNumber_23 : decode cX11_writesNumber 23 = .ok (.bipush 48, 2) := by decide +kernel
theorem dX11_writesNumber_25 : decode cX11_writesNumber 25 = .ok (.iload_n 1, 1) := by decide +kernel
theorem dX11_writesNumber_26 : decode cX11_writesNumber 26 = .ok (.iload_n 2, 1) := by decide +kernel
theorem dX11_writesNumber_27 : decode cX11_writesNumber 27 = .ok (.idiv, 1) := by decide +kernel
theorem dX11_writesNumber_28 : decode cX11_writesNumber 28 = .ok (.bipush 10, 2) := by decide +kernel
theorem dX11_writesNumber_30 : decode cX11_writesNumber 30 = .ok (.irem, 1) := by decide +kernel
theorem dX11_writesNumber_31 : decode cX11_writesNumber 31 = .ok (.iadd, 1) := by decide +kernel
theorem dX11_writesNumber_32 : decode cX11_writesNumber 32 = .ok (.invokevirtual 189, 3) := by decide +kernel
theorem dX11_writesNumber_35 : decode cX11_writesNumber 35 = .ok (.iload_n 2, 1) := by decide +kernel
theorem dX11_writesNumber_36 : decode cX11_writesNumber 36 = .ok (.bipush 10, 2) := by decide +kernel
theorem dX11_writesNumber_38 : decode cX11_writesNumber 38 = .ok (.idiv, 1) := by decide +kernel
theorem dX11_writesNumber_39 : decode cX11_writesNumber 39 = .ok (.istore_n 2, 1) := by decide +kernel
theorem dX11_writesNumber_40 : decode cX11_writesNumber 40 = .ok (.goto (-22), 3) := by decide +kernel
theorem dX11_writesNumber_43 : decode cX11_writesNumber 43 = .ok (.return_, 1) := by decide +kernel
theorem dX11_lastDigit_0 : decode cX11_lastDigit 0 = .ok (.bipush 7, 2) := by decide +kernel
theorem dX11_lastDigit_2 : decode cX11_lastDigit 2 = .ok (.iload_n 0, 1) := by decide +kernel
theorem dX11_lastDigit_3 : decode cX11_lastDigit 3 = .ok (.imul, 1) := by decide +kernel
theorem dX11_lastDigit_4 : decode cX11_lastDigit 4 = .ok (.iconst 3, 1) := by decide +kernel
theorem dX11_lastDigit_5 : decode cX11_lastDigit 5 = .ok (.iload_n 1, 1) := by decide +kernel
theorem dX11_lastDigit_6 : decode cX11_lastDigit 6 = .ok (.imul, 1) := by decide +kernel
theorem dX11_lastDigit_7 : decode cX11_lastDigit 7 = .ok (.iadd, 1) := by decide +kernel
theorem dX11_lastDigit_8 : decode cX11_lastDigit 8 = .ok (.iload_n 2, 1) := by decide +kernel
theorem dX11_lastDigit_9 : decode cX11_lastDigit 9 = .ok (.iadd, 1) := by decide +kernel
theorem dX11_lastDigit_10 : decode cX11_lastDigit 10 = .ok (.bipush 10, 2) := by decide +kernel
theorem dX11_lastDigit_12 : decode cX11_lastDigit 12 = .ok (.irem, 1) := by decide +kernel
theorem dX11_lastDigit_13 : decode cX11_lastDigit 13 = .ok (.ireturn, 1) := by decide +kernel
theorem dX11_paperAt_0 : decode cX11_paperAt 0 = .ok (.iload_n 1, 1) := by decide +kernel
theorem dX11_paperAt_1 : decode cX11_paperAt 1 = .ok (.iconst (-1), 1) := by decide +kernel
theorem dX11_paperAt_2 : decode cX11_paperAt 2 = .ok (.if_icmp .ne 14, 3) := by decide +kernel
theorem dX11_paperAt_5 : decode cX11_paperAt 5 = .ok (.aload_n 0, 1) := by decide +kernel
theorem dX11_paperAt_6 : decode cX11_paperAt 6 = .ok (.aload_n 0, 1) := by decide +kernel
theorem dX11_paperAt_7 : decode cX11_paperAt 7 = .ok (.getfield 186, 3) := by decide +kernel
theorem dX11_paperAt_10 : decode cX11_paperAt 10 = .ok (.invokevirtual 69, 3) := by decide +kernel
theorem dX11_paperAt_13 : decode cX11_paperAt 13 = .ok (.goto 29, 3) := by decide +kernel
theorem dX11_paperAt_16 : decode cX11_paperAt 16 = .ok (.iload_n 1, 1) := by decide +kernel
theorem dX11_paperAt_17 : decode cX11_paperAt 17 = .ok (.aload_n 0, 1) := by decide +kernel
theorem dX11_paperAt_18 : decode cX11_paperAt 18 = .ok (.getfield 186, 3) := by decide +kernel
theorem dX11_paperAt_21 : decode cX11_paperAt 21 = .ok (.if_icmp .ge 16, 3) := by decide +kernel
theorem dX11_paperAt_24 : decode cX11_paperAt 24 = .ok (.aload_n 0, 1) := by decide +kernel
theorem dX11_paperAt_25 : decode cX11_paperAt 25 = .ok (.aload_n 0, 1) := by decide +kernel
theorem dX11_paperAt_26 : decode cX11_paperAt 26 = .ok (.getfield 31, 3) := by decide +kernel
theorem dX11_paperAt_29 : decode cX11_paperAt 29 = .ok (.iload_n 1, 1) := by decide +kernel
theorem dX11_paperAt_30 : decode cX11_paperAt 30 = .ok (.caload, 1) := by decide +kernel
theorem dX11_paperAt_31 : decode cX11_paperAt 31 = .ok (.invokevirtual 69, 3) := by decide +kernel
theorem dX11_paperAt_34 : decode cX11_paperAt 34 = .ok (.goto 8, 3) := by decide +kernel
theorem dX11_paperAt_37 : decode cX11_paperAt 37 = .ok (.aload_n 0, 1) := by decide +kernel
theorem dX11_paperAt_38 : decode cX11_paperAt 38 = .ok (.iconst 2, 1) := by decide +kernel
theorem dX11_paperAt_39 : decode cX11_paperAt 39 = .ok (.invokevirtual 80, 3) := by decide +kernel
theorem dX11_paperAt_42 : decode cX11_paperAt 42 = .ok (.ireturn, 1) := by decide +kernel
theorem dX11_shareText_0 : decode cX11_shareText 0 = .ok (.iload_n 1, 1) := by decide +kernel
theorem dX11_shareText_1 : decode cX11_shareText 1 = .ok (.invokestatic 107, 3) := by decide +kernel
theorem dX11_shareText_4 : decode cX11_shareText 4 = .ok (.ifCond .eq 15, 3) := by decide +kernel
theorem dX11_shareText_7 : decode cX11_shareText 7 = .ok (.iload_n 2, 1) := by decide +kernel
theorem dX11_shareText_8 : decode cX11_shareText 8 = .ok (.invokestatic 183, 3) := by decide +kernel
theorem dX11_shareText_11 : decode cX11_shareText 11 = .ok (.ifCond .eq 8, 3) := by decide +kernel
theorem dX11_shareText_14 : decode cX11_shareText 14 = .ok (.iload_n 3, 1) := by decide +kernel
theorem dX11_shareText_15 : decode cX11_shareText 15 = .ok (.iconst (-1), 1) := by decide +kernel
theorem dX11_shareText_16 : decode cX11_shareText 16 = .ok (.if_icmp .ge 9, 3) := by decide +kernel
theorem dX11_shareText_19 : decode cX11_shareText 19 = .ok (.aload_n 0, 1) := by decide +kernel
theorem dX11_shareText_20 : decode cX11_shareText 20 = .ok (.iconst 1, 1) := by decide +kernel
theorem dX11_shareText_21 : decode cX11_shareText 21 = .ok (.invokevirtual 80, 3) := by decide +kernel
theorem dX11_shareText_24 : decode cX11_shareText 24 = .ok (.ireturn, 1) := by decide +kernel
theorem dX11_shareText_25 : decode cX11_shareText 25 = .ok (.aload_n 0, 1) := by decide +kernel
theorem dX11_shareText_26 : decode cX11_shareText 26 = .ok (.iload_n 1, 1) := by decide +kernel
theorem dX11_shareText_27 : decode cX11_shareText 27 = .ok (.iload_n 2, 1) := by decide +kernel
theorem dX11_shareText_28 : decode cX11_shareText 28 = .ok (.invokevirtual 86, 3) := by decide +kernel
theorem dX11_shareText_31 : decode cX11_shareText 31 = .ok (.ifCond .ne 9, 3) := by decide +kernel
theorem dX11_shareText_34 : decode cX11_shareText 34 = .ok (.aload_n 0, 1) := by decide +kernel
theorem dX11_shareText_35 : decode cX11_shareText 35 = .ok (.iconst 2, 1) := by decide +kernel
theorem dX11_shareText_36 : decode cX11_shareText 36 = .ok (.invokevirtual 80, 3) := by decide +kernel
theorem dX11_shareText_39 : decode cX11_shareText 39 = .ok (.ireturn, 1) := by decide +kernel
theorem dX11_shareText_40 : decode cX11_shareText 40 = .ok (.aload_n 0, 1) := by decide +kernel
theorem dX11_shareText_41 : decode cX11_shareText 41 = .ok (.iload_n 1, 1) := by decide +kernel
theorem dX11_shareText_42 : decode cX11_shareText 42 = .ok (.iload_n 2, 1) := by decide +kernel
theorem dX11_shareText_43 : decode cX11_shareText 43 = .ok (.iconst 1, 1) := by decide +kernel
theorem dX11_shareText_44 : decode cX11_shareText 44 = .ok (.invokevirtual 57, 3) := by decide +kernel
theorem dX11_shareText_47 : decode cX11_shareText 47 = .ok (.istore 4, 2) := by decide +kernel
theorem dX11_shareText_49 : decode cX11_shareText 49 = .ok (.aload_n 0, 1) := by decide +kernel
theorem dX11_shareText_50 : decode cX11_shareText 50 = .ok (.iload_n 1, 1) := by decide +kernel
theorem dX11_shareText_51 : decode cX11_shareText 51 = .ok (.iload_n 2, 1) := by decide +kernel
theorem dX11_shareText_52 : decode cX11_shareText 52 = .ok (.iconst 2, 1) := by decide +kernel
theorem dX11_shareText_53 : decode cX11_shareText 53 = .ok (.invokevirtual 57, 3) := by decide +kernel
theorem dX11_shareText_56 : decode cX11_shareText 56 = .ok (.istore 5, 2) := by decide +kernel
theorem dX11_shareText_58 : decode cX11_shareText 58 = .ok (.aload_n 0, 1) := by decide +kernel
theorem dX11_shareText_59 : decode cX11_shareText 59 = .ok (.iconst 0, 1) := by decide +kernel
theorem dX11_shareText_60 : decode cX11_shareText 60 = .ok (.putfield 186, 3) := by decide +kernel
theorem dX11_shareText_63 : decode cX11_shareText 63 = .ok (.aload_n 0, 1) := by decide +kernel
theorem dX11_shareText_64 : decode cX11_shareText 64 = .ok (.iload_n 2, 1) := by decide +kernel
theorem dX11_shareText_65 : decode cX11_shareText 65 = .ok (.invokevirtual 192, 3) := by decide +kernel
theorem dX11_shareText_68 : decode cX11_shareText 68 = .ok (.aload_n 0, 1) := by decide +kernel
theorem dX11_shareText_69 : decode cX11_shareText 69 = .ok (.bipush 58, 2) := by decide +kernel
theorem dX11_shareText_71 : decode cX11_shareText 71 = .ok (.invokevirtual 189, 3) := by decide +kernel
theorem dX11_shareText_74 : decode cX11_shareText 74 = .ok (.aload_n 0, 1) := by decide +kernel
theorem dX11_shareText_75 : decode cX11_shareText 75 = .ok (.iload 4, 2) := by decide +kernel
theorem dX11_shareText_77 : decode cX11_shareText 77 = .ok (.invokevirtual 192, 3) := by decide +kernel
theorem dX11_shareText_80 : decode cX11_shareText 80 = .ok (.aload_n 0, 1) := by decide +kernel
theorem dX11_shareText_81 : decode cX11_shareText 81 = .ok (.bipush 64, 2) := by decide +kernel
theorem dX11_shareText_83 : decode cX11_shareText 83 = .ok (.invokevirtual 189, 3) := by decide +kernel
theorem dX11_shareText_86 : decode cX11_shareText 86 = .ok (.aload_n 0, 1) := by decide +kernel
theorem dX11_shareText_87 : decode cX11_shareText 87 = .ok (.iload 5, 2) := by decide +kernel
theorem dX11_shareText_89 : decode cX11_shareText 89 = .ok (.invokevirtual 192, 3) := by decide +kernel
theorem dX11_shareText_92 : decode cX11_shareText 92 = .ok (.aload_n 0, 1) := by decide +kernel
theorem dX11_shareText_93 : decode cX11_shareText 93 = .ok (.bipush 35, 2) := by decide +kernel
theorem dX11_shareText_95 : decode cX11_shareText 95 = .ok (.invokevirtual 189, 3) := by decide +kernel
theorem dX11_shareText_98 : decode cX11_shareText 98 = .ok (.aload_n 0, 1) := by decide +kernel
theorem dX11_shareText_99 : decode cX11_shareText 99 = .ok (.bipush 48, 2) := by decide +kernel
theorem dX11_shareText_101 : decode cX11_shareText 101 = .ok (.iload_n 2, 1) := by decide +kernel
theorem dX11_shareText_102 : decode cX11_shareText 102 = .ok (.iload 4, 2) := by decide +kernel
theorem dX11_shareText_104 : decode cX11_shareText 104 = .ok (.iload 5, 2) := by decide +kernel
theorem dX11_shareText_106 : decode cX11_shareText 106 = .ok (.invokestatic 195, 3) := by decide +kernel
theorem dX11_shareText_109 : decode cX11_shareText 109 = .ok (.iadd, 1) := by decide +kernel
theorem dX11_shareText_110 : decode cX11_shareText 110 = .ok (.invokevirtual 189, 3) := by decide +kernel
theorem dX11_shareText_113 : decode cX11_shareText 113 = .ok (.aload_n 0, 1) := by decide +kernel
theorem dX11_shareText_114 : decode cX11_shareText 114 = .ok (.iload_n 3, 1) := by decide +kernel
theorem dX11_shareText_115 : decode cX11_shareText 115 = .ok (.invokevirtual 198, 3) := by decide +kernel
theorem dX11_shareText_118 : decode cX11_shareText 118 = .ok (.ireturn, 1) := by decide +kernel
theorem dX11_append_0 : decode cX11_append 0 = .ok (.iconst 0, 1) := by decide +kernel
theorem dX11_append_1 : decode cX11_append 1 = .ok (.istore_n 2, 1) := by decide +kernel
theorem dX11_append_2 : decode cX11_append 2 = .ok (.bipush 24, 2) := by decide +kernel
theorem dX11_append_4 : decode cX11_append 4 = .ok (.istore_n 3, 1) := by decide +kernel
theorem dX11_append_5 : decode cX11_append 5 = .ok (.iload_n 3, 1) := by decide +kernel
theorem dX11_append_6 : decode cX11_append 6 = .ok (.ifCond .lt 54, 3) := by decide +kernel
theorem dX11_append_9 : decode cX11_append 9 = .ok (.iload_n 1, 1) := by decide +kernel
theorem dX11_append_10 : decode cX11_append 10 = .ok (.iload_n 3, 1) := by decide +kernel
theorem dX11_append_11 : decode cX11_append 11 = .ok (.iushr, 1) := by decide +kernel
theorem dX11_append_12 : decode cX11_append 12 = .ok (.sipush 255, 3) := by decide +kernel
theorem dX11_append_15 : decode cX11_append 15 = .ok (.iand, 1) := by decide +kernel
theorem dX11_append_16 : decode cX11_append 16 = .ok (.istore 4, 2) := by decide +kernel
theorem dX11_append_18 : decode cX11_append 18 = .ok (.iload 4, 2) := by decide +kernel
theorem dX11_append_20 : decode cX11_append 20 = .ok (.ifCond .eq 21, 3) := by decide +kernel
theorem dX11_append_23 : decode cX11_append 23 = .ok (.iload 4, 2) := by decide +kernel
theorem dX11_append_25 : decode cX11_append 25 = .ok (.bipush 33, 2) := by decide +kernel
theorem dX11_append_27 : decode cX11_append 27 = .ok (.bipush 126, 2) := by decide +kernel
theorem dX11_append_29 : decode cX11_append 29 = .ok (.invokestatic 45, 3) := by decide +kernel
theorem dX11_append_32 : decode cX11_append 32 = .ok (.ifCond .ne 9, 3) := by decide +kernel
theorem dX11_append_35 : decode cX11_append 35 = .ok (.aload_n 0, 1) := by decide +kernel
theorem dX11_append_36 : decode cX11_append 36 = .ok (.iconst 1, 1) := by decide +kernel
theorem dX11_append_37 : decode cX11_append 37 = .ok (.invokevirtual 80, 3) := by decide +kernel
theorem dX11_append_40 : decode cX11_append 40 = .ok (.ireturn, 1) := by decide +kernel
theorem dX11_append_41 : decode cX11_append 41 = .ok (.iload_n 2, 1) := by decide +kernel
theorem dX11_append_42 : decode cX11_append 42 = .ok (.iload 4, 2) := by decide +kernel
theorem dX11_append_44 : decode cX11_append 44 = .ok (.ifCond .eq 7, 3) := by decide +kernel
theorem dX11_append_47 : decode cX11_append 47 = .ok (.iconst 1, 1) := by decide +kernel
theorem dX11_append_48 : decode cX11_append 48 = .ok (.goto 4, 3) := by decide +kernel
theorem dX11_append_51 : decode cX11_append 51 = .ok (.iconst 0, 1) := by decide +kernel
theorem dX11_append_52 : decode cX11_append 52 = .ok (.iadd, 1) := by decide +kernel
theorem dX11_append_53 : decode cX11_append 53 = .ok (.istore_n 2, 1) := by decide +kernel
theorem dX11_append_54 : decode cX11_append 54 = .ok (.iinc 3 (-8), 3) := by decide +kernel
theorem dX11_append_57 : decode cX11_append 57 = .ok (.goto (-52), 3) := by decide +kernel
theorem dX11_append_60 : decode cX11_append 60 = .ok (.aload_n 0, 1) := by decide +kernel
theorem dX11_append_61 : decode cX11_append 61 = .ok (.getfield 201, 3) := by decide +kernel
theorem dX11_append_64 : decode cX11_append 64 = .ok (.iload_n 2, 1) := by decide +kernel
theorem dX11_append_65 : decode cX11_append 65 = .ok (.iadd, 1) := by decide +kernel
theorem dX11_append_66 : decode cX11_append 66 = .ok (.bipush 40, 2) := by decide +kernel
theorem dX11_append_68 : decode cX11_append 68 = .ok (.if_icmp .le 9, 3) := by decide +kernel
theorem dX11_append_71 : decode cX11_append 71 = .ok (.aload_n 0, 1) := by decide +kernel
theorem dX11_append_72 : decode cX11_append 72 = .ok (.iconst 2, 1) := by decide +kernel
theorem dX11_append_73 : decode cX11_append 73 = .ok (.invokevirtual 80, 3) := by decide +kernel
theorem dX11_append_76 : decode cX11_append 76 = .ok (.ireturn, 1) := by decide +kernel
theorem dX11_append_77 : decode cX11_append 77 = .ok (.bipush 24, 2) := by decide +kernel
theorem dX11_append_79 : decode cX11_append 79 = .ok (.istore_n 3, 1) := by decide +kernel
theorem dX11_append_80 : decode cX11_append 80 = .ok (.iload_n 3, 1) := by decide +kernel
theorem dX11_append_81 : decode cX11_append 81 = .ok (.ifCond .lt 45, 3) := by decide +kernel
theorem dX11_append_84 : decode cX11_append 84 = .ok (.iload_n 1, 1) := by decide +kernel
theorem dX11_append_85 : decode cX11_append 85 = .ok (.iload_n 3, 1) := by decide +kernel
theorem dX11_append_86 : decode cX11_append 86 = .ok (.iushr, 1) := by decide +kernel
theorem dX11_append_87 : decode cX11_append 87 = .ok (.sipush 255, 3) := by decide +kernel
theorem dX11_append_90 : decode cX11_append 90 = .ok (.iand, 1) := by decide +kernel
theorem dX11_append_91 : decode cX11_append 91 = .ok (.istore 4, 2) := by decide +kernel
theorem dX11_append_93 : decode cX11_append 93 = .ok (.iload 4, 2) := by decide +kernel
theorem dX11_append_95 : decode cX11_append 95 = .ok (.ifCond .eq 25, 3) := by decide +kernel
theorem dX11_append_98 : decode cX11_append 98 = .ok (.aload_n 0, 1) := by decide +kernel
theorem dX11_append_99 : decode cX11_append 99 = .ok (.getfield 35, 3) := by decide +kernel
theorem dX11_append_102 : decode cX11_append 102 = .ok (.aload_n 0, 1) := by decide +kernel
theorem dX11_append_103 : decode cX11_append 103 = .ok (.getfield 201, 3) := by decide +kernel
theorem dX11_append_106 : decode cX11_append 106 = .ok (.iload 4, 2) := by decide +kernel
theorem dX11_append_108 : decode cX11_append 108 = .ok (.i2c, 1) := by decide +kernel
theorem dX11_append_109 : decode cX11_append 109 = .ok (.castore, 1) := by decide +kernel
theorem dX11_append_110 : decode cX11_append 110 = .ok (.aload_n 0, 1) := by decide +kernel
theorem dX11_append_111 : decode cX11_append 111 = .ok (.dup, 1) := by decide +kernel
theorem dX11_append_112 : decode cX11_append 112 = .ok (.getfield 201, 3) := by decide +kernel
theorem dX11_append_115 : decode cX11_append 115 = .ok (.iconst 1, 1) := by decide +kernel
theorem dX11_append_116 : decode cX11_append 116 = .ok (.iadd, 1) := by decide +kernel
theorem dX11_append_117 : decode cX11_append 117 = .ok (.putfield 201, 3) := by decide +kernel
theorem dX11_append_120 : decode cX11_append 120 = .ok (.iinc 3 (-8), 3) := by decide +kernel
theorem dX11_append_123 : decode cX11_append 123 = .ok (.goto (-43), 3) := by decide +kernel
theorem dX11_append_126 : decode cX11_append 126 = .ok (.aload_n 0, 1) := by decide +kernel
theorem dX11_append_127 : decode cX11_append 127 = .ok (.aload_n 0, 1) := by decide +kernel
theorem dX11_append_128 : decode cX11_append 128 = .ok (.getfield 201, 3) := by decide +kernel
theorem dX11_append_131 : decode cX11_append 131 = .ok (.invokevirtual 69, 3) := by decide +kernel
theorem dX11_append_134 : decode cX11_append 134 = .ok (.ireturn, 1) := by decide +kernel
theorem dX11_here_0 : decode cX11_here 0 = .ok (.aload_n 0, 1) := by decide +kernel
theorem dX11_here_1 : decode cX11_here 1 = .ok (.getfield 204, 3) := by decide +kernel
theorem dX11_here_4 : decode cX11_here 4 = .ok (.aload_n 0, 1) := by decide +kernel
theorem dX11_here_5 : decode cX11_here 5 = .ok (.getfield 201, 3) := by decide +kernel
theorem dX11_here_8 : decode cX11_here 8 = .ok (.if_icmp .ge 15, 3) := by decide +kernel
theorem dX11_here_11 : decode cX11_here 11 = .ok (.aload_n 0, 1) := by decide +kernel
theorem dX11_here_12 : decode cX11_here 12 = .ok (.getfield 35, 3) := by decide +kernel
theorem dX11_here_15 : decode cX11_here 15 = .ok (.aload_n 0, 1) := by decide +kernel
theorem dX11_here_16 : decode cX11_here 16 = .ok (.getfield 204, 3) := by decide +kernel
theorem dX11_here_19 : decode cX11_here 19 = .ok (.caload, 1) := by decide +kernel
theorem dX11_here_20 : decode cX11_here 20 = .ok (.goto 4, 3) := by decide +kernel
theorem dX11_here_23 : decode cX11_here 23 = .ok (.iconst 0, 1) := by decide +kernel
theorem dX11_here_24 : decode cX11_here 24 = .ok (.ireturn, 1) := by decide +kernel
theorem dX11_eats_0 : decode cX11_eats 0 = .ok (.aload_n 0, 1) := by decide +kernel
theorem dX11_eats_1 : decode cX11_eats 1 = .ok (.getfield 204, 3) := by decide +kernel
theorem dX11_eats_4 : decode cX11_eats 4 = .ok (.aload_n 0, 1) := by decide +kernel
theorem dX11_eats_5 : decode cX11_eats 5 = .ok (.getfield 201, 3) := by decide +kernel
theorem dX11_eats_8 : decode cX11_eats 8 = .ok (.if_icmp .ge 15, 3) := by decide +kernel
theorem dX11_eats_11 : decode cX11_eats 11 = .ok (.aload_n 0, 1) := by decide +kernel
theorem dX11_eats_12 : decode cX11_eats 12 = .ok (.invokevirtual 207, 3) := by decide +kernel
theorem dX11_eats_15 : decode cX11_eats 15 = .ok (.iload_n 1, 1) := by decide +kernel
theorem dX11_eats_16 : decode cX11_eats 16 = .ok (.if_icmp .ne 7, 3) := by decide +kernel
theorem dX11_eats_19 : decode cX11_eats 19 = .ok (.iconst 1, 1) := by decide +kernel
theorem dX11_eats_20 : decode cX11_eats 20 = .ok (.goto 4, 3) := by decide +kernel
theorem dX11_eats_23 : decode cX11_eats 23 = .ok (.iconst 0, 1) := by decide +kernel
theorem dX11_eats_24 : decode cX11_eats 24 = .ok (.istore_n 2, 1) := by decide +kernel
theorem dX11_eats_25 : decode cX11_eats 25 = .ok (.aload_n 0, 1) := by decide +kernel
theorem dX11_eats_26 : decode cX11_eats 26 = .ok (.dup, 1) := by decide +kernel
theorem dX11_eats_27 : decode cX11_eats 27 = .ok (.getfield 204, 3) := by decide +kernel
theorem dX11_eats_30 : decode cX11_eats 30 = .ok (.iload_n 2, 1) := by decide +kernel
theorem dX11_eats_31 : decode cX11_eats 31 = .ok (.ifCond .eq 7, 3) := by decide +kernel
theorem dX11_eats_34 : decode cX11_eats 34 = .ok (.iconst 1, 1) := by decide +kernel
theorem dX11_eats_35 : decode cX11_eats 35 = .ok (.goto 4, 3) := by decide +kernel
theorem dX11_eats_38 : decode cX11_eats 38 = .ok (.iconst 0, 1) := by decide +kernel
theorem dX11_eats_39 : decode cX11_eats 39 = .ok (.iadd, 1) := by decide +kernel
theorem dX11_eats_40 : decode cX11_eats 40 = .ok (.putfield 204, 3) := by decide +kernel
theorem dX11_eats_43 : decode cX11_eats 43 = .ok (.iload_n 2, 1) := by decide +kernel
theorem dX11_eats_44 : decode cX11_eats 44 = .ok (.ireturn, 1) := by decide +kernel
theorem dX11_readsNumber_0 : decode cX11_readsNumber 0 = .ok (.aload_n 0, 1) := by decide +kernel
theorem dX11_readsNumber_1 : decode cX11_readsNumber 1 = .ok (.getfield 204, 3) := by decide +kernel
theorem dX11_readsNumber_4 : decode cX11_readsNumber 4 = .ok (.istore_n 3, 1) := by decide +kernel
theorem dX11_readsNumber_5 : decode cX11_readsNumber 5 = .ok (.aload_n 0, 1) := by decide +kernel
theorem dX11_readsNumber_6 : decode cX11_readsNumber 6 = .ok (.iconst 0, 1) := by decide +kernel
theorem dX11_readsNumber_7 : decode cX11_readsNumber 7 = .ok (.putfield 210, 3) := by decide +kernel
theorem dX11_readsNumber_10 : decode cX11_readsNumber 10 = .ok (.aload_n 0, 1) := by decide +kernel
theorem dX11_readsNumber_11 : decode cX11_readsNumber 11 = .ok (.getfield 204, 3) := by decide +kernel
theorem dX11_readsNumber_14 : decode cX11_readsNumber 14 = .ok (.iload_n 3, 1) := by decide +kernel
theorem dX11_readsNumber_15 : decode cX11_readsNumber 15 = .ok (.isub, 1) := by decide +kernel
theorem dX11_readsNumber_16 : decode cX11_readsNumber 16 = .ok (.iconst 4, 1) := by decide +kernel
theorem dX11_readsNumber_17 : decode cX11_readsNumber 17 = .ok (.if_icmp .ge 64, 3) := by decide +kernel
theorem dX11_readsNumber_20 : decode cX11_readsNumber 20 = .ok (.aload_n 0, 1) := by decide +kernel
theorem dX11_readsNumber_21 : decode cX11_readsNumber 21 = .ok (.invokevirtual 207, 3) := by decide +kernel
theorem dX11_readsNumber_24 : decode cX11_readsNumber 24 = .ok (.bipush 48, 2) := by decide +kernel
theorem dX11_readsNumber_26 : decode cX11_readsNumber 26 = .ok (.bipush 57, 2) := by decide +kernel
theorem dX11_readsNumber_28 : decode cX11_readsNumber 28 = .ok (.invokestatic 45, 3) := by decide +kernel
theorem dX11_readsNumber_31 : decode cX11_readsNumber 31 = .ok (.ifCond .eq 50, 3) := by decide +kernel
theorem dX11_readsNumber_34 : decode cX11_readsNumber 34 = .ok (.aload_n 0, 1) := by decide +kernel
theorem dX11_readsNumber_35 : decode cX11_readsNumber 35 = .ok (.getfield 204, 3) := by decide +kernel
theorem dX11_readsNumber_38 : decode cX11_readsNumber 38 = .ok (.iload_n 3, 1) := by decide +kernel
theorem dX11_readsNumber_39 : decode cX11_readsNumber 39 = .ok (.if_icmp .eq 10, 3) := by decide +kernel
theorem dX11_readsNumber_42 : decode cX11_readsNumber 42 = .ok (.aload_n 0, 1) := by decide +kernel
theorem dX11_readsNumber_43 : decode cX11_readsNumber 43 = .ok (.getfield 210, 3) := by decide +kernel
theorem dX11_readsNumber_46 : decode cX11_readsNumber 46 = .ok (.ifCond .le 35, 3) := by decide +kernel
theorem dX11_readsNumber_49 : decode cX11_readsNumber 49 = .ok (.aload_n 0, 1) := by decide +kernel
theorem dX11_readsNumber_50 : decode cX11_readsNumber 50 = .ok (.bipush 10, 2) := by decide +kernel
theorem dX11_readsNumber_52 : decode cX11_readsNumber 52 = .ok (.aload_n 0, 1) := by decide +kernel
theorem dX11_readsNumber_53 : decode cX11_readsNumber 53 = .ok (.getfield 210, 3) := by decide +kernel
theorem dX11_readsNumber_56 : decode cX11_readsNumber 56 = .ok (.imul, 1) := by decide +kernel
theorem dX11_readsNumber_57 : decode cX11_readsNumber 57 = .ok (.aload_n 0, 1) := by decide +kernel
theorem dX11_readsNumber_58 : decode cX11_readsNumber 58 = .ok (.invokevirtual 207, 3) := by decide +kernel
theorem dX11_readsNumber_61 : decode cX11_readsNumber 61 = .ok (.iadd, 1) := by decide +kernel
theorem dX11_readsNumber_62 : decode cX11_readsNumber 62 = .ok (.bipush 48, 2) := by decide +kernel
theorem dX11_readsNumber_64 : decode cX11_readsNumber 64 = .ok (.isub, 1) := by decide +kernel
theorem dX11_readsNumber_65 : decode cX11_readsNumber 65 = .ok (.putfield 210, 3) := by decide +kernel
theorem dX11_readsNumber_68 : decode cX11_readsNumber 68 = .ok (.aload_n 0, 1) := by decide +kernel
theorem dX11_readsNumber_69 : decode cX11_readsNumber 69 = .ok (.dup, 1) := by decide +kernel
theorem dX11_readsNumber_70 : decode cX11_readsNumber 70 = .ok (.getfield 204, 3) := by decide +kernel
theorem dX11_readsNumber_73 : decode cX11_readsNumber 73 = .ok (.iconst 1, 1) := by decide +kernel
theorem dX11_readsNumber_74 : decode cX11_readsNumber 74 = .ok (.iadd, 1) := by decide +kernel
theorem dX11_readsNumber_75 : decode cX11_readsNumber 75 = .ok (.putfield 204, 3) := by decide +kernel
theorem dX11_readsNumber_78 : decode cX11_readsNumber 78 = .ok (.goto (-68), 3) := by decide +kernel
theorem dX11_readsNumber_81 : decode cX11_readsNumber 81 = .ok (.aload_n 0, 1) := by decide +kernel
theorem dX11_readsNumber_82 : decode cX11_readsNumber 82 = .ok (.getfield 204, 3) := by decide +kernel
theorem dX11_readsNumber_85 : decode cX11_readsNumber 85 = .ok (.iload_n 3, 1) := by decide +kernel
theorem dX11_readsNumber_86 : decode cX11_readsNumber 86 = .ok (.if_icmp .ne 5, 3) := by decide +kernel
theorem dX11_readsNumber_89 : decode cX11_readsNumber 89 = .ok (.iconst 0, 1) := by decide +kernel
theorem dX11_readsNumber_90 : decode cX11_readsNumber 90 = .ok (.ireturn, 1) := by decide +kernel
theorem dX11_readsNumber_91 : decode cX11_readsNumber 91 = .ok (.aload_n 0, 1) := by decide +kernel
theorem dX11_readsNumber_92 : decode cX11_readsNumber 92 = .ok (.getfield 210, 3) := by decide +kernel
theorem dX11_readsNumber_95 : decode cX11_readsNumber 95 = .ok (.iload_n 1, 1) := by decide +kernel
theorem dX11_readsNumber_96 : decode cX11_readsNumber 96 = .ok (.iload_n 2, 1) := by decide +kernel
theorem dX11_readsNumber_97 : decode cX11_readsNumber 97 = .ok (.invokestatic 45, 3) := by decide +kernel
theorem dX11_readsNumber_100 : decode cX11_readsNumber 100 = .ok (.ifCond .ne 10, 3) := by decide +kernel
theorem dX11_readsNumber_103 : decode cX11_readsNumber 103 = .ok (.aload_n 0, 1) := by decide +kernel
theorem dX11_readsNumber_104 : decode cX11_readsNumber 104 = .ok (.iload_n 3, 1) := by decide +kernel
theorem dX11_readsNumber_105 : decode cX11_readsNumber 105 = .ok (.putfield 204, 3) := by decide +kernel
theorem dX11_readsNumber_108 : decode cX11_readsNumber 108 = .ok (.iconst 0, 1) := by decide +kernel
theorem dX11_readsNumber_109 : decode cX11_readsNumber 109 = .ok (.ireturn, 1) := by decide +kernel
theorem dX11_readsNumber_110 : decode cX11_readsNumber 110 = .ok (.iconst 1, 1) := by decide +kernel
theorem dX11_readsNumber_111 : decode cX11_readsNumber 111 = .ok (.ireturn, 1) := by decide +kernel
theorem dX11_readsShare_0 : decode cX11_readsShare 0 = .ok (.aload_n 0, 1) := by decide +kernel
theorem dX11_readsShare_1 : decode cX11_readsShare 1 = .ok (.iconst 1, 1) := by decide +kernel
theorem dX11_readsShare_2 : decode cX11_readsShare 2 = .ok (.bipush 24, 2) := by decide +kernel
theorem dX11_readsShare_4 : decode cX11_readsShare 4 = .ok (.invokevirtual 213, 3) := by decide +kernel
theorem dX11_readsShare_7 : decode cX11_readsShare 7 = .ok (.ifCond .ne 5, 3) := by decide +kernel
theorem dX11_readsShare_10 : decode cX11_readsShare 10 = .ok (.iconst 0, 1) := by decide +kernel
theorem dX11_readsShare_11 : decode cX11_readsShare 11 = .ok (.ireturn, 1) := by decide +kernel
theorem dX11_readsShare_12 : decode cX11_readsShare 12 = .ok (.aload_n 0, 1) := by decide +kernel
theorem dX11_readsShare_13 : decode cX11_readsShare 13 = .ok (.aload_n 0, 1) := by decide +kernel
theorem dX11_readsShare_14 : decode cX11_readsShare 14 = .ok (.getfield 210, 3) := by decide +kernel
theorem dX11_readsShare_17 : decode cX11_readsShare 17 = .ok (.putfield 216, 3) := by decide +kernel
theorem dX11_readsShare_20 : decode cX11_readsShare 20 = .ok (.aload_n 0, 1) := by decide +kernel
theorem dX11_readsShare_21 : decode cX11_readsShare 21 = .ok (.bipush 58, 2) := by decide +kernel
theorem dX11_readsShare_23 : decode cX11_readsShare 23 = .ok (.invokevirtual 219, 3) := by decide +kernel
theorem dX11_readsShare_26 : decode cX11_readsShare 26 = .ok (.ifCond .eq 14, 3) := by decide +kernel
theorem dX11_readsShare_29 : decode cX11_readsShare 29 = .ok (.aload_n 0, 1) := by decide +kernel
theorem dX11_readsShare_30 : decode cX11_readsShare 30 = .ok (.iconst 0, 1) := by decide +kernel
theorem dX11_readsShare_31 : decode cX11_readsShare 31 = .ok (.sipush 1018, 3) := by decide +kernel
theorem dX11_readsShare_34 : decode cX11_readsShare 34 = .ok (.invokevirtual 213, 3) := by decide +kernel
theorem dX11_readsShare_37 : decode cX11_readsShare 37 = .ok (.ifCond .ne 5, 3) := by decide +kernel
theorem dX11_readsShare_40 : decode cX11_readsShare 40 = .ok (.iconst 0, 1) := by decide +kernel
theorem dX11_readsShare_41 : decode cX11_readsShare 41 = .ok (.ireturn, 1) := by decide +kernel
theorem dX11_readsShare_42 : decode cX11_readsShare 42 = .ok (.aload_n 0, 1) := by decide +kernel
theorem dX11_readsShare_43 : decode cX11_readsShare 43 = .ok (.aload_n 0, 1) := by decide +kernel
theorem dX11_readsShare_44 : decode cX11_readsShare 44 = .ok (.getfield 210, 3) := by decide +kernel
theorem dX11_readsShare_47 : decode cX11_readsShare 47 = .ok (.putfield 222, 3) := by decide +kernel
theorem dX11_readsShare_50 : decode cX11_readsShare 50 = .ok (.aload_n 0, 1) := by decide +kernel
theorem dX11_readsShare_51 : decode cX11_readsShare 51 = .ok (.bipush 64, 2) := by decide +kernel
theorem dX11_readsShare_53 : decode cX11_readsShare 53 = .ok (.invokevirtual 219, 3) := by decide +kernel
theorem dX11_readsShare_56 : decode cX11_readsShare 56 = .ok (.ifCond .eq 14, 3) := by decide +kernel
theorem dX11_readsShare_59 : decode cX11_readsShare 59 = .ok (.aload_n 0, 1) := by decide +kernel
theorem dX11_readsShare_60 : decode cX11_readsShare 60 = .ok (.iconst 1, 1) := by decide +kernel
theorem dX11_readsShare_61 : decode cX11_readsShare 61 = .ok (.sipush 9999, 3) := by decide +kernel
theorem dX11_readsShare_64 : decode cX11_readsShare 64 = .ok (.invokevirtual 213, 3) := by decide +kernel
theorem dX11_readsShare_67 : decode cX11_readsShare 67 = .ok (.ifCond .ne 5, 3) := by decide +kernel
theorem dX11_readsShare_70 : decode cX11_readsShare 70 = .ok (.iconst 0, 1) := by decide +kernel
theorem dX11_readsShare_71 : decode cX11_readsShare 71 = .ok (.ireturn, 1) := by decide +kernel
theorem dX11_readsShare_72 : decode cX11_readsShare 72 = .ok (.aload_n 0, 1) := by decide +kernel
theorem dX11_readsShare_73 : decode cX11_readsShare 73 = .ok (.aload_n 0, 1) := by decide +kernel
theorem dX11_readsShare_74 : decode cX11_readsShare 74 = .ok (.getfield 210, 3) := by decide +kernel
theorem dX11_readsShare_77 : decode cX11_readsShare 77 = .ok (.putfield 225, 3) := by decide +kernel
theorem dX11_readsShare_80 : decode cX11_readsShare 80 = .ok (.aload_n 0, 1) := by decide +kernel
theorem dX11_readsShare_81 : decode cX11_readsShare 81 = .ok (.bipush 35, 2) := by decide +kernel
theorem dX11_readsShare_83 : decode cX11_readsShare 83 = .ok (.invokevirtual 219, 3) := by decide +kernel
theorem dX11_readsShare_86 : decode cX11_readsShare 86 = .ok (.ifCond .eq 43, 3) := by decide +kernel
theorem dX11_readsShare_89 : decode cX11_readsShare 89 = .ok (.aload_n 0, 1) := by decide +kernel
theorem dX11_readsShare_90 : decode cX11_readsShare 90 = .ok (.bipush 48, 2) := by decide +kernel
theorem dX11_readsShare_92 : decode cX11_readsShare 92 = .ok (.aload_n 0, 1) := by decide +kernel
theorem dX11_readsShare_93 : decode cX11_readsShare 93 = .ok (.getfield 216, 3) := by decide +kernel
theorem dX11_readsShare_96 : decode cX11_readsShare 96 = .ok (.aload_n 0, 1) := by decide +kernel
theorem dX11_readsShare_97 : decode cX11_readsShare 97 = .ok (.getfield 222, 3) := by decide +kernel
theorem dX11_readsShare_100 : decode cX11_readsShare 100 = .ok (.aload_n 0, 1) := by decide +kernel
theorem dX11_readsShare_101 : decode cX11_readsShare 101 = .ok (.getfield 225, 3) := by decide +kernel
theorem dX11_readsShare_104 : decode cX11_readsShare 104 = .ok (.invokestatic 195, 3) := by decide +kernel
theorem dX11_readsShare_107 : decode cX11_readsShare 107 = .ok (.iadd, 1) := by decide +kernel
theorem dX11_readsShare_108 : decode cX11_readsShare 108 = .ok (.invokevirtual 219, 3) := by decide +kernel
theorem dX11_readsShare_111 : decode cX11_readsShare 111 = .ok (.ifCond .eq 18, 3) := by decide +kernel
theorem dX11_readsShare_114 : decode cX11_readsShare 114 = .ok (.aload_n 0, 1) := by decide +kernel
theorem dX11_readsShare_115 : decode cX11_readsShare 115 = .ok (.getfield 204, 3) := by decide +kernel
theorem dX11_readsShare_118 : decode cX11_readsShare 118 = .ok (.aload_n 0, 1) := by decide +kernel
theorem dX11_readsShare_119 : decode cX11_readsShare 119 = .ok (.getfield 201, 3) := by decide +kernel
theorem dX11_readsShare_122 : decode cX11_readsShare 122 = .ok (.if_icmp .ne 7, 3) := by decide +kernel
theorem dX11_readsShare_125 : decode cX11_readsShare 125 = .ok (.iconst 1, 1) := by decide +kernel
theorem dX11_readsShare_126 : decode cX11_readsShare 126 = .ok (.goto 4, 3) := by decide +kernel
theorem dX11_readsShare_129 : decode cX11_readsShare 129 = .ok (.iconst 0, 1) := by decide +kernel
theorem dX11_readsShare_130 : decode cX11_readsShare 130 = .ok (.ireturn, 1) := by decide +kernel
theorem dX11_importShare_0 : decode cX11_importShare 0 = .ok (.aload_n 0, 1) := by decide +kernel
theorem dX11_importShare_1 : decode cX11_importShare 1 = .ok (.iload_n 1, 1) := by decide +kernel
theorem dX11_importShare_2 : decode cX11_importShare 2 = .ok (.invokevirtual 121, 3) := by decide +kernel
theorem dX11_importShare_5 : decode cX11_importShare 5 = .ok (.istore_n 2, 1) := by decide +kernel
theorem dX11_importShare_6 : decode cX11_importShare 6 = .ok (.iload_n 2, 1) := by decide +kernel
theorem dX11_importShare_7 : decode cX11_importShare 7 = .ok (.ifCond .eq 9, 3) := by decide +kernel
theorem dX11_importShare_10 : decode cX11_importShare 10 = .ok (.aload_n 0, 1) := by decide +kernel
theorem dX11_importShare_11 : decode cX11_importShare 11 = .ok (.iload_n 2, 1) := by decide +kernel
theorem dX11_importShare_12 : decode cX11_importShare 12 = .ok (.invokevirtual 80, 3) := by decide +kernel
theorem dX11_importShare_15 : decode cX11_importShare 15 = .ok (.ireturn, 1) := by decide +kernel
theorem dX11_importShare_16 : decode cX11_importShare 16 = .ok (.aload_n 0, 1) := by decide +kernel
theorem dX11_importShare_17 : decode cX11_importShare 17 = .ok (.iconst 0, 1) := by decide +kernel
theorem dX11_importShare_18 : decode cX11_importShare 18 = .ok (.putfield 204, 3) := by decide +kernel
theorem dX11_importShare_21 : decode cX11_importShare 21 = .ok (.aload_n 0, 1) := by decide +kernel
theorem dX11_importShare_22 : decode cX11_importShare 22 = .ok (.invokevirtual 228, 3) := by decide +kernel
theorem dX11_importShare_25 : decode cX11_importShare 25 = .ok (.istore_n 3, 1) := by decide +kernel
theorem dX11_importShare_26 : decode cX11_importShare 26 = .ok (.aload_n 0, 1) := by decide +kernel
theorem dX11_importShare_27 : decode cX11_importShare 27 = .ok (.iload_n 3, 1) := by decide +kernel
theorem dX11_importShare_28 : decode cX11_importShare 28 = .ok (.ifCond .eq 7, 3) := by decide +kernel
theorem dX11_importShare_31 : decode cX11_importShare 31 = .ok (.iconst (-1), 1) := by decide +kernel
theorem dX11_importShare_32 : decode cX11_importShare 32 = .ok (.goto 7, 3) := by decide +kernel
theorem dX11_importShare_35 : decode cX11_importShare 35 = .ok (.aload_n 0, 1) := by decide +kernel
theorem dX11_importShare_36 : decode cX11_importShare 36 = .ok (.getfield 204, 3) := by decide +kernel
theorem dX11_importShare_39 : decode cX11_importShare 39 = .ok (.putfield 38, 3) := by decide +kernel
theorem dX11_importShare_42 : decode cX11_importShare 42 = .ok (.aload_n 0, 1) := by decide +kernel
theorem dX11_importShare_43 : decode cX11_importShare 43 = .ok (.iconst 0, 1) := by decide +kernel
theorem dX11_importShare_44 : decode cX11_importShare 44 = .ok (.putfield 201, 3) := by decide +kernel
theorem dX11_importShare_47 : decode cX11_importShare 47 = .ok (.iload_n 3, 1) := by decide +kernel
theorem dX11_importShare_48 : decode cX11_importShare 48 = .ok (.ifCond .ne 9, 3) := by decide +kernel
theorem dX11_importShare_51 : decode cX11_importShare 51 = .ok (.aload_n 0, 1) := by decide +kernel
theorem dX11_importShare_52 : decode cX11_importShare 52 = .ok (.iconst 3, 1) := by decide +kernel
theorem dX11_importShare_53 : decode cX11_importShare 53 = .ok (.invokevirtual 80, 3) := by decide +kernel
theorem dX11_importShare_56 : decode cX11_importShare 56 = .ok (.ireturn, 1) := by decide +kernel
theorem dX11_importShare_57 : decode cX11_importShare 57 = .ok (.aload_n 0, 1) := by decide +kernel
theorem dX11_importShare_58 : decode cX11_importShare 58 = .ok (.iload_n 1, 1) := by decide +kernel
theorem dX11_importShare_59 : decode cX11_importShare 59 = .ok (.aload_n 0, 1) := by decide +kernel
theorem dX11_importShare_60 : decode cX11_importShare 60 = .ok (.getfield 216, 3) := by decide +kernel
theorem dX11_importShare_63 : decode cX11_importShare 63 = .ok (.aload_n 0, 1) := by decide +kernel
theorem dX11_importShare_64 : decode cX11_importShare 64 = .ok (.getfield 222, 3) := by decide +kernel
theorem dX11_importShare_67 : decode cX11_importShare 67 = .ok (.aload_n 0, 1) := by decide +kernel
theorem dX11_importShare_68 : decode cX11_importShare 68 = .ok (.getfield 225, 3) := by decide +kernel
theorem dX11_importShare_71 : decode cX11_importShare 71 = .ok (.invokevirtual 103, 3) := by decide +kernel
theorem dX11_importShare_74 : decode cX11_importShare 74 = .ok (.aload_n 0, 1) := by decide +kernel
theorem dX11_importShare_75 : decode cX11_importShare 75 = .ok (.aload_n 0, 1) := by decide +kernel
theorem dX11_importShare_76 : decode cX11_importShare 76 = .ok (.getfield 216, 3) := by decide +kernel
theorem dX11_importShare_79 : decode cX11_importShare 79 = .ok (.invokevirtual 69, 3) := by decide +kernel
theorem dX11_importShare_82 : decode cX11_importShare 82 = .ok (.ireturn, 1) := by decide +kernel
theorem dX11_bad_0 : decode cX11_bad 0 = .ok (.aload_n 0, 1) := by decide +kernel
theorem dX11_bad_1 : decode cX11_bad 1 = .ok (.iload_n 1, 1) := by decide +kernel
theorem dX11_bad_2 : decode cX11_bad 2 = .ok (.invokevirtual 121, 3) := by decide +kernel
theorem dX11_bad_5 : decode cX11_bad 5 = .ok (.istore_n 3, 1) := by decide +kernel
theorem dX11_bad_6 : decode cX11_bad 6 = .ok (.iload_n 3, 1) := by decide +kernel
theorem dX11_bad_7 : decode cX11_bad 7 = .ok (.ifCond .eq 9, 3) := by decide +kernel
theorem dX11_bad_10 : decode cX11_bad 10 = .ok (.aload_n 0, 1) := by decide +kernel
theorem dX11_bad_11 : decode cX11_bad 11 = .ok (.iload_n 3, 1) := by decide +kernel
theorem dX11_bad_12 : decode cX11_bad 12 = .ok (.invokevirtual 80, 3) := by decide +kernel
theorem dX11_bad_15 : decode cX11_bad 15 = .ok (.ireturn, 1) := by decide +kernel
theorem dX11_bad_16 : decode cX11_bad 16 = .ok (.iconst 0, 1) := by decide +kernel
theorem dX11_bad_17 : decode cX11_bad 17 = .ok (.istore 4, 2) := by decide +kernel
theorem dX11_bad_19 : decode cX11_bad 19 = .ok (.iconst 1, 1) := by decide +kernel
theorem dX11_bad_20 : decode cX11_bad 20 = .ok (.istore 5, 2) := by decide +kernel
theorem dX11_bad_22 : decode cX11_bad 22 = .ok (.iload 5, 2) := by decide +kernel
theorem dX11_bad_24 : decode cX11_bad 24 = .ok (.bipush 24, 2) := by decide +kernel
theorem dX11_bad_26 : decode cX11_bad 26 = .ok (.if_icmp .gt 45, 3) := by decide +kernel
theorem dX11_bad_29 : decode cX11_bad 29 = .ok (.aload_n 0, 1) := by decide +kernel
theorem dX11_bad_30 : decode cX11_bad 30 = .ok (.iload_n 1, 1) := by decide +kernel
theorem dX11_bad_31 : decode cX11_bad 31 = .ok (.iload 5, 2) := by decide +kernel
theorem dX11_bad_33 : decode cX11_bad 33 = .ok (.invokevirtual 86, 3) := by decide +kernel
theorem dX11_bad_36 : decode cX11_bad 36 = .ok (.ifCond .eq 29, 3) := by decide +kernel
theorem dX11_bad_39 : decode cX11_bad 39 = .ok (.aload_n 0, 1) := by decide +kernel
theorem dX11_bad_40 : decode cX11_bad 40 = .ok (.iload_n 1, 1) := by decide +kernel
theorem dX11_bad_41 : decode cX11_bad 41 = .ok (.iload 5, 2) := by decide +kernel
theorem dX11_bad_43 : decode cX11_bad 43 = .ok (.invokevirtual 90, 3) := by decide +kernel
theorem dX11_bad_46 : decode cX11_bad 46 = .ok (.ifCond .eq 19, 3) := by decide +kernel
theorem dX11_bad_49 : decode cX11_bad 49 = .ok (.iload 4, 2) := by decide +kernel
theorem dX11_bad_51 : decode cX11_bad 51 = .ok (.iload_n 2, 1) := by decide +kernel
theorem dX11_bad_52 : decode cX11_bad 52 = .ok (.if_icmp .ne 10, 3) := by decide +kernel
theorem dX11_bad_55 : decode cX11_bad 55 = .ok (.aload_n 0, 1) := by decide +kernel
theorem dX11_bad_56 : decode cX11_bad 56 = .ok (.iload 5, 2) := by decide +kernel
theorem dX11_bad_58 : decode cX11_bad 58 = .ok (.invokevirtual 69, 3) := by decide +kernel
theorem dX11_bad_61 : decode cX11_bad 61 = .ok (.ireturn, 1) := by decide +kernel
theorem dX11_bad_62 : decode cX11_bad 62 = .ok (.iinc 4 1, 3) := by decide +kernel
theorem dX11_bad_65 : decode cX11_bad 65 = .ok (.iinc 5 1, 3) := by decide +kernel
theorem dX11_bad_68 : decode cX11_bad 68 = .ok (.goto (-46), 3) := by decide +kernel
theorem dX11_bad_71 : decode cX11_bad 71 = .ok (.aload_n 0, 1) := by decide +kernel
theorem dX11_bad_72 : decode cX11_bad 72 = .ok (.iconst 2, 1) := by decide +kernel
theorem dX11_bad_73 : decode cX11_bad 73 = .ok (.invokevirtual 80, 3) := by decide +kernel
theorem dX11_bad_76 : decode cX11_bad 76 = .ok (.ireturn, 1) := by decide +kernel
theorem dX11_readsPart_0 : decode cX11_readsPart 0 = .ok (.aload_n 0, 1) := by decide +kernel
theorem dX11_readsPart_1 : decode cX11_readsPart 1 = .ok (.bipush 40, 2) := by decide +kernel
theorem dX11_readsPart_3 : decode cX11_readsPart 3 = .ok (.invokevirtual 219, 3) := by decide +kernel
theorem dX11_readsPart_6 : decode cX11_readsPart 6 = .ok (.ifCond .eq 25, 3) := by decide +kernel
theorem dX11_readsPart_9 : decode cX11_readsPart 9 = .ok (.aload_n 0, 1) := by decide +kernel
theorem dX11_readsPart_10 : decode cX11_readsPart 10 = .ok (.invokestatic 232, 3) := by decide +kernel
theorem dX11_readsPart_13 : decode cX11_readsPart 13 = .ok (.ifCond .eq 16, 3) := by decide +kernel
theorem dX11_readsPart_16 : decode cX11_readsPart 16 = .ok (.aload_n 0, 1) := by decide +kernel
theorem dX11_readsPart_17 : decode cX11_readsPart 17 = .ok (.bipush 41, 2) := by decide +kernel
theorem dX11_readsPart_19 : decode cX11_readsPart 19 = .ok (.invokevirtual 219, 3) := by decide +kernel
theorem dX11_readsPart_22 : decode cX11_readsPart 22 = .ok (.ifCond .eq 7, 3) := by decide +kernel
theorem dX11_readsPart_25 : decode cX11_readsPart 25 = .ok (.iconst 1, 1) := by decide +kernel
theorem dX11_readsPart_26 : decode cX11_readsPart 26 = .ok (.goto 4, 3) := by decide +kernel
theorem dX11_readsPart_29 : decode cX11_readsPart 29 = .ok (.iconst 0, 1) := by decide +kernel
theorem dX11_readsPart_30 : decode cX11_readsPart 30 = .ok (.ireturn, 1) := by decide +kernel
theorem dX11_readsPart_31 : decode cX11_readsPart 31 = .ok (.aload_n 0, 1) := by decide +kernel
theorem dX11_readsPart_32 : decode cX11_readsPart 32 = .ok (.invokevirtual 207, 3) := by decide +kernel
theorem dX11_readsPart_35 : decode cX11_readsPart 35 = .ok (.istore_n 1, 1) := by decide +kernel
theorem dX11_readsPart_36 : decode cX11_readsPart 36 = .ok (.iload_n 1, 1) := by decide +kernel
theorem dX11_readsPart_37 : decode cX11_readsPart 37 = .ok (.bipush 48, 2) := by decide +kernel
theorem dX11_readsPart_39 : decode cX11_readsPart 39 = .ok (.bipush 57, 2) := by decide +kernel
theorem dX11_readsPart_41 : decode cX11_readsPart 41 = .ok (.invokestatic 45, 3) := by decide +kernel
theorem dX11_readsPart_44 : decode cX11_readsPart 44 = .ok (.ifCond .ne 5, 3) := by decide +kernel
theorem dX11_readsPart_47 : decode cX11_readsPart 47 = .ok (.iconst 0, 1) := by decide +kernel
theorem dX11_readsPart_48 : decode cX11_readsPart 48 = .ok (.ireturn, 1) := by decide +kernel
theorem dX11_readsPart_49 : decode cX11_readsPart 49 = .ok (.aload_n 0, 1) := by decide +kernel
theorem dX11_readsPart_50 : decode cX11_readsPart 50 = .ok (.dup, 1) := by decide +kernel
theorem dX11_readsPart_51 : decode cX11_readsPart 51 = .ok (.getfield 204, 3) := by decide +kernel
theorem dX11_readsPart_54 : decode cX11_readsPart 54 = .ok (.iconst 1, 1) := by decide +kernel
theorem dX11_readsPart_55 : decode cX11_readsPart 55 = .ok (.iadd, 1) := by decide +kernel
theorem dX11_readsPart_56 : decode cX11_readsPart 56 = .ok (.putfield 204, 3) := by decide +kernel
theorem dX11_readsPart_59 : decode cX11_readsPart 59 = .ok (.aload_n 0, 1) := by decide +kernel
theorem dX11_readsPart_60 : decode cX11_readsPart 60 = .ok (.invokevirtual 207, 3) := by decide +kernel
theorem dX11_readsPart_63 : decode cX11_readsPart 63 = .ok (.bipush 111, 2) := by decide +kernel
theorem dX11_readsPart_65 : decode cX11_readsPart 65 = .ok (.if_icmp .ne 9, 3) := by decide +kernel
theorem dX11_readsPart_68 : decode cX11_readsPart 68 = .ok (.iload_n 1, 1) := by decide +kernel
theorem dX11_readsPart_69 : decode cX11_readsPart 69 = .ok (.bipush 48, 2) := by decide +kernel
theorem dX11_readsPart_71 : decode cX11_readsPart 71 = .ok (.if_icmp .ne 15, 3) := by decide +kernel
theorem dX11_readsPart_74 : decode cX11_readsPart 74 = .ok (.iload_n 1, 1) := by decide +kernel
theorem dX11_readsPart_75 : decode cX11_readsPart 75 = .ok (.bipush 55, 2) := by decide +kernel
theorem dX11_readsPart_77 : decode cX11_readsPart 77 = .ok (.if_icmp .gt 7, 3) := by decide +kernel
theorem dX11_readsPart_80 : decode cX11_readsPart 80 = .ok (.iconst 1, 1) := by decide +kernel
theorem dX11_readsPart_81 : decode cX11_readsPart 81 = .ok (.goto 4, 3) := by decide +kernel
theorem dX11_readsPart_84 : decode cX11_readsPart 84 = .ok (.iconst 0, 1) := by decide +kernel
theorem dX11_readsPart_85 : decode cX11_readsPart 85 = .ok (.ireturn, 1) := by decide +kernel
theorem dX11_readsPart_86 : decode cX11_readsPart 86 = .ok (.aload_n 0, 1) := by decide +kernel
theorem dX11_readsPart_87 : decode cX11_readsPart 87 = .ok (.dup, 1) := by decide +kernel
theorem dX11_readsPart_88 : decode cX11_readsPart 88 = .ok (.getfield 204, 3) := by decide +kernel
theorem dX11_readsPart_91 : decode cX11_readsPart 91 = .ok (.iconst 1, 1) := by decide +kernel
theorem dX11_readsPart_92 : decode cX11_readsPart 92 = .ok (.iadd, 1) := by decide +kernel
theorem dX11_readsPart_93 : decode cX11_readsPart 93 = .ok (.putfield 204, 3) := by decide +kernel
theorem dX11_readsPart_96 : decode cX11_readsPart 96 = .ok (.aload_n 0, 1) := by decide +kernel
theorem dX11_readsPart_97 : decode cX11_readsPart 97 = .ok (.bipush 102, 2) := by decide +kernel
theorem dX11_readsPart_99 : decode cX11_readsPart 99 = .ok (.invokevirtual 219, 3) := by decide +kernel
theorem dX11_readsPart_102 : decode cX11_readsPart 102 = .ok (.ifCond .eq 19, 3) := by decide +kernel
theorem dX11_readsPart_105 : decode cX11_readsPart 105 = .ok (.aload_n 0, 1) := by decide +kernel
theorem dX11_readsPart_106 : decode cX11_readsPart 106 = .ok (.bipush 40, 2) := by decide +kernel
theorem dX11_readsPart_108 : decode cX11_readsPart 108 = .ok (.invokevirtual 219, 3) := by decide +kernel
theorem dX11_readsPart_111 : decode cX11_readsPart 111 = .ok (.ifCond .eq 10, 3) := by decide +kernel
theorem dX11_readsPart_114 : decode cX11_readsPart 114 = .ok (.aload_n 0, 1) := by decide +kernel
theorem dX11_readsPart_115 : decode cX11_readsPart 115 = .ok (.invokestatic 232, 3) := by decide +kernel
theorem dX11_readsPart_118 : decode cX11_readsPart 118 = .ok (.ifCond .ne 5, 3) := by decide +kernel
theorem dX11_readsPart_121 : decode cX11_readsPart 121 = .ok (.iconst 0, 1) := by decide +kernel
theorem dX11_readsPart_122 : decode cX11_readsPart 122 = .ok (.ireturn, 1) := by decide +kernel
theorem dX11_readsPart_123 : decode cX11_readsPart 123 = .ok (.aload_n 0, 1) := by decide +kernel
theorem dX11_readsPart_124 : decode cX11_readsPart 124 = .ok (.bipush 44, 2) := by decide +kernel
theorem dX11_readsPart_126 : decode cX11_readsPart 126 = .ok (.invokevirtual 219, 3) := by decide +kernel
theorem dX11_readsPart_129 : decode cX11_readsPart 129 = .ok (.ifCond .eq 12, 3) := by decide +kernel
theorem dX11_readsPart_132 : decode cX11_readsPart 132 = .ok (.aload_n 0, 1) := by decide +kernel
theorem dX11_readsPart_133 : decode cX11_readsPart 133 = .ok (.invokestatic 232, 3) := by decide +kernel
theorem dX11_readsPart_136 : decode cX11_readsPart 136 = .ok (.ifCond .ne (-13), 3) := by decide +kernel
theorem dX11_readsPart_139 : decode cX11_readsPart 139 = .ok (.iconst 0, 1) := by decide +kernel
theorem dX11_readsPart_140 : decode cX11_readsPart 140 = .ok (.ireturn, 1) := by decide +kernel
theorem dX11_readsPart_141 : decode cX11_readsPart 141 = .ok (.aload_n 0, 1) := by decide +kernel
theorem dX11_readsPart_142 : decode cX11_readsPart 142 = .ok (.bipush 41, 2) := by decide +kernel
theorem dX11_readsPart_144 : decode cX11_readsPart 144 = .ok (.invokevirtual 219, 3) := by decide +kernel
theorem dX11_readsPart_147 : decode cX11_readsPart 147 = .ok (.ireturn, 1) := by decide +kernel
theorem dX11_readsAll_0 : decode cX11_readsAll 0 = .ok (.aload_n 0, 1) := by decide +kernel
theorem dX11_readsAll_1 : decode cX11_readsAll 1 = .ok (.invokestatic 236, 3) := by decide +kernel
theorem dX11_readsAll_4 : decode cX11_readsAll 4 = .ok (.istore_n 1, 1) := by decide +kernel
theorem dX11_readsAll_5 : decode cX11_readsAll 5 = .ok (.iload_n 1, 1) := by decide +kernel
theorem dX11_readsAll_6 : decode cX11_readsAll 6 = .ok (.ifCond .eq 20, 3) := by decide +kernel
theorem dX11_readsAll_9 : decode cX11_readsAll 9 = .ok (.aload_n 0, 1) := by decide +kernel
theorem dX11_readsAll_10 : decode cX11_readsAll 10 = .ok (.bipush 38, 2) := by decide +kernel
theorem dX11_readsAll_12 : decode cX11_readsAll 12 = .ok (.invokevirtual 219, 3) := by decide +kernel
theorem dX11_readsAll_15 : decode cX11_readsAll 15 = .ok (.ifCond .eq 11, 3) := by decide +kernel
theorem dX11_readsAll_18 : decode cX11_readsAll 18 = .ok (.aload_n 0, 1) := by decide +kernel
theorem dX11_readsAll_19 : decode cX11_readsAll 19 = .ok (.invokestatic 236, 3) := by decide +kernel
theorem dX11_readsAll_22 : decode cX11_readsAll 22 = .ok (.istore_n 1, 1) := by decide +kernel
theorem dX11_readsAll_23 : decode cX11_readsAll 23 = .ok (.goto (-18), 3) := by decide +kernel
theorem dX11_readsAll_26 : decode cX11_readsAll 26 = .ok (.iload_n 1, 1) := by decide +kernel
theorem dX11_readsAll_27 : decode cX11_readsAll 27 = .ok (.ireturn, 1) := by decide +kernel
theorem dX11_readsPolicy_0 : decode cX11_readsPolicy 0 = .ok (.aload_n 0, 1) := by decide +kernel
theorem dX11_readsPolicy_1 : decode cX11_readsPolicy 1 = .ok (.invokestatic 239, 3) := by decide +kernel
theorem dX11_readsPolicy_4 : decode cX11_readsPolicy 4 = .ok (.istore_n 1, 1) := by decide +kernel
theorem dX11_readsPolicy_5 : decode cX11_readsPolicy 5 = .ok (.iload_n 1, 1) := by decide +kernel
theorem dX11_readsPolicy_6 : decode cX11_readsPolicy 6 = .ok (.ifCond .eq 20, 3) := by decide +kernel
theorem dX11_readsPolicy_9 : decode cX11_readsPolicy 9 = .ok (.aload_n 0, 1) := by decide +kernel
theorem dX11_readsPolicy_10 : decode cX11_readsPolicy 10 = .ok (.bipush 124, 2) := by decide +kernel
theorem dX11_readsPolicy_12 : decode cX11_readsPolicy 12 = .ok (.invokevirtual 219, 3) := by decide +kernel
theorem dX11_readsPolicy_15 : decode cX11_readsPolicy 15 = .ok (.ifCond .eq 11, 3) := by decide +kernel
theorem dX11_readsPolicy_18 : decode cX11_readsPolicy 18 = .ok (.aload_n 0, 1) := by decide +kernel
theorem dX11_readsPolicy_19 : decode cX11_readsPolicy 19 = .ok (.invokestatic 239, 3) := by decide +kernel
theorem dX11_readsPolicy_22 : decode cX11_readsPolicy 22 = .ok (.istore_n 1, 1) := by decide +kernel
theorem dX11_readsPolicy_23 : decode cX11_readsPolicy 23 = .ok (.goto (-18), 3) := by decide +kernel
theorem dX11_readsPolicy_26 : decode cX11_readsPolicy 26 = .ok (.iload_n 1, 1) := by decide +kernel
theorem dX11_readsPolicy_27 : decode cX11_readsPolicy 27 = .ok (.ireturn, 1) := by decide +kernel
theorem dX11_setPolicy_0 : decode cX11_setPolicy 0 = .ok (.aload_n 0, 1) := by decide +kernel
theorem dX11_setPolicy_1 : decode cX11_setPolicy 1 = .ok (.aload_n 0, 1) := by decide +kernel
theorem dX11_setPolicy_2 : decode cX11_setPolicy 2 = .ok (.iload_n 1, 1) := by decide +kernel
theorem dX11_setPolicy_3 : decode cX11_setPolicy 3 = .ok (.invokevirtual 121, 3) := by decide +kernel
theorem dX11_setPolicy_6 : decode cX11_setPolicy 6 = .ok (.putfield 42, 3) := by decide +kernel
theorem dX11_setPolicy_9 : decode cX11_setPolicy 9 = .ok (.aload_n 0, 1) := by decide +kernel
theorem dX11_setPolicy_10 : decode cX11_setPolicy 10 = .ok (.getfield 42, 3) := by decide +kernel
theorem dX11_setPolicy_13 : decode cX11_setPolicy 13 = .ok (.ifCond .eq 5, 3) := by decide +kernel
theorem dX11_setPolicy_16 : decode cX11_setPolicy 16 = .ok (.iconst 0, 1) := by decide +kernel
theorem dX11_setPolicy_17 : decode cX11_setPolicy 17 = .ok (.ireturn, 1) := by decide +kernel
theorem dX11_setPolicy_18 : decode cX11_setPolicy 18 = .ok (.aload_n 0, 1) := by decide +kernel
theorem dX11_setPolicy_19 : decode cX11_setPolicy 19 = .ok (.iconst 0, 1) := by decide +kernel
theorem dX11_setPolicy_20 : decode cX11_setPolicy 20 = .ok (.putfield 204, 3) := by decide +kernel
theorem dX11_setPolicy_23 : decode cX11_setPolicy 23 = .ok (.aload_n 0, 1) := by decide +kernel
theorem dX11_setPolicy_24 : decode cX11_setPolicy 24 = .ok (.getfield 201, 3) := by decide +kernel
theorem dX11_setPolicy_27 : decode cX11_setPolicy 27 = .ok (.ifCond .eq 21, 3) := by decide +kernel
theorem dX11_setPolicy_30 : decode cX11_setPolicy 30 = .ok (.aload_n 0, 1) := by decide +kernel
theorem dX11_setPolicy_31 : decode cX11_setPolicy 31 = .ok (.invokestatic 232, 3) := by decide +kernel
theorem dX11_setPolicy_34 : decode cX11_setPolicy 34 = .ok (.ifCond .eq 18, 3) := by decide +kernel
theorem dX11_setPolicy_37 : decode cX11_setPolicy 37 = .ok (.aload_n 0, 1) := by decide +kernel
theorem dX11_setPolicy_38 : decode cX11_setPolicy 38 = .ok (.getfield 204, 3) := by decide +kernel
theorem dX11_setPolicy_41 : decode cX11_setPolicy 41 = .ok (.aload_n 0, 1) := by decide +kernel
theorem dX11_setPolicy_42 : decode cX11_setPolicy 42 = .ok (.getfield 201, 3) := by decide +kernel
theorem dX11_setPolicy_45 : decode cX11_setPolicy 45 = .ok (.if_icmp .ne 7, 3) := by decide +kernel
theorem dX11_setPolicy_48 : decode cX11_setPolicy 48 = .ok (.iconst 1, 1) := by decide +kernel
theorem dX11_setPolicy_49 : decode cX11_setPolicy 49 = .ok (.goto 4, 3) := by decide +kernel
theorem dX11_setPolicy_52 : decode cX11_setPolicy 52 = .ok (.iconst 0, 1) := by decide +kernel
theorem dX11_setPolicy_53 : decode cX11_setPolicy 53 = .ok (.istore_n 2, 1) := by decide +kernel
theorem dX11_setPolicy_54 : decode cX11_setPolicy 54 = .ok (.aload_n 0, 1) := by decide +kernel
theorem dX11_setPolicy_55 : decode cX11_setPolicy 55 = .ok (.iload_n 2, 1) := by decide +kernel
theorem dX11_setPolicy_56 : decode cX11_setPolicy 56 = .ok (.ifCond .eq 7, 3) := by decide +kernel
theorem dX11_setPolicy_59 : decode cX11_setPolicy 59 = .ok (.iconst (-1), 1) := by decide +kernel
theorem dX11_setPolicy_60 : decode cX11_setPolicy 60 = .ok (.goto 7, 3) := by decide +kernel
theorem dX11_setPolicy_63 : decode cX11_setPolicy 63 = .ok (.aload_n 0, 1) := by decide +kernel
theorem dX11_setPolicy_64 : decode cX11_setPolicy 64 = .ok (.getfield 204, 3) := by decide +kernel
theorem dX11_setPolicy_67 : decode cX11_setPolicy 67 = .ok (.putfield 38, 3) := by decide +kernel
theorem dX11_setPolicy_70 : decode cX11_setPolicy 70 = .ok (.aload_n 0, 1) := by decide +kernel
theorem dX11_setPolicy_71 : decode cX11_setPolicy 71 = .ok (.iload_n 1, 1) := by decide +kernel
theorem dX11_setPolicy_72 : decode cX11_setPolicy 72 = .ok (.invokevirtual 140, 3) := by decide +kernel
theorem dX11_setPolicy_75 : decode cX11_setPolicy 75 = .ok (.istore_n 3, 1) := by decide +kernel
theorem dX11_setPolicy_76 : decode cX11_setPolicy 76 = .ok (.iload_n 2, 1) := by decide +kernel
theorem dX11_setPolicy_77 : decode cX11_setPolicy 77 = .ok (.ifCond .eq 49, 3) := by decide +kernel
theorem dX11_setPolicy_80 : decode cX11_setPolicy 80 = .ok (.aload_n 0, 1) := by decide +kernel
theorem dX11_setPolicy_81 : decode cX11_setPolicy 81 = .ok (.iload_n 1, 1) := by decide +kernel
theorem dX11_setPolicy_82 : decode cX11_setPolicy 82 = .ok (.bipush 11, 2) := by decide +kernel
theorem dX11_setPolicy_84 : decode cX11_setPolicy 84 = .ok (.aload_n 0, 1) := by decide +kernel
theorem dX11_setPolicy_85 : decode cX11_setPolicy 85 = .ok (.getfield 201, 3) := by decide +kernel
theorem dX11_setPolicy_88 : decode cX11_setPolicy 88 = .ok (.invokevirtual 53, 3) := by decide +kernel
theorem dX11_setPolicy_91 : decode cX11_setPolicy 91 = .ok (.iconst 0, 1) := by decide +kernel
theorem dX11_setPolicy_92 : decode cX11_setPolicy 92 = .ok (.istore 4, 2) := by decide +kernel
theorem dX11_setPolicy_94 : decode cX11_setPolicy 94 = .ok (.iload 4, 2) := by decide +kernel
theorem dX11_setPolicy_96 : decode cX11_setPolicy 96 = .ok (.aload_n 0, 1) := by decide +kernel
theorem dX11_setPolicy_97 : decode cX11_setPolicy 97 = .ok (.getfield 201, 3) := by decide +kernel
theorem dX11_setPolicy_100 : decode cX11_setPolicy 100 = .ok (.if_icmp .ge 26, 3) := by decide +kernel
theorem dX11_setPolicy_103 : decode cX11_setPolicy 103 = .ok (.aload_n 0, 1) := by decide +kernel
theorem dX11_setPolicy_104 : decode cX11_setPolicy 104 = .ok (.iload_n 1, 1) := by decide +kernel
theorem dX11_setPolicy_105 : decode cX11_setPolicy 105 = .ok (.bipush 12, 2) := by decide +kernel
theorem dX11_setPolicy_107 : decode cX11_setPolicy 107 = .ok (.iload 4, 2) := by decide +kernel
theorem dX11_setPolicy_109 : decode cX11_setPolicy 109 = .ok (.iadd, 1) := by decide +kernel
theorem dX11_setPolicy_110 : decode cX11_setPolicy 110 = .ok (.aload_n 0, 1) := by decide +kernel
theorem dX11_setPolicy_111 : decode cX11_setPolicy 111 = .ok (.getfield 35, 3) := by decide +kernel
theorem dX11_setPolicy_114 : decode cX11_setPolicy 114 = .ok (.iload 4, 2) := by decide +kernel
theorem dX11_setPolicy_116 : decode cX11_setPolicy 116 = .ok (.caload, 1) := by decide +kernel
theorem dX11_setPolicy_117 : decode cX11_setPolicy 117 = .ok (.invokevirtual 53, 3) := by decide +kernel
theorem dX11_setPolicy_120 : decode cX11_setPolicy 120 = .ok (.iinc 4 1, 3) := by decide +kernel
theorem dX11_setPolicy_123 : decode cX11_setPolicy 123 = .ok (.goto (-29), 3) := by decide +kernel
theorem dX11_setPolicy_126 : decode cX11_setPolicy 126 = .ok (.aload_n 0, 1) := by decide +kernel
theorem dX11_setPolicy_127 : decode cX11_setPolicy 127 = .ok (.iconst 0, 1) := by decide +kernel
theorem dX11_setPolicy_128 : decode cX11_setPolicy 128 = .ok (.putfield 201, 3) := by decide +kernel
theorem dX11_setPolicy_131 : decode cX11_setPolicy 131 = .ok (.aload_n 0, 1) := by decide +kernel
theorem dX11_setPolicy_132 : decode cX11_setPolicy 132 = .ok (.iload_n 2, 1) := by decide +kernel
theorem dX11_setPolicy_133 : decode cX11_setPolicy 133 = .ok (.ifCond .eq 7, 3) := by decide +kernel
theorem dX11_setPolicy_136 : decode cX11_setPolicy 136 = .ok (.iconst 0, 1) := by decide +kernel
theorem dX11_setPolicy_137 : decode cX11_setPolicy 137 = .ok (.goto 4, 3) := by decide +kernel
theorem dX11_setPolicy_140 : decode cX11_setPolicy 140 = .ok (.iconst 3, 1) := by decide +kernel
theorem dX11_setPolicy_141 : decode cX11_setPolicy 141 = .ok (.putfield 42, 3) := by decide +kernel
theorem dX11_setPolicy_144 : decode cX11_setPolicy 144 = .ok (.iload_n 2, 1) := by decide +kernel
theorem dX11_setPolicy_145 : decode cX11_setPolicy 145 = .ok (.ifCond .eq 11, 3) := by decide +kernel
theorem dX11_setPolicy_148 : decode cX11_setPolicy 148 = .ok (.iload_n 3, 1) := by decide +kernel
theorem dX11_setPolicy_149 : decode cX11_setPolicy 149 = .ok (.ifCond .eq 7, 3) := by decide +kernel
theorem dX11_setPolicy_152 : decode cX11_setPolicy 152 = .ok (.iconst 1, 1) := by decide +kernel
theorem dX11_setPolicy_153 : decode cX11_setPolicy 153 = .ok (.goto 4, 3) := by decide +kernel
theorem dX11_setPolicy_156 : decode cX11_setPolicy 156 = .ok (.iconst 0, 1) := by decide +kernel
theorem dX11_setPolicy_157 : decode cX11_setPolicy 157 = .ok (.ireturn, 1) := by decide +kernel
theorem dX11_errorPosition_0 : decode cX11_errorPosition 0 = .ok (.aload_n 0, 1) := by decide +kernel
theorem dX11_errorPosition_1 : decode cX11_errorPosition 1 = .ok (.aload_n 0, 1) := by decide +kernel
theorem dX11_errorPosition_2 : decode cX11_errorPosition 2 = .ok (.getfield 38, 3) := by decide +kernel
theorem dX11_errorPosition_5 : decode cX11_errorPosition 5 = .ok (.invokevirtual 69, 3) := by decide +kernel
theorem dX11_errorPosition_8 : decode cX11_errorPosition 8 = .ok (.ireturn, 1) := by decide +kernel
theorem dX11_fulfils_0 : decode cX11_fulfils 0 = .ok (.aload_n 0, 1) := by decide +kernel
theorem dX11_fulfils_1 : decode cX11_fulfils 1 = .ok (.aload_n 0, 1) := by decide +kernel
theorem dX11_fulfils_2 : decode cX11_fulfils 2 = .ok (.iload_n 1, 1) := by decide +kernel
theorem dX11_fulfils_3 : decode cX11_fulfils 3 = .ok (.iload_n 2, 1) := by decide +kernel
theorem dX11_fulfils_4 : decode cX11_fulfils 4 = .ok (.invokevirtual 177, 3) := by decide +kernel
theorem dX11_fulfils_7 : decode cX11_fulfils 7 = .ok (.putfield 42, 3) := by decide +kernel
theorem dX11_fulfils_10 : decode cX11_fulfils 10 = .ok (.aload_n 0, 1) := by decide +kernel
theorem dX11_fulfils_11 : decode cX11_fulfils 11 = .ok (.getfield 42, 3) := by decide +kernel
theorem dX11_fulfils_14 : decode cX11_fulfils 14 = .ok (.ifCond .ne 16, 3) := by decide +kernel
theorem dX11_fulfils_17 : decode cX11_fulfils 17 = .ok (.aload_n 0, 1) := by decide +kernel
theorem dX11_fulfils_18 : decode cX11_fulfils 18 = .ok (.iload_n 1, 1) := by decide +kernel
theorem dX11_fulfils_19 : decode cX11_fulfils 19 = .ok (.iload_n 2, 1) := by decide +kernel
theorem dX11_fulfils_20 : decode cX11_fulfils 20 = .ok (.invokevirtual 150, 3) := by decide +kernel
theorem dX11_fulfils_23 : decode cX11_fulfils 23 = .ok (.ifCond .eq 7, 3) := by decide +kernel
theorem dX11_fulfils_26 : decode cX11_fulfils 26 = .ok (.iconst 1, 1) := by decide +kernel
theorem dX11_fulfils_27 : decode cX11_fulfils 27 = .ok (.goto 4, 3) := by decide +kernel
theorem dX11_fulfils_30 : decode cX11_fulfils 30 = .ok (.iconst 0, 1) := by decide +kernel
theorem dX11_fulfils_31 : decode cX11_fulfils 31 = .ok (.ireturn, 1) := by decide +kernel
theorem dX11_writesPart_0 : decode cX11_writesPart 0 = .ok (.aload_n 0, 1) := by decide +kernel
theorem dX11_writesPart_1 : decode cX11_writesPart 1 = .ok (.iload_n 1, 1) := by decide +kernel
theorem dX11_writesPart_2 : decode cX11_writesPart 2 = .ok (.bipush 12, 2) := by decide +kernel
theorem dX11_writesPart_4 : decode cX11_writesPart 4 = .ok (.iload_n 2, 1) := by decide +kernel
theorem dX11_writesPart_5 : decode cX11_writesPart 5 = .ok (.iadd, 1) := by decide +kernel
theorem dX11_writesPart_6 : decode cX11_writesPart 6 = .ok (.invokevirtual 49, 3) := by decide +kernel
theorem dX11_writesPart_9 : decode cX11_writesPart 9 = .ok (.istore 5, 2) := by decide +kernel
theorem dX11_writesPart_11 : decode cX11_writesPart 11 = .ok (.iload 5, 2) := by decide +kernel
theorem dX11_writesPart_13 : decode cX11_writesPart 13 = .ok (.bipush 40, 2) := by decide +kernel
theorem dX11_writesPart_15 : decode cX11_writesPart 15 = .ok (.if_icmp .ne 96, 3) := by decide +kernel
theorem dX11_writesPart_18 : decode cX11_writesPart 18 = .ok (.aload_n 0, 1) := by decide +kernel
theorem dX11_writesPart_19 : decode cX11_writesPart 19 = .ok (.iload_n 1, 1) := by decide +kernel
theorem dX11_writesPart_20 : decode cX11_writesPart 20 = .ok (.iload_n 2, 1) := by decide +kernel
theorem dX11_writesPart_21 : decode cX11_writesPart 21 = .ok (.iconst 1, 1) := by decide +kernel
theorem dX11_writesPart_22 : decode cX11_writesPart 22 = .ok (.iadd, 1) := by decide +kernel
theorem dX11_writesPart_23 : decode cX11_writesPart 23 = .ok (.iload_n 3, 1) := by decide +kernel
theorem dX11_writesPart_24 : decode cX11_writesPart 24 = .ok (.iconst 1, 1) := by decide +kernel
theorem dX11_writesPart_25 : decode cX11_writesPart 25 = .ok (.isub, 1) := by decide +kernel
theorem dX11_writesPart_26 : decode cX11_writesPart 26 = .ok (.bipush 124, 2) := by decide +kernel
theorem dX11_writesPart_28 : decode cX11_writesPart 28 = .ok (.invokevirtual 130, 3) := by decide +kernel
theorem dX11_writesPart_31 : decode cX11_writesPart 31 = .ok (.iload_n 3, 1) := by decide +kernel
theorem dX11_writesPart_32 : decode cX11_writesPart 32 = .ok (.iconst 1, 1) := by decide +kernel
theorem dX11_writesPart_33 : decode cX11_writesPart 33 = .ok (.isub, 1) := by decide +kernel
theorem dX11_writesPart_34 : decode cX11_writesPart 34 = .ok (.if_icmp .ge 7, 3) := by decide +kernel
theorem dX11_writesPart_37 : decode cX11_writesPart 37 = .ok (.iconst 1, 1) := by decide +kernel
theorem dX11_writesPart_38 : decode cX11_writesPart 38 = .ok (.goto 4, 3) := by decide +kernel
theorem dX11_writesPart_41 : decode cX11_writesPart 41 = .ok (.iconst 0, 1) := by decide +kernel
theorem dX11_writesPart_42 : decode cX11_writesPart 42 = .ok (.istore 6, 2) := by decide +kernel
theorem dX11_writesPart_44 : decode cX11_writesPart 44 = .ok (.iload 6, 2) := by decide +kernel
theorem dX11_writesPart_46 : decode cX11_writesPart 46 = .ok (.ifCond .eq 14, 3) := by decide +kernel
theorem dX11_writesPart_49 : decode cX11_writesPart 49 = .ok (.iload 4, 2) := by decide +kernel
theorem dX11_writesPart_51 : decode cX11_writesPart 51 = .ok (.ifCond .eq 9, 3) := by decide +kernel
theorem dX11_writesPart_54 : decode cX11_writesPart 54 = .ok (.aload_n 0, 1) := by decide +kernel
theorem dX11_writesPart_55 : decode cX11_writesPart 55 = .ok (.bipush 40, 2) := by decide +kernel
theorem dX11_writesPart_57 : decode cX11_writesPart 57 = .ok (.invokevirtual 189, 3) := by decide +kernel
theorem dX11_writesPart_60 : decode cX11_writesPart 60 = .ok (.iload 6, 2) := by decide +kernel
theorem dX11_writesPart_62 : decode cX11_writesPart 62 = .ok (.ifCond .eq 17, 3) := by decide +kernel
theorem dX11_writesPart_65 : decode cX11_writesPart 65 = .ok (.aload_n 0, 1) := by decide +kernel
theorem dX11_writesPart_66 : decode cX11_writesPart 66 = .ok (.iload_n 1, 1) := by decide +kernel
theorem dX11_writesPart_67 : decode cX11_writesPart 67 = .ok (.iload_n 2, 1) := by decide +kernel
theorem dX11_writesPart_68 : decode cX11_writesPart 68 = .ok (.iconst 1, 1) := by decide +kernel
theorem dX11_writesPart_69 : decode cX11_writesPart 69 = .ok (.iadd, 1) := by decide +kernel
theorem dX11_writesPart_70 : decode cX11_writesPart 70 = .ok (.iload_n 3, 1) := by decide +kernel
theorem dX11_writesPart_71 : decode cX11_writesPart 71 = .ok (.iconst 1, 1) := by decide +kernel
theorem dX11_writesPart_72 : decode cX11_writesPart 72 = .ok (.isub, 1) := by decide +kernel
theorem dX11_writesPart_73 : decode cX11_writesPart 73 = .ok (.invokestatic 242, 3) := by decide +kernel
theorem dX11_writesPart_76 : decode cX11_writesPart 76 = .ok (.goto 16, 3) := by decide +kernel
theorem dX11_writesPart_79 : decode cX11_writesPart 79 = .ok (.aload_n 0, 1) := by decide +kernel
theorem dX11_writesPart_80 : decode cX11_writesPart 80 = .ok (.iload_n 1, 1) := by decide +kernel
theorem dX11_writesPart_81 : decode cX11_writesPart 81 = .ok (.iload_n 2, 1) := by decide +kernel
theorem dX11_writesPart_82 : decode cX11_writesPart 82 = .ok (.iconst 1, 1) := by decide +kernel
theorem dX11_writesPart_83 : decode cX11_writesPart 83 = .ok (.iadd, 1) := by decide +kernel
theorem dX11_writesPart_84 : decode cX11_writesPart 84 = .ok (.iload_n 3, 1) := by decide +kernel
theorem dX11_writesPart_85 : decode cX11_writesPart 85 = .ok (.iconst 1, 1) := by decide +kernel
theorem dX11_writesPart_86 : decode cX11_writesPart 86 = .ok (.isub, 1) := by decide +kernel
theorem dX11_writesPart_87 : decode cX11_writesPart 87 = .ok (.iload 4, 2) := by decide +kernel
theorem dX11_writesPart_89 : decode cX11_writesPart 89 = .ok (.invokestatic 246, 3) := by decide +kernel
theorem dX11_writesPart_92 : decode cX11_writesPart 92 = .ok (.iload 6, 2) := by decide +kernel
theorem dX11_writesPart_94 : decode cX11_writesPart 94 = .ok (.ifCond .eq 14, 3) := by decide +kernel
theorem dX11_writesPart_97 : decode cX11_writesPart 97 = .ok (.iload 4, 2) := by decide +kernel
theorem dX11_writesPart_99 : decode cX11_writesPart 99 = .ok (.ifCond .eq 9, 3) := by decide +kernel
theorem dX11_writesPart_102 : decode cX11_writesPart 102 = .ok (.aload_n 0, 1) := by decide +kernel
theorem dX11_writesPart_103 : decode cX11_writesPart 103 = .ok (.bipush 41, 2) := by decide +kernel
theorem dX11_writesPart_105 : decode cX11_writesPart 105 = .ok (.invokevirtual 189, 3) := by decide +kernel
theorem dX11_writesPart_108 : decode cX11_writesPart 108 = .ok (.goto 110, 3) := by decide +kernel
theorem dX11_writesPart_111 : decode cX11_writesPart 111 = .ok (.aload_n 0, 1) := by decide +kernel
theorem dX11_writesPart_112 : decode cX11_writesPart 112 = .ok (.iload_n 1, 1) := by decide +kernel
theorem dX11_writesPart_113 : decode cX11_writesPart 113 = .ok (.iload_n 2, 1) := by decide +kernel
theorem dX11_writesPart_114 : decode cX11_writesPart 114 = .ok (.iload_n 3, 1) := by decide +kernel
theorem dX11_writesPart_115 : decode cX11_writesPart 115 = .ok (.invokevirtual 137, 3) := by decide +kernel
theorem dX11_writesPart_118 : decode cX11_writesPart 118 = .ok (.ifCond .eq 94, 3) := by decide +kernel
theorem dX11_writesPart_121 : decode cX11_writesPart 121 = .ok (.aload_n 0, 1) := by decide +kernel
theorem dX11_writesPart_122 : decode cX11_writesPart 122 = .ok (.iload 5, 2) := by decide +kernel
theorem dX11_writesPart_124 : decode cX11_writesPart 124 = .ok (.invokevirtual 189, 3) := by decide +kernel
theorem dX11_writesPart_127 : decode cX11_writesPart 127 = .ok (.aload_n 0, 1) := by decide +kernel
theorem dX11_writesPart_128 : decode cX11_writesPart 128 = .ok (.bipush 111, 2) := by decide +kernel
theorem dX11_writesPart_130 : decode cX11_writesPart 130 = .ok (.invokevirtual 189, 3) := by decide +kernel
theorem dX11_writesPart_133 : decode cX11_writesPart 133 = .ok (.aload_n 0, 1) := by decide +kernel
theorem dX11_writesPart_134 : decode cX11_writesPart 134 = .ok (.bipush 102, 2) := by decide +kernel
theorem dX11_writesPart_136 : decode cX11_writesPart 136 = .ok (.invokevirtual 189, 3) := by decide +kernel
theorem dX11_writesPart_139 : decode cX11_writesPart 139 = .ok (.aload_n 0, 1) := by decide +kernel
theorem dX11_writesPart_140 : decode cX11_writesPart 140 = .ok (.bipush 40, 2) := by decide +kernel
theorem dX11_writesPart_142 : decode cX11_writesPart 142 = .ok (.invokevirtual 189, 3) := by decide +kernel
theorem dX11_writesPart_145 : decode cX11_writesPart 145 = .ok (.iload_n 2, 1) := by decide +kernel
theorem dX11_writesPart_146 : decode cX11_writesPart 146 = .ok (.iconst 4, 1) := by decide +kernel
theorem dX11_writesPart_147 : decode cX11_writesPart 147 = .ok (.iadd, 1) := by decide +kernel
theorem dX11_writesPart_148 : decode cX11_writesPart 148 = .ok (.istore 6, 2) := by decide +kernel
theorem dX11_writesPart_150 : decode cX11_writesPart 150 = .ok (.iload 6, 2) := by decide +kernel
theorem dX11_writesPart_152 : decode cX11_writesPart 152 = .ok (.iload_n 3, 1) := by decide +kernel
theorem dX11_writesPart_153 : decode cX11_writesPart 153 = .ok (.iconst 1, 1) := by decide +kernel
theorem dX11_writesPart_154 : decode cX11_writesPart 154 = .ok (.isub, 1) := by decide +kernel
theorem dX11_writesPart_155 : decode cX11_writesPart 155 = .ok (.if_icmp .ge 54, 3) := by decide +kernel
theorem dX11_writesPart_158 : decode cX11_writesPart 158 = .ok (.aload_n 0, 1) := by decide +kernel
theorem dX11_writesPart_159 : decode cX11_writesPart 159 = .ok (.iload_n 1, 1) := by decide +kernel
theorem dX11_writesPart_160 : decode cX11_writesPart 160 = .ok (.iload 6, 2) := by decide +kernel
theorem dX11_writesPart_162 : decode cX11_writesPart 162 = .ok (.iload_n 3, 1) := by decide +kernel
theorem dX11_writesPart_163 : decode cX11_writesPart 163 = .ok (.iconst 1, 1) := by decide +kernel
theorem dX11_writesPart_164 : decode cX11_writesPart 164 = .ok (.isub, 1) := by decide +kernel
theorem dX11_writesPart_165 : decode cX11_writesPart 165 = .ok (.bipush 44, 2) := by decide +kernel
theorem dX11_writesPart_167 : decode cX11_writesPart 167 = .ok (.invokevirtual 130, 3) := by decide +kernel
theorem dX11_writesPart_170 : decode cX11_writesPart 170 = .ok (.istore 7, 2) := by decide +kernel
theorem dX11_writesPart_172 : decode cX11_writesPart 172 = .ok (.aload_n 0, 1) := by decide +kernel
theorem dX11_writesPart_173 : decode cX11_writesPart 173 = .ok (.iload_n 1, 1) := by decide +kernel
theorem dX11_writesPart_174 : decode cX11_writesPart 174 = .ok (.iload 6, 2) := by decide +kernel
theorem dX11_writesPart_176 : decode cX11_writesPart 176 = .ok (.iload 7, 2) := by decide +kernel
theorem dX11_writesPart_178 : decode cX11_writesPart 178 = .ok (.invokestatic 242, 3) := by decide +kernel
theorem dX11_writesPart_181 : decode cX11_writesPart 181 = .ok (.aload_n 0, 1) := by decide +kernel
theorem dX11_writesPart_182 : decode cX11_writesPart 182 = .ok (.iload 7, 2) := by decide +kernel
theorem dX11_writesPart_184 : decode cX11_writesPart 184 = .ok (.iload_n 3, 1) := by decide +kernel
theorem dX11_writesPart_185 : decode cX11_writesPart 185 = .ok (.iconst 1, 1) := by decide +kernel
theorem dX11_writesPart_186 : decode cX11_writesPart 186 = .ok (.isub, 1) := by decide +kernel
theorem dX11_writesPart_187 : decode cX11_writesPart 187 = .ok (.if_icmp .ge 8, 3) := by decide +kernel
theorem dX11_writesPart_190 : decode cX11_writesPart 190 = .ok (.bipush 44, 2) := by decide +kernel
theorem dX11_writesPart_192 : decode cX11_writesPart 192 = .ok (.goto 5, 3) := by decide +kernel
theorem dX11_writesPart_195 : decode cX11_writesPart 195 = .ok (.bipush 41, 2) := by decide +kernel
theorem dX11_writesPart_197 : decode cX11_writesPart 197 = .ok (.invokevirtual 189, 3) := by decide +kernel
theorem dX11_writesPart_200 : decode cX11_writesPart 200 = .ok (.iload 7, 2) := by decide +kernel
theorem dX11_writesPart_202 : decode cX11_writesPart 202 = .ok (.iconst 1, 1) := by decide +kernel
theorem dX11_writesPart_203 : decode cX11_writesPart 203 = .ok (.iadd, 1) := by decide +kernel
theorem dX11_writesPart_204 : decode cX11_writesPart 204 = .ok (.istore 6, 2) := by decide +kernel
theorem dX11_writesPart_206 : decode cX11_writesPart 206 = .ok (.goto (-56), 3) := by decide +kernel
theorem dX11_writesPart_209 : decode cX11_writesPart 209 = .ok (.goto 9, 3) := by decide +kernel
theorem dX11_writesPart_212 : decode cX11_writesPart 212 = .ok (.aload_n 0, 1) := by decide +kernel
theorem dX11_writesPart_213 : decode cX11_writesPart 213 = .ok (.iload 5, 2) := by decide +kernel
theorem dX11_writesPart_215 : decode cX11_writesPart 215 = .ok (.invokevirtual 189, 3) := by decide +kernel
theorem dX11_writesPart_218 : decode cX11_writesPart 218 = .ok (.return_, 1) := by decide +kernel
theorem dX11_writesAll_0 : decode cX11_writesAll 0 = .ok (.aload_n 0, 1) := by decide +kernel
theorem dX11_writesAll_1 : decode cX11_writesAll 1 = .ok (.iload_n 1, 1) := by decide +kernel
theorem dX11_writesAll_2 : decode cX11_writesAll 2 = .ok (.iload_n 2, 1) := by decide +kernel
theorem dX11_writesAll_3 : decode cX11_writesAll 3 = .ok (.iload_n 3, 1) := by decide +kernel
theorem dX11_writesAll_4 : decode cX11_writesAll 4 = .ok (.bipush 38, 2) := by decide +kernel
theorem dX11_writesAll_6 : decode cX11_writesAll 6 = .ok (.invokevirtual 130, 3) := by decide +kernel
theorem dX11_writesAll_9 : decode cX11_writesAll 9 = .ok (.istore 5, 2) := by decide +kernel
theorem dX11_writesAll_11 : decode cX11_writesAll 11 = .ok (.iload 5, 2) := by decide +kernel
theorem dX11_writesAll_13 : decode cX11_writesAll 13 = .ok (.iload_n 3, 1) := by decide +kernel
theorem dX11_writesAll_14 : decode cX11_writesAll 14 = .ok (.if_icmp .ge 7, 3) := by decide +kernel
theorem dX11_writesAll_17 : decode cX11_writesAll 17 = .ok (.iconst 1, 1) := by decide +kernel
theorem dX11_writesAll_18 : decode cX11_writesAll 18 = .ok (.goto 4, 3) := by decide +kernel
theorem dX11_writesAll_21 : decode cX11_writesAll 21 = .ok (.iconst 0, 1) := by decide +kernel
theorem dX11_writesAll_22 : decode cX11_writesAll 22 = .ok (.istore 6, 2) := by decide +kernel
theorem dX11_writesAll_24 : decode cX11_writesAll 24 = .ok (.iload_n 2, 1) := by decide +kernel
theorem dX11_writesAll_25 : decode cX11_writesAll 25 = .ok (.istore 7, 2) := by decide +kernel
theorem dX11_writesAll_27 : decode cX11_writesAll 27 = .ok (.iload 7, 2) := by decide +kernel
theorem dX11_writesAll_29 : decode cX11_writesAll 29 = .ok (.iload_n 3, 1) := by decide +kernel
theorem dX11_writesAll_30 : decode cX11_writesAll 30 = .ok (.if_icmp .ge 60, 3) := by decide +kernel
theorem dX11_writesAll_33 : decode cX11_writesAll 33 = .ok (.aload_n 0, 1) := by decide +kernel
theorem dX11_writesAll_34 : decode cX11_writesAll 34 = .ok (.iload_n 1, 1) := by decide +kernel
theorem dX11_writesAll_35 : decode cX11_writesAll 35 = .ok (.iload 7, 2) := by decide +kernel
theorem dX11_writesAll_37 : decode cX11_writesAll 37 = .ok (.iload_n 3, 1) := by decide +kernel
theorem dX11_writesAll_38 : decode cX11_writesAll 38 = .ok (.bipush 38, 2) := by decide +kernel
theorem dX11_writesAll_40 : decode cX11_writesAll 40 = .ok (.invokevirtual 130, 3) := by decide +kernel
theorem dX11_writesAll_43 : decode cX11_writesAll 43 = .ok (.istore 8, 2) := by decide +kernel
theorem dX11_writesAll_45 : decode cX11_writesAll 45 = .ok (.aload_n 0, 1) := by decide +kernel
theorem dX11_writesAll_46 : decode cX11_writesAll 46 = .ok (.iload_n 1, 1) := by decide +kernel
theorem dX11_writesAll_47 : decode cX11_writesAll 47 = .ok (.iload 7, 2) := by decide +kernel
theorem dX11_writesAll_49 : decode cX11_writesAll 49 = .ok (.iload 8, 2) := by decide +kernel
theorem dX11_writesAll_51 : decode cX11_writesAll 51 = .ok (.iload 6, 2) := by decide +kernel
theorem dX11_writesAll_53 : decode cX11_writesAll 53 = .ok (.ifCond .ne 8, 3) := by decide +kernel
theorem dX11_writesAll_56 : decode cX11_writesAll 56 = .ok (.iload 4, 2) := by decide +kernel
theorem dX11_writesAll_58 : decode cX11_writesAll 58 = .ok (.ifCond .eq 7, 3) := by decide +kernel
theorem dX11_writesAll_61 : decode cX11_writesAll 61 = .ok (.iconst 1, 1) := by decide +kernel
theorem dX11_writesAll_62 : decode cX11_writesAll 62 = .ok (.goto 4, 3) := by decide +kernel
theorem dX11_writesAll_65 : decode cX11_writesAll 65 = .ok (.iconst 0, 1) := by decide +kernel
theorem dX11_writesAll_66 : decode cX11_writesAll 66 = .ok (.invokestatic 250, 3) := by decide +kernel
theorem dX11_writesAll_69 : decode cX11_writesAll 69 = .ok (.iload 8, 2) := by decide +kernel
theorem dX11_writesAll_71 : decode cX11_writesAll 71 = .ok (.iload_n 3, 1) := by decide +kernel
theorem dX11_writesAll_72 : decode cX11_writesAll 72 = .ok (.if_icmp .ge 9, 3) := by decide +kernel
theorem dX11_writesAll_75 : decode cX11_writesAll 75 = .ok (.aload_n 0, 1) := by decide +kernel
theorem dX11_writesAll_76 : decode cX11_writesAll 76 = .ok (.bipush 38, 2) := by decide +kernel
theorem dX11_writesAll_78 : decode cX11_writesAll 78 = .ok (.invokevirtual 189, 3) := by decide +kernel
theorem dX11_writesAll_81 : decode cX11_writesAll 81 = .ok (.iload 8, 2) := by decide +kernel
theorem dX11_writesAll_83 : decode cX11_writesAll 83 = .ok (.iconst 1, 1) := by decide +kernel
theorem dX11_writesAll_84 : decode cX11_writesAll 84 = .ok (.iadd, 1) := by decide +kernel
theorem dX11_writesAll_85 : decode cX11_writesAll 85 = .ok (.istore 7, 2) := by decide +kernel
theorem dX11_writesAll_87 : decode cX11_writesAll 87 = .ok (.goto (-60), 3) := by decide +kernel
theorem dX11_writesAll_90 : decode cX11_writesAll 90 = .ok (.return_, 1) := by decide +kernel
theorem dX11_writesPolicy_0 : decode cX11_writesPolicy 0 = .ok (.iload_n 2, 1) := by decide +kernel
theorem dX11_writesPolicy_1 : decode cX11_writesPolicy 1 = .ok (.istore 4, 2) := by decide +kernel
theorem dX11_writesPolicy_3 : decode cX11_writesPolicy 3 = .ok (.iload 4, 2) := by decide +kernel
theorem dX11_writesPolicy_5 : decode cX11_writesPolicy 5 = .ok (.iload_n 3, 1) := by decide +kernel
theorem dX11_writesPolicy_6 : decode cX11_writesPolicy 6 = .ok (.if_icmp .ge 46, 3) := by decide +kernel
theorem dX11_writesPolicy_9 : decode cX11_writesPolicy 9 = .ok (.aload_n 0, 1) := by decide +kernel
theorem dX11_writesPolicy_10 : decode cX11_writesPolicy 10 = .ok (.iload_n 1, 1) := by decide +kernel
theorem dX11_writesPolicy_11 : decode cX11_writesPolicy 11 = .ok (.iload 4, 2) := by decide +kernel
theorem dX11_writesPolicy_13 : decode cX11_writesPolicy 13 = .ok (.iload_n 3, 1) := by decide +kernel
theorem dX11_writesPolicy_14 : decode cX11_writesPolicy 14 = .ok (.bipush 124, 2) := by decide +kernel
theorem dX11_writesPolicy_16 : decode cX11_writesPolicy 16 = .ok (.invokevirtual 130, 3) := by decide +kernel
theorem dX11_writesPolicy_19 : decode cX11_writesPolicy 19 = .ok (.istore 5, 2) := by decide +kernel
theorem dX11_writesPolicy_21 : decode cX11_writesPolicy 21 = .ok (.aload_n 0, 1) := by decide +kernel
theorem dX11_writesPolicy_22 : decode cX11_writesPolicy 22 = .ok (.iload_n 1, 1) := by decide +kernel
theorem dX11_writesPolicy_23 : decode cX11_writesPolicy 23 = .ok (.iload 4, 2) := by decide +kernel
theorem dX11_writesPolicy_25 : decode cX11_writesPolicy 25 = .ok (.iload 5, 2) := by decide +kernel
theorem dX11_writesPolicy_27 : decode cX11_writesPolicy 27 = .ok (.iconst 0, 1) := by decide +kernel
theorem dX11_writesPolicy_28 : decode cX11_writesPolicy 28 = .ok (.invokestatic 246, 3) := by decide +kernel
theorem dX11_writesPolicy_31 : decode cX11_writesPolicy 31 = .ok (.iload 5, 2) := by decide +kernel
theorem dX11_writesPolicy_33 : decode cX11_writesPolicy 33 = .ok (.iload_n 3, 1) := by decide +kernel
theorem dX11_writesPolicy_34 : decode cX11_writesPolicy 34 = .ok (.if_icmp .ge 9, 3) := by decide +kernel
theorem dX11_writesPolicy_37 : decode cX11_writesPolicy 37 = .ok (.aload_n 0, 1) := by decide +kernel
theorem dX11_writesPolicy_38 : decode cX11_writesPolicy 38 = .ok (.bipush 124, 2) := by decide +kernel
theorem dX11_writesPolicy_40 : decode cX11_writesPolicy 40 = .ok (.invokevirtual 189, 3) := by decide +kernel
theorem dX11_writesPolicy_43 : decode cX11_writesPolicy 43 = .ok (.iload 5, 2) := by decide +kernel
theorem dX11_writesPolicy_45 : decode cX11_writesPolicy 45 = .ok (.iconst 1, 1) := by decide +kernel
theorem dX11_writesPolicy_46 : decode cX11_writesPolicy 46 = .ok (.iadd, 1) := by decide +kernel
theorem dX11_writesPolicy_47 : decode cX11_writesPolicy 47 = .ok (.istore 4, 2) := by decide +kernel
theorem dX11_writesPolicy_49 : decode cX11_writesPolicy 49 = .ok (.goto (-46), 3) := by decide +kernel
theorem dX11_writesPolicy_52 : decode cX11_writesPolicy 52 = .ok (.return_, 1) := by decide +kernel
theorem dX11_policyText_0 : decode cX11_policyText 0 = .ok (.iload_n 1, 1) := by decide +kernel
theorem dX11_policyText_1 : decode cX11_policyText 1 = .ok (.invokestatic 107, 3) := by decide +kernel
theorem dX11_policyText_4 : decode cX11_policyText 4 = .ok (.ifCond .eq 8, 3) := by decide +kernel
theorem dX11_policyText_7 : decode cX11_policyText 7 = .ok (.iload_n 2, 1) := by decide +kernel
theorem dX11_policyText_8 : decode cX11_policyText 8 = .ok (.iconst (-1), 1) := by decide +kernel
theorem dX11_policyText_9 : decode cX11_policyText 9 = .ok (.if_icmp .ge 9, 3) := by decide +kernel
theorem dX11_policyText_12 : decode cX11_policyText 12 = .ok (.aload_n 0, 1) := by decide +kernel
theorem dX11_policyText_13 : decode cX11_policyText 13 = .ok (.iconst 1, 1) := by decide +kernel
theorem dX11_policyText_14 : decode cX11_policyText 14 = .ok (.invokevirtual 80, 3) := by decide +kernel
theorem dX11_policyText_17 : decode cX11_policyText 17 = .ok (.ireturn, 1) := by decide +kernel
theorem dX11_policyText_18 : decode cX11_policyText 18 = .ok (.aload_n 0, 1) := by decide +kernel
theorem dX11_policyText_19 : decode cX11_policyText 19 = .ok (.iload_n 1, 1) := by decide +kernel
theorem dX11_policyText_20 : decode cX11_policyText 20 = .ok (.iconst 0, 1) := by decide +kernel
theorem dX11_policyText_21 : decode cX11_policyText 21 = .ok (.invokevirtual 49, 3) := by decide +kernel
theorem dX11_policyText_24 : decode cX11_policyText 24 = .ok (.ifCond .eq 11, 3) := by decide +kernel
theorem dX11_policyText_27 : decode cX11_policyText 27 = .ok (.aload_n 0, 1) := by decide +kernel
theorem dX11_policyText_28 : decode cX11_policyText 28 = .ok (.iload_n 1, 1) := by decide +kernel
theorem dX11_policyText_29 : decode cX11_policyText 29 = .ok (.invokevirtual 140, 3) := by decide +kernel
theorem dX11_policyText_32 : decode cX11_policyText 32 = .ok (.ifCond .ne 9, 3) := by decide +kernel
theorem dX11_policyText_35 : decode cX11_policyText 35 = .ok (.aload_n 0, 1) := by decide +kernel
theorem dX11_policyText_36 : decode cX11_policyText 36 = .ok (.iconst 2, 1) := by decide +kernel
theorem dX11_policyText_37 : decode cX11_policyText 37 = .ok (.invokevirtual 80, 3) := by decide +kernel
theorem dX11_policyText_40 : decode cX11_policyText 40 = .ok (.ireturn, 1) := by decide +kernel
theorem dX11_policyText_41 : decode cX11_policyText 41 = .ok (.aload_n 0, 1) := by decide +kernel
theorem dX11_policyText_42 : decode cX11_policyText 42 = .ok (.iconst 0, 1) := by decide +kernel
theorem dX11_policyText_43 : decode cX11_policyText 43 = .ok (.putfield 186, 3) := by decide +kernel
theorem dX11_policyText_46 : decode cX11_policyText 46 = .ok (.aload_n 0, 1) := by decide +kernel
theorem dX11_policyText_47 : decode cX11_policyText 47 = .ok (.iload_n 1, 1) := by decide +kernel
theorem dX11_policyText_48 : decode cX11_policyText 48 = .ok (.iconst 0, 1) := by decide +kernel
theorem dX11_policyText_49 : decode cX11_policyText 49 = .ok (.aload_n 0, 1) := by decide +kernel
theorem dX11_policyText_50 : decode cX11_policyText 50 = .ok (.iload_n 1, 1) := by decide +kernel
theorem dX11_policyText_51 : decode cX11_policyText 51 = .ok (.bipush 11, 2) := by decide +kernel
theorem dX11_policyText_53 : decode cX11_policyText 53 = .ok (.invokevirtual 49, 3) := by decide +kernel
theorem dX11_policyText_56 : decode cX11_policyText 56 = .ok (.invokestatic 242, 3) := by decide +kernel
theorem dX11_policyText_59 : decode cX11_policyText 59 = .ok (.aload_n 0, 1) := by decide +kernel
theorem dX11_policyText_60 : decode cX11_policyText 60 = .ok (.iload_n 2, 1) := by decide +kernel
theorem dX11_policyText_61 : decode cX11_policyText 61 = .ok (.invokevirtual 198, 3) := by decide +kernel
theorem dX11_policyText_64 : decode cX11_policyText 64 = .ok (.ireturn, 1) := by decide +kernel
theorem dX11_isDigitAt_0 : decode cX11_isDigitAt 0 = .ok (.aload_n 0, 1) := by decide +kernel
theorem dX11_isDigitAt_1 : decode cX11_isDigitAt 1 = .ok (.iload_n 1, 1) := by decide +kernel
theorem dX11_isDigitAt_2 : decode cX11_isDigitAt 2 = .ok (.bipush 12, 2) := by decide +kernel
theorem dX11_isDigitAt_4 : decode cX11_isDigitAt 4 = .ok (.iload_n 2, 1) := by decide +kernel
theorem dX11_isDigitAt_5 : decode cX11_isDigitAt 5 = .ok (.iadd, 1) := by decide +kernel
theorem dX11_isDigitAt_6 : decode cX11_isDigitAt 6 = .ok (.invokevirtual 49, 3) := by decide +kernel
theorem dX11_isDigitAt_9 : decode cX11_isDigitAt 9 = .ok (.bipush 48, 2) := by decide +kernel
theorem dX11_isDigitAt_11 : decode cX11_isDigitAt 11 = .ok (.bipush 57, 2) := by decide +kernel
theorem dX11_isDigitAt_13 : decode cX11_isDigitAt 13 = .ok (.invokestatic 45, 3) := by decide +kernel
theorem dX11_isDigitAt_16 : decode cX11_isDigitAt 16 = .ok (.ireturn, 1) := by decide +kernel
theorem dX11_countsAround_0 : decode cX11_countsAround 0 = .ok (.iconst 0, 1) := by decide +kernel
theorem dX11_countsAround_1 : decode cX11_countsAround 1 = .ok (.istore_n 3, 1) := by decide +kernel
theorem dX11_countsAround_2 : decode cX11_countsAround 2 = .ok (.iconst 0, 1) := by decide +kernel
theorem dX11_countsAround_3 : decode cX11_countsAround 3 = .ok (.istore 4, 2) := by decide +kernel
theorem dX11_countsAround_5 : decode cX11_countsAround 5 = .ok (.iload 4, 2) := by decide +kernel
theorem dX11_countsAround_7 : decode cX11_countsAround 7 = .ok (.iload_n 2, 1) := by decide +kernel
theorem dX11_countsAround_8 : decode cX11_countsAround 8 = .ok (.if_icmp .ge 111, 3) := by decide +kernel
theorem dX11_countsAround_11 : decode cX11_countsAround 11 = .ok (.aload_n 0, 1) := by decide +kernel
theorem dX11_countsAround_12 : decode cX11_countsAround 12 = .ok (.iload_n 1, 1) := by decide +kernel
theorem dX11_countsAround_13 : decode cX11_countsAround 13 = .ok (.iload 4, 2) := by decide +kernel
theorem dX11_countsAround_15 : decode cX11_countsAround 15 = .ok (.invokevirtual 253, 3) := by decide +kernel
theorem dX11_countsAround_18 : decode cX11_countsAround 18 = .ok (.ifCond .eq 95, 3) := by decide +kernel
theorem dX11_countsAround_21 : decode cX11_countsAround 21 = .ok (.aload_n 0, 1) := by decide +kernel
theorem dX11_countsAround_22 : decode cX11_countsAround 22 = .ok (.iload_n 1, 1) := by decide +kernel
theorem dX11_countsAround_23 : decode cX11_countsAround 23 = .ok (.iload 4, 2) := by decide +kernel
theorem dX11_countsAround_25 : decode cX11_countsAround 25 = .ok (.aload_n 0, 1) := by decide +kernel
theorem dX11_countsAround_26 : decode cX11_countsAround 26 = .ok (.iload_n 1, 1) := by decide +kernel
theorem dX11_countsAround_27 : decode cX11_countsAround 27 = .ok (.bipush 11, 2) := by decide +kernel
theorem dX11_countsAround_29 : decode cX11_countsAround 29 = .ok (.invokevirtual 49, 3) := by decide +kernel
theorem dX11_countsAround_32 : decode cX11_countsAround 32 = .ok (.invokevirtual 137, 3) := by decide +kernel
theorem dX11_countsAround_35 : decode cX11_countsAround 35 = .ok (.ifCond .eq 78, 3) := by decide +kernel
theorem dX11_countsAround_38 : decode cX11_countsAround 38 = .ok (.iconst 0, 1) := by decide +kernel
theorem dX11_countsAround_39 : decode cX11_countsAround 39 = .ok (.istore 5, 2) := by decide +kernel
theorem dX11_countsAround_41 : decode cX11_countsAround 41 = .ok (.iload 4, 2) := by decide +kernel
theorem dX11_countsAround_43 : decode cX11_countsAround 43 = .ok (.iconst 3, 1) := by decide +kernel
theorem dX11_countsAround_44 : decode cX11_countsAround 44 = .ok (.iadd, 1) := by decide +kernel
theorem dX11_countsAround_45 : decode cX11_countsAround 45 = .ok (.istore 6, 2) := by decide +kernel
theorem dX11_countsAround_47 : decode cX11_countsAround 47 = .ok (.iload 5, 2) := by decide +kernel
theorem dX11_countsAround_49 : decode cX11_countsAround 49 = .ok (.aload_n 0, 1) := by decide +kernel
theorem dX11_countsAround_50 : decode cX11_countsAround 50 = .ok (.iload_n 1, 1) := by decide +kernel
theorem dX11_countsAround_51 : decode cX11_countsAround 51 = .ok (.bipush 12, 2) := by decide +kernel
theorem dX11_countsAround_53 : decode cX11_countsAround 53 = .ok (.iload 6, 2) := by decide +kernel
theorem dX11_countsAround_55 : decode cX11_countsAround 55 = .ok (.iadd, 1) := by decide +kernel
theorem dX11_countsAround_56 : decode cX11_countsAround 56 = .ok (.invokevirtual 49, 3) := by decide +kernel
theorem dX11_countsAround_59 : decode cX11_countsAround 59 = .ok (.bipush 40, 2) := by decide +kernel
theorem dX11_countsAround_61 : decode cX11_countsAround 61 = .ok (.if_icmp .ne 7, 3) := by decide +kernel
theorem dX11_countsAround_64 : decode cX11_countsAround 64 = .ok (.iconst 1, 1) := by decide +kernel
theorem dX11_countsAround_65 : decode cX11_countsAround 65 = .ok (.goto 23, 3) := by decide +kernel
theorem dX11_countsAround_68 : decode cX11_countsAround 68 = .ok (.aload_n 0, 1) := by decide +kernel
theorem dX11_countsAround_69 : decode cX11_countsAround 69 = .ok (.iload_n 1, 1) := by decide +kernel
theorem dX11_countsAround_70 : decode cX11_countsAround 70 = .ok (.bipush 12, 2) := by decide +kernel
theorem dX11_countsAround_72 : decode cX11_countsAround 72 = .ok (.iload 6, 2) := by decide +kernel
theorem dX11_countsAround_74 : decode cX11_countsAround 74 = .ok (.iadd, 1) := by decide +kernel
theorem dX11_countsAround_75 : decode cX11_countsAround 75 = .ok (.invokevirtual 49, 3) := by decide +kernel
theorem dX11_countsAround_78 : decode cX11_countsAround 78 = .ok (.bipush 41, 2) := by decide +kernel
theorem dX11_countsAround_80 : decode cX11_countsAround 80 = .ok (.if_icmp .ne 7, 3) := by decide +kernel
theorem dX11_countsAround_83 : decode cX11_countsAround 83 = .ok (.iconst (-1), 1) := by decide +kernel
theorem dX11_countsAround_84 : decode cX11_countsAround 84 = .ok (.goto 4, 3) := by decide +kernel
theorem dX11_countsAround_87 : decode cX11_countsAround 87 = .ok (.iconst 0, 1) := by decide +kernel
theorem dX11_countsAround_88 : decode cX11_countsAround 88 = .ok (.iadd, 1) := by decide +kernel
theorem dX11_countsAround_89 : decode cX11_countsAround 89 = .ok (.istore 5, 2) := by decide +kernel
theorem dX11_countsAround_91 : decode cX11_countsAround 91 = .ok (.iinc 6 1, 3) := by decide +kernel
theorem dX11_countsAround_94 : decode cX11_countsAround 94 = .ok (.iload 5, 2) := by decide +kernel
theorem dX11_countsAround_96 : decode cX11_countsAround 96 = .ok (.ifCond .gt (-49), 3) := by decide +kernel
theorem dX11_countsAround_99 : decode cX11_countsAround 99 = .ok (.iload_n 3, 1) := by decide +kernel
theorem dX11_countsAround_100 : decode cX11_countsAround 100 = .ok (.iload_n 2, 1) := by decide +kernel
theorem dX11_countsAround_101 : decode cX11_countsAround 101 = .ok (.iload 6, 2) := by decide +kernel
theorem dX11_countsAround_103 : decode cX11_countsAround 103 = .ok (.if_icmp .ge 7, 3) := by decide +kernel
theorem dX11_countsAround_106 : decode cX11_countsAround 106 = .ok (.iconst 1, 1) := by decide +kernel
theorem dX11_countsAround_107 : decode cX11_countsAround 107 = .ok (.goto 4, 3) := by decide +kernel
theorem dX11_countsAround_110 : decode cX11_countsAround 110 = .ok (.iconst 0, 1) := by decide +kernel
theorem dX11_countsAround_111 : decode cX11_countsAround 111 = .ok (.iadd, 1) := by decide +kernel
theorem dX11_countsAround_112 : decode cX11_countsAround 112 = .ok (.istore_n 3, 1) := by decide +kernel
theorem dX11_countsAround_113 : decode cX11_countsAround 113 = .ok (.iinc 4 1, 3) := by decide +kernel
theorem dX11_countsAround_116 : decode cX11_countsAround 116 = .ok (.goto (-111), 3) := by decide +kernel
theorem dX11_countsAround_119 : decode cX11_countsAround 119 = .ok (.iload_n 3, 1) := by decide +kernel
theorem dX11_countsAround_120 : decode cX11_countsAround 120 = .ok (.ireturn, 1) := by decide +kernel
theorem dX11_policy_0 : decode cX11_policy 0 = .ok (.iload_n 1, 1) := by decide +kernel
theorem dX11_policy_1 : decode cX11_policy 1 = .ok (.invokestatic 107, 3) := by decide +kernel
theorem dX11_policy_4 : decode cX11_policy 4 = .ok (.ifCond .ne 9, 3) := by decide +kernel
theorem dX11_policy_7 : decode cX11_policy 7 = .ok (.aload_n 0, 1) := by decide +kernel
theorem dX11_policy_8 : decode cX11_policy 8 = .ok (.iconst 1, 1) := by decide +kernel
theorem dX11_policy_9 : decode cX11_policy 9 = .ok (.invokevirtual 80, 3) := by decide +kernel
theorem dX11_policy_12 : decode cX11_policy 12 = .ok (.ireturn, 1) := by decide +kernel
theorem dX11_policy_13 : decode cX11_policy 13 = .ok (.iload_n 2, 1) := by decide +kernel
theorem dX11_policy_14 : decode cX11_policy 14 = .ok (.iconst 0, 1) := by decide +kernel
theorem dX11_policy_15 : decode cX11_policy 15 = .ok (.iconst 2, 1) := by decide +kernel
theorem dX11_policy_16 : decode cX11_policy 16 = .ok (.invokestatic 45, 3) := by decide +kernel
theorem dX11_policy_19 : decode cX11_policy 19 = .ok (.ifCond .ne 9, 3) := by decide +kernel
theorem dX11_policy_22 : decode cX11_policy 22 = .ok (.aload_n 0, 1) := by decide +kernel
theorem dX11_policy_23 : decode cX11_policy 23 = .ok (.iconst 2, 1) := by decide +kernel
theorem dX11_policy_24 : decode cX11_policy 24 = .ok (.invokevirtual 80, 3) := by decide +kernel
theorem dX11_policy_27 : decode cX11_policy 27 = .ok (.ireturn, 1) := by decide +kernel
theorem dX11_policy_28 : decode cX11_policy 28 = .ok (.aload_n 0, 1) := by decide +kernel
theorem dX11_policy_29 : decode cX11_policy 29 = .ok (.iload_n 1, 1) := by decide +kernel
theorem dX11_policy_30 : decode cX11_policy 30 = .ok (.iconst 0, 1) := by decide +kernel
theorem dX11_policy_31 : decode cX11_policy 31 = .ok (.invokevirtual 49, 3) := by decide +kernel
theorem dX11_policy_34 : decode cX11_policy 34 = .ok (.ifCond .eq 11, 3) := by decide +kernel
theorem dX11_policy_37 : decode cX11_policy 37 = .ok (.aload_n 0, 1) := by decide +kernel
theorem dX11_policy_38 : decode cX11_policy 38 = .ok (.iload_n 1, 1) := by decide +kernel
theorem dX11_policy_39 : decode cX11_policy 39 = .ok (.invokevirtual 140, 3) := by decide +kernel
theorem dX11_policy_42 : decode cX11_policy 42 = .ok (.ifCond .ne 9, 3) := by decide +kernel
theorem dX11_policy_45 : decode cX11_policy 45 = .ok (.aload_n 0, 1) := by decide +kernel
theorem dX11_policy_46 : decode cX11_policy 46 = .ok (.iconst 3, 1) := by decide +kernel
theorem dX11_policy_47 : decode cX11_policy 47 = .ok (.invokevirtual 80, 3) := by decide +kernel
theorem dX11_policy_50 : decode cX11_policy 50 = .ok (.ireturn, 1) := by decide +kernel
theorem dX11_policy_51 : decode cX11_policy 51 = .ok (.iconst 0, 1) := by decide +kernel
theorem dX11_policy_52 : decode cX11_policy 52 = .ok (.istore_n 3, 1) := by decide +kernel
theorem dX11_policy_53 : decode cX11_policy 53 = .ok (.iconst 0, 1) := by decide +kernel
theorem dX11_policy_54 : decode cX11_policy 54 = .ok (.istore 4, 2) := by decide +kernel
theorem dX11_policy_56 : decode cX11_policy 56 = .ok (.iconst 0, 1) := by decide +kernel
theorem dX11_policy_57 : decode cX11_policy 57 = .ok (.istore 5, 2) := by decide +kernel
theorem dX11_policy_59 : decode cX11_policy 59 = .ok (.iconst 0, 1) := by decide +kernel
theorem dX11_policy_60 : decode cX11_policy 60 = .ok (.istore 6, 2) := by decide +kernel
theorem dX11_policy_62 : decode cX11_policy 62 = .ok (.iload 6, 2) := by decide +kernel
theorem dX11_policy_64 : decode cX11_policy 64 = .ok (.aload_n 0, 1) := by decide +kernel
theorem dX11_policy_65 : decode cX11_policy 65 = .ok (.iload_n 1, 1) := by decide +kernel
theorem dX11_policy_66 : decode cX11_policy 66 = .ok (.bipush 11, 2) := by decide +kernel
theorem dX11_policy_68 : decode cX11_policy 68 = .ok (.invokevirtual 49, 3) := by decide +kernel
theorem dX11_policy_71 : decode cX11_policy 71 = .ok (.if_icmp .ge 103, 3) := by decide +kernel
theorem dX11_policy_74 : decode cX11_policy 74 = .ok (.aload_n 0, 1) := by decide +kernel
theorem dX11_policy_75 : decode cX11_policy 75 = .ok (.iload_n 1, 1) := by decide +kernel
theorem dX11_policy_76 : decode cX11_policy 76 = .ok (.iload 6, 2) := by decide +kernel
theorem dX11_policy_78 : decode cX11_policy 78 = .ok (.invokevirtual 253, 3) := by decide +kernel
theorem dX11_policy_81 : decode cX11_policy 81 = .ok (.ifCond .eq 87, 3) := by decide +kernel
theorem dX11_policy_84 : decode cX11_policy 84 = .ok (.aload_n 0, 1) := by decide +kernel
theorem dX11_policy_85 : decode cX11_policy 85 = .ok (.iload_n 1, 1) := by decide +kernel
theorem dX11_policy_86 : decode cX11_policy 86 = .ok (.iload 6, 2) := by decide +kernel
theorem dX11_policy_88 : decode cX11_policy 88 = .ok (.aload_n 0, 1) := by decide +kernel
theorem dX11_policy_89 : decode cX11_policy 89 = .ok (.iload_n 1, 1) := by decide +kernel
theorem dX11_policy_90 : decode cX11_policy 90 = .ok (.bipush 11, 2) := by decide +kernel
theorem dX11_policy_92 : decode cX11_policy 92 = .ok (.invokevirtual 49, 3) := by decide +kernel
theorem dX11_policy_95 : decode cX11_policy 95 = .ok (.invokevirtual 137, 3) := by decide +kernel
theorem dX11_policy_98 : decode cX11_policy 98 = .ok (.istore 7, 2) := by decide +kernel
theorem dX11_policy_100 : decode cX11_policy 100 = .ok (.aload_n 0, 1) := by decide +kernel
theorem dX11_policy_101 : decode cX11_policy 101 = .ok (.iload_n 1, 1) := by decide +kernel
theorem dX11_policy_102 : decode cX11_policy 102 = .ok (.iload 6, 2) := by decide +kernel
theorem dX11_policy_104 : decode cX11_policy 104 = .ok (.invokevirtual 256, 3) := by decide +kernel
theorem dX11_policy_107 : decode cX11_policy 107 = .ok (.iload 7, 2) := by decide +kernel
theorem dX11_policy_109 : decode cX11_policy 109 = .ok (.ifCond .eq 7, 3) := by decide +kernel
theorem dX11_policy_112 : decode cX11_policy 112 = .ok (.iconst 1, 1) := by decide +kernel
theorem dX11_policy_113 : decode cX11_policy 113 = .ok (.goto 4, 3) := by decide +kernel
theorem dX11_policy_116 : decode cX11_policy 116 = .ok (.iconst 0, 1) := by decide +kernel
theorem dX11_policy_117 : decode cX11_policy 117 = .ok (.iadd, 1) := by decide +kernel
theorem dX11_policy_118 : decode cX11_policy 118 = .ok (.istore 8, 2) := by decide +kernel
theorem dX11_policy_120 : decode cX11_policy 120 = .ok (.iinc 3 1, 3) := by decide +kernel
theorem dX11_policy_123 : decode cX11_policy 123 = .ok (.iload 8, 2) := by decide +kernel
theorem dX11_policy_125 : decode cX11_policy 125 = .ok (.iload 4, 2) := by decide +kernel
theorem dX11_policy_127 : decode cX11_policy 127 = .ok (.if_icmp .le 8, 3) := by decide +kernel
theorem dX11_policy_130 : decode cX11_policy 130 = .ok (.iload 8, 2) := by decide +kernel
theorem dX11_policy_132 : decode cX11_policy 132 = .ok (.goto 5, 3) := by decide +kernel
theorem dX11_policy_135 : decode cX11_policy 135 = .ok (.iload 4, 2) := by decide +kernel
theorem dX11_policy_137 : decode cX11_policy 137 = .ok (.istore 4, 2) := by decide +kernel
theorem dX11_policy_139 : decode cX11_policy 139 = .ok (.iload 5, 2) := by decide +kernel
theorem dX11_policy_141 : decode cX11_policy 141 = .ok (.iload 7, 2) := by decide +kernel
theorem dX11_policy_143 : decode cX11_policy 143 = .ok (.ifCond .eq 7, 3) := by decide +kernel
theorem dX11_policy_146 : decode cX11_policy 146 = .ok (.iconst 0, 1) := by decide +kernel
theorem dX11_policy_147 : decode cX11_policy 147 = .ok (.goto 18, 3) := by decide +kernel
theorem dX11_policy_150 : decode cX11_policy 150 = .ok (.iconst 1, 1) := by decide +kernel
theorem dX11_policy_151 : decode cX11_policy 151 = .ok (.aload_n 0, 1) := by decide +kernel
theorem dX11_policy_152 : decode cX11_policy 152 = .ok (.iload_n 1, 1) := by decide +kernel
theorem dX11_policy_153 : decode cX11_policy 153 = .ok (.bipush 12, 2) := by decide +kernel
theorem dX11_policy_155 : decode cX11_policy 155 = .ok (.iload 6, 2) := by decide +kernel
theorem dX11_policy_157 : decode cX11_policy 157 = .ok (.iadd, 1) := by decide +kernel
theorem dX11_policy_158 : decode cX11_policy 158 = .ok (.invokevirtual 49, 3) := by decide +kernel
theorem dX11_policy_161 : decode cX11_policy 161 = .ok (.bipush 48, 2) := by decide +kernel
theorem dX11_policy_163 : decode cX11_policy 163 = .ok (.isub, 1) := by decide +kernel
theorem dX11_policy_164 : decode cX11_policy 164 = .ok (.ishl, 1) := by decide +kernel
theorem dX11_policy_165 : decode cX11_policy 165 = .ok (.ior, 1) := by decide +kernel
theorem dX11_policy_166 : decode cX11_policy 166 = .ok (.istore 5, 2) := by decide +kernel
theorem dX11_policy_168 : decode cX11_policy 168 = .ok (.iinc 6 1, 3) := by decide +kernel
theorem dX11_policy_171 : decode cX11_policy 171 = .ok (.goto (-109), 3) := by decide +kernel
theorem dX11_policy_174 : decode cX11_policy 174 = .ok (.aload_n 0, 1) := by decide +kernel
theorem dX11_policy_175 : decode cX11_policy 175 = .ok (.iload_n 2, 1) := by decide +kernel
theorem dX11_policy_176 : decode cX11_policy 176 = .ok (.ifCond .ne 7, 3) := by decide +kernel
theorem dX11_policy_179 : decode cX11_policy 179 = .ok (.iload_n 3, 1) := by decide +kernel
theorem dX11_policy_180 : decode cX11_policy 180 = .ok (.goto 15, 3) := by decide +kernel
theorem dX11_policy_183 : decode cX11_policy 183 = .ok (.iload_n 2, 1) := by decide +kernel
theorem dX11_policy_184 : decode cX11_policy 184 = .ok (.iconst 1, 1) := by decide +kernel
theorem dX11_policy_185 : decode cX11_policy 185 = .ok (.if_icmp .ne 8, 3) := by decide +kernel
theorem dX11_policy_188 : decode cX11_policy 188 = .ok (.iload 4, 2) := by decide +kernel
theorem dX11_policy_190 : decode cX11_policy 190 = .ok (.goto 5, 3) := by decide +kernel
theorem dX11_policy_193 : decode cX11_policy 193 = .ok (.iload 5, 2) := by decide +kernel
theorem dX11_policy_195 : decode cX11_policy 195 = .ok (.invokevirtual 69, 3) := by decide +kernel
theorem dX11_policy_198 : decode cX11_policy 198 = .ok (.ireturn, 1) := by decide +kernel
theorem dX11_groups_0 : decode cX11_groups 0 = .ok (.aload_n 0, 1) := by decide +kernel
theorem dX11_groups_1 : decode cX11_groups 1 = .ok (.iload_n 1, 1) := by decide +kernel
theorem dX11_groups_2 : decode cX11_groups 2 = .ok (.invokevirtual 121, 3) := by decide +kernel
theorem dX11_groups_5 : decode cX11_groups 5 = .ok (.istore_n 2, 1) := by decide +kernel
theorem dX11_groups_6 : decode cX11_groups 6 = .ok (.iload_n 2, 1) := by decide +kernel
theorem dX11_groups_7 : decode cX11_groups 7 = .ok (.ifCond .eq 9, 3) := by decide +kernel
theorem dX11_groups_10 : decode cX11_groups 10 = .ok (.aload_n 0, 1) := by decide +kernel
theorem dX11_groups_11 : decode cX11_groups 11 = .ok (.iload_n 2, 1) := by decide +kernel
theorem dX11_groups_12 : decode cX11_groups 12 = .ok (.invokevirtual 80, 3) := by decide +kernel
theorem dX11_groups_15 : decode cX11_groups 15 = .ok (.ireturn, 1) := by decide +kernel
theorem dX11_groups_16 : decode cX11_groups 16 = .ok (.iconst 0, 1) := by decide +kernel
theorem dX11_groups_17 : decode cX11_groups 17 = .ok (.istore_n 3, 1) := by decide +kernel
theorem dX11_groups_18 : decode cX11_groups 18 = .ok (.iconst 0, 1) := by decide +kernel
theorem dX11_groups_19 : decode cX11_groups 19 = .ok (.istore 4, 2) := by decide +kernel
theorem dX11_groups_21 : decode cX11_groups 21 = .ok (.iload 4, 2) := by decide +kernel
theorem dX11_groups_23 : decode cX11_groups 23 = .ok (.sipush 256, 3) := by decide +kernel
theorem dX11_groups_26 : decode cX11_groups 26 = .ok (.if_icmp .ge 27, 3) := by decide +kernel
theorem dX11_groups_29 : decode cX11_groups 29 = .ok (.iload_n 3, 1) := by decide +kernel
theorem dX11_groups_30 : decode cX11_groups 30 = .ok (.aload_n 0, 1) := by decide +kernel
theorem dX11_groups_31 : decode cX11_groups 31 = .ok (.iload_n 1, 1) := by decide +kernel
theorem dX11_groups_32 : decode cX11_groups 32 = .ok (.iload 4, 2) := by decide +kernel
theorem dX11_groups_34 : decode cX11_groups 34 = .ok (.invokevirtual 162, 3) := by decide +kernel
theorem dX11_groups_37 : decode cX11_groups 37 = .ok (.ifCond .eq 7, 3) := by decide +kernel
theorem dX11_groups_40 : decode cX11_groups 40 = .ok (.iconst 1, 1) := by decide +kernel
theorem dX11_groups_41 : decode cX11_groups 41 = .ok (.goto 4, 3) := by decide +kernel
theorem dX11_groups_44 : decode cX11_groups 44 = .ok (.iconst 0, 1) := by decide +kernel
theorem dX11_groups_45 : decode cX11_groups 45 = .ok (.iadd, 1) := by decide +kernel
theorem dX11_groups_46 : decode cX11_groups 46 = .ok (.istore_n 3, 1) := by decide +kernel
theorem dX11_groups_47 : decode cX11_groups 47 = .ok (.iinc 4 1, 3) := by decide +kernel
theorem dX11_groups_50 : decode cX11_groups 50 = .ok (.goto (-29), 3) := by decide +kernel
theorem dX11_groups_53 : decode cX11_groups 53 = .ok (.aload_n 0, 1) := by decide +kernel
theorem dX11_groups_54 : decode cX11_groups 54 = .ok (.iload_n 3, 1) := by decide +kernel
theorem dX11_groups_55 : decode cX11_groups 55 = .ok (.invokevirtual 69, 3) := by decide +kernel
theorem dX11_groups_58 : decode cX11_groups 58 = .ok (.ireturn, 1) := by decide +kernel
theorem dX11_isSmallest_0 : decode cX11_isSmallest 0 = .ok (.aload_n 0, 1) := by decide +kernel
theorem dX11_isSmallest_1 : decode cX11_isSmallest 1 = .ok (.iload_n 1, 1) := by decide +kernel
theorem dX11_isSmallest_2 : decode cX11_isSmallest 2 = .ok (.iload_n 2, 1) := by decide +kernel
theorem dX11_isSmallest_3 : decode cX11_isSmallest 3 = .ok (.invokevirtual 162, 3) := by decide +kernel
theorem dX11_isSmallest_6 : decode cX11_isSmallest 6 = .ok (.istore_n 3, 1) := by decide +kernel
theorem dX11_isSmallest_7 : decode cX11_isSmallest 7 = .ok (.iconst 0, 1) := by decide +kernel
theorem dX11_isSmallest_8 : decode cX11_isSmallest 8 = .ok (.istore 4, 2) := by decide +kernel
theorem dX11_isSmallest_10 : decode cX11_isSmallest 10 = .ok (.iload 4, 2) := by decide +kernel
theorem dX11_isSmallest_12 : decode cX11_isSmallest 12 = .ok (.bipush 8, 2) := by decide +kernel
theorem dX11_isSmallest_14 : decode cX11_isSmallest 14 = .ok (.if_icmp .ge 44, 3) := by decide +kernel
theorem dX11_isSmallest_17 : decode cX11_isSmallest 17 = .ok (.iload_n 3, 1) := by decide +kernel
theorem dX11_isSmallest_18 : decode cX11_isSmallest 18 = .ok (.ifCond .eq 40, 3) := by decide +kernel
theorem dX11_isSmallest_21 : decode cX11_isSmallest 21 = .ok (.iload_n 2, 1) := by decide +kernel
theorem dX11_isSmallest_22 : decode cX11_isSmallest 22 = .ok (.iload 4, 2) := by decide +kernel
theorem dX11_isSmallest_24 : decode cX11_isSmallest 24 = .ok (.ishr, 1) := by decide +kernel
theorem dX11_isSmallest_25 : decode cX11_isSmallest 25 = .ok (.iconst 1, 1) := by decide +kernel
theorem dX11_isSmallest_26 : decode cX11_isSmallest 26 = .ok (.iand, 1) := by decide +kernel
theorem dX11_isSmallest_27 : decode cX11_isSmallest 27 = .ok (.ifCond .eq 19, 3) := by decide +kernel
theorem dX11_isSmallest_30 : decode cX11_isSmallest 30 = .ok (.aload_n 0, 1) := by decide +kernel
theorem dX11_isSmallest_31 : decode cX11_isSmallest 31 = .ok (.iload_n 1, 1) := by decide +kernel
theorem dX11_isSmallest_32 : decode cX11_isSmallest 32 = .ok (.iload_n 2, 1) := by decide +kernel
theorem dX11_isSmallest_33 : decode cX11_isSmallest 33 = .ok (.iconst 1, 1) := by decide +kernel
theorem dX11_isSmallest_34 : decode cX11_isSmallest 34 = .ok (.iload 4, 2) := by decide +kernel
theorem dX11_isSmallest_36 : decode cX11_isSmallest 36 = .ok (.ishl, 1) := by decide +kernel
theorem dX11_isSmallest_37 : decode cX11_isSmallest 37 = .ok (.iconst (-1), 1) := by decide +kernel
theorem dX11_isSmallest_38 : decode cX11_isSmallest 38 = .ok (.ixor, 1) := by decide +kernel
theorem dX11_isSmallest_39 : decode cX11_isSmallest 39 = .ok (.iand, 1) := by decide +kernel
theorem dX11_isSmallest_40 : decode cX11_isSmallest 40 = .ok (.invokevirtual 162, 3) := by decide +kernel
theorem dX11_isSmallest_43 : decode cX11_isSmallest 43 = .ok (.ifCond .ne 7, 3) := by decide +kernel
theorem dX11_isSmallest_46 : decode cX11_isSmallest 46 = .ok (.iconst 1, 1) := by decide +kernel
theorem dX11_isSmallest_47 : decode cX11_isSmallest 47 = .ok (.goto 4, 3) := by decide +kernel
theorem dX11_isSmallest_50 : decode cX11_isSmallest 50 = .ok (.iconst 0, 1) := by decide +kernel
theorem dX11_isSmallest_51 : decode cX11_isSmallest 51 = .ok (.istore_n 3, 1) := by decide +kernel
theorem dX11_isSmallest_52 : decode cX11_isSmallest 52 = .ok (.iinc 4 1, 3) := by decide +kernel
theorem dX11_isSmallest_55 : decode cX11_isSmallest 55 = .ok (.goto (-45), 3) := by decide +kernel
theorem dX11_isSmallest_58 : decode cX11_isSmallest 58 = .ok (.iload_n 3, 1) := by decide +kernel
theorem dX11_isSmallest_59 : decode cX11_isSmallest 59 = .ok (.ireturn, 1) := by decide +kernel
theorem dX11_smallest_0 : decode cX11_smallest 0 = .ok (.aload_n 0, 1) := by decide +kernel
theorem dX11_smallest_1 : decode cX11_smallest 1 = .ok (.iload_n 1, 1) := by decide +kernel
theorem dX11_smallest_2 : decode cX11_smallest 2 = .ok (.invokevirtual 121, 3) := by decide +kernel
theorem dX11_smallest_5 : decode cX11_smallest 5 = .ok (.istore_n 3, 1) := by decide +kernel
theorem dX11_smallest_6 : decode cX11_smallest 6 = .ok (.iload_n 3, 1) := by decide +kernel
theorem dX11_smallest_7 : decode cX11_smallest 7 = .ok (.ifCond .eq 9, 3) := by decide +kernel
theorem dX11_smallest_10 : decode cX11_smallest 10 = .ok (.aload_n 0, 1) := by decide +kernel
theorem dX11_smallest_11 : decode cX11_smallest 11 = .ok (.iload_n 3, 1) := by decide +kernel
theorem dX11_smallest_12 : decode cX11_smallest 12 = .ok (.invokevirtual 80, 3) := by decide +kernel
theorem dX11_smallest_15 : decode cX11_smallest 15 = .ok (.ireturn, 1) := by decide +kernel
theorem dX11_smallest_16 : decode cX11_smallest 16 = .ok (.iconst 0, 1) := by decide +kernel
theorem dX11_smallest_17 : decode cX11_smallest 17 = .ok (.istore 4, 2) := by decide +kernel
theorem dX11_smallest_19 : decode cX11_smallest 19 = .ok (.iconst 0, 1) := by decide +kernel
theorem dX11_smallest_20 : decode cX11_smallest 20 = .ok (.istore 5, 2) := by decide +kernel
theorem dX11_smallest_22 : decode cX11_smallest 22 = .ok (.iload 5, 2) := by decide +kernel
theorem dX11_smallest_24 : decode cX11_smallest 24 = .ok (.sipush 256, 3) := by decide +kernel
theorem dX11_smallest_27 : decode cX11_smallest 27 = .ok (.if_icmp .ge 35, 3) := by decide +kernel
theorem dX11_smallest_30 : decode cX11_smallest 30 = .ok (.aload_n 0, 1) := by decide +kernel
theorem dX11_smallest_31 : decode cX11_smallest 31 = .ok (.iload_n 1, 1) := by decide +kernel
theorem dX11_smallest_32 : decode cX11_smallest 32 = .ok (.iload 5, 2) := by decide +kernel
theorem dX11_smallest_34 : decode cX11_smallest 34 = .ok (.invokevirtual 259, 3) := by decide +kernel
theorem dX11_smallest_37 : decode cX11_smallest 37 = .ok (.ifCond .eq 19, 3) := by decide +kernel
theorem dX11_smallest_40 : decode cX11_smallest 40 = .ok (.iload 4, 2) := by decide +kernel
theorem dX11_smallest_42 : decode cX11_smallest 42 = .ok (.iload_n 2, 1) := by decide +kernel
theorem dX11_smallest_43 : decode cX11_smallest 43 = .ok (.if_icmp .ne 10, 3) := by decide +kernel
theorem dX11_smallest_46 : decode cX11_smallest 46 = .ok (.aload_n 0, 1) := by decide +kernel
theorem dX11_smallest_47 : decode cX11_smallest 47 = .ok (.iload 5, 2) := by decide +kernel
theorem dX11_smallest_49 : decode cX11_smallest 49 = .ok (.invokevirtual 69, 3) := by decide +kernel
theorem dX11_smallest_52 : decode cX11_smallest 52 = .ok (.ireturn, 1) := by decide +kernel
theorem dX11_smallest_53 : decode cX11_smallest 53 = .ok (.iinc 4 1, 3) := by decide +kernel
theorem dX11_smallest_56 : decode cX11_smallest 56 = .ok (.iinc 5 1, 3) := by decide +kernel
theorem dX11_smallest_59 : decode cX11_smallest 59 = .ok (.goto (-37), 3) := by decide +kernel
theorem dX11_smallest_62 : decode cX11_smallest 62 = .ok (.aload_n 0, 1) := by decide +kernel
theorem dX11_smallest_63 : decode cX11_smallest 63 = .ok (.iconst 2, 1) := by decide +kernel
theorem dX11_smallest_64 : decode cX11_smallest 64 = .ok (.invokevirtual 80, 3) := by decide +kernel
theorem dX11_smallest_67 : decode cX11_smallest 67 = .ok (.ireturn, 1) := by decide +kernel
theorem dX11_powerBits_0 : decode cX11_powerBits 0 = .ok (.aload_n 0, 1) := by decide +kernel
theorem dX11_powerBits_1 : decode cX11_powerBits 1 = .ok (.iload_n 1, 1) := by decide +kernel
theorem dX11_powerBits_2 : decode cX11_powerBits 2 = .ok (.invokestatic 107, 3) := by decide +kernel
theorem dX11_powerBits_5 : decode cX11_powerBits 5 = .ok (.ifCond .eq 10, 3) := by decide +kernel
theorem dX11_powerBits_8 : decode cX11_powerBits 8 = .ok (.iload_n 2, 1) := by decide +kernel
theorem dX11_powerBits_9 : decode cX11_powerBits 9 = .ok (.invokestatic 76, 3) := by decide +kernel
theorem dX11_powerBits_12 : decode cX11_powerBits 12 = .ok (.ifCond .ne 7, 3) := by decide +kernel
theorem dX11_powerBits_15 : decode cX11_powerBits 15 = .ok (.iconst 1, 1) := by decide +kernel
theorem dX11_powerBits_16 : decode cX11_powerBits 16 = .ok (.goto 17, 3) := by decide +kernel
theorem dX11_powerBits_19 : decode cX11_powerBits 19 = .ok (.aload_n 0, 1) := by decide +kernel
theorem dX11_powerBits_20 : decode cX11_powerBits 20 = .ok (.iload_n 1, 1) := by decide +kernel
theorem dX11_powerBits_21 : decode cX11_powerBits 21 = .ok (.iconst 0, 1) := by decide +kernel
theorem dX11_powerBits_22 : decode cX11_powerBits 22 = .ok (.invokevirtual 49, 3) := by decide +kernel
theorem dX11_powerBits_25 : decode cX11_powerBits 25 = .ok (.ifCond .ne 7, 3) := by decide +kernel
theorem dX11_powerBits_28 : decode cX11_powerBits 28 = .ok (.iconst 2, 1) := by decide +kernel
theorem dX11_powerBits_29 : decode cX11_powerBits 29 = .ok (.goto 4, 3) := by decide +kernel
theorem dX11_powerBits_32 : decode cX11_powerBits 32 = .ok (.iconst 0, 1) := by decide +kernel
theorem dX11_powerBits_33 : decode cX11_powerBits 33 = .ok (.putfield 42, 3) := by decide +kernel
theorem dX11_powerBits_36 : decode cX11_powerBits 36 = .ok (.aload_n 0, 1) := by decide +kernel
theorem dX11_powerBits_37 : decode cX11_powerBits 37 = .ok (.getfield 42, 3) := by decide +kernel
theorem dX11_powerBits_40 : decode cX11_powerBits 40 = .ok (.ifCond .eq 5, 3) := by decide +kernel
theorem dX11_powerBits_43 : decode cX11_powerBits 43 = .ok (.lconst 0, 1) := by decide +kernel
theorem dX11_powerBits_44 : decode cX11_powerBits 44 = .ok (.lreturn, 1) := by decide +kernel
theorem dX11_powerBits_45 : decode cX11_powerBits 45 = .ok (.iconst 0, 1) := by decide +kernel
theorem dX11_powerBits_46 : decode cX11_powerBits 46 = .ok (.istore_n 3, 1) := by decide +kernel
theorem dX11_powerBits_47 : decode cX11_powerBits 47 = .ok (.iconst 0, 1) := by decide +kernel
theorem dX11_powerBits_48 : decode cX11_powerBits 48 = .ok (.istore 4, 2) := by decide +kernel
theorem dX11_powerBits_50 : decode cX11_powerBits 50 = .ok (.iload 4, 2) := by decide +kernel
theorem dX11_powerBits_52 : decode cX11_powerBits 52 = .ok (.sipush 256, 3) := by decide +kernel
theorem dX11_powerBits_55 : decode cX11_powerBits 55 = .ok (.if_icmp .ge 53, 3) := by decide +kernel
theorem dX11_powerBits_58 : decode cX11_powerBits 58 = .ok (.iload_n 3, 1) := by decide +kernel
theorem dX11_powerBits_59 : decode cX11_powerBits 59 = .ok (.iload 4, 2) := by decide +kernel
theorem dX11_powerBits_61 : decode cX11_powerBits 61 = .ok (.iload_n 2, 1) := by decide +kernel
theorem dX11_powerBits_62 : decode cX11_powerBits 62 = .ok (.ishr, 1) := by decide +kernel
theorem dX11_powerBits_63 : decode cX11_powerBits 63 = .ok (.iconst 1, 1) := by decide +kernel
theorem dX11_powerBits_64 : decode cX11_powerBits 64 = .ok (.iand, 1) := by decide +kernel
theorem dX11_powerBits_65 : decode cX11_powerBits 65 = .ok (.iconst 1, 1) := by decide +kernel
theorem dX11_powerBits_66 : decode cX11_powerBits 66 = .ok (.if_icmp .ne 33, 3) := by decide +kernel
theorem dX11_powerBits_69 : decode cX11_powerBits 69 = .ok (.aload_n 0, 1) := by decide +kernel
theorem dX11_powerBits_70 : decode cX11_powerBits 70 = .ok (.iload_n 1, 1) := by decide +kernel
theorem dX11_powerBits_71 : decode cX11_powerBits 71 = .ok (.iload 4, 2) := by decide +kernel
theorem dX11_powerBits_73 : decode cX11_powerBits 73 = .ok (.invokevirtual 162, 3) := by decide +kernel
theorem dX11_powerBits_76 : decode cX11_powerBits 76 = .ok (.ifCond .eq 23, 3) := by decide +kernel
theorem dX11_powerBits_79 : decode cX11_powerBits 79 = .ok (.aload_n 0, 1) := by decide +kernel
theorem dX11_powerBits_80 : decode cX11_powerBits 80 = .ok (.iload_n 1, 1) := by decide +kernel
theorem dX11_powerBits_81 : decode cX11_powerBits 81 = .ok (.iload 4, 2) := by decide +kernel
theorem dX11_powerBits_83 : decode cX11_powerBits 83 = .ok (.iconst 1, 1) := by decide +kernel
theorem dX11_powerBits_84 : decode cX11_powerBits 84 = .ok (.iload_n 2, 1) := by decide +kernel
theorem dX11_powerBits_85 : decode cX11_powerBits 85 = .ok (.ishl, 1) := by decide +kernel
theorem dX11_powerBits_86 : decode cX11_powerBits 86 = .ok (.iconst (-1), 1) := by decide +kernel
theorem dX11_powerBits_87 : decode cX11_powerBits 87 = .ok (.ixor, 1) := by decide +kernel
theorem dX11_powerBits_88 : decode cX11_powerBits 88 = .ok (.iand, 1) := by decide +kernel
theorem dX11_powerBits_89 : decode cX11_powerBits 89 = .ok (.invokevirtual 162, 3) := by decide +kernel
theorem dX11_powerBits_92 : decode cX11_powerBits 92 = .ok (.ifCond .ne 7, 3) := by decide +kernel
theorem dX11_powerBits_95 : decode cX11_powerBits 95 = .ok (.iconst 1, 1) := by decide +kernel
theorem dX11_powerBits_96 : decode cX11_powerBits 96 = .ok (.goto 4, 3) := by decide +kernel
theorem dX11_powerBits_99 : decode cX11_powerBits 99 = .ok (.iconst 0, 1) := by decide +kernel
theorem dX11_powerBits_100 : decode cX11_powerBits 100 = .ok (.iadd, 1) := by decide +kernel
theorem dX11_powerBits_101 : decode cX11_powerBits 101 = .ok (.istore_n 3, 1) := by decide +kernel
theorem dX11_powerBits_102 : decode cX11_powerBits 102 = .ok (.iinc 4 1, 3) := by decide +kernel
theorem dX11_powerBits_105 : decode cX11_powerBits 105 = .ok (.goto (-55), 3) := by decide +kernel
theorem dX11_powerBits_108 : decode cX11_powerBits 108 = .ok (.iload_n 3, 1) := by decide +kernel
theorem dX11_powerBits_109 : decode cX11_powerBits 109 = .ok (.i2d, 1) := by decide +kernel
theorem dX11_powerBits_110 : decode cX11_powerBits 110 = .ok (.ldc2_w 262, 3) := by decide +kernel
theorem dX11_powerBits_113 : decode cX11_powerBits 113 = .ok (.ddiv, 1) := by decide +kernel
theorem dX11_powerBits_114 : decode cX11_powerBits 114 = .ok (.invokestatic 264, 3) := by decide +kernel
theorem dX11_powerBits_117 : decode cX11_powerBits 117 = .ok (.lreturn, 1) := by decide +kernel
theorem dX11_healthBits_0 : decode cX11_healthBits 0 = .ok (.aload_n 0, 1) := by decide +kernel
theorem dX11_healthBits_1 : decode cX11_healthBits 1 = .ok (.iload_n 1, 1) := by decide +kernel
theorem dX11_healthBits_2 : decode cX11_healthBits 2 = .ok (.invokevirtual 121, 3) := by decide +kernel
theorem dX11_healthBits_5 : decode cX11_healthBits 5 = .ok (.istore_n 2, 1) := by decide +kernel
theorem dX11_healthBits_6 : decode cX11_healthBits 6 = .ok (.iload_n 2, 1) := by decide +kernel
theorem dX11_healthBits_7 : decode cX11_healthBits 7 = .ok (.ifCond .eq 9, 3) := by decide +kernel
theorem dX11_healthBits_10 : decode cX11_healthBits 10 = .ok (.aload_n 0, 1) := by decide +kernel
theorem dX11_healthBits_11 : decode cX11_healthBits 11 = .ok (.iload_n 2, 1) := by decide +kernel
theorem dX11_healthBits_12 : decode cX11_healthBits 12 = .ok (.invokevirtual 80, 3) := by decide +kernel
theorem dX11_healthBits_15 : decode cX11_healthBits 15 = .ok (.ireturn, 1) := by decide +kernel
theorem dX11_healthBits_16 : decode cX11_healthBits 16 = .ok (.aload_n 0, 1) := by decide +kernel
theorem dX11_healthBits_17 : decode cX11_healthBits 17 = .ok (.iload_n 1, 1) := by decide +kernel
theorem dX11_healthBits_18 : decode cX11_healthBits 18 = .ok (.iconst (-1), 1) := by decide +kernel
theorem dX11_healthBits_19 : decode cX11_healthBits 19 = .ok (.invokevirtual 180, 3) := by decide +kernel
theorem dX11_healthBits_22 : decode cX11_healthBits 22 = .ok (.istore_n 3, 1) := by decide +kernel
theorem dX11_healthBits_23 : decode cX11_healthBits 23 = .ok (.iload_n 3, 1) := by decide +kernel
theorem dX11_healthBits_24 : decode cX11_healthBits 24 = .ok (.ifCond .ne 11, 3) := by decide +kernel
theorem dX11_healthBits_27 : decode cX11_healthBits 27 = .ok (.aload_n 0, 1) := by decide +kernel
theorem dX11_healthBits_28 : decode cX11_healthBits 28 = .ok (.iconst 3, 1) := by decide +kernel
theorem dX11_healthBits_29 : decode cX11_healthBits 29 = .ok (.invokevirtual 80, 3) := by decide +kernel
theorem dX11_healthBits_32 : decode cX11_healthBits 32 = .ok (.goto 20, 3) := by decide +kernel
theorem dX11_healthBits_35 : decode cX11_healthBits 35 = .ok (.aload_n 0, 1) := by decide +kernel
theorem dX11_healthBits_36 : decode cX11_healthBits 36 = .ok (.aload_n 0, 1) := by decide +kernel
theorem dX11_healthBits_37 : decode cX11_healthBits 37 = .ok (.iload_n 1, 1) := by decide +kernel
theorem dX11_healthBits_38 : decode cX11_healthBits 38 = .ok (.iconst 0, 1) := by decide +kernel
theorem dX11_healthBits_39 : decode cX11_healthBits 39 = .ok (.invokevirtual 180, 3) := by decide +kernel
theorem dX11_healthBits_42 : decode cX11_healthBits 42 = .ok (.i2f, 1) := by decide +kernel
theorem dX11_healthBits_43 : decode cX11_healthBits 43 = .ok (.iload_n 3, 1) := by decide +kernel
theorem dX11_healthBits_44 : decode cX11_healthBits 44 = .ok (.i2f, 1) := by decide +kernel
theorem dX11_healthBits_45 : decode cX11_healthBits 45 = .ok (.fdiv, 1) := by decide +kernel
theorem dX11_healthBits_46 : decode cX11_healthBits 46 = .ok (.invokestatic 270, 3) := by decide +kernel
theorem dX11_healthBits_49 : decode cX11_healthBits 49 = .ok (.invokevirtual 69, 3) := by decide +kernel
theorem dX11_healthBits_52 : decode cX11_healthBits 52 = .ok (.ireturn, 1) := by decide +kernel
theorem dX11_levels_0 : decode cX11_levels 0 = .ok (.aload_n 0, 1) := by decide +kernel
theorem dX11_levels_1 : decode cX11_levels 1 = .ok (.aload_n 0, 1) := by decide +kernel
theorem dX11_levels_2 : decode cX11_levels 2 = .ok (.getfield 153, 3) := by decide +kernel
theorem dX11_levels_5 : decode cX11_levels 5 = .ok (.invokevirtual 69, 3) := by decide +kernel
theorem dX11_levels_8 : decode cX11_levels 8 = .ok (.ireturn, 1) := by decide +kernel
theorem dX11_report_0 : decode cX11_report 0 = .ok (.iload_n 1, 1) := by decide +kernel
theorem dX11_report_1 : decode cX11_report 1 = .ok (.iconst 0, 1) := by decide +kernel
theorem dX11_report_2 : decode cX11_report 2 = .ok (.aload_n 0, 1) := by decide +kernel
theorem dX11_report_3 : decode cX11_report 3 = .ok (.getfield 153, 3) := by decide +kernel
theorem dX11_report_6 : decode cX11_report 6 = .ok (.iconst 1, 1) := by decide +kernel
theorem dX11_report_7 : decode cX11_report 7 = .ok (.isub, 1) := by decide +kernel
theorem dX11_report_8 : decode cX11_report 8 = .ok (.invokestatic 45, 3) := by decide +kernel
theorem dX11_report_11 : decode cX11_report 11 = .ok (.ifCond .ne 9, 3) := by decide +kernel
theorem dX11_report_14 : decode cX11_report 14 = .ok (.aload_n 0, 1) := by decide +kernel
theorem dX11_report_15 : decode cX11_report 15 = .ok (.iconst 1, 1) := by decide +kernel
theorem dX11_report_16 : decode cX11_report 16 = .ok (.invokevirtual 80, 3) := by decide +kernel
theorem dX11_report_19 : decode cX11_report 19 = .ok (.ireturn, 1) := by decide +kernel
theorem dX11_report_20 : decode cX11_report 20 = .ok (.iload_n 2, 1) := by decide +kernel
theorem dX11_report_21 : decode cX11_report 21 = .ok (.ifCond .ne 16, 3) := by decide +kernel
theorem dX11_report_24 : decode cX11_report 24 = .ok (.aload_n 0, 1) := by decide +kernel
theorem dX11_report_25 : decode cX11_report 25 = .ok (.aload_n 0, 1) := by decide +kernel
theorem dX11_report_26 : decode cX11_report 26 = .ok (.getfield 22, 3) := by decide +kernel
theorem dX11_report_29 : decode cX11_report 29 = .ok (.iload_n 1, 1) := by decide +kernel
theorem dX11_report_30 : decode cX11_report 30 = .ok (.iaload, 1) := by decide +kernel
theorem dX11_report_31 : decode cX11_report 31 = .ok (.invokevirtual 69, 3) := by decide +kernel
theorem dX11_report_34 : decode cX11_report 34 = .ok (.goto 26, 3) := by decide +kernel
theorem dX11_report_37 : decode cX11_report 37 = .ok (.iload_n 2, 1) := by decide +kernel
theorem dX11_report_38 : decode cX11_report 38 = .ok (.iconst 1, 1) := by decide +kernel
theorem dX11_report_39 : decode cX11_report 39 = .ok (.if_icmp .ne 16, 3) := by decide +kernel
theorem dX11_report_42 : decode cX11_report 42 = .ok (.aload_n 0, 1) := by decide +kernel
theorem dX11_report_43 : decode cX11_report 43 = .ok (.aload_n 0, 1) := by decide +kernel
theorem dX11_report_44 : decode cX11_report 44 = .ok (.getfield 25, 3) := by decide +kernel
theorem dX11_report_47 : decode cX11_report 47 = .ok (.iload_n 1, 1) := by decide +kernel
theorem dX11_report_48 : decode cX11_report 48 = .ok (.iaload, 1) := by decide +kernel
theorem dX11_report_49 : decode cX11_report 49 = .ok (.invokevirtual 69, 3) := by decide +kernel
theorem dX11_report_52 : decode cX11_report 52 = .ok (.goto 8, 3) := by decide +kernel
theorem dX11_report_55 : decode cX11_report 55 = .ok (.aload_n 0, 1) := by decide +kernel
theorem dX11_report_56 : decode cX11_report 56 = .ok (.iconst 2, 1) := by decide +kernel
theorem dX11_report_57 : decode cX11_report 57 = .ok (.invokevirtual 80, 3) := by decide +kernel
theorem dX11_report_60 : decode cX11_report 60 = .ok (.ireturn, 1) := by decide +kernel
theorem dX11_event_0 : decode cX11_event 0 = .ok (.iload_n 1, 1) := by decide +kernel
theorem dX11_event_1 : decode cX11_event 1 = .ok (.iconst 0, 1) := by decide +kernel
theorem dX11_event_2 : decode cX11_event 2 = .ok (.aload_n 0, 1) := by decide +kernel
theorem dX11_event_3 : decode cX11_event 3 = .ok (.getfield 7, 3) := by decide +kernel
theorem dX11_event_6 : decode cX11_event 6 = .ok (.bipush 17, 2) := by decide +kernel
theorem dX11_event_8 : decode cX11_event 8 = .ok (.iaload, 1) := by decide +kernel
theorem dX11_event_9 : decode cX11_event 9 = .ok (.iconst 1, 1) := by decide +kernel
theorem dX11_event_10 : decode cX11_event 10 = .ok (.isub, 1) := by decide +kernel
theorem dX11_event_11 : decode cX11_event 11 = .ok (.invokestatic 45, 3) := by decide +kernel
theorem dX11_event_14 : decode cX11_event 14 = .ok (.ifCond .eq 19, 3) := by decide +kernel
theorem dX11_event_17 : decode cX11_event 17 = .ok (.aload_n 0, 1) := by decide +kernel
theorem dX11_event_18 : decode cX11_event 18 = .ok (.aload_n 0, 1) := by decide +kernel
theorem dX11_event_19 : decode cX11_event 19 = .ok (.getfield 7, 3) := by decide +kernel
theorem dX11_event_22 : decode cX11_event 22 = .ok (.bipush 18, 2) := by decide +kernel
theorem dX11_event_24 : decode cX11_event 24 = .ok (.iload_n 1, 1) := by decide +kernel
theorem dX11_event_25 : decode cX11_event 25 = .ok (.iadd, 1) := by decide +kernel
theorem dX11_event_26 : decode cX11_event 26 = .ok (.iaload, 1) := by decide +kernel
theorem dX11_event_27 : decode cX11_event 27 = .ok (.invokevirtual 69, 3) := by decide +kernel
theorem dX11_event_30 : decode cX11_event 30 = .ok (.goto 8, 3) := by decide +kernel
theorem dX11_event_33 : decode cX11_event 33 = .ok (.aload_n 0, 1) := by decide +kernel
theorem dX11_event_34 : decode cX11_event 34 = .ok (.iconst 1, 1) := by decide +kernel
theorem dX11_event_35 : decode cX11_event 35 = .ok (.invokevirtual 80, 3) := by decide +kernel
theorem dX11_event_38 : decode cX11_event 38 = .ok (.ireturn, 1) := by decide +kernel
theorem dX11_secrets_0 : decode cX11_secrets 0 = .ok (.iconst 0, 1) := by decide +kernel
theorem dX11_secrets_1 : decode cX11_secrets 1 = .ok (.istore_n 1, 1) := by decide +kernel
theorem dX11_secrets_2 : decode cX11_secrets 2 = .ok (.iconst 0, 1) := by decide +kernel
theorem dX11_secrets_3 : decode cX11_secrets 3 = .ok (.istore_n 2, 1) := by decide +kernel
theorem dX11_secrets_4 : decode cX11_secrets 4 = .ok (.iload_n 2, 1) := by decide +kernel
theorem dX11_secrets_5 : decode cX11_secrets 5 = .ok (.iconst 4, 1) := by decide +kernel
theorem dX11_secrets_6 : decode cX11_secrets 6 = .ok (.if_icmp .ge 18, 3) := by decide +kernel
theorem dX11_secrets_9 : decode cX11_secrets 9 = .ok (.iload_n 1, 1) := by decide +kernel
theorem dX11_secrets_10 : decode cX11_secrets 10 = .ok (.aload_n 0, 1) := by decide +kernel
theorem dX11_secrets_11 : decode cX11_secrets 11 = .ok (.iload_n 2, 1) := by decide +kernel
theorem dX11_secrets_12 : decode cX11_secrets 12 = .ok (.iconst 0, 1) := by decide +kernel
theorem dX11_secrets_13 : decode cX11_secrets 13 = .ok (.invokevirtual 49, 3) := by decide +kernel
theorem dX11_secrets_16 : decode cX11_secrets 16 = .ok (.iadd, 1) := by decide +kernel
theorem dX11_secrets_17 : decode cX11_secrets 17 = .ok (.istore_n 1, 1) := by decide +kernel
theorem dX11_secrets_18 : decode cX11_secrets 18 = .ok (.iinc 2 1, 3) := by decide +kernel
theorem dX11_secrets_21 : decode cX11_secrets 21 = .ok (.goto (-17), 3) := by decide +kernel
theorem dX11_secrets_24 : decode cX11_secrets 24 = .ok (.iload_n 1, 1) := by decide +kernel
theorem dX11_secrets_25 : decode cX11_secrets 25 = .ok (.ireturn, 1) := by decide +kernel
theorem dX11_save_0 : decode cX11_save 0 = .ok (.aload_n 0, 1) := by decide +kernel
theorem dX11_save_1 : decode cX11_save 1 = .ok (.iconst 1, 1) := by decide +kernel
theorem dX11_save_2 : decode cX11_save 2 = .ok (.putfield 276, 3) := by decide +kernel
theorem dX11_save_5 : decode cX11_save 5 = .ok (.iconst 0, 1) := by decide +kernel
theorem dX11_save_6 : decode cX11_save 6 = .ok (.istore_n 1, 1) := by decide +kernel
theorem dX11_save_7 : decode cX11_save 7 = .ok (.iload_n 1, 1) := by decide +kernel
theorem dX11_save_8 : decode cX11_save 8 = .ok (.sipush 534, 3) := by decide +kernel
theorem dX11_save_11 : decode cX11_save 11 = .ok (.if_icmp .ge 21, 3) := by decide +kernel
theorem dX11_save_14 : decode cX11_save 14 = .ok (.aload_n 0, 1) := by decide +kernel
theorem dX11_save_15 : decode cX11_save 15 = .ok (.getfield 13, 3) := by decide +kernel
theorem dX11_save_18 : decode cX11_save 18 = .ok (.iload_n 1, 1) := by decide +kernel
theorem dX11_save_19 : decode cX11_save 19 = .ok (.aload_n 0, 1) := by decide +kernel
theorem dX11_save_20 : decode cX11_save 20 = .ok (.getfield 7, 3) := by decide +kernel
theorem dX11_save_23 : decode cX11_save 23 = .ok (.iload_n 1, 1) := by decide +kernel
theorem dX11_save_24 : decode cX11_save 24 = .ok (.iaload, 1) := by decide +kernel
theorem dX11_save_25 : decode cX11_save 25 = .ok (.iastore, 1) := by decide +kernel
theorem dX11_save_26 : decode cX11_save 26 = .ok (.iinc 1 1, 3) := by decide +kernel
theorem dX11_save_29 : decode cX11_save 29 = .ok (.goto (-22), 3) := by decide +kernel
theorem dX11_save_32 : decode cX11_save 32 = .ok (.aload_n 0, 1) := by decide +kernel
theorem dX11_save_33 : decode cX11_save 33 = .ok (.aload_n 0, 1) := by decide +kernel
theorem dX11_save_34 : decode cX11_save 34 = .ok (.invokevirtual 280, 3) := by decide +kernel
theorem dX11_save_37 : decode cX11_save 37 = .ok (.invokevirtual 69, 3) := by decide +kernel
theorem dX11_save_40 : decode cX11_save 40 = .ok (.ireturn, 1) := by decide +kernel
theorem dX11_restore_0 : decode cX11_restore 0 = .ok (.aload_n 0, 1) := by decide +kernel
theorem dX11_restore_1 : decode cX11_restore 1 = .ok (.getfield 276, 3) := by decide +kernel
theorem dX11_restore_4 : decode cX11_restore 4 = .ok (.ifCond .ne 9, 3) := by decide +kernel
theorem dX11_restore_7 : decode cX11_restore 7 = .ok (.aload_n 0, 1) := by decide +kernel
theorem dX11_restore_8 : decode cX11_restore 8 = .ok (.iconst 1, 1) := by decide +kernel
theorem dX11_restore_9 : decode cX11_restore 9 = .ok (.invokevirtual 80, 3) := by decide +kernel
theorem dX11_restore_12 : decode cX11_restore 12 = .ok (.ireturn, 1) := by decide +kernel
theorem dX11_restore_13 : decode cX11_restore 13 = .ok (.iconst 0, 1) := by decide +kernel
theorem dX11_restore_14 : decode cX11_restore 14 = .ok (.istore_n 1, 1) := by decide +kernel
theorem dX11_restore_15 : decode cX11_restore 15 = .ok (.iload_n 1, 1) := by decide +kernel
theorem dX11_restore_16 : decode cX11_restore 16 = .ok (.sipush 534, 3) := by decide +kernel
theorem dX11_restore_19 : decode cX11_restore 19 = .ok (.if_icmp .ge 21, 3) := by decide +kernel
theorem dX11_restore_22 : decode cX11_restore 22 = .ok (.aload_n 0, 1) := by decide +kernel
theorem dX11_restore_23 : decode cX11_restore 23 = .ok (.getfield 7, 3) := by decide +kernel
theorem dX11_restore_26 : decode cX11_restore 26 = .ok (.iload_n 1, 1) := by decide +kernel
theorem dX11_restore_27 : decode cX11_restore 27 = .ok (.aload_n 0, 1) := by decide +kernel
theorem dX11_restore_28 : decode cX11_restore 28 = .ok (.getfield 13, 3) := by decide +kernel
theorem dX11_restore_31 : decode cX11_restore 31 = .ok (.iload_n 1, 1) := by decide +kernel
theorem dX11_restore_32 : decode cX11_restore 32 = .ok (.iaload, 1) := by decide +kernel
theorem dX11_restore_33 : decode cX11_restore 33 = .ok (.iastore, 1) := by decide +kernel
theorem dX11_restore_34 : decode cX11_restore 34 = .ok (.iinc 1 1, 3) := by decide +kernel
theorem dX11_restore_37 : decode cX11_restore 37 = .ok (.goto (-22), 3) := by decide +kernel
theorem dX11_restore_40 : decode cX11_restore 40 = .ok (.aload_n 0, 1) := by decide +kernel
theorem dX11_restore_41 : decode cX11_restore 41 = .ok (.aload_n 0, 1) := by decide +kernel
theorem dX11_restore_42 : decode cX11_restore 42 = .ok (.invokevirtual 280, 3) := by decide +kernel
theorem dX11_restore_45 : decode cX11_restore 45 = .ok (.invokevirtual 69, 3) := by decide +kernel
theorem dX11_restore_48 : decode cX11_restore 48 = .ok (.ireturn, 1) := by decide +kernel
theorem dJ5_init_d00df_0 : decode cJ5_init_d00df 0 = .ok (.aload_n 0, 1) := by decide +kernel
theorem dJ5_init_d00df_1 : decode cJ5_init_d00df 1 = .ok (.invokespecial 3, 3) := by decide +kernel
theorem dJ5_init_d00df_4 : decode cJ5_init_d00df 4 = .ok (.getstatic 18, 3) := by decide +kernel
theorem dJ5_init_d00df_7 : decode cJ5_init_d00df 7 = .ok (.ifCond .eq 18, 3) := by decide +kernel
theorem dJ5_init_d00df_10 : decode cJ5_init_d00df 10 = .ok (.aload_n 0, 1) := by decide +kernel
theorem dJ5_init_d00df_11 : decode cJ5_init_d00df 11 = .ok (.iload_n 1, 1) := by decide +kernel
theorem dJ5_init_d00df_12 : decode cJ5_init_d00df 12 = .ok (.newarray .byte, 2) := by decide +kernel
theorem dJ5_init_d00df_14 : decode cJ5_init_d00df 14 = .ok (.putfield 15, 3) := by decide +kernel
theorem dJ5_init_d00df_17 : decode cJ5_init_d00df 17 = .ok (.aload_n 0, 1) := by decide +kernel
theorem dJ5_init_d00df_18 : decode cJ5_init_d00df 18 = .ok (.iconst 0, 1) := by decide +kernel
theorem dJ5_init_d00df_19 : decode cJ5_init_d00df 19 = .ok (.putfield 22, 3) := by decide +kernel
theorem dJ5_init_d00df_22 : decode cJ5_init_d00df 22 = .ok (.goto 16, 3) := by decide +kernel
theorem dJ5_init_d00df_25 : decode cJ5_init_d00df 25 = .ok (.aload_n 0, 1) := by decide +kernel
theorem dJ5_init_d00df_26 : decode cJ5_init_d00df 26 = .ok (.iload_n 1, 1) := by decide +kernel
theorem dJ5_init_d00df_27 : decode cJ5_init_d00df 27 = .ok (.invokestatic 26, 3) := by decide +kernel
theorem dJ5_init_d00df_30 : decode cJ5_init_d00df 30 = .ok (.putfield 15, 3) := by decide +kernel
theorem dJ5_init_d00df_33 : decode cJ5_init_d00df 33 = .ok (.aload_n 0, 1) := by decide +kernel
theorem dJ5_init_d00df_34 : decode cJ5_init_d00df 34 = .ok (.iconst 1, 1) := by decide +kernel
theorem dJ5_init_d00df_35 : decode cJ5_init_d00df 35 = .ok (.putfield 22, 3) := by decide +kernel
theorem dJ5_init_d00df_38 : decode cJ5_init_d00df 38 = .ok (.return_, 1) := by decide +kernel
theorem dJ5_length_8abf5_0 : decode cJ5_length_8abf5 0 = .ok (.aload_n 0, 1) := by decide +kernel
theorem dJ5_length_8abf5_1 : decode cJ5_length_8abf5 1 = .ok (.getfield 79, 3) := by decide +kernel
theorem dJ5_length_8abf5_4 : decode cJ5_length_8abf5 4 = .ok (.ireturn, 1) := by decide +kernel
theorem dJ5_ensureCapacityInternal_d00df_0 : decode cJ5_ensureCapacityInternal_d00df 0 = .ok (.aload_n 0, 1) := by decide +kernel
theorem dJ5_ensureCapacityInternal_d00df_1 : decode cJ5_ensureCapacityInternal_d00df 1 = .ok (.getfield 15, 3) := by decide +kernel
theorem dJ5_ensureCapacityInternal_d00df_4 : decode cJ5_ensureCapacityInternal_d00df 4 = .ok (.arraylength, 1) := by decide +kernel
theorem dJ5_ensureCapacityInternal_d00df_5 : decode cJ5_ensureCapacityInternal_d00df 5 = .ok (.aload_n 0, 1) := by decide +kernel
theorem dJ5_ensureCapacityInternal_d00df_6 : decode cJ5_ensureCapacityInternal_d00df 6 = .ok (.getfield 22, 3) := by decide +kernel
theorem dJ5_ensureCapacityInternal_d00df_9 : decode cJ5_ensureCapacityInternal_d00df 9 = .ok (.ishr, 1) := by decide +kernel
theorem dJ5_ensureCapacityInternal_d00df_10 : decode cJ5_ensureCapacityInternal_d00df 10 = .ok (.istore_n 2, 1) := by decide +kernel
theorem dJ5_ensureCapacityInternal_d00df_11 : decode cJ5_ensureCapacityInternal_d00df 11 = .ok (.iload_n 1, 1) := by decide +kernel
theorem dJ5_ensureCapacityInternal_d00df_12 : decode cJ5_ensureCapacityInternal_d00df 12 = .ok (.iload_n 2, 1) := by decide +kernel
theorem dJ5_ensureCapacityInternal_d00df_13 : decode cJ5_ensureCapacityInternal_d00df 13 = .ok (.isub, 1) := by decide +kernel
theorem dJ5_ensureCapacityInternal_d00df_14 : decode cJ5_ensureCapacityInternal_d00df 14 = .ok (.ifCond .le 24, 3) := by decide +kernel
theorem dJ5_ensureCapacityInternal_d00df_17 : decode cJ5_ensureCapacityInternal_d00df 17 = .ok (.aload_n 0, 1) := by decide +kernel
theorem dJ5_ensureCapacityInternal_d00df_18 : decode cJ5_ensureCapacityInternal_d00df 18 = .ok (.aload_n 0, 1) := by decide +kernel
theorem dJ5_ensureCapacityInternal_d00df_19 : decode cJ5_ensureCapacityInternal_d00df 19 = .ok (.getfield 15, 3) := by decide +kernel
theorem dJ5_ensureCapacityInternal_d00df_22 : decode cJ5_ensureCapacityInternal_d00df 22 = .ok (.aload_n 0, 1) := by decide +kernel
theorem dJ5_ensureCapacityInternal_d00df_23 : decode cJ5_ensureCapacityInternal_d00df 23 = .ok (.iload_n 1, 1) := by decide +kernel
theorem dJ5_ensureCapacityInternal_d00df_24 : decode cJ5_ensureCapacityInternal_d00df 24 = .ok (.invokevirtual 104, 3) := by decide +kernel
theorem dJ5_ensureCapacityInternal_d00df_27 : decode cJ5_ensureCapacityInternal_d00df 27 = .ok (.aload_n 0, 1) := by decide +kernel
theorem dJ5_ensureCapacityInternal_d00df_28 : decode cJ5_ensureCapacityInternal_d00df 28 = .ok (.getfield 22, 3) := by decide +kernel
theorem dJ5_ensureCapacityInternal_d00df_31 : decode cJ5_ensureCapacityInternal_d00df 31 = .ok (.ishl, 1) := by decide +kernel
theorem dJ5_ensureCapacityInternal_d00df_32 : decode cJ5_ensureCapacityInternal_d00df 32 = .ok (.invokestatic 108, 3) := by decide +kernel
theorem dJ5_ensureCapacityInternal_d00df_35 : decode cJ5_ensureCapacityInternal_d00df 35 = .ok (.putfield 15, 3) := by decide +kernel
theorem dJ5_ensureCapacityInternal_d00df_38 : decode cJ5_ensureCapacityInternal_d00df 38 = .ok (.return_, 1) := by decide +kernel
theorem dJ5_newCapacity_0f7a4_0 : decode cJ5_newCapacity_0f7a4 0 = .ok (.aload_n 0, 1) := by decide +kernel
theorem dJ5_newCapacity_0f7a4_1 : decode cJ5_newCapacity_0f7a4 1 = .ok (.getfield 15, 3) := by decide +kernel
theorem dJ5_newCapacity_0f7a4_4 : decode cJ5_newCapacity_0f7a4 4 = .ok (.arraylength, 1) := by decide +kernel
theorem dJ5_newCapacity_0f7a4_5 : decode cJ5_newCapacity_0f7a4 5 = .ok (.istore_n 2, 1) := by decide +kernel
theorem dJ5_newCapacity_0f7a4_6 : decode cJ5_newCapacity_0f7a4 6 = .ok (.iload_n 1, 1) := by decide +kernel
theorem dJ5_newCapacity_0f7a4_7 : decode cJ5_newCapacity_0f7a4 7 = .ok (.aload_n 0, 1) := by decide +kernel
theorem dJ5_newCapacity_0f7a4_8 : decode cJ5_newCapacity_0f7a4 8 = .ok (.getfield 22, 3) := by decide +kernel
theorem dJ5_newCapacity_0f7a4_11 : decode cJ5_newCapacity_0f7a4 11 = .ok (.ishl, 1) := by decide +kernel
theorem dJ5_newCapacity_0f7a4_12 : decode cJ5_newCapacity_0f7a4 12 = .ok (.istore_n 3, 1) := by decide +kernel
theorem dJ5_newCapacity_0f7a4_13 : decode cJ5_newCapacity_0f7a4 13 = .ok (.iload_n 3, 1) := by decide +kernel
theorem dJ5_newCapacity_0f7a4_14 : decode cJ5_newCapacity_0f7a4 14 = .ok (.iload_n 2, 1) := by decide +kernel
theorem dJ5_newCapacity_0f7a4_15 : decode cJ5_newCapacity_0f7a4 15 = .ok (.isub, 1) := by decide +kernel
theorem dJ5_newCapacity_0f7a4_16 : decode cJ5_newCapacity_0f7a4 16 = .ok (.istore 4, 2) := by decide +kernel
theorem dJ5_newCapacity_0f7a4_18 : decode cJ5_newCapacity_0f7a4 18 = .ok (.iload_n 2, 1) := by decide +kernel
theorem dJ5_newCapacity_0f7a4_19 : decode cJ5_newCapacity_0f7a4 19 = .ok (.iload 4, 2) := by decide +kernel
theorem dJ5_newCapacity_0f7a4_21 : decode cJ5_newCapacity_0f7a4 21 = .ok (.iload_n 2, 1) := by decide +kernel
theorem dJ5_newCapacity_0f7a4_22 : decode cJ5_newCapacity_0f7a4 22 = .ok (.iconst 2, 1) := by decide +kernel
theorem dJ5_newCapacity_0f7a4_23 : decode cJ5_newCapacity_0f7a4 23 = .ok (.aload_n 0, 1) := by decide +kernel
theorem dJ5_newCapacity_0f7a4_24 : decode cJ5_newCapacity_0f7a4 24 = .ok (.getfield 22, 3) := by decide +kernel
theorem dJ5_newCapacity_0f7a4_27 : decode cJ5_newCapacity_0f7a4 27 = .ok (.ishl, 1) := by decide +kernel
theorem dJ5_newCapacity_0f7a4_28 : decode cJ5_newCapacity_0f7a4 28 = .ok (.iadd, 1) := by decide +kernel
theorem dJ5_newCapacity_0f7a4_29 : decode cJ5_newCapacity_0f7a4 29 = .ok (.invokestatic 114, 3) := by decide +kernel
theorem dJ5_newCapacity_0f7a4_32 : decode cJ5_newCapacity_0f7a4 32 = .ok (.istore 5, 2) := by decide +kernel
theorem dJ5_newCapacity_0f7a4_34 : decode cJ5_newCapacity_0f7a4 34 = .ok (.iload 5, 2) := by decide +kernel
theorem dJ5_newCapacity_0f7a4_36 : decode cJ5_newCapacity_0f7a4 36 = .ok (.ldc 39, 2) := by decide +kernel
theorem dJ5_newCapacity_0f7a4_38 : decode cJ5_newCapacity_0f7a4 38 = .ok (.if_icmp .ne 13, 3) := by decide +kernel
theorem dJ5_newCapacity_0f7a4_41 : decode cJ5_newCapacity_0f7a4 41 = .ok (.new 120, 3) := by decide +kernel
theorem dJ5_newCapacity_0f7a4_44 : decode cJ5_newCapacity_0f7a4 44 = .ok (.dup, 1) := by decide +kernel
theorem dJ5_newCapacity_0f7a4_45 : decode cJ5_newCapacity_0f7a4 45 = .ok (.ldc 122, 2) := by decide +kernel
theorem dJ5_newCapacity_0f7a4_47 : decode cJ5_newCapacity_0f7a4 47 = .ok (.invokespecial 124, 3) := by decide +kernel
theorem dJ5_newCapacity_0f7a4_50 : decode cJ5_newCapacity_0f7a4 50 = .ok (.athrow, 1) := by decide +kernel
theorem dJ5_newCapacity_0f7a4_51 : decode cJ5_newCapacity_0f7a4 51 = .ok (.iload 5, 2) := by decide +kernel
theorem dJ5_newCapacity_0f7a4_53 : decode cJ5_newCapacity_0f7a4 53 = .ok (.aload_n 0, 1) := by decide +kernel
theorem dJ5_newCapacity_0f7a4_54 : decode cJ5_newCapacity_0f7a4 54 = .ok (.getfield 22, 3) := by decide +kernel
theorem dJ5_newCapacity_0f7a4_57 : decode cJ5_newCapacity_0f7a4 57 = .ok (.ishr, 1) := by decide +kernel
theorem dJ5_newCapacity_0f7a4_58 : decode cJ5_newCapacity_0f7a4 58 = .ok (.ireturn, 1) := by decide +kernel
theorem dJ5_inflate_da8c8_0 : decode cJ5_inflate_da8c8 0 = .ok (.aload_n 0, 1) := by decide +kernel
theorem dJ5_inflate_da8c8_1 : decode cJ5_inflate_da8c8 1 = .ok (.invokevirtual 83, 3) := by decide +kernel
theorem dJ5_inflate_da8c8_4 : decode cJ5_inflate_da8c8 4 = .ok (.ifCond .ne 4, 3) := by decide +kernel
theorem dJ5_inflate_da8c8_7 : decode cJ5_inflate_da8c8 7 = .ok (.return_, 1) := by decide +kernel
theorem dJ5_inflate_da8c8_8 : decode cJ5_inflate_da8c8 8 = .ok (.aload_n 0, 1) := by decide +kernel
theorem dJ5_inflate_da8c8_9 : decode cJ5_inflate_da8c8 9 = .ok (.getfield 15, 3) := by decide +kernel
theorem dJ5_inflate_da8c8_12 : decode cJ5_inflate_da8c8 12 = .ok (.arraylength, 1) := by decide +kernel
theorem dJ5_inflate_da8c8_13 : decode cJ5_inflate_da8c8 13 = .ok (.invokestatic 26, 3) := by decide +kernel
theorem dJ5_inflate_da8c8_16 : decode cJ5_inflate_da8c8 16 = .ok (.astore_n 1, 1) := by decide +kernel
theorem dJ5_inflate_da8c8_17 : decode cJ5_inflate_da8c8 17 = .ok (.aload_n 0, 1) := by decide +kernel
theorem dJ5_inflate_da8c8_18 : decode cJ5_inflate_da8c8 18 = .ok (.getfield 15, 3) := by decide +kernel
theorem dJ5_inflate_da8c8_21 : decode cJ5_inflate_da8c8 21 = .ok (.iconst 0, 1) := by decide +kernel
theorem dJ5_inflate_da8c8_22 : decode cJ5_inflate_da8c8 22 = .ok (.aload_n 1, 1) := by decide +kernel
theorem dJ5_inflate_da8c8_23 : decode cJ5_inflate_da8c8 23 = .ok (.iconst 0, 1) := by decide +kernel
theorem dJ5_inflate_da8c8_24 : decode cJ5_inflate_da8c8 24 = .ok (.aload_n 0, 1) := by decide +kernel
theorem dJ5_inflate_da8c8_25 : decode cJ5_inflate_da8c8 25 = .ok (.getfield 79, 3) := by decide +kernel
theorem dJ5_inflate_da8c8_28 : decode cJ5_inflate_da8c8 28 = .ok (.invokestatic 125, 3) := by decide +kernel
theorem dJ5_inflate_da8c8_31 : decode cJ5_inflate_da8c8 31 = .ok (.aload_n 0, 1) := by decide +kernel
theorem dJ5_inflate_da8c8_32 : decode cJ5_inflate_da8c8 32 = .ok (.aload_n 1, 1) := by decide +kernel
theorem dJ5_inflate_da8c8_33 : decode cJ5_inflate_da8c8 33 = .ok (.putfield 15, 3) := by decide +kernel
theorem dJ5_inflate_da8c8_36 : decode cJ5_inflate_da8c8 36 = .ok (.aload_n 0, 1) := by decide +kernel
theorem dJ5_inflate_da8c8_37 : decode cJ5_inflate_da8c8 37 = .ok (.iconst 1, 1) := by decide +kernel
theorem dJ5_inflate_da8c8_38 : decode cJ5_inflate_da8c8 38 = .ok (.putfield 22, 3) := by decide +kernel
theorem dJ5_inflate_da8c8_41 : decode cJ5_inflate_da8c8 41 = .ok (.return_, 1) := by decide +kernel
theorem dJ5_setLength_d00df_0 : decode cJ5_setLength_d00df 0 = .ok (.iload_n 1, 1) := by decide +kernel
theorem dJ5_setLength_d00df_1 : decode cJ5_setLength_d00df 1 = .ok (.ifCond .ge 12, 3) := by decide +kernel
theorem dJ5_setLength_d00df_4 : decode cJ5_setLength_d00df 4 = .ok (.new 129, 3) := by decide +kernel
theorem dJ5_setLength_d00df_7 : decode cJ5_setLength_d00df 7 = .ok (.dup, 1) := by decide +kernel
theorem dJ5_setLength_d00df_8 : decode cJ5_setLength_d00df 8 = .ok (.iload_n 1, 1) := by decide +kernel
theorem dJ5_setLength_d00df_9 : decode cJ5_setLength_d00df 9 = .ok (.invokespecial 131, 3) := by decide +kernel
theorem dJ5_setLength_d00df_12 : decode cJ5_setLength_d00df 12 = .ok (.athrow, 1) := by decide +kernel
theorem dJ5_setLength_d00df_13 : decode cJ5_setLength_d00df 13 = .ok (.aload_n 0, 1) := by decide +kernel
theorem dJ5_setLength_d00df_14 : decode cJ5_setLength_d00df 14 = .ok (.iload_n 1, 1) := by decide +kernel
theorem dJ5_setLength_d00df_15 : decode cJ5_setLength_d00df 15 = .ok (.invokevirtual 100, 3) := by decide +kernel
theorem dJ5_setLength_d00df_18 : decode cJ5_setLength_d00df 18 = .ok (.aload_n 0, 1) := by decide +kernel
theorem dJ5_setLength_d00df_19 : decode cJ5_setLength_d00df 19 = .ok (.getfield 79, 3) := by decide +kernel
theorem dJ5_setLength_d00df_22 : decode cJ5_setLength_d00df 22 = .ok (.iload_n 1, 1) := by decide +kernel
theorem dJ5_setLength_d00df_23 : decode cJ5_setLength_d00df 23 = .ok (.if_icmp .ge 40, 3) := by decide +kernel
theorem dJ5_setLength_d00df_26 : decode cJ5_setLength_d00df 26 = .ok (.aload_n 0, 1) := by decide +kernel
theorem dJ5_setLength_d00df_27 : decode cJ5_setLength_d00df 27 = .ok (.invokevirtual 83, 3) := by decide +kernel
theorem dJ5_setLength_d00df_30 : decode cJ5_setLength_d00df 30 = .ok (.ifCond .eq 18, 3) := by decide +kernel
theorem dJ5_setLength_d00df_33 : decode cJ5_setLength_d00df 33 = .ok (.aload_n 0, 1) := by decide +kernel
theorem dJ5_setLength_d00df_34 : decode cJ5_setLength_d00df 34 = .ok (.getfield 15, 3) := by decide +kernel
theorem dJ5_setLength_d00df_37 : decode cJ5_setLength_d00df 37 = .ok (.aload_n 0, 1) := by decide +kernel
theorem dJ5_setLength_d00df_38 : decode cJ5_setLength_d00df 38 = .ok (.getfield 79, 3) := by decide +kernel
theorem dJ5_setLength_d00df_41 : decode cJ5_setLength_d00df 41 = .ok (.iload_n 1, 1) := by decide +kernel
theorem dJ5_setLength_d00df_42 : decode cJ5_setLength_d00df 42 = .ok (.invokestatic 133, 3) := by decide +kernel
theorem dJ5_setLength_d00df_45 : decode cJ5_setLength_d00df 45 = .ok (.goto 31, 3) := by decide +kernel
theorem dJ5_setLength_d00df_48 : decode cJ5_setLength_d00df 48 = .ok (.aload_n 0, 1) := by decide +kernel
theorem dJ5_setLength_d00df_49 : decode cJ5_setLength_d00df 49 = .ok (.getfield 15, 3) := by decide +kernel
theorem dJ5_setLength_d00df_52 : decode cJ5_setLength_d00df 52 = .ok (.aload_n 0, 1) := by decide +kernel
theorem dJ5_setLength_d00df_53 : decode cJ5_setLength_d00df 53 = .ok (.getfield 79, 3) := by decide +kernel
theorem dJ5_setLength_d00df_56 : decode cJ5_setLength_d00df 56 = .ok (.iload_n 1, 1) := by decide +kernel
theorem dJ5_setLength_d00df_57 : decode cJ5_setLength_d00df 57 = .ok (.invokestatic 137, 3) := by decide +kernel
theorem dJ5_setLength_d00df_60 : decode cJ5_setLength_d00df 60 = .ok (.goto 16, 3) := by decide +kernel
theorem dJ5_setLength_d00df_63 : decode cJ5_setLength_d00df 63 = .ok (.aload_n 0, 1) := by decide +kernel
theorem dJ5_setLength_d00df_64 : decode cJ5_setLength_d00df 64 = .ok (.getfield 79, 3) := by decide +kernel
theorem dJ5_setLength_d00df_67 : decode cJ5_setLength_d00df 67 = .ok (.iload_n 1, 1) := by decide +kernel
theorem dJ5_setLength_d00df_68 : decode cJ5_setLength_d00df 68 = .ok (.if_icmp .le 8, 3) := by decide +kernel
theorem dJ5_setLength_d00df_71 : decode cJ5_setLength_d00df 71 = .ok (.aload_n 0, 1) := by decide +kernel
theorem dJ5_setLength_d00df_72 : decode cJ5_setLength_d00df 72 = .ok (.iconst 1, 1) := by decide +kernel
theorem dJ5_setLength_d00df_73 : decode cJ5_setLength_d00df 73 = .ok (.putfield 73, 3) := by decide +kernel
theorem dJ5_setLength_d00df_76 : decode cJ5_setLength_d00df 76 = .ok (.aload_n 0, 1) := by decide +kernel
theorem dJ5_setLength_d00df_77 : decode cJ5_setLength_d00df 77 = .ok (.iload_n 1, 1) := by decide +kernel
theorem dJ5_setLength_d00df_78 : decode cJ5_setLength_d00df 78 = .ok (.putfield 79, 3) := by decide +kernel
theorem dJ5_setLength_d00df_81 : decode cJ5_setLength_d00df 81 = .ok (.return_, 1) := by decide +kernel
theorem dJ5_charAt_5068e_0 : decode cJ5_charAt_5068e 0 = .ok (.aload_n 0, 1) := by decide +kernel
theorem dJ5_charAt_5068e_1 : decode cJ5_charAt_5068e 1 = .ok (.getfield 22, 3) := by decide +kernel
theorem dJ5_charAt_5068e_4 : decode cJ5_charAt_5068e 4 = .ok (.istore_n 2, 1) := by decide +kernel
theorem dJ5_charAt_5068e_5 : decode cJ5_charAt_5068e 5 = .ok (.aload_n 0, 1) := by decide +kernel
theorem dJ5_charAt_5068e_6 : decode cJ5_charAt_5068e 6 = .ok (.getfield 15, 3) := by decide +kernel
theorem dJ5_charAt_5068e_9 : decode cJ5_charAt_5068e 9 = .ok (.astore_n 3, 1) := by decide +kernel
theorem dJ5_charAt_5068e_10 : decode cJ5_charAt_5068e 10 = .ok (.aload_n 0, 1) := by decide +kernel
theorem dJ5_charAt_5068e_11 : decode cJ5_charAt_5068e 11 = .ok (.getfield 79, 3) := by decide +kernel
theorem dJ5_charAt_5068e_14 : decode cJ5_charAt_5068e 14 = .ok (.aload_n 3, 1) := by decide +kernel
theorem dJ5_charAt_5068e_15 : decode cJ5_charAt_5068e 15 = .ok (.arraylength, 1) := by decide +kernel
theorem dJ5_charAt_5068e_16 : decode cJ5_charAt_5068e 16 = .ok (.iload_n 2, 1) := by decide +kernel
theorem dJ5_charAt_5068e_17 : decode cJ5_charAt_5068e 17 = .ok (.ishr, 1) := by decide +kernel
theorem dJ5_charAt_5068e_18 : decode cJ5_charAt_5068e 18 = .ok (.invokestatic 138, 3) := by decide +kernel
theorem dJ5_charAt_5068e_21 : decode cJ5_charAt_5068e 21 = .ok (.istore 4, 2) := by decide +kernel
theorem dJ5_charAt_5068e_23 : decode cJ5_charAt_5068e 23 = .ok (.iload_n 1, 1) := by decide +kernel
theorem dJ5_charAt_5068e_24 : decode cJ5_charAt_5068e 24 = .ok (.iload 4, 2) := by decide +kernel
theorem dJ5_charAt_5068e_26 : decode cJ5_charAt_5068e 26 = .ok (.invokestatic 144, 3) := by decide +kernel
theorem dJ5_charAt_5068e_29 : decode cJ5_charAt_5068e 29 = .ok (.iload_n 2, 1) := by decide +kernel
theorem dJ5_charAt_5068e_30 : decode cJ5_charAt_5068e 30 = .ok (.ifCond .ne 12, 3) := by decide +kernel
theorem dJ5_charAt_5068e_33 : decode cJ5_charAt_5068e 33 = .ok (.aload_n 3, 1) := by decide +kernel
theorem dJ5_charAt_5068e_34 : decode cJ5_charAt_5068e 34 = .ok (.iload_n 1, 1) := by decide +kernel
theorem dJ5_charAt_5068e_35 : decode cJ5_charAt_5068e 35 = .ok (.baload, 1) := by decide +kernel
theorem dJ5_charAt_5068e_36 : decode cJ5_charAt_5068e 36 = .ok (.sipush 255, 3) := by decide +kernel
theorem dJ5_charAt_5068e_39 : decode cJ5_charAt_5068e 39 = .ok (.iand, 1) := by decide +kernel
theorem dJ5_charAt_5068e_40 : decode cJ5_charAt_5068e 40 = .ok (.i2c, 1) := by decide +kernel
theorem dJ5_charAt_5068e_41 : decode cJ5_charAt_5068e 41 = .ok (.ireturn, 1) := by decide +kernel
theorem dJ5_charAt_5068e_42 : decode cJ5_charAt_5068e 42 = .ok (.aload_n 3, 1) := by decide +kernel
theorem dJ5_charAt_5068e_43 : decode cJ5_charAt_5068e 43 = .ok (.iload_n 1, 1) := by decide +kernel
theorem dJ5_charAt_5068e_44 : decode cJ5_charAt_5068e 44 = .ok (.invokestatic 148, 3) := by decide +kernel
theorem dJ5_charAt_5068e_47 : decode cJ5_charAt_5068e 47 = .ok (.ireturn, 1) := by decide +kernel
theorem dJ5_append_cf1ce_0 : decode cJ5_append_cf1ce 0 = .ok (.aload_n 1, 1) := by decide +kernel
theorem dJ5_append_cf1ce_1 : decode cJ5_append_cf1ce 1 = .ok (.ifnonnull 8, 3) := by decide +kernel
theorem dJ5_append_cf1ce_4 : decode cJ5_append_cf1ce 4 = .ok (.aload_n 0, 1) := by decide +kernel
theorem dJ5_append_cf1ce_5 : decode cJ5_append_cf1ce 5 = .ok (.invokevirtual 204, 3) := by decide +kernel
theorem dJ5_append_cf1ce_8 : decode cJ5_append_cf1ce 8 = .ok (.areturn, 1) := by decide +kernel
theorem dJ5_append_cf1ce_9 : decode cJ5_append_cf1ce 9 = .ok (.aload_n 1, 1) := by decide +kernel
theorem dJ5_append_cf1ce_10 : decode cJ5_append_cf1ce 10 = .ok (.invokevirtual 32, 3) := by decide +kernel
theorem dJ5_append_cf1ce_13 : decode cJ5_append_cf1ce 13 = .ok (.istore_n 2, 1) := by decide +kernel
theorem dJ5_append_cf1ce_14 : decode cJ5_append_cf1ce 14 = .ok (.aload_n 0, 1) := by decide +kernel
theorem dJ5_append_cf1ce_15 : decode cJ5_append_cf1ce 15 = .ok (.aload_n 0, 1) := by decide +kernel
theorem dJ5_append_cf1ce_16 : decode cJ5_append_cf1ce 16 = .ok (.getfield 79, 3) := by decide +kernel
theorem dJ5_append_cf1ce_19 : decode cJ5_append_cf1ce 19 = .ok (.iload_n 2, 1) := by decide +kernel
theorem dJ5_append_cf1ce_20 : decode cJ5_append_cf1ce 20 = .ok (.iadd, 1) := by decide +kernel
theorem dJ5_append_cf1ce_21 : decode cJ5_append_cf1ce 21 = .ok (.invokevirtual 100, 3) := by decide +kernel
theorem dJ5_append_cf1ce_24 : decode cJ5_append_cf1ce 24 = .ok (.aload_n 0, 1) := by decide +kernel
theorem dJ5_append_cf1ce_25 : decode cJ5_append_cf1ce 25 = .ok (.aload_n 0, 1) := by decide +kernel
theorem dJ5_append_cf1ce_26 : decode cJ5_append_cf1ce 26 = .ok (.getfield 79, 3) := by decide +kernel
theorem dJ5_append_cf1ce_29 : decode cJ5_append_cf1ce 29 = .ok (.aload_n 1, 1) := by decide +kernel
theorem dJ5_append_cf1ce_30 : decode cJ5_append_cf1ce 30 = .ok (.invokevirtual 208, 3) := by decide +kernel
theorem dJ5_append_cf1ce_33 : decode cJ5_append_cf1ce 33 = .ok (.aload_n 0, 1) := by decide +kernel
theorem dJ5_append_cf1ce_34 : decode cJ5_append_cf1ce 34 = .ok (.dup, 1) := by decide +kernel
theorem dJ5_append_cf1ce_35 : decode cJ5_append_cf1ce 35 = .ok (.getfield 79, 3) := by decide +kernel
theorem dJ5_append_cf1ce_38 : decode cJ5_append_cf1ce 38 = .ok (.iload_n 2, 1) := by decide +kernel
theorem dJ5_append_cf1ce_39 : decode cJ5_append_cf1ce 39 = .ok (.iadd, 1) := by decide +kernel
theorem dJ5_append_cf1ce_40 : decode cJ5_append_cf1ce 40 = .ok (.putfield 79, 3) := by decide +kernel
theorem dJ5_append_cf1ce_43 : decode cJ5_append_cf1ce 43 = .ok (.aload_n 0, 1) := by decide +kernel
theorem dJ5_append_cf1ce_44 : decode cJ5_append_cf1ce 44 = .ok (.areturn, 1) := by decide +kernel
theorem dJ5_appendNull_278bc_0 : decode cJ5_appendNull_278bc 0 = .ok (.aload_n 0, 1) := by decide +kernel
theorem dJ5_appendNull_278bc_1 : decode cJ5_appendNull_278bc 1 = .ok (.aload_n 0, 1) := by decide +kernel
theorem dJ5_appendNull_278bc_2 : decode cJ5_appendNull_278bc 2 = .ok (.getfield 79, 3) := by decide +kernel
theorem dJ5_appendNull_278bc_5 : decode cJ5_appendNull_278bc 5 = .ok (.iconst 4, 1) := by decide +kernel
theorem dJ5_appendNull_278bc_6 : decode cJ5_appendNull_278bc 6 = .ok (.iadd, 1) := by decide +kernel
theorem dJ5_appendNull_278bc_7 : decode cJ5_appendNull_278bc 7 = .ok (.invokevirtual 100, 3) := by decide +kernel
theorem dJ5_appendNull_278bc_10 : decode cJ5_appendNull_278bc 10 = .ok (.aload_n 0, 1) := by decide +kernel
theorem dJ5_appendNull_278bc_11 : decode cJ5_appendNull_278bc 11 = .ok (.getfield 79, 3) := by decide +kernel
theorem dJ5_appendNull_278bc_14 : decode cJ5_appendNull_278bc 14 = .ok (.istore_n 1, 1) := by decide +kernel
theorem dJ5_appendNull_278bc_15 : decode cJ5_appendNull_278bc 15 = .ok (.aload_n 0, 1) := by decide +kernel
theorem dJ5_appendNull_278bc_16 : decode cJ5_appendNull_278bc 16 = .ok (.getfield 15, 3) := by decide +kernel
theorem dJ5_appendNull_278bc_19 : decode cJ5_appendNull_278bc 19 = .ok (.astore_n 2, 1) := by decide +kernel
theorem dJ5_appendNull_278bc_20 : decode cJ5_appendNull_278bc 20 = .ok (.aload_n 0, 1) := by decide +kernel
theorem dJ5_appendNull_278bc_21 : decode cJ5_appendNull_278bc 21 = .ok (.invokevirtual 83, 3) := by decide +kernel
theorem dJ5_appendNull_278bc_24 : decode cJ5_appendNull_278bc 24 = .ok (.ifCond .eq 38, 3) := by decide +kernel
theorem dJ5_appendNull_278bc_27 : decode cJ5_appendNull_278bc 27 = .ok (.aload_n 2, 1) := by decide +kernel
theorem dJ5_appendNull_278bc_28 : decode cJ5_appendNull_278bc 28 = .ok (.iload_n 1, 1) := by decide +kernel
theorem dJ5_appendNull_278bc_29 : decode cJ5_appendNull_278bc 29 = .ok (.iinc 1 1, 3) := by decide +kernel
theorem dJ5_appendNull_278bc_32 : decode cJ5_appendNull_278bc 32 = .ok (.bipush 110, 2) := by decide +kernel
theorem dJ5_appendNull_278bc_34 : decode cJ5_appendNull_278bc 34 = .ok (.bastore, 1) := by decide +kernel
theorem dJ5_appendNull_278bc_35 : decode cJ5_appendNull_278bc 35 = .ok (.aload_n 2, 1) := by decide +kernel
theorem dJ5_appendNull_278bc_36 : decode cJ5_appendNull_278bc 36 = .ok (.iload_n 1, 1) := by decide +kernel
theorem dJ5_appendNull_278bc_37 : decode cJ5_appendNull_278bc 37 = .ok (.iinc 1 1, 3) := by decide +kernel
theorem dJ5_appendNull_278bc_40 : decode cJ5_appendNull_278bc 40 = .ok (.bipush 117, 2) := by decide +kernel
theorem dJ5_appendNull_278bc_42 : decode cJ5_appendNull_278bc 42 = .ok (.bastore, 1) := by decide +kernel
theorem dJ5_appendNull_278bc_43 : decode cJ5_appendNull_278bc 43 = .ok (.aload_n 2, 1) := by decide +kernel
theorem dJ5_appendNull_278bc_44 : decode cJ5_appendNull_278bc 44 = .ok (.iload_n 1, 1) := by decide +kernel
theorem dJ5_appendNull_278bc_45 : decode cJ5_appendNull_278bc 45 = .ok (.iinc 1 1, 3) := by decide +kernel
theorem dJ5_appendNull_278bc_48 : decode cJ5_appendNull_278bc 48 = .ok (.bipush 108, 2) := by decide +kernel
theorem dJ5_appendNull_278bc_50 : decode cJ5_appendNull_278bc 50 = .ok (.bastore, 1) := by decide +kernel
theorem dJ5_appendNull_278bc_51 : decode cJ5_appendNull_278bc 51 = .ok (.aload_n 2, 1) := by decide +kernel
theorem dJ5_appendNull_278bc_52 : decode cJ5_appendNull_278bc 52 = .ok (.iload_n 1, 1) := by decide +kernel
theorem dJ5_appendNull_278bc_53 : decode cJ5_appendNull_278bc 53 = .ok (.iinc 1 1, 3) := by decide +kernel
theorem dJ5_appendNull_278bc_56 : decode cJ5_appendNull_278bc 56 = .ok (.bipush 108, 2) := by decide +kernel
theorem dJ5_appendNull_278bc_58 : decode cJ5_appendNull_278bc 58 = .ok (.bastore, 1) := by decide +kernel
theorem dJ5_appendNull_278bc_59 : decode cJ5_appendNull_278bc 59 = .ok (.goto 17, 3) := by decide +kernel
theorem dJ5_appendNull_278bc_62 : decode cJ5_appendNull_278bc 62 = .ok (.aload_n 2, 1) := by decide +kernel
theorem dJ5_appendNull_278bc_63 : decode cJ5_appendNull_278bc 63 = .ok (.iload_n 1, 1) := by decide +kernel
theorem dJ5_appendNull_278bc_64 : decode cJ5_appendNull_278bc 64 = .ok (.bipush 110, 2) := by decide +kernel
theorem dJ5_appendNull_278bc_66 : decode cJ5_appendNull_278bc 66 = .ok (.bipush 117, 2) := by decide +kernel
theorem dJ5_appendNull_278bc_68 : decode cJ5_appendNull_278bc 68 = .ok (.bipush 108, 2) := by decide +kernel
theorem dJ5_appendNull_278bc_70 : decode cJ5_appendNull_278bc 70 = .ok (.bipush 108, 2) := by decide +kernel
theorem dJ5_appendNull_278bc_72 : decode cJ5_appendNull_278bc 72 = .ok (.invokestatic 226, 3) := by decide +kernel
theorem dJ5_appendNull_278bc_75 : decode cJ5_appendNull_278bc 75 = .ok (.istore_n 1, 1) := by decide +kernel
theorem dJ5_appendNull_278bc_76 : decode cJ5_appendNull_278bc 76 = .ok (.aload_n 0, 1) := by decide +kernel
theorem dJ5_appendNull_278bc_77 : decode cJ5_appendNull_278bc 77 = .ok (.iload_n 1, 1) := by decide +kernel
theorem dJ5_appendNull_278bc_78 : decode cJ5_appendNull_278bc 78 = .ok (.putfield 79, 3) := by decide +kernel
theorem dJ5_appendNull_278bc_81 : decode cJ5_appendNull_278bc 81 = .ok (.aload_n 0, 1) := by decide +kernel
theorem dJ5_appendNull_278bc_82 : decode cJ5_appendNull_278bc 82 = .ok (.areturn, 1) := by decide +kernel
theorem dJ5_append_3fe6f_0 : decode cJ5_append_3fe6f 0 = .ok (.aload_n 0, 1) := by decide +kernel
theorem dJ5_append_3fe6f_1 : decode cJ5_append_3fe6f 1 = .ok (.aload_n 0, 1) := by decide +kernel
theorem dJ5_append_3fe6f_2 : decode cJ5_append_3fe6f 2 = .ok (.getfield 79, 3) := by decide +kernel
theorem dJ5_append_3fe6f_5 : decode cJ5_append_3fe6f 5 = .ok (.iconst 1, 1) := by decide +kernel
theorem dJ5_append_3fe6f_6 : decode cJ5_append_3fe6f 6 = .ok (.iadd, 1) := by decide +kernel
theorem dJ5_append_3fe6f_7 : decode cJ5_append_3fe6f 7 = .ok (.invokevirtual 100, 3) := by decide +kernel
theorem dJ5_append_3fe6f_10 : decode cJ5_append_3fe6f 10 = .ok (.aload_n 0, 1) := by decide +kernel
theorem dJ5_append_3fe6f_11 : decode cJ5_append_3fe6f 11 = .ok (.invokevirtual 83, 3) := by decide +kernel
theorem dJ5_append_3fe6f_14 : decode cJ5_append_3fe6f 14 = .ok (.ifCond .eq 31, 3) := by decide +kernel
theorem dJ5_append_3fe6f_17 : decode cJ5_append_3fe6f 17 = .ok (.iload_n 1, 1) := by decide +kernel
theorem dJ5_append_3fe6f_18 : decode cJ5_append_3fe6f 18 = .ok (.invokestatic 191, 3) := by decide +kernel
theorem dJ5_append_3fe6f_21 : decode cJ5_append_3fe6f 21 = .ok (.ifCond .eq 24, 3) := by decide +kernel
theorem dJ5_append_3fe6f_24 : decode cJ5_append_3fe6f 24 = .ok (.aload_n 0, 1) := by decide +kernel
theorem dJ5_append_3fe6f_25 : decode cJ5_append_3fe6f 25 = .ok (.getfield 15, 3) := by decide +kernel
theorem dJ5_append_3fe6f_28 : decode cJ5_append_3fe6f 28 = .ok (.aload_n 0, 1) := by decide +kernel
theorem dJ5_append_3fe6f_29 : decode cJ5_append_3fe6f 29 = .ok (.dup, 1) := by decide +kernel
theorem dJ5_append_3fe6f_30 : decode cJ5_append_3fe6f 30 = .ok (.getfield 79, 3) := by decide +kernel
theorem dJ5_append_3fe6f_33 : decode cJ5_append_3fe6f 33 = .ok (.dup_x1, 1) := by decide +kernel
theorem dJ5_append_3fe6f_34 : decode cJ5_append_3fe6f 34 = .ok (.iconst 1, 1) := by decide +kernel
theorem dJ5_append_3fe6f_35 : decode cJ5_append_3fe6f 35 = .ok (.iadd, 1) := by decide +kernel
theorem dJ5_append_3fe6f_36 : decode cJ5_append_3fe6f 36 = .ok (.putfield 79, 3) := by decide +kernel
theorem dJ5_append_3fe6f_39 : decode cJ5_append_3fe6f 39 = .ok (.iload_n 1, 1) := by decide +kernel
theorem dJ5_append_3fe6f_40 : decode cJ5_append_3fe6f 40 = .ok (.i2b, 1) := by decide +kernel
theorem dJ5_append_3fe6f_41 : decode cJ5_append_3fe6f 41 = .ok (.bastore, 1) := by decide +kernel
theorem dJ5_append_3fe6f_42 : decode cJ5_append_3fe6f 42 = .ok (.goto 33, 3) := by decide +kernel
theorem dJ5_append_3fe6f_45 : decode cJ5_append_3fe6f 45 = .ok (.aload_n 0, 1) := by decide +kernel
theorem dJ5_append_3fe6f_46 : decode cJ5_append_3fe6f 46 = .ok (.invokevirtual 83, 3) := by decide +kernel
theorem dJ5_append_3fe6f_49 : decode cJ5_append_3fe6f 49 = .ok (.ifCond .eq 7, 3) := by decide +kernel
theorem dJ5_append_3fe6f_52 : decode cJ5_append_3fe6f 52 = .ok (.aload_n 0, 1) := by decide +kernel
theorem dJ5_append_3fe6f_53 : decode cJ5_append_3fe6f 53 = .ok (.invokevirtual 195, 3) := by decide +kernel
theorem dJ5_append_3fe6f_56 : decode cJ5_append_3fe6f 56 = .ok (.aload_n 0, 1) := by decide +kernel
theorem dJ5_append_3fe6f_57 : decode cJ5_append_3fe6f 57 = .ok (.getfield 15, 3) := by decide +kernel
theorem dJ5_append_3fe6f_60 : decode cJ5_append_3fe6f 60 = .ok (.aload_n 0, 1) := by decide +kernel
theorem dJ5_append_3fe6f_61 : decode cJ5_append_3fe6f 61 = .ok (.dup, 1) := by decide +kernel
theorem dJ5_append_3fe6f_62 : decode cJ5_append_3fe6f 62 = .ok (.getfield 79, 3) := by decide +kernel
theorem dJ5_append_3fe6f_65 : decode cJ5_append_3fe6f 65 = .ok (.dup_x1, 1) := by decide +kernel
theorem dJ5_append_3fe6f_66 : decode cJ5_append_3fe6f 66 = .ok (.iconst 1, 1) := by decide +kernel
theorem dJ5_append_3fe6f_67 : decode cJ5_append_3fe6f 67 = .ok (.iadd, 1) := by decide +kernel
theorem dJ5_append_3fe6f_68 : decode cJ5_append_3fe6f 68 = .ok (.putfield 79, 3) := by decide +kernel
theorem dJ5_append_3fe6f_71 : decode cJ5_append_3fe6f 71 = .ok (.iload_n 1, 1) := by decide +kernel
theorem dJ5_append_3fe6f_72 : decode cJ5_append_3fe6f 72 = .ok (.invokestatic 197, 3) := by decide +kernel
theorem dJ5_append_3fe6f_75 : decode cJ5_append_3fe6f 75 = .ok (.aload_n 0, 1) := by decide +kernel
theorem dJ5_append_3fe6f_76 : decode cJ5_append_3fe6f 76 = .ok (.areturn, 1) := by decide +kernel
theorem dJ5_append_c97b9_0 : decode cJ5_append_c97b9 0 = .ok (.aload_n 0, 1) := by decide +kernel
theorem dJ5_append_c97b9_1 : decode cJ5_append_c97b9 1 = .ok (.getfield 79, 3) := by decide +kernel
theorem dJ5_append_c97b9_4 : decode cJ5_append_c97b9 4 = .ok (.istore_n 2, 1) := by decide +kernel
theorem dJ5_append_c97b9_5 : decode cJ5_append_c97b9 5 = .ok (.iload_n 2, 1) := by decide +kernel
theorem dJ5_append_c97b9_6 : decode cJ5_append_c97b9 6 = .ok (.iload_n 1, 1) := by decide +kernel
theorem dJ5_append_c97b9_7 : decode cJ5_append_c97b9 7 = .ok (.invokestatic 245, 3) := by decide +kernel
theorem dJ5_append_c97b9_10 : decode cJ5_append_c97b9 10 = .ok (.iadd, 1) := by decide +kernel
theorem dJ5_append_c97b9_11 : decode cJ5_append_c97b9 11 = .ok (.istore_n 3, 1) := by decide +kernel
theorem dJ5_append_c97b9_12 : decode cJ5_append_c97b9 12 = .ok (.aload_n 0, 1) := by decide +kernel
theorem dJ5_append_c97b9_13 : decode cJ5_append_c97b9 13 = .ok (.iload_n 3, 1) := by decide +kernel
theorem dJ5_append_c97b9_14 : decode cJ5_append_c97b9 14 = .ok (.invokevirtual 100, 3) := by decide +kernel
theorem dJ5_append_c97b9_17 : decode cJ5_append_c97b9 17 = .ok (.aload_n 0, 1) := by decide +kernel
theorem dJ5_append_c97b9_18 : decode cJ5_append_c97b9 18 = .ok (.invokevirtual 83, 3) := by decide +kernel
theorem dJ5_append_c97b9_21 : decode cJ5_append_c97b9 21 = .ok (.ifCond .eq 16, 3) := by decide +kernel
theorem dJ5_append_c97b9_24 : decode cJ5_append_c97b9 24 = .ok (.iload_n 1, 1) := by decide +kernel
theorem dJ5_append_c97b9_25 : decode cJ5_append_c97b9 25 = .ok (.iload_n 3, 1) := by decide +kernel
theorem dJ5_append_c97b9_26 : decode cJ5_append_c97b9 26 = .ok (.aload_n 0, 1) := by decide +kernel
theorem dJ5_append_c97b9_27 : decode cJ5_append_c97b9 27 = .ok (.getfield 15, 3) := by decide +kernel
theorem dJ5_append_c97b9_30 : decode cJ5_append_c97b9 30 = .ok (.invokestatic 248, 3) := by decide +kernel
theorem dJ5_append_c97b9_33 : decode cJ5_append_c97b9 33 = .ok (.pop, 1) := by decide +kernel
theorem dJ5_append_c97b9_34 : decode cJ5_append_c97b9 34 = .ok (.goto 14, 3) := by decide +kernel
theorem dJ5_append_c97b9_37 : decode cJ5_append_c97b9 37 = .ok (.iload_n 1, 1) := by decide +kernel
theorem dJ5_append_c97b9_38 : decode cJ5_append_c97b9 38 = .ok (.iload_n 2, 1) := by decide +kernel
theorem dJ5_append_c97b9_39 : decode cJ5_append_c97b9 39 = .ok (.iload_n 3, 1) := by decide +kernel
theorem dJ5_append_c97b9_40 : decode cJ5_append_c97b9 40 = .ok (.aload_n 0, 1) := by decide +kernel
theorem dJ5_append_c97b9_41 : decode cJ5_append_c97b9 41 = .ok (.getfield 15, 3) := by decide +kernel
theorem dJ5_append_c97b9_44 : decode cJ5_append_c97b9 44 = .ok (.invokestatic 251, 3) := by decide +kernel
theorem dJ5_append_c97b9_47 : decode cJ5_append_c97b9 47 = .ok (.pop, 1) := by decide +kernel
theorem dJ5_append_c97b9_48 : decode cJ5_append_c97b9 48 = .ok (.aload_n 0, 1) := by decide +kernel
theorem dJ5_append_c97b9_49 : decode cJ5_append_c97b9 49 = .ok (.iload_n 3, 1) := by decide +kernel
theorem dJ5_append_c97b9_50 : decode cJ5_append_c97b9 50 = .ok (.putfield 79, 3) := by decide +kernel
theorem dJ5_append_c97b9_53 : decode cJ5_append_c97b9 53 = .ok (.aload_n 0, 1) := by decide +kernel
theorem dJ5_append_c97b9_54 : decode cJ5_append_c97b9 54 = .ok (.areturn, 1) := by decide +kernel
theorem dJ5_getValue_6d5f1_0 : decode cJ5_getValue_6d5f1 0 = .ok (.aload_n 0, 1) := by decide +kernel
theorem dJ5_getValue_6d5f1_1 : decode cJ5_getValue_6d5f1 1 = .ok (.getfield 15, 3) := by decide +kernel
theorem dJ5_getValue_6d5f1_4 : decode cJ5_getValue_6d5f1 4 = .ok (.areturn, 1) := by decide +kernel
theorem dJ5_isLatin1_aae02_0 : decode cJ5_isLatin1_aae02 0 = .ok (.getstatic 18, 3) := by decide +kernel
theorem dJ5_isLatin1_aae02_3 : decode cJ5_isLatin1_aae02 3 = .ok (.ifCond .eq 14, 3) := by decide +kernel
theorem dJ5_isLatin1_aae02_6 : decode cJ5_isLatin1_aae02 6 = .ok (.aload_n 0, 1) := by decide +kernel
theorem dJ5_isLatin1_aae02_7 : decode cJ5_isLatin1_aae02 7 = .ok (.getfield 22, 3) := by decide +kernel
theorem dJ5_isLatin1_aae02_10 : decode cJ5_isLatin1_aae02 10 = .ok (.ifCond .ne 7, 3) := by decide +kernel
theorem dJ5_isLatin1_aae02_13 : decode cJ5_isLatin1_aae02 13 = .ok (.iconst 1, 1) := by decide +kernel
theorem dJ5_isLatin1_aae02_14 : decode cJ5_isLatin1_aae02 14 = .ok (.goto 4, 3) := by decide +kernel
theorem dJ5_isLatin1_aae02_17 : decode cJ5_isLatin1_aae02 17 = .ok (.iconst 0, 1) := by decide +kernel
theorem dJ5_isLatin1_aae02_18 : decode cJ5_isLatin1_aae02 18 = .ok (.ireturn, 1) := by decide +kernel
theorem dJ5_inflateIfNeededFor_a7421_0 : decode cJ5_inflateIfNeededFor_a7421 0 = .ok (.getstatic 18, 3) := by decide +kernel
theorem dJ5_inflateIfNeededFor_a7421_3 : decode cJ5_inflateIfNeededFor_a7421 3 = .ok (.ifCond .eq 18, 3) := by decide +kernel
theorem dJ5_inflateIfNeededFor_a7421_6 : decode cJ5_inflateIfNeededFor_a7421 6 = .ok (.aload_n 0, 1) := by decide +kernel
theorem dJ5_inflateIfNeededFor_a7421_7 : decode cJ5_inflateIfNeededFor_a7421 7 = .ok (.getfield 22, 3) := by decide +kernel
theorem dJ5_inflateIfNeededFor_a7421_10 : decode cJ5_inflateIfNeededFor_a7421 10 = .ok (.aload_n 1, 1) := by decide +kernel
theorem dJ5_inflateIfNeededFor_a7421_11 : decode cJ5_inflateIfNeededFor_a7421 11 = .ok (.invokevirtual 40, 3) := by decide +kernel
theorem dJ5_inflateIfNeededFor_a7421_14 : decode cJ5_inflateIfNeededFor_a7421 14 = .ok (.if_icmp .eq 7, 3) := by decide +kernel
theorem dJ5_inflateIfNeededFor_a7421_17 : decode cJ5_inflateIfNeededFor_a7421 17 = .ok (.aload_n 0, 1) := by decide +kernel
theorem dJ5_inflateIfNeededFor_a7421_18 : decode cJ5_inflateIfNeededFor_a7421 18 = .ok (.invokevirtual 195, 3) := by decide +kernel
theorem dJ5_inflateIfNeededFor_a7421_21 : decode cJ5_inflateIfNeededFor_a7421 21 = .ok (.return_, 1) := by decide +kernel
theorem dJ5_putStringAt_47b60_0 : decode cJ5_putStringAt_47b60 0 = .ok (.aload_n 0, 1) := by decide +kernel
theorem dJ5_putStringAt_47b60_1 : decode cJ5_putStringAt_47b60 1 = .ok (.aload_n 2, 1) := by decide +kernel
theorem dJ5_putStringAt_47b60_2 : decode cJ5_putStringAt_47b60 2 = .ok (.invokevirtual 397, 3) := by decide +kernel
theorem dJ5_putStringAt_47b60_5 : decode cJ5_putStringAt_47b60 5 = .ok (.aload_n 2, 1) := by decide +kernel
theorem dJ5_putStringAt_47b60_6 : decode cJ5_putStringAt_47b60 6 = .ok (.aload_n 0, 1) := by decide +kernel
theorem dJ5_putStringAt_47b60_7 : decode cJ5_putStringAt_47b60 7 = .ok (.getfield 15, 3) := by decide +kernel
theorem dJ5_putStringAt_47b60_10 : decode cJ5_putStringAt_47b60 10 = .ok (.iload_n 1, 1) := by decide +kernel
theorem dJ5_putStringAt_47b60_11 : decode cJ5_putStringAt_47b60 11 = .ok (.aload_n 0, 1) := by decide +kernel
theorem dJ5_putStringAt_47b60_12 : decode cJ5_putStringAt_47b60 12 = .ok (.getfield 22, 3) := by decide +kernel
theorem dJ5_putStringAt_47b60_15 : decode cJ5_putStringAt_47b60 15 = .ok (.invokevirtual 399, 3) := by decide +kernel
theorem dJ5_putStringAt_47b60_18 : decode cJ5_putStringAt_47b60 18 = .ok (.return_, 1) := by decide +kernel
theorem dJx00060_init_a7421_0 : decode cJx00060_init_a7421 0 = .ok (.aload_n 0, 1) := by decide +kernel
theorem dJx00060_init_a7421_1 : decode cJx00060_init_a7421 1 = .ok (.aload_n 1, 1) := by decide +kernel
theorem dJx00060_init_a7421_2 : decode cJx00060_init_a7421 2 = .ok (.invokespecial 7, 3) := by decide +kernel
theorem dJx00060_init_a7421_5 : decode cJx00060_init_a7421 5 = .ok (.return_, 1) := by decide +kernel
theorem dJx00060_init_d00df_0 : decode cJx00060_init_d00df 0 = .ok (.aload_n 0, 1) := by decide +kernel
theorem dJx00060_init_d00df_1 : decode cJx00060_init_d00df 1 = .ok (.new 10, 3) := by decide +kernel
theorem dJx00060_init_d00df_4 : decode cJx00060_init_d00df 4 = .ok (.dup, 1) := by decide +kernel
theorem dJx00060_init_d00df_5 : decode cJx00060_init_d00df 5 = .ok (.invokespecial 12, 3) := by decide +kernel
theorem dJx00060_init_d00df_8 : decode cJx00060_init_d00df 8 = .ok (.ldc 13, 2) := by decide +kernel
theorem dJx00060_init_d00df_10 : decode cJx00060_init_d00df 10 = .ok (.invokevirtual 15, 3) := by decide +kernel
theorem dJx00060_init_d00df_13 : decode cJx00060_init_d00df 13 = .ok (.iload_n 1, 1) := by decide +kernel
theorem dJx00060_init_d00df_14 : decode cJx00060_init_d00df 14 = .ok (.invokevirtual 19, 3) := by decide +kernel
theorem dJx00060_init_d00df_17 : decode cJx00060_init_d00df 17 = .ok (.invokevirtual 22, 3) := by decide +kernel
theorem dJx00060_init_d00df_20 : decode cJx00060_init_d00df 20 = .ok (.invokespecial 7, 3) := by decide +kernel
theorem dJx00060_init_d00df_23 : decode cJx00060_init_d00df 23 = .ok (.return_, 1) := by decide +kernel
theorem dJxe99ae_isNaN_b9ae7_0 : decode cJxe99ae_isNaN_b9ae7 0 = .ok (.dload_n 0, 1) := by decide +kernel
theorem dJxe99ae_isNaN_b9ae7_1 : decode cJxe99ae_isNaN_b9ae7 1 = .ok (.dload_n 0, 1) := by decide +kernel
theorem dJxe99ae_isNaN_b9ae7_2 : decode cJxe99ae_isNaN_b9ae7 2 = .ok (.dcmp .l, 1) := by decide +kernel
theorem dJxe99ae_isNaN_b9ae7_3 : decode cJxe99ae_isNaN_b9ae7 3 = .ok (.ifCond .eq 7, 3) := by decide +kernel
theorem dJxe99ae_isNaN_b9ae7_6 : decode cJxe99ae_isNaN_b9ae7 6 = .ok (.iconst 1, 1) := by decide +kernel
theorem dJxe99ae_isNaN_b9ae7_7 : decode cJxe99ae_isNaN_b9ae7 7 = .ok (.goto 4, 3) := by decide +kernel
theorem dJxe99ae_isNaN_b9ae7_10 : decode cJxe99ae_isNaN_b9ae7 10 = .ok (.iconst 0, 1) := by decide +kernel
theorem dJxe99ae_isNaN_b9ae7_11 : decode cJxe99ae_isNaN_b9ae7 11 = .ok (.ireturn, 1) := by decide +kernel
theorem dJxe99ae_doubleToLongBits_ccdee_0 : decode cJxe99ae_doubleToLongBits_ccdee 0 = .ok (.dload_n 0, 1) := by decide +kernel
theorem dJxe99ae_doubleToLongBits_ccdee_1 : decode cJxe99ae_doubleToLongBits_ccdee 1 = .ok (.invokestatic 122, 3) := by decide +kernel
theorem dJxe99ae_doubleToLongBits_ccdee_4 : decode cJxe99ae_doubleToLongBits_ccdee 4 = .ok (.ifCond .ne 8, 3) := by decide +kernel
theorem dJxe99ae_doubleToLongBits_ccdee_7 : decode cJxe99ae_doubleToLongBits_ccdee 7 = .ok (.dload_n 0, 1) := by decide +kernel
theorem dJxe99ae_doubleToLongBits_ccdee_8 : decode cJxe99ae_doubleToLongBits_ccdee 8 = .ok (.invokestatic 134, 3) := by decide +kernel
theorem dJxe99ae_doubleToLongBits_ccdee_11 : decode cJxe99ae_doubleToLongBits_ccdee 11 = .ok (.lreturn, 1) := by decide +kernel
theorem dJxe99ae_doubleToLongBits_ccdee_12 : decode cJxe99ae_doubleToLongBits_ccdee 12 = .ok (.ldc2_w 137, 3) := by decide +kernel
theorem dJxe99ae_doubleToLongBits_ccdee_15 : decode cJxe99ae_doubleToLongBits_ccdee 15 = .ok (.lreturn, 1) := by decide +kernel
theorem dJxf58ca_isNaN_12338_0 : decode cJxf58ca_isNaN_12338 0 = .ok (.fload_n 0, 1) := by decide +kernel
theorem dJxf58ca_isNaN_12338_1 : decode cJxf58ca_isNaN_12338 1 = .ok (.fload_n 0, 1) := by decide +kernel
theorem dJxf58ca_isNaN_12338_2 : decode cJxf58ca_isNaN_12338 2 = .ok (.fcmp .l, 1) := by decide +kernel
theorem dJxf58ca_isNaN_12338_3 : decode cJxf58ca_isNaN_12338 3 = .ok (.ifCond .eq 7, 3) := by decide +kernel
theorem dJxf58ca_isNaN_12338_6 : decode cJxf58ca_isNaN_12338 6 = .ok (.iconst 1, 1) := by decide +kernel
theorem dJxf58ca_isNaN_12338_7 : decode cJxf58ca_isNaN_12338 7 = .ok (.goto 4, 3) := by decide +kernel
theorem dJxf58ca_isNaN_12338_10 : decode cJxf58ca_isNaN_12338 10 = .ok (.iconst 0, 1) := by decide +kernel
theorem dJxf58ca_isNaN_12338_11 : decode cJxf58ca_isNaN_12338 11 = .ok (.ireturn, 1) := by decide +kernel
theorem dJxf58ca_floatToIntBits_5c35a_0 : decode cJxf58ca_floatToIntBits_5c35a 0 = .ok (.fload_n 0, 1) := by decide +kernel
theorem dJxf58ca_floatToIntBits_5c35a_1 : decode cJxf58ca_floatToIntBits_5c35a 1 = .ok (.invokestatic 59, 3) := by decide +kernel
theorem dJxf58ca_floatToIntBits_5c35a_4 : decode cJxf58ca_floatToIntBits_5c35a 4 = .ok (.ifCond .ne 8, 3) := by decide +kernel
theorem dJxf58ca_floatToIntBits_5c35a_7 : decode cJxf58ca_floatToIntBits_5c35a 7 = .ok (.fload_n 0, 1) := by decide +kernel
theorem dJxf58ca_floatToIntBits_5c35a_8 : decode cJxf58ca_floatToIntBits_5c35a 8 = .ok (.invokestatic 74, 3) := by decide +kernel
theorem dJxf58ca_floatToIntBits_5c35a_11 : decode cJxf58ca_floatToIntBits_5c35a 11 = .ok (.ireturn, 1) := by decide +kernel
theorem dJxf58ca_floatToIntBits_5c35a_12 : decode cJxf58ca_floatToIntBits_5c35a 12 = .ok (.ldc 77, 2) := by decide +kernel
theorem dJxf58ca_floatToIntBits_5c35a_14 : decode cJxf58ca_floatToIntBits_5c35a 14 = .ok (.ireturn, 1) := by decide +kernel
theorem dJ6_getChars_ba4f3_0 : decode cJ6_getChars_ba4f3 0 = .ok (.iload_n 1, 1) := by decide +kernel
theorem dJ6_getChars_ba4f3_1 : decode cJ6_getChars_ba4f3 1 = .ok (.istore 5, 2) := by decide +kernel
theorem dJ6_getChars_ba4f3_3 : decode cJ6_getChars_ba4f3 3 = .ok (.iload_n 0, 1) := by decide +kernel
theorem dJ6_getChars_ba4f3_4 : decode cJ6_getChars_ba4f3 4 = .ok (.ifCond .ge 7, 3) := by decide +kernel
theorem dJ6_getChars_ba4f3_7 : decode cJ6_getChars_ba4f3 7 = .ok (.iconst 1, 1) := by decide +kernel
theorem dJ6_getChars_ba4f3_8 : decode cJ6_getChars_ba4f3 8 = .ok (.goto 4, 3) := by decide +kernel
theorem dJ6_getChars_ba4f3_11 : decode cJ6_getChars_ba4f3 11 = .ok (.iconst 0, 1) := by decide +kernel
theorem dJ6_getChars_ba4f3_12 : decode cJ6_getChars_ba4f3 12 = .ok (.istore 6, 2) := by decide +kernel
theorem dJ6_getChars_ba4f3_14 : decode cJ6_getChars_ba4f3 14 = .ok (.iload 6, 2) := by decide +kernel
theorem dJ6_getChars_ba4f3_16 : decode cJ6_getChars_ba4f3 16 = .ok (.ifCond .ne 6, 3) := by decide +kernel
theorem dJ6_getChars_ba4f3_19 : decode cJ6_getChars_ba4f3 19 = .ok (.iload_n 0, 1) := by decide +kernel
theorem dJ6_getChars_ba4f3_20 : decode cJ6_getChars_ba4f3 20 = .ok (.ineg, 1) := by decide +kernel
theorem dJ6_getChars_ba4f3_21 : decode cJ6_getChars_ba4f3 21 = .ok (.istore_n 0, 1) := by decide +kernel
theorem dJ6_getChars_ba4f3_22 : decode cJ6_getChars_ba4f3 22 = .ok (.iload_n 0, 1) := by decide +kernel
theorem dJ6_getChars_ba4f3_23 : decode cJ6_getChars_ba4f3 23 = .ok (.bipush (-100), 2) := by decide +kernel
theorem dJ6_getChars_ba4f3_25 : decode cJ6_getChars_ba4f3 25 = .ok (.if_icmp .gt 47, 3) := by decide +kernel
theorem dJ6_getChars_ba4f3_28 : decode cJ6_getChars_ba4f3 28 = .ok (.iload_n 0, 1) := by decide +kernel
theorem dJ6_getChars_ba4f3_29 : decode cJ6_getChars_ba4f3 29 = .ok (.bipush 100, 2) := by decide +kernel
theorem dJ6_getChars_ba4f3_31 : decode cJ6_getChars_ba4f3 31 = .ok (.idiv, 1) := by decide +kernel
theorem dJ6_getChars_ba4f3_32 : decode cJ6_getChars_ba4f3 32 = .ok (.istore_n 3, 1) := by decide +kernel
theorem dJ6_getChars_ba4f3_33 : decode cJ6_getChars_ba4f3 33 = .ok (.iload_n 3, 1) := by decide +kernel
theorem dJ6_getChars_ba4f3_34 : decode cJ6_getChars_ba4f3 34 = .ok (.bipush 100, 2) := by decide +kernel
theorem dJ6_getChars_ba4f3_36 : decode cJ6_getChars_ba4f3 36 = .ok (.imul, 1) := by decide +kernel
theorem dJ6_getChars_ba4f3_37 : decode cJ6_getChars_ba4f3 37 = .ok (.iload_n 0, 1) := by decide +kernel
theorem dJ6_getChars_ba4f3_38 : decode cJ6_getChars_ba4f3 38 = .ok (.isub, 1) := by decide +kernel
theorem dJ6_getChars_ba4f3_39 : decode cJ6_getChars_ba4f3 39 = .ok (.istore 4, 2) := by decide +kernel
theorem dJ6_getChars_ba4f3_41 : decode cJ6_getChars_ba4f3 41 = .ok (.iload_n 3, 1) := by decide +kernel
theorem dJ6_getChars_ba4f3_42 : decode cJ6_getChars_ba4f3 42 = .ok (.istore_n 0, 1) := by decide +kernel
theorem dJ6_getChars_ba4f3_43 : decode cJ6_getChars_ba4f3 43 = .ok (.aload_n 2, 1) := by decide +kernel
theorem dJ6_getChars_ba4f3_44 : decode cJ6_getChars_ba4f3 44 = .ok (.iinc 5 (-1), 3) := by decide +kernel
theorem dJ6_getChars_ba4f3_47 : decode cJ6_getChars_ba4f3 47 = .ok (.iload 5, 2) := by decide +kernel
theorem dJ6_getChars_ba4f3_49 : decode cJ6_getChars_ba4f3 49 = .ok (.getstatic 83, 3) := by decide +kernel
theorem dJ6_getChars_ba4f3_52 : decode cJ6_getChars_ba4f3 52 = .ok (.iload 4, 2) := by decide +kernel
theorem dJ6_getChars_ba4f3_54 : decode cJ6_getChars_ba4f3 54 = .ok (.baload, 1) := by decide +kernel
theorem dJ6_getChars_ba4f3_55 : decode cJ6_getChars_ba4f3 55 = .ok (.bastore, 1) := by decide +kernel
theorem dJ6_getChars_ba4f3_56 : decode cJ6_getChars_ba4f3 56 = .ok (.aload_n 2, 1) := by decide +kernel
theorem dJ6_getChars_ba4f3_57 : decode cJ6_getChars_ba4f3 57 = .ok (.iinc 5 (-1), 3) := by decide +kernel
theorem dJ6_getChars_ba4f3_60 : decode cJ6_getChars_ba4f3 60 = .ok (.iload 5, 2) := by decide +kernel
theorem dJ6_getChars_ba4f3_62 : decode cJ6_getChars_ba4f3 62 = .ok (.getstatic 87, 3) := by decide +kernel
theorem dJ6_getChars_ba4f3_65 : decode cJ6_getChars_ba4f3 65 = .ok (.iload 4, 2) := by decide +kernel
theorem dJ6_getChars_ba4f3_67 : decode cJ6_getChars_ba4f3 67 = .ok (.baload, 1) := by decide +kernel
theorem dJ6_getChars_ba4f3_68 : decode cJ6_getChars_ba4f3 68 = .ok (.bastore, 1) := by decide +kernel
theorem dJ6_getChars_ba4f3_69 : decode cJ6_getChars_ba4f3 69 = .ok (.goto (-47), 3) := by decide +kernel
theorem dJ6_getChars_ba4f3_72 : decode cJ6_getChars_ba4f3 72 = .ok (.aload_n 2, 1) := by decide +kernel
theorem dJ6_getChars_ba4f3_73 : decode cJ6_getChars_ba4f3 73 = .ok (.iinc 5 (-1), 3) := by decide +kernel
theorem dJ6_getChars_ba4f3_76 : decode cJ6_getChars_ba4f3 76 = .ok (.iload 5, 2) := by decide +kernel
theorem dJ6_getChars_ba4f3_78 : decode cJ6_getChars_ba4f3 78 = .ok (.getstatic 83, 3) := by decide +kernel
theorem dJ6_getChars_ba4f3_81 : decode cJ6_getChars_ba4f3 81 = .ok (.iload_n 0, 1) := by decide +kernel
theorem dJ6_getChars_ba4f3_82 : decode cJ6_getChars_ba4f3 82 = .ok (.ineg, 1) := by decide +kernel
theorem dJ6_getChars_ba4f3_83 : decode cJ6_getChars_ba4f3 83 = .ok (.baload, 1) := by decide +kernel
theorem dJ6_getChars_ba4f3_84 : decode cJ6_getChars_ba4f3 84 = .ok (.bastore, 1) := by decide +kernel
theorem dJ6_getChars_ba4f3_85 : decode cJ6_getChars_ba4f3 85 = .ok (.iload_n 0, 1) := by decide +kernel
theorem dJ6_getChars_ba4f3_86 : decode cJ6_getChars_ba4f3 86 = .ok (.bipush (-9), 2) := by decide +kernel
theorem dJ6_getChars_ba4f3_88 : decode cJ6_getChars_ba4f3 88 = .ok (.if_icmp .ge 16, 3) := by decide +kernel
theorem dJ6_getChars_ba4f3_91 : decode cJ6_getChars_ba4f3 91 = .ok (.aload_n 2, 1) := by decide +kernel
theorem dJ6_getChars_ba4f3_92 : decode cJ6_getChars_ba4f3 92 = .ok (.iinc 5 (-1), 3) := by decide +kernel
theorem dJ6_getChars_ba4f3_95 : decode cJ6_getChars_ba4f3 95 = .ok (.iload 5, 2) := by decide +kernel
theorem dJ6_getChars_ba4f3_97 : decode cJ6_getChars_ba4f3 97 = .ok (.getstatic 87, 3) := by decide +kernel
theorem dJ6_getChars_ba4f3_100 : decode cJ6_getChars_ba4f3 100 = .ok (.iload_n 0, 1) := by decide +kernel
theorem dJ6_getChars_ba4f3_101 : decode cJ6_getChars_ba4f3 101 = .ok (.ineg, 1) := by decide +kernel
theorem dJ6_getChars_ba4f3_102 : decode cJ6_getChars_ba4f3 102 = .ok (.baload, 1) := by decide +kernel
theorem dJ6_getChars_ba4f3_103 : decode cJ6_getChars_ba4f3 103 = .ok (.bastore, 1) := by decide +kernel
theorem dJ6_getChars_ba4f3_104 : decode cJ6_getChars_ba4f3 104 = .ok (.iload 6, 2) := by decide +kernel
theorem dJ6_getChars_ba4f3_106 : decode cJ6_getChars_ba4f3 106 = .ok (.ifCond .eq 12, 3) := by decide +kernel
theorem dJ6_getChars_ba4f3_109 : decode cJ6_getChars_ba4f3 109 = .ok (.aload_n 2, 1) := by decide +kernel
theorem dJ6_getChars_ba4f3_110 : decode cJ6_getChars_ba4f3 110 = .ok (.iinc 5 (-1), 3) := by decide +kernel
theorem dJ6_getChars_ba4f3_113 : decode cJ6_getChars_ba4f3 113 = .ok (.iload 5, 2) := by decide +kernel
theorem dJ6_getChars_ba4f3_115 : decode cJ6_getChars_ba4f3 115 = .ok (.bipush 45, 2) := by decide +kernel
theorem dJ6_getChars_ba4f3_117 : decode cJ6_getChars_ba4f3 117 = .ok (.bastore, 1) := by decide +kernel
theorem dJ6_getChars_ba4f3_118 : decode cJ6_getChars_ba4f3 118 = .ok (.iload 5, 2) := by decide +kernel
theorem dJ6_getChars_ba4f3_120 : decode cJ6_getChars_ba4f3 120 = .ok (.ireturn, 1) := by decide +kernel
theorem dJ6_stringSize_0f7a4_0 : decode cJ6_stringSize_0f7a4 0 = .ok (.iconst 1, 1) := by decide +kernel
theorem dJ6_stringSize_0f7a4_1 : decode cJ6_stringSize_0f7a4 1 = .ok (.istore_n 1, 1) := by decide +kernel
theorem dJ6_stringSize_0f7a4_2 : decode cJ6_stringSize_0f7a4 2 = .ok (.iload_n 0, 1) := by decide +kernel
theorem dJ6_stringSize_0f7a4_3 : decode cJ6_stringSize_0f7a4 3 = .ok (.ifCond .lt 8, 3) := by decide +kernel
theorem dJ6_stringSize_0f7a4_6 : decode cJ6_stringSize_0f7a4 6 = .ok (.iconst 0, 1) := by decide +kernel
theorem dJ6_stringSize_0f7a4_7 : decode cJ6_stringSize_0f7a4 7 = .ok (.istore_n 1, 1) := by decide +kernel
theorem dJ6_stringSize_0f7a4_8 : decode cJ6_stringSize_0f7a4 8 = .ok (.iload_n 0, 1) := by decide +kernel
theorem dJ6_stringSize_0f7a4_9 : decode cJ6_stringSize_0f7a4 9 = .ok (.ineg, 1) := by decide +kernel
theorem dJ6_stringSize_0f7a4_10 : decode cJ6_stringSize_0f7a4 10 = .ok (.istore_n 0, 1) := by decide +kernel
theorem dJ6_stringSize_0f7a4_11 : decode cJ6_stringSize_0f7a4 11 = .ok (.bipush (-10), 2) := by decide +kernel
theorem dJ6_stringSize_0f7a4_13 : decode cJ6_stringSize_0f7a4 13 = .ok (.istore_n 2, 1) := by decide +kernel
theorem dJ6_stringSize_0f7a4_14 : decode cJ6_stringSize_0f7a4 14 = .ok (.iconst 1, 1) := by decide +kernel
theorem dJ6_stringSize_0f7a4_15 : decode cJ6_stringSize_0f7a4 15 = .ok (.istore_n 3, 1) := by decide +kernel
theorem dJ6_stringSize_0f7a4_16 : decode cJ6_stringSize_0f7a4 16 = .ok (.iload_n 3, 1) := by decide +kernel
theorem dJ6_stringSize_0f7a4_17 : decode cJ6_stringSize_0f7a4 17 = .ok (.bipush 10, 2) := by decide +kernel
theorem dJ6_stringSize_0f7a4_19 : decode cJ6_stringSize_0f7a4 19 = .ok (.if_icmp .ge 23, 3) := by decide +kernel
theorem dJ6_stringSize_0f7a4_22 : decode cJ6_stringSize_0f7a4 22 = .ok (.iload_n 0, 1) := by decide +kernel
theorem dJ6_stringSize_0f7a4_23 : decode cJ6_stringSize_0f7a4 23 = .ok (.iload_n 2, 1) := by decide +kernel
theorem dJ6_stringSize_0f7a4_24 : decode cJ6_stringSize_0f7a4 24 = .ok (.if_icmp .le 7, 3) := by decide +kernel
theorem dJ6_stringSize_0f7a4_27 : decode cJ6_stringSize_0f7a4 27 = .ok (.iload_n 3, 1) := by decide +kernel
theorem dJ6_stringSize_0f7a4_28 : decode cJ6_stringSize_0f7a4 28 = .ok (.iload_n 1, 1) := by decide +kernel
theorem dJ6_stringSize_0f7a4_29 : decode cJ6_stringSize_0f7a4 29 = .ok (.iadd, 1) := by decide +kernel
theorem dJ6_stringSize_0f7a4_30 : decode cJ6_stringSize_0f7a4 30 = .ok (.ireturn, 1) := by decide +kernel
theorem dJ6_stringSize_0f7a4_31 : decode cJ6_stringSize_0f7a4 31 = .ok (.bipush 10, 2) := by decide +kernel
theorem dJ6_stringSize_0f7a4_33 : decode cJ6_stringSize_0f7a4 33 = .ok (.iload_n 2, 1) := by decide +kernel
theorem dJ6_stringSize_0f7a4_34 : decode cJ6_stringSize_0f7a4 34 = .ok (.imul, 1) := by decide +kernel
theorem dJ6_stringSize_0f7a4_35 : decode cJ6_stringSize_0f7a4 35 = .ok (.istore_n 2, 1) := by decide +kernel
theorem dJ6_stringSize_0f7a4_36 : decode cJ6_stringSize_0f7a4 36 = .ok (.iinc 3 1, 3) := by decide +kernel
theorem dJ6_stringSize_0f7a4_39 : decode cJ6_stringSize_0f7a4 39 = .ok (.goto (-23), 3) := by decide +kernel
theorem dJ6_stringSize_0f7a4_42 : decode cJ6_stringSize_0f7a4 42 = .ok (.bipush 10, 2) := by decide +kernel
theorem dJ6_stringSize_0f7a4_44 : decode cJ6_stringSize_0f7a4 44 = .ok (.iload_n 1, 1) := by decide +kernel
theorem dJ6_stringSize_0f7a4_45 : decode cJ6_stringSize_0f7a4 45 = .ok (.iadd, 1) := by decide +kernel
theorem dJ6_stringSize_0f7a4_46 : decode cJ6_stringSize_0f7a4 46 = .ok (.ireturn, 1) := by decide +kernel
theorem dJ9_floorMod_7cf53_0 : decode cJ9_floorMod_7cf53 0 = .ok (.iload_n 0, 1) := by decide +kernel
theorem dJ9_floorMod_7cf53_1 : decode cJ9_floorMod_7cf53 1 = .ok (.iload_n 1, 1) := by decide +kernel
theorem dJ9_floorMod_7cf53_2 : decode cJ9_floorMod_7cf53 2 = .ok (.irem, 1) := by decide +kernel
theorem dJ9_floorMod_7cf53_3 : decode cJ9_floorMod_7cf53 3 = .ok (.istore_n 2, 1) := by decide +kernel
theorem dJ9_floorMod_7cf53_4 : decode cJ9_floorMod_7cf53 4 = .ok (.iload_n 0, 1) := by decide +kernel
theorem dJ9_floorMod_7cf53_5 : decode cJ9_floorMod_7cf53 5 = .ok (.iload_n 1, 1) := by decide +kernel
theorem dJ9_floorMod_7cf53_6 : decode cJ9_floorMod_7cf53 6 = .ok (.ixor, 1) := by decide +kernel
theorem dJ9_floorMod_7cf53_7 : decode cJ9_floorMod_7cf53 7 = .ok (.ifCond .ge 11, 3) := by decide +kernel
theorem dJ9_floorMod_7cf53_10 : decode cJ9_floorMod_7cf53 10 = .ok (.iload_n 2, 1) := by decide +kernel
theorem dJ9_floorMod_7cf53_11 : decode cJ9_floorMod_7cf53 11 = .ok (.ifCond .eq 7, 3) := by decide +kernel
theorem dJ9_floorMod_7cf53_14 : decode cJ9_floorMod_7cf53 14 = .ok (.iload_n 2, 1) := by decide +kernel
theorem dJ9_floorMod_7cf53_15 : decode cJ9_floorMod_7cf53 15 = .ok (.iload_n 1, 1) := by decide +kernel
theorem dJ9_floorMod_7cf53_16 : decode cJ9_floorMod_7cf53 16 = .ok (.iadd, 1) := by decide +kernel
theorem dJ9_floorMod_7cf53_17 : decode cJ9_floorMod_7cf53 17 = .ok (.ireturn, 1) := by decide +kernel
theorem dJ9_floorMod_7cf53_18 : decode cJ9_floorMod_7cf53 18 = .ok (.iload_n 2, 1) := by decide +kernel
theorem dJ9_floorMod_7cf53_19 : decode cJ9_floorMod_7cf53 19 = .ok (.ireturn, 1) := by decide +kernel
theorem dJ9_max_7cf53_0 : decode cJ9_max_7cf53 0 = .ok (.iload_n 0, 1) := by decide +kernel
theorem dJ9_max_7cf53_1 : decode cJ9_max_7cf53 1 = .ok (.iload_n 1, 1) := by decide +kernel
theorem dJ9_max_7cf53_2 : decode cJ9_max_7cf53 2 = .ok (.if_icmp .lt 7, 3) := by decide +kernel
theorem dJ9_max_7cf53_5 : decode cJ9_max_7cf53 5 = .ok (.iload_n 0, 1) := by decide +kernel
theorem dJ9_max_7cf53_6 : decode cJ9_max_7cf53 6 = .ok (.goto 4, 3) := by decide +kernel
theorem dJ9_max_7cf53_9 : decode cJ9_max_7cf53 9 = .ok (.iload_n 1, 1) := by decide +kernel
theorem dJ9_max_7cf53_10 : decode cJ9_max_7cf53 10 = .ok (.ireturn, 1) := by decide +kernel
theorem dJ9_min_7cf53_0 : decode cJ9_min_7cf53 0 = .ok (.iload_n 0, 1) := by decide +kernel
theorem dJ9_min_7cf53_1 : decode cJ9_min_7cf53 1 = .ok (.iload_n 1, 1) := by decide +kernel
theorem dJ9_min_7cf53_2 : decode cJ9_min_7cf53 2 = .ok (.if_icmp .gt 7, 3) := by decide +kernel
theorem dJ9_min_7cf53_5 : decode cJ9_min_7cf53 5 = .ok (.iload_n 0, 1) := by decide +kernel
theorem dJ9_min_7cf53_6 : decode cJ9_min_7cf53 6 = .ok (.goto 4, 3) := by decide +kernel
theorem dJ9_min_7cf53_9 : decode cJ9_min_7cf53 9 = .ok (.iload_n 1, 1) := by decide +kernel
theorem dJ9_min_7cf53_10 : decode cJ9_min_7cf53 10 = .ok (.ireturn, 1) := by decide +kernel
theorem dJ0_init_81219_0 : decode cJ0_init_81219 0 = .ok (.aload_n 0, 1) := by decide +kernel
theorem dJ0_init_81219_1 : decode cJ0_init_81219 1 = .ok (.aload_n 1, 1) := by decide +kernel
theorem dJ0_init_81219_2 : decode cJ0_init_81219 2 = .ok (.aconst_null, 1) := by decide +kernel
theorem dJ0_init_81219_3 : decode cJ0_init_81219 3 = .ok (.invokespecial 489, 3) := by decide +kernel
theorem dJ0_init_81219_6 : decode cJ0_init_81219 6 = .ok (.return_, 1) := by decide +kernel
theorem dJ0_length_8abf5_0 : decode cJ0_length_8abf5 0 = .ok (.aload_n 0, 1) := by decide +kernel
theorem dJ0_length_8abf5_1 : decode cJ0_length_8abf5 1 = .ok (.getfield 9, 3) := by decide +kernel
theorem dJ0_length_8abf5_4 : decode cJ0_length_8abf5 4 = .ok (.arraylength, 1) := by decide +kernel
theorem dJ0_length_8abf5_5 : decode cJ0_length_8abf5 5 = .ok (.aload_n 0, 1) := by decide +kernel
theorem dJ0_length_8abf5_6 : decode cJ0_length_8abf5 6 = .ok (.invokevirtual 335, 3) := by decide +kernel
theorem dJ0_length_8abf5_9 : decode cJ0_length_8abf5 9 = .ok (.ishr, 1) := by decide +kernel
theorem dJ0_length_8abf5_10 : decode cJ0_length_8abf5 10 = .ok (.ireturn, 1) := by decide +kernel
theorem dJ0_isEmpty_aae02_0 : decode cJ0_isEmpty_aae02 0 = .ok (.aload_n 0, 1) := by decide +kernel
theorem dJ0_isEmpty_aae02_1 : decode cJ0_isEmpty_aae02 1 = .ok (.getfield 9, 3) := by decide +kernel
theorem dJ0_isEmpty_aae02_4 : decode cJ0_isEmpty_aae02 4 = .ok (.arraylength, 1) := by decide +kernel
theorem dJ0_isEmpty_aae02_5 : decode cJ0_isEmpty_aae02 5 = .ok (.ifCond .ne 7, 3) := by decide +kernel
theorem dJ0_isEmpty_aae02_8 : decode cJ0_isEmpty_aae02 8 = .ok (.iconst 1, 1) := by decide +kernel
theorem dJ0_isEmpty_aae02_9 : decode cJ0_isEmpty_aae02 9 = .ok (.goto 4, 3) := by decide +kernel
theorem dJ0_isEmpty_aae02_12 : decode cJ0_isEmpty_aae02 12 = .ok (.iconst 0, 1) := by decide +kernel
theorem dJ0_isEmpty_aae02_13 : decode cJ0_isEmpty_aae02 13 = .ok (.ireturn, 1) := by decide +kernel
theorem dJ0_charAt_5068e_0 : decode cJ0_charAt_5068e 0 = .ok (.aload_n 0, 1) := by decide +kernel
theorem dJ0_charAt_5068e_1 : decode cJ0_charAt_5068e 1 = .ok (.invokevirtual 492, 3) := by decide +kernel
theorem dJ0_charAt_5068e_4 : decode cJ0_charAt_5068e 4 = .ok (.ifCond .eq 12, 3) := by decide +kernel
theorem dJ0_charAt_5068e_7 : decode cJ0_charAt_5068e 7 = .ok (.aload_n 0, 1) := by decide +kernel
theorem dJ0_charAt_5068e_8 : decode cJ0_charAt_5068e 8 = .ok (.getfield 9, 3) := by decide +kernel
theorem dJ0_charAt_5068e_11 : decode cJ0_charAt_5068e 11 = .ok (.iload_n 1, 1) := by decide +kernel
theorem dJ0_charAt_5068e_12 : decode cJ0_charAt_5068e 12 = .ok (.invokestatic 495, 3) := by decide +kernel
theorem dJ0_charAt_5068e_15 : decode cJ0_charAt_5068e 15 = .ok (.ireturn, 1) := by decide +kernel
theorem dJ0_charAt_5068e_16 : decode cJ0_charAt_5068e 16 = .ok (.aload_n 0, 1) := by decide +kernel
theorem dJ0_charAt_5068e_17 : decode cJ0_charAt_5068e 17 = .ok (.getfield 9, 3) := by decide +kernel
theorem dJ0_charAt_5068e_20 : decode cJ0_charAt_5068e 20 = .ok (.iload_n 1, 1) := by decide +kernel
theorem dJ0_charAt_5068e_21 : decode cJ0_charAt_5068e 21 = .ok (.invokestatic 498, 3) := by decide +kernel
theorem dJ0_charAt_5068e_24 : decode cJ0_charAt_5068e 24 = .ok (.ireturn, 1) := by decide +kernel
theorem dJ0_getBytes_840e7_0 : decode cJ0_getBytes_840e7 0 = .ok (.aload_n 0, 1) := by decide +kernel
theorem dJ0_getBytes_840e7_1 : decode cJ0_getBytes_840e7 1 = .ok (.invokevirtual 335, 3) := by decide +kernel
theorem dJ0_getBytes_840e7_4 : decode cJ0_getBytes_840e7 4 = .ok (.iload_n 3, 1) := by decide +kernel
theorem dJ0_getBytes_840e7_5 : decode cJ0_getBytes_840e7 5 = .ok (.if_icmp .ne 23, 3) := by decide +kernel
theorem dJ0_getBytes_840e7_8 : decode cJ0_getBytes_840e7 8 = .ok (.aload_n 0, 1) := by decide +kernel
theorem dJ0_getBytes_840e7_9 : decode cJ0_getBytes_840e7 9 = .ok (.getfield 9, 3) := by decide +kernel
theorem dJ0_getBytes_840e7_12 : decode cJ0_getBytes_840e7 12 = .ok (.iconst 0, 1) := by decide +kernel
theorem dJ0_getBytes_840e7_13 : decode cJ0_getBytes_840e7 13 = .ok (.aload_n 1, 1) := by decide +kernel
theorem dJ0_getBytes_840e7_14 : decode cJ0_getBytes_840e7 14 = .ok (.iload_n 2, 1) := by decide +kernel
theorem dJ0_getBytes_840e7_15 : decode cJ0_getBytes_840e7 15 = .ok (.iload_n 3, 1) := by decide +kernel
theorem dJ0_getBytes_840e7_16 : decode cJ0_getBytes_840e7 16 = .ok (.ishl, 1) := by decide +kernel
theorem dJ0_getBytes_840e7_17 : decode cJ0_getBytes_840e7 17 = .ok (.aload_n 0, 1) := by decide +kernel
theorem dJ0_getBytes_840e7_18 : decode cJ0_getBytes_840e7 18 = .ok (.getfield 9, 3) := by decide +kernel
theorem dJ0_getBytes_840e7_21 : decode cJ0_getBytes_840e7 21 = .ok (.arraylength, 1) := by decide +kernel
theorem dJ0_getBytes_840e7_22 : decode cJ0_getBytes_840e7 22 = .ok (.invokestatic 212, 3) := by decide +kernel
theorem dJ0_getBytes_840e7_25 : decode cJ0_getBytes_840e7 25 = .ok (.goto 18, 3) := by decide +kernel
theorem dJ0_getBytes_840e7_28 : decode cJ0_getBytes_840e7 28 = .ok (.aload_n 0, 1) := by decide +kernel
theorem dJ0_getBytes_840e7_29 : decode cJ0_getBytes_840e7 29 = .ok (.getfield 9, 3) := by decide +kernel
theorem dJ0_getBytes_840e7_32 : decode cJ0_getBytes_840e7 32 = .ok (.iconst 0, 1) := by decide +kernel
theorem dJ0_getBytes_840e7_33 : decode cJ0_getBytes_840e7 33 = .ok (.aload_n 1, 1) := by decide +kernel
theorem dJ0_getBytes_840e7_34 : decode cJ0_getBytes_840e7 34 = .ok (.iload_n 2, 1) := by decide +kernel
theorem dJ0_getBytes_840e7_35 : decode cJ0_getBytes_840e7 35 = .ok (.aload_n 0, 1) := by decide +kernel
theorem dJ0_getBytes_840e7_36 : decode cJ0_getBytes_840e7 36 = .ok (.getfield 9, 3) := by decide +kernel
theorem dJ0_getBytes_840e7_39 : decode cJ0_getBytes_840e7 39 = .ok (.arraylength, 1) := by decide +kernel
theorem dJ0_getBytes_840e7_40 : decode cJ0_getBytes_840e7 40 = .ok (.invokestatic 106, 3) := by decide +kernel
theorem dJ0_getBytes_840e7_43 : decode cJ0_getBytes_840e7 43 = .ok (.return_, 1) := by decide +kernel
theorem dJ0_init_db425_0 : decode cJ0_init_db425 0 = .ok (.aload_n 0, 1) := by decide +kernel
theorem dJ0_init_db425_1 : decode cJ0_init_db425 1 = .ok (.invokespecial 1, 3) := by decide +kernel
theorem dJ0_init_db425_4 : decode cJ0_init_db425 4 = .ok (.aload_n 1, 1) := by decide +kernel
theorem dJ0_init_db425_5 : decode cJ0_init_db425 5 = .ok (.invokevirtual 552, 3) := by decide +kernel
theorem dJ0_init_db425_8 : decode cJ0_init_db425 8 = .ok (.astore_n 3, 1) := by decide +kernel
theorem dJ0_init_db425_9 : decode cJ0_init_db425 9 = .ok (.aload_n 1, 1) := by decide +kernel
theorem dJ0_init_db425_10 : decode cJ0_init_db425 10 = .ok (.invokevirtual 549, 3) := by decide +kernel
theorem dJ0_init_db425_13 : decode cJ0_init_db425 13 = .ok (.istore 4, 2) := by decide +kernel
theorem dJ0_init_db425_15 : decode cJ0_init_db425 15 = .ok (.aload_n 1, 1) := by decide +kernel
theorem dJ0_init_db425_16 : decode cJ0_init_db425 16 = .ok (.invokevirtual 1047, 3) := by decide +kernel
theorem dJ0_init_db425_19 : decode cJ0_init_db425 19 = .ok (.ifCond .eq 22, 3) := by decide +kernel
theorem dJ0_init_db425_22 : decode cJ0_init_db425 22 = .ok (.aload_n 0, 1) := by decide +kernel
theorem dJ0_init_db425_23 : decode cJ0_init_db425 23 = .ok (.iconst 0, 1) := by decide +kernel
theorem dJ0_init_db425_24 : decode cJ0_init_db425 24 = .ok (.putfield 15, 3) := by decide +kernel
theorem dJ0_init_db425_27 : decode cJ0_init_db425 27 = .ok (.aload_n 0, 1) := by decide +kernel
theorem dJ0_init_db425_28 : decode cJ0_init_db425 28 = .ok (.aload_n 3, 1) := by decide +kernel
theorem dJ0_init_db425_29 : decode cJ0_init_db425 29 = .ok (.iconst 0, 1) := by decide +kernel
theorem dJ0_init_db425_30 : decode cJ0_init_db425 30 = .ok (.iload 4, 2) := by decide +kernel
theorem dJ0_init_db425_32 : decode cJ0_init_db425 32 = .ok (.invokestatic 54, 3) := by decide +kernel
theorem dJ0_init_db425_35 : decode cJ0_init_db425 35 = .ok (.putfield 9, 3) := by decide +kernel
theorem dJ0_init_db425_38 : decode cJ0_init_db425 38 = .ok (.goto 59, 3) := by decide +kernel
theorem dJ0_init_db425_41 : decode cJ0_init_db425 41 = .ok (.getstatic 38, 3) := by decide +kernel
theorem dJ0_init_db425_44 : decode cJ0_init_db425 44 = .ok (.ifCond .eq 35, 3) := by decide +kernel
theorem dJ0_init_db425_47 : decode cJ0_init_db425 47 = .ok (.aload_n 1, 1) := by decide +kernel
theorem dJ0_init_db425_48 : decode cJ0_init_db425 48 = .ok (.getfield 1048, 3) := by decide +kernel
theorem dJ0_init_db425_51 : decode cJ0_init_db425 51 = .ok (.ifCond .eq 28, 3) := by decide +kernel
theorem dJ0_init_db425_54 : decode cJ0_init_db425 54 = .ok (.aload_n 0, 1) := by decide +kernel
theorem dJ0_init_db425_55 : decode cJ0_init_db425 55 = .ok (.aload_n 3, 1) := by decide +kernel
theorem dJ0_init_db425_56 : decode cJ0_init_db425 56 = .ok (.iconst 0, 1) := by decide +kernel
theorem dJ0_init_db425_57 : decode cJ0_init_db425 57 = .ok (.iload 4, 2) := by decide +kernel
theorem dJ0_init_db425_59 : decode cJ0_init_db425 59 = .ok (.invokestatic 1051, 3) := by decide +kernel
theorem dJ0_init_db425_62 : decode cJ0_init_db425 62 = .ok (.putfield 9, 3) := by decide +kernel
theorem dJ0_init_db425_65 : decode cJ0_init_db425 65 = .ok (.aload_n 0, 1) := by decide +kernel
theorem dJ0_init_db425_66 : decode cJ0_init_db425 66 = .ok (.aload_n 0, 1) := by decide +kernel
theorem dJ0_init_db425_67 : decode cJ0_init_db425 67 = .ok (.getfield 9, 3) := by decide +kernel
theorem dJ0_init_db425_70 : decode cJ0_init_db425 70 = .ok (.iload 4, 2) := by decide +kernel
theorem dJ0_init_db425_72 : decode cJ0_init_db425 72 = .ok (.invokestatic 47, 3) := by decide +kernel
theorem dJ0_init_db425_75 : decode cJ0_init_db425 75 = .ok (.putfield 15, 3) := by decide +kernel
theorem dJ0_init_db425_78 : decode cJ0_init_db425 78 = .ok (.return_, 1) := by decide +kernel
theorem dJ0_init_db425_79 : decode cJ0_init_db425 79 = .ok (.aload_n 0, 1) := by decide +kernel
theorem dJ0_init_db425_80 : decode cJ0_init_db425 80 = .ok (.iconst 1, 1) := by decide +kernel
theorem dJ0_init_db425_81 : decode cJ0_init_db425 81 = .ok (.putfield 15, 3) := by decide +kernel
theorem dJ0_init_db425_84 : decode cJ0_init_db425 84 = .ok (.aload_n 0, 1) := by decide +kernel
theorem dJ0_init_db425_85 : decode cJ0_init_db425 85 = .ok (.aload_n 3, 1) := by decide +kernel
theorem dJ0_init_db425_86 : decode cJ0_init_db425 86 = .ok (.iconst 0, 1) := by decide +kernel
theorem dJ0_init_db425_87 : decode cJ0_init_db425 87 = .ok (.iload 4, 2) := by decide +kernel
theorem dJ0_init_db425_89 : decode cJ0_init_db425 89 = .ok (.iconst 1, 1) := by decide +kernel
theorem dJ0_init_db425_90 : decode cJ0_init_db425 90 = .ok (.ishl, 1) := by decide +kernel
theorem dJ0_init_db425_91 : decode cJ0_init_db425 91 = .ok (.invokestatic 54, 3) := by decide +kernel
theorem dJ0_init_db425_94 : decode cJ0_init_db425 94 = .ok (.putfield 9, 3) := by decide +kernel
theorem dJ0_init_db425_97 : decode cJ0_init_db425 97 = .ok (.return_, 1) := by decide +kernel
theorem dJ0_coder_7d493_0 : decode cJ0_coder_7d493 0 = .ok (.getstatic 38, 3) := by decide +kernel
theorem dJ0_coder_7d493_3 : decode cJ0_coder_7d493 3 = .ok (.ifCond .eq 10, 3) := by decide +kernel
theorem dJ0_coder_7d493_6 : decode cJ0_coder_7d493 6 = .ok (.aload_n 0, 1) := by decide +kernel
theorem dJ0_coder_7d493_7 : decode cJ0_coder_7d493 7 = .ok (.getfield 15, 3) := by decide +kernel
theorem dJ0_coder_7d493_10 : decode cJ0_coder_7d493 10 = .ok (.goto 4, 3) := by decide +kernel
theorem dJ0_coder_7d493_13 : decode cJ0_coder_7d493 13 = .ok (.iconst 1, 1) := by decide +kernel
theorem dJ0_coder_7d493_14 : decode cJ0_coder_7d493 14 = .ok (.ireturn, 1) := by decide +kernel
theorem dJ0_isLatin1_aae02_0 : decode cJ0_isLatin1_aae02 0 = .ok (.getstatic 38, 3) := by decide +kernel
theorem dJ0_isLatin1_aae02_3 : decode cJ0_isLatin1_aae02 3 = .ok (.ifCond .eq 14, 3) := by decide +kernel
theorem dJ0_isLatin1_aae02_6 : decode cJ0_isLatin1_aae02 6 = .ok (.aload_n 0, 1) := by decide +kernel
theorem dJ0_isLatin1_aae02_7 : decode cJ0_isLatin1_aae02 7 = .ok (.getfield 15, 3) := by decide +kernel
theorem dJ0_isLatin1_aae02_10 : decode cJ0_isLatin1_aae02 10 = .ok (.ifCond .ne 7, 3) := by decide +kernel
theorem dJ0_isLatin1_aae02_13 : decode cJ0_isLatin1_aae02 13 = .ok (.iconst 1, 1) := by decide +kernel
theorem dJ0_isLatin1_aae02_14 : decode cJ0_isLatin1_aae02 14 = .ok (.goto 4, 3) := by decide +kernel
theorem dJ0_isLatin1_aae02_17 : decode cJ0_isLatin1_aae02 17 = .ok (.iconst 0, 1) := by decide +kernel
theorem dJ0_isLatin1_aae02_18 : decode cJ0_isLatin1_aae02 18 = .ok (.ireturn, 1) := by decide +kernel
theorem dJ0_checkIndex_df160_0 : decode cJ0_checkIndex_df160 0 = .ok (.iload_n 0, 1) := by decide +kernel
theorem dJ0_checkIndex_df160_1 : decode cJ0_checkIndex_df160 1 = .ok (.iload_n 1, 1) := by decide +kernel
theorem dJ0_checkIndex_df160_2 : decode cJ0_checkIndex_df160 2 = .ok (.getstatic 1053, 3) := by decide +kernel
theorem dJ0_checkIndex_df160_5 : decode cJ0_checkIndex_df160 5 = .ok (.invokestatic 1059, 3) := by decide +kernel
theorem dJ0_checkIndex_df160_8 : decode cJ0_checkIndex_df160 8 = .ok (.pop, 1) := by decide +kernel
theorem dJ0_checkIndex_df160_9 : decode cJ0_checkIndex_df160 9 = .ok (.return_, 1) := by decide +kernel
theorem dJ0_checkBoundsOffCount_cabcc_0 : decode cJ0_checkBoundsOffCount_cabcc 0 = .ok (.iload_n 0, 1) := by decide +kernel
theorem dJ0_checkBoundsOffCount_cabcc_1 : decode cJ0_checkBoundsOffCount_cabcc 1 = .ok (.iload_n 1, 1) := by decide +kernel
theorem dJ0_checkBoundsOffCount_cabcc_2 : decode cJ0_checkBoundsOffCount_cabcc 2 = .ok (.iload_n 2, 1) := by decide +kernel
theorem dJ0_checkBoundsOffCount_cabcc_3 : decode cJ0_checkBoundsOffCount_cabcc 3 = .ok (.getstatic 1053, 3) := by decide +kernel
theorem dJ0_checkBoundsOffCount_cabcc_6 : decode cJ0_checkBoundsOffCount_cabcc 6 = .ok (.invokestatic 1065, 3) := by decide +kernel
theorem dJ0_checkBoundsOffCount_cabcc_9 : decode cJ0_checkBoundsOffCount_cabcc 9 = .ok (.ireturn, 1) := by decide +kernel
theorem dJ0_checkBoundsBeginEnd_23922_0 : decode cJ0_checkBoundsBeginEnd_23922 0 = .ok (.iload_n 0, 1) := by decide +kernel
theorem dJ0_checkBoundsBeginEnd_23922_1 : decode cJ0_checkBoundsBeginEnd_23922 1 = .ok (.iload_n 1, 1) := by decide +kernel
theorem dJ0_checkBoundsBeginEnd_23922_2 : decode cJ0_checkBoundsBeginEnd_23922 2 = .ok (.iload_n 2, 1) := by decide +kernel
theorem dJ0_checkBoundsBeginEnd_23922_3 : decode cJ0_checkBoundsBeginEnd_23922 3 = .ok (.getstatic 1053, 3) := by decide +kernel
theorem dJ0_checkBoundsBeginEnd_23922_6 : decode cJ0_checkBoundsBeginEnd_23922 6 = .ok (.invokestatic 1062, 3) := by decide +kernel
theorem dJ0_checkBoundsBeginEnd_23922_9 : decode cJ0_checkBoundsBeginEnd_23922 9 = .ok (.pop, 1) := by decide +kernel
theorem dJ0_checkBoundsBeginEnd_23922_10 : decode cJ0_checkBoundsBeginEnd_23922 10 = .ok (.return_, 1) := by decide +kernel
theorem dJ4_init_da8c8_0 : decode cJ4_init_da8c8 0 = .ok (.aload_n 0, 1) := by decide +kernel
theorem dJ4_init_da8c8_1 : decode cJ4_init_da8c8 1 = .ok (.bipush 16, 2) := by decide +kernel
theorem dJ4_init_da8c8_3 : decode cJ4_init_da8c8 3 = .ok (.invokespecial 1, 3) := by decide +kernel
theorem dJ4_init_da8c8_6 : decode cJ4_init_da8c8 6 = .ok (.return_, 1) := by decide +kernel
theorem dJ4_append_15ec4_0 : decode cJ4_append_15ec4 0 = .ok (.aload_n 0, 1) := by decide +kernel
theorem dJ4_append_15ec4_1 : decode cJ4_append_15ec4 1 = .ok (.aload_n 1, 1) := by decide +kernel
theorem dJ4_append_15ec4_2 : decode cJ4_append_15ec4 2 = .ok (.invokespecial 29, 3) := by decide +kernel
theorem dJ4_append_15ec4_5 : decode cJ4_append_15ec4 5 = .ok (.pop, 1) := by decide +kernel
theorem dJ4_append_15ec4_6 : decode cJ4_append_15ec4 6 = .ok (.aload_n 0, 1) := by decide +kernel
theorem dJ4_append_15ec4_7 : decode cJ4_append_15ec4 7 = .ok (.areturn, 1) := by decide +kernel
theorem dJ4_append_cf468_0 : decode cJ4_append_cf468 0 = .ok (.aload_n 0, 1) := by decide +kernel
theorem dJ4_append_cf468_1 : decode cJ4_append_cf468 1 = .ok (.iload_n 1, 1) := by decide +kernel
theorem dJ4_append_cf468_2 : decode cJ4_append_cf468 2 = .ok (.invokespecial 50, 3) := by decide +kernel
theorem dJ4_append_cf468_5 : decode cJ4_append_cf468 5 = .ok (.pop, 1) := by decide +kernel
theorem dJ4_append_cf468_6 : decode cJ4_append_cf468 6 = .ok (.aload_n 0, 1) := by decide +kernel
theorem dJ4_append_cf468_7 : decode cJ4_append_cf468 7 = .ok (.areturn, 1) := by decide +kernel
theorem dJ4_append_bf812_0 : decode cJ4_append_bf812 0 = .ok (.aload_n 0, 1) := by decide +kernel
theorem dJ4_append_bf812_1 : decode cJ4_append_bf812 1 = .ok (.iload_n 1, 1) := by decide +kernel
theorem dJ4_append_bf812_2 : decode cJ4_append_bf812 2 = .ok (.invokespecial 53, 3) := by decide +kernel
theorem dJ4_append_bf812_5 : decode cJ4_append_bf812 5 = .ok (.pop, 1) := by decide +kernel
theorem dJ4_append_bf812_6 : decode cJ4_append_bf812 6 = .ok (.aload_n 0, 1) := by decide +kernel
theorem dJ4_append_bf812_7 : decode cJ4_append_bf812 7 = .ok (.areturn, 1) := by decide +kernel
theorem dJ4_toString_0e30d_0 : decode cJ4_toString_0e30d 0 = .ok (.new 18, 3) := by decide +kernel
theorem dJ4_toString_0e30d_3 : decode cJ4_toString_0e30d 3 = .ok (.dup, 1) := by decide +kernel
theorem dJ4_toString_0e30d_4 : decode cJ4_toString_0e30d 4 = .ok (.aload_n 0, 1) := by decide +kernel
theorem dJ4_toString_0e30d_5 : decode cJ4_toString_0e30d 5 = .ok (.invokespecial 137, 3) := by decide +kernel
theorem dJ4_toString_0e30d_8 : decode cJ4_toString_0e30d 8 = .ok (.areturn, 1) := by decide +kernel
theorem dJ4_charAt_5068e_0 : decode cJ4_charAt_5068e 0 = .ok (.aload_n 0, 1) := by decide +kernel
theorem dJ4_charAt_5068e_1 : decode cJ4_charAt_5068e 1 = .ok (.iload_n 1, 1) := by decide +kernel
theorem dJ4_charAt_5068e_2 : decode cJ4_charAt_5068e 2 = .ok (.invokespecial 329, 3) := by decide +kernel
theorem dJ4_charAt_5068e_5 : decode cJ4_charAt_5068e 5 = .ok (.ireturn, 1) := by decide +kernel
theorem dJ4_setLength_d00df_0 : decode cJ4_setLength_d00df 0 = .ok (.aload_n 0, 1) := by decide +kernel
theorem dJ4_setLength_d00df_1 : decode cJ4_setLength_d00df 1 = .ok (.iload_n 1, 1) := by decide +kernel
theorem dJ4_setLength_d00df_2 : decode cJ4_setLength_d00df 2 = .ok (.invokespecial 333, 3) := by decide +kernel
theorem dJ4_setLength_d00df_5 : decode cJ4_setLength_d00df 5 = .ok (.return_, 1) := by decide +kernel
theorem dJ4_length_8abf5_0 : decode cJ4_length_8abf5 0 = .ok (.aload_n 0, 1) := by decide +kernel
theorem dJ4_length_8abf5_1 : decode cJ4_length_8abf5 1 = .ok (.invokespecial 343, 3) := by decide +kernel
theorem dJ4_length_8abf5_4 : decode cJ4_length_8abf5 4 = .ok (.ireturn, 1) := by decide +kernel
theorem dJx7c733_init_d00df_0 : decode cJx7c733_init_d00df 0 = .ok (.aload_n 0, 1) := by decide +kernel
theorem dJx7c733_init_d00df_1 : decode cJx7c733_init_d00df 1 = .ok (.new 10, 3) := by decide +kernel
theorem dJx7c733_init_d00df_4 : decode cJx7c733_init_d00df 4 = .ok (.dup, 1) := by decide +kernel
theorem dJx7c733_init_d00df_5 : decode cJx7c733_init_d00df 5 = .ok (.invokespecial 12, 3) := by decide +kernel
theorem dJx7c733_init_d00df_8 : decode cJx7c733_init_d00df 8 = .ok (.ldc 13, 2) := by decide +kernel
theorem dJx7c733_init_d00df_10 : decode cJx7c733_init_d00df 10 = .ok (.invokevirtual 15, 3) := by decide +kernel
theorem dJx7c733_init_d00df_13 : decode cJx7c733_init_d00df 13 = .ok (.iload_n 1, 1) := by decide +kernel
theorem dJx7c733_init_d00df_14 : decode cJx7c733_init_d00df 14 = .ok (.invokevirtual 19, 3) := by decide +kernel
theorem dJx7c733_init_d00df_17 : decode cJx7c733_init_d00df 17 = .ok (.invokevirtual 22, 3) := by decide +kernel
theorem dJx7c733_init_d00df_20 : decode cJx7c733_init_d00df 20 = .ok (.invokespecial 7, 3) := by decide +kernel
theorem dJx7c733_init_d00df_23 : decode cJx7c733_init_d00df 23 = .ok (.return_, 1) := by decide +kernel
theorem dJ1_charAt_3b067_0 : decode cJ1_charAt_3b067 0 = .ok (.iload_n 1, 1) := by decide +kernel
theorem dJ1_charAt_3b067_1 : decode cJ1_charAt_3b067 1 = .ok (.aload_n 0, 1) := by decide +kernel
theorem dJ1_charAt_3b067_2 : decode cJ1_charAt_3b067 2 = .ok (.arraylength, 1) := by decide +kernel
theorem dJ1_charAt_3b067_3 : decode cJ1_charAt_3b067 3 = .ok (.invokestatic 9, 3) := by decide +kernel
theorem dJ1_charAt_3b067_6 : decode cJ1_charAt_3b067 6 = .ok (.aload_n 0, 1) := by decide +kernel
theorem dJ1_charAt_3b067_7 : decode cJ1_charAt_3b067 7 = .ok (.iload_n 1, 1) := by decide +kernel
theorem dJ1_charAt_3b067_8 : decode cJ1_charAt_3b067 8 = .ok (.baload, 1) := by decide +kernel
theorem dJ1_charAt_3b067_9 : decode cJ1_charAt_3b067 9 = .ok (.sipush 255, 3) := by decide +kernel
theorem dJ1_charAt_3b067_12 : decode cJ1_charAt_3b067 12 = .ok (.iand, 1) := by decide +kernel
theorem dJ1_charAt_3b067_13 : decode cJ1_charAt_3b067 13 = .ok (.i2c, 1) := by decide +kernel
theorem dJ1_charAt_3b067_14 : decode cJ1_charAt_3b067 14 = .ok (.ireturn, 1) := by decide +kernel
theorem dJ1_canEncode_fc78d_0 : decode cJ1_canEncode_fc78d 0 = .ok (.iload_n 0, 1) := by decide +kernel
theorem dJ1_canEncode_fc78d_1 : decode cJ1_canEncode_fc78d 1 = .ok (.sipush 255, 3) := by decide +kernel
theorem dJ1_canEncode_fc78d_4 : decode cJ1_canEncode_fc78d 4 = .ok (.if_icmp .gt 7, 3) := by decide +kernel
theorem dJ1_canEncode_fc78d_7 : decode cJ1_canEncode_fc78d 7 = .ok (.iconst 1, 1) := by decide +kernel
theorem dJ1_canEncode_fc78d_8 : decode cJ1_canEncode_fc78d 8 = .ok (.goto 4, 3) := by decide +kernel
theorem dJ1_canEncode_fc78d_11 : decode cJ1_canEncode_fc78d 11 = .ok (.iconst 0, 1) := by decide +kernel
theorem dJ1_canEncode_fc78d_12 : decode cJ1_canEncode_fc78d 12 = .ok (.ireturn, 1) := by decide +kernel
theorem dJ1_fillNull_b72d1_0 : decode cJ1_fillNull_b72d1 0 = .ok (.aload_n 0, 1) := by decide +kernel
theorem dJ1_fillNull_b72d1_1 : decode cJ1_fillNull_b72d1 1 = .ok (.iload_n 1, 1) := by decide +kernel
theorem dJ1_fillNull_b72d1_2 : decode cJ1_fillNull_b72d1 2 = .ok (.iload_n 2, 1) := by decide +kernel
theorem dJ1_fillNull_b72d1_3 : decode cJ1_fillNull_b72d1 3 = .ok (.iconst 0, 1) := by decide +kernel
theorem dJ1_fillNull_b72d1_4 : decode cJ1_fillNull_b72d1 4 = .ok (.invokestatic 236, 3) := by decide +kernel
theorem dJ1_fillNull_b72d1_7 : decode cJ1_fillNull_b72d1 7 = .ok (.return_, 1) := by decide +kernel
theorem dJ1_inflate_0e8fd_0 : decode cJ1_inflate_0e8fd 0 = .ok (.aload_n 0, 1) := by decide +kernel
theorem dJ1_inflate_0e8fd_1 : decode cJ1_inflate_0e8fd 1 = .ok (.iload_n 1, 1) := by decide +kernel
theorem dJ1_inflate_0e8fd_2 : decode cJ1_inflate_0e8fd 2 = .ok (.aload_n 2, 1) := by decide +kernel
theorem dJ1_inflate_0e8fd_3 : decode cJ1_inflate_0e8fd 3 = .ok (.iload_n 3, 1) := by decide +kernel
theorem dJ1_inflate_0e8fd_4 : decode cJ1_inflate_0e8fd 4 = .ok (.iload 4, 2) := by decide +kernel
theorem dJ1_inflate_0e8fd_6 : decode cJ1_inflate_0e8fd 6 = .ok (.invokestatic 240, 3) := by decide +kernel
theorem dJ1_inflate_0e8fd_9 : decode cJ1_inflate_0e8fd 9 = .ok (.return_, 1) := by decide +kernel
theorem dJ2_newBytesFor_77867_0 : decode cJ2_newBytesFor_77867 0 = .ok (.iload_n 0, 1) := by decide +kernel
theorem dJ2_newBytesFor_77867_1 : decode cJ2_newBytesFor_77867 1 = .ok (.invokestatic 11, 3) := by decide +kernel
theorem dJ2_newBytesFor_77867_4 : decode cJ2_newBytesFor_77867 4 = .ok (.newarray .byte, 2) := by decide +kernel
theorem dJ2_newBytesFor_77867_6 : decode cJ2_newBytesFor_77867 6 = .ok (.areturn, 1) := by decide +kernel
theorem dJ2_newBytesLength_0f7a4_0 : decode cJ2_newBytesLength_0f7a4 0 = .ok (.iload_n 0, 1) := by decide +kernel
theorem dJ2_newBytesLength_0f7a4_1 : decode cJ2_newBytesLength_0f7a4 1 = .ok (.ifCond .ge 11, 3) := by decide +kernel
theorem dJ2_newBytesLength_0f7a4_4 : decode cJ2_newBytesLength_0f7a4 4 = .ok (.new 17, 3) := by decide +kernel
theorem dJ2_newBytesLength_0f7a4_7 : decode cJ2_newBytesLength_0f7a4 7 = .ok (.dup, 1) := by decide +kernel
theorem dJ2_newBytesLength_0f7a4_8 : decode cJ2_newBytesLength_0f7a4 8 = .ok (.invokespecial 19, 3) := by decide +kernel
theorem dJ2_newBytesLength_0f7a4_11 : decode cJ2_newBytesLength_0f7a4 11 = .ok (.athrow, 1) := by decide +kernel
theorem dJ2_newBytesLength_0f7a4_12 : decode cJ2_newBytesLength_0f7a4 12 = .ok (.iload_n 0, 1) := by decide +kernel
theorem dJ2_newBytesLength_0f7a4_13 : decode cJ2_newBytesLength_0f7a4 13 = .ok (.ldc 20, 2) := by decide +kernel
theorem dJ2_newBytesLength_0f7a4_15 : decode cJ2_newBytesLength_0f7a4 15 = .ok (.if_icmp .lt 40, 3) := by decide +kernel
theorem dJ2_newBytesLength_0f7a4_18 : decode cJ2_newBytesLength_0f7a4 18 = .ok (.new 21, 3) := by decide +kernel
theorem dJ2_newBytesLength_0f7a4_21 : decode cJ2_newBytesLength_0f7a4 21 = .ok (.dup, 1) := by decide +kernel
theorem dJ2_newBytesLength_0f7a4_22 : decode cJ2_newBytesLength_0f7a4 22 = .ok (.new 23, 3) := by decide +kernel
theorem dJ2_newBytesLength_0f7a4_25 : decode cJ2_newBytesLength_0f7a4 25 = .ok (.dup, 1) := by decide +kernel
theorem dJ2_newBytesLength_0f7a4_26 : decode cJ2_newBytesLength_0f7a4 26 = .ok (.invokespecial 25, 3) := by decide +kernel
theorem dJ2_newBytesLength_0f7a4_29 : decode cJ2_newBytesLength_0f7a4 29 = .ok (.ldc 26, 2) := by decide +kernel
theorem dJ2_newBytesLength_0f7a4_31 : decode cJ2_newBytesLength_0f7a4 31 = .ok (.invokevirtual 28, 3) := by decide +kernel
theorem dJ2_newBytesLength_0f7a4_34 : decode cJ2_newBytesLength_0f7a4 34 = .ok (.iload_n 0, 1) := by decide +kernel
theorem dJ2_newBytesLength_0f7a4_35 : decode cJ2_newBytesLength_0f7a4 35 = .ok (.invokevirtual 32, 3) := by decide +kernel
theorem dJ2_newBytesLength_0f7a4_38 : decode cJ2_newBytesLength_0f7a4 38 = .ok (.ldc 35, 2) := by decide +kernel
theorem dJ2_newBytesLength_0f7a4_40 : decode cJ2_newBytesLength_0f7a4 40 = .ok (.invokevirtual 28, 3) := by decide +kernel
theorem dJ2_newBytesLength_0f7a4_43 : decode cJ2_newBytesLength_0f7a4 43 = .ok (.ldc 20, 2) := by decide +kernel
theorem dJ2_newBytesLength_0f7a4_45 : decode cJ2_newBytesLength_0f7a4 45 = .ok (.invokevirtual 32, 3) := by decide +kernel
theorem dJ2_newBytesLength_0f7a4_48 : decode cJ2_newBytesLength_0f7a4 48 = .ok (.invokevirtual 37, 3) := by decide +kernel
theorem dJ2_newBytesLength_0f7a4_51 : decode cJ2_newBytesLength_0f7a4 51 = .ok (.invokespecial 41, 3) := by decide +kernel
theorem dJ2_newBytesLength_0f7a4_54 : decode cJ2_newBytesLength_0f7a4 54 = .ok (.athrow, 1) := by decide +kernel
theorem dJ2_newBytesLength_0f7a4_55 : decode cJ2_newBytesLength_0f7a4 55 = .ok (.iload_n 0, 1) := by decide +kernel
theorem dJ2_newBytesLength_0f7a4_56 : decode cJ2_newBytesLength_0f7a4 56 = .ok (.iconst 1, 1) := by decide +kernel
theorem dJ2_newBytesLength_0f7a4_57 : decode cJ2_newBytesLength_0f7a4 57 = .ok (.ishl, 1) := by decide +kernel
theorem dJ2_newBytesLength_0f7a4_58 : decode cJ2_newBytesLength_0f7a4 58 = .ok (.ireturn, 1) := by decide +kernel
theorem dJ2_putChar_b72d1_0 : decode cJ2_putChar_b72d1 0 = .ok (.getstatic 44, 3) := by decide +kernel
theorem dJ2_putChar_b72d1_3 : decode cJ2_putChar_b72d1 3 = .ok (.ifCond .ne 25, 3) := by decide +kernel
theorem dJ2_putChar_b72d1_6 : decode cJ2_putChar_b72d1 6 = .ok (.iload_n 1, 1) := by decide +kernel
theorem dJ2_putChar_b72d1_7 : decode cJ2_putChar_b72d1 7 = .ok (.ifCond .lt 11, 3) := by decide +kernel
theorem dJ2_putChar_b72d1_10 : decode cJ2_putChar_b72d1 10 = .ok (.iload_n 1, 1) := by decide +kernel
theorem dJ2_putChar_b72d1_11 : decode cJ2_putChar_b72d1 11 = .ok (.aload_n 0, 1) := by decide +kernel
theorem dJ2_putChar_b72d1_12 : decode cJ2_putChar_b72d1 12 = .ok (.invokestatic 48, 3) := by decide +kernel
theorem dJ2_putChar_b72d1_15 : decode cJ2_putChar_b72d1 15 = .ok (.if_icmp .lt 13, 3) := by decide +kernel
theorem dJ2_putChar_b72d1_18 : decode cJ2_putChar_b72d1 18 = .ok (.new 52, 3) := by decide +kernel
theorem dJ2_putChar_b72d1_21 : decode cJ2_putChar_b72d1 21 = .ok (.dup, 1) := by decide +kernel
theorem dJ2_putChar_b72d1_22 : decode cJ2_putChar_b72d1 22 = .ok (.ldc 54, 2) := by decide +kernel
theorem dJ2_putChar_b72d1_24 : decode cJ2_putChar_b72d1 24 = .ok (.invokespecial 56, 3) := by decide +kernel
theorem dJ2_putChar_b72d1_27 : decode cJ2_putChar_b72d1 27 = .ok (.athrow, 1) := by decide +kernel
theorem dJ2_putChar_b72d1_28 : decode cJ2_putChar_b72d1 28 = .ok (.iload_n 1, 1) := by decide +kernel
theorem dJ2_putChar_b72d1_29 : decode cJ2_putChar_b72d1 29 = .ok (.iconst 1, 1) := by decide +kernel
theorem dJ2_putChar_b72d1_30 : decode cJ2_putChar_b72d1 30 = .ok (.ishl, 1) := by decide +kernel
theorem dJ2_putChar_b72d1_31 : decode cJ2_putChar_b72d1 31 = .ok (.istore_n 1, 1) := by decide +kernel
theorem dJ2_putChar_b72d1_32 : decode cJ2_putChar_b72d1 32 = .ok (.aload_n 0, 1) := by decide +kernel
theorem dJ2_putChar_b72d1_33 : decode cJ2_putChar_b72d1 33 = .ok (.iload_n 1, 1) := by decide +kernel
theorem dJ2_putChar_b72d1_34 : decode cJ2_putChar_b72d1 34 = .ok (.iinc 1 1, 3) := by decide +kernel
theorem dJ2_putChar_b72d1_37 : decode cJ2_putChar_b72d1 37 = .ok (.iload_n 2, 1) := by decide +kernel
theorem dJ2_putChar_b72d1_38 : decode cJ2_putChar_b72d1 38 = .ok (.getstatic 59, 3) := by decide +kernel
theorem dJ2_putChar_b72d1_41 : decode cJ2_putChar_b72d1 41 = .ok (.ishr, 1) := by decide +kernel
theorem dJ2_putChar_b72d1_42 : decode cJ2_putChar_b72d1 42 = .ok (.i2b, 1) := by decide +kernel
theorem dJ2_putChar_b72d1_43 : decode cJ2_putChar_b72d1 43 = .ok (.bastore, 1) := by decide +kernel
theorem dJ2_putChar_b72d1_44 : decode cJ2_putChar_b72d1 44 = .ok (.aload_n 0, 1) := by decide +kernel
theorem dJ2_putChar_b72d1_45 : decode cJ2_putChar_b72d1 45 = .ok (.iload_n 1, 1) := by decide +kernel
theorem dJ2_putChar_b72d1_46 : decode cJ2_putChar_b72d1 46 = .ok (.iload_n 2, 1) := by decide +kernel
theorem dJ2_putChar_b72d1_47 : decode cJ2_putChar_b72d1 47 = .ok (.getstatic 63, 3) := by decide +kernel
theorem dJ2_putChar_b72d1_50 : decode cJ2_putChar_b72d1 50 = .ok (.ishr, 1) := by decide +kernel
theorem dJ2_putChar_b72d1_51 : decode cJ2_putChar_b72d1 51 = .ok (.i2b, 1) := by decide +kernel
theorem dJ2_putChar_b72d1_52 : decode cJ2_putChar_b72d1 52 = .ok (.bastore, 1) := by decide +kernel
theorem dJ2_putChar_b72d1_53 : decode cJ2_putChar_b72d1 53 = .ok (.return_, 1) := by decide +kernel
theorem dJ2_getChar_3b067_0 : decode cJ2_getChar_3b067 0 = .ok (.getstatic 44, 3) := by decide +kernel
theorem dJ2_getChar_3b067_3 : decode cJ2_getChar_3b067 3 = .ok (.ifCond .ne 25, 3) := by decide +kernel
theorem dJ2_getChar_3b067_6 : decode cJ2_getChar_3b067 6 = .ok (.iload_n 1, 1) := by decide +kernel
theorem dJ2_getChar_3b067_7 : decode cJ2_getChar_3b067 7 = .ok (.ifCond .lt 11, 3) := by decide +kernel
theorem dJ2_getChar_3b067_10 : decode cJ2_getChar_3b067 10 = .ok (.iload_n 1, 1) := by decide +kernel
theorem dJ2_getChar_3b067_11 : decode cJ2_getChar_3b067 11 = .ok (.aload_n 0, 1) := by decide +kernel
theorem dJ2_getChar_3b067_12 : decode cJ2_getChar_3b067 12 = .ok (.invokestatic 48, 3) := by decide +kernel
theorem dJ2_getChar_3b067_15 : decode cJ2_getChar_3b067 15 = .ok (.if_icmp .lt 13, 3) := by decide +kernel
theorem dJ2_getChar_3b067_18 : decode cJ2_getChar_3b067 18 = .ok (.new 52, 3) := by decide +kernel
theorem dJ2_getChar_3b067_21 : decode cJ2_getChar_3b067 21 = .ok (.dup, 1) := by decide +kernel
theorem dJ2_getChar_3b067_22 : decode cJ2_getChar_3b067 22 = .ok (.ldc 54, 2) := by decide +kernel
theorem dJ2_getChar_3b067_24 : decode cJ2_getChar_3b067 24 = .ok (.invokespecial 56, 3) := by decide +kernel
theorem dJ2_getChar_3b067_27 : decode cJ2_getChar_3b067 27 = .ok (.athrow, 1) := by decide +kernel
theorem dJ2_getChar_3b067_28 : decode cJ2_getChar_3b067 28 = .ok (.iload_n 1, 1) := by decide +kernel
theorem dJ2_getChar_3b067_29 : decode cJ2_getChar_3b067 29 = .ok (.iconst 1, 1) := by decide +kernel
theorem dJ2_getChar_3b067_30 : decode cJ2_getChar_3b067 30 = .ok (.ishl, 1) := by decide +kernel
theorem dJ2_getChar_3b067_31 : decode cJ2_getChar_3b067 31 = .ok (.istore_n 1, 1) := by decide +kernel
theorem dJ2_getChar_3b067_32 : decode cJ2_getChar_3b067 32 = .ok (.aload_n 0, 1) := by decide +kernel
theorem dJ2_getChar_3b067_33 : decode cJ2_getChar_3b067 33 = .ok (.iload_n 1, 1) := by decide +kernel
theorem dJ2_getChar_3b067_34 : decode cJ2_getChar_3b067 34 = .ok (.iinc 1 1, 3) := by decide +kernel
theorem dJ2_getChar_3b067_37 : decode cJ2_getChar_3b067 37 = .ok (.baload, 1) := by decide +kernel
theorem dJ2_getChar_3b067_38 : decode cJ2_getChar_3b067 38 = .ok (.sipush 255, 3) := by decide +kernel
theorem dJ2_getChar_3b067_41 : decode cJ2_getChar_3b067 41 = .ok (.iand, 1) := by decide +kernel
theorem dJ2_getChar_3b067_42 : decode cJ2_getChar_3b067 42 = .ok (.getstatic 59, 3) := by decide +kernel
theorem dJ2_getChar_3b067_45 : decode cJ2_getChar_3b067 45 = .ok (.ishl, 1) := by decide +kernel
theorem dJ2_getChar_3b067_46 : decode cJ2_getChar_3b067 46 = .ok (.aload_n 0, 1) := by decide +kernel
theorem dJ2_getChar_3b067_47 : decode cJ2_getChar_3b067 47 = .ok (.iload_n 1, 1) := by decide +kernel
theorem dJ2_getChar_3b067_48 : decode cJ2_getChar_3b067 48 = .ok (.baload, 1) := by decide +kernel
theorem dJ2_getChar_3b067_49 : decode cJ2_getChar_3b067 49 = .ok (.sipush 255, 3) := by decide +kernel
theorem dJ2_getChar_3b067_52 : decode cJ2_getChar_3b067 52 = .ok (.iand, 1) := by decide +kernel
theorem dJ2_getChar_3b067_53 : decode cJ2_getChar_3b067 53 = .ok (.getstatic 63, 3) := by decide +kernel
theorem dJ2_getChar_3b067_56 : decode cJ2_getChar_3b067 56 = .ok (.ishl, 1) := by decide +kernel
theorem dJ2_getChar_3b067_57 : decode cJ2_getChar_3b067 57 = .ok (.ior, 1) := by decide +kernel
theorem dJ2_getChar_3b067_58 : decode cJ2_getChar_3b067 58 = .ok (.i2c, 1) := by decide +kernel
theorem dJ2_getChar_3b067_59 : decode cJ2_getChar_3b067 59 = .ok (.ireturn, 1) := by decide +kernel
theorem dJ2_length_9d52b_0 : decode cJ2_length_9d52b 0 = .ok (.aload_n 0, 1) := by decide +kernel
theorem dJ2_length_9d52b_1 : decode cJ2_length_9d52b 1 = .ok (.arraylength, 1) := by decide +kernel
theorem dJ2_length_9d52b_2 : decode cJ2_length_9d52b 2 = .ok (.iconst 1, 1) := by decide +kernel
theorem dJ2_length_9d52b_3 : decode cJ2_length_9d52b 3 = .ok (.ishr, 1) := by decide +kernel
theorem dJ2_length_9d52b_4 : decode cJ2_length_9d52b 4 = .ok (.ireturn, 1) := by decide +kernel
theorem dJ2_coderFromArrayLen_85cad_0 : decode cJ2_coderFromArrayLen_85cad 0 = .ok (.iload_n 1, 1) := by decide +kernel
theorem dJ2_coderFromArrayLen_85cad_1 : decode cJ2_coderFromArrayLen_85cad 1 = .ok (.aload_n 0, 1) := by decide +kernel
theorem dJ2_coderFromArrayLen_85cad_2 : decode cJ2_coderFromArrayLen_85cad 2 = .ok (.arraylength, 1) := by decide +kernel
theorem dJ2_coderFromArrayLen_85cad_3 : decode cJ2_coderFromArrayLen_85cad 3 = .ok (.isub, 1) := by decide +kernel
theorem dJ2_coderFromArrayLen_85cad_4 : decode cJ2_coderFromArrayLen_85cad 4 = .ok (.bipush 31, 2) := by decide +kernel
theorem dJ2_coderFromArrayLen_85cad_6 : decode cJ2_coderFromArrayLen_85cad 6 = .ok (.iushr, 1) := by decide +kernel
theorem dJ2_coderFromArrayLen_85cad_7 : decode cJ2_coderFromArrayLen_85cad 7 = .ok (.i2b, 1) := by decide +kernel
theorem dJ2_coderFromArrayLen_85cad_8 : decode cJ2_coderFromArrayLen_85cad 8 = .ok (.ireturn, 1) := by decide +kernel
theorem dJ2_compress_39247_0 : decode cJ2_compress_39247 0 = .ok (.iload_n 2, 1) := by decide +kernel
theorem dJ2_compress_39247_1 : decode cJ2_compress_39247 1 = .ok (.newarray .byte, 2) := by decide +kernel
theorem dJ2_compress_39247_3 : decode cJ2_compress_39247 3 = .ok (.astore_n 3, 1) := by decide +kernel
theorem dJ2_compress_39247_4 : decode cJ2_compress_39247 4 = .ok (.aload_n 0, 1) := by decide +kernel
theorem dJ2_compress_39247_5 : decode cJ2_compress_39247 5 = .ok (.iload_n 1, 1) := by decide +kernel
theorem dJ2_compress_39247_6 : decode cJ2_compress_39247 6 = .ok (.aload_n 3, 1) := by decide +kernel
theorem dJ2_compress_39247_7 : decode cJ2_compress_39247 7 = .ok (.iconst 0, 1) := by decide +kernel
theorem dJ2_compress_39247_8 : decode cJ2_compress_39247 8 = .ok (.iload_n 2, 1) := by decide +kernel
theorem dJ2_compress_39247_9 : decode cJ2_compress_39247 9 = .ok (.invokestatic 123, 3) := by decide +kernel
theorem dJ2_compress_39247_12 : decode cJ2_compress_39247 12 = .ok (.istore 4, 2) := by decide +kernel
theorem dJ2_compress_39247_14 : decode cJ2_compress_39247 14 = .ok (.iload 4, 2) := by decide +kernel
theorem dJ2_compress_39247_16 : decode cJ2_compress_39247 16 = .ok (.iload_n 2, 1) := by decide +kernel
theorem dJ2_compress_39247_17 : decode cJ2_compress_39247 17 = .ok (.if_icmp .eq 47, 3) := by decide +kernel
theorem dJ2_compress_39247_20 : decode cJ2_compress_39247 20 = .ok (.aload_n 0, 1) := by decide +kernel
theorem dJ2_compress_39247_21 : decode cJ2_compress_39247 21 = .ok (.iload_n 1, 1) := by decide +kernel
theorem dJ2_compress_39247_22 : decode cJ2_compress_39247 22 = .ok (.iconst 1, 1) := by decide +kernel
theorem dJ2_compress_39247_23 : decode cJ2_compress_39247 23 = .ok (.ishl, 1) := by decide +kernel
theorem dJ2_compress_39247_24 : decode cJ2_compress_39247 24 = .ok (.iload_n 1, 1) := by decide +kernel
theorem dJ2_compress_39247_25 : decode cJ2_compress_39247 25 = .ok (.iload_n 2, 1) := by decide +kernel
theorem dJ2_compress_39247_26 : decode cJ2_compress_39247 26 = .ok (.iadd, 1) := by decide +kernel
theorem dJ2_compress_39247_27 : decode cJ2_compress_39247 27 = .ok (.invokestatic 11, 3) := by decide +kernel
theorem dJ2_compress_39247_30 : decode cJ2_compress_39247 30 = .ok (.invokestatic 126, 3) := by decide +kernel
theorem dJ2_compress_39247_33 : decode cJ2_compress_39247 33 = .ok (.astore 5, 2) := by decide +kernel
theorem dJ2_compress_39247_35 : decode cJ2_compress_39247 35 = .ok (.aload 5, 2) := by decide +kernel
theorem dJ2_compress_39247_37 : decode cJ2_compress_39247 37 = .ok (.iload 4, 2) := by decide +kernel
theorem dJ2_compress_39247_39 : decode cJ2_compress_39247 39 = .ok (.invokestatic 71, 3) := by decide +kernel
theorem dJ2_compress_39247_42 : decode cJ2_compress_39247 42 = .ok (.sipush 255, 3) := by decide +kernel
theorem dJ2_compress_39247_45 : decode cJ2_compress_39247 45 = .ok (.if_icmp .gt 16, 3) := by decide +kernel
theorem dJ2_compress_39247_48 : decode cJ2_compress_39247 48 = .ok (.aload 5, 2) := by decide +kernel
theorem dJ2_compress_39247_50 : decode cJ2_compress_39247 50 = .ok (.iconst 0, 1) := by decide +kernel
theorem dJ2_compress_39247_51 : decode cJ2_compress_39247 51 = .ok (.aload_n 3, 1) := by decide +kernel
theorem dJ2_compress_39247_52 : decode cJ2_compress_39247 52 = .ok (.iconst 0, 1) := by decide +kernel
theorem dJ2_compress_39247_53 : decode cJ2_compress_39247 53 = .ok (.iload_n 2, 1) := by decide +kernel
theorem dJ2_compress_39247_54 : decode cJ2_compress_39247 54 = .ok (.invokestatic 123, 3) := by decide +kernel
theorem dJ2_compress_39247_57 : decode cJ2_compress_39247 57 = .ok (.iload_n 2, 1) := by decide +kernel
theorem dJ2_compress_39247_58 : decode cJ2_compress_39247 58 = .ok (.if_icmp .eq 6, 3) := by decide +kernel
theorem dJ2_compress_39247_61 : decode cJ2_compress_39247 61 = .ok (.aload 5, 2) := by decide +kernel
theorem dJ2_compress_39247_63 : decode cJ2_compress_39247 63 = .ok (.areturn, 1) := by decide +kernel
theorem dJ2_compress_39247_64 : decode cJ2_compress_39247 64 = .ok (.aload_n 3, 1) := by decide +kernel
theorem dJ2_compress_39247_65 : decode cJ2_compress_39247 65 = .ok (.areturn, 1) := by decide +kernel
theorem dJ2_compress_5af95_0 : decode cJ2_compress_5af95 0 = .ok (.iload_n 1, 1) := by decide +kernel
theorem dJ2_compress_5af95_1 : decode cJ2_compress_5af95 1 = .ok (.iload 4, 2) := by decide +kernel
theorem dJ2_compress_5af95_3 : decode cJ2_compress_5af95 3 = .ok (.aload_n 0, 1) := by decide +kernel
theorem dJ2_compress_5af95_4 : decode cJ2_compress_5af95 4 = .ok (.invokestatic 173, 3) := by decide +kernel
theorem dJ2_compress_5af95_7 : decode cJ2_compress_5af95 7 = .ok (.iconst 0, 1) := by decide +kernel
theorem dJ2_compress_5af95_8 : decode cJ2_compress_5af95 8 = .ok (.istore 5, 2) := by decide +kernel
theorem dJ2_compress_5af95_10 : decode cJ2_compress_5af95 10 = .ok (.iload 5, 2) := by decide +kernel
theorem dJ2_compress_5af95_12 : decode cJ2_compress_5af95 12 = .ok (.iload 4, 2) := by decide +kernel
theorem dJ2_compress_5af95_14 : decode cJ2_compress_5af95 14 = .ok (.if_icmp .ge 39, 3) := by decide +kernel
theorem dJ2_compress_5af95_17 : decode cJ2_compress_5af95 17 = .ok (.aload_n 0, 1) := by decide +kernel
theorem dJ2_compress_5af95_18 : decode cJ2_compress_5af95 18 = .ok (.iload_n 1, 1) := by decide +kernel
theorem dJ2_compress_5af95_19 : decode cJ2_compress_5af95 19 = .ok (.invokestatic 71, 3) := by decide +kernel
theorem dJ2_compress_5af95_22 : decode cJ2_compress_5af95 22 = .ok (.istore 6, 2) := by decide +kernel
theorem dJ2_compress_5af95_24 : decode cJ2_compress_5af95 24 = .ok (.iload 6, 2) := by decide +kernel
theorem dJ2_compress_5af95_26 : decode cJ2_compress_5af95 26 = .ok (.sipush 255, 3) := by decide +kernel
theorem dJ2_compress_5af95_29 : decode cJ2_compress_5af95 29 = .ok (.if_icmp .le 6, 3) := by decide +kernel
theorem dJ2_compress_5af95_32 : decode cJ2_compress_5af95 32 = .ok (.iload 5, 2) := by decide +kernel
theorem dJ2_compress_5af95_34 : decode cJ2_compress_5af95 34 = .ok (.ireturn, 1) := by decide +kernel
theorem dJ2_compress_5af95_35 : decode cJ2_compress_5af95 35 = .ok (.aload_n 2, 1) := by decide +kernel
theorem dJ2_compress_5af95_36 : decode cJ2_compress_5af95 36 = .ok (.iload_n 3, 1) := by decide +kernel
theorem dJ2_compress_5af95_37 : decode cJ2_compress_5af95 37 = .ok (.iload 6, 2) := by decide +kernel
theorem dJ2_compress_5af95_39 : decode cJ2_compress_5af95 39 = .ok (.i2b, 1) := by decide +kernel
theorem dJ2_compress_5af95_40 : decode cJ2_compress_5af95 40 = .ok (.bastore, 1) := by decide +kernel
theorem dJ2_compress_5af95_41 : decode cJ2_compress_5af95 41 = .ok (.iinc 1 1, 3) := by decide +kernel
theorem dJ2_compress_5af95_44 : decode cJ2_compress_5af95 44 = .ok (.iinc 3 1, 3) := by decide +kernel
theorem dJ2_compress_5af95_47 : decode cJ2_compress_5af95 47 = .ok (.iinc 5 1, 3) := by decide +kernel
theorem dJ2_compress_5af95_50 : decode cJ2_compress_5af95 50 = .ok (.goto (-40), 3) := by decide +kernel
theorem dJ2_compress_5af95_53 : decode cJ2_compress_5af95 53 = .ok (.iload 4, 2) := by decide +kernel
theorem dJ2_compress_5af95_55 : decode cJ2_compress_5af95 55 = .ok (.ireturn, 1) := by decide +kernel
theorem dJ2_fillNull_b72d1_0 : decode cJ2_fillNull_b72d1 0 = .ok (.aload_n 0, 1) := by decide +kernel
theorem dJ2_fillNull_b72d1_1 : decode cJ2_fillNull_b72d1 1 = .ok (.iload_n 1, 1) := by decide +kernel
theorem dJ2_fillNull_b72d1_2 : decode cJ2_fillNull_b72d1 2 = .ok (.iconst 1, 1) := by decide +kernel
theorem dJ2_fillNull_b72d1_3 : decode cJ2_fillNull_b72d1 3 = .ok (.ishl, 1) := by decide +kernel
theorem dJ2_fillNull_b72d1_4 : decode cJ2_fillNull_b72d1 4 = .ok (.iload_n 2, 1) := by decide +kernel
theorem dJ2_fillNull_b72d1_5 : decode cJ2_fillNull_b72d1 5 = .ok (.iconst 1, 1) := by decide +kernel
theorem dJ2_fillNull_b72d1_6 : decode cJ2_fillNull_b72d1 6 = .ok (.ishl, 1) := by decide +kernel
theorem dJ2_fillNull_b72d1_7 : decode cJ2_fillNull_b72d1 7 = .ok (.iconst 0, 1) := by decide +kernel
theorem dJ2_fillNull_b72d1_8 : decode cJ2_fillNull_b72d1 8 = .ok (.invokestatic 380, 3) := by decide +kernel
theorem dJ2_fillNull_b72d1_11 : decode cJ2_fillNull_b72d1 11 = .ok (.return_, 1) := by decide +kernel
theorem dJ2_putCharSB_b72d1_0 : decode cJ2_putCharSB_b72d1 0 = .ok (.iload_n 1, 1) := by decide +kernel
theorem dJ2_putCharSB_b72d1_1 : decode cJ2_putCharSB_b72d1 1 = .ok (.aload_n 0, 1) := by decide +kernel
theorem dJ2_putCharSB_b72d1_2 : decode cJ2_putCharSB_b72d1 2 = .ok (.invokestatic 67, 3) := by decide +kernel
theorem dJ2_putCharSB_b72d1_5 : decode cJ2_putCharSB_b72d1 5 = .ok (.aload_n 0, 1) := by decide +kernel
theorem dJ2_putCharSB_b72d1_6 : decode cJ2_putCharSB_b72d1 6 = .ok (.iload_n 1, 1) := by decide +kernel
theorem dJ2_putCharSB_b72d1_7 : decode cJ2_putCharSB_b72d1 7 = .ok (.iload_n 2, 1) := by decide +kernel
theorem dJ2_putCharSB_b72d1_8 : decode cJ2_putCharSB_b72d1 8 = .ok (.invokestatic 111, 3) := by decide +kernel
theorem dJ2_putCharSB_b72d1_11 : decode cJ2_putCharSB_b72d1 11 = .ok (.return_, 1) := by decide +kernel
theorem dJ2_getChars_46870_0 : decode cJ2_getChars_46870 0 = .ok (.iload_n 1, 1) := by decide +kernel
theorem dJ2_getChars_46870_1 : decode cJ2_getChars_46870 1 = .ok (.iload_n 2, 1) := by decide +kernel
theorem dJ2_getChars_46870_2 : decode cJ2_getChars_46870 2 = .ok (.aload_n 3, 1) := by decide +kernel
theorem dJ2_getChars_46870_3 : decode cJ2_getChars_46870 3 = .ok (.invokestatic 96, 3) := by decide +kernel
theorem dJ2_getChars_46870_6 : decode cJ2_getChars_46870 6 = .ok (.iload_n 0, 1) := by decide +kernel
theorem dJ2_getChars_46870_7 : decode cJ2_getChars_46870 7 = .ok (.iload_n 2, 1) := by decide +kernel
theorem dJ2_getChars_46870_8 : decode cJ2_getChars_46870 8 = .ok (.aload_n 3, 1) := by decide +kernel
theorem dJ2_getChars_46870_9 : decode cJ2_getChars_46870 9 = .ok (.invokestatic 393, 3) := by decide +kernel
theorem dJ2_getChars_46870_12 : decode cJ2_getChars_46870 12 = .ok (.istore 4, 2) := by decide +kernel
theorem dJ2_getChars_46870_14 : decode cJ2_getChars_46870 14 = .ok (.getstatic 44, 3) := by decide +kernel
theorem dJ2_getChars_46870_17 : decode cJ2_getChars_46870 17 = .ok (.ifCond .ne 17, 3) := by decide +kernel
theorem dJ2_getChars_46870_20 : decode cJ2_getChars_46870 20 = .ok (.iload_n 1, 1) := by decide +kernel
theorem dJ2_getChars_46870_21 : decode cJ2_getChars_46870 21 = .ok (.iload 4, 2) := by decide +kernel
theorem dJ2_getChars_46870_23 : decode cJ2_getChars_46870 23 = .ok (.if_icmp .eq 11, 3) := by decide +kernel
theorem dJ2_getChars_46870_26 : decode cJ2_getChars_46870 26 = .ok (.new 52, 3) := by decide +kernel
theorem dJ2_getChars_46870_29 : decode cJ2_getChars_46870 29 = .ok (.dup, 1) := by decide +kernel
theorem dJ2_getChars_46870_30 : decode cJ2_getChars_46870 30 = .ok (.invokespecial 66, 3) := by decide +kernel
theorem dJ2_getChars_46870_33 : decode cJ2_getChars_46870 33 = .ok (.athrow, 1) := by decide +kernel
theorem dJ2_getChars_46870_34 : decode cJ2_getChars_46870 34 = .ok (.iload 4, 2) := by decide +kernel
theorem dJ2_getChars_46870_36 : decode cJ2_getChars_46870 36 = .ok (.ireturn, 1) := by decide +kernel
theorem dJ2_putCharsAt_cd4e5_0 : decode cJ2_putCharsAt_cd4e5 0 = .ok (.iload_n 1, 1) := by decide +kernel
theorem dJ2_putCharsAt_cd4e5_1 : decode cJ2_putCharsAt_cd4e5 1 = .ok (.iconst 4, 1) := by decide +kernel
theorem dJ2_putCharsAt_cd4e5_2 : decode cJ2_putCharsAt_cd4e5 2 = .ok (.iadd, 1) := by decide +kernel
theorem dJ2_putCharsAt_cd4e5_3 : decode cJ2_putCharsAt_cd4e5 3 = .ok (.istore 6, 2) := by decide +kernel
theorem dJ2_putCharsAt_cd4e5_5 : decode cJ2_putCharsAt_cd4e5 5 = .ok (.iload_n 1, 1) := by decide +kernel
theorem dJ2_putCharsAt_cd4e5_6 : decode cJ2_putCharsAt_cd4e5 6 = .ok (.iload 6, 2) := by decide +kernel
theorem dJ2_putCharsAt_cd4e5_8 : decode cJ2_putCharsAt_cd4e5 8 = .ok (.aload_n 0, 1) := by decide +kernel
theorem dJ2_putCharsAt_cd4e5_9 : decode cJ2_putCharsAt_cd4e5 9 = .ok (.invokestatic 96, 3) := by decide +kernel
theorem dJ2_putCharsAt_cd4e5_12 : decode cJ2_putCharsAt_cd4e5 12 = .ok (.aload_n 0, 1) := by decide +kernel
theorem dJ2_putCharsAt_cd4e5_13 : decode cJ2_putCharsAt_cd4e5 13 = .ok (.iload_n 1, 1) := by decide +kernel
theorem dJ2_putCharsAt_cd4e5_14 : decode cJ2_putCharsAt_cd4e5 14 = .ok (.iinc 1 1, 3) := by decide +kernel
theorem dJ2_putCharsAt_cd4e5_17 : decode cJ2_putCharsAt_cd4e5 17 = .ok (.iload_n 2, 1) := by decide +kernel
theorem dJ2_putCharsAt_cd4e5_18 : decode cJ2_putCharsAt_cd4e5 18 = .ok (.invokestatic 111, 3) := by decide +kernel
theorem dJ2_putCharsAt_cd4e5_21 : decode cJ2_putCharsAt_cd4e5 21 = .ok (.aload_n 0, 1) := by decide +kernel
theorem dJ2_putCharsAt_cd4e5_22 : decode cJ2_putCharsAt_cd4e5 22 = .ok (.iload_n 1, 1) := by decide +kernel
theorem dJ2_putCharsAt_cd4e5_23 : decode cJ2_putCharsAt_cd4e5 23 = .ok (.iinc 1 1, 3) := by decide +kernel
theorem dJ2_putCharsAt_cd4e5_26 : decode cJ2_putCharsAt_cd4e5 26 = .ok (.iload_n 3, 1) := by decide +kernel
theorem dJ2_putCharsAt_cd4e5_27 : decode cJ2_putCharsAt_cd4e5 27 = .ok (.invokestatic 111, 3) := by decide +kernel
theorem dJ2_putCharsAt_cd4e5_30 : decode cJ2_putCharsAt_cd4e5 30 = .ok (.aload_n 0, 1) := by decide +kernel
theorem dJ2_putCharsAt_cd4e5_31 : decode cJ2_putCharsAt_cd4e5 31 = .ok (.iload_n 1, 1) := by decide +kernel
theorem dJ2_putCharsAt_cd4e5_32 : decode cJ2_putCharsAt_cd4e5 32 = .ok (.iinc 1 1, 3) := by decide +kernel
theorem dJ2_putCharsAt_cd4e5_35 : decode cJ2_putCharsAt_cd4e5 35 = .ok (.iload 4, 2) := by decide +kernel
theorem dJ2_putCharsAt_cd4e5_37 : decode cJ2_putCharsAt_cd4e5 37 = .ok (.invokestatic 111, 3) := by decide +kernel
theorem dJ2_putCharsAt_cd4e5_40 : decode cJ2_putCharsAt_cd4e5 40 = .ok (.aload_n 0, 1) := by decide +kernel
theorem dJ2_putCharsAt_cd4e5_41 : decode cJ2_putCharsAt_cd4e5 41 = .ok (.iload_n 1, 1) := by decide +kernel
theorem dJ2_putCharsAt_cd4e5_42 : decode cJ2_putCharsAt_cd4e5 42 = .ok (.iinc 1 1, 3) := by decide +kernel
theorem dJ2_putCharsAt_cd4e5_45 : decode cJ2_putCharsAt_cd4e5 45 = .ok (.iload 5, 2) := by decide +kernel
theorem dJ2_putCharsAt_cd4e5_47 : decode cJ2_putCharsAt_cd4e5 47 = .ok (.invokestatic 111, 3) := by decide +kernel
theorem dJ2_putCharsAt_cd4e5_50 : decode cJ2_putCharsAt_cd4e5 50 = .ok (.getstatic 44, 3) := by decide +kernel
theorem dJ2_putCharsAt_cd4e5_53 : decode cJ2_putCharsAt_cd4e5 53 = .ok (.ifCond .ne 17, 3) := by decide +kernel
theorem dJ2_putCharsAt_cd4e5_56 : decode cJ2_putCharsAt_cd4e5 56 = .ok (.iload_n 1, 1) := by decide +kernel
theorem dJ2_putCharsAt_cd4e5_57 : decode cJ2_putCharsAt_cd4e5 57 = .ok (.iload 6, 2) := by decide +kernel
theorem dJ2_putCharsAt_cd4e5_59 : decode cJ2_putCharsAt_cd4e5 59 = .ok (.if_icmp .eq 11, 3) := by decide +kernel
theorem dJ2_putCharsAt_cd4e5_62 : decode cJ2_putCharsAt_cd4e5 62 = .ok (.new 52, 3) := by decide +kernel
theorem dJ2_putCharsAt_cd4e5_65 : decode cJ2_putCharsAt_cd4e5 65 = .ok (.dup, 1) := by decide +kernel
theorem dJ2_putCharsAt_cd4e5_66 : decode cJ2_putCharsAt_cd4e5 66 = .ok (.invokespecial 66, 3) := by decide +kernel
theorem dJ2_putCharsAt_cd4e5_69 : decode cJ2_putCharsAt_cd4e5 69 = .ok (.athrow, 1) := by decide +kernel
theorem dJ2_putCharsAt_cd4e5_70 : decode cJ2_putCharsAt_cd4e5 70 = .ok (.iload 6, 2) := by decide +kernel
theorem dJ2_putCharsAt_cd4e5_72 : decode cJ2_putCharsAt_cd4e5 72 = .ok (.ireturn, 1) := by decide +kernel
theorem dJ2_charAt_3b067_0 : decode cJ2_charAt_3b067 0 = .ok (.iload_n 1, 1) := by decide +kernel
theorem dJ2_charAt_3b067_1 : decode cJ2_charAt_3b067 1 = .ok (.aload_n 0, 1) := by decide +kernel
theorem dJ2_charAt_3b067_2 : decode cJ2_charAt_3b067 2 = .ok (.invokestatic 67, 3) := by decide +kernel
theorem dJ2_charAt_3b067_5 : decode cJ2_charAt_3b067 5 = .ok (.aload_n 0, 1) := by decide +kernel
theorem dJ2_charAt_3b067_6 : decode cJ2_charAt_3b067 6 = .ok (.iload_n 1, 1) := by decide +kernel
theorem dJ2_charAt_3b067_7 : decode cJ2_charAt_3b067 7 = .ok (.invokestatic 71, 3) := by decide +kernel
theorem dJ2_charAt_3b067_10 : decode cJ2_charAt_3b067 10 = .ok (.ireturn, 1) := by decide +kernel
theorem dJ2_inflate_0e8fd_0 : decode cJ2_inflate_0e8fd 0 = .ok (.iload_n 3, 1) := by decide +kernel
theorem dJ2_inflate_0e8fd_1 : decode cJ2_inflate_0e8fd 1 = .ok (.iload 4, 2) := by decide +kernel
theorem dJ2_inflate_0e8fd_3 : decode cJ2_inflate_0e8fd 3 = .ok (.aload_n 2, 1) := by decide +kernel
theorem dJ2_inflate_0e8fd_4 : decode cJ2_inflate_0e8fd 4 = .ok (.invokestatic 173, 3) := by decide +kernel
theorem dJ2_inflate_0e8fd_7 : decode cJ2_inflate_0e8fd 7 = .ok (.iconst 0, 1) := by decide +kernel
theorem dJ2_inflate_0e8fd_8 : decode cJ2_inflate_0e8fd 8 = .ok (.istore 5, 2) := by decide +kernel
theorem dJ2_inflate_0e8fd_10 : decode cJ2_inflate_0e8fd 10 = .ok (.iload 5, 2) := by decide +kernel
theorem dJ2_inflate_0e8fd_12 : decode cJ2_inflate_0e8fd 12 = .ok (.iload 4, 2) := by decide +kernel
theorem dJ2_inflate_0e8fd_14 : decode cJ2_inflate_0e8fd 14 = .ok (.if_icmp .ge 27, 3) := by decide +kernel
theorem dJ2_inflate_0e8fd_17 : decode cJ2_inflate_0e8fd 17 = .ok (.aload_n 2, 1) := by decide +kernel
theorem dJ2_inflate_0e8fd_18 : decode cJ2_inflate_0e8fd 18 = .ok (.iload_n 3, 1) := by decide +kernel
theorem dJ2_inflate_0e8fd_19 : decode cJ2_inflate_0e8fd 19 = .ok (.iinc 3 1, 3) := by decide +kernel
theorem dJ2_inflate_0e8fd_22 : decode cJ2_inflate_0e8fd 22 = .ok (.aload_n 0, 1) := by decide +kernel
theorem dJ2_inflate_0e8fd_23 : decode cJ2_inflate_0e8fd 23 = .ok (.iload_n 1, 1) := by decide +kernel
theorem dJ2_inflate_0e8fd_24 : decode cJ2_inflate_0e8fd 24 = .ok (.iinc 1 1, 3) := by decide +kernel
theorem dJ2_inflate_0e8fd_27 : decode cJ2_inflate_0e8fd 27 = .ok (.baload, 1) := by decide +kernel
theorem dJ2_inflate_0e8fd_28 : decode cJ2_inflate_0e8fd 28 = .ok (.sipush 255, 3) := by decide +kernel
theorem dJ2_inflate_0e8fd_31 : decode cJ2_inflate_0e8fd 31 = .ok (.iand, 1) := by decide +kernel
theorem dJ2_inflate_0e8fd_32 : decode cJ2_inflate_0e8fd 32 = .ok (.invokestatic 111, 3) := by decide +kernel
theorem dJ2_inflate_0e8fd_35 : decode cJ2_inflate_0e8fd 35 = .ok (.iinc 5 1, 3) := by decide +kernel
theorem dJ2_inflate_0e8fd_38 : decode cJ2_inflate_0e8fd 38 = .ok (.goto (-28), 3) := by decide +kernel
theorem dJ2_inflate_0e8fd_41 : decode cJ2_inflate_0e8fd 41 = .ok (.return_, 1) := by decide +kernel
theorem dJ2_getChars_ba4f3_0 : decode cJ2_getChars_ba4f3 0 = .ok (.iload_n 1, 1) := by decide +kernel
theorem dJ2_getChars_ba4f3_1 : decode cJ2_getChars_ba4f3 1 = .ok (.istore 5, 2) := by decide +kernel
theorem dJ2_getChars_ba4f3_3 : decode cJ2_getChars_ba4f3 3 = .ok (.iload_n 0, 1) := by decide +kernel
theorem dJ2_getChars_ba4f3_4 : decode cJ2_getChars_ba4f3 4 = .ok (.ifCond .ge 7, 3) := by decide +kernel
theorem dJ2_getChars_ba4f3_7 : decode cJ2_getChars_ba4f3 7 = .ok (.iconst 1, 1) := by decide +kernel
theorem dJ2_getChars_ba4f3_8 : decode cJ2_getChars_ba4f3 8 = .ok (.goto 4, 3) := by decide +kernel
theorem dJ2_getChars_ba4f3_11 : decode cJ2_getChars_ba4f3 11 = .ok (.iconst 0, 1) := by decide +kernel
theorem dJ2_getChars_ba4f3_12 : decode cJ2_getChars_ba4f3 12 = .ok (.istore 6, 2) := by decide +kernel
theorem dJ2_getChars_ba4f3_14 : decode cJ2_getChars_ba4f3 14 = .ok (.iload 6, 2) := by decide +kernel
theorem dJ2_getChars_ba4f3_16 : decode cJ2_getChars_ba4f3 16 = .ok (.ifCond .ne 6, 3) := by decide +kernel
theorem dJ2_getChars_ba4f3_19 : decode cJ2_getChars_ba4f3 19 = .ok (.iload_n 0, 1) := by decide +kernel
theorem dJ2_getChars_ba4f3_20 : decode cJ2_getChars_ba4f3 20 = .ok (.ineg, 1) := by decide +kernel
theorem dJ2_getChars_ba4f3_21 : decode cJ2_getChars_ba4f3 21 = .ok (.istore_n 0, 1) := by decide +kernel
theorem dJ2_getChars_ba4f3_22 : decode cJ2_getChars_ba4f3 22 = .ok (.iload_n 0, 1) := by decide +kernel
theorem dJ2_getChars_ba4f3_23 : decode cJ2_getChars_ba4f3 23 = .ok (.bipush (-100), 2) := by decide +kernel
theorem dJ2_getChars_ba4f3_25 : decode cJ2_getChars_ba4f3 25 = .ok (.if_icmp .gt 51, 3) := by decide +kernel
theorem dJ2_getChars_ba4f3_28 : decode cJ2_getChars_ba4f3 28 = .ok (.iload_n 0, 1) := by decide +kernel
theorem dJ2_getChars_ba4f3_29 : decode cJ2_getChars_ba4f3 29 = .ok (.bipush 100, 2) := by decide +kernel
theorem dJ2_getChars_ba4f3_31 : decode cJ2_getChars_ba4f3 31 = .ok (.idiv, 1) := by decide +kernel
theorem dJ2_getChars_ba4f3_32 : decode cJ2_getChars_ba4f3 32 = .ok (.istore_n 3, 1) := by decide +kernel
theorem dJ2_getChars_ba4f3_33 : decode cJ2_getChars_ba4f3 33 = .ok (.iload_n 3, 1) := by decide +kernel
theorem dJ2_getChars_ba4f3_34 : decode cJ2_getChars_ba4f3 34 = .ok (.bipush 100, 2) := by decide +kernel
theorem dJ2_getChars_ba4f3_36 : decode cJ2_getChars_ba4f3 36 = .ok (.imul, 1) := by decide +kernel
theorem dJ2_getChars_ba4f3_37 : decode cJ2_getChars_ba4f3 37 = .ok (.iload_n 0, 1) := by decide +kernel
theorem dJ2_getChars_ba4f3_38 : decode cJ2_getChars_ba4f3 38 = .ok (.isub, 1) := by decide +kernel
theorem dJ2_getChars_ba4f3_39 : decode cJ2_getChars_ba4f3 39 = .ok (.istore 4, 2) := by decide +kernel
theorem dJ2_getChars_ba4f3_41 : decode cJ2_getChars_ba4f3 41 = .ok (.iload_n 3, 1) := by decide +kernel
theorem dJ2_getChars_ba4f3_42 : decode cJ2_getChars_ba4f3 42 = .ok (.istore_n 0, 1) := by decide +kernel
theorem dJ2_getChars_ba4f3_43 : decode cJ2_getChars_ba4f3 43 = .ok (.aload_n 2, 1) := by decide +kernel
theorem dJ2_getChars_ba4f3_44 : decode cJ2_getChars_ba4f3 44 = .ok (.iinc 5 (-1), 3) := by decide +kernel
theorem dJ2_getChars_ba4f3_47 : decode cJ2_getChars_ba4f3 47 = .ok (.iload 5, 2) := by decide +kernel
theorem dJ2_getChars_ba4f3_49 : decode cJ2_getChars_ba4f3 49 = .ok (.getstatic 403, 3) := by decide +kernel
theorem dJ2_getChars_ba4f3_52 : decode cJ2_getChars_ba4f3 52 = .ok (.iload 4, 2) := by decide +kernel
theorem dJ2_getChars_ba4f3_54 : decode cJ2_getChars_ba4f3 54 = .ok (.baload, 1) := by decide +kernel
theorem dJ2_getChars_ba4f3_55 : decode cJ2_getChars_ba4f3 55 = .ok (.invokestatic 111, 3) := by decide +kernel
theorem dJ2_getChars_ba4f3_58 : decode cJ2_getChars_ba4f3 58 = .ok (.aload_n 2, 1) := by decide +kernel
theorem dJ2_getChars_ba4f3_59 : decode cJ2_getChars_ba4f3 59 = .ok (.iinc 5 (-1), 3) := by decide +kernel
theorem dJ2_getChars_ba4f3_62 : decode cJ2_getChars_ba4f3 62 = .ok (.iload 5, 2) := by decide +kernel
theorem dJ2_getChars_ba4f3_64 : decode cJ2_getChars_ba4f3 64 = .ok (.getstatic 407, 3) := by decide +kernel
theorem dJ2_getChars_ba4f3_67 : decode cJ2_getChars_ba4f3 67 = .ok (.iload 4, 2) := by decide +kernel
theorem dJ2_getChars_ba4f3_69 : decode cJ2_getChars_ba4f3 69 = .ok (.baload, 1) := by decide +kernel
theorem dJ2_getChars_ba4f3_70 : decode cJ2_getChars_ba4f3 70 = .ok (.invokestatic 111, 3) := by decide +kernel
theorem dJ2_getChars_ba4f3_73 : decode cJ2_getChars_ba4f3 73 = .ok (.goto (-51), 3) := by decide +kernel
theorem dJ2_getChars_ba4f3_76 : decode cJ2_getChars_ba4f3 76 = .ok (.aload_n 2, 1) := by decide +kernel
theorem dJ2_getChars_ba4f3_77 : decode cJ2_getChars_ba4f3 77 = .ok (.iinc 5 (-1), 3) := by decide +kernel
theorem dJ2_getChars_ba4f3_80 : decode cJ2_getChars_ba4f3 80 = .ok (.iload 5, 2) := by decide +kernel
theorem dJ2_getChars_ba4f3_82 : decode cJ2_getChars_ba4f3 82 = .ok (.getstatic 403, 3) := by decide +kernel
theorem dJ2_getChars_ba4f3_85 : decode cJ2_getChars_ba4f3 85 = .ok (.iload_n 0, 1) := by decide +kernel
theorem dJ2_getChars_ba4f3_86 : decode cJ2_getChars_ba4f3 86 = .ok (.ineg, 1) := by decide +kernel
theorem dJ2_getChars_ba4f3_87 : decode cJ2_getChars_ba4f3 87 = .ok (.baload, 1) := by decide +kernel
theorem dJ2_getChars_ba4f3_88 : decode cJ2_getChars_ba4f3 88 = .ok (.invokestatic 111, 3) := by decide +kernel
theorem dJ2_getChars_ba4f3_91 : decode cJ2_getChars_ba4f3 91 = .ok (.iload_n 0, 1) := by decide +kernel
theorem dJ2_getChars_ba4f3_92 : decode cJ2_getChars_ba4f3 92 = .ok (.bipush (-9), 2) := by decide +kernel
theorem dJ2_getChars_ba4f3_94 : decode cJ2_getChars_ba4f3 94 = .ok (.if_icmp .ge 18, 3) := by decide +kernel
theorem dJ2_getChars_ba4f3_97 : decode cJ2_getChars_ba4f3 97 = .ok (.aload_n 2, 1) := by decide +kernel
theorem dJ2_getChars_ba4f3_98 : decode cJ2_getChars_ba4f3 98 = .ok (.iinc 5 (-1), 3) := by decide +kernel
theorem dJ2_getChars_ba4f3_101 : decode cJ2_getChars_ba4f3 101 = .ok (.iload 5, 2) := by decide +kernel
theorem dJ2_getChars_ba4f3_103 : decode cJ2_getChars_ba4f3 103 = .ok (.getstatic 407, 3) := by decide +kernel
theorem dJ2_getChars_ba4f3_106 : decode cJ2_getChars_ba4f3 106 = .ok (.iload_n 0, 1) := by decide +kernel
theorem dJ2_getChars_ba4f3_107 : decode cJ2_getChars_ba4f3 107 = .ok (.ineg, 1) := by decide +kernel
theorem dJ2_getChars_ba4f3_108 : decode cJ2_getChars_ba4f3 108 = .ok (.baload, 1) := by decide +kernel
theorem dJ2_getChars_ba4f3_109 : decode cJ2_getChars_ba4f3 109 = .ok (.invokestatic 111, 3) := by decide +kernel
theorem dJ2_getChars_ba4f3_112 : decode cJ2_getChars_ba4f3 112 = .ok (.iload 6, 2) := by decide +kernel
theorem dJ2_getChars_ba4f3_114 : decode cJ2_getChars_ba4f3 114 = .ok (.ifCond .eq 14, 3) := by decide +kernel
theorem dJ2_getChars_ba4f3_117 : decode cJ2_getChars_ba4f3 117 = .ok (.aload_n 2, 1) := by decide +kernel
theorem dJ2_getChars_ba4f3_118 : decode cJ2_getChars_ba4f3 118 = .ok (.iinc 5 (-1), 3) := by decide +kernel
theorem dJ2_getChars_ba4f3_121 : decode cJ2_getChars_ba4f3 121 = .ok (.iload 5, 2) := by decide +kernel
theorem dJ2_getChars_ba4f3_123 : decode cJ2_getChars_ba4f3 123 = .ok (.bipush 45, 2) := by decide +kernel
theorem dJ2_getChars_ba4f3_125 : decode cJ2_getChars_ba4f3 125 = .ok (.invokestatic 111, 3) := by decide +kernel
theorem dJ2_getChars_ba4f3_128 : decode cJ2_getChars_ba4f3 128 = .ok (.iload 5, 2) := by decide +kernel
theorem dJ2_getChars_ba4f3_130 : decode cJ2_getChars_ba4f3 130 = .ok (.ireturn, 1) := by decide +kernel
theorem dJ2_checkIndex_2214a_0 : decode cJ2_checkIndex_2214a 0 = .ok (.iload_n 0, 1) := by decide +kernel
theorem dJ2_checkIndex_2214a_1 : decode cJ2_checkIndex_2214a 1 = .ok (.aload_n 1, 1) := by decide +kernel
theorem dJ2_checkIndex_2214a_2 : decode cJ2_checkIndex_2214a 2 = .ok (.invokestatic 48, 3) := by decide +kernel
theorem dJ2_checkIndex_2214a_5 : decode cJ2_checkIndex_2214a 5 = .ok (.invokestatic 414, 3) := by decide +kernel
theorem dJ2_checkIndex_2214a_8 : decode cJ2_checkIndex_2214a 8 = .ok (.return_, 1) := by decide +kernel
theorem dJ2_checkBoundsBeginEnd_d044e_0 : decode cJ2_checkBoundsBeginEnd_d044e 0 = .ok (.iload_n 0, 1) := by decide +kernel
theorem dJ2_checkBoundsBeginEnd_d044e_1 : decode cJ2_checkBoundsBeginEnd_d044e 1 = .ok (.iload_n 1, 1) := by decide +kernel
theorem dJ2_checkBoundsBeginEnd_d044e_2 : decode cJ2_checkBoundsBeginEnd_d044e 2 = .ok (.aload_n 2, 1) := by decide +kernel
theorem dJ2_checkBoundsBeginEnd_d044e_3 : decode cJ2_checkBoundsBeginEnd_d044e 3 = .ok (.invokestatic 48, 3) := by decide +kernel
theorem dJ2_checkBoundsBeginEnd_d044e_6 : decode cJ2_checkBoundsBeginEnd_d044e 6 = .ok (.invokestatic 241, 3) := by decide +kernel
theorem dJ2_checkBoundsBeginEnd_d044e_9 : decode cJ2_checkBoundsBeginEnd_d044e 9 = .ok (.return_, 1) := by decide +kernel
theorem dJ2_checkBoundsOffCount_d044e_0 : decode cJ2_checkBoundsOffCount_d044e 0 = .ok (.iload_n 0, 1) := by decide +kernel
theorem dJ2_checkBoundsOffCount_d044e_1 : decode cJ2_checkBoundsOffCount_d044e 1 = .ok (.iload_n 1, 1) := by decide +kernel
theorem dJ2_checkBoundsOffCount_d044e_2 : decode cJ2_checkBoundsOffCount_d044e 2 = .ok (.aload_n 2, 1) := by decide +kernel
theorem dJ2_checkBoundsOffCount_d044e_3 : decode cJ2_checkBoundsOffCount_d044e 3 = .ok (.invokestatic 48, 3) := by decide +kernel
theorem dJ2_checkBoundsOffCount_d044e_6 : decode cJ2_checkBoundsOffCount_d044e 6 = .ok (.invokestatic 419, 3) := by decide +kernel
theorem dJ2_checkBoundsOffCount_d044e_9 : decode cJ2_checkBoundsOffCount_d044e 9 = .ok (.pop, 1) := by decide +kernel
theorem dJ2_checkBoundsOffCount_d044e_10 : decode cJ2_checkBoundsOffCount_d044e 10 = .ok (.return_, 1) := by decide +kernel
theorem dJ7_rangeCheck_23922_0 : decode cJ7_rangeCheck_23922 0 = .ok (.iload_n 1, 1) := by decide +kernel
theorem dJ7_rangeCheck_23922_1 : decode cJ7_rangeCheck_23922 1 = .ok (.iload_n 2, 1) := by decide +kernel
theorem dJ7_rangeCheck_23922_2 : decode cJ7_rangeCheck_23922 2 = .ok (.if_icmp .le 44, 3) := by decide +kernel
theorem dJ7_rangeCheck_23922_5 : decode cJ7_rangeCheck_23922 5 = .ok (.new 43, 3) := by decide +kernel
theorem dJ7_rangeCheck_23922_8 : decode cJ7_rangeCheck_23922 8 = .ok (.dup, 1) := by decide +kernel
theorem dJ7_rangeCheck_23922_9 : decode cJ7_rangeCheck_23922 9 = .ok (.new 45, 3) := by decide +kernel
theorem dJ7_rangeCheck_23922_12 : decode cJ7_rangeCheck_23922 12 = .ok (.dup, 1) := by decide +kernel
theorem dJ7_rangeCheck_23922_13 : decode cJ7_rangeCheck_23922 13 = .ok (.invokespecial 47, 3) := by decide +kernel
theorem dJ7_rangeCheck_23922_16 : decode cJ7_rangeCheck_23922 16 = .ok (.ldc 48, 2) := by decide +kernel
theorem dJ7_rangeCheck_23922_18 : decode cJ7_rangeCheck_23922 18 = .ok (.invokevirtual 50, 3) := by decide +kernel
theorem dJ7_rangeCheck_23922_21 : decode cJ7_rangeCheck_23922 21 = .ok (.iload_n 1, 1) := by decide +kernel
theorem dJ7_rangeCheck_23922_22 : decode cJ7_rangeCheck_23922 22 = .ok (.invokevirtual 54, 3) := by decide +kernel
theorem dJ7_rangeCheck_23922_25 : decode cJ7_rangeCheck_23922 25 = .ok (.ldc 57, 2) := by decide +kernel
theorem dJ7_rangeCheck_23922_27 : decode cJ7_rangeCheck_23922 27 = .ok (.invokevirtual 50, 3) := by decide +kernel
theorem dJ7_rangeCheck_23922_30 : decode cJ7_rangeCheck_23922 30 = .ok (.iload_n 2, 1) := by decide +kernel
theorem dJ7_rangeCheck_23922_31 : decode cJ7_rangeCheck_23922 31 = .ok (.invokevirtual 54, 3) := by decide +kernel
theorem dJ7_rangeCheck_23922_34 : decode cJ7_rangeCheck_23922 34 = .ok (.ldc 59, 2) := by decide +kernel
theorem dJ7_rangeCheck_23922_36 : decode cJ7_rangeCheck_23922 36 = .ok (.invokevirtual 50, 3) := by decide +kernel
theorem dJ7_rangeCheck_23922_39 : decode cJ7_rangeCheck_23922 39 = .ok (.invokevirtual 61, 3) := by decide +kernel
theorem dJ7_rangeCheck_23922_42 : decode cJ7_rangeCheck_23922 42 = .ok (.invokespecial 65, 3) := by decide +kernel
theorem dJ7_rangeCheck_23922_45 : decode cJ7_rangeCheck_23922 45 = .ok (.athrow, 1) := by decide +kernel
theorem dJ7_rangeCheck_23922_46 : decode cJ7_rangeCheck_23922 46 = .ok (.iload_n 1, 1) := by decide +kernel
theorem dJ7_rangeCheck_23922_47 : decode cJ7_rangeCheck_23922 47 = .ok (.ifCond .ge 12, 3) := by decide +kernel
theorem dJ7_rangeCheck_23922_50 : decode cJ7_rangeCheck_23922 50 = .ok (.new 68, 3) := by decide +kernel
theorem dJ7_rangeCheck_23922_53 : decode cJ7_rangeCheck_23922 53 = .ok (.dup, 1) := by decide +kernel
theorem dJ7_rangeCheck_23922_54 : decode cJ7_rangeCheck_23922 54 = .ok (.iload_n 1, 1) := by decide +kernel
theorem dJ7_rangeCheck_23922_55 : decode cJ7_rangeCheck_23922 55 = .ok (.invokespecial 70, 3) := by decide +kernel
theorem dJ7_rangeCheck_23922_58 : decode cJ7_rangeCheck_23922 58 = .ok (.athrow, 1) := by decide +kernel
theorem dJ7_rangeCheck_23922_59 : decode cJ7_rangeCheck_23922 59 = .ok (.iload_n 2, 1) := by decide +kernel
theorem dJ7_rangeCheck_23922_60 : decode cJ7_rangeCheck_23922 60 = .ok (.iload_n 0, 1) := by decide +kernel
theorem dJ7_rangeCheck_23922_61 : decode cJ7_rangeCheck_23922 61 = .ok (.if_icmp .le 12, 3) := by decide +kernel
theorem dJ7_rangeCheck_23922_64 : decode cJ7_rangeCheck_23922 64 = .ok (.new 68, 3) := by decide +kernel
theorem dJ7_rangeCheck_23922_67 : decode cJ7_rangeCheck_23922 67 = .ok (.dup, 1) := by decide +kernel
theorem dJ7_rangeCheck_23922_68 : decode cJ7_rangeCheck_23922 68 = .ok (.iload_n 2, 1) := by decide +kernel
theorem dJ7_rangeCheck_23922_69 : decode cJ7_rangeCheck_23922 69 = .ok (.invokespecial 70, 3) := by decide +kernel
theorem dJ7_rangeCheck_23922_72 : decode cJ7_rangeCheck_23922 72 = .ok (.athrow, 1) := by decide +kernel
theorem dJ7_rangeCheck_23922_73 : decode cJ7_rangeCheck_23922 73 = .ok (.return_, 1) := by decide +kernel
theorem dJ7_fill_eb02e_0 : decode cJ7_fill_eb02e 0 = .ok (.aload_n 0, 1) := by decide +kernel
theorem dJ7_fill_eb02e_1 : decode cJ7_fill_eb02e 1 = .ok (.arraylength, 1) := by decide +kernel
theorem dJ7_fill_eb02e_2 : decode cJ7_fill_eb02e 2 = .ok (.iload_n 1, 1) := by decide +kernel
theorem dJ7_fill_eb02e_3 : decode cJ7_fill_eb02e 3 = .ok (.iload_n 2, 1) := by decide +kernel
theorem dJ7_fill_eb02e_4 : decode cJ7_fill_eb02e 4 = .ok (.invokestatic 13, 3) := by decide +kernel
theorem dJ7_fill_eb02e_7 : decode cJ7_fill_eb02e 7 = .ok (.iload_n 1, 1) := by decide +kernel
theorem dJ7_fill_eb02e_8 : decode cJ7_fill_eb02e 8 = .ok (.istore 4, 2) := by decide +kernel
theorem dJ7_fill_eb02e_10 : decode cJ7_fill_eb02e 10 = .ok (.iload 4, 2) := by decide +kernel
theorem dJ7_fill_eb02e_12 : decode cJ7_fill_eb02e 12 = .ok (.iload_n 2, 1) := by decide +kernel
theorem dJ7_fill_eb02e_13 : decode cJ7_fill_eb02e 13 = .ok (.if_icmp .ge 14, 3) := by decide +kernel
theorem dJ7_fill_eb02e_16 : decode cJ7_fill_eb02e 16 = .ok (.aload_n 0, 1) := by decide +kernel
theorem dJ7_fill_eb02e_17 : decode cJ7_fill_eb02e 17 = .ok (.iload 4, 2) := by decide +kernel
theorem dJ7_fill_eb02e_19 : decode cJ7_fill_eb02e 19 = .ok (.iload_n 3, 1) := by decide +kernel
theorem dJ7_fill_eb02e_20 : decode cJ7_fill_eb02e 20 = .ok (.bastore, 1) := by decide +kernel
theorem dJ7_fill_eb02e_21 : decode cJ7_fill_eb02e 21 = .ok (.iinc 4 1, 3) := by decide +kernel
theorem dJ7_fill_eb02e_24 : decode cJ7_fill_eb02e 24 = .ok (.goto (-14), 3) := by decide +kernel
theorem dJ7_fill_eb02e_27 : decode cJ7_fill_eb02e 27 = .ok (.return_, 1) := by decide +kernel
theorem dJ7_copyOf_9075b_0 : decode cJ7_copyOf_9075b 0 = .ok (.iload_n 1, 1) := by decide +kernel
theorem dJ7_copyOf_9075b_1 : decode cJ7_copyOf_9075b 1 = .ok (.aload_n 0, 1) := by decide +kernel
theorem dJ7_copyOf_9075b_2 : decode cJ7_copyOf_9075b 2 = .ok (.arraylength, 1) := by decide +kernel
theorem dJ7_copyOf_9075b_3 : decode cJ7_copyOf_9075b 3 = .ok (.if_icmp .ne 11, 3) := by decide +kernel
theorem dJ7_copyOf_9075b_6 : decode cJ7_copyOf_9075b 6 = .ok (.aload_n 0, 1) := by decide +kernel
theorem dJ7_copyOf_9075b_7 : decode cJ7_copyOf_9075b 7 = .ok (.invokevirtual 310, 3) := by decide +kernel
theorem dJ7_copyOf_9075b_10 : decode cJ7_copyOf_9075b 10 = .ok (.checkcast 311, 3) := by decide +kernel
theorem dJ7_copyOf_9075b_13 : decode cJ7_copyOf_9075b 13 = .ok (.areturn, 1) := by decide +kernel
theorem dJ7_copyOf_9075b_14 : decode cJ7_copyOf_9075b 14 = .ok (.iload_n 1, 1) := by decide +kernel
theorem dJ7_copyOf_9075b_15 : decode cJ7_copyOf_9075b 15 = .ok (.newarray .byte, 2) := by decide +kernel
theorem dJ7_copyOf_9075b_17 : decode cJ7_copyOf_9075b 17 = .ok (.astore_n 2, 1) := by decide +kernel
theorem dJ7_copyOf_9075b_18 : decode cJ7_copyOf_9075b 18 = .ok (.aload_n 0, 1) := by decide +kernel
theorem dJ7_copyOf_9075b_19 : decode cJ7_copyOf_9075b 19 = .ok (.iconst 0, 1) := by decide +kernel
theorem dJ7_copyOf_9075b_20 : decode cJ7_copyOf_9075b 20 = .ok (.aload_n 2, 1) := by decide +kernel
theorem dJ7_copyOf_9075b_21 : decode cJ7_copyOf_9075b 21 = .ok (.iconst 0, 1) := by decide +kernel
theorem dJ7_copyOf_9075b_22 : decode cJ7_copyOf_9075b 22 = .ok (.aload_n 0, 1) := by decide +kernel
theorem dJ7_copyOf_9075b_23 : decode cJ7_copyOf_9075b 23 = .ok (.arraylength, 1) := by decide +kernel
theorem dJ7_copyOf_9075b_24 : decode cJ7_copyOf_9075b 24 = .ok (.iload_n 1, 1) := by decide +kernel
theorem dJ7_copyOf_9075b_25 : decode cJ7_copyOf_9075b 25 = .ok (.invokestatic 304, 3) := by decide +kernel
theorem dJ7_copyOf_9075b_28 : decode cJ7_copyOf_9075b 28 = .ok (.invokestatic 150, 3) := by decide +kernel
theorem dJ7_copyOf_9075b_31 : decode cJ7_copyOf_9075b 31 = .ok (.aload_n 2, 1) := by decide +kernel
theorem dJ7_copyOf_9075b_32 : decode cJ7_copyOf_9075b 32 = .ok (.areturn, 1) := by decide +kernel
theorem dJ7_checkLength_df160_0 : decode cJ7_checkLength_df160 0 = .ok (.iload_n 1, 1) := by decide +kernel
theorem dJ7_checkLength_df160_1 : decode cJ7_checkLength_df160 1 = .ok (.iload_n 0, 1) := by decide +kernel
theorem dJ7_checkLength_df160_2 : decode cJ7_checkLength_df160 2 = .ok (.if_icmp .ge 35, 3) := by decide +kernel
theorem dJ7_checkLength_df160_5 : decode cJ7_checkLength_df160 5 = .ok (.new 43, 3) := by decide +kernel
theorem dJ7_checkLength_df160_8 : decode cJ7_checkLength_df160 8 = .ok (.dup, 1) := by decide +kernel
theorem dJ7_checkLength_df160_9 : decode cJ7_checkLength_df160 9 = .ok (.new 45, 3) := by decide +kernel
theorem dJ7_checkLength_df160_12 : decode cJ7_checkLength_df160 12 = .ok (.dup, 1) := by decide +kernel
theorem dJ7_checkLength_df160_13 : decode cJ7_checkLength_df160 13 = .ok (.invokespecial 47, 3) := by decide +kernel
theorem dJ7_checkLength_df160_16 : decode cJ7_checkLength_df160 16 = .ok (.iload_n 0, 1) := by decide +kernel
theorem dJ7_checkLength_df160_17 : decode cJ7_checkLength_df160 17 = .ok (.invokevirtual 54, 3) := by decide +kernel
theorem dJ7_checkLength_df160_20 : decode cJ7_checkLength_df160 20 = .ok (.ldc_w 337, 3) := by decide +kernel
theorem dJ7_checkLength_df160_23 : decode cJ7_checkLength_df160 23 = .ok (.invokevirtual 50, 3) := by decide +kernel
theorem dJ7_checkLength_df160_26 : decode cJ7_checkLength_df160 26 = .ok (.iload_n 1, 1) := by decide +kernel
theorem dJ7_checkLength_df160_27 : decode cJ7_checkLength_df160 27 = .ok (.invokevirtual 54, 3) := by decide +kernel
theorem dJ7_checkLength_df160_30 : decode cJ7_checkLength_df160 30 = .ok (.invokevirtual 61, 3) := by decide +kernel
theorem dJ7_checkLength_df160_33 : decode cJ7_checkLength_df160 33 = .ok (.invokespecial 65, 3) := by decide +kernel
theorem dJ7_checkLength_df160_36 : decode cJ7_checkLength_df160 36 = .ok (.athrow, 1) := by decide +kernel
theorem dJ7_checkLength_df160_37 : decode cJ7_checkLength_df160 37 = .ok (.return_, 1) := by decide +kernel
theorem dJ7_copyOfRange_39247_0 : decode cJ7_copyOfRange_39247 0 = .ok (.iload_n 1, 1) := by decide +kernel
theorem dJ7_copyOfRange_39247_1 : decode cJ7_copyOfRange_39247 1 = .ok (.ifCond .ne 9, 3) := by decide +kernel
theorem dJ7_copyOfRange_39247_4 : decode cJ7_copyOfRange_39247 4 = .ok (.iload_n 2, 1) := by decide +kernel
theorem dJ7_copyOfRange_39247_5 : decode cJ7_copyOfRange_39247 5 = .ok (.aload_n 0, 1) := by decide +kernel
theorem dJ7_copyOfRange_39247_6 : decode cJ7_copyOfRange_39247 6 = .ok (.arraylength, 1) := by decide +kernel
theorem dJ7_copyOfRange_39247_7 : decode cJ7_copyOfRange_39247 7 = .ok (.if_icmp .eq 10, 3) := by decide +kernel
theorem dJ7_copyOfRange_39247_10 : decode cJ7_copyOfRange_39247 10 = .ok (.aload_n 0, 1) := by decide +kernel
theorem dJ7_copyOfRange_39247_11 : decode cJ7_copyOfRange_39247 11 = .ok (.iload_n 1, 1) := by decide +kernel
theorem dJ7_copyOfRange_39247_12 : decode cJ7_copyOfRange_39247 12 = .ok (.iload_n 2, 1) := by decide +kernel
theorem dJ7_copyOfRange_39247_13 : decode cJ7_copyOfRange_39247 13 = .ok (.invokestatic 339, 3) := by decide +kernel
theorem dJ7_copyOfRange_39247_16 : decode cJ7_copyOfRange_39247 16 = .ok (.areturn, 1) := by decide +kernel
theorem dJ7_copyOfRange_39247_17 : decode cJ7_copyOfRange_39247 17 = .ok (.aload_n 0, 1) := by decide +kernel
theorem dJ7_copyOfRange_39247_18 : decode cJ7_copyOfRange_39247 18 = .ok (.invokevirtual 310, 3) := by decide +kernel
theorem dJ7_copyOfRange_39247_21 : decode cJ7_copyOfRange_39247 21 = .ok (.checkcast 311, 3) := by decide +kernel
theorem dJ7_copyOfRange_39247_24 : decode cJ7_copyOfRange_39247 24 = .ok (.areturn, 1) := by decide +kernel
theorem dJ7_copyOfRangeByte_39247_0 : decode cJ7_copyOfRangeByte_39247 0 = .ok (.iload_n 1, 1) := by decide +kernel
theorem dJ7_copyOfRangeByte_39247_1 : decode cJ7_copyOfRangeByte_39247 1 = .ok (.iload_n 2, 1) := by decide +kernel
theorem dJ7_copyOfRangeByte_39247_2 : decode cJ7_copyOfRangeByte_39247 2 = .ok (.invokestatic 343, 3) := by decide +kernel
theorem dJ7_copyOfRangeByte_39247_5 : decode cJ7_copyOfRangeByte_39247 5 = .ok (.iload_n 2, 1) := by decide +kernel
theorem dJ7_copyOfRangeByte_39247_6 : decode cJ7_copyOfRangeByte_39247 6 = .ok (.iload_n 1, 1) := by decide +kernel
theorem dJ7_copyOfRangeByte_39247_7 : decode cJ7_copyOfRangeByte_39247 7 = .ok (.isub, 1) := by decide +kernel
theorem dJ7_copyOfRangeByte_39247_8 : decode cJ7_copyOfRangeByte_39247 8 = .ok (.istore_n 3, 1) := by decide +kernel
theorem dJ7_copyOfRangeByte_39247_9 : decode cJ7_copyOfRangeByte_39247 9 = .ok (.iload_n 3, 1) := by decide +kernel
theorem dJ7_copyOfRangeByte_39247_10 : decode cJ7_copyOfRangeByte_39247 10 = .ok (.newarray .byte, 2) := by decide +kernel
theorem dJ7_copyOfRangeByte_39247_12 : decode cJ7_copyOfRangeByte_39247 12 = .ok (.astore 4, 2) := by decide +kernel
theorem dJ7_copyOfRangeByte_39247_14 : decode cJ7_copyOfRangeByte_39247 14 = .ok (.aload_n 0, 1) := by decide +kernel
theorem dJ7_copyOfRangeByte_39247_15 : decode cJ7_copyOfRangeByte_39247 15 = .ok (.iload_n 1, 1) := by decide +kernel
theorem dJ7_copyOfRangeByte_39247_16 : decode cJ7_copyOfRangeByte_39247 16 = .ok (.aload 4, 2) := by decide +kernel
theorem dJ7_copyOfRangeByte_39247_18 : decode cJ7_copyOfRangeByte_39247 18 = .ok (.iconst 0, 1) := by decide +kernel
theorem dJ7_copyOfRangeByte_39247_19 : decode cJ7_copyOfRangeByte_39247 19 = .ok (.aload_n 0, 1) := by decide +kernel
theorem dJ7_copyOfRangeByte_39247_20 : decode cJ7_copyOfRangeByte_39247 20 = .ok (.arraylength, 1) := by decide +kernel
theorem dJ7_copyOfRangeByte_39247_21 : decode cJ7_copyOfRangeByte_39247 21 = .ok (.iload_n 1, 1) := by decide +kernel
theorem dJ7_copyOfRangeByte_39247_22 : decode cJ7_copyOfRangeByte_39247 22 = .ok (.isub, 1) := by decide +kernel
theorem dJ7_copyOfRangeByte_39247_23 : decode cJ7_copyOfRangeByte_39247 23 = .ok (.iload_n 3, 1) := by decide +kernel
theorem dJ7_copyOfRangeByte_39247_24 : decode cJ7_copyOfRangeByte_39247 24 = .ok (.invokestatic 304, 3) := by decide +kernel
theorem dJ7_copyOfRangeByte_39247_27 : decode cJ7_copyOfRangeByte_39247 27 = .ok (.invokestatic 150, 3) := by decide +kernel
theorem dJ7_copyOfRangeByte_39247_30 : decode cJ7_copyOfRangeByte_39247 30 = .ok (.aload 4, 2) := by decide +kernel
theorem dJ7_copyOfRangeByte_39247_32 : decode cJ7_copyOfRangeByte_39247 32 = .ok (.areturn, 1) := by decide +kernel
theorem dJ8_newLength_cabcc_0 : decode cJ8_newLength_cabcc 0 = .ok (.iload_n 0, 1) := by decide +kernel
theorem dJ8_newLength_cabcc_1 : decode cJ8_newLength_cabcc 1 = .ok (.iload_n 1, 1) := by decide +kernel
theorem dJ8_newLength_cabcc_2 : decode cJ8_newLength_cabcc 2 = .ok (.iload_n 2, 1) := by decide +kernel
theorem dJ8_newLength_cabcc_3 : decode cJ8_newLength_cabcc 3 = .ok (.invokestatic 194, 3) := by decide +kernel
theorem dJ8_newLength_cabcc_6 : decode cJ8_newLength_cabcc 6 = .ok (.iadd, 1) := by decide +kernel
theorem dJ8_newLength_cabcc_7 : decode cJ8_newLength_cabcc 7 = .ok (.istore_n 3, 1) := by decide +kernel
theorem dJ8_newLength_cabcc_8 : decode cJ8_newLength_cabcc 8 = .ok (.iconst 0, 1) := by decide +kernel
theorem dJ8_newLength_cabcc_9 : decode cJ8_newLength_cabcc 9 = .ok (.iload_n 3, 1) := by decide +kernel
theorem dJ8_newLength_cabcc_10 : decode cJ8_newLength_cabcc 10 = .ok (.if_icmp .ge 11, 3) := by decide +kernel
theorem dJ8_newLength_cabcc_13 : decode cJ8_newLength_cabcc 13 = .ok (.iload_n 3, 1) := by decide +kernel
theorem dJ8_newLength_cabcc_14 : decode cJ8_newLength_cabcc 14 = .ok (.ldc 200, 2) := by decide +kernel
theorem dJ8_newLength_cabcc_16 : decode cJ8_newLength_cabcc 16 = .ok (.if_icmp .gt 5, 3) := by decide +kernel
theorem dJ8_newLength_cabcc_19 : decode cJ8_newLength_cabcc 19 = .ok (.iload_n 3, 1) := by decide +kernel
theorem dJ8_newLength_cabcc_20 : decode cJ8_newLength_cabcc 20 = .ok (.ireturn, 1) := by decide +kernel
theorem dJ8_newLength_cabcc_21 : decode cJ8_newLength_cabcc 21 = .ok (.iload_n 0, 1) := by decide +kernel
theorem dJ8_newLength_cabcc_22 : decode cJ8_newLength_cabcc 22 = .ok (.iload_n 1, 1) := by decide +kernel
theorem dJ8_newLength_cabcc_23 : decode cJ8_newLength_cabcc 23 = .ok (.invokestatic 201, 3) := by decide +kernel
theorem dJ8_newLength_cabcc_26 : decode cJ8_newLength_cabcc 26 = .ok (.ireturn, 1) := by decide +kernel
theorem dJ8_hugeLength_7cf53_0 : decode cJ8_hugeLength_7cf53 0 = .ok (.iload_n 0, 1) := by decide +kernel
theorem dJ8_hugeLength_7cf53_1 : decode cJ8_hugeLength_7cf53 1 = .ok (.iload_n 1, 1) := by decide +kernel
theorem dJ8_hugeLength_7cf53_2 : decode cJ8_hugeLength_7cf53 2 = .ok (.iadd, 1) := by decide +kernel
theorem dJ8_hugeLength_7cf53_3 : decode cJ8_hugeLength_7cf53 3 = .ok (.istore_n 2, 1) := by decide +kernel
theorem dJ8_hugeLength_7cf53_4 : decode cJ8_hugeLength_7cf53 4 = .ok (.iload_n 2, 1) := by decide +kernel
theorem dJ8_hugeLength_7cf53_5 : decode cJ8_hugeLength_7cf53 5 = .ok (.ifCond .ge 44, 3) := by decide +kernel
theorem dJ8_hugeLength_7cf53_8 : decode cJ8_hugeLength_7cf53 8 = .ok (.new 204, 3) := by decide +kernel
theorem dJ8_hugeLength_7cf53_11 : decode cJ8_hugeLength_7cf53 11 = .ok (.dup, 1) := by decide +kernel
theorem dJ8_hugeLength_7cf53_12 : decode cJ8_hugeLength_7cf53 12 = .ok (.new 89, 3) := by decide +kernel
theorem dJ8_hugeLength_7cf53_15 : decode cJ8_hugeLength_7cf53 15 = .ok (.dup, 1) := by decide +kernel
theorem dJ8_hugeLength_7cf53_16 : decode cJ8_hugeLength_7cf53 16 = .ok (.invokespecial 91, 3) := by decide +kernel
theorem dJ8_hugeLength_7cf53_19 : decode cJ8_hugeLength_7cf53 19 = .ok (.ldc 206, 2) := by decide +kernel
theorem dJ8_hugeLength_7cf53_21 : decode cJ8_hugeLength_7cf53 21 = .ok (.invokevirtual 94, 3) := by decide +kernel
theorem dJ8_hugeLength_7cf53_24 : decode cJ8_hugeLength_7cf53 24 = .ok (.iload_n 0, 1) := by decide +kernel
theorem dJ8_hugeLength_7cf53_25 : decode cJ8_hugeLength_7cf53 25 = .ok (.invokevirtual 98, 3) := by decide +kernel
theorem dJ8_hugeLength_7cf53_28 : decode cJ8_hugeLength_7cf53 28 = .ok (.ldc 208, 2) := by decide +kernel
theorem dJ8_hugeLength_7cf53_30 : decode cJ8_hugeLength_7cf53 30 = .ok (.invokevirtual 94, 3) := by decide +kernel
theorem dJ8_hugeLength_7cf53_33 : decode cJ8_hugeLength_7cf53 33 = .ok (.iload_n 1, 1) := by decide +kernel
theorem dJ8_hugeLength_7cf53_34 : decode cJ8_hugeLength_7cf53 34 = .ok (.invokevirtual 98, 3) := by decide +kernel
theorem dJ8_hugeLength_7cf53_37 : decode cJ8_hugeLength_7cf53 37 = .ok (.ldc 210, 2) := by decide +kernel
theorem dJ8_hugeLength_7cf53_39 : decode cJ8_hugeLength_7cf53 39 = .ok (.invokevirtual 94, 3) := by decide +kernel
theorem dJ8_hugeLength_7cf53_42 : decode cJ8_hugeLength_7cf53 42 = .ok (.invokevirtual 101, 3) := by decide +kernel
theorem dJ8_hugeLength_7cf53_45 : decode cJ8_hugeLength_7cf53 45 = .ok (.invokespecial 212, 3) := by decide +kernel
theorem dJ8_hugeLength_7cf53_48 : decode cJ8_hugeLength_7cf53 48 = .ok (.athrow, 1) := by decide +kernel
theorem dJ8_hugeLength_7cf53_49 : decode cJ8_hugeLength_7cf53 49 = .ok (.iload_n 2, 1) := by decide +kernel
theorem dJ8_hugeLength_7cf53_50 : decode cJ8_hugeLength_7cf53 50 = .ok (.ldc 200, 2) := by decide +kernel
theorem dJ8_hugeLength_7cf53_52 : decode cJ8_hugeLength_7cf53 52 = .ok (.if_icmp .gt 6, 3) := by decide +kernel
theorem dJ8_hugeLength_7cf53_55 : decode cJ8_hugeLength_7cf53 55 = .ok (.ldc 200, 2) := by decide +kernel
theorem dJ8_hugeLength_7cf53_57 : decode cJ8_hugeLength_7cf53 57 = .ok (.ireturn, 1) := by decide +kernel
theorem dJ8_hugeLength_7cf53_58 : decode cJ8_hugeLength_7cf53 58 = .ok (.iload_n 2, 1) := by decide +kernel
theorem dJ8_hugeLength_7cf53_59 : decode cJ8_hugeLength_7cf53 59 = .ok (.ireturn, 1) := by decide +kernel
theorem dJ3_checkIndex_8e157_0 : decode cJ3_checkIndex_8e157 0 = .ok (.iload_n 0, 1) := by decide +kernel
theorem dJ3_checkIndex_8e157_1 : decode cJ3_checkIndex_8e157 1 = .ok (.ifCond .lt 8, 3) := by decide +kernel
theorem dJ3_checkIndex_8e157_4 : decode cJ3_checkIndex_8e157 4 = .ok (.iload_n 0, 1) := by decide +kernel
theorem dJ3_checkIndex_8e157_5 : decode cJ3_checkIndex_8e157 5 = .ok (.iload_n 1, 1) := by decide +kernel
theorem dJ3_checkIndex_8e157_6 : decode cJ3_checkIndex_8e157 6 = .ok (.if_icmp .lt 10, 3) := by decide +kernel
theorem dJ3_checkIndex_8e157_9 : decode cJ3_checkIndex_8e157 9 = .ok (.aload_n 2, 1) := by decide +kernel
theorem dJ3_checkIndex_8e157_10 : decode cJ3_checkIndex_8e157 10 = .ok (.iload_n 0, 1) := by decide +kernel
theorem dJ3_checkIndex_8e157_11 : decode cJ3_checkIndex_8e157 11 = .ok (.iload_n 1, 1) := by decide +kernel
theorem dJ3_checkIndex_8e157_12 : decode cJ3_checkIndex_8e157 12 = .ok (.invokestatic 95, 3) := by decide +kernel
theorem dJ3_checkIndex_8e157_15 : decode cJ3_checkIndex_8e157 15 = .ok (.athrow, 1) := by decide +kernel
theorem dJ3_checkIndex_8e157_16 : decode cJ3_checkIndex_8e157 16 = .ok (.iload_n 0, 1) := by decide +kernel
theorem dJ3_checkIndex_8e157_17 : decode cJ3_checkIndex_8e157 17 = .ok (.ireturn, 1) := by decide +kernel
theorem dJ3_checkFromToIndex_8c36e_0 : decode cJ3_checkFromToIndex_8c36e 0 = .ok (.iload_n 0, 1) := by decide +kernel
theorem dJ3_checkFromToIndex_8c36e_1 : decode cJ3_checkFromToIndex_8c36e 1 = .ok (.ifCond .lt 13, 3) := by decide +kernel
theorem dJ3_checkFromToIndex_8c36e_4 : decode cJ3_checkFromToIndex_8c36e 4 = .ok (.iload_n 0, 1) := by decide +kernel
theorem dJ3_checkFromToIndex_8c36e_5 : decode cJ3_checkFromToIndex_8c36e 5 = .ok (.iload_n 1, 1) := by decide +kernel
theorem dJ3_checkFromToIndex_8c36e_6 : decode cJ3_checkFromToIndex_8c36e 6 = .ok (.if_icmp .gt 8, 3) := by decide +kernel
theorem dJ3_checkFromToIndex_8c36e_9 : decode cJ3_checkFromToIndex_8c36e 9 = .ok (.iload_n 1, 1) := by decide +kernel
theorem dJ3_checkFromToIndex_8c36e_10 : decode cJ3_checkFromToIndex_8c36e 10 = .ok (.iload_n 2, 1) := by decide +kernel
theorem dJ3_checkFromToIndex_8c36e_11 : decode cJ3_checkFromToIndex_8c36e 11 = .ok (.if_icmp .le 11, 3) := by decide +kernel
theorem dJ3_checkFromToIndex_8c36e_14 : decode cJ3_checkFromToIndex_8c36e 14 = .ok (.aload_n 3, 1) := by decide +kernel
theorem dJ3_checkFromToIndex_8c36e_15 : decode cJ3_checkFromToIndex_8c36e 15 = .ok (.iload_n 0, 1) := by decide +kernel
theorem dJ3_checkFromToIndex_8c36e_16 : decode cJ3_checkFromToIndex_8c36e 16 = .ok (.iload_n 1, 1) := by decide +kernel
theorem dJ3_checkFromToIndex_8c36e_17 : decode cJ3_checkFromToIndex_8c36e 17 = .ok (.iload_n 2, 1) := by decide +kernel
theorem dJ3_checkFromToIndex_8c36e_18 : decode cJ3_checkFromToIndex_8c36e 18 = .ok (.invokestatic 99, 3) := by decide +kernel
theorem dJ3_checkFromToIndex_8c36e_21 : decode cJ3_checkFromToIndex_8c36e 21 = .ok (.athrow, 1) := by decide +kernel
theorem dJ3_checkFromToIndex_8c36e_22 : decode cJ3_checkFromToIndex_8c36e 22 = .ok (.iload_n 0, 1) := by decide +kernel
theorem dJ3_checkFromToIndex_8c36e_23 : decode cJ3_checkFromToIndex_8c36e 23 = .ok (.ireturn, 1) := by decide +kernel
theorem dJ3_checkFromIndexSize_8c36e_0 : decode cJ3_checkFromIndexSize_8c36e 0 = .ok (.iload_n 2, 1) := by decide +kernel
theorem dJ3_checkFromIndexSize_8c36e_1 : decode cJ3_checkFromIndexSize_8c36e 1 = .ok (.iload_n 0, 1) := by decide +kernel
theorem dJ3_checkFromIndexSize_8c36e_2 : decode cJ3_checkFromIndexSize_8c36e 2 = .ok (.ior, 1) := by decide +kernel
theorem dJ3_checkFromIndexSize_8c36e_3 : decode cJ3_checkFromIndexSize_8c36e 3 = .ok (.iload_n 1, 1) := by decide +kernel
theorem dJ3_checkFromIndexSize_8c36e_4 : decode cJ3_checkFromIndexSize_8c36e 4 = .ok (.ior, 1) := by decide +kernel
theorem dJ3_checkFromIndexSize_8c36e_5 : decode cJ3_checkFromIndexSize_8c36e 5 = .ok (.ifCond .lt 10, 3) := by decide +kernel
theorem dJ3_checkFromIndexSize_8c36e_8 : decode cJ3_checkFromIndexSize_8c36e 8 = .ok (.iload_n 1, 1) := by decide +kernel
theorem dJ3_checkFromIndexSize_8c36e_9 : decode cJ3_checkFromIndexSize_8c36e 9 = .ok (.iload_n 2, 1) := by decide +kernel
theorem dJ3_checkFromIndexSize_8c36e_10 : decode cJ3_checkFromIndexSize_8c36e 10 = .ok (.iload_n 0, 1) := by decide +kernel
theorem dJ3_checkFromIndexSize_8c36e_11 : decode cJ3_checkFromIndexSize_8c36e 11 = .ok (.isub, 1) := by decide +kernel
theorem dJ3_checkFromIndexSize_8c36e_12 : decode cJ3_checkFromIndexSize_8c36e 12 = .ok (.if_icmp .le 11, 3) := by decide +kernel
theorem dJ3_checkFromIndexSize_8c36e_15 : decode cJ3_checkFromIndexSize_8c36e 15 = .ok (.aload_n 3, 1) := by decide +kernel
theorem dJ3_checkFromIndexSize_8c36e_16 : decode cJ3_checkFromIndexSize_8c36e 16 = .ok (.iload_n 0, 1) := by decide +kernel
theorem dJ3_checkFromIndexSize_8c36e_17 : decode cJ3_checkFromIndexSize_8c36e 17 = .ok (.iload_n 1, 1) := by decide +kernel
theorem dJ3_checkFromIndexSize_8c36e_18 : decode cJ3_checkFromIndexSize_8c36e 18 = .ok (.iload_n 2, 1) := by decide +kernel
theorem dJ3_checkFromIndexSize_8c36e_19 : decode cJ3_checkFromIndexSize_8c36e 19 = .ok (.invokestatic 103, 3) := by decide +kernel
theorem dJ3_checkFromIndexSize_8c36e_22 : decode cJ3_checkFromIndexSize_8c36e 22 = .ok (.athrow, 1) := by decide +kernel
theorem dJ3_checkFromIndexSize_8c36e_23 : decode cJ3_checkFromIndexSize_8c36e 23 = .ok (.iload_n 0, 1) := by decide +kernel
theorem dJ3_checkFromIndexSize_8c36e_24 : decode cJ3_checkFromIndexSize_8c36e 24 = .ok (.ireturn, 1) := by decide +kernel
theorem dL_setWeight_0 : decode cL_setWeight 0 = .ok (.aload_n 3, 1) := by decide +kernel
theorem dL_setWeight_1 : decode cL_setWeight 1 = .ok (.iconst 0, 1) := by decide +kernel
theorem dL_setWeight_2 : decode cL_setWeight 2 = .ok (.aload_n 0, 1) := by decide +kernel
theorem dL_setWeight_3 : decode cL_setWeight 3 = .ok (.iload_n 1, 1) := by decide +kernel
theorem dL_setWeight_4 : decode cL_setWeight 4 = .ok (.iload_n 2, 1) := by decide +kernel
theorem dL_setWeight_5 : decode cL_setWeight 5 = .ok (.invokevirtual 7, 3) := by decide +kernel
theorem dL_setWeight_8 : decode cL_setWeight 8 = .ok (.i2l, 1) := by decide +kernel
theorem dL_setWeight_9 : decode cL_setWeight 9 = .ok (.lastore, 1) := by decide +kernel
theorem dL_setWeight_10 : decode cL_setWeight 10 = .ok (.goto 11, 3) := by decide +kernel
theorem dL_setWeight_13 : decode cL_setWeight 13 = .ok (.astore 4, 2) := by decide +kernel
theorem dL_setWeight_15 : decode cL_setWeight 15 = .ok (.iconst 1, 1) := by decide +kernel
theorem dL_setWeight_16 : decode cL_setWeight 16 = .ok (.ireturn, 1) := by decide +kernel
theorem dL_setWeight_17 : decode cL_setWeight 17 = .ok (.astore 4, 2) := by decide +kernel
theorem dL_setWeight_19 : decode cL_setWeight 19 = .ok (.iconst 2, 1) := by decide +kernel
theorem dL_setWeight_20 : decode cL_setWeight 20 = .ok (.ireturn, 1) := by decide +kernel
theorem dL_setWeight_21 : decode cL_setWeight 21 = .ok (.iconst 0, 1) := by decide +kernel
theorem dL_setWeight_22 : decode cL_setWeight 22 = .ok (.ireturn, 1) := by decide +kernel
theorem dL_setPresent_0 : decode cL_setPresent 0 = .ok (.aload_n 3, 1) := by decide +kernel
theorem dL_setPresent_1 : decode cL_setPresent 1 = .ok (.iconst 0, 1) := by decide +kernel
theorem dL_setPresent_2 : decode cL_setPresent 2 = .ok (.aload_n 0, 1) := by decide +kernel
theorem dL_setPresent_3 : decode cL_setPresent 3 = .ok (.iload_n 1, 1) := by decide +kernel
theorem dL_setPresent_4 : decode cL_setPresent 4 = .ok (.iload_n 2, 1) := by decide +kernel
theorem dL_setPresent_5 : decode cL_setPresent 5 = .ok (.invokevirtual 17, 3) := by decide +kernel
theorem dL_setPresent_8 : decode cL_setPresent 8 = .ok (.ifCond .eq 7, 3) := by decide +kernel
theorem dL_setPresent_11 : decode cL_setPresent 11 = .ok (.lconst 1, 1) := by decide +kernel
theorem dL_setPresent_12 : decode cL_setPresent 12 = .ok (.goto 4, 3) := by decide +kernel
theorem dL_setPresent_15 : decode cL_setPresent 15 = .ok (.lconst 0, 1) := by decide +kernel
theorem dL_setPresent_16 : decode cL_setPresent 16 = .ok (.lastore, 1) := by decide +kernel
theorem dL_setPresent_17 : decode cL_setPresent 17 = .ok (.goto 7, 3) := by decide +kernel
theorem dL_setPresent_20 : decode cL_setPresent 20 = .ok (.astore 4, 2) := by decide +kernel
theorem dL_setPresent_22 : decode cL_setPresent 22 = .ok (.iconst 1, 1) := by decide +kernel
theorem dL_setPresent_23 : decode cL_setPresent 23 = .ok (.ireturn, 1) := by decide +kernel
theorem dL_setPresent_24 : decode cL_setPresent 24 = .ok (.iconst 0, 1) := by decide +kernel
theorem dL_setPresent_25 : decode cL_setPresent 25 = .ok (.ireturn, 1) := by decide +kernel
theorem dL_member_0 : decode cL_member 0 = .ok (.aload_n 3, 1) := by decide +kernel
theorem dL_member_1 : decode cL_member 1 = .ok (.iconst 0, 1) := by decide +kernel
theorem dL_member_2 : decode cL_member 2 = .ok (.aload_n 0, 1) := by decide +kernel
theorem dL_member_3 : decode cL_member 3 = .ok (.iload_n 1, 1) := by decide +kernel
theorem dL_member_4 : decode cL_member 4 = .ok (.iload_n 2, 1) := by decide +kernel
theorem dL_member_5 : decode cL_member 5 = .ok (.invokevirtual 21, 3) := by decide +kernel
theorem dL_member_8 : decode cL_member 8 = .ok (.i2l, 1) := by decide +kernel
theorem dL_member_9 : decode cL_member 9 = .ok (.lastore, 1) := by decide +kernel
theorem dL_member_10 : decode cL_member 10 = .ok (.goto 11, 3) := by decide +kernel
theorem dL_member_13 : decode cL_member 13 = .ok (.astore 4, 2) := by decide +kernel
theorem dL_member_15 : decode cL_member 15 = .ok (.iconst 1, 1) := by decide +kernel
theorem dL_member_16 : decode cL_member 16 = .ok (.ireturn, 1) := by decide +kernel
theorem dL_member_17 : decode cL_member 17 = .ok (.astore 4, 2) := by decide +kernel
theorem dL_member_19 : decode cL_member 19 = .ok (.iconst 2, 1) := by decide +kernel
theorem dL_member_20 : decode cL_member 20 = .ok (.ireturn, 1) := by decide +kernel
theorem dL_member_21 : decode cL_member 21 = .ok (.iconst 0, 1) := by decide +kernel
theorem dL_member_22 : decode cL_member 22 = .ok (.ireturn, 1) := by decide +kernel
theorem dL_put_0 : decode cL_put 0 = .ok (.aload 4, 2) := by decide +kernel
theorem dL_put_2 : decode cL_put 2 = .ok (.iconst 0, 1) := by decide +kernel
theorem dL_put_3 : decode cL_put 3 = .ok (.aload_n 0, 1) := by decide +kernel
theorem dL_put_4 : decode cL_put 4 = .ok (.iload_n 1, 1) := by decide +kernel
theorem dL_put_5 : decode cL_put 5 = .ok (.iload_n 2, 1) := by decide +kernel
theorem dL_put_6 : decode cL_put 6 = .ok (.iload_n 3, 1) := by decide +kernel
theorem dL_put_7 : decode cL_put 7 = .ok (.invokevirtual 24, 3) := by decide +kernel
theorem dL_put_10 : decode cL_put 10 = .ok (.i2l, 1) := by decide +kernel
theorem dL_put_11 : decode cL_put 11 = .ok (.lastore, 1) := by decide +kernel
theorem dL_put_12 : decode cL_put 12 = .ok (.goto 15, 3) := by decide +kernel
theorem dL_put_15 : decode cL_put 15 = .ok (.astore 5, 2) := by decide +kernel
theorem dL_put_17 : decode cL_put 17 = .ok (.iconst 1, 1) := by decide +kernel
theorem dL_put_18 : decode cL_put 18 = .ok (.ireturn, 1) := by decide +kernel
theorem dL_put_19 : decode cL_put 19 = .ok (.astore 5, 2) := by decide +kernel
theorem dL_put_21 : decode cL_put 21 = .ok (.iconst 2, 1) := by decide +kernel
theorem dL_put_22 : decode cL_put 22 = .ok (.ireturn, 1) := by decide +kernel
theorem dL_put_23 : decode cL_put 23 = .ok (.astore 5, 2) := by decide +kernel
theorem dL_put_25 : decode cL_put 25 = .ok (.iconst 3, 1) := by decide +kernel
theorem dL_put_26 : decode cL_put 26 = .ok (.ireturn, 1) := by decide +kernel
theorem dL_put_27 : decode cL_put 27 = .ok (.iconst 0, 1) := by decide +kernel
theorem dL_put_28 : decode cL_put 28 = .ok (.ireturn, 1) := by decide +kernel
theorem dL_remove_0 : decode cL_remove 0 = .ok (.aload_n 2, 1) := by decide +kernel
theorem dL_remove_1 : decode cL_remove 1 = .ok (.iconst 0, 1) := by decide +kernel
theorem dL_remove_2 : decode cL_remove 2 = .ok (.aload_n 0, 1) := by decide +kernel
theorem dL_remove_3 : decode cL_remove 3 = .ok (.iload_n 1, 1) := by decide +kernel
theorem dL_remove_4 : decode cL_remove 4 = .ok (.invokevirtual 30, 3) := by decide +kernel
theorem dL_remove_7 : decode cL_remove 7 = .ok (.i2l, 1) := by decide +kernel
theorem dL_remove_8 : decode cL_remove 8 = .ok (.lastore, 1) := by decide +kernel
theorem dL_remove_9 : decode cL_remove 9 = .ok (.goto 9, 3) := by decide +kernel
theorem dL_remove_12 : decode cL_remove 12 = .ok (.astore_n 3, 1) := by decide +kernel
theorem dL_remove_13 : decode cL_remove 13 = .ok (.iconst 1, 1) := by decide +kernel
theorem dL_remove_14 : decode cL_remove 14 = .ok (.ireturn, 1) := by decide +kernel
theorem dL_remove_15 : decode cL_remove 15 = .ok (.astore_n 3, 1) := by decide +kernel
theorem dL_remove_16 : decode cL_remove 16 = .ok (.iconst 2, 1) := by decide +kernel
theorem dL_remove_17 : decode cL_remove 17 = .ok (.ireturn, 1) := by decide +kernel
theorem dL_remove_18 : decode cL_remove 18 = .ok (.iconst 0, 1) := by decide +kernel
theorem dL_remove_19 : decode cL_remove 19 = .ok (.ireturn, 1) := by decide +kernel
theorem dL_refresh_0 : decode cL_refresh 0 = .ok (.aload_n 2, 1) := by decide +kernel
theorem dL_refresh_1 : decode cL_refresh 1 = .ok (.iconst 0, 1) := by decide +kernel
theorem dL_refresh_2 : decode cL_refresh 2 = .ok (.aload_n 0, 1) := by decide +kernel
theorem dL_refresh_3 : decode cL_refresh 3 = .ok (.iload_n 1, 1) := by decide +kernel
theorem dL_refresh_4 : decode cL_refresh 4 = .ok (.invokevirtual 36, 3) := by decide +kernel
theorem dL_refresh_7 : decode cL_refresh 7 = .ok (.i2l, 1) := by decide +kernel
theorem dL_refresh_8 : decode cL_refresh 8 = .ok (.lastore, 1) := by decide +kernel
theorem dL_refresh_9 : decode cL_refresh 9 = .ok (.goto 9, 3) := by decide +kernel
theorem dL_refresh_12 : decode cL_refresh 12 = .ok (.astore_n 3, 1) := by decide +kernel
theorem dL_refresh_13 : decode cL_refresh 13 = .ok (.iconst 1, 1) := by decide +kernel
theorem dL_refresh_14 : decode cL_refresh 14 = .ok (.ireturn, 1) := by decide +kernel
theorem dL_refresh_15 : decode cL_refresh 15 = .ok (.astore_n 3, 1) := by decide +kernel
theorem dL_refresh_16 : decode cL_refresh 16 = .ok (.iconst 2, 1) := by decide +kernel
theorem dL_refresh_17 : decode cL_refresh 17 = .ok (.ireturn, 1) := by decide +kernel
theorem dL_refresh_18 : decode cL_refresh 18 = .ok (.iconst 0, 1) := by decide +kernel
theorem dL_refresh_19 : decode cL_refresh 19 = .ok (.ireturn, 1) := by decide +kernel
theorem dL_reshare_0 : decode cL_reshare 0 = .ok (.aload 4, 2) := by decide +kernel
theorem dL_reshare_2 : decode cL_reshare 2 = .ok (.iconst 0, 1) := by decide +kernel
theorem dL_reshare_3 : decode cL_reshare 3 = .ok (.aload_n 0, 1) := by decide +kernel
theorem dL_reshare_4 : decode cL_reshare 4 = .ok (.iload_n 1, 1) := by decide +kernel
theorem dL_reshare_5 : decode cL_reshare 5 = .ok (.iload_n 2, 1) := by decide +kernel
theorem dL_reshare_6 : decode cL_reshare 6 = .ok (.iload_n 3, 1) := by decide +kernel
theorem dL_reshare_7 : decode cL_reshare 7 = .ok (.invokevirtual 39, 3) := by decide +kernel
theorem dL_reshare_10 : decode cL_reshare 10 = .ok (.i2l, 1) := by decide +kernel
theorem dL_reshare_11 : decode cL_reshare 11 = .ok (.lastore, 1) := by decide +kernel
theorem dL_reshare_12 : decode cL_reshare 12 = .ok (.goto 23, 3) := by decide +kernel
theorem dL_reshare_15 : decode cL_reshare 15 = .ok (.astore 5, 2) := by decide +kernel
theorem dL_reshare_17 : decode cL_reshare 17 = .ok (.iconst 1, 1) := by decide +kernel
theorem dL_reshare_18 : decode cL_reshare 18 = .ok (.ireturn, 1) := by decide +kernel
theorem dL_reshare_19 : decode cL_reshare 19 = .ok (.astore 5, 2) := by decide +kernel
theorem dL_reshare_21 : decode cL_reshare 21 = .ok (.iconst 2, 1) := by decide +kernel
theorem dL_reshare_22 : decode cL_reshare 22 = .ok (.ireturn, 1) := by decide +kernel
theorem dL_reshare_23 : decode cL_reshare 23 = .ok (.astore 5, 2) := by decide +kernel
theorem dL_reshare_25 : decode cL_reshare 25 = .ok (.iconst 3, 1) := by decide +kernel
theorem dL_reshare_26 : decode cL_reshare 26 = .ok (.ireturn, 1) := by decide +kernel
theorem dL_reshare_27 : decode cL_reshare 27 = .ok (.astore 5, 2) := by decide +kernel
theorem dL_reshare_29 : decode cL_reshare 29 = .ok (.iconst 4, 1) := by decide +kernel
theorem dL_reshare_30 : decode cL_reshare 30 = .ok (.ireturn, 1) := by decide +kernel
theorem dL_reshare_31 : decode cL_reshare 31 = .ok (.astore 5, 2) := by decide +kernel
theorem dL_reshare_33 : decode cL_reshare 33 = .ok (.iconst 5, 1) := by decide +kernel
theorem dL_reshare_34 : decode cL_reshare 34 = .ok (.ireturn, 1) := by decide +kernel
theorem dL_reshare_35 : decode cL_reshare 35 = .ok (.iconst 0, 1) := by decide +kernel
theorem dL_reshare_36 : decode cL_reshare 36 = .ok (.ireturn, 1) := by decide +kernel
theorem dL_enroll_0 : decode cL_enroll 0 = .ok (.aload 4, 2) := by decide +kernel
theorem dL_enroll_2 : decode cL_enroll 2 = .ok (.iconst 0, 1) := by decide +kernel
theorem dL_enroll_3 : decode cL_enroll 3 = .ok (.aload_n 0, 1) := by decide +kernel
theorem dL_enroll_4 : decode cL_enroll 4 = .ok (.iload_n 1, 1) := by decide +kernel
theorem dL_enroll_5 : decode cL_enroll 5 = .ok (.iload_n 2, 1) := by decide +kernel
theorem dL_enroll_6 : decode cL_enroll 6 = .ok (.iload_n 3, 1) := by decide +kernel
theorem dL_enroll_7 : decode cL_enroll 7 = .ok (.invokevirtual 44, 3) := by decide +kernel
theorem dL_enroll_10 : decode cL_enroll 10 = .ok (.i2l, 1) := by decide +kernel
theorem dL_enroll_11 : decode cL_enroll 11 = .ok (.lastore, 1) := by decide +kernel
theorem dL_enroll_12 : decode cL_enroll 12 = .ok (.goto 19, 3) := by decide +kernel
theorem dL_enroll_15 : decode cL_enroll 15 = .ok (.astore 5, 2) := by decide +kernel
theorem dL_enroll_17 : decode cL_enroll 17 = .ok (.iconst 1, 1) := by decide +kernel
theorem dL_enroll_18 : decode cL_enroll 18 = .ok (.ireturn, 1) := by decide +kernel
theorem dL_enroll_19 : decode cL_enroll 19 = .ok (.astore 5, 2) := by decide +kernel
theorem dL_enroll_21 : decode cL_enroll 21 = .ok (.iconst 2, 1) := by decide +kernel
theorem dL_enroll_22 : decode cL_enroll 22 = .ok (.ireturn, 1) := by decide +kernel
theorem dL_enroll_23 : decode cL_enroll 23 = .ok (.astore 5, 2) := by decide +kernel
theorem dL_enroll_25 : decode cL_enroll 25 = .ok (.iconst 3, 1) := by decide +kernel
theorem dL_enroll_26 : decode cL_enroll 26 = .ok (.ireturn, 1) := by decide +kernel
theorem dL_enroll_27 : decode cL_enroll 27 = .ok (.astore 5, 2) := by decide +kernel
theorem dL_enroll_29 : decode cL_enroll 29 = .ok (.iconst 4, 1) := by decide +kernel
theorem dL_enroll_30 : decode cL_enroll 30 = .ok (.ireturn, 1) := by decide +kernel
theorem dL_enroll_31 : decode cL_enroll 31 = .ok (.iconst 0, 1) := by decide +kernel
theorem dL_enroll_32 : decode cL_enroll 32 = .ok (.ireturn, 1) := by decide +kernel
theorem dL_expel_0 : decode cL_expel 0 = .ok (.aload_n 3, 1) := by decide +kernel
theorem dL_expel_1 : decode cL_expel 1 = .ok (.iconst 0, 1) := by decide +kernel
theorem dL_expel_2 : decode cL_expel 2 = .ok (.aload_n 0, 1) := by decide +kernel
theorem dL_expel_3 : decode cL_expel 3 = .ok (.iload_n 1, 1) := by decide +kernel
theorem dL_expel_4 : decode cL_expel 4 = .ok (.iload_n 2, 1) := by decide +kernel
theorem dL_expel_5 : decode cL_expel 5 = .ok (.invokevirtual 47, 3) := by decide +kernel
theorem dL_expel_8 : decode cL_expel 8 = .ok (.i2l, 1) := by decide +kernel
theorem dL_expel_9 : decode cL_expel 9 = .ok (.lastore, 1) := by decide +kernel
theorem dL_expel_10 : decode cL_expel 10 = .ok (.goto 11, 3) := by decide +kernel
theorem dL_expel_13 : decode cL_expel 13 = .ok (.astore 4, 2) := by decide +kernel
theorem dL_expel_15 : decode cL_expel 15 = .ok (.iconst 1, 1) := by decide +kernel
theorem dL_expel_16 : decode cL_expel 16 = .ok (.ireturn, 1) := by decide +kernel
theorem dL_expel_17 : decode cL_expel 17 = .ok (.astore 4, 2) := by decide +kernel
theorem dL_expel_19 : decode cL_expel 19 = .ok (.iconst 2, 1) := by decide +kernel
theorem dL_expel_20 : decode cL_expel 20 = .ok (.ireturn, 1) := by decide +kernel
theorem dL_expel_21 : decode cL_expel 21 = .ok (.iconst 0, 1) := by decide +kernel
theorem dL_expel_22 : decode cL_expel 22 = .ok (.ireturn, 1) := by decide +kernel
theorem dL_open_0 : decode cL_open 0 = .ok (.aload_n 3, 1) := by decide +kernel
theorem dL_open_1 : decode cL_open 1 = .ok (.iconst 0, 1) := by decide +kernel
theorem dL_open_2 : decode cL_open 2 = .ok (.aload_n 0, 1) := by decide +kernel
theorem dL_open_3 : decode cL_open 3 = .ok (.iload_n 1, 1) := by decide +kernel
theorem dL_open_4 : decode cL_open 4 = .ok (.iload_n 2, 1) := by decide +kernel
theorem dL_open_5 : decode cL_open 5 = .ok (.invokevirtual 50, 3) := by decide +kernel
theorem dL_open_8 : decode cL_open 8 = .ok (.i2l, 1) := by decide +kernel
theorem dL_open_9 : decode cL_open 9 = .ok (.lastore, 1) := by decide +kernel
theorem dL_open_10 : decode cL_open 10 = .ok (.goto 19, 3) := by decide +kernel
theorem dL_open_13 : decode cL_open 13 = .ok (.astore 4, 2) := by decide +kernel
theorem dL_open_15 : decode cL_open 15 = .ok (.iconst 1, 1) := by decide +kernel
theorem dL_open_16 : decode cL_open 16 = .ok (.ireturn, 1) := by decide +kernel
theorem dL_open_17 : decode cL_open 17 = .ok (.astore 4, 2) := by decide +kernel
theorem dL_open_19 : decode cL_open 19 = .ok (.iconst 2, 1) := by decide +kernel
theorem dL_open_20 : decode cL_open 20 = .ok (.ireturn, 1) := by decide +kernel
theorem dL_open_21 : decode cL_open 21 = .ok (.astore 4, 2) := by decide +kernel
theorem dL_open_23 : decode cL_open 23 = .ok (.iconst 3, 1) := by decide +kernel
theorem dL_open_24 : decode cL_open 24 = .ok (.ireturn, 1) := by decide +kernel
theorem dL_open_25 : decode cL_open 25 = .ok (.astore 4, 2) := by decide +kernel
theorem dL_open_27 : decode cL_open 27 = .ok (.iconst 4, 1) := by decide +kernel
theorem dL_open_28 : decode cL_open 28 = .ok (.ireturn, 1) := by decide +kernel
theorem dL_open_29 : decode cL_open 29 = .ok (.iconst 0, 1) := by decide +kernel
theorem dL_open_30 : decode cL_open 30 = .ok (.ireturn, 1) := by decide +kernel
theorem dL_combine_0 : decode cL_combine 0 = .ok (.aload_n 3, 1) := by decide +kernel
theorem dL_combine_1 : decode cL_combine 1 = .ok (.iconst 0, 1) := by decide +kernel
theorem dL_combine_2 : decode cL_combine 2 = .ok (.aload_n 0, 1) := by decide +kernel
theorem dL_combine_3 : decode cL_combine 3 = .ok (.iload_n 1, 1) := by decide +kernel
theorem dL_combine_4 : decode cL_combine 4 = .ok (.iload_n 2, 1) := by decide +kernel
theorem dL_combine_5 : decode cL_combine 5 = .ok (.invokevirtual 53, 3) := by decide +kernel
theorem dL_combine_8 : decode cL_combine 8 = .ok (.i2l, 1) := by decide +kernel
theorem dL_combine_9 : decode cL_combine 9 = .ok (.lastore, 1) := by decide +kernel
theorem dL_combine_10 : decode cL_combine 10 = .ok (.goto 19, 3) := by decide +kernel
theorem dL_combine_13 : decode cL_combine 13 = .ok (.astore 4, 2) := by decide +kernel
theorem dL_combine_15 : decode cL_combine 15 = .ok (.iconst 1, 1) := by decide +kernel
theorem dL_combine_16 : decode cL_combine 16 = .ok (.ireturn, 1) := by decide +kernel
theorem dL_combine_17 : decode cL_combine 17 = .ok (.astore 4, 2) := by decide +kernel
theorem dL_combine_19 : decode cL_combine 19 = .ok (.iconst 2, 1) := by decide +kernel
theorem dL_combine_20 : decode cL_combine 20 = .ok (.ireturn, 1) := by decide +kernel
theorem dL_combine_21 : decode cL_combine 21 = .ok (.astore 4, 2) := by decide +kernel
theorem dL_combine_23 : decode cL_combine 23 = .ok (.iconst 3, 1) := by decide +kernel
theorem dL_combine_24 : decode cL_combine 24 = .ok (.ireturn, 1) := by decide +kernel
theorem dL_combine_25 : decode cL_combine 25 = .ok (.astore 4, 2) := by decide +kernel
theorem dL_combine_27 : decode cL_combine 27 = .ok (.iconst 4, 1) := by decide +kernel
theorem dL_combine_28 : decode cL_combine 28 = .ok (.ireturn, 1) := by decide +kernel
theorem dL_combine_29 : decode cL_combine 29 = .ok (.iconst 0, 1) := by decide +kernel
theorem dL_combine_30 : decode cL_combine 30 = .ok (.ireturn, 1) := by decide +kernel
theorem dL_agree_0 : decode cL_agree 0 = .ok (.aload_n 3, 1) := by decide +kernel
theorem dL_agree_1 : decode cL_agree 1 = .ok (.iconst 0, 1) := by decide +kernel
theorem dL_agree_2 : decode cL_agree 2 = .ok (.aload_n 0, 1) := by decide +kernel
theorem dL_agree_3 : decode cL_agree 3 = .ok (.iload_n 1, 1) := by decide +kernel
theorem dL_agree_4 : decode cL_agree 4 = .ok (.iload_n 2, 1) := by decide +kernel
theorem dL_agree_5 : decode cL_agree 5 = .ok (.invokevirtual 56, 3) := by decide +kernel
theorem dL_agree_8 : decode cL_agree 8 = .ok (.ifCond .eq 7, 3) := by decide +kernel
theorem dL_agree_11 : decode cL_agree 11 = .ok (.lconst 1, 1) := by decide +kernel
theorem dL_agree_12 : decode cL_agree 12 = .ok (.goto 4, 3) := by decide +kernel
theorem dL_agree_15 : decode cL_agree 15 = .ok (.lconst 0, 1) := by decide +kernel
theorem dL_agree_16 : decode cL_agree 16 = .ok (.lastore, 1) := by decide +kernel
theorem dL_agree_17 : decode cL_agree 17 = .ok (.goto 15, 3) := by decide +kernel
theorem dL_agree_20 : decode cL_agree 20 = .ok (.astore 4, 2) := by decide +kernel
theorem dL_agree_22 : decode cL_agree 22 = .ok (.iconst 1, 1) := by decide +kernel
theorem dL_agree_23 : decode cL_agree 23 = .ok (.ireturn, 1) := by decide +kernel
theorem dL_agree_24 : decode cL_agree 24 = .ok (.astore 4, 2) := by decide +kernel
theorem dL_agree_26 : decode cL_agree 26 = .ok (.iconst 2, 1) := by decide +kernel
theorem dL_agree_27 : decode cL_agree 27 = .ok (.ireturn, 1) := by decide +kernel
theorem dL_agree_28 : decode cL_agree 28 = .ok (.astore 4, 2) := by decide +kernel
theorem dL_agree_30 : decode cL_agree 30 = .ok (.iconst 3, 1) := by decide +kernel
theorem dL_agree_31 : decode cL_agree 31 = .ok (.ireturn, 1) := by decide +kernel
theorem dL_agree_32 : decode cL_agree 32 = .ok (.iconst 0, 1) := by decide +kernel
theorem dL_agree_33 : decode cL_agree 33 = .ok (.ireturn, 1) := by decide +kernel
theorem dL_secret_0 : decode cL_secret 0 = .ok (.aload_n 3, 1) := by decide +kernel
theorem dL_secret_1 : decode cL_secret 1 = .ok (.iconst 0, 1) := by decide +kernel
theorem dL_secret_2 : decode cL_secret 2 = .ok (.aload_n 0, 1) := by decide +kernel
theorem dL_secret_3 : decode cL_secret 3 = .ok (.iload_n 1, 1) := by decide +kernel
theorem dL_secret_4 : decode cL_secret 4 = .ok (.iload_n 2, 1) := by decide +kernel
theorem dL_secret_5 : decode cL_secret 5 = .ok (.invokevirtual 60, 3) := by decide +kernel
theorem dL_secret_8 : decode cL_secret 8 = .ok (.i2l, 1) := by decide +kernel
theorem dL_secret_9 : decode cL_secret 9 = .ok (.lastore, 1) := by decide +kernel
theorem dL_secret_10 : decode cL_secret 10 = .ok (.goto 15, 3) := by decide +kernel
theorem dL_secret_13 : decode cL_secret 13 = .ok (.astore 4, 2) := by decide +kernel
theorem dL_secret_15 : decode cL_secret 15 = .ok (.iconst 1, 1) := by decide +kernel
theorem dL_secret_16 : decode cL_secret 16 = .ok (.ireturn, 1) := by decide +kernel
theorem dL_secret_17 : decode cL_secret 17 = .ok (.astore 4, 2) := by decide +kernel
theorem dL_secret_19 : decode cL_secret 19 = .ok (.iconst 2, 1) := by decide +kernel
theorem dL_secret_20 : decode cL_secret 20 = .ok (.ireturn, 1) := by decide +kernel
theorem dL_secret_21 : decode cL_secret 21 = .ok (.astore 4, 2) := by decide +kernel
theorem dL_secret_23 : decode cL_secret 23 = .ok (.iconst 3, 1) := by decide +kernel
theorem dL_secret_24 : decode cL_secret 24 = .ok (.ireturn, 1) := by decide +kernel
theorem dL_secret_25 : decode cL_secret 25 = .ok (.iconst 0, 1) := by decide +kernel
theorem dL_secret_26 : decode cL_secret 26 = .ok (.ireturn, 1) := by decide +kernel
theorem dL_commitment_0 : decode cL_commitment 0 = .ok (.aload_n 3, 1) := by decide +kernel
theorem dL_commitment_1 : decode cL_commitment 1 = .ok (.iconst 0, 1) := by decide +kernel
theorem dL_commitment_2 : decode cL_commitment 2 = .ok (.aload_n 0, 1) := by decide +kernel
theorem dL_commitment_3 : decode cL_commitment 3 = .ok (.iload_n 1, 1) := by decide +kernel
theorem dL_commitment_4 : decode cL_commitment 4 = .ok (.iload_n 2, 1) := by decide +kernel
theorem dL_commitment_5 : decode cL_commitment 5 = .ok (.invokevirtual 63, 3) := by decide +kernel
theorem dL_commitment_8 : decode cL_commitment 8 = .ok (.i2l, 1) := by decide +kernel
theorem dL_commitment_9 : decode cL_commitment 9 = .ok (.lastore, 1) := by decide +kernel
theorem dL_commitment_10 : decode cL_commitment 10 = .ok (.goto 11, 3) := by decide +kernel
theorem dL_commitment_13 : decode cL_commitment 13 = .ok (.astore 4, 2) := by decide +kernel
theorem dL_commitment_15 : decode cL_commitment 15 = .ok (.iconst 1, 1) := by decide +kernel
theorem dL_commitment_16 : decode cL_commitment 16 = .ok (.ireturn, 1) := by decide +kernel
theorem dL_commitment_17 : decode cL_commitment 17 = .ok (.astore 4, 2) := by decide +kernel
theorem dL_commitment_19 : decode cL_commitment 19 = .ok (.iconst 2, 1) := by decide +kernel
theorem dL_commitment_20 : decode cL_commitment 20 = .ok (.ireturn, 1) := by decide +kernel
theorem dL_commitment_21 : decode cL_commitment 21 = .ok (.iconst 0, 1) := by decide +kernel
theorem dL_commitment_22 : decode cL_commitment 22 = .ok (.ireturn, 1) := by decide +kernel
theorem dL_share_0 : decode cL_share 0 = .ok (.aload 4, 2) := by decide +kernel
theorem dL_share_2 : decode cL_share 2 = .ok (.iconst 0, 1) := by decide +kernel
theorem dL_share_3 : decode cL_share 3 = .ok (.aload_n 0, 1) := by decide +kernel
theorem dL_share_4 : decode cL_share 4 = .ok (.iload_n 1, 1) := by decide +kernel
theorem dL_share_5 : decode cL_share 5 = .ok (.iload_n 2, 1) := by decide +kernel
theorem dL_share_6 : decode cL_share 6 = .ok (.iload_n 3, 1) := by decide +kernel
theorem dL_share_7 : decode cL_share 7 = .ok (.invokevirtual 66, 3) := by decide +kernel
theorem dL_share_10 : decode cL_share 10 = .ok (.i2l, 1) := by decide +kernel
theorem dL_share_11 : decode cL_share 11 = .ok (.lastore, 1) := by decide +kernel
theorem dL_share_12 : decode cL_share 12 = .ok (.goto 15, 3) := by decide +kernel
theorem dL_share_15 : decode cL_share 15 = .ok (.astore 5, 2) := by decide +kernel
theorem dL_share_17 : decode cL_share 17 = .ok (.iconst 1, 1) := by decide +kernel
theorem dL_share_18 : decode cL_share 18 = .ok (.ireturn, 1) := by decide +kernel
theorem dL_share_19 : decode cL_share 19 = .ok (.astore 5, 2) := by decide +kernel
theorem dL_share_21 : decode cL_share 21 = .ok (.iconst 2, 1) := by decide +kernel
theorem dL_share_22 : decode cL_share 22 = .ok (.ireturn, 1) := by decide +kernel
theorem dL_share_23 : decode cL_share 23 = .ok (.astore 5, 2) := by decide +kernel
theorem dL_share_25 : decode cL_share 25 = .ok (.iconst 3, 1) := by decide +kernel
theorem dL_share_26 : decode cL_share 26 = .ok (.ireturn, 1) := by decide +kernel
theorem dL_share_27 : decode cL_share 27 = .ok (.iconst 0, 1) := by decide +kernel
theorem dL_share_28 : decode cL_share 28 = .ok (.ireturn, 1) := by decide +kernel
theorem dL_setShare_0 : decode cL_setShare 0 = .ok (.aload 4, 2) := by decide +kernel
theorem dL_setShare_2 : decode cL_setShare 2 = .ok (.iconst 0, 1) := by decide +kernel
theorem dL_setShare_3 : decode cL_setShare 3 = .ok (.aload_n 0, 1) := by decide +kernel
theorem dL_setShare_4 : decode cL_setShare 4 = .ok (.iload_n 1, 1) := by decide +kernel
theorem dL_setShare_5 : decode cL_setShare 5 = .ok (.iload_n 2, 1) := by decide +kernel
theorem dL_setShare_6 : decode cL_setShare 6 = .ok (.iload_n 3, 1) := by decide +kernel
theorem dL_setShare_7 : decode cL_setShare 7 = .ok (.invokevirtual 69, 3) := by decide +kernel
theorem dL_setShare_10 : decode cL_setShare 10 = .ok (.i2l, 1) := by decide +kernel
theorem dL_setShare_11 : decode cL_setShare 11 = .ok (.lastore, 1) := by decide +kernel
theorem dL_setShare_12 : decode cL_setShare 12 = .ok (.goto 15, 3) := by decide +kernel
theorem dL_setShare_15 : decode cL_setShare 15 = .ok (.astore 5, 2) := by decide +kernel
theorem dL_setShare_17 : decode cL_setShare 17 = .ok (.iconst 1, 1) := by decide +kernel
theorem dL_setShare_18 : decode cL_setShare 18 = .ok (.ireturn, 1) := by decide +kernel
theorem dL_setShare_19 : decode cL_setShare 19 = .ok (.astore 5, 2) := by decide +kernel
theorem dL_setShare_21 : decode cL_setShare 21 = .ok (.iconst 2, 1) := by decide +kernel
theorem dL_setShare_22 : decode cL_setShare 22 = .ok (.ireturn, 1) := by decide +kernel
theorem dL_setShare_23 : decode cL_setShare 23 = .ok (.astore 5, 2) := by decide +kernel
theorem dL_setShare_25 : decode cL_setShare 25 = .ok (.iconst 3, 1) := by decide +kernel
theorem dL_setShare_26 : decode cL_setShare 26 = .ok (.ireturn, 1) := by decide +kernel
theorem dL_setShare_27 : decode cL_setShare 27 = .ok (.iconst 0, 1) := by decide +kernel
theorem dL_setShare_28 : decode cL_setShare 28 = .ok (.ireturn, 1) := by decide +kernel
theorem dL_shareText_0 : decode cL_shareText 0 = .ok (.aload 4, 2) := by decide +kernel
theorem dL_shareText_2 : decode cL_shareText 2 = .ok (.iconst 0, 1) := by decide +kernel
theorem dL_shareText_3 : decode cL_shareText 3 = .ok (.aload_n 0, 1) := by decide +kernel
theorem dL_shareText_4 : decode cL_shareText 4 = .ok (.iload_n 1, 1) := by decide +kernel
theorem dL_shareText_5 : decode cL_shareText 5 = .ok (.iload_n 2, 1) := by decide +kernel
theorem dL_shareText_6 : decode cL_shareText 6 = .ok (.iload_n 3, 1) := by decide +kernel
theorem dL_shareText_7 : decode cL_shareText 7 = .ok (.invokevirtual 72, 3) := by decide +kernel
theorem dL_shareText_10 : decode cL_shareText 10 = .ok (.i2l, 1) := by decide +kernel
theorem dL_shareText_11 : decode cL_shareText 11 = .ok (.lastore, 1) := by decide +kernel
theorem dL_shareText_12 : decode cL_shareText 12 = .ok (.goto 11, 3) := by decide +kernel
theorem dL_shareText_15 : decode cL_shareText 15 = .ok (.astore 5, 2) := by decide +kernel
theorem dL_shareText_17 : decode cL_shareText 17 = .ok (.iconst 1, 1) := by decide +kernel
theorem dL_shareText_18 : decode cL_shareText 18 = .ok (.ireturn, 1) := by decide +kernel
theorem dL_shareText_19 : decode cL_shareText 19 = .ok (.astore 5, 2) := by decide +kernel
theorem dL_shareText_21 : decode cL_shareText 21 = .ok (.iconst 2, 1) := by decide +kernel
theorem dL_shareText_22 : decode cL_shareText 22 = .ok (.ireturn, 1) := by decide +kernel
theorem dL_shareText_23 : decode cL_shareText 23 = .ok (.iconst 0, 1) := by decide +kernel
theorem dL_shareText_24 : decode cL_shareText 24 = .ok (.ireturn, 1) := by decide +kernel
theorem dL_importShare_0 : decode cL_importShare 0 = .ok (.aload_n 2, 1) := by decide +kernel
theorem dL_importShare_1 : decode cL_importShare 1 = .ok (.iconst 0, 1) := by decide +kernel
theorem dL_importShare_2 : decode cL_importShare 2 = .ok (.aload_n 0, 1) := by decide +kernel
theorem dL_importShare_3 : decode cL_importShare 3 = .ok (.iload_n 1, 1) := by decide +kernel
theorem dL_importShare_4 : decode cL_importShare 4 = .ok (.invokevirtual 75, 3) := by decide +kernel
theorem dL_importShare_7 : decode cL_importShare 7 = .ok (.i2l, 1) := by decide +kernel
theorem dL_importShare_8 : decode cL_importShare 8 = .ok (.lastore, 1) := by decide +kernel
theorem dL_importShare_9 : decode cL_importShare 9 = .ok (.goto 12, 3) := by decide +kernel
theorem dL_importShare_12 : decode cL_importShare 12 = .ok (.astore_n 3, 1) := by decide +kernel
theorem dL_importShare_13 : decode cL_importShare 13 = .ok (.iconst 1, 1) := by decide +kernel
theorem dL_importShare_14 : decode cL_importShare 14 = .ok (.ireturn, 1) := by decide +kernel
theorem dL_importShare_15 : decode cL_importShare 15 = .ok (.astore_n 3, 1) := by decide +kernel
theorem dL_importShare_16 : decode cL_importShare 16 = .ok (.iconst 2, 1) := by decide +kernel
theorem dL_importShare_17 : decode cL_importShare 17 = .ok (.ireturn, 1) := by decide +kernel
theorem dL_importShare_18 : decode cL_importShare 18 = .ok (.astore_n 3, 1) := by decide +kernel
theorem dL_importShare_19 : decode cL_importShare 19 = .ok (.iconst 3, 1) := by decide +kernel
theorem dL_importShare_20 : decode cL_importShare 20 = .ok (.ireturn, 1) := by decide +kernel
theorem dL_importShare_21 : decode cL_importShare 21 = .ok (.iconst 0, 1) := by decide +kernel
theorem dL_importShare_22 : decode cL_importShare 22 = .ok (.ireturn, 1) := by decide +kernel
theorem dL_bad_0 : decode cL_bad 0 = .ok (.aload_n 3, 1) := by decide +kernel
theorem dL_bad_1 : decode cL_bad 1 = .ok (.iconst 0, 1) := by decide +kernel
theorem dL_bad_2 : decode cL_bad 2 = .ok (.aload_n 0, 1) := by decide +kernel
theorem dL_bad_3 : decode cL_bad 3 = .ok (.iload_n 1, 1) := by decide +kernel
theorem dL_bad_4 : decode cL_bad 4 = .ok (.iload_n 2, 1) := by decide +kernel
theorem dL_bad_5 : decode cL_bad 5 = .ok (.invokevirtual 78, 3) := by decide +kernel
theorem dL_bad_8 : decode cL_bad 8 = .ok (.i2l, 1) := by decide +kernel
theorem dL_bad_9 : decode cL_bad 9 = .ok (.lastore, 1) := by decide +kernel
theorem dL_bad_10 : decode cL_bad 10 = .ok (.goto 11, 3) := by decide +kernel
theorem dL_bad_13 : decode cL_bad 13 = .ok (.astore 4, 2) := by decide +kernel
theorem dL_bad_15 : decode cL_bad 15 = .ok (.iconst 1, 1) := by decide +kernel
theorem dL_bad_16 : decode cL_bad 16 = .ok (.ireturn, 1) := by decide +kernel
theorem dL_bad_17 : decode cL_bad 17 = .ok (.astore 4, 2) := by decide +kernel
theorem dL_bad_19 : decode cL_bad 19 = .ok (.iconst 2, 1) := by decide +kernel
theorem dL_bad_20 : decode cL_bad 20 = .ok (.ireturn, 1) := by decide +kernel
theorem dL_bad_21 : decode cL_bad 21 = .ok (.iconst 0, 1) := by decide +kernel
theorem dL_bad_22 : decode cL_bad 22 = .ok (.ireturn, 1) := by decide +kernel
theorem dL_append_0 : decode cL_append 0 = .ok (.aload_n 2, 1) := by decide +kernel
theorem dL_append_1 : decode cL_append 1 = .ok (.iconst 0, 1) := by decide +kernel
theorem dL_append_2 : decode cL_append 2 = .ok (.aload_n 0, 1) := by decide +kernel
theorem dL_append_3 : decode cL_append 3 = .ok (.iload_n 1, 1) := by decide +kernel
theorem dL_append_4 : decode cL_append 4 = .ok (.invokevirtual 81, 3) := by decide +kernel
theorem dL_append_7 : decode cL_append 7 = .ok (.i2l, 1) := by decide +kernel
theorem dL_append_8 : decode cL_append 8 = .ok (.lastore, 1) := by decide +kernel
theorem dL_append_9 : decode cL_append 9 = .ok (.goto 9, 3) := by decide +kernel
theorem dL_append_12 : decode cL_append 12 = .ok (.astore_n 3, 1) := by decide +kernel
theorem dL_append_13 : decode cL_append 13 = .ok (.iconst 1, 1) := by decide +kernel
theorem dL_append_14 : decode cL_append 14 = .ok (.ireturn, 1) := by decide +kernel
theorem dL_append_15 : decode cL_append 15 = .ok (.astore_n 3, 1) := by decide +kernel
theorem dL_append_16 : decode cL_append 16 = .ok (.iconst 2, 1) := by decide +kernel
theorem dL_append_17 : decode cL_append 17 = .ok (.ireturn, 1) := by decide +kernel
theorem dL_append_18 : decode cL_append 18 = .ok (.iconst 0, 1) := by decide +kernel
theorem dL_append_19 : decode cL_append 19 = .ok (.ireturn, 1) := by decide +kernel
theorem dL_setPolicy_0 : decode cL_setPolicy 0 = .ok (.aload_n 2, 1) := by decide +kernel
theorem dL_setPolicy_1 : decode cL_setPolicy 1 = .ok (.iconst 0, 1) := by decide +kernel
theorem dL_setPolicy_2 : decode cL_setPolicy 2 = .ok (.aload_n 0, 1) := by decide +kernel
theorem dL_setPolicy_3 : decode cL_setPolicy 3 = .ok (.iload_n 1, 1) := by decide +kernel
theorem dL_setPolicy_4 : decode cL_setPolicy 4 = .ok (.invokevirtual 84, 3) := by decide +kernel
theorem dL_setPolicy_7 : decode cL_setPolicy 7 = .ok (.ifCond .eq 7, 3) := by decide +kernel
theorem dL_setPolicy_10 : decode cL_setPolicy 10 = .ok (.lconst 1, 1) := by decide +kernel
theorem dL_setPolicy_11 : decode cL_setPolicy 11 = .ok (.goto 4, 3) := by decide +kernel
theorem dL_setPolicy_14 : decode cL_setPolicy 14 = .ok (.lconst 0, 1) := by decide +kernel
theorem dL_setPolicy_15 : decode cL_setPolicy 15 = .ok (.lastore, 1) := by decide +kernel
theorem dL_setPolicy_16 : decode cL_setPolicy 16 = .ok (.goto 12, 3) := by decide +kernel
theorem dL_setPolicy_19 : decode cL_setPolicy 19 = .ok (.astore_n 3, 1) := by decide +kernel
theorem dL_setPolicy_20 : decode cL_setPolicy 20 = .ok (.iconst 1, 1) := by decide +kernel
theorem dL_setPolicy_21 : decode cL_setPolicy 21 = .ok (.ireturn, 1) := by decide +kernel
theorem dL_setPolicy_22 : decode cL_setPolicy 22 = .ok (.astore_n 3, 1) := by decide +kernel
theorem dL_setPolicy_23 : decode cL_setPolicy 23 = .ok (.iconst 2, 1) := by decide +kernel
theorem dL_setPolicy_24 : decode cL_setPolicy 24 = .ok (.ireturn, 1) := by decide +kernel
theorem dL_setPolicy_25 : decode cL_setPolicy 25 = .ok (.astore_n 3, 1) := by decide +kernel
theorem dL_setPolicy_26 : decode cL_setPolicy 26 = .ok (.iconst 3, 1) := by decide +kernel
theorem dL_setPolicy_27 : decode cL_setPolicy 27 = .ok (.ireturn, 1) := by decide +kernel
theorem dL_setPolicy_28 : decode cL_setPolicy 28 = .ok (.iconst 0, 1) := by decide +kernel
theorem dL_setPolicy_29 : decode cL_setPolicy 29 = .ok (.ireturn, 1) := by decide +kernel
theorem dL_fulfils_0 : decode cL_fulfils 0 = .ok (.aload_n 3, 1) := by decide +kernel
theorem dL_fulfils_1 : decode cL_fulfils 1 = .ok (.iconst 0, 1) := by decide +kernel
theorem dL_fulfils_2 : decode cL_fulfils 2 = .ok (.aload_n 0, 1) := by decide +kernel
theorem dL_fulfils_3 : decode cL_fulfils 3 = .ok (.iload_n 1, 1) := by decide +kernel
theorem dL_fulfils_4 : decode cL_fulfils 4 = .ok (.iload_n 2, 1) := by decide +kernel
theorem dL_fulfils_5 : decode cL_fulfils 5 = .ok (.invokevirtual 88, 3) := by decide +kernel
theorem dL_fulfils_8 : decode cL_fulfils 8 = .ok (.ifCond .eq 7, 3) := by decide +kernel
theorem dL_fulfils_11 : decode cL_fulfils 11 = .ok (.lconst 1, 1) := by decide +kernel
theorem dL_fulfils_12 : decode cL_fulfils 12 = .ok (.goto 4, 3) := by decide +kernel
theorem dL_fulfils_15 : decode cL_fulfils 15 = .ok (.lconst 0, 1) := by decide +kernel
theorem dL_fulfils_16 : decode cL_fulfils 16 = .ok (.lastore, 1) := by decide +kernel
theorem dL_fulfils_17 : decode cL_fulfils 17 = .ok (.goto 15, 3) := by decide +kernel
theorem dL_fulfils_20 : decode cL_fulfils 20 = .ok (.astore 4, 2) := by decide +kernel
theorem dL_fulfils_22 : decode cL_fulfils 22 = .ok (.iconst 1, 1) := by decide +kernel
theorem dL_fulfils_23 : decode cL_fulfils 23 = .ok (.ireturn, 1) := by decide +kernel
theorem dL_fulfils_24 : decode cL_fulfils 24 = .ok (.astore 4, 2) := by decide +kernel
theorem dL_fulfils_26 : decode cL_fulfils 26 = .ok (.iconst 2, 1) := by decide +kernel
theorem dL_fulfils_27 : decode cL_fulfils 27 = .ok (.ireturn, 1) := by decide +kernel
theorem dL_fulfils_28 : decode cL_fulfils 28 = .ok (.astore 4, 2) := by decide +kernel
theorem dL_fulfils_30 : decode cL_fulfils 30 = .ok (.iconst 3, 1) := by decide +kernel
theorem dL_fulfils_31 : decode cL_fulfils 31 = .ok (.ireturn, 1) := by decide +kernel
theorem dL_fulfils_32 : decode cL_fulfils 32 = .ok (.iconst 0, 1) := by decide +kernel
theorem dL_fulfils_33 : decode cL_fulfils 33 = .ok (.ireturn, 1) := by decide +kernel
theorem dL_policyText_0 : decode cL_policyText 0 = .ok (.aload_n 3, 1) := by decide +kernel
theorem dL_policyText_1 : decode cL_policyText 1 = .ok (.iconst 0, 1) := by decide +kernel
theorem dL_policyText_2 : decode cL_policyText 2 = .ok (.aload_n 0, 1) := by decide +kernel
theorem dL_policyText_3 : decode cL_policyText 3 = .ok (.iload_n 1, 1) := by decide +kernel
theorem dL_policyText_4 : decode cL_policyText 4 = .ok (.iload_n 2, 1) := by decide +kernel
theorem dL_policyText_5 : decode cL_policyText 5 = .ok (.invokevirtual 91, 3) := by decide +kernel
theorem dL_policyText_8 : decode cL_policyText 8 = .ok (.i2l, 1) := by decide +kernel
theorem dL_policyText_9 : decode cL_policyText 9 = .ok (.lastore, 1) := by decide +kernel
theorem dL_policyText_10 : decode cL_policyText 10 = .ok (.goto 11, 3) := by decide +kernel
theorem dL_policyText_13 : decode cL_policyText 13 = .ok (.astore 4, 2) := by decide +kernel
theorem dL_policyText_15 : decode cL_policyText 15 = .ok (.iconst 1, 1) := by decide +kernel
theorem dL_policyText_16 : decode cL_policyText 16 = .ok (.ireturn, 1) := by decide +kernel
theorem dL_policyText_17 : decode cL_policyText 17 = .ok (.astore 4, 2) := by decide +kernel
theorem dL_policyText_19 : decode cL_policyText 19 = .ok (.iconst 2, 1) := by decide +kernel
theorem dL_policyText_20 : decode cL_policyText 20 = .ok (.ireturn, 1) := by decide +kernel
theorem dL_policyText_21 : decode cL_policyText 21 = .ok (.iconst 0, 1) := by decide +kernel
theorem dL_policyText_22 : decode cL_policyText 22 = .ok (.ireturn, 1) := by decide +kernel
theorem dL_policy_0 : decode cL_policy 0 = .ok (.aload_n 3, 1) := by decide +kernel
theorem dL_policy_1 : decode cL_policy 1 = .ok (.iconst 0, 1) := by decide +kernel
theorem dL_policy_2 : decode cL_policy 2 = .ok (.aload_n 0, 1) := by decide +kernel
theorem dL_policy_3 : decode cL_policy 3 = .ok (.iload_n 1, 1) := by decide +kernel
theorem dL_policy_4 : decode cL_policy 4 = .ok (.iload_n 2, 1) := by decide +kernel
theorem dL_policy_5 : decode cL_policy 5 = .ok (.invokevirtual 94, 3) := by decide +kernel
theorem dL_policy_8 : decode cL_policy 8 = .ok (.i2l, 1) := by decide +kernel
theorem dL_policy_9 : decode cL_policy 9 = .ok (.lastore, 1) := by decide +kernel
theorem dL_policy_10 : decode cL_policy 10 = .ok (.goto 15, 3) := by decide +kernel
theorem dL_policy_13 : decode cL_policy 13 = .ok (.astore 4, 2) := by decide +kernel
theorem dL_policy_15 : decode cL_policy 15 = .ok (.iconst 1, 1) := by decide +kernel
theorem dL_policy_16 : decode cL_policy 16 = .ok (.ireturn, 1) := by decide +kernel
theorem dL_policy_17 : decode cL_policy 17 = .ok (.astore 4, 2) := by decide +kernel
theorem dL_policy_19 : decode cL_policy 19 = .ok (.iconst 2, 1) := by decide +kernel
theorem dL_policy_20 : decode cL_policy 20 = .ok (.ireturn, 1) := by decide +kernel
theorem dL_policy_21 : decode cL_policy 21 = .ok (.astore 4, 2) := by decide +kernel
theorem dL_policy_23 : decode cL_policy 23 = .ok (.iconst 3, 1) := by decide +kernel
theorem dL_policy_24 : decode cL_policy 24 = .ok (.ireturn, 1) := by decide +kernel
theorem dL_policy_25 : decode cL_policy 25 = .ok (.iconst 0, 1) := by decide +kernel
theorem dL_policy_26 : decode cL_policy 26 = .ok (.ireturn, 1) := by decide +kernel
theorem dL_groups_0 : decode cL_groups 0 = .ok (.aload_n 2, 1) := by decide +kernel
theorem dL_groups_1 : decode cL_groups 1 = .ok (.iconst 0, 1) := by decide +kernel
theorem dL_groups_2 : decode cL_groups 2 = .ok (.aload_n 0, 1) := by decide +kernel
theorem dL_groups_3 : decode cL_groups 3 = .ok (.iload_n 1, 1) := by decide +kernel
theorem dL_groups_4 : decode cL_groups 4 = .ok (.invokevirtual 97, 3) := by decide +kernel
theorem dL_groups_7 : decode cL_groups 7 = .ok (.i2l, 1) := by decide +kernel
theorem dL_groups_8 : decode cL_groups 8 = .ok (.lastore, 1) := by decide +kernel
theorem dL_groups_9 : decode cL_groups 9 = .ok (.goto 9, 3) := by decide +kernel
theorem dL_groups_12 : decode cL_groups 12 = .ok (.astore_n 3, 1) := by decide +kernel
theorem dL_groups_13 : decode cL_groups 13 = .ok (.iconst 1, 1) := by decide +kernel
theorem dL_groups_14 : decode cL_groups 14 = .ok (.ireturn, 1) := by decide +kernel
theorem dL_groups_15 : decode cL_groups 15 = .ok (.astore_n 3, 1) := by decide +kernel
theorem dL_groups_16 : decode cL_groups 16 = .ok (.iconst 2, 1) := by decide +kernel
theorem dL_groups_17 : decode cL_groups 17 = .ok (.ireturn, 1) := by decide +kernel
theorem dL_groups_18 : decode cL_groups 18 = .ok (.iconst 0, 1) := by decide +kernel
theorem dL_groups_19 : decode cL_groups 19 = .ok (.ireturn, 1) := by decide +kernel
theorem dL_smallest_0 : decode cL_smallest 0 = .ok (.aload_n 3, 1) := by decide +kernel
theorem dL_smallest_1 : decode cL_smallest 1 = .ok (.iconst 0, 1) := by decide +kernel
theorem dL_smallest_2 : decode cL_smallest 2 = .ok (.aload_n 0, 1) := by decide +kernel
theorem dL_smallest_3 : decode cL_smallest 3 = .ok (.iload_n 1, 1) := by decide +kernel
theorem dL_smallest_4 : decode cL_smallest 4 = .ok (.iload_n 2, 1) := by decide +kernel
theorem dL_smallest_5 : decode cL_smallest 5 = .ok (.invokevirtual 100, 3) := by decide +kernel
theorem dL_smallest_8 : decode cL_smallest 8 = .ok (.i2l, 1) := by decide +kernel
theorem dL_smallest_9 : decode cL_smallest 9 = .ok (.lastore, 1) := by decide +kernel
theorem dL_smallest_10 : decode cL_smallest 10 = .ok (.goto 11, 3) := by decide +kernel
theorem dL_smallest_13 : decode cL_smallest 13 = .ok (.astore 4, 2) := by decide +kernel
theorem dL_smallest_15 : decode cL_smallest 15 = .ok (.iconst 1, 1) := by decide +kernel
theorem dL_smallest_16 : decode cL_smallest 16 = .ok (.ireturn, 1) := by decide +kernel
theorem dL_smallest_17 : decode cL_smallest 17 = .ok (.astore 4, 2) := by decide +kernel
theorem dL_smallest_19 : decode cL_smallest 19 = .ok (.iconst 2, 1) := by decide +kernel
theorem dL_smallest_20 : decode cL_smallest 20 = .ok (.ireturn, 1) := by decide +kernel
theorem dL_smallest_21 : decode cL_smallest 21 = .ok (.iconst 0, 1) := by decide +kernel
theorem dL_smallest_22 : decode cL_smallest 22 = .ok (.ireturn, 1) := by decide +kernel
theorem dL_powerBits_0 : decode cL_powerBits 0 = .ok (.aload_n 3, 1) := by decide +kernel
theorem dL_powerBits_1 : decode cL_powerBits 1 = .ok (.iconst 0, 1) := by decide +kernel
theorem dL_powerBits_2 : decode cL_powerBits 2 = .ok (.aload_n 0, 1) := by decide +kernel
theorem dL_powerBits_3 : decode cL_powerBits 3 = .ok (.iload_n 1, 1) := by decide +kernel
theorem dL_powerBits_4 : decode cL_powerBits 4 = .ok (.iload_n 2, 1) := by decide +kernel
theorem dL_powerBits_5 : decode cL_powerBits 5 = .ok (.invokevirtual 103, 3) := by decide +kernel
theorem dL_powerBits_8 : decode cL_powerBits 8 = .ok (.lastore, 1) := by decide +kernel
theorem dL_powerBits_9 : decode cL_powerBits 9 = .ok (.goto 11, 3) := by decide +kernel
theorem dL_powerBits_12 : decode cL_powerBits 12 = .ok (.astore 4, 2) := by decide +kernel
theorem dL_powerBits_14 : decode cL_powerBits 14 = .ok (.iconst 1, 1) := by decide +kernel
theorem dL_powerBits_15 : decode cL_powerBits 15 = .ok (.ireturn, 1) := by decide +kernel
theorem dL_powerBits_16 : decode cL_powerBits 16 = .ok (.astore 4, 2) := by decide +kernel
theorem dL_powerBits_18 : decode cL_powerBits 18 = .ok (.iconst 2, 1) := by decide +kernel
theorem dL_powerBits_19 : decode cL_powerBits 19 = .ok (.ireturn, 1) := by decide +kernel
theorem dL_powerBits_20 : decode cL_powerBits 20 = .ok (.iconst 0, 1) := by decide +kernel
theorem dL_powerBits_21 : decode cL_powerBits 21 = .ok (.ireturn, 1) := by decide +kernel
theorem dL_healthBits_0 : decode cL_healthBits 0 = .ok (.aload_n 2, 1) := by decide +kernel
theorem dL_healthBits_1 : decode cL_healthBits 1 = .ok (.iconst 0, 1) := by decide +kernel
theorem dL_healthBits_2 : decode cL_healthBits 2 = .ok (.aload_n 0, 1) := by decide +kernel
theorem dL_healthBits_3 : decode cL_healthBits 3 = .ok (.iload_n 1, 1) := by decide +kernel
theorem dL_healthBits_4 : decode cL_healthBits 4 = .ok (.invokevirtual 107, 3) := by decide +kernel
theorem dL_healthBits_7 : decode cL_healthBits 7 = .ok (.i2l, 1) := by decide +kernel
theorem dL_healthBits_8 : decode cL_healthBits 8 = .ok (.lastore, 1) := by decide +kernel
theorem dL_healthBits_9 : decode cL_healthBits 9 = .ok (.goto 12, 3) := by decide +kernel
theorem dL_healthBits_12 : decode cL_healthBits 12 = .ok (.astore_n 3, 1) := by decide +kernel
theorem dL_healthBits_13 : decode cL_healthBits 13 = .ok (.iconst 1, 1) := by decide +kernel
theorem dL_healthBits_14 : decode cL_healthBits 14 = .ok (.ireturn, 1) := by decide +kernel
theorem dL_healthBits_15 : decode cL_healthBits 15 = .ok (.astore_n 3, 1) := by decide +kernel
theorem dL_healthBits_16 : decode cL_healthBits 16 = .ok (.iconst 2, 1) := by decide +kernel
theorem dL_healthBits_17 : decode cL_healthBits 17 = .ok (.ireturn, 1) := by decide +kernel
theorem dL_healthBits_18 : decode cL_healthBits 18 = .ok (.astore_n 3, 1) := by decide +kernel
theorem dL_healthBits_19 : decode cL_healthBits 19 = .ok (.iconst 3, 1) := by decide +kernel
theorem dL_healthBits_20 : decode cL_healthBits 20 = .ok (.ireturn, 1) := by decide +kernel
theorem dL_healthBits_21 : decode cL_healthBits 21 = .ok (.iconst 0, 1) := by decide +kernel
theorem dL_healthBits_22 : decode cL_healthBits 22 = .ok (.ireturn, 1) := by decide +kernel
theorem dL_report_0 : decode cL_report 0 = .ok (.aload_n 3, 1) := by decide +kernel
theorem dL_report_1 : decode cL_report 1 = .ok (.iconst 0, 1) := by decide +kernel
theorem dL_report_2 : decode cL_report 2 = .ok (.aload_n 0, 1) := by decide +kernel
theorem dL_report_3 : decode cL_report 3 = .ok (.iload_n 1, 1) := by decide +kernel
theorem dL_report_4 : decode cL_report 4 = .ok (.iload_n 2, 1) := by decide +kernel
theorem dL_report_5 : decode cL_report 5 = .ok (.invokevirtual 112, 3) := by decide +kernel
theorem dL_report_8 : decode cL_report 8 = .ok (.i2l, 1) := by decide +kernel
theorem dL_report_9 : decode cL_report 9 = .ok (.lastore, 1) := by decide +kernel
theorem dL_report_10 : decode cL_report 10 = .ok (.goto 11, 3) := by decide +kernel
theorem dL_report_13 : decode cL_report 13 = .ok (.astore 4, 2) := by decide +kernel
theorem dL_report_15 : decode cL_report 15 = .ok (.iconst 1, 1) := by decide +kernel
theorem dL_report_16 : decode cL_report 16 = .ok (.ireturn, 1) := by decide +kernel
theorem dL_report_17 : decode cL_report 17 = .ok (.astore 4, 2) := by decide +kernel
theorem dL_report_19 : decode cL_report 19 = .ok (.iconst 2, 1) := by decide +kernel
theorem dL_report_20 : decode cL_report 20 = .ok (.ireturn, 1) := by decide +kernel
theorem dL_report_21 : decode cL_report 21 = .ok (.iconst 0, 1) := by decide +kernel
theorem dL_report_22 : decode cL_report 22 = .ok (.ireturn, 1) := by decide +kernel
theorem dL_event_0 : decode cL_event 0 = .ok (.aload_n 2, 1) := by decide +kernel
theorem dL_event_1 : decode cL_event 1 = .ok (.iconst 0, 1) := by decide +kernel
theorem dL_event_2 : decode cL_event 2 = .ok (.aload_n 0, 1) := by decide +kernel
theorem dL_event_3 : decode cL_event 3 = .ok (.iload_n 1, 1) := by decide +kernel
theorem dL_event_4 : decode cL_event 4 = .ok (.invokevirtual 115, 3) := by decide +kernel
theorem dL_event_7 : decode cL_event 7 = .ok (.i2l, 1) := by decide +kernel
theorem dL_event_8 : decode cL_event 8 = .ok (.lastore, 1) := by decide +kernel
theorem dL_event_9 : decode cL_event 9 = .ok (.goto 6, 3) := by decide +kernel
theorem dL_event_12 : decode cL_event 12 = .ok (.astore_n 3, 1) := by decide +kernel
theorem dL_event_13 : decode cL_event 13 = .ok (.iconst 1, 1) := by decide +kernel
theorem dL_event_14 : decode cL_event 14 = .ok (.ireturn, 1) := by decide +kernel
theorem dL_event_15 : decode cL_event 15 = .ok (.iconst 0, 1) := by decide +kernel
theorem dL_event_16 : decode cL_event 16 = .ok (.ireturn, 1) := by decide +kernel
theorem dL_restore_0 : decode cL_restore 0 = .ok (.aload_n 1, 1) := by decide +kernel
theorem dL_restore_1 : decode cL_restore 1 = .ok (.iconst 0, 1) := by decide +kernel
theorem dL_restore_2 : decode cL_restore 2 = .ok (.aload_n 0, 1) := by decide +kernel
theorem dL_restore_3 : decode cL_restore 3 = .ok (.invokevirtual 118, 3) := by decide +kernel
theorem dL_restore_6 : decode cL_restore 6 = .ok (.i2l, 1) := by decide +kernel
theorem dL_restore_7 : decode cL_restore 7 = .ok (.lastore, 1) := by decide +kernel
theorem dL_restore_8 : decode cL_restore 8 = .ok (.goto 6, 3) := by decide +kernel
theorem dL_restore_11 : decode cL_restore 11 = .ok (.astore_n 2, 1) := by decide +kernel
theorem dL_restore_12 : decode cL_restore 12 = .ok (.iconst 1, 1) := by decide +kernel
theorem dL_restore_13 : decode cL_restore 13 = .ok (.ireturn, 1) := by decide +kernel
theorem dL_restore_14 : decode cL_restore 14 = .ok (.iconst 0, 1) := by decide +kernel
theorem dL_restore_15 : decode cL_restore 15 = .ok (.ireturn, 1) := by decide +kernel
theorem dL_law_0 : decode cL_law 0 = .ok (.new 8, 3) := by decide +kernel
theorem dL_law_3 : decode cL_law 3 = .ok (.dup, 1) := by decide +kernel
theorem dL_law_4 : decode cL_law 4 = .ok (.invokespecial 122, 3) := by decide +kernel
theorem dL_law_7 : decode cL_law 7 = .ok (.astore_n 1, 1) := by decide +kernel
theorem dL_law_8 : decode cL_law 8 = .ok (.new 123, 3) := by decide +kernel
theorem dL_law_11 : decode cL_law 11 = .ok (.dup, 1) := by decide +kernel
theorem dL_law_12 : decode cL_law 12 = .ok (.invokespecial 125, 3) := by decide +kernel
theorem dL_law_15 : decode cL_law 15 = .ok (.astore_n 2, 1) := by decide +kernel
theorem dL_law_16 : decode cL_law 16 = .ok (.iconst 1, 1) := by decide +kernel
theorem dL_law_17 : decode cL_law 17 = .ok (.newarray .long, 2) := by decide +kernel
theorem dL_law_19 : decode cL_law 19 = .ok (.astore_n 3, 1) := by decide +kernel
theorem dL_law_20 : decode cL_law 20 = .ok (.iconst 0, 1) := by decide +kernel
theorem dL_law_21 : decode cL_law 21 = .ok (.istore 4, 2) := by decide +kernel
theorem dL_law_23 : decode cL_law 23 = .ok (.iload 4, 2) := by decide +kernel
theorem dL_law_25 : decode cL_law 25 = .ok (.aload_n 0, 1) := by decide +kernel
theorem dL_law_26 : decode cL_law 26 = .ok (.arraylength, 1) := by decide +kernel
theorem dL_law_27 : decode cL_law 27 = .ok (.iconst 4, 1) := by decide +kernel
theorem dL_law_28 : decode cL_law 28 = .ok (.isub, 1) := by decide +kernel
theorem dL_law_29 : decode cL_law 29 = .ok (.if_icmp .gt 2353, 3) := by decide +kernel
theorem dL_law_32 : decode cL_law 32 = .ok (.aload_n 0, 1) := by decide +kernel
theorem dL_law_33 : decode cL_law 33 = .ok (.iload 4, 2) := by decide +kernel
theorem dL_law_35 : decode cL_law 35 = .ok (.iaload, 1) := by decide +kernel
theorem dL_law_36 : decode cL_law 36 = .ok (.bipush 63, 2) := by decide +kernel
theorem dL_law_38 : decode cL_law 38 = .ok (.iand, 1) := by decide +kernel
theorem dL_law_39 : decode cL_law 39 = .ok (.tableswitch 2337 0 35 #[157, 182, 195, 263, 354, 422, 502, 558, 614, 694, 774, 842, 910, 978, 1053, 1121, 1189, 1269, 1349, 1429, 1485, 1553, 1609, 1672, 1685, 1760, 1828, 1896, 1952, 2020, 2087, 2143, 2156, 2224, 2280, 2293], 157) := by decide +kernel
theorem dL_law_196 : decode cL_law 196 = .ok (.aload_n 1, 1) := by decide +kernel
theorem dL_law_197 : decode cL_law 197 = .ok (.aload_n 0, 1) := by decide +kernel
theorem dL_law_198 : decode cL_law 198 = .ok (.iload 4, 2) := by decide +kernel
theorem dL_law_200 : decode cL_law 200 = .ok (.iconst 1, 1) := by decide +kernel
theorem dL_law_201 : decode cL_law 201 = .ok (.iadd, 1) := by decide +kernel
theorem dL_law_202 : decode cL_law 202 = .ok (.iaload, 1) := by decide +kernel
theorem dL_law_203 : decode cL_law 203 = .ok (.invokevirtual 126, 3) := by decide +kernel
theorem dL_law_206 : decode cL_law 206 = .ok (.aload_n 2, 1) := by decide +kernel
theorem dL_law_207 : decode cL_law 207 = .ok (.aload_n 0, 1) := by decide +kernel
theorem dL_law_208 : decode cL_law 208 = .ok (.iload 4, 2) := by decide +kernel
theorem dL_law_210 : decode cL_law 210 = .ok (.iconst 1, 1) := by decide +kernel
theorem dL_law_211 : decode cL_law 211 = .ok (.iadd, 1) := by decide +kernel
theorem dL_law_212 : decode cL_law 212 = .ok (.iaload, 1) := by decide +kernel
theorem dL_law_213 : decode cL_law 213 = .ok (.invokevirtual 129, 3) := by decide +kernel
theorem dL_law_216 : decode cL_law 216 = .ok (.if_icmp .eq 2160, 3) := by decide +kernel
theorem dL_law_219 : decode cL_law 219 = .ok (.iconst 0, 1) := by decide +kernel
theorem dL_law_220 : decode cL_law 220 = .ok (.ireturn, 1) := by decide +kernel
theorem dL_law_221 : decode cL_law 221 = .ok (.aload_n 1, 1) := by decide +kernel
theorem dL_law_222 : decode cL_law 222 = .ok (.invokevirtual 130, 3) := by decide +kernel
theorem dL_law_225 : decode cL_law 225 = .ok (.aload_n 2, 1) := by decide +kernel
theorem dL_law_226 : decode cL_law 226 = .ok (.invokevirtual 133, 3) := by decide +kernel
theorem dL_law_229 : decode cL_law 229 = .ok (.if_icmp .eq 2147, 3) := by decide +kernel
theorem dL_law_232 : decode cL_law 232 = .ok (.iconst 0, 1) := by decide +kernel
theorem dL_law_233 : decode cL_law 233 = .ok (.ireturn, 1) := by decide +kernel
theorem dL_law_234 : decode cL_law 234 = .ok (.aload_n 1, 1) := by decide +kernel
theorem dL_law_235 : decode cL_law 235 = .ok (.aload_n 0, 1) := by decide +kernel
theorem dL_law_236 : decode cL_law 236 = .ok (.iload 4, 2) := by decide +kernel
theorem dL_law_238 : decode cL_law 238 = .ok (.iconst 1, 1) := by decide +kernel
theorem dL_law_239 : decode cL_law 239 = .ok (.iadd, 1) := by decide +kernel
theorem dL_law_240 : decode cL_law 240 = .ok (.iaload, 1) := by decide +kernel
theorem dL_law_241 : decode cL_law 241 = .ok (.aload_n 0, 1) := by decide +kernel
theorem dL_law_242 : decode cL_law 242 = .ok (.iload 4, 2) := by decide +kernel
theorem dL_law_244 : decode cL_law 244 = .ok (.iconst 2, 1) := by decide +kernel
theorem dL_law_245 : decode cL_law 245 = .ok (.iadd, 1) := by decide +kernel
theorem dL_law_246 : decode cL_law 246 = .ok (.iaload, 1) := by decide +kernel
theorem dL_law_247 : decode cL_law 247 = .ok (.aload_n 3, 1) := by decide +kernel
theorem dL_law_248 : decode cL_law 248 = .ok (.invokestatic 134, 3) := by decide +kernel
theorem dL_law_251 : decode cL_law 251 = .ok (.istore 5, 2) := by decide +kernel
theorem dL_law_253 : decode cL_law 253 = .ok (.aload_n 2, 1) := by decide +kernel
theorem dL_law_254 : decode cL_law 254 = .ok (.aload_n 0, 1) := by decide +kernel
theorem dL_law_255 : decode cL_law 255 = .ok (.iload 4, 2) := by decide +kernel
theorem dL_law_257 : decode cL_law 257 = .ok (.iconst 1, 1) := by decide +kernel
theorem dL_law_258 : decode cL_law 258 = .ok (.iadd, 1) := by decide +kernel
theorem dL_law_259 : decode cL_law 259 = .ok (.iaload, 1) := by decide +kernel
theorem dL_law_260 : decode cL_law 260 = .ok (.aload_n 0, 1) := by decide +kernel
theorem dL_law_261 : decode cL_law 261 = .ok (.iload 4, 2) := by decide +kernel
theorem dL_law_263 : decode cL_law 263 = .ok (.iconst 2, 1) := by decide +kernel
theorem dL_law_264 : decode cL_law 264 = .ok (.iadd, 1) := by decide +kernel
theorem dL_law_265 : decode cL_law 265 = .ok (.iaload, 1) := by decide +kernel
theorem dL_law_266 : decode cL_law 266 = .ok (.invokevirtual 139, 3) := by decide +kernel
theorem dL_law_269 : decode cL_law 269 = .ok (.istore 6, 2) := by decide +kernel
theorem dL_law_271 : decode cL_law 271 = .ok (.aload_n 2, 1) := by decide +kernel
theorem dL_law_272 : decode cL_law 272 = .ok (.invokevirtual 140, 3) := by decide +kernel
theorem dL_law_275 : decode cL_law 275 = .ok (.iload 5, 2) := by decide +kernel
theorem dL_law_277 : decode cL_law 277 = .ok (.if_icmp .eq 5, 3) := by decide +kernel
theorem dL_law_280 : decode cL_law 280 = .ok (.iconst 0, 1) := by decide +kernel
theorem dL_law_281 : decode cL_law 281 = .ok (.ireturn, 1) := by decide +kernel
theorem dL_law_282 : decode cL_law 282 = .ok (.iload 5, 2) := by decide +kernel
theorem dL_law_284 : decode cL_law 284 = .ok (.ifCond .ne 15, 3) := by decide +kernel
theorem dL_law_287 : decode cL_law 287 = .ok (.aload_n 3, 1) := by decide +kernel
theorem dL_law_288 : decode cL_law 288 = .ok (.iconst 0, 1) := by decide +kernel
theorem dL_law_289 : decode cL_law 289 = .ok (.laload, 1) := by decide +kernel
theorem dL_law_290 : decode cL_law 290 = .ok (.iload 6, 2) := by decide +kernel
theorem dL_law_292 : decode cL_law 292 = .ok (.i2l, 1) := by decide +kernel
theorem dL_law_293 : decode cL_law 293 = .ok (.lcmp, 1) := by decide +kernel
theorem dL_law_294 : decode cL_law 294 = .ok (.ifCond .eq 5, 3) := by decide +kernel
theorem dL_law_297 : decode cL_law 297 = .ok (.iconst 0, 1) := by decide +kernel
theorem dL_law_298 : decode cL_law 298 = .ok (.ireturn, 1) := by decide +kernel
theorem dL_law_299 : decode cL_law 299 = .ok (.goto 2077, 3) := by decide +kernel
theorem dL_law_302 : decode cL_law 302 = .ok (.aload_n 1, 1) := by decide +kernel
theorem dL_law_303 : decode cL_law 303 = .ok (.aload_n 0, 1) := by decide +kernel
theorem dL_law_304 : decode cL_law 304 = .ok (.iload 4, 2) := by decide +kernel
theorem dL_law_306 : decode cL_law 306 = .ok (.iconst 1, 1) := by decide +kernel
theorem dL_law_307 : decode cL_law 307 = .ok (.iadd, 1) := by decide +kernel
theorem dL_law_308 : decode cL_law 308 = .ok (.iaload, 1) := by decide +kernel
theorem dL_law_309 : decode cL_law 309 = .ok (.aload_n 0, 1) := by decide +kernel
theorem dL_law_310 : decode cL_law 310 = .ok (.iload 4, 2) := by decide +kernel
theorem dL_law_312 : decode cL_law 312 = .ok (.iconst 2, 1) := by decide +kernel
theorem dL_law_313 : decode cL_law 313 = .ok (.iadd, 1) := by decide +kernel
theorem dL_law_314 : decode cL_law 314 = .ok (.iaload, 1) := by decide +kernel
theorem dL_law_315 : decode cL_law 315 = .ok (.ifCond .eq 7, 3) := by decide +kernel
theorem dL_law_318 : decode cL_law 318 = .ok (.iconst 1, 1) := by decide +kernel
theorem dL_law_319 : decode cL_law 319 = .ok (.goto 4, 3) := by decide +kernel
theorem dL_law_322 : decode cL_law 322 = .ok (.iconst 0, 1) := by decide +kernel
theorem dL_law_323 : decode cL_law 323 = .ok (.aload_n 3, 1) := by decide +kernel
theorem dL_law_324 : decode cL_law 324 = .ok (.invokestatic 143, 3) := by decide +kernel
theorem dL_law_327 : decode cL_law 327 = .ok (.istore 5, 2) := by decide +kernel
theorem dL_law_329 : decode cL_law 329 = .ok (.aload_n 2, 1) := by decide +kernel
theorem dL_law_330 : decode cL_law 330 = .ok (.aload_n 0, 1) := by decide +kernel
theorem dL_law_331 : decode cL_law 331 = .ok (.iload 4, 2) := by decide +kernel
theorem dL_law_333 : decode cL_law 333 = .ok (.iconst 1, 1) := by decide +kernel
theorem dL_law_334 : decode cL_law 334 = .ok (.iadd, 1) := by decide +kernel
theorem dL_law_335 : decode cL_law 335 = .ok (.iaload, 1) := by decide +kernel
theorem dL_law_336 : decode cL_law 336 = .ok (.aload_n 0, 1) := by decide +kernel
theorem dL_law_337 : decode cL_law 337 = .ok (.iload 4, 2) := by decide +kernel
theorem dL_law_339 : decode cL_law 339 = .ok (.iconst 2, 1) := by decide +kernel
theorem dL_law_340 : decode cL_law 340 = .ok (.iadd, 1) := by decide +kernel
theorem dL_law_341 : decode cL_law 341 = .ok (.iaload, 1) := by decide +kernel
theorem dL_law_342 : decode cL_law 342 = .ok (.ifCond .eq 7, 3) := by decide +kernel
theorem dL_law_345 : decode cL_law 345 = .ok (.iconst 1, 1) := by decide +kernel
theorem dL_law_346 : decode cL_law 346 = .ok (.goto 4, 3) := by decide +kernel
theorem dL_law_349 : decode cL_law 349 = .ok (.iconst 0, 1) := by decide +kernel
theorem dL_law_350 : decode cL_law 350 = .ok (.invokevirtual 146, 3) := by decide +kernel
theorem dL_law_353 : decode cL_law 353 = .ok (.istore 6, 2) := by decide +kernel
theorem dL_law_355 : decode cL_law 355 = .ok (.aload_n 2, 1) := by decide +kernel
theorem dL_law_356 : decode cL_law 356 = .ok (.invokevirtual 140, 3) := by decide +kernel
theorem dL_law_359 : decode cL_law 359 = .ok (.iload 5, 2) := by decide +kernel
theorem dL_law_361 : decode cL_law 361 = .ok (.if_icmp .eq 5, 3) := by decide +kernel
theorem dL_law_364 : decode cL_law 364 = .ok (.iconst 0, 1) := by decide +kernel
theorem dL_law_365 : decode cL_law 365 = .ok (.ireturn, 1) := by decide +kernel
theorem dL_law_366 : decode cL_law 366 = .ok (.iload 5, 2) := by decide +kernel
theorem dL_law_368 : decode cL_law 368 = .ok (.ifCond .ne 22, 3) := by decide +kernel
theorem dL_law_371 : decode cL_law 371 = .ok (.aload_n 3, 1) := by decide +kernel
theorem dL_law_372 : decode cL_law 372 = .ok (.iconst 0, 1) := by decide +kernel
theorem dL_law_373 : decode cL_law 373 = .ok (.laload, 1) := by decide +kernel
theorem dL_law_374 : decode cL_law 374 = .ok (.iload 6, 2) := by decide +kernel
theorem dL_law_376 : decode cL_law 376 = .ok (.ifCond .eq 7, 3) := by decide +kernel
theorem dL_law_379 : decode cL_law 379 = .ok (.lconst 1, 1) := by decide +kernel
theorem dL_law_380 : decode cL_law 380 = .ok (.goto 4, 3) := by decide +kernel
theorem dL_law_383 : decode cL_law 383 = .ok (.lconst 0, 1) := by decide +kernel
theorem dL_law_384 : decode cL_law 384 = .ok (.lcmp, 1) := by decide +kernel
theorem dL_law_385 : decode cL_law 385 = .ok (.ifCond .eq 5, 3) := by decide +kernel
theorem dL_law_388 : decode cL_law 388 = .ok (.iconst 0, 1) := by decide +kernel
theorem dL_law_389 : decode cL_law 389 = .ok (.ireturn, 1) := by decide +kernel
theorem dL_law_390 : decode cL_law 390 = .ok (.goto 1986, 3) := by decide +kernel
theorem dL_law_393 : decode cL_law 393 = .ok (.aload_n 1, 1) := by decide +kernel
theorem dL_law_394 : decode cL_law 394 = .ok (.aload_n 0, 1) := by decide +kernel
theorem dL_law_395 : decode cL_law 395 = .ok (.iload 4, 2) := by decide +kernel
theorem dL_law_397 : decode cL_law 397 = .ok (.iconst 1, 1) := by decide +kernel
theorem dL_law_398 : decode cL_law 398 = .ok (.iadd, 1) := by decide +kernel
theorem dL_law_399 : decode cL_law 399 = .ok (.iaload, 1) := by decide +kernel
theorem dL_law_400 : decode cL_law 400 = .ok (.aload_n 0, 1) := by decide +kernel
theorem dL_law_401 : decode cL_law 401 = .ok (.iload 4, 2) := by decide +kernel
theorem dL_law_403 : decode cL_law 403 = .ok (.iconst 2, 1) := by decide +kernel
theorem dL_law_404 : decode cL_law 404 = .ok (.iadd, 1) := by decide +kernel
theorem dL_law_405 : decode cL_law 405 = .ok (.iaload, 1) := by decide +kernel
theorem dL_law_406 : decode cL_law 406 = .ok (.aload_n 3, 1) := by decide +kernel
theorem dL_law_407 : decode cL_law 407 = .ok (.invokestatic 147, 3) := by decide +kernel
theorem dL_law_410 : decode cL_law 410 = .ok (.istore 5, 2) := by decide +kernel
theorem dL_law_412 : decode cL_law 412 = .ok (.aload_n 2, 1) := by decide +kernel
theorem dL_law_413 : decode cL_law 413 = .ok (.aload_n 0, 1) := by decide +kernel
theorem dL_law_414 : decode cL_law 414 = .ok (.iload 4, 2) := by decide +kernel
theorem dL_law_416 : decode cL_law 416 = .ok (.iconst 1, 1) := by decide +kernel
theorem dL_law_417 : decode cL_law 417 = .ok (.iadd, 1) := by decide +kernel
theorem dL_law_418 : decode cL_law 418 = .ok (.iaload, 1) := by decide +kernel
theorem dL_law_419 : decode cL_law 419 = .ok (.aload_n 0, 1) := by decide +kernel
theorem dL_law_420 : decode cL_law 420 = .ok (.iload 4, 2) := by decide +kernel
theorem dL_law_422 : decode cL_law 422 = .ok (.iconst 2, 1) := by decide +kernel
theorem dL_law_423 : decode cL_law 423 = .ok (.iadd, 1) := by decide +kernel
theorem dL_law_424 : decode cL_law 424 = .ok (.iaload, 1) := by decide +kernel
theorem dL_law_425 : decode cL_law 425 = .ok (.invokevirtual 149, 3) := by decide +kernel
theorem dL_law_428 : decode cL_law 428 = .ok (.istore 6, 2) := by decide +kernel
theorem dL_law_430 : decode cL_law 430 = .ok (.aload_n 2, 1) := by decide +kernel
theorem dL_law_431 : decode cL_law 431 = .ok (.invokevirtual 140, 3) := by decide +kernel
theorem dL_law_434 : decode cL_law 434 = .ok (.iload 5, 2) := by decide +kernel
theorem dL_law_436 : decode cL_law 436 = .ok (.if_icmp .eq 5, 3) := by decide +kernel
theorem dL_law_439 : decode cL_law 439 = .ok (.iconst 0, 1) := by decide +kernel
theorem dL_law_440 : decode cL_law 440 = .ok (.ireturn, 1) := by decide +kernel
theorem dL_law_441 : decode cL_law 441 = .ok (.iload 5, 2) := by decide +kernel
theorem dL_law_443 : decode cL_law 443 = .ok (.ifCond .ne 15, 3) := by decide +kernel
theorem dL_law_446 : decode cL_law 446 = .ok (.aload_n 3, 1) := by decide +kernel
theorem dL_law_447 : decode cL_law 447 = .ok (.iconst 0, 1) := by decide +kernel
theorem dL_law_448 : decode cL_law 448 = .ok (.laload, 1) := by decide +kernel
theorem dL_law_449 : decode cL_law 449 = .ok (.iload 6, 2) := by decide +kernel
theorem dL_law_451 : decode cL_law 451 = .ok (.i2l, 1) := by decide +kernel
theorem dL_law_452 : decode cL_law 452 = .ok (.lcmp, 1) := by decide +kernel
theorem dL_law_453 : decode cL_law 453 = .ok (.ifCond .eq 5, 3) := by decide +kernel
theorem dL_law_456 : decode cL_law 456 = .ok (.iconst 0, 1) := by decide +kernel
theorem dL_law_457 : decode cL_law 457 = .ok (.ireturn, 1) := by decide +kernel
theorem dL_law_458 : decode cL_law 458 = .ok (.goto 1918, 3) := by decide +kernel
theorem dL_law_461 : decode cL_law 461 = .ok (.aload_n 1, 1) := by decide +kernel
theorem dL_law_462 : decode cL_law 462 = .ok (.aload_n 0, 1) := by decide +kernel
theorem dL_law_463 : decode cL_law 463 = .ok (.iload 4, 2) := by decide +kernel
theorem dL_law_465 : decode cL_law 465 = .ok (.iconst 1, 1) := by decide +kernel
theorem dL_law_466 : decode cL_law 466 = .ok (.iadd, 1) := by decide +kernel
theorem dL_law_467 : decode cL_law 467 = .ok (.iaload, 1) := by decide +kernel
theorem dL_law_468 : decode cL_law 468 = .ok (.aload_n 0, 1) := by decide +kernel
theorem dL_law_469 : decode cL_law 469 = .ok (.iload 4, 2) := by decide +kernel
theorem dL_law_471 : decode cL_law 471 = .ok (.iconst 2, 1) := by decide +kernel
theorem dL_law_472 : decode cL_law 472 = .ok (.iadd, 1) := by decide +kernel
theorem dL_law_473 : decode cL_law 473 = .ok (.iaload, 1) := by decide +kernel
theorem dL_law_474 : decode cL_law 474 = .ok (.aload_n 0, 1) := by decide +kernel
theorem dL_law_475 : decode cL_law 475 = .ok (.iload 4, 2) := by decide +kernel
theorem dL_law_477 : decode cL_law 477 = .ok (.iconst 3, 1) := by decide +kernel
theorem dL_law_478 : decode cL_law 478 = .ok (.iadd, 1) := by decide +kernel
theorem dL_law_479 : decode cL_law 479 = .ok (.iaload, 1) := by decide +kernel
theorem dL_law_480 : decode cL_law 480 = .ok (.aload_n 3, 1) := by decide +kernel
theorem dL_law_481 : decode cL_law 481 = .ok (.invokestatic 150, 3) := by decide +kernel
theorem dL_law_484 : decode cL_law 484 = .ok (.istore 5, 2) := by decide +kernel
theorem dL_law_486 : decode cL_law 486 = .ok (.aload_n 2, 1) := by decide +kernel
theorem dL_law_487 : decode cL_law 487 = .ok (.aload_n 0, 1) := by decide +kernel
theorem dL_law_488 : decode cL_law 488 = .ok (.iload 4, 2) := by decide +kernel
theorem dL_law_490 : decode cL_law 490 = .ok (.iconst 1, 1) := by decide +kernel
theorem dL_law_491 : decode cL_law 491 = .ok (.iadd, 1) := by decide +kernel
theorem dL_law_492 : decode cL_law 492 = .ok (.iaload, 1) := by decide +kernel
theorem dL_law_493 : decode cL_law 493 = .ok (.aload_n 0, 1) := by decide +kernel
theorem dL_law_494 : decode cL_law 494 = .ok (.iload 4, 2) := by decide +kernel
theorem dL_law_496 : decode cL_law 496 = .ok (.iconst 2, 1) := by decide +kernel
theorem dL_law_497 : decode cL_law 497 = .ok (.iadd, 1) := by decide +kernel
theorem dL_law_498 : decode cL_law 498 = .ok (.iaload, 1) := by decide +kernel
theorem dL_law_499 : decode cL_law 499 = .ok (.aload_n 0, 1) := by decide +kernel
theorem dL_law_500 : decode cL_law 500 = .ok (.iload 4, 2) := by decide +kernel
theorem dL_law_502 : decode cL_law 502 = .ok (.iconst 3, 1) := by decide +kernel
theorem dL_law_503 : decode cL_law 503 = .ok (.iadd, 1) := by decide +kernel
theorem dL_law_504 : decode cL_law 504 = .ok (.iaload, 1) := by decide +kernel
theorem dL_law_505 : decode cL_law 505 = .ok (.invokevirtual 153, 3) := by decide +kernel
theorem dL_law_508 : decode cL_law 508 = .ok (.istore 6, 2) := by decide +kernel
theorem dL_law_510 : decode cL_law 510 = .ok (.aload_n 2, 1) := by decide +kernel
theorem dL_law_511 : decode cL_law 511 = .ok (.invokevirtual 140, 3) := by decide +kernel
theorem dL_law_514 : decode cL_law 514 = .ok (.iload 5, 2) := by decide +kernel
theorem dL_law_516 : decode cL_law 516 = .ok (.if_icmp .eq 5, 3) := by decide +kernel
theorem dL_law_519 : decode cL_law 519 = .ok (.iconst 0, 1) := by decide +kernel
theorem dL_law_520 : decode cL_law 520 = .ok (.ireturn, 1) := by decide +kernel
theorem dL_law_521 : decode cL_law 521 = .ok (.iload 5, 2) := by decide +kernel
theorem dL_law_523 : decode cL_law 523 = .ok (.ifCond .ne 15, 3) := by decide +kernel
theorem dL_law_526 : decode cL_law 526 = .ok (.aload_n 3, 1) := by decide +kernel
theorem dL_law_527 : decode cL_law 527 = .ok (.iconst 0, 1) := by decide +kernel
theorem dL_law_528 : decode cL_law 528 = .ok (.laload, 1) := by decide +kernel
theorem dL_law_529 : decode cL_law 529 = .ok (.iload 6, 2) := by decide +kernel
theorem dL_law_531 : decode cL_law 531 = .ok (.i2l, 1) := by decide +kernel
theorem dL_law_532 : decode cL_law 532 = .ok (.lcmp, 1) := by decide +kernel
theorem dL_law_533 : decode cL_law 533 = .ok (.ifCond .eq 5, 3) := by decide +kernel
theorem dL_law_536 : decode cL_law 536 = .ok (.iconst 0, 1) := by decide +kernel
theorem dL_law_537 : decode cL_law 537 = .ok (.ireturn, 1) := by decide +kernel
theorem dL_law_538 : decode cL_law 538 = .ok (.goto 1838, 3) := by decide +kernel
theorem dL_law_541 : decode cL_law 541 = .ok (.aload_n 1, 1) := by decide +kernel
theorem dL_law_542 : decode cL_law 542 = .ok (.aload_n 0, 1) := by decide +kernel
theorem dL_law_543 : decode cL_law 543 = .ok (.iload 4, 2) := by decide +kernel
theorem dL_law_545 : decode cL_law 545 = .ok (.iconst 1, 1) := by decide +kernel
theorem dL_law_546 : decode cL_law 546 = .ok (.iadd, 1) := by decide +kernel
theorem dL_law_547 : decode cL_law 547 = .ok (.iaload, 1) := by decide +kernel
theorem dL_law_548 : decode cL_law 548 = .ok (.aload_n 3, 1) := by decide +kernel
theorem dL_law_549 : decode cL_law 549 = .ok (.invokestatic 154, 3) := by decide +kernel
theorem dL_law_552 : decode cL_law 552 = .ok (.istore 5, 2) := by decide +kernel
theorem dL_law_554 : decode cL_law 554 = .ok (.aload_n 2, 1) := by decide +kernel
theorem dL_law_555 : decode cL_law 555 = .ok (.aload_n 0, 1) := by decide +kernel
theorem dL_law_556 : decode cL_law 556 = .ok (.iload 4, 2) := by decide +kernel
theorem dL_law_558 : decode cL_law 558 = .ok (.iconst 1, 1) := by decide +kernel
theorem dL_law_559 : decode cL_law 559 = .ok (.iadd, 1) := by decide +kernel
theorem dL_law_560 : decode cL_law 560 = .ok (.iaload, 1) := by decide +kernel
theorem dL_law_561 : decode cL_law 561 = .ok (.invokevirtual 157, 3) := by decide +kernel
theorem dL_law_564 : decode cL_law 564 = .ok (.istore 6, 2) := by decide +kernel
theorem dL_law_566 : decode cL_law 566 = .ok (.aload_n 2, 1) := by decide +kernel
theorem dL_law_567 : decode cL_law 567 = .ok (.invokevirtual 140, 3) := by decide +kernel
theorem dL_law_570 : decode cL_law 570 = .ok (.iload 5, 2) := by decide +kernel
theorem dL_law_572 : decode cL_law 572 = .ok (.if_icmp .eq 5, 3) := by decide +kernel
theorem dL_law_575 : decode cL_law 575 = .ok (.iconst 0, 1) := by decide +kernel
theorem dL_law_576 : decode cL_law 576 = .ok (.ireturn, 1) := by decide +kernel
theorem dL_law_577 : decode cL_law 577 = .ok (.iload 5, 2) := by decide +kernel
theorem dL_law_579 : decode cL_law 579 = .ok (.ifCond .ne 15, 3) := by decide +kernel
theorem dL_law_582 : decode cL_law 582 = .ok (.aload_n 3, 1) := by decide +kernel
theorem dL_law_583 : decode cL_law 583 = .ok (.iconst 0, 1) := by decide +kernel
theorem dL_law_584 : decode cL_law 584 = .ok (.laload, 1) := by decide +kernel
theorem dL_law_585 : decode cL_law 585 = .ok (.iload 6, 2) := by decide +kernel
theorem dL_law_587 : decode cL_law 587 = .ok (.i2l, 1) := by decide +kernel
theorem dL_law_588 : decode cL_law 588 = .ok (.lcmp, 1) := by decide +kernel
theorem dL_law_589 : decode cL_law 589 = .ok (.ifCond .eq 5, 3) := by decide +kernel
theorem dL_law_592 : decode cL_law 592 = .ok (.iconst 0, 1) := by decide +kernel
theorem dL_law_593 : decode cL_law 593 = .ok (.ireturn, 1) := by decide +kernel
theorem dL_law_594 : decode cL_law 594 = .ok (.goto 1782, 3) := by decide +kernel
theorem dL_law_597 : decode cL_law 597 = .ok (.aload_n 1, 1) := by decide +kernel
theorem dL_law_598 : decode cL_law 598 = .ok (.aload_n 0, 1) := by decide +kernel
theorem dL_law_599 : decode cL_law 599 = .ok (.iload 4, 2) := by decide +kernel
theorem dL_law_601 : decode cL_law 601 = .ok (.iconst 1, 1) := by decide +kernel
theorem dL_law_602 : decode cL_law 602 = .ok (.iadd, 1) := by decide +kernel
theorem dL_law_603 : decode cL_law 603 = .ok (.iaload, 1) := by decide +kernel
theorem dL_law_604 : decode cL_law 604 = .ok (.aload_n 3, 1) := by decide +kernel
theorem dL_law_605 : decode cL_law 605 = .ok (.invokestatic 158, 3) := by decide +kernel
theorem dL_law_608 : decode cL_law 608 = .ok (.istore 5, 2) := by decide +kernel
theorem dL_law_610 : decode cL_law 610 = .ok (.aload_n 2, 1) := by decide +kernel
theorem dL_law_611 : decode cL_law 611 = .ok (.aload_n 0, 1) := by decide +kernel
theorem dL_law_612 : decode cL_law 612 = .ok (.iload 4, 2) := by decide +kernel
theorem dL_law_614 : decode cL_law 614 = .ok (.iconst 1, 1) := by decide +kernel
theorem dL_law_615 : decode cL_law 615 = .ok (.iadd, 1) := by decide +kernel
theorem dL_law_616 : decode cL_law 616 = .ok (.iaload, 1) := by decide +kernel
theorem dL_law_617 : decode cL_law 617 = .ok (.invokevirtual 160, 3) := by decide +kernel
theorem dL_law_620 : decode cL_law 620 = .ok (.istore 6, 2) := by decide +kernel
theorem dL_law_622 : decode cL_law 622 = .ok (.aload_n 2, 1) := by decide +kernel
theorem dL_law_623 : decode cL_law 623 = .ok (.invokevirtual 140, 3) := by decide +kernel
theorem dL_law_626 : decode cL_law 626 = .ok (.iload 5, 2) := by decide +kernel
theorem dL_law_628 : decode cL_law 628 = .ok (.if_icmp .eq 5, 3) := by decide +kernel
theorem dL_law_631 : decode cL_law 631 = .ok (.iconst 0, 1) := by decide +kernel
theorem dL_law_632 : decode cL_law 632 = .ok (.ireturn, 1) := by decide +kernel
theorem dL_law_633 : decode cL_law 633 = .ok (.iload 5, 2) := by decide +kernel
theorem dL_law_635 : decode cL_law 635 = .ok (.ifCond .ne 15, 3) := by decide +kernel
theorem dL_law_638 : decode cL_law 638 = .ok (.aload_n 3, 1) := by decide +kernel
theorem dL_law_639 : decode cL_law 639 = .ok (.iconst 0, 1) := by decide +kernel
theorem dL_law_640 : decode cL_law 640 = .ok (.laload, 1) := by decide +kernel
theorem dL_law_641 : decode cL_law 641 = .ok (.iload 6, 2) := by decide +kernel
theorem dL_law_643 : decode cL_law 643 = .ok (.i2l, 1) := by decide +kernel
theorem dL_law_644 : decode cL_law 644 = .ok (.lcmp, 1) := by decide +kernel
theorem dL_law_645 : decode cL_law 645 = .ok (.ifCond .eq 5, 3) := by decide +kernel
theorem dL_law_648 : decode cL_law 648 = .ok (.iconst 0, 1) := by decide +kernel
theorem dL_law_649 : decode cL_law 649 = .ok (.ireturn, 1) := by decide +kernel
theorem dL_law_650 : decode cL_law 650 = .ok (.goto 1726, 3) := by decide +kernel
theorem dL_law_653 : decode cL_law 653 = .ok (.aload_n 1, 1) := by decide +kernel
theorem dL_law_654 : decode cL_law 654 = .ok (.aload_n 0, 1) := by decide +kernel
theorem dL_law_655 : decode cL_law 655 = .ok (.iload 4, 2) := by decide +kernel
theorem dL_law_657 : decode cL_law 657 = .ok (.iconst 1, 1) := by decide +kernel
theorem dL_law_658 : decode cL_law 658 = .ok (.iadd, 1) := by decide +kernel
theorem dL_law_659 : decode cL_law 659 = .ok (.iaload, 1) := by decide +kernel
theorem dL_law_660 : decode cL_law 660 = .ok (.aload_n 0, 1) := by decide +kernel
theorem dL_law_661 : decode cL_law 661 = .ok (.iload 4, 2) := by decide +kernel
theorem dL_law_663 : decode cL_law 663 = .ok (.iconst 2, 1) := by decide +kernel
theorem dL_law_664 : decode cL_law 664 = .ok (.iadd, 1) := by decide +kernel
theorem dL_law_665 : decode cL_law 665 = .ok (.iaload, 1) := by decide +kernel
theorem dL_law_666 : decode cL_law 666 = .ok (.aload_n 0, 1) := by decide +kernel
theorem dL_law_667 : decode cL_law 667 = .ok (.iload 4, 2) := by decide +kernel
theorem dL_law_669 : decode cL_law 669 = .ok (.iconst 3, 1) := by decide +kernel
theorem dL_law_670 : decode cL_law 670 = .ok (.iadd, 1) := by decide +kernel
theorem dL_law_671 : decode cL_law 671 = .ok (.iaload, 1) := by decide +kernel
theorem dL_law_672 : decode cL_law 672 = .ok (.aload_n 3, 1) := by decide +kernel
theorem dL_law_673 : decode cL_law 673 = .ok (.invokestatic 161, 3) := by decide +kernel
theorem dL_law_676 : decode cL_law 676 = .ok (.istore 5, 2) := by decide +kernel
theorem dL_law_678 : decode cL_law 678 = .ok (.aload_n 2, 1) := by decide +kernel
theorem dL_law_679 : decode cL_law 679 = .ok (.aload_n 0, 1) := by decide +kernel
theorem dL_law_680 : decode cL_law 680 = .ok (.iload 4, 2) := by decide +kernel
theorem dL_law_682 : decode cL_law 682 = .ok (.iconst 1, 1) := by decide +kernel
theorem dL_law_683 : decode cL_law 683 = .ok (.iadd, 1) := by decide +kernel
theorem dL_law_684 : decode cL_law 684 = .ok (.iaload, 1) := by decide +kernel
theorem dL_law_685 : decode cL_law 685 = .ok (.aload_n 0, 1) := by decide +kernel
theorem dL_law_686 : decode cL_law 686 = .ok (.iload 4, 2) := by decide +kernel
theorem dL_law_688 : decode cL_law 688 = .ok (.iconst 2, 1) := by decide +kernel
theorem dL_law_689 : decode cL_law 689 = .ok (.iadd, 1) := by decide +kernel
theorem dL_law_690 : decode cL_law 690 = .ok (.iaload, 1) := by decide +kernel
theorem dL_law_691 : decode cL_law 691 = .ok (.aload_n 0, 1) := by decide +kernel
theorem dL_law_692 : decode cL_law 692 = .ok (.iload 4, 2) := by decide +kernel
theorem dL_law_694 : decode cL_law 694 = .ok (.iconst 3, 1) := by decide +kernel
theorem dL_law_695 : decode cL_law 695 = .ok (.iadd, 1) := by decide +kernel
theorem dL_law_696 : decode cL_law 696 = .ok (.iaload, 1) := by decide +kernel
theorem dL_law_697 : decode cL_law 697 = .ok (.invokevirtual 163, 3) := by decide +kernel
theorem dL_law_700 : decode cL_law 700 = .ok (.istore 6, 2) := by decide +kernel
theorem dL_law_702 : decode cL_law 702 = .ok (.aload_n 2, 1) := by decide +kernel
theorem dL_law_703 : decode cL_law 703 = .ok (.invokevirtual 140, 3) := by decide +kernel
theorem dL_law_706 : decode cL_law 706 = .ok (.iload 5, 2) := by decide +kernel
theorem dL_law_708 : decode cL_law 708 = .ok (.if_icmp .eq 5, 3) := by decide +kernel
theorem dL_law_711 : decode cL_law 711 = .ok (.iconst 0, 1) := by decide +kernel
theorem dL_law_712 : decode cL_law 712 = .ok (.ireturn, 1) := by decide +kernel
theorem dL_law_713 : decode cL_law 713 = .ok (.iload 5, 2) := by decide +kernel
theorem dL_law_715 : decode cL_law 715 = .ok (.ifCond .ne 15, 3) := by decide +kernel
theorem dL_law_718 : decode cL_law 718 = .ok (.aload_n 3, 1) := by decide +kernel
theorem dL_law_719 : decode cL_law 719 = .ok (.iconst 0, 1) := by decide +kernel
theorem dL_law_720 : decode cL_law 720 = .ok (.laload, 1) := by decide +kernel
theorem dL_law_721 : decode cL_law 721 = .ok (.iload 6, 2) := by decide +kernel
theorem dL_law_723 : decode cL_law 723 = .ok (.i2l, 1) := by decide +kernel
theorem dL_law_724 : decode cL_law 724 = .ok (.lcmp, 1) := by decide +kernel
theorem dL_law_725 : decode cL_law 725 = .ok (.ifCond .eq 5, 3) := by decide +kernel
theorem dL_law_728 : decode cL_law 728 = .ok (.iconst 0, 1) := by decide +kernel
theorem dL_law_729 : decode cL_law 729 = .ok (.ireturn, 1) := by decide +kernel
theorem dL_law_730 : decode cL_law 730 = .ok (.goto 1646, 3) := by decide +kernel
theorem dL_law_733 : decode cL_law 733 = .ok (.aload_n 1, 1) := by decide +kernel
theorem dL_law_734 : decode cL_law 734 = .ok (.aload_n 0, 1) := by decide +kernel
theorem dL_law_735 : decode cL_law 735 = .ok (.iload 4, 2) := by decide +kernel
theorem dL_law_737 : decode cL_law 737 = .ok (.iconst 1, 1) := by decide +kernel
theorem dL_law_738 : decode cL_law 738 = .ok (.iadd, 1) := by decide +kernel
theorem dL_law_739 : decode cL_law 739 = .ok (.iaload, 1) := by decide +kernel
theorem dL_law_740 : decode cL_law 740 = .ok (.aload_n 0, 1) := by decide +kernel
theorem dL_law_741 : decode cL_law 741 = .ok (.iload 4, 2) := by decide +kernel
theorem dL_law_743 : decode cL_law 743 = .ok (.iconst 2, 1) := by decide +kernel
theorem dL_law_744 : decode cL_law 744 = .ok (.iadd, 1) := by decide +kernel
theorem dL_law_745 : decode cL_law 745 = .ok (.iaload, 1) := by decide +kernel
theorem dL_law_746 : decode cL_law 746 = .ok (.aload_n 0, 1) := by decide +kernel
theorem dL_law_747 : decode cL_law 747 = .ok (.iload 4, 2) := by decide +kernel
theorem dL_law_749 : decode cL_law 749 = .ok (.iconst 3, 1) := by decide +kernel
theorem dL_law_750 : decode cL_law 750 = .ok (.iadd, 1) := by decide +kernel
theorem dL_law_751 : decode cL_law 751 = .ok (.iaload, 1) := by decide +kernel
theorem dL_law_752 : decode cL_law 752 = .ok (.aload_n 3, 1) := by decide +kernel
theorem dL_law_753 : decode cL_law 753 = .ok (.invokestatic 164, 3) := by decide +kernel
theorem dL_law_756 : decode cL_law 756 = .ok (.istore 5, 2) := by decide +kernel
theorem dL_law_758 : decode cL_law 758 = .ok (.aload_n 2, 1) := by decide +kernel
theorem dL_law_759 : decode cL_law 759 = .ok (.aload_n 0, 1) := by decide +kernel
theorem dL_law_760 : decode cL_law 760 = .ok (.iload 4, 2) := by decide +kernel
theorem dL_law_762 : decode cL_law 762 = .ok (.iconst 1, 1) := by decide +kernel
theorem dL_law_763 : decode cL_law 763 = .ok (.iadd, 1) := by decide +kernel
theorem dL_law_764 : decode cL_law 764 = .ok (.iaload, 1) := by decide +kernel
theorem dL_law_765 : decode cL_law 765 = .ok (.aload_n 0, 1) := by decide +kernel
theorem dL_law_766 : decode cL_law 766 = .ok (.iload 4, 2) := by decide +kernel
theorem dL_law_768 : decode cL_law 768 = .ok (.iconst 2, 1) := by decide +kernel
theorem dL_law_769 : decode cL_law 769 = .ok (.iadd, 1) := by decide +kernel
theorem dL_law_770 : decode cL_law 770 = .ok (.iaload, 1) := by decide +kernel
theorem dL_law_771 : decode cL_law 771 = .ok (.aload_n 0, 1) := by decide +kernel
theorem dL_law_772 : decode cL_law 772 = .ok (.iload 4, 2) := by decide +kernel
theorem dL_law_774 : decode cL_law 774 = .ok (.iconst 3, 1) := by decide +kernel
theorem dL_law_775 : decode cL_law 775 = .ok (.iadd, 1) := by decide +kernel
theorem dL_law_776 : decode cL_law 776 = .ok (.iaload, 1) := by decide +kernel
theorem dL_law_777 : decode cL_law 777 = .ok (.invokevirtual 166, 3) := by decide +kernel
theorem dL_law_780 : decode cL_law 780 = .ok (.istore 6, 2) := by decide +kernel
theorem dL_law_782 : decode cL_law 782 = .ok (.aload_n 2, 1) := by decide +kernel
theorem dL_law_783 : decode cL_law 783 = .ok (.invokevirtual 140, 3) := by decide +kernel
theorem dL_law_786 : decode cL_law 786 = .ok (.iload 5, 2) := by decide +kernel
theorem dL_law_788 : decode cL_law 788 = .ok (.if_icmp .eq 5, 3) := by decide +kernel
theorem dL_law_791 : decode cL_law 791 = .ok (.iconst 0, 1) := by decide +kernel
theorem dL_law_792 : decode cL_law 792 = .ok (.ireturn, 1) := by decide +kernel
theorem dL_law_793 : decode cL_law 793 = .ok (.iload 5, 2) := by decide +kernel
theorem dL_law_795 : decode cL_law 795 = .ok (.ifCond .ne 15, 3) := by decide +kernel
theorem dL_law_798 : decode cL_law 798 = .ok (.aload_n 3, 1) := by decide +kernel
theorem dL_law_799 : decode cL_law 799 = .ok (.iconst 0, 1) := by decide +kernel
theorem dL_law_800 : decode cL_law 800 = .ok (.laload, 1) := by decide +kernel
theorem dL_law_801 : decode cL_law 801 = .ok (.iload 6, 2) := by decide +kernel
theorem dL_law_803 : decode cL_law 803 = .ok (.i2l, 1) := by decide +kernel
theorem dL_law_804 : decode cL_law 804 = .ok (.lcmp, 1) := by decide +kernel
theorem dL_law_805 : decode cL_law 805 = .ok (.ifCond .eq 5, 3) := by decide +kernel
theorem dL_law_808 : decode cL_law 808 = .ok (.iconst 0, 1) := by decide +kernel
theorem dL_law_809 : decode cL_law 809 = .ok (.ireturn, 1) := by decide +kernel
theorem dL_law_810 : decode cL_law 810 = .ok (.goto 1566, 3) := by decide +kernel
theorem dL_law_813 : decode cL_law 813 = .ok (.aload_n 1, 1) := by decide +kernel
theorem dL_law_814 : decode cL_law 814 = .ok (.aload_n 0, 1) := by decide +kernel
theorem dL_law_815 : decode cL_law 815 = .ok (.iload 4, 2) := by decide +kernel
theorem dL_law_817 : decode cL_law 817 = .ok (.iconst 1, 1) := by decide +kernel
theorem dL_law_818 : decode cL_law 818 = .ok (.iadd, 1) := by decide +kernel
theorem dL_law_819 : decode cL_law 819 = .ok (.iaload, 1) := by decide +kernel
theorem dL_law_820 : decode cL_law 820 = .ok (.aload_n 0, 1) := by decide +kernel
theorem dL_law_821 : decode cL_law 821 = .ok (.iload 4, 2) := by decide +kernel
theorem dL_law_823 : decode cL_law 823 = .ok (.iconst 2, 1) := by decide +kernel
theorem dL_law_824 : decode cL_law 824 = .ok (.iadd, 1) := by decide +kernel
theorem dL_law_825 : decode cL_law 825 = .ok (.iaload, 1) := by decide +kernel
theorem dL_law_826 : decode cL_law 826 = .ok (.aload_n 3, 1) := by decide +kernel
theorem dL_law_827 : decode cL_law 827 = .ok (.invokestatic 167, 3) := by decide +kernel
theorem dL_law_830 : decode cL_law 830 = .ok (.istore 5, 2) := by decide +kernel
theorem dL_law_832 : decode cL_law 832 = .ok (.aload_n 2, 1) := by decide +kernel
theorem dL_law_833 : decode cL_law 833 = .ok (.aload_n 0, 1) := by decide +kernel
theorem dL_law_834 : decode cL_law 834 = .ok (.iload 4, 2) := by decide +kernel
theorem dL_law_836 : decode cL_law 836 = .ok (.iconst 1, 1) := by decide +kernel
theorem dL_law_837 : decode cL_law 837 = .ok (.iadd, 1) := by decide +kernel
theorem dL_law_838 : decode cL_law 838 = .ok (.iaload, 1) := by decide +kernel
theorem dL_law_839 : decode cL_law 839 = .ok (.aload_n 0, 1) := by decide +kernel
theorem dL_law_840 : decode cL_law 840 = .ok (.iload 4, 2) := by decide +kernel
theorem dL_law_842 : decode cL_law 842 = .ok (.iconst 2, 1) := by decide +kernel
theorem dL_law_843 : decode cL_law 843 = .ok (.iadd, 1) := by decide +kernel
theorem dL_law_844 : decode cL_law 844 = .ok (.iaload, 1) := by decide +kernel
theorem dL_law_845 : decode cL_law 845 = .ok (.invokevirtual 169, 3) := by decide +kernel
theorem dL_law_848 : decode cL_law 848 = .ok (.istore 6, 2) := by decide +kernel
theorem dL_law_850 : decode cL_law 850 = .ok (.aload_n 2, 1) := by decide +kernel
theorem dL_law_851 : decode cL_law 851 = .ok (.invokevirtual 140, 3) := by decide +kernel
theorem dL_law_854 : decode cL_law 854 = .ok (.iload 5, 2) := by decide +kernel
theorem dL_law_856 : decode cL_law 856 = .ok (.if_icmp .eq 5, 3) := by decide +kernel
theorem dL_law_859 : decode cL_law 859 = .ok (.iconst 0, 1) := by decide +kernel
theorem dL_law_860 : decode cL_law 860 = .ok (.ireturn, 1) := by decide +kernel
theorem dL_law_861 : decode cL_law 861 = .ok (.iload 5, 2) := by decide +kernel
theorem dL_law_863 : decode cL_law 863 = .ok (.ifCond .ne 15, 3) := by decide +kernel
theorem dL_law_866 : decode cL_law 866 = .ok (.aload_n 3, 1) := by decide +kernel
theorem dL_law_867 : decode cL_law 867 = .ok (.iconst 0, 1) := by decide +kernel
theorem dL_law_868 : decode cL_law 868 = .ok (.laload, 1) := by decide +kernel
theorem dL_law_869 : decode cL_law 869 = .ok (.iload 6, 2) := by decide +kernel
theorem dL_law_871 : decode cL_law 871 = .ok (.i2l, 1) := by decide +kernel
theorem dL_law_872 : decode cL_law 872 = .ok (.lcmp, 1) := by decide +kernel
theorem dL_law_873 : decode cL_law 873 = .ok (.ifCond .eq 5, 3) := by decide +kernel
theorem dL_law_876 : decode cL_law 876 = .ok (.iconst 0, 1) := by decide +kernel
theorem dL_law_877 : decode cL_law 877 = .ok (.ireturn, 1) := by decide +kernel
theorem dL_law_878 : decode cL_law 878 = .ok (.goto 1498, 3) := by decide +kernel
theorem dL_law_881 : decode cL_law 881 = .ok (.aload_n 1, 1) := by decide +kernel
theorem dL_law_882 : decode cL_law 882 = .ok (.aload_n 0, 1) := by decide +kernel
theorem dL_law_883 : decode cL_law 883 = .ok (.iload 4, 2) := by decide +kernel
theorem dL_law_885 : decode cL_law 885 = .ok (.iconst 1, 1) := by decide +kernel
theorem dL_law_886 : decode cL_law 886 = .ok (.iadd, 1) := by decide +kernel
theorem dL_law_887 : decode cL_law 887 = .ok (.iaload, 1) := by decide +kernel
theorem dL_law_888 : decode cL_law 888 = .ok (.aload_n 0, 1) := by decide +kernel
theorem dL_law_889 : decode cL_law 889 = .ok (.iload 4, 2) := by decide +kernel
theorem dL_law_891 : decode cL_law 891 = .ok (.iconst 2, 1) := by decide +kernel
theorem dL_law_892 : decode cL_law 892 = .ok (.iadd, 1) := by decide +kernel
theorem dL_law_893 : decode cL_law 893 = .ok (.iaload, 1) := by decide +kernel
theorem dL_law_894 : decode cL_law 894 = .ok (.aload_n 3, 1) := by decide +kernel
theorem dL_law_895 : decode cL_law 895 = .ok (.invokestatic 170, 3) := by decide +kernel
theorem dL_law_898 : decode cL_law 898 = .ok (.istore 5, 2) := by decide +kernel
theorem dL_law_900 : decode cL_law 900 = .ok (.aload_n 2, 1) := by decide +kernel
theorem dL_law_901 : decode cL_law 901 = .ok (.aload_n 0, 1) := by decide +kernel
theorem dL_law_902 : decode cL_law 902 = .ok (.iload 4, 2) := by decide +kernel
theorem dL_law_904 : decode cL_law 904 = .ok (.iconst 1, 1) := by decide +kernel
theorem dL_law_905 : decode cL_law 905 = .ok (.iadd, 1) := by decide +kernel
theorem dL_law_906 : decode cL_law 906 = .ok (.iaload, 1) := by decide +kernel
theorem dL_law_907 : decode cL_law 907 = .ok (.aload_n 0, 1) := by decide +kernel
theorem dL_law_908 : decode cL_law 908 = .ok (.iload 4, 2) := by decide +kernel
theorem dL_law_910 : decode cL_law 910 = .ok (.iconst 2, 1) := by decide +kernel
theorem dL_law_911 : decode cL_law 911 = .ok (.iadd, 1) := by decide +kernel
theorem dL_law_912 : decode cL_law 912 = .ok (.iaload, 1) := by decide +kernel
theorem dL_law_913 : decode cL_law 913 = .ok (.invokevirtual 172, 3) := by decide +kernel
theorem dL_law_916 : decode cL_law 916 = .ok (.istore 6, 2) := by decide +kernel
theorem dL_law_918 : decode cL_law 918 = .ok (.aload_n 2, 1) := by decide +kernel
theorem dL_law_919 : decode cL_law 919 = .ok (.invokevirtual 140, 3) := by decide +kernel
theorem dL_law_922 : decode cL_law 922 = .ok (.iload 5, 2) := by decide +kernel
theorem dL_law_924 : decode cL_law 924 = .ok (.if_icmp .eq 5, 3) := by decide +kernel
theorem dL_law_927 : decode cL_law 927 = .ok (.iconst 0, 1) := by decide +kernel
theorem dL_law_928 : decode cL_law 928 = .ok (.ireturn, 1) := by decide +kernel
theorem dL_law_929 : decode cL_law 929 = .ok (.iload 5, 2) := by decide +kernel
theorem dL_law_931 : decode cL_law 931 = .ok (.ifCond .ne 15, 3) := by decide +kernel
theorem dL_law_934 : decode cL_law 934 = .ok (.aload_n 3, 1) := by decide +kernel
theorem dL_law_935 : decode cL_law 935 = .ok (.iconst 0, 1) := by decide +kernel
theorem dL_law_936 : decode cL_law 936 = .ok (.laload, 1) := by decide +kernel
theorem dL_law_937 : decode cL_law 937 = .ok (.iload 6, 2) := by decide +kernel
theorem dL_law_939 : decode cL_law 939 = .ok (.i2l, 1) := by decide +kernel
theorem dL_law_940 : decode cL_law 940 = .ok (.lcmp, 1) := by decide +kernel
theorem dL_law_941 : decode cL_law 941 = .ok (.ifCond .eq 5, 3) := by decide +kernel
theorem dL_law_944 : decode cL_law 944 = .ok (.iconst 0, 1) := by decide +kernel
theorem dL_law_945 : decode cL_law 945 = .ok (.ireturn, 1) := by decide +kernel
theorem dL_law_946 : decode cL_law 946 = .ok (.goto 1430, 3) := by decide +kernel
theorem dL_law_949 : decode cL_law 949 = .ok (.aload_n 1, 1) := by decide +kernel
theorem dL_law_950 : decode cL_law 950 = .ok (.aload_n 0, 1) := by decide +kernel
theorem dL_law_951 : decode cL_law 951 = .ok (.iload 4, 2) := by decide +kernel
theorem dL_law_953 : decode cL_law 953 = .ok (.iconst 1, 1) := by decide +kernel
theorem dL_law_954 : decode cL_law 954 = .ok (.iadd, 1) := by decide +kernel
theorem dL_law_955 : decode cL_law 955 = .ok (.iaload, 1) := by decide +kernel
theorem dL_law_956 : decode cL_law 956 = .ok (.aload_n 0, 1) := by decide +kernel
theorem dL_law_957 : decode cL_law 957 = .ok (.iload 4, 2) := by decide +kernel
theorem dL_law_959 : decode cL_law 959 = .ok (.iconst 2, 1) := by decide +kernel
theorem dL_law_960 : decode cL_law 960 = .ok (.iadd, 1) := by decide +kernel
theorem dL_law_961 : decode cL_law 961 = .ok (.iaload, 1) := by decide +kernel
theorem dL_law_962 : decode cL_law 962 = .ok (.aload_n 3, 1) := by decide +kernel
theorem dL_law_963 : decode cL_law 963 = .ok (.invokestatic 173, 3) := by decide +kernel
theorem dL_law_966 : decode cL_law 966 = .ok (.istore 5, 2) := by decide +kernel
theorem dL_law_968 : decode cL_law 968 = .ok (.aload_n 2, 1) := by decide +kernel
theorem dL_law_969 : decode cL_law 969 = .ok (.aload_n 0, 1) := by decide +kernel
theorem dL_law_970 : decode cL_law 970 = .ok (.iload 4, 2) := by decide +kernel
theorem dL_law_972 : decode cL_law 972 = .ok (.iconst 1, 1) := by decide +kernel
theorem dL_law_973 : decode cL_law 973 = .ok (.iadd, 1) := by decide +kernel
theorem dL_law_974 : decode cL_law 974 = .ok (.iaload, 1) := by decide +kernel
theorem dL_law_975 : decode cL_law 975 = .ok (.aload_n 0, 1) := by decide +kernel
theorem dL_law_976 : decode cL_law 976 = .ok (.iload 4, 2) := by decide +kernel
theorem dL_law_978 : decode cL_law 978 = .ok (.iconst 2, 1) := by decide +kernel
theorem dL_law_979 : decode cL_law 979 = .ok (.iadd, 1) := by decide +kernel
theorem dL_law_980 : decode cL_law 980 = .ok (.iaload, 1) := by decide +kernel
theorem dL_law_981 : decode cL_law 981 = .ok (.invokevirtual 175, 3) := by decide +kernel
theorem dL_law_984 : decode cL_law 984 = .ok (.istore 6, 2) := by decide +kernel
theorem dL_law_986 : decode cL_law 986 = .ok (.aload_n 2, 1) := by decide +kernel
theorem dL_law_987 : decode cL_law 987 = .ok (.invokevirtual 140, 3) := by decide +kernel
theorem dL_law_990 : decode cL_law 990 = .ok (.iload 5, 2) := by decide +kernel
theorem dL_law_992 : decode cL_law 992 = .ok (.if_icmp .eq 5, 3) := by decide +kernel
theorem dL_law_995 : decode cL_law 995 = .ok (.iconst 0, 1) := by decide +kernel
theorem dL_law_996 : decode cL_law 996 = .ok (.ireturn, 1) := by decide +kernel
theorem dL_law_997 : decode cL_law 997 = .ok (.iload 5, 2) := by decide +kernel
theorem dL_law_999 : decode cL_law 999 = .ok (.ifCond .ne 15, 3) := by decide +kernel
theorem dL_law_1002 : decode cL_law 1002 = .ok (.aload_n 3, 1) := by decide +kernel
theorem dL_law_1003 : decode cL_law 1003 = .ok (.iconst 0, 1) := by decide +kernel
theorem dL_law_1004 : decode cL_law 1004 = .ok (.laload, 1) := by decide +kernel
theorem dL_law_1005 : decode cL_law 1005 = .ok (.iload 6, 2) := by decide +kernel
theorem dL_law_1007 : decode cL_law 1007 = .ok (.i2l, 1) := by decide +kernel
theorem dL_law_1008 : decode cL_law 1008 = .ok (.lcmp, 1) := by decide +kernel
theorem dL_law_1009 : decode cL_law 1009 = .ok (.ifCond .eq 5, 3) := by decide +kernel
theorem dL_law_1012 : decode cL_law 1012 = .ok (.iconst 0, 1) := by decide +kernel
theorem dL_law_1013 : decode cL_law 1013 = .ok (.ireturn, 1) := by decide +kernel
theorem dL_law_1014 : decode cL_law 1014 = .ok (.goto 1362, 3) := by decide +kernel
theorem dL_law_1017 : decode cL_law 1017 = .ok (.aload_n 1, 1) := by decide +kernel
theorem dL_law_1018 : decode cL_law 1018 = .ok (.aload_n 0, 1) := by decide +kernel
theorem dL_law_1019 : decode cL_law 1019 = .ok (.iload 4, 2) := by decide +kernel
theorem dL_law_1021 : decode cL_law 1021 = .ok (.iconst 1, 1) := by decide +kernel
theorem dL_law_1022 : decode cL_law 1022 = .ok (.iadd, 1) := by decide +kernel
theorem dL_law_1023 : decode cL_law 1023 = .ok (.iaload, 1) := by decide +kernel
theorem dL_law_1024 : decode cL_law 1024 = .ok (.aload_n 0, 1) := by decide +kernel
theorem dL_law_1025 : decode cL_law 1025 = .ok (.iload 4, 2) := by decide +kernel
theorem dL_law_1027 : decode cL_law 1027 = .ok (.iconst 2, 1) := by decide +kernel
theorem dL_law_1028 : decode cL_law 1028 = .ok (.iadd, 1) := by decide +kernel
theorem dL_law_1029 : decode cL_law 1029 = .ok (.iaload, 1) := by decide +kernel
theorem dL_law_1030 : decode cL_law 1030 = .ok (.aload_n 3, 1) := by decide +kernel
theorem dL_law_1031 : decode cL_law 1031 = .ok (.invokestatic 176, 3) := by decide +kernel
theorem dL_law_1034 : decode cL_law 1034 = .ok (.istore 5, 2) := by decide +kernel
theorem dL_law_1036 : decode cL_law 1036 = .ok (.aload_n 2, 1) := by decide +kernel
theorem dL_law_1037 : decode cL_law 1037 = .ok (.aload_n 0, 1) := by decide +kernel
theorem dL_law_1038 : decode cL_law 1038 = .ok (.iload 4, 2) := by decide +kernel
theorem dL_law_1040 : decode cL_law 1040 = .ok (.iconst 1, 1) := by decide +kernel
theorem dL_law_1041 : decode cL_law 1041 = .ok (.iadd, 1) := by decide +kernel
theorem dL_law_1042 : decode cL_law 1042 = .ok (.iaload, 1) := by decide +kernel
theorem dL_law_1043 : decode cL_law 1043 = .ok (.aload_n 0, 1) := by decide +kernel
theorem dL_law_1044 : decode cL_law 1044 = .ok (.iload 4, 2) := by decide +kernel
theorem dL_law_1046 : decode cL_law 1046 = .ok (.iconst 2, 1) := by decide +kernel
theorem dL_law_1047 : decode cL_law 1047 = .ok (.iadd, 1) := by decide +kernel
theorem dL_law_1048 : decode cL_law 1048 = .ok (.iaload, 1) := by decide +kernel
theorem dL_law_1049 : decode cL_law 1049 = .ok (.invokevirtual 178, 3) := by decide +kernel
theorem dL_law_1052 : decode cL_law 1052 = .ok (.istore 6, 2) := by decide +kernel
theorem dL_law_1054 : decode cL_law 1054 = .ok (.aload_n 2, 1) := by decide +kernel
theorem dL_law_1055 : decode cL_law 1055 = .ok (.invokevirtual 140, 3) := by decide +kernel
theorem dL_law_1058 : decode cL_law 1058 = .ok (.iload 5, 2) := by decide +kernel
theorem dL_law_1060 : decode cL_law 1060 = .ok (.if_icmp .eq 5, 3) := by decide +kernel
theorem dL_law_1063 : decode cL_law 1063 = .ok (.iconst 0, 1) := by decide +kernel
theorem dL_law_1064 : decode cL_law 1064 = .ok (.ireturn, 1) := by decide +kernel
theorem dL_law_1065 : decode cL_law 1065 = .ok (.iload 5, 2) := by decide +kernel
theorem dL_law_1067 : decode cL_law 1067 = .ok (.ifCond .ne 22, 3) := by decide +kernel
theorem dL_law_1070 : decode cL_law 1070 = .ok (.aload_n 3, 1) := by decide +kernel
theorem dL_law_1071 : decode cL_law 1071 = .ok (.iconst 0, 1) := by decide +kernel
theorem dL_law_1072 : decode cL_law 1072 = .ok (.laload, 1) := by decide +kernel
theorem dL_law_1073 : decode cL_law 1073 = .ok (.iload 6, 2) := by decide +kernel
theorem dL_law_1075 : decode cL_law 1075 = .ok (.ifCond .eq 7, 3) := by decide +kernel
theorem dL_law_1078 : decode cL_law 1078 = .ok (.lconst 1, 1) := by decide +kernel
theorem dL_law_1079 : decode cL_law 1079 = .ok (.goto 4, 3) := by decide +kernel
theorem dL_law_1082 : decode cL_law 1082 = .ok (.lconst 0, 1) := by decide +kernel
theorem dL_law_1083 : decode cL_law 1083 = .ok (.lcmp, 1) := by decide +kernel
theorem dL_law_1084 : decode cL_law 1084 = .ok (.ifCond .eq 5, 3) := by decide +kernel
theorem dL_law_1087 : decode cL_law 1087 = .ok (.iconst 0, 1) := by decide +kernel
theorem dL_law_1088 : decode cL_law 1088 = .ok (.ireturn, 1) := by decide +kernel
theorem dL_law_1089 : decode cL_law 1089 = .ok (.goto 1287, 3) := by decide +kernel
theorem dL_law_1092 : decode cL_law 1092 = .ok (.aload_n 1, 1) := by decide +kernel
theorem dL_law_1093 : decode cL_law 1093 = .ok (.aload_n 0, 1) := by decide +kernel
theorem dL_law_1094 : decode cL_law 1094 = .ok (.iload 4, 2) := by decide +kernel
theorem dL_law_1096 : decode cL_law 1096 = .ok (.iconst 1, 1) := by decide +kernel
theorem dL_law_1097 : decode cL_law 1097 = .ok (.iadd, 1) := by decide +kernel
theorem dL_law_1098 : decode cL_law 1098 = .ok (.iaload, 1) := by decide +kernel
theorem dL_law_1099 : decode cL_law 1099 = .ok (.aload_n 0, 1) := by decide +kernel
theorem dL_law_1100 : decode cL_law 1100 = .ok (.iload 4, 2) := by decide +kernel
theorem dL_law_1102 : decode cL_law 1102 = .ok (.iconst 2, 1) := by decide +kernel
theorem dL_law_1103 : decode cL_law 1103 = .ok (.iadd, 1) := by decide +kernel
theorem dL_law_1104 : decode cL_law 1104 = .ok (.iaload, 1) := by decide +kernel
theorem dL_law_1105 : decode cL_law 1105 = .ok (.aload_n 3, 1) := by decide +kernel
theorem dL_law_1106 : decode cL_law 1106 = .ok (.invokestatic 179, 3) := by decide +kernel
theorem dL_law_1109 : decode cL_law 1109 = .ok (.istore 5, 2) := by decide +kernel
theorem dL_law_1111 : decode cL_law 1111 = .ok (.aload_n 2, 1) := by decide +kernel
theorem dL_law_1112 : decode cL_law 1112 = .ok (.aload_n 0, 1) := by decide +kernel
theorem dL_law_1113 : decode cL_law 1113 = .ok (.iload 4, 2) := by decide +kernel
theorem dL_law_1115 : decode cL_law 1115 = .ok (.iconst 1, 1) := by decide +kernel
theorem dL_law_1116 : decode cL_law 1116 = .ok (.iadd, 1) := by decide +kernel
theorem dL_law_1117 : decode cL_law 1117 = .ok (.iaload, 1) := by decide +kernel
theorem dL_law_1118 : decode cL_law 1118 = .ok (.aload_n 0, 1) := by decide +kernel
theorem dL_law_1119 : decode cL_law 1119 = .ok (.iload 4, 2) := by decide +kernel
theorem dL_law_1121 : decode cL_law 1121 = .ok (.iconst 2, 1) := by decide +kernel
theorem dL_law_1122 : decode cL_law 1122 = .ok (.iadd, 1) := by decide +kernel
theorem dL_law_1123 : decode cL_law 1123 = .ok (.iaload, 1) := by decide +kernel
theorem dL_law_1124 : decode cL_law 1124 = .ok (.invokevirtual 181, 3) := by decide +kernel
theorem dL_law_1127 : decode cL_law 1127 = .ok (.istore 6, 2) := by decide +kernel
theorem dL_law_1129 : decode cL_law 1129 = .ok (.aload_n 2, 1) := by decide +kernel
theorem dL_law_1130 : decode cL_law 1130 = .ok (.invokevirtual 140, 3) := by decide +kernel
theorem dL_law_1133 : decode cL_law 1133 = .ok (.iload 5, 2) := by decide +kernel
theorem dL_law_1135 : decode cL_law 1135 = .ok (.if_icmp .eq 5, 3) := by decide +kernel
theorem dL_law_1138 : decode cL_law 1138 = .ok (.iconst 0, 1) := by decide +kernel
theorem dL_law_1139 : decode cL_law 1139 = .ok (.ireturn, 1) := by decide +kernel
theorem dL_law_1140 : decode cL_law 1140 = .ok (.iload 5, 2) := by decide +kernel
theorem dL_law_1142 : decode cL_law 1142 = .ok (.ifCond .ne 15, 3) := by decide +kernel
theorem dL_law_1145 : decode cL_law 1145 = .ok (.aload_n 3, 1) := by decide +kernel
theorem dL_law_1146 : decode cL_law 1146 = .ok (.iconst 0, 1) := by decide +kernel
theorem dL_law_1147 : decode cL_law 1147 = .ok (.laload, 1) := by decide +kernel
theorem dL_law_1148 : decode cL_law 1148 = .ok (.iload 6, 2) := by decide +kernel
theorem dL_law_1150 : decode cL_law 1150 = .ok (.i2l, 1) := by decide +kernel
theorem dL_law_1151 : decode cL_law 1151 = .ok (.lcmp, 1) := by decide +kernel
theorem dL_law_1152 : decode cL_law 1152 = .ok (.ifCond .eq 5, 3) := by decide +kernel
theorem dL_law_1155 : decode cL_law 1155 = .ok (.iconst 0, 1) := by decide +kernel
theorem dL_law_1156 : decode cL_law 1156 = .ok (.ireturn, 1) := by decide +kernel
theorem dL_law_1157 : decode cL_law 1157 = .ok (.goto 1219, 3) := by decide +kernel
theorem dL_law_1160 : decode cL_law 1160 = .ok (.aload_n 1, 1) := by decide +kernel
theorem dL_law_1161 : decode cL_law 1161 = .ok (.aload_n 0, 1) := by decide +kernel
theorem dL_law_1162 : decode cL_law 1162 = .ok (.iload 4, 2) := by decide +kernel
theorem dL_law_1164 : decode cL_law 1164 = .ok (.iconst 1, 1) := by decide +kernel
theorem dL_law_1165 : decode cL_law 1165 = .ok (.iadd, 1) := by decide +kernel
theorem dL_law_1166 : decode cL_law 1166 = .ok (.iaload, 1) := by decide +kernel
theorem dL_law_1167 : decode cL_law 1167 = .ok (.aload_n 0, 1) := by decide +kernel
theorem dL_law_1168 : decode cL_law 1168 = .ok (.iload 4, 2) := by decide +kernel
theorem dL_law_1170 : decode cL_law 1170 = .ok (.iconst 2, 1) := by decide +kernel
theorem dL_law_1171 : decode cL_law 1171 = .ok (.iadd, 1) := by decide +kernel
theorem dL_law_1172 : decode cL_law 1172 = .ok (.iaload, 1) := by decide +kernel
theorem dL_law_1173 : decode cL_law 1173 = .ok (.aload_n 3, 1) := by decide +kernel
theorem dL_law_1174 : decode cL_law 1174 = .ok (.invokestatic 182, 3) := by decide +kernel
theorem dL_law_1177 : decode cL_law 1177 = .ok (.istore 5, 2) := by decide +kernel
theorem dL_law_1179 : decode cL_law 1179 = .ok (.aload_n 2, 1) := by decide +kernel
theorem dL_law_1180 : decode cL_law 1180 = .ok (.aload_n 0, 1) := by decide +kernel
theorem dL_law_1181 : decode cL_law 1181 = .ok (.iload 4, 2) := by decide +kernel
theorem dL_law_1183 : decode cL_law 1183 = .ok (.iconst 1, 1) := by decide +kernel
theorem dL_law_1184 : decode cL_law 1184 = .ok (.iadd, 1) := by decide +kernel
theorem dL_law_1185 : decode cL_law 1185 = .ok (.iaload, 1) := by decide +kernel
theorem dL_law_1186 : decode cL_law 1186 = .ok (.aload_n 0, 1) := by decide +kernel
theorem dL_law_1187 : decode cL_law 1187 = .ok (.iload 4, 2) := by decide +kernel
theorem dL_law_1189 : decode cL_law 1189 = .ok (.iconst 2, 1) := by decide +kernel
theorem dL_law_1190 : decode cL_law 1190 = .ok (.iadd, 1) := by decide +kernel
theorem dL_law_1191 : decode cL_law 1191 = .ok (.iaload, 1) := by decide +kernel
theorem dL_law_1192 : decode cL_law 1192 = .ok (.invokevirtual 184, 3) := by decide +kernel
theorem dL_law_1195 : decode cL_law 1195 = .ok (.istore 6, 2) := by decide +kernel
theorem dL_law_1197 : decode cL_law 1197 = .ok (.aload_n 2, 1) := by decide +kernel
theorem dL_law_1198 : decode cL_law 1198 = .ok (.invokevirtual 140, 3) := by decide +kernel
theorem dL_law_1201 : decode cL_law 1201 = .ok (.iload 5, 2) := by decide +kernel
theorem dL_law_1203 : decode cL_law 1203 = .ok (.if_icmp .eq 5, 3) := by decide +kernel
theorem dL_law_1206 : decode cL_law 1206 = .ok (.iconst 0, 1) := by decide +kernel
theorem dL_law_1207 : decode cL_law 1207 = .ok (.ireturn, 1) := by decide +kernel
theorem dL_law_1208 : decode cL_law 1208 = .ok (.iload 5, 2) := by decide +kernel
theorem dL_law_1210 : decode cL_law 1210 = .ok (.ifCond .ne 15, 3) := by decide +kernel
theorem dL_law_1213 : decode cL_law 1213 = .ok (.aload_n 3, 1) := by decide +kernel
theorem dL_law_1214 : decode cL_law 1214 = .ok (.iconst 0, 1) := by decide +kernel
theorem dL_law_1215 : decode cL_law 1215 = .ok (.laload, 1) := by decide +kernel
theorem dL_law_1216 : decode cL_law 1216 = .ok (.iload 6, 2) := by decide +kernel
theorem dL_law_1218 : decode cL_law 1218 = .ok (.i2l, 1) := by decide +kernel
theorem dL_law_1219 : decode cL_law 1219 = .ok (.lcmp, 1) := by decide +kernel
theorem dL_law_1220 : decode cL_law 1220 = .ok (.ifCond .eq 5, 3) := by decide +kernel
theorem dL_law_1223 : decode cL_law 1223 = .ok (.iconst 0, 1) := by decide +kernel
theorem dL_law_1224 : decode cL_law 1224 = .ok (.ireturn, 1) := by decide +kernel
theorem dL_law_1225 : decode cL_law 1225 = .ok (.goto 1151, 3) := by decide +kernel
theorem dL_law_1228 : decode cL_law 1228 = .ok (.aload_n 1, 1) := by decide +kernel
theorem dL_law_1229 : decode cL_law 1229 = .ok (.aload_n 0, 1) := by decide +kernel
theorem dL_law_1230 : decode cL_law 1230 = .ok (.iload 4, 2) := by decide +kernel
theorem dL_law_1232 : decode cL_law 1232 = .ok (.iconst 1, 1) := by decide +kernel
theorem dL_law_1233 : decode cL_law 1233 = .ok (.iadd, 1) := by decide +kernel
theorem dL_law_1234 : decode cL_law 1234 = .ok (.iaload, 1) := by decide +kernel
theorem dL_law_1235 : decode cL_law 1235 = .ok (.aload_n 0, 1) := by decide +kernel
theorem dL_law_1236 : decode cL_law 1236 = .ok (.iload 4, 2) := by decide +kernel
theorem dL_law_1238 : decode cL_law 1238 = .ok (.iconst 2, 1) := by decide +kernel
theorem dL_law_1239 : decode cL_law 1239 = .ok (.iadd, 1) := by decide +kernel
theorem dL_law_1240 : decode cL_law 1240 = .ok (.iaload, 1) := by decide +kernel
theorem dL_law_1241 : decode cL_law 1241 = .ok (.aload_n 0, 1) := by decide +kernel
theorem dL_law_1242 : decode cL_law 1242 = .ok (.iload 4, 2) := by decide +kernel
theorem dL_law_1244 : decode cL_law 1244 = .ok (.iconst 3, 1) := by decide +kernel
theorem dL_law_1245 : decode cL_law 1245 = .ok (.iadd, 1) := by decide +kernel
theorem dL_law_1246 : decode cL_law 1246 = .ok (.iaload, 1) := by decide +kernel
theorem dL_law_1247 : decode cL_law 1247 = .ok (.aload_n 3, 1) := by decide +kernel
theorem dL_law_1248 : decode cL_law 1248 = .ok (.invokestatic 185, 3) := by decide +kernel
theorem dL_law_1251 : decode cL_law 1251 = .ok (.istore 5, 2) := by decide +kernel
theorem dL_law_1253 : decode cL_law 1253 = .ok (.aload_n 2, 1) := by decide +kernel
theorem dL_law_1254 : decode cL_law 1254 = .ok (.aload_n 0, 1) := by decide +kernel
theorem dL_law_1255 : decode cL_law 1255 = .ok (.iload 4, 2) := by decide +kernel
theorem dL_law_1257 : decode cL_law 1257 = .ok (.iconst 1, 1) := by decide +kernel
theorem dL_law_1258 : decode cL_law 1258 = .ok (.iadd, 1) := by decide +kernel
theorem dL_law_1259 : decode cL_law 1259 = .ok (.iaload, 1) := by decide +kernel
theorem dL_law_1260 : decode cL_law 1260 = .ok (.aload_n 0, 1) := by decide +kernel
theorem dL_law_1261 : decode cL_law 1261 = .ok (.iload 4, 2) := by decide +kernel
theorem dL_law_1263 : decode cL_law 1263 = .ok (.iconst 2, 1) := by decide +kernel
theorem dL_law_1264 : decode cL_law 1264 = .ok (.iadd, 1) := by decide +kernel
theorem dL_law_1265 : decode cL_law 1265 = .ok (.iaload, 1) := by decide +kernel
theorem dL_law_1266 : decode cL_law 1266 = .ok (.aload_n 0, 1) := by decide +kernel
theorem dL_law_1267 : decode cL_law 1267 = .ok (.iload 4, 2) := by decide +kernel
theorem dL_law_1269 : decode cL_law 1269 = .ok (.iconst 3, 1) := by decide +kernel
theorem dL_law_1270 : decode cL_law 1270 = .ok (.iadd, 1) := by decide +kernel
theorem dL_law_1271 : decode cL_law 1271 = .ok (.iaload, 1) := by decide +kernel
theorem dL_law_1272 : decode cL_law 1272 = .ok (.invokevirtual 187, 3) := by decide +kernel
theorem dL_law_1275 : decode cL_law 1275 = .ok (.istore 6, 2) := by decide +kernel
theorem dL_law_1277 : decode cL_law 1277 = .ok (.aload_n 2, 1) := by decide +kernel
theorem dL_law_1278 : decode cL_law 1278 = .ok (.invokevirtual 140, 3) := by decide +kernel
theorem dL_law_1281 : decode cL_law 1281 = .ok (.iload 5, 2) := by decide +kernel
theorem dL_law_1283 : decode cL_law 1283 = .ok (.if_icmp .eq 5, 3) := by decide +kernel
theorem dL_law_1286 : decode cL_law 1286 = .ok (.iconst 0, 1) := by decide +kernel
theorem dL_law_1287 : decode cL_law 1287 = .ok (.ireturn, 1) := by decide +kernel
theorem dL_law_1288 : decode cL_law 1288 = .ok (.iload 5, 2) := by decide +kernel
theorem dL_law_1290 : decode cL_law 1290 = .ok (.ifCond .ne 15, 3) := by decide +kernel
theorem dL_law_1293 : decode cL_law 1293 = .ok (.aload_n 3, 1) := by decide +kernel
theorem dL_law_1294 : decode cL_law 1294 = .ok (.iconst 0, 1) := by decide +kernel
theorem dL_law_1295 : decode cL_law 1295 = .ok (.laload, 1) := by decide +kernel
theorem dL_law_1296 : decode cL_law 1296 = .ok (.iload 6, 2) := by decide +kernel
theorem dL_law_1298 : decode cL_law 1298 = .ok (.i2l, 1) := by decide +kernel
theorem dL_law_1299 : decode cL_law 1299 = .ok (.lcmp, 1) := by decide +kernel
theorem dL_law_1300 : decode cL_law 1300 = .ok (.ifCond .eq 5, 3) := by decide +kernel
theorem dL_law_1303 : decode cL_law 1303 = .ok (.iconst 0, 1) := by decide +kernel
theorem dL_law_1304 : decode cL_law 1304 = .ok (.ireturn, 1) := by decide +kernel
theorem dL_law_1305 : decode cL_law 1305 = .ok (.goto 1071, 3) := by decide +kernel
theorem dL_law_1308 : decode cL_law 1308 = .ok (.aload_n 1, 1) := by decide +kernel
theorem dL_law_1309 : decode cL_law 1309 = .ok (.aload_n 0, 1) := by decide +kernel
theorem dL_law_1310 : decode cL_law 1310 = .ok (.iload 4, 2) := by decide +kernel
theorem dL_law_1312 : decode cL_law 1312 = .ok (.iconst 1, 1) := by decide +kernel
theorem dL_law_1313 : decode cL_law 1313 = .ok (.iadd, 1) := by decide +kernel
theorem dL_law_1314 : decode cL_law 1314 = .ok (.iaload, 1) := by decide +kernel
theorem dL_law_1315 : decode cL_law 1315 = .ok (.aload_n 0, 1) := by decide +kernel
theorem dL_law_1316 : decode cL_law 1316 = .ok (.iload 4, 2) := by decide +kernel
theorem dL_law_1318 : decode cL_law 1318 = .ok (.iconst 2, 1) := by decide +kernel
theorem dL_law_1319 : decode cL_law 1319 = .ok (.iadd, 1) := by decide +kernel
theorem dL_law_1320 : decode cL_law 1320 = .ok (.iaload, 1) := by decide +kernel
theorem dL_law_1321 : decode cL_law 1321 = .ok (.aload_n 0, 1) := by decide +kernel
theorem dL_law_1322 : decode cL_law 1322 = .ok (.iload 4, 2) := by decide +kernel
theorem dL_law_1324 : decode cL_law 1324 = .ok (.iconst 3, 1) := by decide +kernel
theorem dL_law_1325 : decode cL_law 1325 = .ok (.iadd, 1) := by decide +kernel
theorem dL_law_1326 : decode cL_law 1326 = .ok (.iaload, 1) := by decide +kernel
theorem dL_law_1327 : decode cL_law 1327 = .ok (.aload_n 3, 1) := by decide +kernel
theorem dL_law_1328 : decode cL_law 1328 = .ok (.invokestatic 188, 3) := by decide +kernel
theorem dL_law_1331 : decode cL_law 1331 = .ok (.istore 5, 2) := by decide +kernel
theorem dL_law_1333 : decode cL_law 1333 = .ok (.aload_n 2, 1) := by decide +kernel
theorem dL_law_1334 : decode cL_law 1334 = .ok (.aload_n 0, 1) := by decide +kernel
theorem dL_law_1335 : decode cL_law 1335 = .ok (.iload 4, 2) := by decide +kernel
theorem dL_law_1337 : decode cL_law 1337 = .ok (.iconst 1, 1) := by decide +kernel
theorem dL_law_1338 : decode cL_law 1338 = .ok (.iadd, 1) := by decide +kernel
theorem dL_law_1339 : decode cL_law 1339 = .ok (.iaload, 1) := by decide +kernel
theorem dL_law_1340 : decode cL_law 1340 = .ok (.aload_n 0, 1) := by decide +kernel
theorem dL_law_1341 : decode cL_law 1341 = .ok (.iload 4, 2) := by decide +kernel
theorem dL_law_1343 : decode cL_law 1343 = .ok (.iconst 2, 1) := by decide +kernel
theorem dL_law_1344 : decode cL_law 1344 = .ok (.iadd, 1) := by decide +kernel
theorem dL_law_1345 : decode cL_law 1345 = .ok (.iaload, 1) := by decide +kernel
theorem dL_law_1346 : decode cL_law 1346 = .ok (.aload_n 0, 1) := by decide +kernel
theorem dL_law_1347 : decode cL_law 1347 = .ok (.iload 4, 2) := by decide +kernel
theorem dL_law_1349 : decode cL_law 1349 = .ok (.iconst 3, 1) := by decide +kernel
theorem dL_law_1350 : decode cL_law 1350 = .ok (.iadd, 1) := by decide +kernel
theorem dL_law_1351 : decode cL_law 1351 = .ok (.iaload, 1) := by decide +kernel
theorem dL_law_1352 : decode cL_law 1352 = .ok (.invokevirtual 190, 3) := by decide +kernel
theorem dL_law_1355 : decode cL_law 1355 = .ok (.istore 6, 2) := by decide +kernel
theorem dL_law_1357 : decode cL_law 1357 = .ok (.aload_n 2, 1) := by decide +kernel
theorem dL_law_1358 : decode cL_law 1358 = .ok (.invokevirtual 140, 3) := by decide +kernel
theorem dL_law_1361 : decode cL_law 1361 = .ok (.iload 5, 2) := by decide +kernel
theorem dL_law_1363 : decode cL_law 1363 = .ok (.if_icmp .eq 5, 3) := by decide +kernel
theorem dL_law_1366 : decode cL_law 1366 = .ok (.iconst 0, 1) := by decide +kernel
theorem dL_law_1367 : decode cL_law 1367 = .ok (.ireturn, 1) := by decide +kernel
theorem dL_law_1368 : decode cL_law 1368 = .ok (.iload 5, 2) := by decide +kernel
theorem dL_law_1370 : decode cL_law 1370 = .ok (.ifCond .ne 15, 3) := by decide +kernel
theorem dL_law_1373 : decode cL_law 1373 = .ok (.aload_n 3, 1) := by decide +kernel
theorem dL_law_1374 : decode cL_law 1374 = .ok (.iconst 0, 1) := by decide +kernel
theorem dL_law_1375 : decode cL_law 1375 = .ok (.laload, 1) := by decide +kernel
theorem dL_law_1376 : decode cL_law 1376 = .ok (.iload 6, 2) := by decide +kernel
theorem dL_law_1378 : decode cL_law 1378 = .ok (.i2l, 1) := by decide +kernel
theorem dL_law_1379 : decode cL_law 1379 = .ok (.lcmp, 1) := by decide +kernel
theorem dL_law_1380 : decode cL_law 1380 = .ok (.ifCond .eq 5, 3) := by decide +kernel
theorem dL_law_1383 : decode cL_law 1383 = .ok (.iconst 0, 1) := by decide +kernel
theorem dL_law_1384 : decode cL_law 1384 = .ok (.ireturn, 1) := by decide +kernel
theorem dL_law_1385 : decode cL_law 1385 = .ok (.goto 991, 3) := by decide +kernel
theorem dL_law_1388 : decode cL_law 1388 = .ok (.aload_n 1, 1) := by decide +kernel
theorem dL_law_1389 : decode cL_law 1389 = .ok (.aload_n 0, 1) := by decide +kernel
theorem dL_law_1390 : decode cL_law 1390 = .ok (.iload 4, 2) := by decide +kernel
theorem dL_law_1392 : decode cL_law 1392 = .ok (.iconst 1, 1) := by decide +kernel
theorem dL_law_1393 : decode cL_law 1393 = .ok (.iadd, 1) := by decide +kernel
theorem dL_law_1394 : decode cL_law 1394 = .ok (.iaload, 1) := by decide +kernel
theorem dL_law_1395 : decode cL_law 1395 = .ok (.aload_n 0, 1) := by decide +kernel
theorem dL_law_1396 : decode cL_law 1396 = .ok (.iload 4, 2) := by decide +kernel
theorem dL_law_1398 : decode cL_law 1398 = .ok (.iconst 2, 1) := by decide +kernel
theorem dL_law_1399 : decode cL_law 1399 = .ok (.iadd, 1) := by decide +kernel
theorem dL_law_1400 : decode cL_law 1400 = .ok (.iaload, 1) := by decide +kernel
theorem dL_law_1401 : decode cL_law 1401 = .ok (.aload_n 0, 1) := by decide +kernel
theorem dL_law_1402 : decode cL_law 1402 = .ok (.iload 4, 2) := by decide +kernel
theorem dL_law_1404 : decode cL_law 1404 = .ok (.iconst 3, 1) := by decide +kernel
theorem dL_law_1405 : decode cL_law 1405 = .ok (.iadd, 1) := by decide +kernel
theorem dL_law_1406 : decode cL_law 1406 = .ok (.iaload, 1) := by decide +kernel
theorem dL_law_1407 : decode cL_law 1407 = .ok (.aload_n 3, 1) := by decide +kernel
theorem dL_law_1408 : decode cL_law 1408 = .ok (.invokestatic 191, 3) := by decide +kernel
theorem dL_law_1411 : decode cL_law 1411 = .ok (.istore 5, 2) := by decide +kernel
theorem dL_law_1413 : decode cL_law 1413 = .ok (.aload_n 2, 1) := by decide +kernel
theorem dL_law_1414 : decode cL_law 1414 = .ok (.aload_n 0, 1) := by decide +kernel
theorem dL_law_1415 : decode cL_law 1415 = .ok (.iload 4, 2) := by decide +kernel
theorem dL_law_1417 : decode cL_law 1417 = .ok (.iconst 1, 1) := by decide +kernel
theorem dL_law_1418 : decode cL_law 1418 = .ok (.iadd, 1) := by decide +kernel
theorem dL_law_1419 : decode cL_law 1419 = .ok (.iaload, 1) := by decide +kernel
theorem dL_law_1420 : decode cL_law 1420 = .ok (.aload_n 0, 1) := by decide +kernel
theorem dL_law_1421 : decode cL_law 1421 = .ok (.iload 4, 2) := by decide +kernel
theorem dL_law_1423 : decode cL_law 1423 = .ok (.iconst 2, 1) := by decide +kernel
theorem dL_law_1424 : decode cL_law 1424 = .ok (.iadd, 1) := by decide +kernel
theorem dL_law_1425 : decode cL_law 1425 = .ok (.iaload, 1) := by decide +kernel
theorem dL_law_1426 : decode cL_law 1426 = .ok (.aload_n 0, 1) := by decide +kernel
theorem dL_law_1427 : decode cL_law 1427 = .ok (.iload 4, 2) := by decide +kernel
theorem dL_law_1429 : decode cL_law 1429 = .ok (.iconst 3, 1) := by decide +kernel
theorem dL_law_1430 : decode cL_law 1430 = .ok (.iadd, 1) := by decide +kernel
theorem dL_law_1431 : decode cL_law 1431 = .ok (.iaload, 1) := by decide +kernel
theorem dL_law_1432 : decode cL_law 1432 = .ok (.invokevirtual 193, 3) := by decide +kernel
theorem dL_law_1435 : decode cL_law 1435 = .ok (.istore 6, 2) := by decide +kernel
theorem dL_law_1437 : decode cL_law 1437 = .ok (.aload_n 2, 1) := by decide +kernel
theorem dL_law_1438 : decode cL_law 1438 = .ok (.invokevirtual 140, 3) := by decide +kernel
theorem dL_law_1441 : decode cL_law 1441 = .ok (.iload 5, 2) := by decide +kernel
theorem dL_law_1443 : decode cL_law 1443 = .ok (.if_icmp .eq 5, 3) := by decide +kernel
theorem dL_law_1446 : decode cL_law 1446 = .ok (.iconst 0, 1) := by decide +kernel
theorem dL_law_1447 : decode cL_law 1447 = .ok (.ireturn, 1) := by decide +kernel
theorem dL_law_1448 : decode cL_law 1448 = .ok (.iload 5, 2) := by decide +kernel
theorem dL_law_1450 : decode cL_law 1450 = .ok (.ifCond .ne 15, 3) := by decide +kernel
theorem dL_law_1453 : decode cL_law 1453 = .ok (.aload_n 3, 1) := by decide +kernel
theorem dL_law_1454 : decode cL_law 1454 = .ok (.iconst 0, 1) := by decide +kernel
theorem dL_law_1455 : decode cL_law 1455 = .ok (.laload, 1) := by decide +kernel
theorem dL_law_1456 : decode cL_law 1456 = .ok (.iload 6, 2) := by decide +kernel
theorem dL_law_1458 : decode cL_law 1458 = .ok (.i2l, 1) := by decide +kernel
theorem dL_law_1459 : decode cL_law 1459 = .ok (.lcmp, 1) := by decide +kernel
theorem dL_law_1460 : decode cL_law 1460 = .ok (.ifCond .eq 5, 3) := by decide +kernel
theorem dL_law_1463 : decode cL_law 1463 = .ok (.iconst 0, 1) := by decide +kernel
theorem dL_law_1464 : decode cL_law 1464 = .ok (.ireturn, 1) := by decide +kernel
theorem dL_law_1465 : decode cL_law 1465 = .ok (.goto 911, 3) := by decide +kernel
theorem dL_law_1468 : decode cL_law 1468 = .ok (.aload_n 1, 1) := by decide +kernel
theorem dL_law_1469 : decode cL_law 1469 = .ok (.aload_n 0, 1) := by decide +kernel
theorem dL_law_1470 : decode cL_law 1470 = .ok (.iload 4, 2) := by decide +kernel
theorem dL_law_1472 : decode cL_law 1472 = .ok (.iconst 1, 1) := by decide +kernel
theorem dL_law_1473 : decode cL_law 1473 = .ok (.iadd, 1) := by decide +kernel
theorem dL_law_1474 : decode cL_law 1474 = .ok (.iaload, 1) := by decide +kernel
theorem dL_law_1475 : decode cL_law 1475 = .ok (.aload_n 3, 1) := by decide +kernel
theorem dL_law_1476 : decode cL_law 1476 = .ok (.invokestatic 194, 3) := by decide +kernel
theorem dL_law_1479 : decode cL_law 1479 = .ok (.istore 5, 2) := by decide +kernel
theorem dL_law_1481 : decode cL_law 1481 = .ok (.aload_n 2, 1) := by decide +kernel
theorem dL_law_1482 : decode cL_law 1482 = .ok (.aload_n 0, 1) := by decide +kernel
theorem dL_law_1483 : decode cL_law 1483 = .ok (.iload 4, 2) := by decide +kernel
theorem dL_law_1485 : decode cL_law 1485 = .ok (.iconst 1, 1) := by decide +kernel
theorem dL_law_1486 : decode cL_law 1486 = .ok (.iadd, 1) := by decide +kernel
theorem dL_law_1487 : decode cL_law 1487 = .ok (.iaload, 1) := by decide +kernel
theorem dL_law_1488 : decode cL_law 1488 = .ok (.invokevirtual 196, 3) := by decide +kernel
theorem dL_law_1491 : decode cL_law 1491 = .ok (.istore 6, 2) := by decide +kernel
theorem dL_law_1493 : decode cL_law 1493 = .ok (.aload_n 2, 1) := by decide +kernel
theorem dL_law_1494 : decode cL_law 1494 = .ok (.invokevirtual 140, 3) := by decide +kernel
theorem dL_law_1497 : decode cL_law 1497 = .ok (.iload 5, 2) := by decide +kernel
theorem dL_law_1499 : decode cL_law 1499 = .ok (.if_icmp .eq 5, 3) := by decide +kernel
theorem dL_law_1502 : decode cL_law 1502 = .ok (.iconst 0, 1) := by decide +kernel
theorem dL_law_1503 : decode cL_law 1503 = .ok (.ireturn, 1) := by decide +kernel
theorem dL_law_1504 : decode cL_law 1504 = .ok (.iload 5, 2) := by decide +kernel
theorem dL_law_1506 : decode cL_law 1506 = .ok (.ifCond .ne 15, 3) := by decide +kernel
theorem dL_law_1509 : decode cL_law 1509 = .ok (.aload_n 3, 1) := by decide +kernel
theorem dL_law_1510 : decode cL_law 1510 = .ok (.iconst 0, 1) := by decide +kernel
theorem dL_law_1511 : decode cL_law 1511 = .ok (.laload, 1) := by decide +kernel
theorem dL_law_1512 : decode cL_law 1512 = .ok (.iload 6, 2) := by decide +kernel
theorem dL_law_1514 : decode cL_law 1514 = .ok (.i2l, 1) := by decide +kernel
theorem dL_law_1515 : decode cL_law 1515 = .ok (.lcmp, 1) := by decide +kernel
theorem dL_law_1516 : decode cL_law 1516 = .ok (.ifCond .eq 5, 3) := by decide +kernel
theorem dL_law_1519 : decode cL_law 1519 = .ok (.iconst 0, 1) := by decide +kernel
theorem dL_law_1520 : decode cL_law 1520 = .ok (.ireturn, 1) := by decide +kernel
theorem dL_law_1521 : decode cL_law 1521 = .ok (.goto 855, 3) := by decide +kernel
theorem dL_law_1524 : decode cL_law 1524 = .ok (.aload_n 1, 1) := by decide +kernel
theorem dL_law_1525 : decode cL_law 1525 = .ok (.aload_n 0, 1) := by decide +kernel
theorem dL_law_1526 : decode cL_law 1526 = .ok (.iload 4, 2) := by decide +kernel
theorem dL_law_1528 : decode cL_law 1528 = .ok (.iconst 1, 1) := by decide +kernel
theorem dL_law_1529 : decode cL_law 1529 = .ok (.iadd, 1) := by decide +kernel
theorem dL_law_1530 : decode cL_law 1530 = .ok (.iaload, 1) := by decide +kernel
theorem dL_law_1531 : decode cL_law 1531 = .ok (.aload_n 0, 1) := by decide +kernel
theorem dL_law_1532 : decode cL_law 1532 = .ok (.iload 4, 2) := by decide +kernel
theorem dL_law_1534 : decode cL_law 1534 = .ok (.iconst 2, 1) := by decide +kernel
theorem dL_law_1535 : decode cL_law 1535 = .ok (.iadd, 1) := by decide +kernel
theorem dL_law_1536 : decode cL_law 1536 = .ok (.iaload, 1) := by decide +kernel
theorem dL_law_1537 : decode cL_law 1537 = .ok (.aload_n 3, 1) := by decide +kernel
theorem dL_law_1538 : decode cL_law 1538 = .ok (.invokestatic 197, 3) := by decide +kernel
theorem dL_law_1541 : decode cL_law 1541 = .ok (.istore 5, 2) := by decide +kernel
theorem dL_law_1543 : decode cL_law 1543 = .ok (.aload_n 2, 1) := by decide +kernel
theorem dL_law_1544 : decode cL_law 1544 = .ok (.aload_n 0, 1) := by decide +kernel
theorem dL_law_1545 : decode cL_law 1545 = .ok (.iload 4, 2) := by decide +kernel
theorem dL_law_1547 : decode cL_law 1547 = .ok (.iconst 1, 1) := by decide +kernel
theorem dL_law_1548 : decode cL_law 1548 = .ok (.iadd, 1) := by decide +kernel
theorem dL_law_1549 : decode cL_law 1549 = .ok (.iaload, 1) := by decide +kernel
theorem dL_law_1550 : decode cL_law 1550 = .ok (.aload_n 0, 1) := by decide +kernel
theorem dL_law_1551 : decode cL_law 1551 = .ok (.iload 4, 2) := by decide +kernel
theorem dL_law_1553 : decode cL_law 1553 = .ok (.iconst 2, 1) := by decide +kernel
theorem dL_law_1554 : decode cL_law 1554 = .ok (.iadd, 1) := by decide +kernel
theorem dL_law_1555 : decode cL_law 1555 = .ok (.iaload, 1) := by decide +kernel
theorem dL_law_1556 : decode cL_law 1556 = .ok (.invokevirtual 199, 3) := by decide +kernel
theorem dL_law_1559 : decode cL_law 1559 = .ok (.istore 6, 2) := by decide +kernel
theorem dL_law_1561 : decode cL_law 1561 = .ok (.aload_n 2, 1) := by decide +kernel
theorem dL_law_1562 : decode cL_law 1562 = .ok (.invokevirtual 140, 3) := by decide +kernel
theorem dL_law_1565 : decode cL_law 1565 = .ok (.iload 5, 2) := by decide +kernel
theorem dL_law_1567 : decode cL_law 1567 = .ok (.if_icmp .eq 5, 3) := by decide +kernel
theorem dL_law_1570 : decode cL_law 1570 = .ok (.iconst 0, 1) := by decide +kernel
theorem dL_law_1571 : decode cL_law 1571 = .ok (.ireturn, 1) := by decide +kernel
theorem dL_law_1572 : decode cL_law 1572 = .ok (.iload 5, 2) := by decide +kernel
theorem dL_law_1574 : decode cL_law 1574 = .ok (.ifCond .ne 15, 3) := by decide +kernel
theorem dL_law_1577 : decode cL_law 1577 = .ok (.aload_n 3, 1) := by decide +kernel
theorem dL_law_1578 : decode cL_law 1578 = .ok (.iconst 0, 1) := by decide +kernel
theorem dL_law_1579 : decode cL_law 1579 = .ok (.laload, 1) := by decide +kernel
theorem dL_law_1580 : decode cL_law 1580 = .ok (.iload 6, 2) := by decide +kernel
theorem dL_law_1582 : decode cL_law 1582 = .ok (.i2l, 1) := by decide +kernel
theorem dL_law_1583 : decode cL_law 1583 = .ok (.lcmp, 1) := by decide +kernel
theorem dL_law_1584 : decode cL_law 1584 = .ok (.ifCond .eq 5, 3) := by decide +kernel
theorem dL_law_1587 : decode cL_law 1587 = .ok (.iconst 0, 1) := by decide +kernel
theorem dL_law_1588 : decode cL_law 1588 = .ok (.ireturn, 1) := by decide +kernel
theorem dL_law_1589 : decode cL_law 1589 = .ok (.goto 787, 3) := by decide +kernel
theorem dL_law_1592 : decode cL_law 1592 = .ok (.aload_n 1, 1) := by decide +kernel
theorem dL_law_1593 : decode cL_law 1593 = .ok (.aload_n 0, 1) := by decide +kernel
theorem dL_law_1594 : decode cL_law 1594 = .ok (.iload 4, 2) := by decide +kernel
theorem dL_law_1596 : decode cL_law 1596 = .ok (.iconst 1, 1) := by decide +kernel
theorem dL_law_1597 : decode cL_law 1597 = .ok (.iadd, 1) := by decide +kernel
theorem dL_law_1598 : decode cL_law 1598 = .ok (.iaload, 1) := by decide +kernel
theorem dL_law_1599 : decode cL_law 1599 = .ok (.aload_n 3, 1) := by decide +kernel
theorem dL_law_1600 : decode cL_law 1600 = .ok (.invokestatic 200, 3) := by decide +kernel
theorem dL_law_1603 : decode cL_law 1603 = .ok (.istore 5, 2) := by decide +kernel
theorem dL_law_1605 : decode cL_law 1605 = .ok (.aload_n 2, 1) := by decide +kernel
theorem dL_law_1606 : decode cL_law 1606 = .ok (.aload_n 0, 1) := by decide +kernel
theorem dL_law_1607 : decode cL_law 1607 = .ok (.iload 4, 2) := by decide +kernel
theorem dL_law_1609 : decode cL_law 1609 = .ok (.iconst 1, 1) := by decide +kernel
theorem dL_law_1610 : decode cL_law 1610 = .ok (.iadd, 1) := by decide +kernel
theorem dL_law_1611 : decode cL_law 1611 = .ok (.iaload, 1) := by decide +kernel
theorem dL_law_1612 : decode cL_law 1612 = .ok (.invokevirtual 202, 3) := by decide +kernel
theorem dL_law_1615 : decode cL_law 1615 = .ok (.istore 6, 2) := by decide +kernel
theorem dL_law_1617 : decode cL_law 1617 = .ok (.aload_n 2, 1) := by decide +kernel
theorem dL_law_1618 : decode cL_law 1618 = .ok (.invokevirtual 140, 3) := by decide +kernel
theorem dL_law_1621 : decode cL_law 1621 = .ok (.iload 5, 2) := by decide +kernel
theorem dL_law_1623 : decode cL_law 1623 = .ok (.if_icmp .eq 5, 3) := by decide +kernel
theorem dL_law_1626 : decode cL_law 1626 = .ok (.iconst 0, 1) := by decide +kernel
theorem dL_law_1627 : decode cL_law 1627 = .ok (.ireturn, 1) := by decide +kernel
theorem dL_law_1628 : decode cL_law 1628 = .ok (.iload 5, 2) := by decide +kernel
theorem dL_law_1630 : decode cL_law 1630 = .ok (.ifCond .ne 15, 3) := by decide +kernel
theorem dL_law_1633 : decode cL_law 1633 = .ok (.aload_n 3, 1) := by decide +kernel
theorem dL_law_1634 : decode cL_law 1634 = .ok (.iconst 0, 1) := by decide +kernel
theorem dL_law_1635 : decode cL_law 1635 = .ok (.laload, 1) := by decide +kernel
theorem dL_law_1636 : decode cL_law 1636 = .ok (.iload 6, 2) := by decide +kernel
theorem dL_law_1638 : decode cL_law 1638 = .ok (.i2l, 1) := by decide +kernel
theorem dL_law_1639 : decode cL_law 1639 = .ok (.lcmp, 1) := by decide +kernel
theorem dL_law_1640 : decode cL_law 1640 = .ok (.ifCond .eq 5, 3) := by decide +kernel
theorem dL_law_1643 : decode cL_law 1643 = .ok (.iconst 0, 1) := by decide +kernel
theorem dL_law_1644 : decode cL_law 1644 = .ok (.ireturn, 1) := by decide +kernel
theorem dL_law_1645 : decode cL_law 1645 = .ok (.goto 731, 3) := by decide +kernel
theorem dL_law_1648 : decode cL_law 1648 = .ok (.aload_n 1, 1) := by decide +kernel
theorem dL_law_1649 : decode cL_law 1649 = .ok (.aload_n 0, 1) := by decide +kernel
theorem dL_law_1650 : decode cL_law 1650 = .ok (.iload 4, 2) := by decide +kernel
theorem dL_law_1652 : decode cL_law 1652 = .ok (.iconst 1, 1) := by decide +kernel
theorem dL_law_1653 : decode cL_law 1653 = .ok (.iadd, 1) := by decide +kernel
theorem dL_law_1654 : decode cL_law 1654 = .ok (.iaload, 1) := by decide +kernel
theorem dL_law_1655 : decode cL_law 1655 = .ok (.aload_n 3, 1) := by decide +kernel
theorem dL_law_1656 : decode cL_law 1656 = .ok (.invokestatic 203, 3) := by decide +kernel
theorem dL_law_1659 : decode cL_law 1659 = .ok (.istore 5, 2) := by decide +kernel
theorem dL_law_1661 : decode cL_law 1661 = .ok (.aload_n 2, 1) := by decide +kernel
theorem dL_law_1662 : decode cL_law 1662 = .ok (.aload_n 0, 1) := by decide +kernel
theorem dL_law_1663 : decode cL_law 1663 = .ok (.iload 4, 2) := by decide +kernel
theorem dL_law_1665 : decode cL_law 1665 = .ok (.iconst 1, 1) := by decide +kernel
theorem dL_law_1666 : decode cL_law 1666 = .ok (.iadd, 1) := by decide +kernel
theorem dL_law_1667 : decode cL_law 1667 = .ok (.iaload, 1) := by decide +kernel
theorem dL_law_1668 : decode cL_law 1668 = .ok (.invokevirtual 205, 3) := by decide +kernel
theorem dL_law_1671 : decode cL_law 1671 = .ok (.istore 6, 2) := by decide +kernel
theorem dL_law_1673 : decode cL_law 1673 = .ok (.aload_n 2, 1) := by decide +kernel
theorem dL_law_1674 : decode cL_law 1674 = .ok (.invokevirtual 140, 3) := by decide +kernel
theorem dL_law_1677 : decode cL_law 1677 = .ok (.iload 5, 2) := by decide +kernel
theorem dL_law_1679 : decode cL_law 1679 = .ok (.if_icmp .eq 5, 3) := by decide +kernel
theorem dL_law_1682 : decode cL_law 1682 = .ok (.iconst 0, 1) := by decide +kernel
theorem dL_law_1683 : decode cL_law 1683 = .ok (.ireturn, 1) := by decide +kernel
theorem dL_law_1684 : decode cL_law 1684 = .ok (.iload 5, 2) := by decide +kernel
theorem dL_law_1686 : decode cL_law 1686 = .ok (.ifCond .ne 22, 3) := by decide +kernel
theorem dL_law_1689 : decode cL_law 1689 = .ok (.aload_n 3, 1) := by decide +kernel
theorem dL_law_1690 : decode cL_law 1690 = .ok (.iconst 0, 1) := by decide +kernel
theorem dL_law_1691 : decode cL_law 1691 = .ok (.laload, 1) := by decide +kernel
theorem dL_law_1692 : decode cL_law 1692 = .ok (.iload 6, 2) := by decide +kernel
theorem dL_law_1694 : decode cL_law 1694 = .ok (.ifCond .eq 7, 3) := by decide +kernel
theorem dL_law_1697 : decode cL_law 1697 = .ok (.lconst 1, 1) := by decide +kernel
theorem dL_law_1698 : decode cL_law 1698 = .ok (.goto 4, 3) := by decide +kernel
theorem dL_law_1701 : decode cL_law 1701 = .ok (.lconst 0, 1) := by decide +kernel
theorem dL_law_1702 : decode cL_law 1702 = .ok (.lcmp, 1) := by decide +kernel
theorem dL_law_1703 : decode cL_law 1703 = .ok (.ifCond .eq 5, 3) := by decide +kernel
theorem dL_law_1706 : decode cL_law 1706 = .ok (.iconst 0, 1) := by decide +kernel
theorem dL_law_1707 : decode cL_law 1707 = .ok (.ireturn, 1) := by decide +kernel
theorem dL_law_1708 : decode cL_law 1708 = .ok (.goto 668, 3) := by decide +kernel
theorem dL_law_1711 : decode cL_law 1711 = .ok (.aload_n 1, 1) := by decide +kernel
theorem dL_law_1712 : decode cL_law 1712 = .ok (.invokevirtual 206, 3) := by decide +kernel
theorem dL_law_1715 : decode cL_law 1715 = .ok (.aload_n 2, 1) := by decide +kernel
theorem dL_law_1716 : decode cL_law 1716 = .ok (.invokevirtual 209, 3) := by decide +kernel
theorem dL_law_1719 : decode cL_law 1719 = .ok (.if_icmp .eq 657, 3) := by decide +kernel
theorem dL_law_1722 : decode cL_law 1722 = .ok (.iconst 0, 1) := by decide +kernel
theorem dL_law_1723 : decode cL_law 1723 = .ok (.ireturn, 1) := by decide +kernel
theorem dL_law_1724 : decode cL_law 1724 = .ok (.aload_n 1, 1) := by decide +kernel
theorem dL_law_1725 : decode cL_law 1725 = .ok (.aload_n 0, 1) := by decide +kernel
theorem dL_law_1726 : decode cL_law 1726 = .ok (.iload 4, 2) := by decide +kernel
theorem dL_law_1728 : decode cL_law 1728 = .ok (.iconst 1, 1) := by decide +kernel
theorem dL_law_1729 : decode cL_law 1729 = .ok (.iadd, 1) := by decide +kernel
theorem dL_law_1730 : decode cL_law 1730 = .ok (.iaload, 1) := by decide +kernel
theorem dL_law_1731 : decode cL_law 1731 = .ok (.aload_n 0, 1) := by decide +kernel
theorem dL_law_1732 : decode cL_law 1732 = .ok (.iload 4, 2) := by decide +kernel
theorem dL_law_1734 : decode cL_law 1734 = .ok (.iconst 2, 1) := by decide +kernel
theorem dL_law_1735 : decode cL_law 1735 = .ok (.iadd, 1) := by decide +kernel
theorem dL_law_1736 : decode cL_law 1736 = .ok (.iaload, 1) := by decide +kernel
theorem dL_law_1737 : decode cL_law 1737 = .ok (.aload_n 3, 1) := by decide +kernel
theorem dL_law_1738 : decode cL_law 1738 = .ok (.invokestatic 210, 3) := by decide +kernel
theorem dL_law_1741 : decode cL_law 1741 = .ok (.istore 5, 2) := by decide +kernel
theorem dL_law_1743 : decode cL_law 1743 = .ok (.aload_n 2, 1) := by decide +kernel
theorem dL_law_1744 : decode cL_law 1744 = .ok (.aload_n 0, 1) := by decide +kernel
theorem dL_law_1745 : decode cL_law 1745 = .ok (.iload 4, 2) := by decide +kernel
theorem dL_law_1747 : decode cL_law 1747 = .ok (.iconst 1, 1) := by decide +kernel
theorem dL_law_1748 : decode cL_law 1748 = .ok (.iadd, 1) := by decide +kernel
theorem dL_law_1749 : decode cL_law 1749 = .ok (.iaload, 1) := by decide +kernel
theorem dL_law_1750 : decode cL_law 1750 = .ok (.aload_n 0, 1) := by decide +kernel
theorem dL_law_1751 : decode cL_law 1751 = .ok (.iload 4, 2) := by decide +kernel
theorem dL_law_1753 : decode cL_law 1753 = .ok (.iconst 2, 1) := by decide +kernel
theorem dL_law_1754 : decode cL_law 1754 = .ok (.iadd, 1) := by decide +kernel
theorem dL_law_1755 : decode cL_law 1755 = .ok (.iaload, 1) := by decide +kernel
theorem dL_law_1756 : decode cL_law 1756 = .ok (.invokevirtual 212, 3) := by decide +kernel
theorem dL_law_1759 : decode cL_law 1759 = .ok (.istore 6, 2) := by decide +kernel
theorem dL_law_1761 : decode cL_law 1761 = .ok (.aload_n 2, 1) := by decide +kernel
theorem dL_law_1762 : decode cL_law 1762 = .ok (.invokevirtual 140, 3) := by decide +kernel
theorem dL_law_1765 : decode cL_law 1765 = .ok (.iload 5, 2) := by decide +kernel
theorem dL_law_1767 : decode cL_law 1767 = .ok (.if_icmp .eq 5, 3) := by decide +kernel
theorem dL_law_1770 : decode cL_law 1770 = .ok (.iconst 0, 1) := by decide +kernel
theorem dL_law_1771 : decode cL_law 1771 = .ok (.ireturn, 1) := by decide +kernel
theorem dL_law_1772 : decode cL_law 1772 = .ok (.iload 5, 2) := by decide +kernel
theorem dL_law_1774 : decode cL_law 1774 = .ok (.ifCond .ne 22, 3) := by decide +kernel
theorem dL_law_1777 : decode cL_law 1777 = .ok (.aload_n 3, 1) := by decide +kernel
theorem dL_law_1778 : decode cL_law 1778 = .ok (.iconst 0, 1) := by decide +kernel
theorem dL_law_1779 : decode cL_law 1779 = .ok (.laload, 1) := by decide +kernel
theorem dL_law_1780 : decode cL_law 1780 = .ok (.iload 6, 2) := by decide +kernel
theorem dL_law_1782 : decode cL_law 1782 = .ok (.ifCond .eq 7, 3) := by decide +kernel
theorem dL_law_1785 : decode cL_law 1785 = .ok (.lconst 1, 1) := by decide +kernel
theorem dL_law_1786 : decode cL_law 1786 = .ok (.goto 4, 3) := by decide +kernel
theorem dL_law_1789 : decode cL_law 1789 = .ok (.lconst 0, 1) := by decide +kernel
theorem dL_law_1790 : decode cL_law 1790 = .ok (.lcmp, 1) := by decide +kernel
theorem dL_law_1791 : decode cL_law 1791 = .ok (.ifCond .eq 5, 3) := by decide +kernel
theorem dL_law_1794 : decode cL_law 1794 = .ok (.iconst 0, 1) := by decide +kernel
theorem dL_law_1795 : decode cL_law 1795 = .ok (.ireturn, 1) := by decide +kernel
theorem dL_law_1796 : decode cL_law 1796 = .ok (.goto 580, 3) := by decide +kernel
theorem dL_law_1799 : decode cL_law 1799 = .ok (.aload_n 1, 1) := by decide +kernel
theorem dL_law_1800 : decode cL_law 1800 = .ok (.aload_n 0, 1) := by decide +kernel
theorem dL_law_1801 : decode cL_law 1801 = .ok (.iload 4, 2) := by decide +kernel
theorem dL_law_1803 : decode cL_law 1803 = .ok (.iconst 1, 1) := by decide +kernel
theorem dL_law_1804 : decode cL_law 1804 = .ok (.iadd, 1) := by decide +kernel
theorem dL_law_1805 : decode cL_law 1805 = .ok (.iaload, 1) := by decide +kernel
theorem dL_law_1806 : decode cL_law 1806 = .ok (.aload_n 0, 1) := by decide +kernel
theorem dL_law_1807 : decode cL_law 1807 = .ok (.iload 4, 2) := by decide +kernel
theorem dL_law_1809 : decode cL_law 1809 = .ok (.iconst 2, 1) := by decide +kernel
theorem dL_law_1810 : decode cL_law 1810 = .ok (.iadd, 1) := by decide +kernel
theorem dL_law_1811 : decode cL_law 1811 = .ok (.iaload, 1) := by decide +kernel
theorem dL_law_1812 : decode cL_law 1812 = .ok (.aload_n 3, 1) := by decide +kernel
theorem dL_law_1813 : decode cL_law 1813 = .ok (.invokestatic 213, 3) := by decide +kernel
theorem dL_law_1816 : decode cL_law 1816 = .ok (.istore 5, 2) := by decide +kernel
theorem dL_law_1818 : decode cL_law 1818 = .ok (.aload_n 2, 1) := by decide +kernel
theorem dL_law_1819 : decode cL_law 1819 = .ok (.aload_n 0, 1) := by decide +kernel
theorem dL_law_1820 : decode cL_law 1820 = .ok (.iload 4, 2) := by decide +kernel
theorem dL_law_1822 : decode cL_law 1822 = .ok (.iconst 1, 1) := by decide +kernel
theorem dL_law_1823 : decode cL_law 1823 = .ok (.iadd, 1) := by decide +kernel
theorem dL_law_1824 : decode cL_law 1824 = .ok (.iaload, 1) := by decide +kernel
theorem dL_law_1825 : decode cL_law 1825 = .ok (.aload_n 0, 1) := by decide +kernel
theorem dL_law_1826 : decode cL_law 1826 = .ok (.iload 4, 2) := by decide +kernel
theorem dL_law_1828 : decode cL_law 1828 = .ok (.iconst 2, 1) := by decide +kernel
theorem dL_law_1829 : decode cL_law 1829 = .ok (.iadd, 1) := by decide +kernel
theorem dL_law_1830 : decode cL_law 1830 = .ok (.iaload, 1) := by decide +kernel
theorem dL_law_1831 : decode cL_law 1831 = .ok (.invokevirtual 215, 3) := by decide +kernel
theorem dL_law_1834 : decode cL_law 1834 = .ok (.istore 6, 2) := by decide +kernel
theorem dL_law_1836 : decode cL_law 1836 = .ok (.aload_n 2, 1) := by decide +kernel
theorem dL_law_1837 : decode cL_law 1837 = .ok (.invokevirtual 140, 3) := by decide +kernel
theorem dL_law_1840 : decode cL_law 1840 = .ok (.iload 5, 2) := by decide +kernel
theorem dL_law_1842 : decode cL_law 1842 = .ok (.if_icmp .eq 5, 3) := by decide +kernel
theorem dL_law_1845 : decode cL_law 1845 = .ok (.iconst 0, 1) := by decide +kernel
theorem dL_law_1846 : decode cL_law 1846 = .ok (.ireturn, 1) := by decide +kernel
theorem dL_law_1847 : decode cL_law 1847 = .ok (.iload 5, 2) := by decide +kernel
theorem dL_law_1849 : decode cL_law 1849 = .ok (.ifCond .ne 15, 3) := by decide +kernel
theorem dL_law_1852 : decode cL_law 1852 = .ok (.aload_n 3, 1) := by decide +kernel
theorem dL_law_1853 : decode cL_law 1853 = .ok (.iconst 0, 1) := by decide +kernel
theorem dL_law_1854 : decode cL_law 1854 = .ok (.laload, 1) := by decide +kernel
theorem dL_law_1855 : decode cL_law 1855 = .ok (.iload 6, 2) := by decide +kernel
theorem dL_law_1857 : decode cL_law 1857 = .ok (.i2l, 1) := by decide +kernel
theorem dL_law_1858 : decode cL_law 1858 = .ok (.lcmp, 1) := by decide +kernel
theorem dL_law_1859 : decode cL_law 1859 = .ok (.ifCond .eq 5, 3) := by decide +kernel
theorem dL_law_1862 : decode cL_law 1862 = .ok (.iconst 0, 1) := by decide +kernel
theorem dL_law_1863 : decode cL_law 1863 = .ok (.ireturn, 1) := by decide +kernel
theorem dL_law_1864 : decode cL_law 1864 = .ok (.goto 512, 3) := by decide +kernel
theorem dL_law_1867 : decode cL_law 1867 = .ok (.aload_n 1, 1) := by decide +kernel
theorem dL_law_1868 : decode cL_law 1868 = .ok (.aload_n 0, 1) := by decide +kernel
theorem dL_law_1869 : decode cL_law 1869 = .ok (.iload 4, 2) := by decide +kernel
theorem dL_law_1871 : decode cL_law 1871 = .ok (.iconst 1, 1) := by decide +kernel
theorem dL_law_1872 : decode cL_law 1872 = .ok (.iadd, 1) := by decide +kernel
theorem dL_law_1873 : decode cL_law 1873 = .ok (.iaload, 1) := by decide +kernel
theorem dL_law_1874 : decode cL_law 1874 = .ok (.aload_n 0, 1) := by decide +kernel
theorem dL_law_1875 : decode cL_law 1875 = .ok (.iload 4, 2) := by decide +kernel
theorem dL_law_1877 : decode cL_law 1877 = .ok (.iconst 2, 1) := by decide +kernel
theorem dL_law_1878 : decode cL_law 1878 = .ok (.iadd, 1) := by decide +kernel
theorem dL_law_1879 : decode cL_law 1879 = .ok (.iaload, 1) := by decide +kernel
theorem dL_law_1880 : decode cL_law 1880 = .ok (.aload_n 3, 1) := by decide +kernel
theorem dL_law_1881 : decode cL_law 1881 = .ok (.invokestatic 216, 3) := by decide +kernel
theorem dL_law_1884 : decode cL_law 1884 = .ok (.istore 5, 2) := by decide +kernel
theorem dL_law_1886 : decode cL_law 1886 = .ok (.aload_n 2, 1) := by decide +kernel
theorem dL_law_1887 : decode cL_law 1887 = .ok (.aload_n 0, 1) := by decide +kernel
theorem dL_law_1888 : decode cL_law 1888 = .ok (.iload 4, 2) := by decide +kernel
theorem dL_law_1890 : decode cL_law 1890 = .ok (.iconst 1, 1) := by decide +kernel
theorem dL_law_1891 : decode cL_law 1891 = .ok (.iadd, 1) := by decide +kernel
theorem dL_law_1892 : decode cL_law 1892 = .ok (.iaload, 1) := by decide +kernel
theorem dL_law_1893 : decode cL_law 1893 = .ok (.aload_n 0, 1) := by decide +kernel
theorem dL_law_1894 : decode cL_law 1894 = .ok (.iload 4, 2) := by decide +kernel
theorem dL_law_1896 : decode cL_law 1896 = .ok (.iconst 2, 1) := by decide +kernel
theorem dL_law_1897 : decode cL_law 1897 = .ok (.iadd, 1) := by decide +kernel
theorem dL_law_1898 : decode cL_law 1898 = .ok (.iaload, 1) := by decide +kernel
theorem dL_law_1899 : decode cL_law 1899 = .ok (.invokevirtual 218, 3) := by decide +kernel
theorem dL_law_1902 : decode cL_law 1902 = .ok (.istore 6, 2) := by decide +kernel
theorem dL_law_1904 : decode cL_law 1904 = .ok (.aload_n 2, 1) := by decide +kernel
theorem dL_law_1905 : decode cL_law 1905 = .ok (.invokevirtual 140, 3) := by decide +kernel
theorem dL_law_1908 : decode cL_law 1908 = .ok (.iload 5, 2) := by decide +kernel
theorem dL_law_1910 : decode cL_law 1910 = .ok (.if_icmp .eq 5, 3) := by decide +kernel
theorem dL_law_1913 : decode cL_law 1913 = .ok (.iconst 0, 1) := by decide +kernel
theorem dL_law_1914 : decode cL_law 1914 = .ok (.ireturn, 1) := by decide +kernel
theorem dL_law_1915 : decode cL_law 1915 = .ok (.iload 5, 2) := by decide +kernel
theorem dL_law_1917 : decode cL_law 1917 = .ok (.ifCond .ne 15, 3) := by decide +kernel
theorem dL_law_1920 : decode cL_law 1920 = .ok (.aload_n 3, 1) := by decide +kernel
theorem dL_law_1921 : decode cL_law 1921 = .ok (.iconst 0, 1) := by decide +kernel
theorem dL_law_1922 : decode cL_law 1922 = .ok (.laload, 1) := by decide +kernel
theorem dL_law_1923 : decode cL_law 1923 = .ok (.iload 6, 2) := by decide +kernel
theorem dL_law_1925 : decode cL_law 1925 = .ok (.i2l, 1) := by decide +kernel
theorem dL_law_1926 : decode cL_law 1926 = .ok (.lcmp, 1) := by decide +kernel
theorem dL_law_1927 : decode cL_law 1927 = .ok (.ifCond .eq 5, 3) := by decide +kernel
theorem dL_law_1930 : decode cL_law 1930 = .ok (.iconst 0, 1) := by decide +kernel
theorem dL_law_1931 : decode cL_law 1931 = .ok (.ireturn, 1) := by decide +kernel
theorem dL_law_1932 : decode cL_law 1932 = .ok (.goto 444, 3) := by decide +kernel
theorem dL_law_1935 : decode cL_law 1935 = .ok (.aload_n 1, 1) := by decide +kernel
theorem dL_law_1936 : decode cL_law 1936 = .ok (.aload_n 0, 1) := by decide +kernel
theorem dL_law_1937 : decode cL_law 1937 = .ok (.iload 4, 2) := by decide +kernel
theorem dL_law_1939 : decode cL_law 1939 = .ok (.iconst 1, 1) := by decide +kernel
theorem dL_law_1940 : decode cL_law 1940 = .ok (.iadd, 1) := by decide +kernel
theorem dL_law_1941 : decode cL_law 1941 = .ok (.iaload, 1) := by decide +kernel
theorem dL_law_1942 : decode cL_law 1942 = .ok (.aload_n 3, 1) := by decide +kernel
theorem dL_law_1943 : decode cL_law 1943 = .ok (.invokestatic 219, 3) := by decide +kernel
theorem dL_law_1946 : decode cL_law 1946 = .ok (.istore 5, 2) := by decide +kernel
theorem dL_law_1948 : decode cL_law 1948 = .ok (.aload_n 2, 1) := by decide +kernel
theorem dL_law_1949 : decode cL_law 1949 = .ok (.aload_n 0, 1) := by decide +kernel
theorem dL_law_1950 : decode cL_law 1950 = .ok (.iload 4, 2) := by decide +kernel
theorem dL_law_1952 : decode cL_law 1952 = .ok (.iconst 1, 1) := by decide +kernel
theorem dL_law_1953 : decode cL_law 1953 = .ok (.iadd, 1) := by decide +kernel
theorem dL_law_1954 : decode cL_law 1954 = .ok (.iaload, 1) := by decide +kernel
theorem dL_law_1955 : decode cL_law 1955 = .ok (.invokevirtual 221, 3) := by decide +kernel
theorem dL_law_1958 : decode cL_law 1958 = .ok (.istore 6, 2) := by decide +kernel
theorem dL_law_1960 : decode cL_law 1960 = .ok (.aload_n 2, 1) := by decide +kernel
theorem dL_law_1961 : decode cL_law 1961 = .ok (.invokevirtual 140, 3) := by decide +kernel
theorem dL_law_1964 : decode cL_law 1964 = .ok (.iload 5, 2) := by decide +kernel
theorem dL_law_1966 : decode cL_law 1966 = .ok (.if_icmp .eq 5, 3) := by decide +kernel
theorem dL_law_1969 : decode cL_law 1969 = .ok (.iconst 0, 1) := by decide +kernel
theorem dL_law_1970 : decode cL_law 1970 = .ok (.ireturn, 1) := by decide +kernel
theorem dL_law_1971 : decode cL_law 1971 = .ok (.iload 5, 2) := by decide +kernel
theorem dL_law_1973 : decode cL_law 1973 = .ok (.ifCond .ne 15, 3) := by decide +kernel
theorem dL_law_1976 : decode cL_law 1976 = .ok (.aload_n 3, 1) := by decide +kernel
theorem dL_law_1977 : decode cL_law 1977 = .ok (.iconst 0, 1) := by decide +kernel
theorem dL_law_1978 : decode cL_law 1978 = .ok (.laload, 1) := by decide +kernel
theorem dL_law_1979 : decode cL_law 1979 = .ok (.iload 6, 2) := by decide +kernel
theorem dL_law_1981 : decode cL_law 1981 = .ok (.i2l, 1) := by decide +kernel
theorem dL_law_1982 : decode cL_law 1982 = .ok (.lcmp, 1) := by decide +kernel
theorem dL_law_1983 : decode cL_law 1983 = .ok (.ifCond .eq 5, 3) := by decide +kernel
theorem dL_law_1986 : decode cL_law 1986 = .ok (.iconst 0, 1) := by decide +kernel
theorem dL_law_1987 : decode cL_law 1987 = .ok (.ireturn, 1) := by decide +kernel
theorem dL_law_1988 : decode cL_law 1988 = .ok (.goto 388, 3) := by decide +kernel
theorem dL_law_1991 : decode cL_law 1991 = .ok (.aload_n 1, 1) := by decide +kernel
theorem dL_law_1992 : decode cL_law 1992 = .ok (.aload_n 0, 1) := by decide +kernel
theorem dL_law_1993 : decode cL_law 1993 = .ok (.iload 4, 2) := by decide +kernel
theorem dL_law_1995 : decode cL_law 1995 = .ok (.iconst 1, 1) := by decide +kernel
theorem dL_law_1996 : decode cL_law 1996 = .ok (.iadd, 1) := by decide +kernel
theorem dL_law_1997 : decode cL_law 1997 = .ok (.iaload, 1) := by decide +kernel
theorem dL_law_1998 : decode cL_law 1998 = .ok (.aload_n 0, 1) := by decide +kernel
theorem dL_law_1999 : decode cL_law 1999 = .ok (.iload 4, 2) := by decide +kernel
theorem dL_law_2001 : decode cL_law 2001 = .ok (.iconst 2, 1) := by decide +kernel
theorem dL_law_2002 : decode cL_law 2002 = .ok (.iadd, 1) := by decide +kernel
theorem dL_law_2003 : decode cL_law 2003 = .ok (.iaload, 1) := by decide +kernel
theorem dL_law_2004 : decode cL_law 2004 = .ok (.aload_n 3, 1) := by decide +kernel
theorem dL_law_2005 : decode cL_law 2005 = .ok (.invokestatic 222, 3) := by decide +kernel
theorem dL_law_2008 : decode cL_law 2008 = .ok (.istore 5, 2) := by decide +kernel
theorem dL_law_2010 : decode cL_law 2010 = .ok (.aload_n 2, 1) := by decide +kernel
theorem dL_law_2011 : decode cL_law 2011 = .ok (.aload_n 0, 1) := by decide +kernel
theorem dL_law_2012 : decode cL_law 2012 = .ok (.iload 4, 2) := by decide +kernel
theorem dL_law_2014 : decode cL_law 2014 = .ok (.iconst 1, 1) := by decide +kernel
theorem dL_law_2015 : decode cL_law 2015 = .ok (.iadd, 1) := by decide +kernel
theorem dL_law_2016 : decode cL_law 2016 = .ok (.iaload, 1) := by decide +kernel
theorem dL_law_2017 : decode cL_law 2017 = .ok (.aload_n 0, 1) := by decide +kernel
theorem dL_law_2018 : decode cL_law 2018 = .ok (.iload 4, 2) := by decide +kernel
theorem dL_law_2020 : decode cL_law 2020 = .ok (.iconst 2, 1) := by decide +kernel
theorem dL_law_2021 : decode cL_law 2021 = .ok (.iadd, 1) := by decide +kernel
theorem dL_law_2022 : decode cL_law 2022 = .ok (.iaload, 1) := by decide +kernel
theorem dL_law_2023 : decode cL_law 2023 = .ok (.invokevirtual 224, 3) := by decide +kernel
theorem dL_law_2026 : decode cL_law 2026 = .ok (.istore 6, 2) := by decide +kernel
theorem dL_law_2028 : decode cL_law 2028 = .ok (.aload_n 2, 1) := by decide +kernel
theorem dL_law_2029 : decode cL_law 2029 = .ok (.invokevirtual 140, 3) := by decide +kernel
theorem dL_law_2032 : decode cL_law 2032 = .ok (.iload 5, 2) := by decide +kernel
theorem dL_law_2034 : decode cL_law 2034 = .ok (.if_icmp .eq 5, 3) := by decide +kernel
theorem dL_law_2037 : decode cL_law 2037 = .ok (.iconst 0, 1) := by decide +kernel
theorem dL_law_2038 : decode cL_law 2038 = .ok (.ireturn, 1) := by decide +kernel
theorem dL_law_2039 : decode cL_law 2039 = .ok (.iload 5, 2) := by decide +kernel
theorem dL_law_2041 : decode cL_law 2041 = .ok (.ifCond .ne 15, 3) := by decide +kernel
theorem dL_law_2044 : decode cL_law 2044 = .ok (.aload_n 3, 1) := by decide +kernel
theorem dL_law_2045 : decode cL_law 2045 = .ok (.iconst 0, 1) := by decide +kernel
theorem dL_law_2046 : decode cL_law 2046 = .ok (.laload, 1) := by decide +kernel
theorem dL_law_2047 : decode cL_law 2047 = .ok (.iload 6, 2) := by decide +kernel
theorem dL_law_2049 : decode cL_law 2049 = .ok (.i2l, 1) := by decide +kernel
theorem dL_law_2050 : decode cL_law 2050 = .ok (.lcmp, 1) := by decide +kernel
theorem dL_law_2051 : decode cL_law 2051 = .ok (.ifCond .eq 5, 3) := by decide +kernel
theorem dL_law_2054 : decode cL_law 2054 = .ok (.iconst 0, 1) := by decide +kernel
theorem dL_law_2055 : decode cL_law 2055 = .ok (.ireturn, 1) := by decide +kernel
theorem dL_law_2056 : decode cL_law 2056 = .ok (.goto 320, 3) := by decide +kernel
theorem dL_law_2059 : decode cL_law 2059 = .ok (.aload_n 1, 1) := by decide +kernel
theorem dL_law_2060 : decode cL_law 2060 = .ok (.aload_n 0, 1) := by decide +kernel
theorem dL_law_2061 : decode cL_law 2061 = .ok (.iload 4, 2) := by decide +kernel
theorem dL_law_2063 : decode cL_law 2063 = .ok (.iconst 1, 1) := by decide +kernel
theorem dL_law_2064 : decode cL_law 2064 = .ok (.iadd, 1) := by decide +kernel
theorem dL_law_2065 : decode cL_law 2065 = .ok (.iaload, 1) := by decide +kernel
theorem dL_law_2066 : decode cL_law 2066 = .ok (.aload_n 0, 1) := by decide +kernel
theorem dL_law_2067 : decode cL_law 2067 = .ok (.iload 4, 2) := by decide +kernel
theorem dL_law_2069 : decode cL_law 2069 = .ok (.iconst 2, 1) := by decide +kernel
theorem dL_law_2070 : decode cL_law 2070 = .ok (.iadd, 1) := by decide +kernel
theorem dL_law_2071 : decode cL_law 2071 = .ok (.iaload, 1) := by decide +kernel
theorem dL_law_2072 : decode cL_law 2072 = .ok (.aload_n 3, 1) := by decide +kernel
theorem dL_law_2073 : decode cL_law 2073 = .ok (.invokestatic 225, 3) := by decide +kernel
theorem dL_law_2076 : decode cL_law 2076 = .ok (.istore 5, 2) := by decide +kernel
theorem dL_law_2078 : decode cL_law 2078 = .ok (.aload_n 2, 1) := by decide +kernel
theorem dL_law_2079 : decode cL_law 2079 = .ok (.aload_n 0, 1) := by decide +kernel
theorem dL_law_2080 : decode cL_law 2080 = .ok (.iload 4, 2) := by decide +kernel
theorem dL_law_2082 : decode cL_law 2082 = .ok (.iconst 1, 1) := by decide +kernel
theorem dL_law_2083 : decode cL_law 2083 = .ok (.iadd, 1) := by decide +kernel
theorem dL_law_2084 : decode cL_law 2084 = .ok (.iaload, 1) := by decide +kernel
theorem dL_law_2085 : decode cL_law 2085 = .ok (.aload_n 0, 1) := by decide +kernel
theorem dL_law_2086 : decode cL_law 2086 = .ok (.iload 4, 2) := by decide +kernel
theorem dL_law_2088 : decode cL_law 2088 = .ok (.iconst 2, 1) := by decide +kernel
theorem dL_law_2089 : decode cL_law 2089 = .ok (.iadd, 1) := by decide +kernel
theorem dL_law_2090 : decode cL_law 2090 = .ok (.iaload, 1) := by decide +kernel
theorem dL_law_2091 : decode cL_law 2091 = .ok (.invokevirtual 227, 3) := by decide +kernel
theorem dL_law_2094 : decode cL_law 2094 = .ok (.lstore 6, 2) := by decide +kernel
theorem dL_law_2096 : decode cL_law 2096 = .ok (.aload_n 2, 1) := by decide +kernel
theorem dL_law_2097 : decode cL_law 2097 = .ok (.invokevirtual 140, 3) := by decide +kernel
theorem dL_law_2100 : decode cL_law 2100 = .ok (.iload 5, 2) := by decide +kernel
theorem dL_law_2102 : decode cL_law 2102 = .ok (.if_icmp .eq 5, 3) := by decide +kernel
theorem dL_law_2105 : decode cL_law 2105 = .ok (.iconst 0, 1) := by decide +kernel
theorem dL_law_2106 : decode cL_law 2106 = .ok (.ireturn, 1) := by decide +kernel
theorem dL_law_2107 : decode cL_law 2107 = .ok (.iload 5, 2) := by decide +kernel
theorem dL_law_2109 : decode cL_law 2109 = .ok (.ifCond .ne 14, 3) := by decide +kernel
theorem dL_law_2112 : decode cL_law 2112 = .ok (.aload_n 3, 1) := by decide +kernel
theorem dL_law_2113 : decode cL_law 2113 = .ok (.iconst 0, 1) := by decide +kernel
theorem dL_law_2114 : decode cL_law 2114 = .ok (.laload, 1) := by decide +kernel
theorem dL_law_2115 : decode cL_law 2115 = .ok (.lload 6, 2) := by decide +kernel
theorem dL_law_2117 : decode cL_law 2117 = .ok (.lcmp, 1) := by decide +kernel
theorem dL_law_2118 : decode cL_law 2118 = .ok (.ifCond .eq 5, 3) := by decide +kernel
theorem dL_law_2121 : decode cL_law 2121 = .ok (.iconst 0, 1) := by decide +kernel
theorem dL_law_2122 : decode cL_law 2122 = .ok (.ireturn, 1) := by decide +kernel
theorem dL_law_2123 : decode cL_law 2123 = .ok (.goto 253, 3) := by decide +kernel
theorem dL_law_2126 : decode cL_law 2126 = .ok (.aload_n 1, 1) := by decide +kernel
theorem dL_law_2127 : decode cL_law 2127 = .ok (.aload_n 0, 1) := by decide +kernel
theorem dL_law_2128 : decode cL_law 2128 = .ok (.iload 4, 2) := by decide +kernel
theorem dL_law_2130 : decode cL_law 2130 = .ok (.iconst 1, 1) := by decide +kernel
theorem dL_law_2131 : decode cL_law 2131 = .ok (.iadd, 1) := by decide +kernel
theorem dL_law_2132 : decode cL_law 2132 = .ok (.iaload, 1) := by decide +kernel
theorem dL_law_2133 : decode cL_law 2133 = .ok (.aload_n 3, 1) := by decide +kernel
theorem dL_law_2134 : decode cL_law 2134 = .ok (.invokestatic 228, 3) := by decide +kernel
theorem dL_law_2137 : decode cL_law 2137 = .ok (.istore 5, 2) := by decide +kernel
theorem dL_law_2139 : decode cL_law 2139 = .ok (.aload_n 2, 1) := by decide +kernel
theorem dL_law_2140 : decode cL_law 2140 = .ok (.aload_n 0, 1) := by decide +kernel
theorem dL_law_2141 : decode cL_law 2141 = .ok (.iload 4, 2) := by decide +kernel
theorem dL_law_2143 : decode cL_law 2143 = .ok (.iconst 1, 1) := by decide +kernel
theorem dL_law_2144 : decode cL_law 2144 = .ok (.iadd, 1) := by decide +kernel
theorem dL_law_2145 : decode cL_law 2145 = .ok (.iaload, 1) := by decide +kernel
theorem dL_law_2146 : decode cL_law 2146 = .ok (.invokevirtual 230, 3) := by decide +kernel
theorem dL_law_2149 : decode cL_law 2149 = .ok (.istore 6, 2) := by decide +kernel
theorem dL_law_2151 : decode cL_law 2151 = .ok (.aload_n 2, 1) := by decide +kernel
theorem dL_law_2152 : decode cL_law 2152 = .ok (.invokevirtual 140, 3) := by decide +kernel
theorem dL_law_2155 : decode cL_law 2155 = .ok (.iload 5, 2) := by decide +kernel
theorem dL_law_2157 : decode cL_law 2157 = .ok (.if_icmp .eq 5, 3) := by decide +kernel
theorem dL_law_2160 : decode cL_law 2160 = .ok (.iconst 0, 1) := by decide +kernel
theorem dL_law_2161 : decode cL_law 2161 = .ok (.ireturn, 1) := by decide +kernel
theorem dL_law_2162 : decode cL_law 2162 = .ok (.iload 5, 2) := by decide +kernel
theorem dL_law_2164 : decode cL_law 2164 = .ok (.ifCond .ne 15, 3) := by decide +kernel
theorem dL_law_2167 : decode cL_law 2167 = .ok (.aload_n 3, 1) := by decide +kernel
theorem dL_law_2168 : decode cL_law 2168 = .ok (.iconst 0, 1) := by decide +kernel
theorem dL_law_2169 : decode cL_law 2169 = .ok (.laload, 1) := by decide +kernel
theorem dL_law_2170 : decode cL_law 2170 = .ok (.iload 6, 2) := by decide +kernel
theorem dL_law_2172 : decode cL_law 2172 = .ok (.i2l, 1) := by decide +kernel
theorem dL_law_2173 : decode cL_law 2173 = .ok (.lcmp, 1) := by decide +kernel
theorem dL_law_2174 : decode cL_law 2174 = .ok (.ifCond .eq 5, 3) := by decide +kernel
theorem dL_law_2177 : decode cL_law 2177 = .ok (.iconst 0, 1) := by decide +kernel
theorem dL_law_2178 : decode cL_law 2178 = .ok (.ireturn, 1) := by decide +kernel
theorem dL_law_2179 : decode cL_law 2179 = .ok (.goto 197, 3) := by decide +kernel
theorem dL_law_2182 : decode cL_law 2182 = .ok (.aload_n 1, 1) := by decide +kernel
theorem dL_law_2183 : decode cL_law 2183 = .ok (.invokevirtual 231, 3) := by decide +kernel
theorem dL_law_2186 : decode cL_law 2186 = .ok (.aload_n 2, 1) := by decide +kernel
theorem dL_law_2187 : decode cL_law 2187 = .ok (.invokevirtual 234, 3) := by decide +kernel
theorem dL_law_2190 : decode cL_law 2190 = .ok (.if_icmp .eq 186, 3) := by decide +kernel
theorem dL_law_2193 : decode cL_law 2193 = .ok (.iconst 0, 1) := by decide +kernel
theorem dL_law_2194 : decode cL_law 2194 = .ok (.ireturn, 1) := by decide +kernel
theorem dL_law_2195 : decode cL_law 2195 = .ok (.aload_n 1, 1) := by decide +kernel
theorem dL_law_2196 : decode cL_law 2196 = .ok (.aload_n 0, 1) := by decide +kernel
theorem dL_law_2197 : decode cL_law 2197 = .ok (.iload 4, 2) := by decide +kernel
theorem dL_law_2199 : decode cL_law 2199 = .ok (.iconst 1, 1) := by decide +kernel
theorem dL_law_2200 : decode cL_law 2200 = .ok (.iadd, 1) := by decide +kernel
theorem dL_law_2201 : decode cL_law 2201 = .ok (.iaload, 1) := by decide +kernel
theorem dL_law_2202 : decode cL_law 2202 = .ok (.aload_n 0, 1) := by decide +kernel
theorem dL_law_2203 : decode cL_law 2203 = .ok (.iload 4, 2) := by decide +kernel
theorem dL_law_2205 : decode cL_law 2205 = .ok (.iconst 2, 1) := by decide +kernel
theorem dL_law_2206 : decode cL_law 2206 = .ok (.iadd, 1) := by decide +kernel
theorem dL_law_2207 : decode cL_law 2207 = .ok (.iaload, 1) := by decide +kernel
theorem dL_law_2208 : decode cL_law 2208 = .ok (.aload_n 3, 1) := by decide +kernel
theorem dL_law_2209 : decode cL_law 2209 = .ok (.invokestatic 235, 3) := by decide +kernel
theorem dL_law_2212 : decode cL_law 2212 = .ok (.istore 5, 2) := by decide +kernel
theorem dL_law_2214 : decode cL_law 2214 = .ok (.aload_n 2, 1) := by decide +kernel
theorem dL_law_2215 : decode cL_law 2215 = .ok (.aload_n 0, 1) := by decide +kernel
theorem dL_law_2216 : decode cL_law 2216 = .ok (.iload 4, 2) := by decide +kernel
theorem dL_law_2218 : decode cL_law 2218 = .ok (.iconst 1, 1) := by decide +kernel
theorem dL_law_2219 : decode cL_law 2219 = .ok (.iadd, 1) := by decide +kernel
theorem dL_law_2220 : decode cL_law 2220 = .ok (.iaload, 1) := by decide +kernel
theorem dL_law_2221 : decode cL_law 2221 = .ok (.aload_n 0, 1) := by decide +kernel
theorem dL_law_2222 : decode cL_law 2222 = .ok (.iload 4, 2) := by decide +kernel
theorem dL_law_2224 : decode cL_law 2224 = .ok (.iconst 2, 1) := by decide +kernel
theorem dL_law_2225 : decode cL_law 2225 = .ok (.iadd, 1) := by decide +kernel
theorem dL_law_2226 : decode cL_law 2226 = .ok (.iaload, 1) := by decide +kernel
theorem dL_law_2227 : decode cL_law 2227 = .ok (.invokevirtual 237, 3) := by decide +kernel
theorem dL_law_2230 : decode cL_law 2230 = .ok (.istore 6, 2) := by decide +kernel
theorem dL_law_2232 : decode cL_law 2232 = .ok (.aload_n 2, 1) := by decide +kernel
theorem dL_law_2233 : decode cL_law 2233 = .ok (.invokevirtual 140, 3) := by decide +kernel
theorem dL_law_2236 : decode cL_law 2236 = .ok (.iload 5, 2) := by decide +kernel
theorem dL_law_2238 : decode cL_law 2238 = .ok (.if_icmp .eq 5, 3) := by decide +kernel
theorem dL_law_2241 : decode cL_law 2241 = .ok (.iconst 0, 1) := by decide +kernel
theorem dL_law_2242 : decode cL_law 2242 = .ok (.ireturn, 1) := by decide +kernel
theorem dL_law_2243 : decode cL_law 2243 = .ok (.iload 5, 2) := by decide +kernel
theorem dL_law_2245 : decode cL_law 2245 = .ok (.ifCond .ne 15, 3) := by decide +kernel
theorem dL_law_2248 : decode cL_law 2248 = .ok (.aload_n 3, 1) := by decide +kernel
theorem dL_law_2249 : decode cL_law 2249 = .ok (.iconst 0, 1) := by decide +kernel
theorem dL_law_2250 : decode cL_law 2250 = .ok (.laload, 1) := by decide +kernel
theorem dL_law_2251 : decode cL_law 2251 = .ok (.iload 6, 2) := by decide +kernel
theorem dL_law_2253 : decode cL_law 2253 = .ok (.i2l, 1) := by decide +kernel
theorem dL_law_2254 : decode cL_law 2254 = .ok (.lcmp, 1) := by decide +kernel
theorem dL_law_2255 : decode cL_law 2255 = .ok (.ifCond .eq 5, 3) := by decide +kernel
theorem dL_law_2258 : decode cL_law 2258 = .ok (.iconst 0, 1) := by decide +kernel
theorem dL_law_2259 : decode cL_law 2259 = .ok (.ireturn, 1) := by decide +kernel
theorem dL_law_2260 : decode cL_law 2260 = .ok (.goto 116, 3) := by decide +kernel
theorem dL_law_2263 : decode cL_law 2263 = .ok (.aload_n 1, 1) := by decide +kernel
theorem dL_law_2264 : decode cL_law 2264 = .ok (.aload_n 0, 1) := by decide +kernel
theorem dL_law_2265 : decode cL_law 2265 = .ok (.iload 4, 2) := by decide +kernel
theorem dL_law_2267 : decode cL_law 2267 = .ok (.iconst 1, 1) := by decide +kernel
theorem dL_law_2268 : decode cL_law 2268 = .ok (.iadd, 1) := by decide +kernel
theorem dL_law_2269 : decode cL_law 2269 = .ok (.iaload, 1) := by decide +kernel
theorem dL_law_2270 : decode cL_law 2270 = .ok (.aload_n 3, 1) := by decide +kernel
theorem dL_law_2271 : decode cL_law 2271 = .ok (.invokestatic 238, 3) := by decide +kernel
theorem dL_law_2274 : decode cL_law 2274 = .ok (.istore 5, 2) := by decide +kernel
theorem dL_law_2276 : decode cL_law 2276 = .ok (.aload_n 2, 1) := by decide +kernel
theorem dL_law_2277 : decode cL_law 2277 = .ok (.aload_n 0, 1) := by decide +kernel
theorem dL_law_2278 : decode cL_law 2278 = .ok (.iload 4, 2) := by decide +kernel
theorem dL_law_2280 : decode cL_law 2280 = .ok (.iconst 1, 1) := by decide +kernel
theorem dL_law_2281 : decode cL_law 2281 = .ok (.iadd, 1) := by decide +kernel
theorem dL_law_2282 : decode cL_law 2282 = .ok (.iaload, 1) := by decide +kernel
theorem dL_law_2283 : decode cL_law 2283 = .ok (.invokevirtual 240, 3) := by decide +kernel
theorem dL_law_2286 : decode cL_law 2286 = .ok (.istore 6, 2) := by decide +kernel
theorem dL_law_2288 : decode cL_law 2288 = .ok (.aload_n 2, 1) := by decide +kernel
theorem dL_law_2289 : decode cL_law 2289 = .ok (.invokevirtual 140, 3) := by decide +kernel
theorem dL_law_2292 : decode cL_law 2292 = .ok (.iload 5, 2) := by decide +kernel
theorem dL_law_2294 : decode cL_law 2294 = .ok (.if_icmp .eq 5, 3) := by decide +kernel
theorem dL_law_2297 : decode cL_law 2297 = .ok (.iconst 0, 1) := by decide +kernel
theorem dL_law_2298 : decode cL_law 2298 = .ok (.ireturn, 1) := by decide +kernel
theorem dL_law_2299 : decode cL_law 2299 = .ok (.iload 5, 2) := by decide +kernel
theorem dL_law_2301 : decode cL_law 2301 = .ok (.ifCond .ne 15, 3) := by decide +kernel
theorem dL_law_2304 : decode cL_law 2304 = .ok (.aload_n 3, 1) := by decide +kernel
theorem dL_law_2305 : decode cL_law 2305 = .ok (.iconst 0, 1) := by decide +kernel
theorem dL_law_2306 : decode cL_law 2306 = .ok (.laload, 1) := by decide +kernel
theorem dL_law_2307 : decode cL_law 2307 = .ok (.iload 6, 2) := by decide +kernel
theorem dL_law_2309 : decode cL_law 2309 = .ok (.i2l, 1) := by decide +kernel
theorem dL_law_2310 : decode cL_law 2310 = .ok (.lcmp, 1) := by decide +kernel
theorem dL_law_2311 : decode cL_law 2311 = .ok (.ifCond .eq 5, 3) := by decide +kernel
theorem dL_law_2314 : decode cL_law 2314 = .ok (.iconst 0, 1) := by decide +kernel
theorem dL_law_2315 : decode cL_law 2315 = .ok (.ireturn, 1) := by decide +kernel
theorem dL_law_2316 : decode cL_law 2316 = .ok (.goto 60, 3) := by decide +kernel
theorem dL_law_2319 : decode cL_law 2319 = .ok (.aload_n 1, 1) := by decide +kernel
theorem dL_law_2320 : decode cL_law 2320 = .ok (.invokevirtual 241, 3) := by decide +kernel
theorem dL_law_2323 : decode cL_law 2323 = .ok (.aload_n 2, 1) := by decide +kernel
theorem dL_law_2324 : decode cL_law 2324 = .ok (.invokevirtual 244, 3) := by decide +kernel
theorem dL_law_2327 : decode cL_law 2327 = .ok (.if_icmp .eq 49, 3) := by decide +kernel
theorem dL_law_2330 : decode cL_law 2330 = .ok (.iconst 0, 1) := by decide +kernel
theorem dL_law_2331 : decode cL_law 2331 = .ok (.ireturn, 1) := by decide +kernel
theorem dL_law_2332 : decode cL_law 2332 = .ok (.aload_n 1, 1) := by decide +kernel
theorem dL_law_2333 : decode cL_law 2333 = .ok (.aload_n 3, 1) := by decide +kernel
theorem dL_law_2334 : decode cL_law 2334 = .ok (.invokestatic 245, 3) := by decide +kernel
theorem dL_law_2337 : decode cL_law 2337 = .ok (.istore 5, 2) := by decide +kernel
theorem dL_law_2339 : decode cL_law 2339 = .ok (.aload_n 2, 1) := by decide +kernel
theorem dL_law_2340 : decode cL_law 2340 = .ok (.invokevirtual 248, 3) := by decide +kernel
theorem dL_law_2343 : decode cL_law 2343 = .ok (.istore 6, 2) := by decide +kernel
theorem dL_law_2345 : decode cL_law 2345 = .ok (.aload_n 2, 1) := by decide +kernel
theorem dL_law_2346 : decode cL_law 2346 = .ok (.invokevirtual 140, 3) := by decide +kernel
theorem dL_law_2349 : decode cL_law 2349 = .ok (.iload 5, 2) := by decide +kernel
theorem dL_law_2351 : decode cL_law 2351 = .ok (.if_icmp .eq 5, 3) := by decide +kernel
theorem dL_law_2354 : decode cL_law 2354 = .ok (.iconst 0, 1) := by decide +kernel
theorem dL_law_2355 : decode cL_law 2355 = .ok (.ireturn, 1) := by decide +kernel
theorem dL_law_2356 : decode cL_law 2356 = .ok (.iload 5, 2) := by decide +kernel
theorem dL_law_2358 : decode cL_law 2358 = .ok (.ifCond .ne 15, 3) := by decide +kernel
theorem dL_law_2361 : decode cL_law 2361 = .ok (.aload_n 3, 1) := by decide +kernel
theorem dL_law_2362 : decode cL_law 2362 = .ok (.iconst 0, 1) := by decide +kernel
theorem dL_law_2363 : decode cL_law 2363 = .ok (.laload, 1) := by decide +kernel
theorem dL_law_2364 : decode cL_law 2364 = .ok (.iload 6, 2) := by decide +kernel
theorem dL_law_2366 : decode cL_law 2366 = .ok (.i2l, 1) := by decide +kernel
theorem dL_law_2367 : decode cL_law 2367 = .ok (.lcmp, 1) := by decide +kernel
theorem dL_law_2368 : decode cL_law 2368 = .ok (.ifCond .eq 5, 3) := by decide +kernel
theorem dL_law_2371 : decode cL_law 2371 = .ok (.iconst 0, 1) := by decide +kernel
theorem dL_law_2372 : decode cL_law 2372 = .ok (.ireturn, 1) := by decide +kernel
theorem dL_law_2373 : decode cL_law 2373 = .ok (.goto 3, 3) := by decide +kernel
theorem dL_law_2376 : decode cL_law 2376 = .ok (.iinc 4 4, 3) := by decide +kernel
theorem dL_law_2379 : decode cL_law 2379 = .ok (.goto (-2356), 3) := by decide +kernel
theorem dL_law_2382 : decode cL_law 2382 = .ok (.iconst 1, 1) := by decide +kernel
theorem dL_law_2383 : decode cL_law 2383 = .ok (.ireturn, 1) := by decide +kernel