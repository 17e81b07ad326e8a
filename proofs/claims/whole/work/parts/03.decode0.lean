theorem dX0_ofFloat_0 : decode cX0_ofFloat 0 = .ok (.fload_n 0, 1) := by decide +kernel
theorem dX0_ofFloat_1 : decode cX0_ofFloat 1 = .ok (.fconst 0, 1) := by decide +kernel
theorem dX0_ofFloat_2 : decode cX0_ofFloat 2 = .ok (.fcmp .l, 1) := by decide +kernel
theorem dX0_ofFloat_3 : decode cX0_ofFloat 3 = .ok (.ifCond .le 19, 3) := by decide +kernel
theorem dX0_ofFloat_6 : decode cX0_ofFloat 6 = .ok (.fload_n 0, 1) := by decide +kernel
theorem dX0_ofFloat_7 : decode cX0_ofFloat 7 = .ok (.f2d, 1) := by decide +kernel
theorem dX0_ofFloat_8 : decode cX0_ofFloat 8 = .ok (.invokestatic 7, 3) := by decide +kernel
theorem dX0_ofFloat_11 : decode cX0_ofFloat 11 = .ok (.bipush 29, 2) := by decide +kernel
theorem dX0_ofFloat_13 : decode cX0_ofFloat 13 = .ok (.lshr, 1) := by decide +kernel
theorem dX0_ofFloat_14 : decode cX0_ofFloat 14 = .ok (.ldc2_w 13, 3) := by decide +kernel
theorem dX0_ofFloat_17 : decode cX0_ofFloat 17 = .ok (.lsub, 1) := by decide +kernel
theorem dX0_ofFloat_18 : decode cX0_ofFloat 18 = .ok (.l2i, 1) := by decide +kernel
theorem dX0_ofFloat_19 : decode cX0_ofFloat 19 = .ok (.goto 4, 3) := by decide +kernel
theorem dX0_ofFloat_22 : decode cX0_ofFloat 22 = .ok (.iconst 0, 1) := by decide +kernel
theorem dX0_ofFloat_23 : decode cX0_ofFloat 23 = .ok (.ireturn, 1) := by decide +kernel
theorem dX0_ofDouble_0 : decode cX0_ofDouble 0 = .ok (.dload_n 0, 1) := by decide +kernel
theorem dX0_ofDouble_1 : decode cX0_ofDouble 1 = .ok (.dconst 0, 1) := by decide +kernel
theorem dX0_ofDouble_2 : decode cX0_ofDouble 2 = .ok (.dcmp .l, 1) := by decide +kernel
theorem dX0_ofDouble_3 : decode cX0_ofDouble 3 = .ok (.ifCond .gt 5, 3) := by decide +kernel
theorem dX0_ofDouble_6 : decode cX0_ofDouble 6 = .ok (.lconst 0, 1) := by decide +kernel
theorem dX0_ofDouble_7 : decode cX0_ofDouble 7 = .ok (.lreturn, 1) := by decide +kernel
theorem dX0_ofDouble_8 : decode cX0_ofDouble 8 = .ok (.dload_n 0, 1) := by decide +kernel
theorem dX0_ofDouble_9 : decode cX0_ofDouble 9 = .ok (.dstore_n 2, 1) := by decide +kernel
theorem dX0_ofDouble_10 : decode cX0_ofDouble 10 = .ok (.iconst 0, 1) := by decide +kernel
theorem dX0_ofDouble_11 : decode cX0_ofDouble 11 = .ok (.istore 4, 2) := by decide +kernel
theorem dX0_ofDouble_13 : decode cX0_ofDouble 13 = .ok (.iconst 0, 1) := by decide +kernel
theorem dX0_ofDouble_14 : decode cX0_ofDouble 14 = .ok (.istore 5, 2) := by decide +kernel
theorem dX0_ofDouble_16 : decode cX0_ofDouble 16 = .ok (.iload 5, 2) := by decide +kernel
theorem dX0_ofDouble_18 : decode cX0_ofDouble 18 = .ok (.bipush 100, 2) := by decide +kernel
theorem dX0_ofDouble_20 : decode cX0_ofDouble 20 = .ok (.if_icmp .ge 26, 3) := by decide +kernel
theorem dX0_ofDouble_23 : decode cX0_ofDouble 23 = .ok (.dload_n 2, 1) := by decide +kernel
theorem dX0_ofDouble_24 : decode cX0_ofDouble 24 = .ok (.ldc2_w 15, 3) := by decide +kernel
theorem dX0_ofDouble_27 : decode cX0_ofDouble 27 = .ok (.dcmp .l, 1) := by decide +kernel
theorem dX0_ofDouble_28 : decode cX0_ofDouble 28 = .ok (.ifCond .lt 18, 3) := by decide +kernel
theorem dX0_ofDouble_31 : decode cX0_ofDouble 31 = .ok (.dload_n 2, 1) := by decide +kernel
theorem dX0_ofDouble_32 : decode cX0_ofDouble 32 = .ok (.ldc2_w 15, 3) := by decide +kernel
theorem dX0_ofDouble_35 : decode cX0_ofDouble 35 = .ok (.ddiv, 1) := by decide +kernel
theorem dX0_ofDouble_36 : decode cX0_ofDouble 36 = .ok (.dstore_n 2, 1) := by decide +kernel
theorem dX0_ofDouble_37 : decode cX0_ofDouble 37 = .ok (.iinc 4 1, 3) := by decide +kernel
theorem dX0_ofDouble_40 : decode cX0_ofDouble 40 = .ok (.iinc 5 1, 3) := by decide +kernel
theorem dX0_ofDouble_43 : decode cX0_ofDouble 43 = .ok (.goto (-27), 3) := by decide +kernel
theorem dX0_ofDouble_46 : decode cX0_ofDouble 46 = .ok (.iconst 0, 1) := by decide +kernel
theorem dX0_ofDouble_47 : decode cX0_ofDouble 47 = .ok (.istore 5, 2) := by decide +kernel
theorem dX0_ofDouble_49 : decode cX0_ofDouble 49 = .ok (.iload 5, 2) := by decide +kernel
theorem dX0_ofDouble_51 : decode cX0_ofDouble 51 = .ok (.bipush 100, 2) := by decide +kernel
theorem dX0_ofDouble_53 : decode cX0_ofDouble 53 = .ok (.if_icmp .ge 24, 3) := by decide +kernel
theorem dX0_ofDouble_56 : decode cX0_ofDouble 56 = .ok (.dload_n 2, 1) := by decide +kernel
theorem dX0_ofDouble_57 : decode cX0_ofDouble 57 = .ok (.dconst 1, 1) := by decide +kernel
theorem dX0_ofDouble_58 : decode cX0_ofDouble 58 = .ok (.dcmp .g, 1) := by decide +kernel
theorem dX0_ofDouble_59 : decode cX0_ofDouble 59 = .ok (.ifCond .ge 18, 3) := by decide +kernel
theorem dX0_ofDouble_62 : decode cX0_ofDouble 62 = .ok (.dload_n 2, 1) := by decide +kernel
theorem dX0_ofDouble_63 : decode cX0_ofDouble 63 = .ok (.ldc2_w 15, 3) := by decide +kernel
theorem dX0_ofDouble_66 : decode cX0_ofDouble 66 = .ok (.dmul, 1) := by decide +kernel
theorem dX0_ofDouble_67 : decode cX0_ofDouble 67 = .ok (.dstore_n 2, 1) := by decide +kernel
theorem dX0_ofDouble_68 : decode cX0_ofDouble 68 = .ok (.iinc 4 (-1), 3) := by decide +kernel
theorem dX0_ofDouble_71 : decode cX0_ofDouble 71 = .ok (.iinc 5 1, 3) := by decide +kernel
theorem dX0_ofDouble_74 : decode cX0_ofDouble 74 = .ok (.goto (-25), 3) := by decide +kernel
theorem dX0_ofDouble_77 : decode cX0_ofDouble 77 = .ok (.iload 4, 2) := by decide +kernel
theorem dX0_ofDouble_79 : decode cX0_ofDouble 79 = .ok (.sipush 1023, 3) := by decide +kernel
theorem dX0_ofDouble_82 : decode cX0_ofDouble 82 = .ok (.iadd, 1) := by decide +kernel
theorem dX0_ofDouble_83 : decode cX0_ofDouble 83 = .ok (.i2l, 1) := by decide +kernel
theorem dX0_ofDouble_84 : decode cX0_ofDouble 84 = .ok (.bipush 52, 2) := by decide +kernel
theorem dX0_ofDouble_86 : decode cX0_ofDouble 86 = .ok (.lshl, 1) := by decide +kernel
theorem dX0_ofDouble_87 : decode cX0_ofDouble 87 = .ok (.dload_n 2, 1) := by decide +kernel
theorem dX0_ofDouble_88 : decode cX0_ofDouble 88 = .ok (.dconst 1, 1) := by decide +kernel
theorem dX0_ofDouble_89 : decode cX0_ofDouble 89 = .ok (.dsub, 1) := by decide +kernel
theorem dX0_ofDouble_90 : decode cX0_ofDouble 90 = .ok (.ldc2_w 17, 3) := by decide +kernel
theorem dX0_ofDouble_93 : decode cX0_ofDouble 93 = .ok (.dmul, 1) := by decide +kernel
theorem dX0_ofDouble_94 : decode cX0_ofDouble 94 = .ok (.d2l, 1) := by decide +kernel
theorem dX0_ofDouble_95 : decode cX0_ofDouble 95 = .ok (.lor, 1) := by decide +kernel
theorem dX0_ofDouble_96 : decode cX0_ofDouble 96 = .ok (.lreturn, 1) := by decide +kernel
theorem dX1_init_0 : decode cX1_init 0 = .ok (.aload_n 0, 1) := by decide +kernel
theorem dX1_init_1 : decode cX1_init 1 = .ok (.invokespecial 3, 3) := by decide +kernel
theorem dX1_init_4 : decode cX1_init 4 = .ok (.aload_n 0, 1) := by decide +kernel
theorem dX1_init_5 : decode cX1_init 5 = .ok (.new 9, 3) := by decide +kernel
theorem dX1_init_8 : decode cX1_init 8 = .ok (.dup, 1) := by decide +kernel
theorem dX1_init_9 : decode cX1_init 9 = .ok (.bipush 16, 2) := by decide +kernel
theorem dX1_init_11 : decode cX1_init 11 = .ok (.invokespecial 11, 3) := by decide +kernel
theorem dX1_init_14 : decode cX1_init 14 = .ok (.putfield 14, 3) := by decide +kernel
theorem dX1_init_17 : decode cX1_init 17 = .ok (.aload_n 0, 1) := by decide +kernel
theorem dX1_init_18 : decode cX1_init 18 = .ok (.new 9, 3) := by decide +kernel
theorem dX1_init_21 : decode cX1_init 21 = .ok (.dup, 1) := by decide +kernel
theorem dX1_init_22 : decode cX1_init 22 = .ok (.bipush 16, 2) := by decide +kernel
theorem dX1_init_24 : decode cX1_init 24 = .ok (.invokespecial 11, 3) := by decide +kernel
theorem dX1_init_27 : decode cX1_init 27 = .ok (.putfield 20, 3) := by decide +kernel
theorem dX1_init_30 : decode cX1_init 30 = .ok (.aload_n 0, 1) := by decide +kernel
theorem dX1_init_31 : decode cX1_init 31 = .ok (.new 9, 3) := by decide +kernel
theorem dX1_init_34 : decode cX1_init 34 = .ok (.dup, 1) := by decide +kernel
theorem dX1_init_35 : decode cX1_init 35 = .ok (.bipush 16, 2) := by decide +kernel
theorem dX1_init_37 : decode cX1_init 37 = .ok (.invokespecial 11, 3) := by decide +kernel
theorem dX1_init_40 : decode cX1_init 40 = .ok (.putfield 23, 3) := by decide +kernel
theorem dX1_init_43 : decode cX1_init 43 = .ok (.aload_n 0, 1) := by decide +kernel
theorem dX1_init_44 : decode cX1_init 44 = .ok (.iconst 3, 1) := by decide +kernel
theorem dX1_init_45 : decode cX1_init 45 = .ok (.newarray .int, 2) := by decide +kernel
theorem dX1_init_47 : decode cX1_init 47 = .ok (.dup, 1) := by decide +kernel
theorem dX1_init_48 : decode cX1_init 48 = .ok (.iconst 0, 1) := by decide +kernel
theorem dX1_init_49 : decode cX1_init 49 = .ok (.iconst (-1), 1) := by decide +kernel
theorem dX1_init_50 : decode cX1_init 50 = .ok (.iastore, 1) := by decide +kernel
theorem dX1_init_51 : decode cX1_init 51 = .ok (.dup, 1) := by decide +kernel
theorem dX1_init_52 : decode cX1_init 52 = .ok (.iconst 1, 1) := by decide +kernel
theorem dX1_init_53 : decode cX1_init 53 = .ok (.iconst (-1), 1) := by decide +kernel
theorem dX1_init_54 : decode cX1_init 54 = .ok (.iastore, 1) := by decide +kernel
theorem dX1_init_55 : decode cX1_init 55 = .ok (.dup, 1) := by decide +kernel
theorem dX1_init_56 : decode cX1_init 56 = .ok (.iconst 2, 1) := by decide +kernel
theorem dX1_init_57 : decode cX1_init 57 = .ok (.iconst (-1), 1) := by decide +kernel
theorem dX1_init_58 : decode cX1_init 58 = .ok (.iastore, 1) := by decide +kernel
theorem dX1_init_59 : decode cX1_init 59 = .ok (.putfield 26, 3) := by decide +kernel
theorem dX1_init_62 : decode cX1_init 62 = .ok (.aload_n 0, 1) := by decide +kernel
theorem dX1_init_63 : decode cX1_init 63 = .ok (.new 9, 3) := by decide +kernel
theorem dX1_init_66 : decode cX1_init 66 = .ok (.dup, 1) := by decide +kernel
theorem dX1_init_67 : decode cX1_init 67 = .ok (.bipush 16, 2) := by decide +kernel
theorem dX1_init_69 : decode cX1_init 69 = .ok (.invokespecial 11, 3) := by decide +kernel
theorem dX1_init_72 : decode cX1_init 72 = .ok (.putfield 30, 3) := by decide +kernel
theorem dX1_init_75 : decode cX1_init 75 = .ok (.aload_n 0, 1) := by decide +kernel
theorem dX1_init_76 : decode cX1_init 76 = .ok (.new 9, 3) := by decide +kernel
theorem dX1_init_79 : decode cX1_init 79 = .ok (.dup, 1) := by decide +kernel
theorem dX1_init_80 : decode cX1_init 80 = .ok (.bipush 16, 2) := by decide +kernel
theorem dX1_init_82 : decode cX1_init 82 = .ok (.invokespecial 11, 3) := by decide +kernel
theorem dX1_init_85 : decode cX1_init 85 = .ok (.putfield 33, 3) := by decide +kernel
theorem dX1_init_88 : decode cX1_init 88 = .ok (.aload_n 0, 1) := by decide +kernel
theorem dX1_init_89 : decode cX1_init 89 = .ok (.new 9, 3) := by decide +kernel
theorem dX1_init_92 : decode cX1_init 92 = .ok (.dup, 1) := by decide +kernel
theorem dX1_init_93 : decode cX1_init 93 = .ok (.bipush 16, 2) := by decide +kernel
theorem dX1_init_95 : decode cX1_init 95 = .ok (.invokespecial 11, 3) := by decide +kernel
theorem dX1_init_98 : decode cX1_init 98 = .ok (.putfield 36, 3) := by decide +kernel
theorem dX1_init_101 : decode cX1_init 101 = .ok (.aload_n 0, 1) := by decide +kernel
theorem dX1_init_102 : decode cX1_init 102 = .ok (.new 9, 3) := by decide +kernel
theorem dX1_init_105 : decode cX1_init 105 = .ok (.dup, 1) := by decide +kernel
theorem dX1_init_106 : decode cX1_init 106 = .ok (.bipush 16, 2) := by decide +kernel
theorem dX1_init_108 : decode cX1_init 108 = .ok (.invokespecial 11, 3) := by decide +kernel
theorem dX1_init_111 : decode cX1_init 111 = .ok (.putfield 39, 3) := by decide +kernel
theorem dX1_init_114 : decode cX1_init 114 = .ok (.aload_n 0, 1) := by decide +kernel
theorem dX1_init_115 : decode cX1_init 115 = .ok (.iconst 4, 1) := by decide +kernel
theorem dX1_init_116 : decode cX1_init 116 = .ok (.bipush 16, 2) := by decide +kernel
theorem dX1_init_118 : decode cX1_init 118 = .ok (.multianewarray 42 2, 4) := by decide +kernel
theorem dX1_init_122 : decode cX1_init 122 = .ok (.putfield 44, 3) := by decide +kernel
theorem dX1_init_125 : decode cX1_init 125 = .ok (.aload_n 0, 1) := by decide +kernel
theorem dX1_init_126 : decode cX1_init 126 = .ok (.iconst 0, 1) := by decide +kernel
theorem dX1_init_127 : decode cX1_init 127 = .ok (.putfield 47, 3) := by decide +kernel
theorem dX1_init_130 : decode cX1_init 130 = .ok (.aload_n 0, 1) := by decide +kernel
theorem dX1_init_131 : decode cX1_init 131 = .ok (.iconst 0, 1) := by decide +kernel
theorem dX1_init_132 : decode cX1_init 132 = .ok (.putfield 51, 3) := by decide +kernel
theorem dX1_init_135 : decode cX1_init 135 = .ok (.aload_n 0, 1) := by decide +kernel
theorem dX1_init_136 : decode cX1_init 136 = .ok (.bipush 16, 2) := by decide +kernel
theorem dX1_init_138 : decode cX1_init 138 = .ok (.bipush 16, 2) := by decide +kernel
theorem dX1_init_140 : decode cX1_init 140 = .ok (.multianewarray 42 2, 4) := by decide +kernel
theorem dX1_init_144 : decode cX1_init 144 = .ok (.putfield 54, 3) := by decide +kernel
theorem dX1_init_147 : decode cX1_init 147 = .ok (.aload_n 0, 1) := by decide +kernel
theorem dX1_init_148 : decode cX1_init 148 = .ok (.iconst 0, 1) := by decide +kernel
theorem dX1_init_149 : decode cX1_init 149 = .ok (.putfield 57, 3) := by decide +kernel
theorem dX1_init_152 : decode cX1_init 152 = .ok (.aload_n 0, 1) := by decide +kernel
theorem dX1_init_153 : decode cX1_init 153 = .ok (.bipush 16, 2) := by decide +kernel
theorem dX1_init_155 : decode cX1_init 155 = .ok (.newarray .int, 2) := by decide +kernel
theorem dX1_init_157 : decode cX1_init 157 = .ok (.putfield 60, 3) := by decide +kernel
theorem dX1_init_160 : decode cX1_init 160 = .ok (.return_, 1) := by decide +kernel
theorem dX1_ofSide_0 : decode cX1_ofSide 0 = .ok (.iload_n 2, 1) := by decide +kernel
theorem dX1_ofSide_1 : decode cX1_ofSide 1 = .ok (.ifCond .ne 10, 3) := by decide +kernel
theorem dX1_ofSide_4 : decode cX1_ofSide 4 = .ok (.aload_n 0, 1) := by decide +kernel
theorem dX1_ofSide_5 : decode cX1_ofSide 5 = .ok (.getfield 14, 3) := by decide +kernel
theorem dX1_ofSide_8 : decode cX1_ofSide 8 = .ok (.goto 19, 3) := by decide +kernel
theorem dX1_ofSide_11 : decode cX1_ofSide 11 = .ok (.iload_n 2, 1) := by decide +kernel
theorem dX1_ofSide_12 : decode cX1_ofSide 12 = .ok (.iconst 1, 1) := by decide +kernel
theorem dX1_ofSide_13 : decode cX1_ofSide 13 = .ok (.if_icmp .ne 10, 3) := by decide +kernel
theorem dX1_ofSide_16 : decode cX1_ofSide 16 = .ok (.aload_n 0, 1) := by decide +kernel
theorem dX1_ofSide_17 : decode cX1_ofSide 17 = .ok (.getfield 20, 3) := by decide +kernel
theorem dX1_ofSide_20 : decode cX1_ofSide 20 = .ok (.goto 7, 3) := by decide +kernel
theorem dX1_ofSide_23 : decode cX1_ofSide 23 = .ok (.aload_n 0, 1) := by decide +kernel
theorem dX1_ofSide_24 : decode cX1_ofSide 24 = .ok (.getfield 23, 3) := by decide +kernel
theorem dX1_ofSide_27 : decode cX1_ofSide 27 = .ok (.astore_n 3, 1) := by decide +kernel
theorem dX1_ofSide_28 : decode cX1_ofSide 28 = .ok (.iload_n 2, 1) := by decide +kernel
theorem dX1_ofSide_29 : decode cX1_ofSide 29 = .ok (.ifCond .lt 66, 3) := by decide +kernel
theorem dX1_ofSide_32 : decode cX1_ofSide 32 = .ok (.iload_n 2, 1) := by decide +kernel
theorem dX1_ofSide_33 : decode cX1_ofSide 33 = .ok (.aload_n 0, 1) := by decide +kernel
theorem dX1_ofSide_34 : decode cX1_ofSide 34 = .ok (.getfield 26, 3) := by decide +kernel
theorem dX1_ofSide_37 : decode cX1_ofSide 37 = .ok (.arraylength, 1) := by decide +kernel
theorem dX1_ofSide_38 : decode cX1_ofSide 38 = .ok (.if_icmp .ge 57, 3) := by decide +kernel
theorem dX1_ofSide_41 : decode cX1_ofSide 41 = .ok (.aload_n 0, 1) := by decide +kernel
theorem dX1_ofSide_42 : decode cX1_ofSide 42 = .ok (.getfield 26, 3) := by decide +kernel
theorem dX1_ofSide_45 : decode cX1_ofSide 45 = .ok (.iload_n 2, 1) := by decide +kernel
theorem dX1_ofSide_46 : decode cX1_ofSide 46 = .ok (.iaload, 1) := by decide +kernel
theorem dX1_ofSide_47 : decode cX1_ofSide 47 = .ok (.aload_n 1, 1) := by decide +kernel
theorem dX1_ofSide_48 : decode cX1_ofSide 48 = .ok (.getfield 63, 3) := by decide +kernel
theorem dX1_ofSide_51 : decode cX1_ofSide 51 = .ok (.if_icmp .eq 44, 3) := by decide +kernel
theorem dX1_ofSide_54 : decode cX1_ofSide 54 = .ok (.aload_n 3, 1) := by decide +kernel
theorem dX1_ofSide_55 : decode cX1_ofSide 55 = .ok (.aload_n 1, 1) := by decide +kernel
theorem dX1_ofSide_56 : decode cX1_ofSide 56 = .ok (.invokevirtual 68, 3) := by decide +kernel
theorem dX1_ofSide_59 : decode cX1_ofSide 59 = .ok (.aload_n 1, 1) := by decide +kernel
theorem dX1_ofSide_60 : decode cX1_ofSide 60 = .ok (.getfield 72, 3) := by decide +kernel
theorem dX1_ofSide_63 : decode cX1_ofSide 63 = .ok (.aload_n 1, 1) := by decide +kernel
theorem dX1_ofSide_64 : decode cX1_ofSide 64 = .ok (.getfield 75, 3) := by decide +kernel
theorem dX1_ofSide_67 : decode cX1_ofSide 67 = .ok (.invokevirtual 78, 3) := by decide +kernel
theorem dX1_ofSide_70 : decode cX1_ofSide 70 = .ok (.aload_n 0, 1) := by decide +kernel
theorem dX1_ofSide_71 : decode cX1_ofSide 71 = .ok (.aload_n 3, 1) := by decide +kernel
theorem dX1_ofSide_72 : decode cX1_ofSide 72 = .ok (.iload_n 2, 1) := by decide +kernel
theorem dX1_ofSide_73 : decode cX1_ofSide 73 = .ok (.aload_n 1, 1) := by decide +kernel
theorem dX1_ofSide_74 : decode cX1_ofSide 74 = .ok (.aload_n 1, 1) := by decide +kernel
theorem dX1_ofSide_75 : decode cX1_ofSide 75 = .ok (.getfield 82, 3) := by decide +kernel
theorem dX1_ofSide_78 : decode cX1_ofSide 78 = .ok (.aload_n 1, 1) := by decide +kernel
theorem dX1_ofSide_79 : decode cX1_ofSide 79 = .ok (.getfield 85, 3) := by decide +kernel
theorem dX1_ofSide_82 : decode cX1_ofSide 82 = .ok (.invokevirtual 88, 3) := by decide +kernel
theorem dX1_ofSide_85 : decode cX1_ofSide 85 = .ok (.aload_n 0, 1) := by decide +kernel
theorem dX1_ofSide_86 : decode cX1_ofSide 86 = .ok (.getfield 26, 3) := by decide +kernel
theorem dX1_ofSide_89 : decode cX1_ofSide 89 = .ok (.iload_n 2, 1) := by decide +kernel
theorem dX1_ofSide_90 : decode cX1_ofSide 90 = .ok (.aload_n 1, 1) := by decide +kernel
theorem dX1_ofSide_91 : decode cX1_ofSide 91 = .ok (.getfield 63, 3) := by decide +kernel
theorem dX1_ofSide_94 : decode cX1_ofSide 94 = .ok (.iastore, 1) := by decide +kernel
theorem dX1_ofSide_95 : decode cX1_ofSide 95 = .ok (.aload_n 3, 1) := by decide +kernel
theorem dX1_ofSide_96 : decode cX1_ofSide 96 = .ok (.areturn, 1) := by decide +kernel
theorem dX1_complete_0 : decode cX1_complete 0 = .ok (.aload_n 0, 1) := by decide +kernel
theorem dX1_complete_1 : decode cX1_complete 1 = .ok (.iconst 0, 1) := by decide +kernel
theorem dX1_complete_2 : decode cX1_complete 2 = .ok (.putfield 57, 3) := by decide +kernel
theorem dX1_complete_5 : decode cX1_complete 5 = .ok (.iconst 0, 1) := by decide +kernel
theorem dX1_complete_6 : decode cX1_complete 6 = .ok (.istore 6, 2) := by decide +kernel
theorem dX1_complete_8 : decode cX1_complete 8 = .ok (.iload 6, 2) := by decide +kernel
theorem dX1_complete_10 : decode cX1_complete 10 = .ok (.iload 5, 2) := by decide +kernel
theorem dX1_complete_12 : decode cX1_complete 12 = .ok (.if_icmp .ge 39, 3) := by decide +kernel
theorem dX1_complete_15 : decode cX1_complete 15 = .ok (.iload 6, 2) := by decide +kernel
theorem dX1_complete_17 : decode cX1_complete 17 = .ok (.aload 4, 2) := by decide +kernel
theorem dX1_complete_19 : decode cX1_complete 19 = .ok (.arraylength, 1) := by decide +kernel
theorem dX1_complete_20 : decode cX1_complete 20 = .ok (.if_icmp .ge 31, 3) := by decide +kernel
theorem dX1_complete_23 : decode cX1_complete 23 = .ok (.aload 4, 2) := by decide +kernel
theorem dX1_complete_25 : decode cX1_complete 25 = .ok (.iload 6, 2) := by decide +kernel
theorem dX1_complete_27 : decode cX1_complete 27 = .ok (.aaload, 1) := by decide +kernel
theorem dX1_complete_28 : decode cX1_complete 28 = .ok (.aload_n 0, 1) := by decide +kernel
theorem dX1_complete_29 : decode cX1_complete 29 = .ok (.getfield 60, 3) := by decide +kernel
theorem dX1_complete_32 : decode cX1_complete 32 = .ok (.aload_n 3, 1) := by decide +kernel
theorem dX1_complete_33 : decode cX1_complete 33 = .ok (.invokevirtual 68, 3) := by decide +kernel
theorem dX1_complete_36 : decode cX1_complete 36 = .ok (.invokestatic 92, 3) := by decide +kernel
theorem dX1_complete_39 : decode cX1_complete 39 = .ok (.aload_n 0, 1) := by decide +kernel
theorem dX1_complete_40 : decode cX1_complete 40 = .ok (.aload_n 1, 1) := by decide +kernel
theorem dX1_complete_41 : decode cX1_complete 41 = .ok (.aload_n 3, 1) := by decide +kernel
theorem dX1_complete_42 : decode cX1_complete 42 = .ok (.invokevirtual 98, 3) := by decide +kernel
theorem dX1_complete_45 : decode cX1_complete 45 = .ok (.iinc 6 1, 3) := by decide +kernel
theorem dX1_complete_48 : decode cX1_complete 48 = .ok (.goto (-40), 3) := by decide +kernel
theorem dX1_complete_51 : decode cX1_complete 51 = .ok (.iconst 0, 1) := by decide +kernel
theorem dX1_complete_52 : decode cX1_complete 52 = .ok (.istore 6, 2) := by decide +kernel
theorem dX1_complete_54 : decode cX1_complete 54 = .ok (.iload 6, 2) := by decide +kernel
theorem dX1_complete_56 : decode cX1_complete 56 = .ok (.aload_n 0, 1) := by decide +kernel
theorem dX1_complete_57 : decode cX1_complete 57 = .ok (.getfield 57, 3) := by decide +kernel
theorem dX1_complete_60 : decode cX1_complete 60 = .ok (.if_icmp .ge 105, 3) := by decide +kernel
theorem dX1_complete_63 : decode cX1_complete 63 = .ok (.iload 6, 2) := by decide +kernel
theorem dX1_complete_65 : decode cX1_complete 65 = .ok (.bipush 16, 2) := by decide +kernel
theorem dX1_complete_67 : decode cX1_complete 67 = .ok (.if_icmp .ge 98, 3) := by decide +kernel
theorem dX1_complete_70 : decode cX1_complete 70 = .ok (.iconst 0, 1) := by decide +kernel
theorem dX1_complete_71 : decode cX1_complete 71 = .ok (.istore 7, 2) := by decide +kernel
theorem dX1_complete_73 : decode cX1_complete 73 = .ok (.iload 7, 2) := by decide +kernel
theorem dX1_complete_75 : decode cX1_complete 75 = .ok (.aload_n 3, 1) := by decide +kernel
theorem dX1_complete_76 : decode cX1_complete 76 = .ok (.getfield 102, 3) := by decide +kernel
theorem dX1_complete_79 : decode cX1_complete 79 = .ok (.if_icmp .ge 80, 3) := by decide +kernel
theorem dX1_complete_82 : decode cX1_complete 82 = .ok (.iload_n 2, 1) := by decide +kernel
theorem dX1_complete_83 : decode cX1_complete 83 = .ok (.iconst 1, 1) := by decide +kernel
theorem dX1_complete_84 : decode cX1_complete 84 = .ok (.if_icmp .eq 34, 3) := by decide +kernel
theorem dX1_complete_87 : decode cX1_complete 87 = .ok (.iconst 0, 1) := by decide +kernel
theorem dX1_complete_88 : decode cX1_complete 88 = .ok (.iload 7, 2) := by decide +kernel
theorem dX1_complete_90 : decode cX1_complete 90 = .ok (.aload_n 0, 1) := by decide +kernel
theorem dX1_complete_91 : decode cX1_complete 91 = .ok (.getfield 54, 3) := by decide +kernel
theorem dX1_complete_94 : decode cX1_complete 94 = .ok (.iload 6, 2) := by decide +kernel
theorem dX1_complete_96 : decode cX1_complete 96 = .ok (.aaload, 1) := by decide +kernel
theorem dX1_complete_97 : decode cX1_complete 97 = .ok (.aload_n 0, 1) := by decide +kernel
theorem dX1_complete_98 : decode cX1_complete 98 = .ok (.getfield 60, 3) := by decide +kernel
theorem dX1_complete_101 : decode cX1_complete 101 = .ok (.aload_n 3, 1) := by decide +kernel
theorem dX1_complete_102 : decode cX1_complete 102 = .ok (.invokevirtual 68, 3) := by decide +kernel
theorem dX1_complete_105 : decode cX1_complete 105 = .ok (.aload_n 3, 1) := by decide +kernel
theorem dX1_complete_106 : decode cX1_complete 106 = .ok (.getfield 72, 3) := by decide +kernel
theorem dX1_complete_109 : decode cX1_complete 109 = .ok (.invokestatic 105, 3) := by decide +kernel
theorem dX1_complete_112 : decode cX1_complete 112 = .ok (.aload_n 0, 1) := by decide +kernel
theorem dX1_complete_113 : decode cX1_complete 113 = .ok (.aload_n 1, 1) := by decide +kernel
theorem dX1_complete_114 : decode cX1_complete 114 = .ok (.aload_n 3, 1) := by decide +kernel
theorem dX1_complete_115 : decode cX1_complete 115 = .ok (.invokevirtual 98, 3) := by decide +kernel
theorem dX1_complete_118 : decode cX1_complete 118 = .ok (.iload_n 2, 1) := by decide +kernel
theorem dX1_complete_119 : decode cX1_complete 119 = .ok (.ifCond .eq 34, 3) := by decide +kernel
theorem dX1_complete_122 : decode cX1_complete 122 = .ok (.iconst 1, 1) := by decide +kernel
theorem dX1_complete_123 : decode cX1_complete 123 = .ok (.iload 7, 2) := by decide +kernel
theorem dX1_complete_125 : decode cX1_complete 125 = .ok (.aload_n 0, 1) := by decide +kernel
theorem dX1_complete_126 : decode cX1_complete 126 = .ok (.getfield 54, 3) := by decide +kernel
theorem dX1_complete_129 : decode cX1_complete 129 = .ok (.iload 6, 2) := by decide +kernel
theorem dX1_complete_131 : decode cX1_complete 131 = .ok (.aaload, 1) := by decide +kernel
theorem dX1_complete_132 : decode cX1_complete 132 = .ok (.aload_n 0, 1) := by decide +kernel
theorem dX1_complete_133 : decode cX1_complete 133 = .ok (.getfield 60, 3) := by decide +kernel
theorem dX1_complete_136 : decode cX1_complete 136 = .ok (.aload_n 3, 1) := by decide +kernel
theorem dX1_complete_137 : decode cX1_complete 137 = .ok (.invokevirtual 68, 3) := by decide +kernel
theorem dX1_complete_140 : decode cX1_complete 140 = .ok (.aload_n 3, 1) := by decide +kernel
theorem dX1_complete_141 : decode cX1_complete 141 = .ok (.getfield 72, 3) := by decide +kernel
theorem dX1_complete_144 : decode cX1_complete 144 = .ok (.invokestatic 105, 3) := by decide +kernel
theorem dX1_complete_147 : decode cX1_complete 147 = .ok (.aload_n 0, 1) := by decide +kernel
theorem dX1_complete_148 : decode cX1_complete 148 = .ok (.aload_n 1, 1) := by decide +kernel
theorem dX1_complete_149 : decode cX1_complete 149 = .ok (.aload_n 3, 1) := by decide +kernel
theorem dX1_complete_150 : decode cX1_complete 150 = .ok (.invokevirtual 98, 3) := by decide +kernel
theorem dX1_complete_153 : decode cX1_complete 153 = .ok (.iinc 7 1, 3) := by decide +kernel
theorem dX1_complete_156 : decode cX1_complete 156 = .ok (.goto (-83), 3) := by decide +kernel
theorem dX1_complete_159 : decode cX1_complete 159 = .ok (.iinc 6 1, 3) := by decide +kernel
theorem dX1_complete_162 : decode cX1_complete 162 = .ok (.goto (-108), 3) := by decide +kernel
theorem dX1_complete_165 : decode cX1_complete 165 = .ok (.return_, 1) := by decide +kernel
theorem dX1_welcome_0 : decode cX1_welcome 0 = .ok (.aload_n 1, 1) := by decide +kernel
theorem dX1_welcome_1 : decode cX1_welcome 1 = .ok (.aload_n 0, 1) := by decide +kernel
theorem dX1_welcome_2 : decode cX1_welcome 2 = .ok (.getfield 60, 3) := by decide +kernel
theorem dX1_welcome_5 : decode cX1_welcome 5 = .ok (.invokevirtual 109, 3) := by decide +kernel
theorem dX1_welcome_8 : decode cX1_welcome 8 = .ok (.ifCond .eq 42, 3) := by decide +kernel
theorem dX1_welcome_11 : decode cX1_welcome 11 = .ok (.aload_n 0, 1) := by decide +kernel
theorem dX1_welcome_12 : decode cX1_welcome 12 = .ok (.getfield 57, 3) := by decide +kernel
theorem dX1_welcome_15 : decode cX1_welcome 15 = .ok (.bipush 16, 2) := by decide +kernel
theorem dX1_welcome_17 : decode cX1_welcome 17 = .ok (.if_icmp .ge 33, 3) := by decide +kernel
theorem dX1_welcome_20 : decode cX1_welcome 20 = .ok (.aload_n 0, 1) := by decide +kernel
theorem dX1_welcome_21 : decode cX1_welcome 21 = .ok (.getfield 60, 3) := by decide +kernel
theorem dX1_welcome_24 : decode cX1_welcome 24 = .ok (.aload_n 0, 1) := by decide +kernel
theorem dX1_welcome_25 : decode cX1_welcome 25 = .ok (.getfield 54, 3) := by decide +kernel
theorem dX1_welcome_28 : decode cX1_welcome 28 = .ok (.aload_n 0, 1) := by decide +kernel
theorem dX1_welcome_29 : decode cX1_welcome 29 = .ok (.getfield 57, 3) := by decide +kernel
theorem dX1_welcome_32 : decode cX1_welcome 32 = .ok (.aaload, 1) := by decide +kernel
theorem dX1_welcome_33 : decode cX1_welcome 33 = .ok (.aload_n 2, 1) := by decide +kernel
theorem dX1_welcome_34 : decode cX1_welcome 34 = .ok (.invokevirtual 68, 3) := by decide +kernel
theorem dX1_welcome_37 : decode cX1_welcome 37 = .ok (.invokestatic 92, 3) := by decide +kernel
theorem dX1_welcome_40 : decode cX1_welcome 40 = .ok (.aload_n 0, 1) := by decide +kernel
theorem dX1_welcome_41 : decode cX1_welcome 41 = .ok (.dup, 1) := by decide +kernel
theorem dX1_welcome_42 : decode cX1_welcome 42 = .ok (.getfield 57, 3) := by decide +kernel
theorem dX1_welcome_45 : decode cX1_welcome 45 = .ok (.iconst 1, 1) := by decide +kernel
theorem dX1_welcome_46 : decode cX1_welcome 46 = .ok (.iadd, 1) := by decide +kernel
theorem dX1_welcome_47 : decode cX1_welcome 47 = .ok (.putfield 57, 3) := by decide +kernel
theorem dX1_welcome_50 : decode cX1_welcome 50 = .ok (.return_, 1) := by decide +kernel
theorem dX1_annihilatorOf_0 : decode cX1_annihilatorOf 0 = .ok (.aload_n 0, 1) := by decide +kernel
theorem dX1_annihilatorOf_1 : decode cX1_annihilatorOf 1 = .ok (.aload_n 0, 1) := by decide +kernel
theorem dX1_annihilatorOf_2 : decode cX1_annihilatorOf 2 = .ok (.aload_n 1, 1) := by decide +kernel
theorem dX1_annihilatorOf_3 : decode cX1_annihilatorOf 3 = .ok (.iload_n 2, 1) := by decide +kernel
theorem dX1_annihilatorOf_4 : decode cX1_annihilatorOf 4 = .ok (.invokevirtual 113, 3) := by decide +kernel
theorem dX1_annihilatorOf_7 : decode cX1_annihilatorOf 7 = .ok (.aload_n 1, 1) := by decide +kernel
theorem dX1_annihilatorOf_8 : decode cX1_annihilatorOf 8 = .ok (.iload_n 3, 1) := by decide +kernel
theorem dX1_annihilatorOf_9 : decode cX1_annihilatorOf 9 = .ok (.aload_n 0, 1) := by decide +kernel
theorem dX1_annihilatorOf_10 : decode cX1_annihilatorOf 10 = .ok (.getfield 33, 3) := by decide +kernel
theorem dX1_annihilatorOf_13 : decode cX1_annihilatorOf 13 = .ok (.invokevirtual 117, 3) := by decide +kernel
theorem dX1_annihilatorOf_16 : decode cX1_annihilatorOf 16 = .ok (.aload_n 0, 1) := by decide +kernel
theorem dX1_annihilatorOf_17 : decode cX1_annihilatorOf 17 = .ok (.getfield 33, 3) := by decide +kernel
theorem dX1_annihilatorOf_20 : decode cX1_annihilatorOf 20 = .ok (.areturn, 1) := by decide +kernel
theorem dX1_annihilatorAgain_0 : decode cX1_annihilatorAgain 0 = .ok (.aload_n 0, 1) := by decide +kernel
theorem dX1_annihilatorAgain_1 : decode cX1_annihilatorAgain 1 = .ok (.aload_n 0, 1) := by decide +kernel
theorem dX1_annihilatorAgain_2 : decode cX1_annihilatorAgain 2 = .ok (.getfield 33, 3) := by decide +kernel
theorem dX1_annihilatorAgain_5 : decode cX1_annihilatorAgain 5 = .ok (.aload_n 1, 1) := by decide +kernel
theorem dX1_annihilatorAgain_6 : decode cX1_annihilatorAgain 6 = .ok (.iconst 1, 1) := by decide +kernel
theorem dX1_annihilatorAgain_7 : decode cX1_annihilatorAgain 7 = .ok (.iload_n 2, 1) := by decide +kernel
theorem dX1_annihilatorAgain_8 : decode cX1_annihilatorAgain 8 = .ok (.isub, 1) := by decide +kernel
theorem dX1_annihilatorAgain_9 : decode cX1_annihilatorAgain 9 = .ok (.aload_n 0, 1) := by decide +kernel
theorem dX1_annihilatorAgain_10 : decode cX1_annihilatorAgain 10 = .ok (.getfield 36, 3) := by decide +kernel
theorem dX1_annihilatorAgain_13 : decode cX1_annihilatorAgain 13 = .ok (.invokevirtual 117, 3) := by decide +kernel
theorem dX1_annihilatorAgain_16 : decode cX1_annihilatorAgain 16 = .ok (.aload_n 0, 1) := by decide +kernel
theorem dX1_annihilatorAgain_17 : decode cX1_annihilatorAgain 17 = .ok (.getfield 36, 3) := by decide +kernel
theorem dX1_annihilatorAgain_20 : decode cX1_annihilatorAgain 20 = .ok (.areturn, 1) := by decide +kernel
theorem dX1_annihilate_0 : decode cX1_annihilate 0 = .ok (.aload_n 0, 1) := by decide +kernel
theorem dX1_annihilate_1 : decode cX1_annihilate 1 = .ok (.getfield 30, 3) := by decide +kernel
theorem dX1_annihilate_4 : decode cX1_annihilate 4 = .ok (.aload_n 2, 1) := by decide +kernel
theorem dX1_annihilate_5 : decode cX1_annihilate 5 = .ok (.invokevirtual 68, 3) := by decide +kernel
theorem dX1_annihilate_8 : decode cX1_annihilate 8 = .ok (.aload_n 2, 1) := by decide +kernel
theorem dX1_annihilate_9 : decode cX1_annihilate 9 = .ok (.getfield 72, 3) := by decide +kernel
theorem dX1_annihilate_12 : decode cX1_annihilate 12 = .ok (.iconst 0, 1) := by decide +kernel
theorem dX1_annihilate_13 : decode cX1_annihilate 13 = .ok (.invokevirtual 78, 3) := by decide +kernel
theorem dX1_annihilate_16 : decode cX1_annihilate 16 = .ok (.iconst 0, 1) := by decide +kernel
theorem dX1_annihilate_17 : decode cX1_annihilate 17 = .ok (.istore 5, 2) := by decide +kernel
theorem dX1_annihilate_19 : decode cX1_annihilate 19 = .ok (.iload 5, 2) := by decide +kernel
theorem dX1_annihilate_21 : decode cX1_annihilate 21 = .ok (.aload_n 2, 1) := by decide +kernel
theorem dX1_annihilate_22 : decode cX1_annihilate 22 = .ok (.invokevirtual 68, 3) := by decide +kernel
theorem dX1_annihilate_25 : decode cX1_annihilate 25 = .ok (.if_icmp .ge 31, 3) := by decide +kernel
theorem dX1_annihilate_28 : decode cX1_annihilate 28 = .ok (.aload_n 1, 1) := by decide +kernel
theorem dX1_annihilate_29 : decode cX1_annihilate 29 = .ok (.iload 5, 2) := by decide +kernel
theorem dX1_annihilate_31 : decode cX1_annihilate 31 = .ok (.invokevirtual 121, 3) := by decide +kernel
theorem dX1_annihilate_34 : decode cX1_annihilate 34 = .ok (.ifCond .eq 16, 3) := by decide +kernel
theorem dX1_annihilate_37 : decode cX1_annihilate 37 = .ok (.aload_n 0, 1) := by decide +kernel
theorem dX1_annihilate_38 : decode cX1_annihilate 38 = .ok (.aload_n 1, 1) := by decide +kernel
theorem dX1_annihilate_39 : decode cX1_annihilate 39 = .ok (.getfield 125, 3) := by decide +kernel
theorem dX1_annihilate_42 : decode cX1_annihilate 42 = .ok (.iload 5, 2) := by decide +kernel
theorem dX1_annihilate_44 : decode cX1_annihilate 44 = .ok (.aaload, 1) := by decide +kernel
theorem dX1_annihilate_45 : decode cX1_annihilate 45 = .ok (.aload_n 2, 1) := by decide +kernel
theorem dX1_annihilate_46 : decode cX1_annihilate 46 = .ok (.iload_n 3, 1) := by decide +kernel
theorem dX1_annihilate_47 : decode cX1_annihilate 47 = .ok (.invokevirtual 128, 3) := by decide +kernel
theorem dX1_annihilate_50 : decode cX1_annihilate 50 = .ok (.iinc 5 1, 3) := by decide +kernel
theorem dX1_annihilate_53 : decode cX1_annihilate 53 = .ok (.goto (-34), 3) := by decide +kernel
theorem dX1_annihilate_56 : decode cX1_annihilate 56 = .ok (.aload 4, 2) := by decide +kernel
theorem dX1_annihilate_58 : decode cX1_annihilate 58 = .ok (.aload_n 2, 1) := by decide +kernel
theorem dX1_annihilate_59 : decode cX1_annihilate 59 = .ok (.invokevirtual 68, 3) := by decide +kernel
theorem dX1_annihilate_62 : decode cX1_annihilate 62 = .ok (.aload_n 2, 1) := by decide +kernel
theorem dX1_annihilate_63 : decode cX1_annihilate 63 = .ok (.getfield 72, 3) := by decide +kernel
theorem dX1_annihilate_66 : decode cX1_annihilate 66 = .ok (.aload_n 2, 1) := by decide +kernel
theorem dX1_annihilate_67 : decode cX1_annihilate 67 = .ok (.getfield 75, 3) := by decide +kernel
theorem dX1_annihilate_70 : decode cX1_annihilate 70 = .ok (.invokevirtual 78, 3) := by decide +kernel
theorem dX1_annihilate_73 : decode cX1_annihilate 73 = .ok (.iconst 0, 1) := by decide +kernel
theorem dX1_annihilate_74 : decode cX1_annihilate 74 = .ok (.istore 5, 2) := by decide +kernel
theorem dX1_annihilate_76 : decode cX1_annihilate 76 = .ok (.iload 5, 2) := by decide +kernel
theorem dX1_annihilate_78 : decode cX1_annihilate 78 = .ok (.aload_n 2, 1) := by decide +kernel
theorem dX1_annihilate_79 : decode cX1_annihilate 79 = .ok (.invokevirtual 68, 3) := by decide +kernel
theorem dX1_annihilate_82 : decode cX1_annihilate 82 = .ok (.if_icmp .ge 35, 3) := by decide +kernel
theorem dX1_annihilate_85 : decode cX1_annihilate 85 = .ok (.aload_n 0, 1) := by decide +kernel
theorem dX1_annihilate_86 : decode cX1_annihilate 86 = .ok (.getfield 30, 3) := by decide +kernel
theorem dX1_annihilate_89 : decode cX1_annihilate 89 = .ok (.iload 5, 2) := by decide +kernel
theorem dX1_annihilate_91 : decode cX1_annihilate 91 = .ok (.aload_n 0, 1) := by decide +kernel
theorem dX1_annihilate_92 : decode cX1_annihilate 92 = .ok (.getfield 60, 3) := by decide +kernel
theorem dX1_annihilate_95 : decode cX1_annihilate 95 = .ok (.invokevirtual 132, 3) := by decide +kernel
theorem dX1_annihilate_98 : decode cX1_annihilate 98 = .ok (.ifCond .eq 13, 3) := by decide +kernel
theorem dX1_annihilate_101 : decode cX1_annihilate 101 = .ok (.aload 4, 2) := by decide +kernel
theorem dX1_annihilate_103 : decode cX1_annihilate 103 = .ok (.aload_n 0, 1) := by decide +kernel
theorem dX1_annihilate_104 : decode cX1_annihilate 104 = .ok (.getfield 60, 3) := by decide +kernel
theorem dX1_annihilate_107 : decode cX1_annihilate 107 = .ok (.invokevirtual 109, 3) := by decide +kernel
theorem dX1_annihilate_110 : decode cX1_annihilate 110 = .ok (.pop, 1) := by decide +kernel
theorem dX1_annihilate_111 : decode cX1_annihilate 111 = .ok (.iinc 5 1, 3) := by decide +kernel
theorem dX1_annihilate_114 : decode cX1_annihilate 114 = .ok (.goto (-38), 3) := by decide +kernel
theorem dX1_annihilate_117 : decode cX1_annihilate 117 = .ok (.return_, 1) := by decide +kernel
theorem dX1_demandNought_0 : decode cX1_demandNought 0 = .ok (.iconst 0, 1) := by decide +kernel
theorem dX1_demandNought_1 : decode cX1_demandNought 1 = .ok (.istore 4, 2) := by decide +kernel
theorem dX1_demandNought_3 : decode cX1_demandNought 3 = .ok (.iload 4, 2) := by decide +kernel
theorem dX1_demandNought_5 : decode cX1_demandNought 5 = .ok (.aload_n 2, 1) := by decide +kernel
theorem dX1_demandNought_6 : decode cX1_demandNought 6 = .ok (.invokevirtual 68, 3) := by decide +kernel
theorem dX1_demandNought_9 : decode cX1_demandNought 9 = .ok (.if_icmp .ge 106, 3) := by decide +kernel
theorem dX1_demandNought_12 : decode cX1_demandNought 12 = .ok (.iconst 0, 1) := by decide +kernel
theorem dX1_demandNought_13 : decode cX1_demandNought 13 = .ok (.istore 5, 2) := by decide +kernel
theorem dX1_demandNought_15 : decode cX1_demandNought 15 = .ok (.iload 5, 2) := by decide +kernel
theorem dX1_demandNought_17 : decode cX1_demandNought 17 = .ok (.aload_n 2, 1) := by decide +kernel
theorem dX1_demandNought_18 : decode cX1_demandNought 18 = .ok (.invokevirtual 68, 3) := by decide +kernel
theorem dX1_demandNought_21 : decode cX1_demandNought 21 = .ok (.if_icmp .ge 76, 3) := by decide +kernel
theorem dX1_demandNought_24 : decode cX1_demandNought 24 = .ok (.iload 4, 2) := by decide +kernel
theorem dX1_demandNought_26 : decode cX1_demandNought 26 = .ok (.iload 5, 2) := by decide +kernel
theorem dX1_demandNought_28 : decode cX1_demandNought 28 = .ok (.iconst (-1), 1) := by decide +kernel
theorem dX1_demandNought_29 : decode cX1_demandNought 29 = .ok (.ixor, 1) := by decide +kernel
theorem dX1_demandNought_30 : decode cX1_demandNought 30 = .ok (.iand, 1) := by decide +kernel
theorem dX1_demandNought_31 : decode cX1_demandNought 31 = .ok (.istore 6, 2) := by decide +kernel
theorem dX1_demandNought_33 : decode cX1_demandNought 33 = .ok (.iload_n 3, 1) := by decide +kernel
theorem dX1_demandNought_34 : decode cX1_demandNought 34 = .ok (.ifCond .ne 13, 3) := by decide +kernel
theorem dX1_demandNought_37 : decode cX1_demandNought 37 = .ok (.iload 5, 2) := by decide +kernel
theorem dX1_demandNought_39 : decode cX1_demandNought 39 = .ok (.iload 6, 2) := by decide +kernel
theorem dX1_demandNought_41 : decode cX1_demandNought 41 = .ok (.invokestatic 136, 3) := by decide +kernel
theorem dX1_demandNought_44 : decode cX1_demandNought 44 = .ok (.goto 10, 3) := by decide +kernel
theorem dX1_demandNought_47 : decode cX1_demandNought 47 = .ok (.iload 6, 2) := by decide +kernel
theorem dX1_demandNought_49 : decode cX1_demandNought 49 = .ok (.iload 5, 2) := by decide +kernel
theorem dX1_demandNought_51 : decode cX1_demandNought 51 = .ok (.invokestatic 136, 3) := by decide +kernel
theorem dX1_demandNought_54 : decode cX1_demandNought 54 = .ok (.istore 7, 2) := by decide +kernel
theorem dX1_demandNought_56 : decode cX1_demandNought 56 = .ok (.aload_n 0, 1) := by decide +kernel
theorem dX1_demandNought_57 : decode cX1_demandNought 57 = .ok (.getfield 60, 3) := by decide +kernel
theorem dX1_demandNought_60 : decode cX1_demandNought 60 = .ok (.iload 5, 2) := by decide +kernel
theorem dX1_demandNought_62 : decode cX1_demandNought 62 = .ok (.iload 5, 2) := by decide +kernel
theorem dX1_demandNought_64 : decode cX1_demandNought 64 = .ok (.iload 6, 2) := by decide +kernel
theorem dX1_demandNought_66 : decode cX1_demandNought 66 = .ok (.ior, 1) := by decide +kernel
theorem dX1_demandNought_67 : decode cX1_demandNought 67 = .ok (.iload 4, 2) := by decide +kernel
theorem dX1_demandNought_69 : decode cX1_demandNought 69 = .ok (.if_icmp .ne 20, 3) := by decide +kernel
theorem dX1_demandNought_72 : decode cX1_demandNought 72 = .ok (.iload 7, 2) := by decide +kernel
theorem dX1_demandNought_74 : decode cX1_demandNought 74 = .ok (.aload_n 1, 1) := by decide +kernel
theorem dX1_demandNought_75 : decode cX1_demandNought 75 = .ok (.iload 6, 2) := by decide +kernel
theorem dX1_demandNought_77 : decode cX1_demandNought 77 = .ok (.iaload, 1) := by decide +kernel
theorem dX1_demandNought_78 : decode cX1_demandNought 78 = .ok (.imul, 1) := by decide +kernel
theorem dX1_demandNought_79 : decode cX1_demandNought 79 = .ok (.aload_n 2, 1) := by decide +kernel
theorem dX1_demandNought_80 : decode cX1_demandNought 80 = .ok (.getfield 72, 3) := by decide +kernel
theorem dX1_demandNought_83 : decode cX1_demandNought 83 = .ok (.invokestatic 140, 3) := by decide +kernel
theorem dX1_demandNought_86 : decode cX1_demandNought 86 = .ok (.goto 4, 3) := by decide +kernel
theorem dX1_demandNought_89 : decode cX1_demandNought 89 = .ok (.iconst 0, 1) := by decide +kernel
theorem dX1_demandNought_90 : decode cX1_demandNought 90 = .ok (.iastore, 1) := by decide +kernel
theorem dX1_demandNought_91 : decode cX1_demandNought 91 = .ok (.iinc 5 1, 3) := by decide +kernel
theorem dX1_demandNought_94 : decode cX1_demandNought 94 = .ok (.goto (-79), 3) := by decide +kernel
theorem dX1_demandNought_97 : decode cX1_demandNought 97 = .ok (.aload_n 0, 1) := by decide +kernel
theorem dX1_demandNought_98 : decode cX1_demandNought 98 = .ok (.getfield 30, 3) := by decide +kernel
theorem dX1_demandNought_101 : decode cX1_demandNought 101 = .ok (.aload_n 0, 1) := by decide +kernel
theorem dX1_demandNought_102 : decode cX1_demandNought 102 = .ok (.getfield 60, 3) := by decide +kernel
theorem dX1_demandNought_105 : decode cX1_demandNought 105 = .ok (.invokevirtual 109, 3) := by decide +kernel
theorem dX1_demandNought_108 : decode cX1_demandNought 108 = .ok (.pop, 1) := by decide +kernel
theorem dX1_demandNought_109 : decode cX1_demandNought 109 = .ok (.iinc 4 1, 3) := by decide +kernel
theorem dX1_demandNought_112 : decode cX1_demandNought 112 = .ok (.goto (-109), 3) := by decide +kernel
theorem dX1_demandNought_115 : decode cX1_demandNought 115 = .ok (.return_, 1) := by decide +kernel
theorem dX1_liesIn_0 : decode cX1_liesIn 0 = .ok (.iconst 0, 1) := by decide +kernel
theorem dX1_liesIn_1 : decode cX1_liesIn 1 = .ok (.istore_n 3, 1) := by decide +kernel
theorem dX1_liesIn_2 : decode cX1_liesIn 2 = .ok (.iload_n 3, 1) := by decide +kernel
theorem dX1_liesIn_3 : decode cX1_liesIn 3 = .ok (.bipush 16, 2) := by decide +kernel
theorem dX1_liesIn_5 : decode cX1_liesIn 5 = .ok (.if_icmp .ge 56, 3) := by decide +kernel
theorem dX1_liesIn_8 : decode cX1_liesIn 8 = .ok (.aload_n 1, 1) := by decide +kernel
theorem dX1_liesIn_9 : decode cX1_liesIn 9 = .ok (.iload_n 3, 1) := by decide +kernel
theorem dX1_liesIn_10 : decode cX1_liesIn 10 = .ok (.invokevirtual 121, 3) := by decide +kernel
theorem dX1_liesIn_13 : decode cX1_liesIn 13 = .ok (.ifCond .eq 42, 3) := by decide +kernel
theorem dX1_liesIn_16 : decode cX1_liesIn 16 = .ok (.aload_n 1, 1) := by decide +kernel
theorem dX1_liesIn_17 : decode cX1_liesIn 17 = .ok (.getfield 125, 3) := by decide +kernel
theorem dX1_liesIn_20 : decode cX1_liesIn 20 = .ok (.iload_n 3, 1) := by decide +kernel
theorem dX1_liesIn_21 : decode cX1_liesIn 21 = .ok (.aaload, 1) := by decide +kernel
theorem dX1_liesIn_22 : decode cX1_liesIn 22 = .ok (.aload_n 0, 1) := by decide +kernel
theorem dX1_liesIn_23 : decode cX1_liesIn 23 = .ok (.getfield 60, 3) := by decide +kernel
theorem dX1_liesIn_26 : decode cX1_liesIn 26 = .ok (.bipush 16, 2) := by decide +kernel
theorem dX1_liesIn_28 : decode cX1_liesIn 28 = .ok (.invokestatic 92, 3) := by decide +kernel
theorem dX1_liesIn_31 : decode cX1_liesIn 31 = .ok (.aload_n 2, 1) := by decide +kernel
theorem dX1_liesIn_32 : decode cX1_liesIn 32 = .ok (.aload_n 0, 1) := by decide +kernel
theorem dX1_liesIn_33 : decode cX1_liesIn 33 = .ok (.getfield 60, 3) := by decide +kernel
theorem dX1_liesIn_36 : decode cX1_liesIn 36 = .ok (.invokevirtual 143, 3) := by decide +kernel
theorem dX1_liesIn_39 : decode cX1_liesIn 39 = .ok (.aload_n 0, 1) := by decide +kernel
theorem dX1_liesIn_40 : decode cX1_liesIn 40 = .ok (.getfield 60, 3) := by decide +kernel
theorem dX1_liesIn_43 : decode cX1_liesIn 43 = .ok (.aload_n 2, 1) := by decide +kernel
theorem dX1_liesIn_44 : decode cX1_liesIn 44 = .ok (.getfield 147, 3) := by decide +kernel
theorem dX1_liesIn_47 : decode cX1_liesIn 47 = .ok (.invokestatic 149, 3) := by decide +kernel
theorem dX1_liesIn_50 : decode cX1_liesIn 50 = .ok (.ifCond .eq 5, 3) := by decide +kernel
theorem dX1_liesIn_53 : decode cX1_liesIn 53 = .ok (.iconst 0, 1) := by decide +kernel
theorem dX1_liesIn_54 : decode cX1_liesIn 54 = .ok (.ireturn, 1) := by decide +kernel
theorem dX1_liesIn_55 : decode cX1_liesIn 55 = .ok (.iinc 3 1, 3) := by decide +kernel
theorem dX1_liesIn_58 : decode cX1_liesIn 58 = .ok (.goto (-56), 3) := by decide +kernel
theorem dX1_liesIn_61 : decode cX1_liesIn 61 = .ok (.iconst 1, 1) := by decide +kernel
theorem dX1_liesIn_62 : decode cX1_liesIn 62 = .ok (.ireturn, 1) := by decide +kernel
theorem dX1_afterEvents_0 : decode cX1_afterEvents 0 = .ok (.aload_n 0, 1) := by decide +kernel
theorem dX1_afterEvents_1 : decode cX1_afterEvents 1 = .ok (.iconst 0, 1) := by decide +kernel
theorem dX1_afterEvents_2 : decode cX1_afterEvents 2 = .ok (.putfield 47, 3) := by decide +kernel
theorem dX1_afterEvents_5 : decode cX1_afterEvents 5 = .ok (.iconst 0, 1) := by decide +kernel
theorem dX1_afterEvents_6 : decode cX1_afterEvents 6 = .ok (.istore_n 3, 1) := by decide +kernel
theorem dX1_afterEvents_7 : decode cX1_afterEvents 7 = .ok (.iload_n 3, 1) := by decide +kernel
theorem dX1_afterEvents_8 : decode cX1_afterEvents 8 = .ok (.aload_n 1, 1) := by decide +kernel
theorem dX1_afterEvents_9 : decode cX1_afterEvents 9 = .ok (.getfield 85, 3) := by decide +kernel
theorem dX1_afterEvents_12 : decode cX1_afterEvents 12 = .ok (.if_icmp .ge 19, 3) := by decide +kernel
theorem dX1_afterEvents_15 : decode cX1_afterEvents 15 = .ok (.aload_n 0, 1) := by decide +kernel
theorem dX1_afterEvents_16 : decode cX1_afterEvents 16 = .ok (.aload_n 1, 1) := by decide +kernel
theorem dX1_afterEvents_17 : decode cX1_afterEvents 17 = .ok (.getfield 82, 3) := by decide +kernel
theorem dX1_afterEvents_20 : decode cX1_afterEvents 20 = .ok (.iload_n 3, 1) := by decide +kernel
theorem dX1_afterEvents_21 : decode cX1_afterEvents 21 = .ok (.aaload, 1) := by decide +kernel
theorem dX1_afterEvents_22 : decode cX1_afterEvents 22 = .ok (.invokevirtual 153, 3) := by decide +kernel
theorem dX1_afterEvents_25 : decode cX1_afterEvents 25 = .ok (.iinc 3 1, 3) := by decide +kernel
theorem dX1_afterEvents_28 : decode cX1_afterEvents 28 = .ok (.goto (-21), 3) := by decide +kernel
theorem dX1_afterEvents_31 : decode cX1_afterEvents 31 = .ok (.aload_n 0, 1) := by decide +kernel
theorem dX1_afterEvents_32 : decode cX1_afterEvents 32 = .ok (.aload_n 1, 1) := by decide +kernel
theorem dX1_afterEvents_33 : decode cX1_afterEvents 33 = .ok (.getfield 75, 3) := by decide +kernel
theorem dX1_afterEvents_36 : decode cX1_afterEvents 36 = .ok (.putfield 51, 3) := by decide +kernel
theorem dX1_afterEvents_39 : decode cX1_afterEvents 39 = .ok (.iconst 0, 1) := by decide +kernel
theorem dX1_afterEvents_40 : decode cX1_afterEvents 40 = .ok (.istore_n 3, 1) := by decide +kernel
theorem dX1_afterEvents_41 : decode cX1_afterEvents 41 = .ok (.iload_n 3, 1) := by decide +kernel
theorem dX1_afterEvents_42 : decode cX1_afterEvents 42 = .ok (.aload_n 1, 1) := by decide +kernel
theorem dX1_afterEvents_43 : decode cX1_afterEvents 43 = .ok (.getfield 156, 3) := by decide +kernel
theorem dX1_afterEvents_46 : decode cX1_afterEvents 46 = .ok (.if_icmp .ge 32, 3) := by decide +kernel
theorem dX1_afterEvents_49 : decode cX1_afterEvents 49 = .ok (.iload_n 3, 1) := by decide +kernel
theorem dX1_afterEvents_50 : decode cX1_afterEvents 50 = .ok (.bipush 8, 2) := by decide +kernel
theorem dX1_afterEvents_52 : decode cX1_afterEvents 52 = .ok (.if_icmp .ge 26, 3) := by decide +kernel
theorem dX1_afterEvents_55 : decode cX1_afterEvents 55 = .ok (.aload_n 0, 1) := by decide +kernel
theorem dX1_afterEvents_56 : decode cX1_afterEvents 56 = .ok (.aload_n 1, 1) := by decide +kernel
theorem dX1_afterEvents_57 : decode cX1_afterEvents 57 = .ok (.aload_n 1, 1) := by decide +kernel
theorem dX1_afterEvents_58 : decode cX1_afterEvents 58 = .ok (.getfield 159, 3) := by decide +kernel
theorem dX1_afterEvents_61 : decode cX1_afterEvents 61 = .ok (.iload_n 3, 1) := by decide +kernel
theorem dX1_afterEvents_62 : decode cX1_afterEvents 62 = .ok (.iaload, 1) := by decide +kernel
theorem dX1_afterEvents_63 : decode cX1_afterEvents 63 = .ok (.aload_n 1, 1) := by decide +kernel
theorem dX1_afterEvents_64 : decode cX1_afterEvents 64 = .ok (.getfield 162, 3) := by decide +kernel
theorem dX1_afterEvents_67 : decode cX1_afterEvents 67 = .ok (.iload_n 3, 1) := by decide +kernel
theorem dX1_afterEvents_68 : decode cX1_afterEvents 68 = .ok (.iaload, 1) := by decide +kernel
theorem dX1_afterEvents_69 : decode cX1_afterEvents 69 = .ok (.invokevirtual 165, 3) := by decide +kernel
theorem dX1_afterEvents_72 : decode cX1_afterEvents 72 = .ok (.iinc 3 1, 3) := by decide +kernel
theorem dX1_afterEvents_75 : decode cX1_afterEvents 75 = .ok (.goto (-34), 3) := by decide +kernel
theorem dX1_afterEvents_78 : decode cX1_afterEvents 78 = .ok (.aload_n 0, 1) := by decide +kernel
theorem dX1_afterEvents_79 : decode cX1_afterEvents 79 = .ok (.getfield 39, 3) := by decide +kernel
theorem dX1_afterEvents_82 : decode cX1_afterEvents 82 = .ok (.aload_n 1, 1) := by decide +kernel
theorem dX1_afterEvents_83 : decode cX1_afterEvents 83 = .ok (.invokevirtual 68, 3) := by decide +kernel
theorem dX1_afterEvents_86 : decode cX1_afterEvents 86 = .ok (.aload_n 1, 1) := by decide +kernel
theorem dX1_afterEvents_87 : decode cX1_afterEvents 87 = .ok (.getfield 72, 3) := by decide +kernel
theorem dX1_afterEvents_90 : decode cX1_afterEvents 90 = .ok (.aload_n 0, 1) := by decide +kernel
theorem dX1_afterEvents_91 : decode cX1_afterEvents 91 = .ok (.getfield 51, 3) := by decide +kernel
theorem dX1_afterEvents_94 : decode cX1_afterEvents 94 = .ok (.invokevirtual 78, 3) := by decide +kernel
theorem dX1_afterEvents_97 : decode cX1_afterEvents 97 = .ok (.aload_n 0, 1) := by decide +kernel
theorem dX1_afterEvents_98 : decode cX1_afterEvents 98 = .ok (.aload_n 0, 1) := by decide +kernel
theorem dX1_afterEvents_99 : decode cX1_afterEvents 99 = .ok (.getfield 39, 3) := by decide +kernel
theorem dX1_afterEvents_102 : decode cX1_afterEvents 102 = .ok (.iload_n 2, 1) := by decide +kernel
theorem dX1_afterEvents_103 : decode cX1_afterEvents 103 = .ok (.aload_n 1, 1) := by decide +kernel
theorem dX1_afterEvents_104 : decode cX1_afterEvents 104 = .ok (.aload_n 0, 1) := by decide +kernel
theorem dX1_afterEvents_105 : decode cX1_afterEvents 105 = .ok (.getfield 44, 3) := by decide +kernel
theorem dX1_afterEvents_108 : decode cX1_afterEvents 108 = .ok (.aload_n 0, 1) := by decide +kernel
theorem dX1_afterEvents_109 : decode cX1_afterEvents 109 = .ok (.getfield 47, 3) := by decide +kernel
theorem dX1_afterEvents_112 : decode cX1_afterEvents 112 = .ok (.invokevirtual 88, 3) := by decide +kernel
theorem dX1_afterEvents_115 : decode cX1_afterEvents 115 = .ok (.aload_n 0, 1) := by decide +kernel
theorem dX1_afterEvents_116 : decode cX1_afterEvents 116 = .ok (.getfield 39, 3) := by decide +kernel
theorem dX1_afterEvents_119 : decode cX1_afterEvents 119 = .ok (.areturn, 1) := by decide +kernel
theorem dX1_comeLater_0 : decode cX1_comeLater 0 = .ok (.aload_n 0, 1) := by decide +kernel
theorem dX1_comeLater_1 : decode cX1_comeLater 1 = .ok (.getfield 47, 3) := by decide +kernel
theorem dX1_comeLater_4 : decode cX1_comeLater 4 = .ok (.iconst 4, 1) := by decide +kernel
theorem dX1_comeLater_5 : decode cX1_comeLater 5 = .ok (.if_icmp .ge 28, 3) := by decide +kernel
theorem dX1_comeLater_8 : decode cX1_comeLater 8 = .ok (.aload_n 1, 1) := by decide +kernel
theorem dX1_comeLater_9 : decode cX1_comeLater 9 = .ok (.aload_n 0, 1) := by decide +kernel
theorem dX1_comeLater_10 : decode cX1_comeLater 10 = .ok (.getfield 44, 3) := by decide +kernel
theorem dX1_comeLater_13 : decode cX1_comeLater 13 = .ok (.aload_n 0, 1) := by decide +kernel
theorem dX1_comeLater_14 : decode cX1_comeLater 14 = .ok (.getfield 47, 3) := by decide +kernel
theorem dX1_comeLater_17 : decode cX1_comeLater 17 = .ok (.aaload, 1) := by decide +kernel
theorem dX1_comeLater_18 : decode cX1_comeLater 18 = .ok (.bipush 16, 2) := by decide +kernel
theorem dX1_comeLater_20 : decode cX1_comeLater 20 = .ok (.invokestatic 92, 3) := by decide +kernel
theorem dX1_comeLater_23 : decode cX1_comeLater 23 = .ok (.aload_n 0, 1) := by decide +kernel
theorem dX1_comeLater_24 : decode cX1_comeLater 24 = .ok (.dup, 1) := by decide +kernel
theorem dX1_comeLater_25 : decode cX1_comeLater 25 = .ok (.getfield 47, 3) := by decide +kernel
theorem dX1_comeLater_28 : decode cX1_comeLater 28 = .ok (.iconst 1, 1) := by decide +kernel
theorem dX1_comeLater_29 : decode cX1_comeLater 29 = .ok (.iadd, 1) := by decide +kernel
theorem dX1_comeLater_30 : decode cX1_comeLater 30 = .ok (.putfield 47, 3) := by decide +kernel
theorem dX1_comeLater_33 : decode cX1_comeLater 33 = .ok (.return_, 1) := by decide +kernel
theorem dX1_happen_0 : decode cX1_happen 0 = .ok (.iload_n 2, 1) := by decide +kernel
theorem dX1_happen_1 : decode cX1_happen 1 = .ok (.ifCond .ne 24, 3) := by decide +kernel
theorem dX1_happen_4 : decode cX1_happen 4 = .ok (.aload_n 1, 1) := by decide +kernel
theorem dX1_happen_5 : decode cX1_happen 5 = .ok (.iload_n 3, 1) := by decide +kernel
theorem dX1_happen_6 : decode cX1_happen 6 = .ok (.invokevirtual 169, 3) := by decide +kernel
theorem dX1_happen_9 : decode cX1_happen 9 = .ok (.ifCond .eq 16, 3) := by decide +kernel
theorem dX1_happen_12 : decode cX1_happen 12 = .ok (.aload_n 0, 1) := by decide +kernel
theorem dX1_happen_13 : decode cX1_happen 13 = .ok (.aload_n 1, 1) := by decide +kernel
theorem dX1_happen_14 : decode cX1_happen 14 = .ok (.getfield 172, 3) := by decide +kernel
theorem dX1_happen_17 : decode cX1_happen 17 = .ok (.iload_n 3, 1) := by decide +kernel
theorem dX1_happen_18 : decode cX1_happen 18 = .ok (.aaload, 1) := by decide +kernel
theorem dX1_happen_19 : decode cX1_happen 19 = .ok (.invokevirtual 153, 3) := by decide +kernel
theorem dX1_happen_22 : decode cX1_happen 22 = .ok (.goto 63, 3) := by decide +kernel
theorem dX1_happen_25 : decode cX1_happen 25 = .ok (.iload_n 2, 1) := by decide +kernel
theorem dX1_happen_26 : decode cX1_happen 26 = .ok (.iconst 1, 1) := by decide +kernel
theorem dX1_happen_27 : decode cX1_happen 27 = .ok (.if_icmp .eq 8, 3) := by decide +kernel
theorem dX1_happen_30 : decode cX1_happen 30 = .ok (.iload_n 2, 1) := by decide +kernel
theorem dX1_happen_31 : decode cX1_happen 31 = .ok (.iconst 2, 1) := by decide +kernel
theorem dX1_happen_32 : decode cX1_happen 32 = .ok (.if_icmp .ne 30, 3) := by decide +kernel
theorem dX1_happen_35 : decode cX1_happen 35 = .ok (.iload_n 3, 1) := by decide +kernel
theorem dX1_happen_36 : decode cX1_happen 36 = .ok (.aload_n 1, 1) := by decide +kernel
theorem dX1_happen_37 : decode cX1_happen 37 = .ok (.getfield 102, 3) := by decide +kernel
theorem dX1_happen_40 : decode cX1_happen 40 = .ok (.if_icmp .ge 22, 3) := by decide +kernel
theorem dX1_happen_43 : decode cX1_happen 43 = .ok (.aload_n 0, 1) := by decide +kernel
theorem dX1_happen_44 : decode cX1_happen 44 = .ok (.aload_n 1, 1) := by decide +kernel
theorem dX1_happen_45 : decode cX1_happen 45 = .ok (.iload_n 2, 1) := by decide +kernel
theorem dX1_happen_46 : decode cX1_happen 46 = .ok (.iconst 1, 1) := by decide +kernel
theorem dX1_happen_47 : decode cX1_happen 47 = .ok (.if_icmp .ne 7, 3) := by decide +kernel
theorem dX1_happen_50 : decode cX1_happen 50 = .ok (.iconst 0, 1) := by decide +kernel
theorem dX1_happen_51 : decode cX1_happen 51 = .ok (.goto 4, 3) := by decide +kernel
theorem dX1_happen_54 : decode cX1_happen 54 = .ok (.iconst 1, 1) := by decide +kernel
theorem dX1_happen_55 : decode cX1_happen 55 = .ok (.iload_n 3, 1) := by decide +kernel
theorem dX1_happen_56 : decode cX1_happen 56 = .ok (.invokevirtual 175, 3) := by decide +kernel
theorem dX1_happen_59 : decode cX1_happen 59 = .ok (.goto 26, 3) := by decide +kernel
theorem dX1_happen_62 : decode cX1_happen 62 = .ok (.iload_n 2, 1) := by decide +kernel
theorem dX1_happen_63 : decode cX1_happen 63 = .ok (.iconst 3, 1) := by decide +kernel
theorem dX1_happen_64 : decode cX1_happen 64 = .ok (.if_icmp .ne 11, 3) := by decide +kernel
theorem dX1_happen_67 : decode cX1_happen 67 = .ok (.aload_n 0, 1) := by decide +kernel
theorem dX1_happen_68 : decode cX1_happen 68 = .ok (.iload_n 3, 1) := by decide +kernel
theorem dX1_happen_69 : decode cX1_happen 69 = .ok (.putfield 51, 3) := by decide +kernel
theorem dX1_happen_72 : decode cX1_happen 72 = .ok (.goto 13, 3) := by decide +kernel
theorem dX1_happen_75 : decode cX1_happen 75 = .ok (.iload_n 2, 1) := by decide +kernel
theorem dX1_happen_76 : decode cX1_happen 76 = .ok (.iconst 4, 1) := by decide +kernel
theorem dX1_happen_77 : decode cX1_happen 77 = .ok (.if_icmp .ne 8, 3) := by decide +kernel
theorem dX1_happen_80 : decode cX1_happen 80 = .ok (.aload_n 0, 1) := by decide +kernel
theorem dX1_happen_81 : decode cX1_happen 81 = .ok (.iload_n 3, 1) := by decide +kernel
theorem dX1_happen_82 : decode cX1_happen 82 = .ok (.invokevirtual 178, 3) := by decide +kernel
theorem dX1_happen_85 : decode cX1_happen 85 = .ok (.return_, 1) := by decide +kernel
theorem dX1_multiplyLater_0 : decode cX1_multiplyLater 0 = .ok (.iconst 0, 1) := by decide +kernel
theorem dX1_multiplyLater_1 : decode cX1_multiplyLater 1 = .ok (.istore 4, 2) := by decide +kernel
theorem dX1_multiplyLater_3 : decode cX1_multiplyLater 3 = .ok (.iload 4, 2) := by decide +kernel
theorem dX1_multiplyLater_5 : decode cX1_multiplyLater 5 = .ok (.aload_n 0, 1) := by decide +kernel
theorem dX1_multiplyLater_6 : decode cX1_multiplyLater 6 = .ok (.getfield 47, 3) := by decide +kernel
theorem dX1_multiplyLater_9 : decode cX1_multiplyLater 9 = .ok (.if_icmp .ge 57, 3) := by decide +kernel
theorem dX1_multiplyLater_12 : decode cX1_multiplyLater 12 = .ok (.iload 4, 2) := by decide +kernel
theorem dX1_multiplyLater_14 : decode cX1_multiplyLater 14 = .ok (.iconst 4, 1) := by decide +kernel
theorem dX1_multiplyLater_15 : decode cX1_multiplyLater 15 = .ok (.if_icmp .ge 51, 3) := by decide +kernel
theorem dX1_multiplyLater_18 : decode cX1_multiplyLater 18 = .ok (.iload_n 2, 1) := by decide +kernel
theorem dX1_multiplyLater_19 : decode cX1_multiplyLater 19 = .ok (.iload_n 3, 1) := by decide +kernel
theorem dX1_multiplyLater_20 : decode cX1_multiplyLater 20 = .ok (.aload_n 0, 1) := by decide +kernel
theorem dX1_multiplyLater_21 : decode cX1_multiplyLater 21 = .ok (.getfield 44, 3) := by decide +kernel
theorem dX1_multiplyLater_24 : decode cX1_multiplyLater 24 = .ok (.iload 4, 2) := by decide +kernel
theorem dX1_multiplyLater_26 : decode cX1_multiplyLater 26 = .ok (.aaload, 1) := by decide +kernel
theorem dX1_multiplyLater_27 : decode cX1_multiplyLater 27 = .ok (.aload_n 0, 1) := by decide +kernel
theorem dX1_multiplyLater_28 : decode cX1_multiplyLater 28 = .ok (.getfield 60, 3) := by decide +kernel
theorem dX1_multiplyLater_31 : decode cX1_multiplyLater 31 = .ok (.aload_n 1, 1) := by decide +kernel
theorem dX1_multiplyLater_32 : decode cX1_multiplyLater 32 = .ok (.invokevirtual 68, 3) := by decide +kernel
theorem dX1_multiplyLater_35 : decode cX1_multiplyLater 35 = .ok (.aload_n 1, 1) := by decide +kernel
theorem dX1_multiplyLater_36 : decode cX1_multiplyLater 36 = .ok (.getfield 72, 3) := by decide +kernel
theorem dX1_multiplyLater_39 : decode cX1_multiplyLater 39 = .ok (.invokestatic 105, 3) := by decide +kernel
theorem dX1_multiplyLater_42 : decode cX1_multiplyLater 42 = .ok (.aload_n 0, 1) := by decide +kernel
theorem dX1_multiplyLater_43 : decode cX1_multiplyLater 43 = .ok (.getfield 60, 3) := by decide +kernel
theorem dX1_multiplyLater_46 : decode cX1_multiplyLater 46 = .ok (.aload_n 0, 1) := by decide +kernel
theorem dX1_multiplyLater_47 : decode cX1_multiplyLater 47 = .ok (.getfield 44, 3) := by decide +kernel
theorem dX1_multiplyLater_50 : decode cX1_multiplyLater 50 = .ok (.iload 4, 2) := by decide +kernel
theorem dX1_multiplyLater_52 : decode cX1_multiplyLater 52 = .ok (.aaload, 1) := by decide +kernel
theorem dX1_multiplyLater_53 : decode cX1_multiplyLater 53 = .ok (.aload_n 1, 1) := by decide +kernel
theorem dX1_multiplyLater_54 : decode cX1_multiplyLater 54 = .ok (.invokevirtual 68, 3) := by decide +kernel
theorem dX1_multiplyLater_57 : decode cX1_multiplyLater 57 = .ok (.invokestatic 92, 3) := by decide +kernel
theorem dX1_multiplyLater_60 : decode cX1_multiplyLater 60 = .ok (.iinc 4 1, 3) := by decide +kernel
theorem dX1_multiplyLater_63 : decode cX1_multiplyLater 63 = .ok (.goto (-60), 3) := by decide +kernel
theorem dX1_multiplyLater_66 : decode cX1_multiplyLater 66 = .ok (.return_, 1) := by decide +kernel
theorem dX1_goLater_0 : decode cX1_goLater 0 = .ok (.iload_n 1, 1) := by decide +kernel
theorem dX1_goLater_1 : decode cX1_goLater 1 = .ok (.ifCond .lt 11, 3) := by decide +kernel
theorem dX1_goLater_4 : decode cX1_goLater 4 = .ok (.iload_n 1, 1) := by decide +kernel
theorem dX1_goLater_5 : decode cX1_goLater 5 = .ok (.aload_n 0, 1) := by decide +kernel
theorem dX1_goLater_6 : decode cX1_goLater 6 = .ok (.getfield 47, 3) := by decide +kernel
theorem dX1_goLater_9 : decode cX1_goLater 9 = .ok (.if_icmp .lt 4, 3) := by decide +kernel
theorem dX1_goLater_12 : decode cX1_goLater 12 = .ok (.return_, 1) := by decide +kernel
theorem dX1_goLater_13 : decode cX1_goLater 13 = .ok (.iload_n 1, 1) := by decide +kernel
theorem dX1_goLater_14 : decode cX1_goLater 14 = .ok (.istore_n 2, 1) := by decide +kernel
theorem dX1_goLater_15 : decode cX1_goLater 15 = .ok (.iload_n 2, 1) := by decide +kernel
theorem dX1_goLater_16 : decode cX1_goLater 16 = .ok (.iconst 1, 1) := by decide +kernel
theorem dX1_goLater_17 : decode cX1_goLater 17 = .ok (.iadd, 1) := by decide +kernel
theorem dX1_goLater_18 : decode cX1_goLater 18 = .ok (.aload_n 0, 1) := by decide +kernel
theorem dX1_goLater_19 : decode cX1_goLater 19 = .ok (.getfield 47, 3) := by decide +kernel
theorem dX1_goLater_22 : decode cX1_goLater 22 = .ok (.if_icmp .ge 35, 3) := by decide +kernel
theorem dX1_goLater_25 : decode cX1_goLater 25 = .ok (.iload_n 2, 1) := by decide +kernel
theorem dX1_goLater_26 : decode cX1_goLater 26 = .ok (.iconst 1, 1) := by decide +kernel
theorem dX1_goLater_27 : decode cX1_goLater 27 = .ok (.iadd, 1) := by decide +kernel
theorem dX1_goLater_28 : decode cX1_goLater 28 = .ok (.iconst 4, 1) := by decide +kernel
theorem dX1_goLater_29 : decode cX1_goLater 29 = .ok (.if_icmp .ge 28, 3) := by decide +kernel
theorem dX1_goLater_32 : decode cX1_goLater 32 = .ok (.aload_n 0, 1) := by decide +kernel
theorem dX1_goLater_33 : decode cX1_goLater 33 = .ok (.getfield 44, 3) := by decide +kernel
theorem dX1_goLater_36 : decode cX1_goLater 36 = .ok (.iload_n 2, 1) := by decide +kernel
theorem dX1_goLater_37 : decode cX1_goLater 37 = .ok (.iconst 1, 1) := by decide +kernel
theorem dX1_goLater_38 : decode cX1_goLater 38 = .ok (.iadd, 1) := by decide +kernel
theorem dX1_goLater_39 : decode cX1_goLater 39 = .ok (.aaload, 1) := by decide +kernel
theorem dX1_goLater_40 : decode cX1_goLater 40 = .ok (.aload_n 0, 1) := by decide +kernel
theorem dX1_goLater_41 : decode cX1_goLater 41 = .ok (.getfield 44, 3) := by decide +kernel
theorem dX1_goLater_44 : decode cX1_goLater 44 = .ok (.iload_n 2, 1) := by decide +kernel
theorem dX1_goLater_45 : decode cX1_goLater 45 = .ok (.aaload, 1) := by decide +kernel
theorem dX1_goLater_46 : decode cX1_goLater 46 = .ok (.bipush 16, 2) := by decide +kernel
theorem dX1_goLater_48 : decode cX1_goLater 48 = .ok (.invokestatic 92, 3) := by decide +kernel
theorem dX1_goLater_51 : decode cX1_goLater 51 = .ok (.iinc 2 1, 3) := by decide +kernel
theorem dX1_goLater_54 : decode cX1_goLater 54 = .ok (.goto (-39), 3) := by decide +kernel
theorem dX1_goLater_57 : decode cX1_goLater 57 = .ok (.aload_n 0, 1) := by decide +kernel
theorem dX1_goLater_58 : decode cX1_goLater 58 = .ok (.dup, 1) := by decide +kernel
theorem dX1_goLater_59 : decode cX1_goLater 59 = .ok (.getfield 47, 3) := by decide +kernel
theorem dX1_goLater_62 : decode cX1_goLater 62 = .ok (.iconst 1, 1) := by decide +kernel
theorem dX1_goLater_63 : decode cX1_goLater 63 = .ok (.isub, 1) := by decide +kernel
theorem dX1_goLater_64 : decode cX1_goLater 64 = .ok (.putfield 47, 3) := by decide +kernel
theorem dX1_goLater_67 : decode cX1_goLater 67 = .ok (.return_, 1) := by decide +kernel
theorem dX2_modulo_0 : decode cX2_modulo 0 = .ok (.iload_n 1, 1) := by decide +kernel
theorem dX2_modulo_1 : decode cX2_modulo 1 = .ok (.ifCond .le 11, 3) := by decide +kernel
theorem dX2_modulo_4 : decode cX2_modulo 4 = .ok (.iload_n 0, 1) := by decide +kernel
theorem dX2_modulo_5 : decode cX2_modulo 5 = .ok (.iload_n 1, 1) := by decide +kernel
theorem dX2_modulo_6 : decode cX2_modulo 6 = .ok (.invokestatic 9, 3) := by decide +kernel
theorem dX2_modulo_9 : decode cX2_modulo 9 = .ok (.goto 4, 3) := by decide +kernel
theorem dX2_modulo_12 : decode cX2_modulo 12 = .ok (.iconst 0, 1) := by decide +kernel
theorem dX2_modulo_13 : decode cX2_modulo 13 = .ok (.ireturn, 1) := by decide +kernel
theorem dX2_inverse_0 : decode cX2_inverse 0 = .ok (.iconst 1, 1) := by decide +kernel
theorem dX2_inverse_1 : decode cX2_inverse 1 = .ok (.istore_n 2, 1) := by decide +kernel
theorem dX2_inverse_2 : decode cX2_inverse 2 = .ok (.iload_n 2, 1) := by decide +kernel
theorem dX2_inverse_3 : decode cX2_inverse 3 = .ok (.iload_n 1, 1) := by decide +kernel
theorem dX2_inverse_4 : decode cX2_inverse 4 = .ok (.if_icmp .ge 20, 3) := by decide +kernel
theorem dX2_inverse_7 : decode cX2_inverse 7 = .ok (.iload_n 0, 1) := by decide +kernel
theorem dX2_inverse_8 : decode cX2_inverse 8 = .ok (.iload_n 2, 1) := by decide +kernel
theorem dX2_inverse_9 : decode cX2_inverse 9 = .ok (.imul, 1) := by decide +kernel
theorem dX2_inverse_10 : decode cX2_inverse 10 = .ok (.iload_n 1, 1) := by decide +kernel
theorem dX2_inverse_11 : decode cX2_inverse 11 = .ok (.irem, 1) := by decide +kernel
theorem dX2_inverse_12 : decode cX2_inverse 12 = .ok (.iconst 1, 1) := by decide +kernel
theorem dX2_inverse_13 : decode cX2_inverse 13 = .ok (.if_icmp .ne 5, 3) := by decide +kernel
theorem dX2_inverse_16 : decode cX2_inverse 16 = .ok (.iload_n 2, 1) := by decide +kernel
theorem dX2_inverse_17 : decode cX2_inverse 17 = .ok (.ireturn, 1) := by decide +kernel
theorem dX2_inverse_18 : decode cX2_inverse 18 = .ok (.iinc 2 1, 3) := by decide +kernel
theorem dX2_inverse_21 : decode cX2_inverse 21 = .ok (.goto (-19), 3) := by decide +kernel
theorem dX2_inverse_24 : decode cX2_inverse 24 = .ok (.iconst 0, 1) := by decide +kernel
theorem dX2_inverse_25 : decode cX2_inverse 25 = .ok (.ireturn, 1) := by decide +kernel
theorem dX2_sign_0 : decode cX2_sign 0 = .ok (.iload_n 0, 1) := by decide +kernel
theorem dX2_sign_1 : decode cX2_sign 1 = .ok (.iload_n 1, 1) := by decide +kernel
theorem dX2_sign_2 : decode cX2_sign 2 = .ok (.iand, 1) := by decide +kernel
theorem dX2_sign_3 : decode cX2_sign 3 = .ok (.ifCond .eq 5, 3) := by decide +kernel
theorem dX2_sign_6 : decode cX2_sign 6 = .ok (.iconst 0, 1) := by decide +kernel
theorem dX2_sign_7 : decode cX2_sign 7 = .ok (.ireturn, 1) := by decide +kernel
theorem dX2_sign_8 : decode cX2_sign 8 = .ok (.iload_n 0, 1) := by decide +kernel
theorem dX2_sign_9 : decode cX2_sign 9 = .ok (.iconst 1, 1) := by decide +kernel
theorem dX2_sign_10 : decode cX2_sign 10 = .ok (.ishr, 1) := by decide +kernel
theorem dX2_sign_11 : decode cX2_sign 11 = .ok (.iload_n 1, 1) := by decide +kernel
theorem dX2_sign_12 : decode cX2_sign 12 = .ok (.iand, 1) := by decide +kernel
theorem dX2_sign_13 : decode cX2_sign 13 = .ok (.invokestatic 15, 3) := by decide +kernel
theorem dX2_sign_16 : decode cX2_sign 16 = .ok (.iload_n 0, 1) := by decide +kernel
theorem dX2_sign_17 : decode cX2_sign 17 = .ok (.iconst 2, 1) := by decide +kernel
theorem dX2_sign_18 : decode cX2_sign 18 = .ok (.ishr, 1) := by decide +kernel
theorem dX2_sign_19 : decode cX2_sign 19 = .ok (.iload_n 1, 1) := by decide +kernel
theorem dX2_sign_20 : decode cX2_sign 20 = .ok (.iand, 1) := by decide +kernel
theorem dX2_sign_21 : decode cX2_sign 21 = .ok (.invokestatic 15, 3) := by decide +kernel
theorem dX2_sign_24 : decode cX2_sign 24 = .ok (.iadd, 1) := by decide +kernel
theorem dX2_sign_25 : decode cX2_sign 25 = .ok (.iload_n 0, 1) := by decide +kernel
theorem dX2_sign_26 : decode cX2_sign 26 = .ok (.iconst 3, 1) := by decide +kernel
theorem dX2_sign_27 : decode cX2_sign 27 = .ok (.ishr, 1) := by decide +kernel
theorem dX2_sign_28 : decode cX2_sign 28 = .ok (.iload_n 1, 1) := by decide +kernel
theorem dX2_sign_29 : decode cX2_sign 29 = .ok (.iand, 1) := by decide +kernel
theorem dX2_sign_30 : decode cX2_sign 30 = .ok (.invokestatic 15, 3) := by decide +kernel
theorem dX2_sign_33 : decode cX2_sign 33 = .ok (.iadd, 1) := by decide +kernel
theorem dX2_sign_34 : decode cX2_sign 34 = .ok (.istore_n 2, 1) := by decide +kernel
theorem dX2_sign_35 : decode cX2_sign 35 = .ok (.iload_n 2, 1) := by decide +kernel
theorem dX2_sign_36 : decode cX2_sign 36 = .ok (.iconst 1, 1) := by decide +kernel
theorem dX2_sign_37 : decode cX2_sign 37 = .ok (.iand, 1) := by decide +kernel
theorem dX2_sign_38 : decode cX2_sign 38 = .ok (.ifCond .ne 7, 3) := by decide +kernel
theorem dX2_sign_41 : decode cX2_sign 41 = .ok (.iconst 1, 1) := by decide +kernel
theorem dX2_sign_42 : decode cX2_sign 42 = .ok (.goto 4, 3) := by decide +kernel
theorem dX2_sign_45 : decode cX2_sign 45 = .ok (.iconst (-1), 1) := by decide +kernel
theorem dX2_sign_46 : decode cX2_sign 46 = .ok (.ireturn, 1) := by decide +kernel
theorem dX2_placeInOrder_0 : decode cX2_placeInOrder 0 = .ok (.iload_n 1, 1) := by decide +kernel
theorem dX2_placeInOrder_1 : decode cX2_placeInOrder 1 = .ok (.iconst 1, 1) := by decide +kernel
theorem dX2_placeInOrder_2 : decode cX2_placeInOrder 2 = .ok (.if_icmp .ne 21, 3) := by decide +kernel
theorem dX2_placeInOrder_5 : decode cX2_placeInOrder 5 = .ok (.iload_n 0, 1) := by decide +kernel
theorem dX2_placeInOrder_6 : decode cX2_placeInOrder 6 = .ok (.ifCond .lt 17, 3) := by decide +kernel
theorem dX2_placeInOrder_9 : decode cX2_placeInOrder 9 = .ok (.iload_n 0, 1) := by decide +kernel
theorem dX2_placeInOrder_10 : decode cX2_placeInOrder 10 = .ok (.bipush 16, 2) := by decide +kernel
theorem dX2_placeInOrder_12 : decode cX2_placeInOrder 12 = .ok (.if_icmp .ge 11, 3) := by decide +kernel
theorem dX2_placeInOrder_15 : decode cX2_placeInOrder 15 = .ok (.getstatic 21, 3) := by decide +kernel
theorem dX2_placeInOrder_18 : decode cX2_placeInOrder 18 = .ok (.iload_n 0, 1) := by decide +kernel
theorem dX2_placeInOrder_19 : decode cX2_placeInOrder 19 = .ok (.iaload, 1) := by decide +kernel
theorem dX2_placeInOrder_20 : decode cX2_placeInOrder 20 = .ok (.goto 4, 3) := by decide +kernel
theorem dX2_placeInOrder_23 : decode cX2_placeInOrder 23 = .ok (.iload_n 0, 1) := by decide +kernel
theorem dX2_placeInOrder_24 : decode cX2_placeInOrder 24 = .ok (.ireturn, 1) := by decide +kernel
theorem dX2_leadIn_0 : decode cX2_leadIn 0 = .ok (.iconst 0, 1) := by decide +kernel
theorem dX2_leadIn_1 : decode cX2_leadIn 1 = .ok (.istore_n 3, 1) := by decide +kernel
theorem dX2_leadIn_2 : decode cX2_leadIn 2 = .ok (.iload_n 3, 1) := by decide +kernel
theorem dX2_leadIn_3 : decode cX2_leadIn 3 = .ok (.iload_n 1, 1) := by decide +kernel
theorem dX2_leadIn_4 : decode cX2_leadIn 4 = .ok (.if_icmp .lt 9, 3) := by decide +kernel
theorem dX2_leadIn_7 : decode cX2_leadIn 7 = .ok (.iload_n 3, 1) := by decide +kernel
theorem dX2_leadIn_8 : decode cX2_leadIn 8 = .ok (.bipush 16, 2) := by decide +kernel
theorem dX2_leadIn_10 : decode cX2_leadIn 10 = .ok (.if_icmp .ge 32, 3) := by decide +kernel
theorem dX2_leadIn_13 : decode cX2_leadIn 13 = .ok (.iload_n 3, 1) := by decide +kernel
theorem dX2_leadIn_14 : decode cX2_leadIn 14 = .ok (.iload_n 2, 1) := by decide +kernel
theorem dX2_leadIn_15 : decode cX2_leadIn 15 = .ok (.invokestatic 27, 3) := by decide +kernel
theorem dX2_leadIn_18 : decode cX2_leadIn 18 = .ok (.istore 4, 2) := by decide +kernel
theorem dX2_leadIn_20 : decode cX2_leadIn 20 = .ok (.iload 4, 2) := by decide +kernel
theorem dX2_leadIn_22 : decode cX2_leadIn 22 = .ok (.iload_n 1, 1) := by decide +kernel
theorem dX2_leadIn_23 : decode cX2_leadIn 23 = .ok (.if_icmp .ge 13, 3) := by decide +kernel
theorem dX2_leadIn_26 : decode cX2_leadIn 26 = .ok (.aload_n 0, 1) := by decide +kernel
theorem dX2_leadIn_27 : decode cX2_leadIn 27 = .ok (.iload 4, 2) := by decide +kernel
theorem dX2_leadIn_29 : decode cX2_leadIn 29 = .ok (.iaload, 1) := by decide +kernel
theorem dX2_leadIn_30 : decode cX2_leadIn 30 = .ok (.ifCond .eq 6, 3) := by decide +kernel
theorem dX2_leadIn_33 : decode cX2_leadIn 33 = .ok (.iload 4, 2) := by decide +kernel
theorem dX2_leadIn_35 : decode cX2_leadIn 35 = .ok (.ireturn, 1) := by decide +kernel
theorem dX2_leadIn_36 : decode cX2_leadIn 36 = .ok (.iinc 3 1, 3) := by decide +kernel
theorem dX2_leadIn_39 : decode cX2_leadIn 39 = .ok (.goto (-37), 3) := by decide +kernel
theorem dX2_leadIn_42 : decode cX2_leadIn 42 = .ok (.iconst (-1), 1) := by decide +kernel
theorem dX2_leadIn_43 : decode cX2_leadIn 43 = .ok (.ireturn, 1) := by decide +kernel
theorem dX2_placesOfDegree_0 : decode cX2_placesOfDegree 0 = .ok (.iconst 0, 1) := by decide +kernel
theorem dX2_placesOfDegree_1 : decode cX2_placesOfDegree 1 = .ok (.istore_n 2, 1) := by decide +kernel
theorem dX2_placesOfDegree_2 : decode cX2_placesOfDegree 2 = .ok (.iconst 0, 1) := by decide +kernel
theorem dX2_placesOfDegree_3 : decode cX2_placesOfDegree 3 = .ok (.istore_n 3, 1) := by decide +kernel
theorem dX2_placesOfDegree_4 : decode cX2_placesOfDegree 4 = .ok (.iload_n 3, 1) := by decide +kernel
theorem dX2_placesOfDegree_5 : decode cX2_placesOfDegree 5 = .ok (.iload_n 1, 1) := by decide +kernel
theorem dX2_placesOfDegree_6 : decode cX2_placesOfDegree 6 = .ok (.if_icmp .ge 25, 3) := by decide +kernel
theorem dX2_placesOfDegree_9 : decode cX2_placesOfDegree 9 = .ok (.iload_n 2, 1) := by decide +kernel
theorem dX2_placesOfDegree_10 : decode cX2_placesOfDegree 10 = .ok (.iload_n 3, 1) := by decide +kernel
theorem dX2_placesOfDegree_11 : decode cX2_placesOfDegree 11 = .ok (.invokestatic 15, 3) := by decide +kernel
theorem dX2_placesOfDegree_14 : decode cX2_placesOfDegree 14 = .ok (.iload_n 0, 1) := by decide +kernel
theorem dX2_placesOfDegree_15 : decode cX2_placesOfDegree 15 = .ok (.if_icmp .ne 7, 3) := by decide +kernel
theorem dX2_placesOfDegree_18 : decode cX2_placesOfDegree 18 = .ok (.iconst 1, 1) := by decide +kernel
theorem dX2_placesOfDegree_19 : decode cX2_placesOfDegree 19 = .ok (.goto 4, 3) := by decide +kernel
theorem dX2_placesOfDegree_22 : decode cX2_placesOfDegree 22 = .ok (.iconst 0, 1) := by decide +kernel
theorem dX2_placesOfDegree_23 : decode cX2_placesOfDegree 23 = .ok (.iadd, 1) := by decide +kernel
theorem dX2_placesOfDegree_24 : decode cX2_placesOfDegree 24 = .ok (.istore_n 2, 1) := by decide +kernel
theorem dX2_placesOfDegree_25 : decode cX2_placesOfDegree 25 = .ok (.iinc 3 1, 3) := by decide +kernel
theorem dX2_placesOfDegree_28 : decode cX2_placesOfDegree 28 = .ok (.goto (-24), 3) := by decide +kernel
theorem dX2_placesOfDegree_31 : decode cX2_placesOfDegree 31 = .ok (.iload_n 2, 1) := by decide +kernel
theorem dX2_placesOfDegree_32 : decode cX2_placesOfDegree 32 = .ok (.ireturn, 1) := by decide +kernel
theorem dX2_copy_0 : decode cX2_copy 0 = .ok (.iconst 0, 1) := by decide +kernel
theorem dX2_copy_1 : decode cX2_copy 1 = .ok (.istore_n 3, 1) := by decide +kernel
theorem dX2_copy_2 : decode cX2_copy 2 = .ok (.iload_n 3, 1) := by decide +kernel
theorem dX2_copy_3 : decode cX2_copy 3 = .ok (.iload_n 2, 1) := by decide +kernel
theorem dX2_copy_4 : decode cX2_copy 4 = .ok (.if_icmp .ge 27, 3) := by decide +kernel
theorem dX2_copy_7 : decode cX2_copy 7 = .ok (.iload_n 3, 1) := by decide +kernel
theorem dX2_copy_8 : decode cX2_copy 8 = .ok (.aload_n 0, 1) := by decide +kernel
theorem dX2_copy_9 : decode cX2_copy 9 = .ok (.arraylength, 1) := by decide +kernel
theorem dX2_copy_10 : decode cX2_copy 10 = .ok (.if_icmp .ge 21, 3) := by decide +kernel
theorem dX2_copy_13 : decode cX2_copy 13 = .ok (.iload_n 3, 1) := by decide +kernel
theorem dX2_copy_14 : decode cX2_copy 14 = .ok (.aload_n 1, 1) := by decide +kernel
theorem dX2_copy_15 : decode cX2_copy 15 = .ok (.arraylength, 1) := by decide +kernel
theorem dX2_copy_16 : decode cX2_copy 16 = .ok (.if_icmp .ge 15, 3) := by decide +kernel
theorem dX2_copy_19 : decode cX2_copy 19 = .ok (.aload_n 1, 1) := by decide +kernel
theorem dX2_copy_20 : decode cX2_copy 20 = .ok (.iload_n 3, 1) := by decide +kernel
theorem dX2_copy_21 : decode cX2_copy 21 = .ok (.aload_n 0, 1) := by decide +kernel
theorem dX2_copy_22 : decode cX2_copy 22 = .ok (.iload_n 3, 1) := by decide +kernel
theorem dX2_copy_23 : decode cX2_copy 23 = .ok (.iaload, 1) := by decide +kernel
theorem dX2_copy_24 : decode cX2_copy 24 = .ok (.iastore, 1) := by decide +kernel
theorem dX2_copy_25 : decode cX2_copy 25 = .ok (.iinc 3 1, 3) := by decide +kernel
theorem dX2_copy_28 : decode cX2_copy 28 = .ok (.goto (-26), 3) := by decide +kernel
theorem dX2_copy_31 : decode cX2_copy 31 = .ok (.return_, 1) := by decide +kernel
theorem dX2_nonZeros_0 : decode cX2_nonZeros 0 = .ok (.iconst 0, 1) := by decide +kernel
theorem dX2_nonZeros_1 : decode cX2_nonZeros 1 = .ok (.istore_n 2, 1) := by decide +kernel
theorem dX2_nonZeros_2 : decode cX2_nonZeros 2 = .ok (.iconst 0, 1) := by decide +kernel
theorem dX2_nonZeros_3 : decode cX2_nonZeros 3 = .ok (.istore_n 3, 1) := by decide +kernel
theorem dX2_nonZeros_4 : decode cX2_nonZeros 4 = .ok (.iload_n 3, 1) := by decide +kernel
theorem dX2_nonZeros_5 : decode cX2_nonZeros 5 = .ok (.iload_n 1, 1) := by decide +kernel
theorem dX2_nonZeros_6 : decode cX2_nonZeros 6 = .ok (.if_icmp .ge 29, 3) := by decide +kernel
theorem dX2_nonZeros_9 : decode cX2_nonZeros 9 = .ok (.iload_n 3, 1) := by decide +kernel
theorem dX2_nonZeros_10 : decode cX2_nonZeros 10 = .ok (.aload_n 0, 1) := by decide +kernel
theorem dX2_nonZeros_11 : decode cX2_nonZeros 11 = .ok (.arraylength, 1) := by decide +kernel
theorem dX2_nonZeros_12 : decode cX2_nonZeros 12 = .ok (.if_icmp .ge 23, 3) := by decide +kernel
theorem dX2_nonZeros_15 : decode cX2_nonZeros 15 = .ok (.iload_n 2, 1) := by decide +kernel
theorem dX2_nonZeros_16 : decode cX2_nonZeros 16 = .ok (.aload_n 0, 1) := by decide +kernel
theorem dX2_nonZeros_17 : decode cX2_nonZeros 17 = .ok (.iload_n 3, 1) := by decide +kernel
theorem dX2_nonZeros_18 : decode cX2_nonZeros 18 = .ok (.iaload, 1) := by decide +kernel
theorem dX2_nonZeros_19 : decode cX2_nonZeros 19 = .ok (.ifCond .eq 7, 3) := by decide +kernel
theorem dX2_nonZeros_22 : decode cX2_nonZeros 22 = .ok (.iconst 1, 1) := by decide +kernel
theorem dX2_nonZeros_23 : decode cX2_nonZeros 23 = .ok (.goto 4, 3) := by decide +kernel
theorem dX2_nonZeros_26 : decode cX2_nonZeros 26 = .ok (.iconst 0, 1) := by decide +kernel
theorem dX2_nonZeros_27 : decode cX2_nonZeros 27 = .ok (.iadd, 1) := by decide +kernel
theorem dX2_nonZeros_28 : decode cX2_nonZeros 28 = .ok (.istore_n 2, 1) := by decide +kernel
theorem dX2_nonZeros_29 : decode cX2_nonZeros 29 = .ok (.iinc 3 1, 3) := by decide +kernel
theorem dX2_nonZeros_32 : decode cX2_nonZeros 32 = .ok (.goto (-28), 3) := by decide +kernel
theorem dX2_nonZeros_35 : decode cX2_nonZeros 35 = .ok (.iload_n 2, 1) := by decide +kernel
theorem dX2_nonZeros_36 : decode cX2_nonZeros 36 = .ok (.ireturn, 1) := by decide +kernel
theorem dX2_multiply_0 : decode cX2_multiply 0 = .ok (.iconst 0, 1) := by decide +kernel
theorem dX2_multiply_1 : decode cX2_multiply 1 = .ok (.istore 5, 2) := by decide +kernel
theorem dX2_multiply_3 : decode cX2_multiply 3 = .ok (.iload 5, 2) := by decide +kernel
theorem dX2_multiply_5 : decode cX2_multiply 5 = .ok (.iload_n 3, 1) := by decide +kernel
theorem dX2_multiply_6 : decode cX2_multiply 6 = .ok (.if_icmp .ge 76, 3) := by decide +kernel
theorem dX2_multiply_9 : decode cX2_multiply 9 = .ok (.iconst 0, 1) := by decide +kernel
theorem dX2_multiply_10 : decode cX2_multiply 10 = .ok (.istore 6, 2) := by decide +kernel
theorem dX2_multiply_12 : decode cX2_multiply 12 = .ok (.iconst 0, 1) := by decide +kernel
theorem dX2_multiply_13 : decode cX2_multiply 13 = .ok (.istore 7, 2) := by decide +kernel
theorem dX2_multiply_15 : decode cX2_multiply 15 = .ok (.iload 7, 2) := by decide +kernel
theorem dX2_multiply_17 : decode cX2_multiply 17 = .ok (.iload_n 3, 1) := by decide +kernel
theorem dX2_multiply_18 : decode cX2_multiply 18 = .ok (.if_icmp .ge 47, 3) := by decide +kernel
theorem dX2_multiply_21 : decode cX2_multiply 21 = .ok (.iload 7, 2) := by decide +kernel
theorem dX2_multiply_23 : decode cX2_multiply 23 = .ok (.iload 5, 2) := by decide +kernel
theorem dX2_multiply_25 : decode cX2_multiply 25 = .ok (.iconst (-1), 1) := by decide +kernel
theorem dX2_multiply_26 : decode cX2_multiply 26 = .ok (.ixor, 1) := by decide +kernel
theorem dX2_multiply_27 : decode cX2_multiply 27 = .ok (.iand, 1) := by decide +kernel
theorem dX2_multiply_28 : decode cX2_multiply 28 = .ok (.ifCond .ne 31, 3) := by decide +kernel
theorem dX2_multiply_31 : decode cX2_multiply 31 = .ok (.iload 6, 2) := by decide +kernel
theorem dX2_multiply_33 : decode cX2_multiply 33 = .ok (.iload 7, 2) := by decide +kernel
theorem dX2_multiply_35 : decode cX2_multiply 35 = .ok (.iload 5, 2) := by decide +kernel
theorem dX2_multiply_37 : decode cX2_multiply 37 = .ok (.iload 7, 2) := by decide +kernel
theorem dX2_multiply_39 : decode cX2_multiply 39 = .ok (.ixor, 1) := by decide +kernel
theorem dX2_multiply_40 : decode cX2_multiply 40 = .ok (.invokestatic 30, 3) := by decide +kernel
theorem dX2_multiply_43 : decode cX2_multiply 43 = .ok (.aload_n 0, 1) := by decide +kernel
theorem dX2_multiply_44 : decode cX2_multiply 44 = .ok (.iload 7, 2) := by decide +kernel
theorem dX2_multiply_46 : decode cX2_multiply 46 = .ok (.iaload, 1) := by decide +kernel
theorem dX2_multiply_47 : decode cX2_multiply 47 = .ok (.imul, 1) := by decide +kernel
theorem dX2_multiply_48 : decode cX2_multiply 48 = .ok (.aload_n 1, 1) := by decide +kernel
theorem dX2_multiply_49 : decode cX2_multiply 49 = .ok (.iload 5, 2) := by decide +kernel
theorem dX2_multiply_51 : decode cX2_multiply 51 = .ok (.iload 7, 2) := by decide +kernel
theorem dX2_multiply_53 : decode cX2_multiply 53 = .ok (.ixor, 1) := by decide +kernel
theorem dX2_multiply_54 : decode cX2_multiply 54 = .ok (.iaload, 1) := by decide +kernel
theorem dX2_multiply_55 : decode cX2_multiply 55 = .ok (.imul, 1) := by decide +kernel
theorem dX2_multiply_56 : decode cX2_multiply 56 = .ok (.iadd, 1) := by decide +kernel
theorem dX2_multiply_57 : decode cX2_multiply 57 = .ok (.istore 6, 2) := by decide +kernel
theorem dX2_multiply_59 : decode cX2_multiply 59 = .ok (.iinc 7 1, 3) := by decide +kernel
theorem dX2_multiply_62 : decode cX2_multiply 62 = .ok (.goto (-47), 3) := by decide +kernel
theorem dX2_multiply_65 : decode cX2_multiply 65 = .ok (.aload_n 2, 1) := by decide +kernel
theorem dX2_multiply_66 : decode cX2_multiply 66 = .ok (.iload 5, 2) := by decide +kernel
theorem dX2_multiply_68 : decode cX2_multiply 68 = .ok (.iload 6, 2) := by decide +kernel
theorem dX2_multiply_70 : decode cX2_multiply 70 = .ok (.iload 4, 2) := by decide +kernel
theorem dX2_multiply_72 : decode cX2_multiply 72 = .ok (.invokestatic 33, 3) := by decide +kernel
theorem dX2_multiply_75 : decode cX2_multiply 75 = .ok (.iastore, 1) := by decide +kernel
theorem dX2_multiply_76 : decode cX2_multiply 76 = .ok (.iinc 5 1, 3) := by decide +kernel
theorem dX2_multiply_79 : decode cX2_multiply 79 = .ok (.goto (-76), 3) := by decide +kernel
theorem dX2_multiply_82 : decode cX2_multiply 82 = .ok (.return_, 1) := by decide +kernel
theorem dX2_turn_0 : decode cX2_turn 0 = .ok (.iconst 0, 1) := by decide +kernel
theorem dX2_turn_1 : decode cX2_turn 1 = .ok (.istore 4, 2) := by decide +kernel
theorem dX2_turn_3 : decode cX2_turn 3 = .ok (.iload 4, 2) := by decide +kernel
theorem dX2_turn_5 : decode cX2_turn 5 = .ok (.iload_n 2, 1) := by decide +kernel
theorem dX2_turn_6 : decode cX2_turn 6 = .ok (.if_icmp .ge 62, 3) := by decide +kernel
theorem dX2_turn_9 : decode cX2_turn 9 = .ok (.iload 4, 2) := by decide +kernel
theorem dX2_turn_11 : decode cX2_turn 11 = .ok (.invokestatic 15, 3) := by decide +kernel
theorem dX2_turn_14 : decode cX2_turn 14 = .ok (.istore 5, 2) := by decide +kernel
theorem dX2_turn_16 : decode cX2_turn 16 = .ok (.iload 5, 2) := by decide +kernel
theorem dX2_turn_18 : decode cX2_turn 18 = .ok (.iload 5, 2) := by decide +kernel
theorem dX2_turn_20 : decode cX2_turn 20 = .ok (.iconst 1, 1) := by decide +kernel
theorem dX2_turn_21 : decode cX2_turn 21 = .ok (.isub, 1) := by decide +kernel
theorem dX2_turn_22 : decode cX2_turn 22 = .ok (.imul, 1) := by decide +kernel
theorem dX2_turn_23 : decode cX2_turn 23 = .ok (.iconst 2, 1) := by decide +kernel
theorem dX2_turn_24 : decode cX2_turn 24 = .ok (.idiv, 1) := by decide +kernel
theorem dX2_turn_25 : decode cX2_turn 25 = .ok (.iconst 1, 1) := by decide +kernel
theorem dX2_turn_26 : decode cX2_turn 26 = .ok (.iand, 1) := by decide +kernel
theorem dX2_turn_27 : decode cX2_turn 27 = .ok (.ifCond .eq 7, 3) := by decide +kernel
theorem dX2_turn_30 : decode cX2_turn 30 = .ok (.iconst 1, 1) := by decide +kernel
theorem dX2_turn_31 : decode cX2_turn 31 = .ok (.goto 4, 3) := by decide +kernel
theorem dX2_turn_34 : decode cX2_turn 34 = .ok (.iconst 0, 1) := by decide +kernel
theorem dX2_turn_35 : decode cX2_turn 35 = .ok (.istore 6, 2) := by decide +kernel
theorem dX2_turn_37 : decode cX2_turn 37 = .ok (.aload_n 1, 1) := by decide +kernel
theorem dX2_turn_38 : decode cX2_turn 38 = .ok (.iload 4, 2) := by decide +kernel
theorem dX2_turn_40 : decode cX2_turn 40 = .ok (.iload 6, 2) := by decide +kernel
theorem dX2_turn_42 : decode cX2_turn 42 = .ok (.ifCond .eq 11, 3) := by decide +kernel
theorem dX2_turn_45 : decode cX2_turn 45 = .ok (.aload_n 0, 1) := by decide +kernel
theorem dX2_turn_46 : decode cX2_turn 46 = .ok (.iload 4, 2) := by decide +kernel
theorem dX2_turn_48 : decode cX2_turn 48 = .ok (.iaload, 1) := by decide +kernel
theorem dX2_turn_49 : decode cX2_turn 49 = .ok (.ineg, 1) := by decide +kernel
theorem dX2_turn_50 : decode cX2_turn 50 = .ok (.goto 7, 3) := by decide +kernel
theorem dX2_turn_53 : decode cX2_turn 53 = .ok (.aload_n 0, 1) := by decide +kernel
theorem dX2_turn_54 : decode cX2_turn 54 = .ok (.iload 4, 2) := by decide +kernel
theorem dX2_turn_56 : decode cX2_turn 56 = .ok (.iaload, 1) := by decide +kernel
theorem dX2_turn_57 : decode cX2_turn 57 = .ok (.iload_n 3, 1) := by decide +kernel
theorem dX2_turn_58 : decode cX2_turn 58 = .ok (.invokestatic 33, 3) := by decide +kernel
theorem dX2_turn_61 : decode cX2_turn 61 = .ok (.iastore, 1) := by decide +kernel
theorem dX2_turn_62 : decode cX2_turn 62 = .ok (.iinc 4 1, 3) := by decide +kernel
theorem dX2_turn_65 : decode cX2_turn 65 = .ok (.goto (-62), 3) := by decide +kernel
theorem dX2_turn_68 : decode cX2_turn 68 = .ok (.return_, 1) := by decide +kernel
theorem dX2_complement_0 : decode cX2_complement 0 = .ok (.iconst 0, 1) := by decide +kernel
theorem dX2_complement_1 : decode cX2_complement 1 = .ok (.istore 4, 2) := by decide +kernel
theorem dX2_complement_3 : decode cX2_complement 3 = .ok (.iload 4, 2) := by decide +kernel
theorem dX2_complement_5 : decode cX2_complement 5 = .ok (.iload_n 2, 1) := by decide +kernel
theorem dX2_complement_6 : decode cX2_complement 6 = .ok (.if_icmp .ge 37, 3) := by decide +kernel
theorem dX2_complement_9 : decode cX2_complement 9 = .ok (.iload_n 2, 1) := by decide +kernel
theorem dX2_complement_10 : decode cX2_complement 10 = .ok (.iconst 1, 1) := by decide +kernel
theorem dX2_complement_11 : decode cX2_complement 11 = .ok (.isub, 1) := by decide +kernel
theorem dX2_complement_12 : decode cX2_complement 12 = .ok (.iload 4, 2) := by decide +kernel
theorem dX2_complement_14 : decode cX2_complement 14 = .ok (.ixor, 1) := by decide +kernel
theorem dX2_complement_15 : decode cX2_complement 15 = .ok (.istore 5, 2) := by decide +kernel
theorem dX2_complement_17 : decode cX2_complement 17 = .ok (.aload_n 1, 1) := by decide +kernel
theorem dX2_complement_18 : decode cX2_complement 18 = .ok (.iload 4, 2) := by decide +kernel
theorem dX2_complement_20 : decode cX2_complement 20 = .ok (.iload 5, 2) := by decide +kernel
theorem dX2_complement_22 : decode cX2_complement 22 = .ok (.iload 4, 2) := by decide +kernel
theorem dX2_complement_24 : decode cX2_complement 24 = .ok (.invokestatic 30, 3) := by decide +kernel
theorem dX2_complement_27 : decode cX2_complement 27 = .ok (.aload_n 0, 1) := by decide +kernel
theorem dX2_complement_28 : decode cX2_complement 28 = .ok (.iload 5, 2) := by decide +kernel
theorem dX2_complement_30 : decode cX2_complement 30 = .ok (.iaload, 1) := by decide +kernel
theorem dX2_complement_31 : decode cX2_complement 31 = .ok (.imul, 1) := by decide +kernel
theorem dX2_complement_32 : decode cX2_complement 32 = .ok (.iload_n 3, 1) := by decide +kernel
theorem dX2_complement_33 : decode cX2_complement 33 = .ok (.invokestatic 33, 3) := by decide +kernel
theorem dX2_complement_36 : decode cX2_complement 36 = .ok (.iastore, 1) := by decide +kernel
theorem dX2_complement_37 : decode cX2_complement 37 = .ok (.iinc 4 1, 3) := by decide +kernel
theorem dX2_complement_40 : decode cX2_complement 40 = .ok (.goto (-37), 3) := by decide +kernel
theorem dX2_complement_43 : decode cX2_complement 43 = .ok (.return_, 1) := by decide +kernel
theorem dX2_byLetter_0 : decode cX2_byLetter 0 = .ok (.iconst 1, 1) := by decide +kernel
theorem dX2_byLetter_1 : decode cX2_byLetter 1 = .ok (.iload_n 1, 1) := by decide +kernel
theorem dX2_byLetter_2 : decode cX2_byLetter 2 = .ok (.ishl, 1) := by decide +kernel
theorem dX2_byLetter_3 : decode cX2_byLetter 3 = .ok (.istore 6, 2) := by decide +kernel
theorem dX2_byLetter_5 : decode cX2_byLetter 5 = .ok (.iconst 0, 1) := by decide +kernel
theorem dX2_byLetter_6 : decode cX2_byLetter 6 = .ok (.istore 7, 2) := by decide +kernel
theorem dX2_byLetter_8 : decode cX2_byLetter 8 = .ok (.iload 7, 2) := by decide +kernel
theorem dX2_byLetter_10 : decode cX2_byLetter 10 = .ok (.iload 4, 2) := by decide +kernel
theorem dX2_byLetter_12 : decode cX2_byLetter 12 = .ok (.if_icmp .ge 68, 3) := by decide +kernel
theorem dX2_byLetter_15 : decode cX2_byLetter 15 = .ok (.iload 7, 2) := by decide +kernel
theorem dX2_byLetter_17 : decode cX2_byLetter 17 = .ok (.iload 6, 2) := by decide +kernel
theorem dX2_byLetter_19 : decode cX2_byLetter 19 = .ok (.iconst (-1), 1) := by decide +kernel
theorem dX2_byLetter_20 : decode cX2_byLetter 20 = .ok (.ixor, 1) := by decide +kernel
theorem dX2_byLetter_21 : decode cX2_byLetter 21 = .ok (.iand, 1) := by decide +kernel
theorem dX2_byLetter_22 : decode cX2_byLetter 22 = .ok (.istore 8, 2) := by decide +kernel
theorem dX2_byLetter_24 : decode cX2_byLetter 24 = .ok (.iload_n 0, 1) := by decide +kernel
theorem dX2_byLetter_25 : decode cX2_byLetter 25 = .ok (.ifCond .ne 13, 3) := by decide +kernel
theorem dX2_byLetter_28 : decode cX2_byLetter 28 = .ok (.iload 6, 2) := by decide +kernel
theorem dX2_byLetter_30 : decode cX2_byLetter 30 = .ok (.iload 8, 2) := by decide +kernel
theorem dX2_byLetter_32 : decode cX2_byLetter 32 = .ok (.invokestatic 30, 3) := by decide +kernel
theorem dX2_byLetter_35 : decode cX2_byLetter 35 = .ok (.goto 10, 3) := by decide +kernel
theorem dX2_byLetter_38 : decode cX2_byLetter 38 = .ok (.iload 8, 2) := by decide +kernel
theorem dX2_byLetter_40 : decode cX2_byLetter 40 = .ok (.iload 6, 2) := by decide +kernel
theorem dX2_byLetter_42 : decode cX2_byLetter 42 = .ok (.invokestatic 30, 3) := by decide +kernel
theorem dX2_byLetter_45 : decode cX2_byLetter 45 = .ok (.istore 9, 2) := by decide +kernel
theorem dX2_byLetter_47 : decode cX2_byLetter 47 = .ok (.aload_n 3, 1) := by decide +kernel
theorem dX2_byLetter_48 : decode cX2_byLetter 48 = .ok (.iload 7, 2) := by decide +kernel
theorem dX2_byLetter_50 : decode cX2_byLetter 50 = .ok (.iload 8, 2) := by decide +kernel
theorem dX2_byLetter_52 : decode cX2_byLetter 52 = .ok (.iload 7, 2) := by decide +kernel
theorem dX2_byLetter_54 : decode cX2_byLetter 54 = .ok (.if_icmp .ne 7, 3) := by decide +kernel
theorem dX2_byLetter_57 : decode cX2_byLetter 57 = .ok (.iconst 0, 1) := by decide +kernel
theorem dX2_byLetter_58 : decode cX2_byLetter 58 = .ok (.goto 15, 3) := by decide +kernel
theorem dX2_byLetter_61 : decode cX2_byLetter 61 = .ok (.iload 9, 2) := by decide +kernel
theorem dX2_byLetter_63 : decode cX2_byLetter 63 = .ok (.aload_n 2, 1) := by decide +kernel
theorem dX2_byLetter_64 : decode cX2_byLetter 64 = .ok (.iload 8, 2) := by decide +kernel
theorem dX2_byLetter_66 : decode cX2_byLetter 66 = .ok (.iaload, 1) := by decide +kernel
theorem dX2_byLetter_67 : decode cX2_byLetter 67 = .ok (.imul, 1) := by decide +kernel
theorem dX2_byLetter_68 : decode cX2_byLetter 68 = .ok (.iload 5, 2) := by decide +kernel
theorem dX2_byLetter_70 : decode cX2_byLetter 70 = .ok (.invokestatic 33, 3) := by decide +kernel
theorem dX2_byLetter_73 : decode cX2_byLetter 73 = .ok (.iastore, 1) := by decide +kernel
theorem dX2_byLetter_74 : decode cX2_byLetter 74 = .ok (.iinc 7 1, 3) := by decide +kernel
theorem dX2_byLetter_77 : decode cX2_byLetter 77 = .ok (.goto (-69), 3) := by decide +kernel
theorem dX2_byLetter_80 : decode cX2_byLetter 80 = .ok (.return_, 1) := by decide +kernel
theorem dX3_init_0 : decode cX3_init 0 = .ok (.aload_n 0, 1) := by decide +kernel
theorem dX3_init_1 : decode cX3_init 1 = .ok (.invokespecial 3, 3) := by decide +kernel
theorem dX3_init_4 : decode cX3_init 4 = .ok (.aload_n 0, 1) := by decide +kernel
theorem dX3_init_5 : decode cX3_init 5 = .ok (.bipush 100, 2) := by decide +kernel
theorem dX3_init_7 : decode cX3_init 7 = .ok (.newarray .int, 2) := by decide +kernel
theorem dX3_init_9 : decode cX3_init 9 = .ok (.putfield 11, 3) := by decide +kernel
theorem dX3_init_12 : decode cX3_init 12 = .ok (.aload_n 0, 1) := by decide +kernel
theorem dX3_init_13 : decode cX3_init 13 = .ok (.iconst 0, 1) := by decide +kernel
theorem dX3_init_14 : decode cX3_init 14 = .ok (.putfield 15, 3) := by decide +kernel
theorem dX3_init_17 : decode cX3_init 17 = .ok (.aload_n 0, 1) := by decide +kernel
theorem dX3_init_18 : decode cX3_init 18 = .ok (.iconst 0, 1) := by decide +kernel
theorem dX3_init_19 : decode cX3_init 19 = .ok (.putfield 19, 3) := by decide +kernel
theorem dX3_init_22 : decode cX3_init 22 = .ok (.aload_n 0, 1) := by decide +kernel
theorem dX3_init_23 : decode cX3_init 23 = .ok (.bipush 16, 2) := by decide +kernel
theorem dX3_init_25 : decode cX3_init 25 = .ok (.newarray .int, 2) := by decide +kernel
theorem dX3_init_27 : decode cX3_init 27 = .ok (.putfield 22, 3) := by decide +kernel
theorem dX3_init_30 : decode cX3_init 30 = .ok (.return_, 1) := by decide +kernel
theorem dX3_append_0 : decode cX3_append 0 = .ok (.aload_n 0, 1) := by decide +kernel
theorem dX3_append_1 : decode cX3_append 1 = .ok (.getfield 15, 3) := by decide +kernel
theorem dX3_append_4 : decode cX3_append 4 = .ok (.bipush 100, 2) := by decide +kernel
theorem dX3_append_6 : decode cX3_append 6 = .ok (.if_icmp .lt 5, 3) := by decide +kernel
theorem dX3_append_9 : decode cX3_append 9 = .ok (.iconst 0, 1) := by decide +kernel
theorem dX3_append_10 : decode cX3_append 10 = .ok (.ireturn, 1) := by decide +kernel
theorem dX3_append_11 : decode cX3_append 11 = .ok (.aload_n 0, 1) := by decide +kernel
theorem dX3_append_12 : decode cX3_append 12 = .ok (.getfield 11, 3) := by decide +kernel
theorem dX3_append_15 : decode cX3_append 15 = .ok (.aload_n 0, 1) := by decide +kernel
theorem dX3_append_16 : decode cX3_append 16 = .ok (.getfield 15, 3) := by decide +kernel
theorem dX3_append_19 : decode cX3_append 19 = .ok (.iload_n 1, 1) := by decide +kernel
theorem dX3_append_20 : decode cX3_append 20 = .ok (.iastore, 1) := by decide +kernel
theorem dX3_append_21 : decode cX3_append 21 = .ok (.aload_n 0, 1) := by decide +kernel
theorem dX3_append_22 : decode cX3_append 22 = .ok (.dup, 1) := by decide +kernel
theorem dX3_append_23 : decode cX3_append 23 = .ok (.getfield 15, 3) := by decide +kernel
theorem dX3_append_26 : decode cX3_append 26 = .ok (.iconst 1, 1) := by decide +kernel
theorem dX3_append_27 : decode cX3_append 27 = .ok (.iadd, 1) := by decide +kernel
theorem dX3_append_28 : decode cX3_append 28 = .ok (.putfield 15, 3) := by decide +kernel
theorem dX3_append_31 : decode cX3_append 31 = .ok (.iconst 1, 1) := by decide +kernel
theorem dX3_append_32 : decode cX3_append 32 = .ok (.ireturn, 1) := by decide +kernel
theorem dX3_faultPlace_0 : decode cX3_faultPlace 0 = .ok (.aload_n 0, 1) := by decide +kernel
theorem dX3_faultPlace_1 : decode cX3_faultPlace 1 = .ok (.iconst 0, 1) := by decide +kernel
theorem dX3_faultPlace_2 : decode cX3_faultPlace 2 = .ok (.putfield 19, 3) := by decide +kernel
theorem dX3_faultPlace_5 : decode cX3_faultPlace 5 = .ok (.iconst 1, 1) := by decide +kernel
theorem dX3_faultPlace_6 : decode cX3_faultPlace 6 = .ok (.istore_n 1, 1) := by decide +kernel
theorem dX3_faultPlace_7 : decode cX3_faultPlace 7 = .ok (.iload_n 1, 1) := by decide +kernel
theorem dX3_faultPlace_8 : decode cX3_faultPlace 8 = .ok (.bipush 12, 2) := by decide +kernel
theorem dX3_faultPlace_10 : decode cX3_faultPlace 10 = .ok (.if_icmp .gt 54, 3) := by decide +kernel
theorem dX3_faultPlace_13 : decode cX3_faultPlace 13 = .ok (.aload_n 0, 1) := by decide +kernel
theorem dX3_faultPlace_14 : decode cX3_faultPlace 14 = .ok (.invokevirtual 25, 3) := by decide +kernel
theorem dX3_faultPlace_17 : decode cX3_faultPlace 17 = .ok (.ifCond .ne 8, 3) := by decide +kernel
theorem dX3_faultPlace_20 : decode cX3_faultPlace 20 = .ok (.aload_n 0, 1) := by decide +kernel
theorem dX3_faultPlace_21 : decode cX3_faultPlace 21 = .ok (.getfield 19, 3) := by decide +kernel
theorem dX3_faultPlace_24 : decode cX3_faultPlace 24 = .ok (.ireturn, 1) := by decide +kernel
theorem dX3_faultPlace_25 : decode cX3_faultPlace 25 = .ok (.aload_n 0, 1) := by decide +kernel
theorem dX3_faultPlace_26 : decode cX3_faultPlace 26 = .ok (.getfield 19, 3) := by decide +kernel
theorem dX3_faultPlace_29 : decode cX3_faultPlace 29 = .ok (.aload_n 0, 1) := by decide +kernel
theorem dX3_faultPlace_30 : decode cX3_faultPlace 30 = .ok (.getfield 15, 3) := by decide +kernel
theorem dX3_faultPlace_33 : decode cX3_faultPlace 33 = .ok (.if_icmp .lt 5, 3) := by decide +kernel
theorem dX3_faultPlace_36 : decode cX3_faultPlace 36 = .ok (.iconst (-1), 1) := by decide +kernel
theorem dX3_faultPlace_37 : decode cX3_faultPlace 37 = .ok (.ireturn, 1) := by decide +kernel
theorem dX3_faultPlace_38 : decode cX3_faultPlace 38 = .ok (.iload_n 1, 1) := by decide +kernel
theorem dX3_faultPlace_39 : decode cX3_faultPlace 39 = .ok (.bipush 12, 2) := by decide +kernel
theorem dX3_faultPlace_41 : decode cX3_faultPlace 41 = .ok (.if_icmp .eq 12, 3) := by decide +kernel
theorem dX3_faultPlace_44 : decode cX3_faultPlace 44 = .ok (.aload_n 0, 1) := by decide +kernel
theorem dX3_faultPlace_45 : decode cX3_faultPlace 45 = .ok (.bipush 59, 2) := by decide +kernel
theorem dX3_faultPlace_47 : decode cX3_faultPlace 47 = .ok (.invokevirtual 29, 3) := by decide +kernel
theorem dX3_faultPlace_50 : decode cX3_faultPlace 50 = .ok (.ifCond .ne 8, 3) := by decide +kernel
theorem dX3_faultPlace_53 : decode cX3_faultPlace 53 = .ok (.aload_n 0, 1) := by decide +kernel
theorem dX3_faultPlace_54 : decode cX3_faultPlace 54 = .ok (.getfield 19, 3) := by decide +kernel
theorem dX3_faultPlace_57 : decode cX3_faultPlace 57 = .ok (.ireturn, 1) := by decide +kernel
theorem dX3_faultPlace_58 : decode cX3_faultPlace 58 = .ok (.iinc 1 1, 3) := by decide +kernel
theorem dX3_faultPlace_61 : decode cX3_faultPlace 61 = .ok (.goto (-54), 3) := by decide +kernel
theorem dX3_faultPlace_64 : decode cX3_faultPlace 64 = .ok (.aload_n 0, 1) := by decide +kernel
theorem dX3_faultPlace_65 : decode cX3_faultPlace 65 = .ok (.getfield 19, 3) := by decide +kernel
theorem dX3_faultPlace_68 : decode cX3_faultPlace 68 = .ok (.ireturn, 1) := by decide +kernel
theorem dX3_perform_0 : decode cX3_perform 0 = .ok (.iconst 0, 1) := by decide +kernel
theorem dX3_perform_1 : decode cX3_perform 1 = .ok (.istore_n 2, 1) := by decide +kernel
theorem dX3_perform_2 : decode cX3_perform 2 = .ok (.aload_n 0, 1) := by decide +kernel
theorem dX3_perform_3 : decode cX3_perform 3 = .ok (.iconst 0, 1) := by decide +kernel
theorem dX3_perform_4 : decode cX3_perform 4 = .ok (.putfield 19, 3) := by decide +kernel
theorem dX3_perform_7 : decode cX3_perform 7 = .ok (.iconst 1, 1) := by decide +kernel
theorem dX3_perform_8 : decode cX3_perform 8 = .ok (.istore_n 3, 1) := by decide +kernel
theorem dX3_perform_9 : decode cX3_perform 9 = .ok (.iload_n 3, 1) := by decide +kernel
theorem dX3_perform_10 : decode cX3_perform 10 = .ok (.bipush 12, 2) := by decide +kernel
theorem dX3_perform_12 : decode cX3_perform 12 = .ok (.if_icmp .gt 43, 3) := by decide +kernel
theorem dX3_perform_15 : decode cX3_perform 15 = .ok (.aload_n 0, 1) := by decide +kernel
theorem dX3_perform_16 : decode cX3_perform 16 = .ok (.getfield 19, 3) := by decide +kernel
theorem dX3_perform_19 : decode cX3_perform 19 = .ok (.aload_n 0, 1) := by decide +kernel
theorem dX3_perform_20 : decode cX3_perform 20 = .ok (.getfield 15, 3) := by decide +kernel
theorem dX3_perform_23 : decode cX3_perform 23 = .ok (.if_icmp .ge 32, 3) := by decide +kernel
theorem dX3_perform_26 : decode cX3_perform 26 = .ok (.iload_n 2, 1) := by decide +kernel
theorem dX3_perform_27 : decode cX3_perform 27 = .ok (.aload_n 0, 1) := by decide +kernel
theorem dX3_perform_28 : decode cX3_perform 28 = .ok (.aload_n 1, 1) := by decide +kernel
theorem dX3_perform_29 : decode cX3_perform 29 = .ok (.invokevirtual 33, 3) := by decide +kernel
theorem dX3_perform_32 : decode cX3_perform 32 = .ok (.ifCond .eq 7, 3) := by decide +kernel
theorem dX3_perform_35 : decode cX3_perform 35 = .ok (.iconst 1, 1) := by decide +kernel
theorem dX3_perform_36 : decode cX3_perform 36 = .ok (.goto 4, 3) := by decide +kernel
theorem dX3_perform_39 : decode cX3_perform 39 = .ok (.iconst 0, 1) := by decide +kernel
theorem dX3_perform_40 : decode cX3_perform 40 = .ok (.iadd, 1) := by decide +kernel
theorem dX3_perform_41 : decode cX3_perform 41 = .ok (.istore_n 2, 1) := by decide +kernel
theorem dX3_perform_42 : decode cX3_perform 42 = .ok (.aload_n 0, 1) := by decide +kernel
theorem dX3_perform_43 : decode cX3_perform 43 = .ok (.bipush 59, 2) := by decide +kernel
theorem dX3_perform_45 : decode cX3_perform 45 = .ok (.invokevirtual 29, 3) := by decide +kernel
theorem dX3_perform_48 : decode cX3_perform 48 = .ok (.pop, 1) := by decide +kernel
theorem dX3_perform_49 : decode cX3_perform 49 = .ok (.iinc 3 1, 3) := by decide +kernel
theorem dX3_perform_52 : decode cX3_perform 52 = .ok (.goto (-43), 3) := by decide +kernel
theorem dX3_perform_55 : decode cX3_perform 55 = .ok (.iload_n 2, 1) := by decide +kernel
theorem dX3_perform_56 : decode cX3_perform 56 = .ok (.ireturn, 1) := by decide +kernel
theorem dX3_signHere_0 : decode cX3_signHere 0 = .ok (.aload_n 0, 1) := by decide +kernel
theorem dX3_signHere_1 : decode cX3_signHere 1 = .ok (.getfield 19, 3) := by decide +kernel
theorem dX3_signHere_4 : decode cX3_signHere 4 = .ok (.ifCond .lt 35, 3) := by decide +kernel
theorem dX3_signHere_7 : decode cX3_signHere 7 = .ok (.aload_n 0, 1) := by decide +kernel
theorem dX3_signHere_8 : decode cX3_signHere 8 = .ok (.getfield 19, 3) := by decide +kernel
theorem dX3_signHere_11 : decode cX3_signHere 11 = .ok (.aload_n 0, 1) := by decide +kernel
theorem dX3_signHere_12 : decode cX3_signHere 12 = .ok (.getfield 15, 3) := by decide +kernel
theorem dX3_signHere_15 : decode cX3_signHere 15 = .ok (.if_icmp .ge 24, 3) := by decide +kernel
theorem dX3_signHere_18 : decode cX3_signHere 18 = .ok (.aload_n 0, 1) := by decide +kernel
theorem dX3_signHere_19 : decode cX3_signHere 19 = .ok (.getfield 19, 3) := by decide +kernel
theorem dX3_signHere_22 : decode cX3_signHere 22 = .ok (.bipush 100, 2) := by decide +kernel
theorem dX3_signHere_24 : decode cX3_signHere 24 = .ok (.if_icmp .ge 15, 3) := by decide +kernel
theorem dX3_signHere_27 : decode cX3_signHere 27 = .ok (.aload_n 0, 1) := by decide +kernel
theorem dX3_signHere_28 : decode cX3_signHere 28 = .ok (.getfield 11, 3) := by decide +kernel
theorem dX3_signHere_31 : decode cX3_signHere 31 = .ok (.aload_n 0, 1) := by decide +kernel
theorem dX3_signHere_32 : decode cX3_signHere 32 = .ok (.getfield 19, 3) := by decide +kernel
theorem dX3_signHere_35 : decode cX3_signHere 35 = .ok (.iaload, 1) := by decide +kernel
theorem dX3_signHere_36 : decode cX3_signHere 36 = .ok (.goto 4, 3) := by decide +kernel
theorem dX3_signHere_39 : decode cX3_signHere 39 = .ok (.iconst (-1), 1) := by decide +kernel
theorem dX3_signHere_40 : decode cX3_signHere 40 = .ok (.ireturn, 1) := by decide +kernel
theorem dX3_passSign_0 : decode cX3_passSign 0 = .ok (.aload_n 0, 1) := by decide +kernel
theorem dX3_passSign_1 : decode cX3_passSign 1 = .ok (.invokevirtual 37, 3) := by decide +kernel
theorem dX3_passSign_4 : decode cX3_passSign 4 = .ok (.iload_n 1, 1) := by decide +kernel
theorem dX3_passSign_5 : decode cX3_passSign 5 = .ok (.if_icmp .ne 7, 3) := by decide +kernel
theorem dX3_passSign_8 : decode cX3_passSign 8 = .ok (.iconst 1, 1) := by decide +kernel
theorem dX3_passSign_9 : decode cX3_passSign 9 = .ok (.goto 4, 3) := by decide +kernel
theorem dX3_passSign_12 : decode cX3_passSign 12 = .ok (.iconst 0, 1) := by decide +kernel
theorem dX3_passSign_13 : decode cX3_passSign 13 = .ok (.istore_n 2, 1) := by decide +kernel
theorem dX3_passSign_14 : decode cX3_passSign 14 = .ok (.aload_n 0, 1) := by decide +kernel
theorem dX3_passSign_15 : decode cX3_passSign 15 = .ok (.dup, 1) := by decide +kernel
theorem dX3_passSign_16 : decode cX3_passSign 16 = .ok (.getfield 19, 3) := by decide +kernel
theorem dX3_passSign_19 : decode cX3_passSign 19 = .ok (.iload_n 2, 1) := by decide +kernel
theorem dX3_passSign_20 : decode cX3_passSign 20 = .ok (.ifCond .eq 7, 3) := by decide +kernel
theorem dX3_passSign_23 : decode cX3_passSign 23 = .ok (.iconst 1, 1) := by decide +kernel
theorem dX3_passSign_24 : decode cX3_passSign 24 = .ok (.goto 4, 3) := by decide +kernel
theorem dX3_passSign_27 : decode cX3_passSign 27 = .ok (.iconst 0, 1) := by decide +kernel
theorem dX3_passSign_28 : decode cX3_passSign 28 = .ok (.iadd, 1) := by decide +kernel
theorem dX3_passSign_29 : decode cX3_passSign 29 = .ok (.putfield 19, 3) := by decide +kernel
theorem dX3_passSign_32 : decode cX3_passSign 32 = .ok (.iload_n 2, 1) := by decide +kernel
theorem dX3_passSign_33 : decode cX3_passSign 33 = .ok (.ireturn, 1) := by decide +kernel
theorem dX3_passDigit_0 : decode cX3_passDigit 0 = .ok (.aload_n 0, 1) := by decide +kernel
theorem dX3_passDigit_1 : decode cX3_passDigit 1 = .ok (.invokevirtual 37, 3) := by decide +kernel
theorem dX3_passDigit_4 : decode cX3_passDigit 4 = .ok (.istore_n 1, 1) := by decide +kernel
theorem dX3_passDigit_5 : decode cX3_passDigit 5 = .ok (.iload_n 1, 1) := by decide +kernel
theorem dX3_passDigit_6 : decode cX3_passDigit 6 = .ok (.bipush 48, 2) := by decide +kernel
theorem dX3_passDigit_8 : decode cX3_passDigit 8 = .ok (.if_icmp .lt 9, 3) := by decide +kernel
theorem dX3_passDigit_11 : decode cX3_passDigit 11 = .ok (.iload_n 1, 1) := by decide +kernel
theorem dX3_passDigit_12 : decode cX3_passDigit 12 = .ok (.bipush 57, 2) := by decide +kernel
theorem dX3_passDigit_14 : decode cX3_passDigit 14 = .ok (.if_icmp .le 5, 3) := by decide +kernel
theorem dX3_passDigit_17 : decode cX3_passDigit 17 = .ok (.iconst (-1), 1) := by decide +kernel
theorem dX3_passDigit_18 : decode cX3_passDigit 18 = .ok (.ireturn, 1) := by decide +kernel
theorem dX3_passDigit_19 : decode cX3_passDigit 19 = .ok (.aload_n 0, 1) := by decide +kernel
theorem dX3_passDigit_20 : decode cX3_passDigit 20 = .ok (.dup, 1) := by decide +kernel
theorem dX3_passDigit_21 : decode cX3_passDigit 21 = .ok (.getfield 19, 3) := by decide +kernel
theorem dX3_passDigit_24 : decode cX3_passDigit 24 = .ok (.iconst 1, 1) := by decide +kernel
theorem dX3_passDigit_25 : decode cX3_passDigit 25 = .ok (.iadd, 1) := by decide +kernel
theorem dX3_passDigit_26 : decode cX3_passDigit 26 = .ok (.putfield 19, 3) := by decide +kernel
theorem dX3_passDigit_29 : decode cX3_passDigit 29 = .ok (.iload_n 1, 1) := by decide +kernel
theorem dX3_passDigit_30 : decode cX3_passDigit 30 = .ok (.bipush 48, 2) := by decide +kernel
theorem dX3_passDigit_32 : decode cX3_passDigit 32 = .ok (.isub, 1) := by decide +kernel
theorem dX3_passDigit_33 : decode cX3_passDigit 33 = .ok (.ireturn, 1) := by decide +kernel
theorem dX3_passLetter_0 : decode cX3_passLetter 0 = .ok (.aload_n 0, 1) := by decide +kernel
theorem dX3_passLetter_1 : decode cX3_passLetter 1 = .ok (.invokevirtual 37, 3) := by decide +kernel
theorem dX3_passLetter_4 : decode cX3_passLetter 4 = .ok (.istore_n 1, 1) := by decide +kernel
theorem dX3_passLetter_5 : decode cX3_passLetter 5 = .ok (.iload_n 1, 1) := by decide +kernel
theorem dX3_passLetter_6 : decode cX3_passLetter 6 = .ok (.bipush 97, 2) := by decide +kernel
theorem dX3_passLetter_8 : decode cX3_passLetter 8 = .ok (.if_icmp .lt 9, 3) := by decide +kernel
theorem dX3_passLetter_11 : decode cX3_passLetter 11 = .ok (.iload_n 1, 1) := by decide +kernel
theorem dX3_passLetter_12 : decode cX3_passLetter 12 = .ok (.bipush 100, 2) := by decide +kernel
theorem dX3_passLetter_14 : decode cX3_passLetter 14 = .ok (.if_icmp .le 5, 3) := by decide +kernel
theorem dX3_passLetter_17 : decode cX3_passLetter 17 = .ok (.iconst (-1), 1) := by decide +kernel
theorem dX3_passLetter_18 : decode cX3_passLetter 18 = .ok (.ireturn, 1) := by decide +kernel
theorem dX3_passLetter_19 : decode cX3_passLetter 19 = .ok (.aload_n 0, 1) := by decide +kernel
theorem dX3_passLetter_20 : decode cX3_passLetter 20 = .ok (.dup, 1) := by decide +kernel
theorem dX3_passLetter_21 : decode cX3_passLetter 21 = .ok (.getfield 19, 3) := by decide +kernel
theorem dX3_passLetter_24 : decode cX3_passLetter 24 = .ok (.iconst 1, 1) := by decide +kernel
theorem dX3_passLetter_25 : decode cX3_passLetter 25 = .ok (.iadd, 1) := by decide +kernel
theorem dX3_passLetter_26 : decode cX3_passLetter 26 = .ok (.putfield 19, 3) := by decide +kernel
theorem dX3_passLetter_29 : decode cX3_passLetter 29 = .ok (.iload_n 1, 1) := by decide +kernel
theorem dX3_passLetter_30 : decode cX3_passLetter 30 = .ok (.bipush 97, 2) := by decide +kernel
theorem dX3_passLetter_32 : decode cX3_passLetter 32 = .ok (.isub, 1) := by decide +kernel
theorem dX3_passLetter_33 : decode cX3_passLetter 33 = .ok (.ireturn, 1) := by decide +kernel
theorem dX3_passClause_0 : decode cX3_passClause 0 = .ok (.aload_n 0, 1) := by decide +kernel
theorem dX3_passClause_1 : decode cX3_passClause 1 = .ok (.bipush 120, 2) := by decide +kernel
theorem dX3_passClause_3 : decode cX3_passClause 3 = .ok (.invokevirtual 29, 3) := by decide +kernel
theorem dX3_passClause_6 : decode cX3_passClause 6 = .ok (.ifCond .eq 5, 3) := by decide +kernel
theorem dX3_passClause_9 : decode cX3_passClause 9 = .ok (.iconst 1, 1) := by decide +kernel
theorem dX3_passClause_10 : decode cX3_passClause 10 = .ok (.ireturn, 1) := by decide +kernel
theorem dX3_passClause_11 : decode cX3_passClause 11 = .ok (.aload_n 0, 1) := by decide +kernel
theorem dX3_passClause_12 : decode cX3_passClause 12 = .ok (.bipush 103, 2) := by decide +kernel
theorem dX3_passClause_14 : decode cX3_passClause 14 = .ok (.invokevirtual 29, 3) := by decide +kernel
theorem dX3_passClause_17 : decode cX3_passClause 17 = .ok (.ifCond .ne 30, 3) := by decide +kernel
theorem dX3_passClause_20 : decode cX3_passClause 20 = .ok (.aload_n 0, 1) := by decide +kernel
theorem dX3_passClause_21 : decode cX3_passClause 21 = .ok (.bipush 110, 2) := by decide +kernel
theorem dX3_passClause_23 : decode cX3_passClause 23 = .ok (.invokevirtual 29, 3) := by decide +kernel
theorem dX3_passClause_26 : decode cX3_passClause 26 = .ok (.ifCond .ne 21, 3) := by decide +kernel
theorem dX3_passClause_29 : decode cX3_passClause 29 = .ok (.aload_n 0, 1) := by decide +kernel
theorem dX3_passClause_30 : decode cX3_passClause 30 = .ok (.bipush 112, 2) := by decide +kernel
theorem dX3_passClause_32 : decode cX3_passClause 32 = .ok (.invokevirtual 29, 3) := by decide +kernel
theorem dX3_passClause_35 : decode cX3_passClause 35 = .ok (.ifCond .ne 12, 3) := by decide +kernel
theorem dX3_passClause_38 : decode cX3_passClause 38 = .ok (.aload_n 0, 1) := by decide +kernel
theorem dX3_passClause_39 : decode cX3_passClause 39 = .ok (.bipush 111, 2) := by decide +kernel
theorem dX3_passClause_41 : decode cX3_passClause 41 = .ok (.invokevirtual 29, 3) := by decide +kernel
theorem dX3_passClause_44 : decode cX3_passClause 44 = .ok (.ifCond .eq 16, 3) := by decide +kernel
theorem dX3_passClause_47 : decode cX3_passClause 47 = .ok (.aload_n 0, 1) := by decide +kernel
theorem dX3_passClause_48 : decode cX3_passClause 48 = .ok (.invokevirtual 41, 3) := by decide +kernel
theorem dX3_passClause_51 : decode cX3_passClause 51 = .ok (.ifCond .lt 7, 3) := by decide +kernel
theorem dX3_passClause_54 : decode cX3_passClause 54 = .ok (.iconst 1, 1) := by decide +kernel
theorem dX3_passClause_55 : decode cX3_passClause 55 = .ok (.goto 4, 3) := by decide +kernel
theorem dX3_passClause_58 : decode cX3_passClause 58 = .ok (.iconst 0, 1) := by decide +kernel
theorem dX3_passClause_59 : decode cX3_passClause 59 = .ok (.ireturn, 1) := by decide +kernel
theorem dX3_passClause_60 : decode cX3_passClause 60 = .ok (.aload_n 0, 1) := by decide +kernel
theorem dX3_passClause_61 : decode cX3_passClause 61 = .ok (.invokevirtual 41, 3) := by decide +kernel
theorem dX3_passClause_64 : decode cX3_passClause 64 = .ok (.ifCond .lt 23, 3) := by decide +kernel
theorem dX3_passClause_67 : decode cX3_passClause 67 = .ok (.aload_n 0, 1) := by decide +kernel
theorem dX3_passClause_68 : decode cX3_passClause 68 = .ok (.bipush 58, 2) := by decide +kernel
theorem dX3_passClause_70 : decode cX3_passClause 70 = .ok (.invokevirtual 29, 3) := by decide +kernel
theorem dX3_passClause_73 : decode cX3_passClause 73 = .ok (.ifCond .eq 14, 3) := by decide +kernel
theorem dX3_passClause_76 : decode cX3_passClause 76 = .ok (.aload_n 0, 1) := by decide +kernel
theorem dX3_passClause_77 : decode cX3_passClause 77 = .ok (.invokevirtual 44, 3) := by decide +kernel
theorem dX3_passClause_80 : decode cX3_passClause 80 = .ok (.ifCond .eq 7, 3) := by decide +kernel
theorem dX3_passClause_83 : decode cX3_passClause 83 = .ok (.iconst 1, 1) := by decide +kernel
theorem dX3_passClause_84 : decode cX3_passClause 84 = .ok (.goto 4, 3) := by decide +kernel
theorem dX3_passClause_87 : decode cX3_passClause 87 = .ok (.iconst 0, 1) := by decide +kernel
theorem dX3_passClause_88 : decode cX3_passClause 88 = .ok (.ireturn, 1) := by decide +kernel
theorem dX3_passSum_0 : decode cX3_passSum 0 = .ok (.aload_n 0, 1) := by decide +kernel
theorem dX3_passSum_1 : decode cX3_passSum 1 = .ok (.bipush 45, 2) := by decide +kernel
theorem dX3_passSum_3 : decode cX3_passSum 3 = .ok (.invokevirtual 29, 3) := by decide +kernel
theorem dX3_passSum_6 : decode cX3_passSum 6 = .ok (.pop, 1) := by decide +kernel
theorem dX3_passSum_7 : decode cX3_passSum 7 = .ok (.iconst 0, 1) := by decide +kernel
theorem dX3_passSum_8 : decode cX3_passSum 8 = .ok (.istore_n 1, 1) := by decide +kernel
theorem dX3_passSum_9 : decode cX3_passSum 9 = .ok (.iload_n 1, 1) := by decide +kernel
theorem dX3_passSum_10 : decode cX3_passSum 10 = .ok (.bipush 100, 2) := by decide +kernel
theorem dX3_passSum_12 : decode cX3_passSum 12 = .ok (.if_icmp .ge 38, 3) := by decide +kernel
theorem dX3_passSum_15 : decode cX3_passSum 15 = .ok (.aload_n 0, 1) := by decide +kernel
theorem dX3_passSum_16 : decode cX3_passSum 16 = .ok (.invokevirtual 47, 3) := by decide +kernel
theorem dX3_passSum_19 : decode cX3_passSum 19 = .ok (.ifCond .ne 5, 3) := by decide +kernel
theorem dX3_passSum_22 : decode cX3_passSum 22 = .ok (.iconst 0, 1) := by decide +kernel
theorem dX3_passSum_23 : decode cX3_passSum 23 = .ok (.ireturn, 1) := by decide +kernel
theorem dX3_passSum_24 : decode cX3_passSum 24 = .ok (.aload_n 0, 1) := by decide +kernel
theorem dX3_passSum_25 : decode cX3_passSum 25 = .ok (.bipush 43, 2) := by decide +kernel
theorem dX3_passSum_27 : decode cX3_passSum 27 = .ok (.invokevirtual 29, 3) := by decide +kernel
theorem dX3_passSum_30 : decode cX3_passSum 30 = .ok (.ifCond .ne 14, 3) := by decide +kernel
theorem dX3_passSum_33 : decode cX3_passSum 33 = .ok (.aload_n 0, 1) := by decide +kernel
theorem dX3_passSum_34 : decode cX3_passSum 34 = .ok (.bipush 45, 2) := by decide +kernel
theorem dX3_passSum_36 : decode cX3_passSum 36 = .ok (.invokevirtual 29, 3) := by decide +kernel
theorem dX3_passSum_39 : decode cX3_passSum 39 = .ok (.ifCond .ne 5, 3) := by decide +kernel
theorem dX3_passSum_42 : decode cX3_passSum 42 = .ok (.iconst 1, 1) := by decide +kernel
theorem dX3_passSum_43 : decode cX3_passSum 43 = .ok (.ireturn, 1) := by decide +kernel
theorem dX3_passSum_44 : decode cX3_passSum 44 = .ok (.iinc 1 1, 3) := by decide +kernel
theorem dX3_passSum_47 : decode cX3_passSum 47 = .ok (.goto (-38), 3) := by decide +kernel
theorem dX3_passSum_50 : decode cX3_passSum 50 = .ok (.iconst 0, 1) := by decide +kernel
theorem dX3_passSum_51 : decode cX3_passSum 51 = .ok (.ireturn, 1) := by decide +kernel
theorem dX3_passTerm_0 : decode cX3_passTerm 0 = .ok (.aload_n 0, 1) := by decide +kernel
theorem dX3_passTerm_1 : decode cX3_passTerm 1 = .ok (.getfield 19, 3) := by decide +kernel
theorem dX3_passTerm_4 : decode cX3_passTerm 4 = .ok (.istore_n 1, 1) := by decide +kernel
theorem dX3_passTerm_5 : decode cX3_passTerm 5 = .ok (.iconst 0, 1) := by decide +kernel
theorem dX3_passTerm_6 : decode cX3_passTerm 6 = .ok (.istore_n 2, 1) := by decide +kernel
theorem dX3_passTerm_7 : decode cX3_passTerm 7 = .ok (.iload_n 2, 1) := by decide +kernel
theorem dX3_passTerm_8 : decode cX3_passTerm 8 = .ok (.iconst 2, 1) := by decide +kernel
theorem dX3_passTerm_9 : decode cX3_passTerm 9 = .ok (.if_icmp .ge 14, 3) := by decide +kernel
theorem dX3_passTerm_12 : decode cX3_passTerm 12 = .ok (.aload_n 0, 1) := by decide +kernel
theorem dX3_passTerm_13 : decode cX3_passTerm 13 = .ok (.invokevirtual 41, 3) := by decide +kernel
theorem dX3_passTerm_16 : decode cX3_passTerm 16 = .ok (.pop, 1) := by decide +kernel
theorem dX3_passTerm_17 : decode cX3_passTerm 17 = .ok (.iinc 2 1, 3) := by decide +kernel
theorem dX3_passTerm_20 : decode cX3_passTerm 20 = .ok (.goto (-13), 3) := by decide +kernel
theorem dX3_passTerm_23 : decode cX3_passTerm 23 = .ok (.iconst 0, 1) := by decide +kernel
theorem dX3_passTerm_24 : decode cX3_passTerm 24 = .ok (.istore_n 2, 1) := by decide +kernel
theorem dX3_passTerm_25 : decode cX3_passTerm 25 = .ok (.iload_n 2, 1) := by decide +kernel
theorem dX3_passTerm_26 : decode cX3_passTerm 26 = .ok (.iconst 4, 1) := by decide +kernel
theorem dX3_passTerm_27 : decode cX3_passTerm 27 = .ok (.if_icmp .ge 14, 3) := by decide +kernel
theorem dX3_passTerm_30 : decode cX3_passTerm 30 = .ok (.aload_n 0, 1) := by decide +kernel
theorem dX3_passTerm_31 : decode cX3_passTerm 31 = .ok (.invokevirtual 50, 3) := by decide +kernel
theorem dX3_passTerm_34 : decode cX3_passTerm 34 = .ok (.pop, 1) := by decide +kernel
theorem dX3_passTerm_35 : decode cX3_passTerm 35 = .ok (.iinc 2 1, 3) := by decide +kernel
theorem dX3_passTerm_38 : decode cX3_passTerm 38 = .ok (.goto (-13), 3) := by decide +kernel
theorem dX3_passTerm_41 : decode cX3_passTerm 41 = .ok (.aload_n 0, 1) := by decide +kernel
theorem dX3_passTerm_42 : decode cX3_passTerm 42 = .ok (.getfield 19, 3) := by decide +kernel
theorem dX3_passTerm_45 : decode cX3_passTerm 45 = .ok (.iload_n 1, 1) := by decide +kernel
theorem dX3_passTerm_46 : decode cX3_passTerm 46 = .ok (.if_icmp .le 7, 3) := by decide +kernel
theorem dX3_passTerm_49 : decode cX3_passTerm 49 = .ok (.iconst 1, 1) := by decide +kernel
theorem dX3_passTerm_50 : decode cX3_passTerm 50 = .ok (.goto 4, 3) := by decide +kernel
theorem dX3_passTerm_53 : decode cX3_passTerm 53 = .ok (.iconst 0, 1) := by decide +kernel
theorem dX3_passTerm_54 : decode cX3_passTerm 54 = .ok (.ireturn, 1) := by decide +kernel
theorem dX3_doClause_0 : decode cX3_doClause 0 = .ok (.aload_n 0, 1) := by decide +kernel
theorem dX3_doClause_1 : decode cX3_doClause 1 = .ok (.bipush 120, 2) := by decide +kernel
theorem dX3_doClause_3 : decode cX3_doClause 3 = .ok (.invokevirtual 29, 3) := by decide +kernel
theorem dX3_doClause_6 : decode cX3_doClause 6 = .ok (.ifCond .eq 9, 3) := by decide +kernel
theorem dX3_doClause_9 : decode cX3_doClause 9 = .ok (.aload_n 1, 1) := by decide +kernel
theorem dX3_doClause_10 : decode cX3_doClause 10 = .ok (.invokevirtual 53, 3) := by decide +kernel
theorem dX3_doClause_13 : decode cX3_doClause 13 = .ok (.iconst 1, 1) := by decide +kernel
theorem dX3_doClause_14 : decode cX3_doClause 14 = .ok (.ireturn, 1) := by decide +kernel
theorem dX3_doClause_15 : decode cX3_doClause 15 = .ok (.aload_n 0, 1) := by decide +kernel
theorem dX3_doClause_16 : decode cX3_doClause 16 = .ok (.bipush 103, 2) := by decide +kernel
theorem dX3_doClause_18 : decode cX3_doClause 18 = .ok (.invokevirtual 29, 3) := by decide +kernel
theorem dX3_doClause_21 : decode cX3_doClause 21 = .ok (.ifCond .eq 12, 3) := by decide +kernel
theorem dX3_doClause_24 : decode cX3_doClause 24 = .ok (.aload_n 1, 1) := by decide +kernel
theorem dX3_doClause_25 : decode cX3_doClause 25 = .ok (.aload_n 0, 1) := by decide +kernel
theorem dX3_doClause_26 : decode cX3_doClause 26 = .ok (.invokevirtual 41, 3) := by decide +kernel
theorem dX3_doClause_29 : decode cX3_doClause 29 = .ok (.invokevirtual 58, 3) := by decide +kernel
theorem dX3_doClause_32 : decode cX3_doClause 32 = .ok (.ireturn, 1) := by decide +kernel
theorem dX3_doClause_33 : decode cX3_doClause 33 = .ok (.aload_n 0, 1) := by decide +kernel
theorem dX3_doClause_34 : decode cX3_doClause 34 = .ok (.bipush 110, 2) := by decide +kernel
theorem dX3_doClause_36 : decode cX3_doClause 36 = .ok (.invokevirtual 29, 3) := by decide +kernel
theorem dX3_doClause_39 : decode cX3_doClause 39 = .ok (.ifCond .eq 12, 3) := by decide +kernel
theorem dX3_doClause_42 : decode cX3_doClause 42 = .ok (.aload_n 1, 1) := by decide +kernel
theorem dX3_doClause_43 : decode cX3_doClause 43 = .ok (.aload_n 0, 1) := by decide +kernel
theorem dX3_doClause_44 : decode cX3_doClause 44 = .ok (.invokevirtual 41, 3) := by decide +kernel
theorem dX3_doClause_47 : decode cX3_doClause 47 = .ok (.invokevirtual 61, 3) := by decide +kernel
theorem dX3_doClause_50 : decode cX3_doClause 50 = .ok (.ireturn, 1) := by decide +kernel
theorem dX3_doClause_51 : decode cX3_doClause 51 = .ok (.aload_n 0, 1) := by decide +kernel
theorem dX3_doClause_52 : decode cX3_doClause 52 = .ok (.bipush 112, 2) := by decide +kernel
theorem dX3_doClause_54 : decode cX3_doClause 54 = .ok (.invokevirtual 29, 3) := by decide +kernel
theorem dX3_doClause_57 : decode cX3_doClause 57 = .ok (.ifCond .eq 12, 3) := by decide +kernel
theorem dX3_doClause_60 : decode cX3_doClause 60 = .ok (.aload_n 1, 1) := by decide +kernel
theorem dX3_doClause_61 : decode cX3_doClause 61 = .ok (.aload_n 0, 1) := by decide +kernel
theorem dX3_doClause_62 : decode cX3_doClause 62 = .ok (.invokevirtual 41, 3) := by decide +kernel
theorem dX3_doClause_65 : decode cX3_doClause 65 = .ok (.invokevirtual 64, 3) := by decide +kernel
theorem dX3_doClause_68 : decode cX3_doClause 68 = .ok (.ireturn, 1) := by decide +kernel
theorem dX3_doClause_69 : decode cX3_doClause 69 = .ok (.aload_n 0, 1) := by decide +kernel
theorem dX3_doClause_70 : decode cX3_doClause 70 = .ok (.bipush 111, 2) := by decide +kernel
theorem dX3_doClause_72 : decode cX3_doClause 72 = .ok (.invokevirtual 29, 3) := by decide +kernel
theorem dX3_doClause_75 : decode cX3_doClause 75 = .ok (.ifCond .eq 12, 3) := by decide +kernel
theorem dX3_doClause_78 : decode cX3_doClause 78 = .ok (.aload_n 1, 1) := by decide +kernel
theorem dX3_doClause_79 : decode cX3_doClause 79 = .ok (.aload_n 0, 1) := by decide +kernel
theorem dX3_doClause_80 : decode cX3_doClause 80 = .ok (.invokevirtual 41, 3) := by decide +kernel
theorem dX3_doClause_83 : decode cX3_doClause 83 = .ok (.invokevirtual 67, 3) := by decide +kernel
theorem dX3_doClause_86 : decode cX3_doClause 86 = .ok (.ireturn, 1) := by decide +kernel
theorem dX3_doClause_87 : decode cX3_doClause 87 = .ok (.aload_n 0, 1) := by decide +kernel
theorem dX3_doClause_88 : decode cX3_doClause 88 = .ok (.invokevirtual 41, 3) := by decide +kernel
theorem dX3_doClause_91 : decode cX3_doClause 91 = .ok (.istore_n 2, 1) := by decide +kernel
theorem dX3_doClause_92 : decode cX3_doClause 92 = .ok (.aload_n 0, 1) := by decide +kernel
theorem dX3_doClause_93 : decode cX3_doClause 93 = .ok (.bipush 58, 2) := by decide +kernel
theorem dX3_doClause_95 : decode cX3_doClause 95 = .ok (.invokevirtual 29, 3) := by decide +kernel
theorem dX3_doClause_98 : decode cX3_doClause 98 = .ok (.pop, 1) := by decide +kernel
theorem dX3_doClause_99 : decode cX3_doClause 99 = .ok (.aload_n 0, 1) := by decide +kernel
theorem dX3_doClause_100 : decode cX3_doClause 100 = .ok (.aload_n 1, 1) := by decide +kernel
theorem dX3_doClause_101 : decode cX3_doClause 101 = .ok (.invokevirtual 70, 3) := by decide +kernel
theorem dX3_doClause_104 : decode cX3_doClause 104 = .ok (.ifCond .eq 11, 3) := by decide +kernel
theorem dX3_doClause_107 : decode cX3_doClause 107 = .ok (.aload_n 1, 1) := by decide +kernel
theorem dX3_doClause_108 : decode cX3_doClause 108 = .ok (.iload_n 2, 1) := by decide +kernel
theorem dX3_doClause_109 : decode cX3_doClause 109 = .ok (.invokevirtual 73, 3) := by decide +kernel
theorem dX3_doClause_112 : decode cX3_doClause 112 = .ok (.ifCond .ne 5, 3) := by decide +kernel
theorem dX3_doClause_115 : decode cX3_doClause 115 = .ok (.iconst 0, 1) := by decide +kernel
theorem dX3_doClause_116 : decode cX3_doClause 116 = .ok (.ireturn, 1) := by decide +kernel
theorem dX3_doClause_117 : decode cX3_doClause 117 = .ok (.aload_n 1, 1) := by decide +kernel
theorem dX3_doClause_118 : decode cX3_doClause 118 = .ok (.iload_n 2, 1) := by decide +kernel
theorem dX3_doClause_119 : decode cX3_doClause 119 = .ok (.aload_n 0, 1) := by decide +kernel
theorem dX3_doClause_120 : decode cX3_doClause 120 = .ok (.getfield 22, 3) := by decide +kernel
theorem dX3_doClause_123 : decode cX3_doClause 123 = .ok (.invokevirtual 76, 3) := by decide +kernel
theorem dX3_doClause_126 : decode cX3_doClause 126 = .ok (.pop, 1) := by decide +kernel
theorem dX3_doClause_127 : decode cX3_doClause 127 = .ok (.iconst 1, 1) := by decide +kernel
theorem dX3_doClause_128 : decode cX3_doClause 128 = .ok (.ireturn, 1) := by decide +kernel
theorem dX3_addUp_0 : decode cX3_addUp 0 = .ok (.iconst 0, 1) := by decide +kernel
theorem dX3_addUp_1 : decode cX3_addUp 1 = .ok (.istore_n 2, 1) := by decide +kernel
theorem dX3_addUp_2 : decode cX3_addUp 2 = .ok (.iload_n 2, 1) := by decide +kernel
theorem dX3_addUp_3 : decode cX3_addUp 3 = .ok (.bipush 16, 2) := by decide +kernel
theorem dX3_addUp_5 : decode cX3_addUp 5 = .ok (.if_icmp .ge 16, 3) := by decide +kernel
theorem dX3_addUp_8 : decode cX3_addUp 8 = .ok (.aload_n 0, 1) := by decide +kernel
theorem dX3_addUp_9 : decode cX3_addUp 9 = .ok (.getfield 22, 3) := by decide +kernel
theorem dX3_addUp_12 : decode cX3_addUp 12 = .ok (.iload_n 2, 1) := by decide +kernel
theorem dX3_addUp_13 : decode cX3_addUp 13 = .ok (.iconst 0, 1) := by decide +kernel
theorem dX3_addUp_14 : decode cX3_addUp 14 = .ok (.iastore, 1) := by decide +kernel
theorem dX3_addUp_15 : decode cX3_addUp 15 = .ok (.iinc 2 1, 3) := by decide +kernel
theorem dX3_addUp_18 : decode cX3_addUp 18 = .ok (.goto (-16), 3) := by decide +kernel
theorem dX3_addUp_21 : decode cX3_addUp 21 = .ok (.iconst 1, 1) := by decide +kernel
theorem dX3_addUp_22 : decode cX3_addUp 22 = .ok (.istore_n 2, 1) := by decide +kernel
theorem dX3_addUp_23 : decode cX3_addUp 23 = .ok (.aload_n 0, 1) := by decide +kernel
theorem dX3_addUp_24 : decode cX3_addUp 24 = .ok (.bipush 45, 2) := by decide +kernel
theorem dX3_addUp_26 : decode cX3_addUp 26 = .ok (.invokevirtual 29, 3) := by decide +kernel
theorem dX3_addUp_29 : decode cX3_addUp 29 = .ok (.ifCond .eq 7, 3) := by decide +kernel
theorem dX3_addUp_32 : decode cX3_addUp 32 = .ok (.iconst (-1), 1) := by decide +kernel
theorem dX3_addUp_33 : decode cX3_addUp 33 = .ok (.goto 4, 3) := by decide +kernel
theorem dX3_addUp_36 : decode cX3_addUp 36 = .ok (.iconst 1, 1) := by decide +kernel
theorem dX3_addUp_37 : decode cX3_addUp 37 = .ok (.istore_n 3, 1) := by decide +kernel
theorem dX3_addUp_38 : decode cX3_addUp 38 = .ok (.iconst 0, 1) := by decide +kernel
theorem dX3_addUp_39 : decode cX3_addUp 39 = .ok (.istore 4, 2) := by decide +kernel
theorem dX3_addUp_41 : decode cX3_addUp 41 = .ok (.iload 4, 2) := by decide +kernel
theorem dX3_addUp_43 : decode cX3_addUp 43 = .ok (.bipush 100, 2) := by decide +kernel
theorem dX3_addUp_45 : decode cX3_addUp 45 = .ok (.if_icmp .ge 58, 3) := by decide +kernel
theorem dX3_addUp_48 : decode cX3_addUp 48 = .ok (.aload_n 0, 1) := by decide +kernel
theorem dX3_addUp_49 : decode cX3_addUp 49 = .ok (.iload_n 3, 1) := by decide +kernel
theorem dX3_addUp_50 : decode cX3_addUp 50 = .ok (.aload_n 1, 1) := by decide +kernel
theorem dX3_addUp_51 : decode cX3_addUp 51 = .ok (.invokevirtual 80, 3) := by decide +kernel
theorem dX3_addUp_54 : decode cX3_addUp 54 = .ok (.ifCond .eq 11, 3) := by decide +kernel
theorem dX3_addUp_57 : decode cX3_addUp 57 = .ok (.iload_n 2, 1) := by decide +kernel
theorem dX3_addUp_58 : decode cX3_addUp 58 = .ok (.ifCond .eq 7, 3) := by decide +kernel
theorem dX3_addUp_61 : decode cX3_addUp 61 = .ok (.iconst 1, 1) := by decide +kernel
theorem dX3_addUp_62 : decode cX3_addUp 62 = .ok (.goto 4, 3) := by decide +kernel
theorem dX3_addUp_65 : decode cX3_addUp 65 = .ok (.iconst 0, 1) := by decide +kernel
theorem dX3_addUp_66 : decode cX3_addUp 66 = .ok (.istore_n 2, 1) := by decide +kernel
theorem dX3_addUp_67 : decode cX3_addUp 67 = .ok (.aload_n 0, 1) := by decide +kernel
theorem dX3_addUp_68 : decode cX3_addUp 68 = .ok (.bipush 43, 2) := by decide +kernel
theorem dX3_addUp_70 : decode cX3_addUp 70 = .ok (.invokevirtual 29, 3) := by decide +kernel
theorem dX3_addUp_73 : decode cX3_addUp 73 = .ok (.ifCond .eq 8, 3) := by decide +kernel
theorem dX3_addUp_76 : decode cX3_addUp 76 = .ok (.iconst 1, 1) := by decide +kernel
theorem dX3_addUp_77 : decode cX3_addUp 77 = .ok (.istore_n 3, 1) := by decide +kernel
theorem dX3_addUp_78 : decode cX3_addUp 78 = .ok (.goto 19, 3) := by decide +kernel
theorem dX3_addUp_81 : decode cX3_addUp 81 = .ok (.aload_n 0, 1) := by decide +kernel
theorem dX3_addUp_82 : decode cX3_addUp 82 = .ok (.bipush 45, 2) := by decide +kernel
theorem dX3_addUp_84 : decode cX3_addUp 84 = .ok (.invokevirtual 29, 3) := by decide +kernel
theorem dX3_addUp_87 : decode cX3_addUp 87 = .ok (.ifCond .eq 8, 3) := by decide +kernel
theorem dX3_addUp_90 : decode cX3_addUp 90 = .ok (.iconst (-1), 1) := by decide +kernel
theorem dX3_addUp_91 : decode cX3_addUp 91 = .ok (.istore_n 3, 1) := by decide +kernel
theorem dX3_addUp_92 : decode cX3_addUp 92 = .ok (.goto 5, 3) := by decide +kernel
theorem dX3_addUp_95 : decode cX3_addUp 95 = .ok (.iload_n 2, 1) := by decide +kernel
theorem dX3_addUp_96 : decode cX3_addUp 96 = .ok (.ireturn, 1) := by decide +kernel
theorem dX3_addUp_97 : decode cX3_addUp 97 = .ok (.iinc 4 1, 3) := by decide +kernel
theorem dX3_addUp_100 : decode cX3_addUp 100 = .ok (.goto (-59), 3) := by decide +kernel
theorem dX3_addUp_103 : decode cX3_addUp 103 = .ok (.iload_n 2, 1) := by decide +kernel
theorem dX3_addUp_104 : decode cX3_addUp 104 = .ok (.ireturn, 1) := by decide +kernel
theorem dX3_addTerm_0 : decode cX3_addTerm 0 = .ok (.aload_n 0, 1) := by decide +kernel
theorem dX3_addTerm_1 : decode cX3_addTerm 1 = .ok (.invokevirtual 41, 3) := by decide +kernel
theorem dX3_addTerm_4 : decode cX3_addTerm 4 = .ok (.istore_n 3, 1) := by decide +kernel
theorem dX3_addTerm_5 : decode cX3_addTerm 5 = .ok (.aload_n 0, 1) := by decide +kernel
theorem dX3_addTerm_6 : decode cX3_addTerm 6 = .ok (.invokevirtual 41, 3) := by decide +kernel
theorem dX3_addTerm_9 : decode cX3_addTerm 9 = .ok (.istore 4, 2) := by decide +kernel
theorem dX3_addTerm_11 : decode cX3_addTerm 11 = .ok (.iload_n 1, 1) := by decide +kernel
theorem dX3_addTerm_12 : decode cX3_addTerm 12 = .ok (.iload_n 3, 1) := by decide +kernel
theorem dX3_addTerm_13 : decode cX3_addTerm 13 = .ok (.ifCond .ge 7, 3) := by decide +kernel
theorem dX3_addTerm_16 : decode cX3_addTerm 16 = .ok (.iconst 1, 1) := by decide +kernel
theorem dX3_addTerm_17 : decode cX3_addTerm 17 = .ok (.goto 19, 3) := by decide +kernel
theorem dX3_addTerm_20 : decode cX3_addTerm 20 = .ok (.iload 4, 2) := by decide +kernel
theorem dX3_addTerm_22 : decode cX3_addTerm 22 = .ok (.ifCond .ge 7, 3) := by decide +kernel
theorem dX3_addTerm_25 : decode cX3_addTerm 25 = .ok (.iload_n 3, 1) := by decide +kernel
theorem dX3_addTerm_26 : decode cX3_addTerm 26 = .ok (.goto 10, 3) := by decide +kernel
theorem dX3_addTerm_29 : decode cX3_addTerm 29 = .ok (.bipush 10, 2) := by decide +kernel
theorem dX3_addTerm_31 : decode cX3_addTerm 31 = .ok (.iload_n 3, 1) := by decide +kernel
theorem dX3_addTerm_32 : decode cX3_addTerm 32 = .ok (.imul, 1) := by decide +kernel
theorem dX3_addTerm_33 : decode cX3_addTerm 33 = .ok (.iload 4, 2) := by decide +kernel
theorem dX3_addTerm_35 : decode cX3_addTerm 35 = .ok (.iadd, 1) := by decide +kernel
theorem dX3_addTerm_36 : decode cX3_addTerm 36 = .ok (.imul, 1) := by decide +kernel
theorem dX3_addTerm_37 : decode cX3_addTerm 37 = .ok (.istore 5, 2) := by decide +kernel
theorem dX3_addTerm_39 : decode cX3_addTerm 39 = .ok (.iconst 0, 1) := by decide +kernel
theorem dX3_addTerm_40 : decode cX3_addTerm 40 = .ok (.istore 6, 2) := by decide +kernel
theorem dX3_addTerm_42 : decode cX3_addTerm 42 = .ok (.iconst 1, 1) := by decide +kernel
theorem dX3_addTerm_43 : decode cX3_addTerm 43 = .ok (.istore 7, 2) := by decide +kernel
theorem dX3_addTerm_45 : decode cX3_addTerm 45 = .ok (.iconst 0, 1) := by decide +kernel
theorem dX3_addTerm_46 : decode cX3_addTerm 46 = .ok (.istore 8, 2) := by decide +kernel
theorem dX3_addTerm_48 : decode cX3_addTerm 48 = .ok (.iload 8, 2) := by decide +kernel
theorem dX3_addTerm_50 : decode cX3_addTerm 50 = .ok (.iconst 4, 1) := by decide +kernel
theorem dX3_addTerm_51 : decode cX3_addTerm 51 = .ok (.if_icmp .ge 67, 3) := by decide +kernel
theorem dX3_addTerm_54 : decode cX3_addTerm 54 = .ok (.aload_n 0, 1) := by decide +kernel
theorem dX3_addTerm_55 : decode cX3_addTerm 55 = .ok (.invokevirtual 50, 3) := by decide +kernel
theorem dX3_addTerm_58 : decode cX3_addTerm 58 = .ok (.istore 9, 2) := by decide +kernel
theorem dX3_addTerm_60 : decode cX3_addTerm 60 = .ok (.iload 9, 2) := by decide +kernel
theorem dX3_addTerm_62 : decode cX3_addTerm 62 = .ok (.ifCond .ge 6, 3) := by decide +kernel
theorem dX3_addTerm_65 : decode cX3_addTerm 65 = .ok (.goto 53, 3) := by decide +kernel
theorem dX3_addTerm_68 : decode cX3_addTerm 68 = .ok (.iload 7, 2) := by decide +kernel
theorem dX3_addTerm_70 : decode cX3_addTerm 70 = .ok (.ifCond .eq 16, 3) := by decide +kernel
theorem dX3_addTerm_73 : decode cX3_addTerm 73 = .ok (.iload 9, 2) := by decide +kernel
theorem dX3_addTerm_75 : decode cX3_addTerm 75 = .ok (.aload_n 2, 1) := by decide +kernel
theorem dX3_addTerm_76 : decode cX3_addTerm 76 = .ok (.getfield 84, 3) := by decide +kernel
theorem dX3_addTerm_79 : decode cX3_addTerm 79 = .ok (.if_icmp .ge 7, 3) := by decide +kernel
theorem dX3_addTerm_82 : decode cX3_addTerm 82 = .ok (.iconst 1, 1) := by decide +kernel
theorem dX3_addTerm_83 : decode cX3_addTerm 83 = .ok (.goto 4, 3) := by decide +kernel
theorem dX3_addTerm_86 : decode cX3_addTerm 86 = .ok (.iconst 0, 1) := by decide +kernel
theorem dX3_addTerm_87 : decode cX3_addTerm 87 = .ok (.istore 7, 2) := by decide +kernel
theorem dX3_addTerm_89 : decode cX3_addTerm 89 = .ok (.iload 5, 2) := by decide +kernel
theorem dX3_addTerm_91 : decode cX3_addTerm 91 = .ok (.iload 6, 2) := by decide +kernel
theorem dX3_addTerm_93 : decode cX3_addTerm 93 = .ok (.iconst 1, 1) := by decide +kernel
theorem dX3_addTerm_94 : decode cX3_addTerm 94 = .ok (.iload 9, 2) := by decide +kernel
theorem dX3_addTerm_96 : decode cX3_addTerm 96 = .ok (.ishl, 1) := by decide +kernel
theorem dX3_addTerm_97 : decode cX3_addTerm 97 = .ok (.invokestatic 87, 3) := by decide +kernel
theorem dX3_addTerm_100 : decode cX3_addTerm 100 = .ok (.imul, 1) := by decide +kernel
theorem dX3_addTerm_101 : decode cX3_addTerm 101 = .ok (.istore 5, 2) := by decide +kernel
theorem dX3_addTerm_103 : decode cX3_addTerm 103 = .ok (.iload 6, 2) := by decide +kernel
theorem dX3_addTerm_105 : decode cX3_addTerm 105 = .ok (.iconst 1, 1) := by decide +kernel
theorem dX3_addTerm_106 : decode cX3_addTerm 106 = .ok (.iload 9, 2) := by decide +kernel
theorem dX3_addTerm_108 : decode cX3_addTerm 108 = .ok (.ishl, 1) := by decide +kernel
theorem dX3_addTerm_109 : decode cX3_addTerm 109 = .ok (.ior, 1) := by decide +kernel
theorem dX3_addTerm_110 : decode cX3_addTerm 110 = .ok (.istore 6, 2) := by decide +kernel
theorem dX3_addTerm_112 : decode cX3_addTerm 112 = .ok (.iinc 8 1, 3) := by decide +kernel
theorem dX3_addTerm_115 : decode cX3_addTerm 115 = .ok (.goto (-67), 3) := by decide +kernel
theorem dX3_addTerm_118 : decode cX3_addTerm 118 = .ok (.aload_n 0, 1) := by decide +kernel
theorem dX3_addTerm_119 : decode cX3_addTerm 119 = .ok (.getfield 22, 3) := by decide +kernel
theorem dX3_addTerm_122 : decode cX3_addTerm 122 = .ok (.iload 6, 2) := by decide +kernel
theorem dX3_addTerm_124 : decode cX3_addTerm 124 = .ok (.aload_n 0, 1) := by decide +kernel
theorem dX3_addTerm_125 : decode cX3_addTerm 125 = .ok (.getfield 22, 3) := by decide +kernel
theorem dX3_addTerm_128 : decode cX3_addTerm 128 = .ok (.iload 6, 2) := by decide +kernel
theorem dX3_addTerm_130 : decode cX3_addTerm 130 = .ok (.iaload, 1) := by decide +kernel
theorem dX3_addTerm_131 : decode cX3_addTerm 131 = .ok (.iload 5, 2) := by decide +kernel
theorem dX3_addTerm_133 : decode cX3_addTerm 133 = .ok (.iadd, 1) := by decide +kernel
theorem dX3_addTerm_134 : decode cX3_addTerm 134 = .ok (.aload_n 2, 1) := by decide +kernel
theorem dX3_addTerm_135 : decode cX3_addTerm 135 = .ok (.getfield 93, 3) := by decide +kernel
theorem dX3_addTerm_138 : decode cX3_addTerm 138 = .ok (.invokestatic 96, 3) := by decide +kernel
theorem dX3_addTerm_141 : decode cX3_addTerm 141 = .ok (.iastore, 1) := by decide +kernel
theorem dX3_addTerm_142 : decode cX3_addTerm 142 = .ok (.iload 7, 2) := by decide +kernel
theorem dX3_addTerm_144 : decode cX3_addTerm 144 = .ok (.ireturn, 1) := by decide +kernel
theorem dX4_init_0 : decode cX4_init 0 = .ok (.aload_n 0, 1) := by decide +kernel
theorem dX4_init_1 : decode cX4_init 1 = .ok (.invokespecial 3, 3) := by decide +kernel
theorem dX4_init_4 : decode cX4_init 4 = .ok (.aload_n 0, 1) := by decide +kernel
theorem dX4_init_5 : decode cX4_init 5 = .ok (.iconst 3, 1) := by decide +kernel
theorem dX4_init_6 : decode cX4_init 6 = .ok (.putfield 9, 3) := by decide +kernel
theorem dX4_init_9 : decode cX4_init 9 = .ok (.aload_n 0, 1) := by decide +kernel
theorem dX4_init_10 : decode cX4_init 10 = .ok (.iconst 5, 1) := by decide +kernel
theorem dX4_init_11 : decode cX4_init 11 = .ok (.putfield 15, 3) := by decide +kernel
theorem dX4_init_14 : decode cX4_init 14 = .ok (.aload_n 0, 1) := by decide +kernel
theorem dX4_init_15 : decode cX4_init 15 = .ok (.iconst 0, 1) := by decide +kernel
theorem dX4_init_16 : decode cX4_init 16 = .ok (.putfield 18, 3) := by decide +kernel
theorem dX4_init_19 : decode cX4_init 19 = .ok (.aload_n 0, 1) := by decide +kernel
theorem dX4_init_20 : decode cX4_init 20 = .ok (.bipush 6, 2) := by decide +kernel
theorem dX4_init_22 : decode cX4_init 22 = .ok (.bipush 16, 2) := by decide +kernel
theorem dX4_init_24 : decode cX4_init 24 = .ok (.multianewarray 21 2, 4) := by decide +kernel
theorem dX4_init_28 : decode cX4_init 28 = .ok (.putfield 23, 3) := by decide +kernel
theorem dX4_init_31 : decode cX4_init 31 = .ok (.aload_n 0, 1) := by decide +kernel
theorem dX4_init_32 : decode cX4_init 32 = .ok (.iconst 4, 1) := by decide +kernel
theorem dX4_init_33 : decode cX4_init 33 = .ok (.bipush 16, 2) := by decide +kernel
theorem dX4_init_35 : decode cX4_init 35 = .ok (.multianewarray 21 2, 4) := by decide +kernel
theorem dX4_init_39 : decode cX4_init 39 = .ok (.putfield 26, 3) := by decide +kernel
theorem dX4_init_42 : decode cX4_init 42 = .ok (.aload_n 0, 1) := by decide +kernel
theorem dX4_init_43 : decode cX4_init 43 = .ok (.iconst 0, 1) := by decide +kernel
theorem dX4_init_44 : decode cX4_init 44 = .ok (.putfield 29, 3) := by decide +kernel
theorem dX4_init_47 : decode cX4_init 47 = .ok (.aload_n 0, 1) := by decide +kernel
theorem dX4_init_48 : decode cX4_init 48 = .ok (.bipush 8, 2) := by decide +kernel
theorem dX4_init_50 : decode cX4_init 50 = .ok (.newarray .int, 2) := by decide +kernel
theorem dX4_init_52 : decode cX4_init 52 = .ok (.putfield 32, 3) := by decide +kernel
theorem dX4_init_55 : decode cX4_init 55 = .ok (.aload_n 0, 1) := by decide +kernel
theorem dX4_init_56 : decode cX4_init 56 = .ok (.bipush 8, 2) := by decide +kernel
theorem dX4_init_58 : decode cX4_init 58 = .ok (.newarray .int, 2) := by decide +kernel
theorem dX4_init_60 : decode cX4_init 60 = .ok (.putfield 36, 3) := by decide +kernel
theorem dX4_init_63 : decode cX4_init 63 = .ok (.aload_n 0, 1) := by decide +kernel
theorem dX4_init_64 : decode cX4_init 64 = .ok (.iconst 0, 1) := by decide +kernel
theorem dX4_init_65 : decode cX4_init 65 = .ok (.putfield 39, 3) := by decide +kernel
theorem dX4_init_68 : decode cX4_init 68 = .ok (.aload_n 0, 1) := by decide +kernel
theorem dX4_init_69 : decode cX4_init 69 = .ok (.bipush 8, 2) := by decide +kernel
theorem dX4_init_71 : decode cX4_init 71 = .ok (.newarray .int, 2) := by decide +kernel
theorem dX4_init_73 : decode cX4_init 73 = .ok (.putfield 42, 3) := by decide +kernel
theorem dX4_init_76 : decode cX4_init 76 = .ok (.aload_n 0, 1) := by decide +kernel
theorem dX4_init_77 : decode cX4_init 77 = .ok (.bipush 8, 2) := by decide +kernel
theorem dX4_init_79 : decode cX4_init 79 = .ok (.newarray .int, 2) := by decide +kernel
theorem dX4_init_81 : decode cX4_init 81 = .ok (.putfield 45, 3) := by decide +kernel
theorem dX4_init_84 : decode cX4_init 84 = .ok (.aload_n 0, 1) := by decide +kernel
theorem dX4_init_85 : decode cX4_init 85 = .ok (.iconst 0, 1) := by decide +kernel
theorem dX4_init_86 : decode cX4_init 86 = .ok (.putfield 48, 3) := by decide +kernel
theorem dX4_init_89 : decode cX4_init 89 = .ok (.aload_n 0, 1) := by decide +kernel
theorem dX4_init_90 : decode cX4_init 90 = .ok (.iconst 0, 1) := by decide +kernel
theorem dX4_init_91 : decode cX4_init 91 = .ok (.putfield 51, 3) := by decide +kernel
theorem dX4_init_94 : decode cX4_init 94 = .ok (.return_, 1) := by decide +kernel
theorem dX4_width_0 : decode cX4_width 0 = .ok (.iconst 1, 1) := by decide +kernel
theorem dX4_width_1 : decode cX4_width 1 = .ok (.aload_n 0, 1) := by decide +kernel
theorem dX4_width_2 : decode cX4_width 2 = .ok (.getfield 9, 3) := by decide +kernel
theorem dX4_width_5 : decode cX4_width 5 = .ok (.ishl, 1) := by decide +kernel
theorem dX4_width_6 : decode cX4_width 6 = .ok (.ireturn, 1) := by decide +kernel
theorem dX4_hasElement_0 : decode cX4_hasElement 0 = .ok (.iload_n 1, 1) := by decide +kernel
theorem dX4_hasElement_1 : decode cX4_hasElement 1 = .ok (.ifCond .lt 13, 3) := by decide +kernel
theorem dX4_hasElement_4 : decode cX4_hasElement 4 = .ok (.iload_n 1, 1) := by decide +kernel
theorem dX4_hasElement_5 : decode cX4_hasElement 5 = .ok (.bipush 6, 2) := by decide +kernel
theorem dX4_hasElement_7 : decode cX4_hasElement 7 = .ok (.if_icmp .ge 7, 3) := by decide +kernel
theorem dX4_hasElement_10 : decode cX4_hasElement 10 = .ok (.iconst 1, 1) := by decide +kernel
theorem dX4_hasElement_11 : decode cX4_hasElement 11 = .ok (.goto 4, 3) := by decide +kernel
theorem dX4_hasElement_14 : decode cX4_hasElement 14 = .ok (.iconst 0, 1) := by decide +kernel
theorem dX4_hasElement_15 : decode cX4_hasElement 15 = .ok (.ireturn, 1) := by decide +kernel
theorem dX4_hasPlace_0 : decode cX4_hasPlace 0 = .ok (.iload_n 1, 1) := by decide +kernel
theorem dX4_hasPlace_1 : decode cX4_hasPlace 1 = .ok (.ifCond .lt 15, 3) := by decide +kernel
theorem dX4_hasPlace_4 : decode cX4_hasPlace 4 = .ok (.iload_n 1, 1) := by decide +kernel
theorem dX4_hasPlace_5 : decode cX4_hasPlace 5 = .ok (.aload_n 0, 1) := by decide +kernel
theorem dX4_hasPlace_6 : decode cX4_hasPlace 6 = .ok (.invokevirtual 54, 3) := by decide +kernel
theorem dX4_hasPlace_9 : decode cX4_hasPlace 9 = .ok (.if_icmp .ge 7, 3) := by decide +kernel
theorem dX4_hasPlace_12 : decode cX4_hasPlace 12 = .ok (.iconst 1, 1) := by decide +kernel
theorem dX4_hasPlace_13 : decode cX4_hasPlace 13 = .ok (.goto 4, 3) := by decide +kernel
theorem dX4_hasPlace_16 : decode cX4_hasPlace 16 = .ok (.iconst 0, 1) := by decide +kernel
theorem dX4_hasPlace_17 : decode cX4_hasPlace 17 = .ok (.ireturn, 1) := by decide +kernel
theorem dX4_hasGenerator_0 : decode cX4_hasGenerator 0 = .ok (.iload_n 1, 1) := by decide +kernel
theorem dX4_hasGenerator_1 : decode cX4_hasGenerator 1 = .ok (.ifCond .lt 15, 3) := by decide +kernel
theorem dX4_hasGenerator_4 : decode cX4_hasGenerator 4 = .ok (.iload_n 1, 1) := by decide +kernel
theorem dX4_hasGenerator_5 : decode cX4_hasGenerator 5 = .ok (.aload_n 0, 1) := by decide +kernel
theorem dX4_hasGenerator_6 : decode cX4_hasGenerator 6 = .ok (.getfield 29, 3) := by decide +kernel
theorem dX4_hasGenerator_9 : decode cX4_hasGenerator 9 = .ok (.if_icmp .ge 7, 3) := by decide +kernel
theorem dX4_hasGenerator_12 : decode cX4_hasGenerator 12 = .ok (.iconst 1, 1) := by decide +kernel
