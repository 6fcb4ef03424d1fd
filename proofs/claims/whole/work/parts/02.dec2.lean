theorem dX5_more_10 : decode cX5_more 10 = .ok (.ldc2_w 211, 3) := by decide +kernel
theorem dX5_more_13 : decode cX5_more 13 = .ok (.ldc2_w 213, 3) := by decide +kernel
theorem dX5_more_16 : decode cX5_more 16 = .ok (.invokestatic 54, 3) := by decide +kernel
theorem dX5_more_19 : decode cX5_more 19 = .ok (.ifCond .ne 5, 3) := by decide +kernel
theorem dX5_more_22 : decode cX5_more 22 = .ok (.iconst (-1), 1) := by decide +kernel
theorem dX5_more_23 : decode cX5_more 23 = .ok (.ireturn, 1) := by decide +kernel
theorem dX5_more_24 : decode cX5_more 24 = .ok (.aload_n 0, 1) := by decide +kernel
theorem dX5_more_25 : decode cX5_more 25 = .ok (.iload_n 1, 1) := by decide +kernel
theorem dX5_more_26 : decode cX5_more 26 = .ok (.invokevirtual 146, 3) := by decide +kernel
theorem dX5_more_29 : decode cX5_more 29 = .ok (.iload_n 2, 1) := by decide +kernel
theorem dX5_more_30 : decode cX5_more 30 = .ok (.iadd, 1) := by decide +kernel
theorem dX5_more_31 : decode cX5_more 31 = .ok (.istore_n 3, 1) := by decide +kernel
theorem dX5_more_32 : decode cX5_more 32 = .ok (.aload_n 0, 1) := by decide +kernel
theorem dX5_more_33 : decode cX5_more 33 = .ok (.iload_n 1, 1) := by decide +kernel
theorem dX5_more_34 : decode cX5_more 34 = .ok (.invokevirtual 146, 3) := by decide +kernel
theorem dX5_more_37 : decode cX5_more 37 = .ok (.bipush (-4), 2) := by decide +kernel
theorem dX5_more_39 : decode cX5_more 39 = .ok (.if_icmp .eq 27, 3) := by decide +kernel
theorem dX5_more_42 : decode cX5_more 42 = .ok (.iload_n 3, 1) := by decide +kernel
theorem dX5_more_43 : decode cX5_more 43 = .ok (.i2l, 1) := by decide +kernel
theorem dX5_more_44 : decode cX5_more 44 = .ok (.lconst 0, 1) := by decide +kernel
theorem dX5_more_45 : decode cX5_more 45 = .ok (.aload_n 0, 1) := by decide +kernel
theorem dX5_more_46 : decode cX5_more 46 = .ok (.getfield 7, 3) := by decide +kernel
theorem dX5_more_49 : decode cX5_more 49 = .ok (.bipush 18, 2) := by decide +kernel
theorem dX5_more_51 : decode cX5_more 51 = .ok (.iload_n 1, 1) := by decide +kernel
theorem dX5_more_52 : decode cX5_more 52 = .ok (.iadd, 1) := by decide +kernel
theorem dX5_more_53 : decode cX5_more 53 = .ok (.iaload, 1) := by decide +kernel
theorem dX5_more_54 : decode cX5_more 54 = .ok (.invokestatic 201, 3) := by decide +kernel
theorem dX5_more_57 : decode cX5_more 57 = .ok (.iconst 1, 1) := by decide +kernel
theorem dX5_more_58 : decode cX5_more 58 = .ok (.isub, 1) := by decide +kernel
theorem dX5_more_59 : decode cX5_more 59 = .ok (.i2l, 1) := by decide +kernel
theorem dX5_more_60 : decode cX5_more 60 = .ok (.invokestatic 54, 3) := by decide +kernel
theorem dX5_more_63 : decode cX5_more 63 = .ok (.ifCond .ne 6, 3) := by decide +kernel
theorem dX5_more_66 : decode cX5_more 66 = .ok (.bipush (-2), 2) := by decide +kernel
theorem dX5_more_68 : decode cX5_more 68 = .ok (.ireturn, 1) := by decide +kernel
theorem dX5_more_69 : decode cX5_more 69 = .ok (.aload_n 0, 1) := by decide +kernel
theorem dX5_more_70 : decode cX5_more 70 = .ok (.iload_n 1, 1) := by decide +kernel
theorem dX5_more_71 : decode cX5_more 71 = .ok (.iload_n 3, 1) := by decide +kernel
theorem dX5_more_72 : decode cX5_more 72 = .ok (.invokevirtual 207, 3) := by decide +kernel
theorem dX5_more_75 : decode cX5_more 75 = .ok (.iload_n 3, 1) := by decide +kernel
theorem dX5_more_76 : decode cX5_more 76 = .ok (.ireturn, 1) := by decide +kernel
theorem dX5_isKnot_0 : decode cX5_isKnot 0 = .ok (.iload_n 0, 1) := by decide +kernel
theorem dX5_isKnot_1 : decode cX5_isKnot 1 = .ok (.tableswitch 74 0 3 #[31, 41, 51, 63], 31) := by decide +kernel
theorem dX5_isKnot_32 : decode cX5_isKnot 32 = .ok (.iload_n 1, 1) := by decide +kernel
theorem dX5_isKnot_33 : decode cX5_isKnot 33 = .ok (.ifCond .ne 7, 3) := by decide +kernel
theorem dX5_isKnot_36 : decode cX5_isKnot 36 = .ok (.iconst 1, 1) := by decide +kernel
theorem dX5_isKnot_37 : decode cX5_isKnot 37 = .ok (.goto 4, 3) := by decide +kernel
theorem dX5_isKnot_40 : decode cX5_isKnot 40 = .ok (.iconst 0, 1) := by decide +kernel
theorem dX5_isKnot_41 : decode cX5_isKnot 41 = .ok (.ireturn, 1) := by decide +kernel
theorem dX5_isKnot_42 : decode cX5_isKnot 42 = .ok (.iload_n 1, 1) := by decide +kernel
theorem dX5_isKnot_43 : decode cX5_isKnot 43 = .ok (.i2l, 1) := by decide +kernel
theorem dX5_isKnot_44 : decode cX5_isKnot 44 = .ok (.lconst 1, 1) := by decide +kernel
theorem dX5_isKnot_45 : decode cX5_isKnot 45 = .ok (.ldc2_w 215, 3) := by decide +kernel
theorem dX5_isKnot_48 : decode cX5_isKnot 48 = .ok (.invokestatic 54, 3) := by decide +kernel
theorem dX5_isKnot_51 : decode cX5_isKnot 51 = .ok (.ireturn, 1) := by decide +kernel
theorem dX5_isKnot_52 : decode cX5_isKnot 52 = .ok (.iload_n 1, 1) := by decide +kernel
theorem dX5_isKnot_53 : decode cX5_isKnot 53 = .ok (.i2l, 1) := by decide +kernel
theorem dX5_isKnot_54 : decode cX5_isKnot 54 = .ok (.ldc2_w 217, 3) := by decide +kernel
theorem dX5_isKnot_57 : decode cX5_isKnot 57 = .ok (.ldc2_w 215, 3) := by decide +kernel
theorem dX5_isKnot_60 : decode cX5_isKnot 60 = .ok (.invokestatic 54, 3) := by decide +kernel
theorem dX5_isKnot_63 : decode cX5_isKnot 63 = .ok (.ireturn, 1) := by decide +kernel
theorem dX5_isKnot_64 : decode cX5_isKnot 64 = .ok (.iload_n 1, 1) := by decide +kernel
theorem dX5_isKnot_65 : decode cX5_isKnot 65 = .ok (.iconst 1, 1) := by decide +kernel
theorem dX5_isKnot_66 : decode cX5_isKnot 66 = .ok (.if_icmp .ne 7, 3) := by decide +kernel
theorem dX5_isKnot_69 : decode cX5_isKnot 69 = .ok (.iconst 1, 1) := by decide +kernel
theorem dX5_isKnot_70 : decode cX5_isKnot 70 = .ok (.goto 4, 3) := by decide +kernel
theorem dX5_isKnot_73 : decode cX5_isKnot 73 = .ok (.iconst 0, 1) := by decide +kernel
theorem dX5_isKnot_74 : decode cX5_isKnot 74 = .ok (.ireturn, 1) := by decide +kernel
theorem dX5_isKnot_75 : decode cX5_isKnot 75 = .ok (.iconst 0, 1) := by decide +kernel
theorem dX5_isKnot_76 : decode cX5_isKnot 76 = .ok (.ireturn, 1) := by decide +kernel
theorem dX5_knot_0 : decode cX5_knot 0 = .ok (.aload_n 0, 1) := by decide +kernel
theorem dX5_knot_1 : decode cX5_knot 1 = .ok (.iload_n 1, 1) := by decide +kernel
theorem dX5_knot_2 : decode cX5_knot 2 = .ok (.invokevirtual 156, 3) := by decide +kernel
theorem dX5_knot_5 : decode cX5_knot 5 = .ok (.ifCond .eq 33, 3) := by decide +kernel
theorem dX5_knot_8 : decode cX5_knot 8 = .ok (.iload_n 2, 1) := by decide +kernel
theorem dX5_knot_9 : decode cX5_knot 9 = .ok (.i2l, 1) := by decide +kernel
theorem dX5_knot_10 : decode cX5_knot 10 = .ok (.lconst 0, 1) := by decide +kernel
theorem dX5_knot_11 : decode cX5_knot 11 = .ok (.aload_n 0, 1) := by decide +kernel
theorem dX5_knot_12 : decode cX5_knot 12 = .ok (.getfield 7, 3) := by decide +kernel
theorem dX5_knot_15 : decode cX5_knot 15 = .ok (.bipush 18, 2) := by decide +kernel
theorem dX5_knot_17 : decode cX5_knot 17 = .ok (.iload_n 1, 1) := by decide +kernel
theorem dX5_knot_18 : decode cX5_knot 18 = .ok (.iadd, 1) := by decide +kernel
theorem dX5_knot_19 : decode cX5_knot 19 = .ok (.iaload, 1) := by decide +kernel
theorem dX5_knot_20 : decode cX5_knot 20 = .ok (.iconst 1, 1) := by decide +kernel
theorem dX5_knot_21 : decode cX5_knot 21 = .ok (.isub, 1) := by decide +kernel
theorem dX5_knot_22 : decode cX5_knot 22 = .ok (.i2l, 1) := by decide +kernel
theorem dX5_knot_23 : decode cX5_knot 23 = .ok (.invokestatic 54, 3) := by decide +kernel
theorem dX5_knot_26 : decode cX5_knot 26 = .ok (.ifCond .eq 12, 3) := by decide +kernel
theorem dX5_knot_29 : decode cX5_knot 29 = .ok (.iload_n 3, 1) := by decide +kernel
theorem dX5_knot_30 : decode cX5_knot 30 = .ok (.iload 4, 2) := by decide +kernel
theorem dX5_knot_32 : decode cX5_knot 32 = .ok (.invokestatic 219, 3) := by decide +kernel
theorem dX5_knot_35 : decode cX5_knot 35 = .ok (.ifCond .ne 5, 3) := by decide +kernel
theorem dX5_knot_38 : decode cX5_knot 38 = .ok (.iconst (-1), 1) := by decide +kernel
theorem dX5_knot_39 : decode cX5_knot 39 = .ok (.ireturn, 1) := by decide +kernel
theorem dX5_knot_40 : decode cX5_knot 40 = .ok (.aload_n 0, 1) := by decide +kernel
theorem dX5_knot_41 : decode cX5_knot 41 = .ok (.invokevirtual 198, 3) := by decide +kernel
theorem dX5_knot_44 : decode cX5_knot 44 = .ok (.aload_n 0, 1) := by decide +kernel
theorem dX5_knot_45 : decode cX5_knot 45 = .ok (.getfield 7, 3) := by decide +kernel
theorem dX5_knot_48 : decode cX5_knot 48 = .ok (.bipush 34, 2) := by decide +kernel
theorem dX5_knot_50 : decode cX5_knot 50 = .ok (.iconst 4, 1) := by decide +kernel
theorem dX5_knot_51 : decode cX5_knot 51 = .ok (.iload_n 1, 1) := by decide +kernel
theorem dX5_knot_52 : decode cX5_knot 52 = .ok (.imul, 1) := by decide +kernel
theorem dX5_knot_53 : decode cX5_knot 53 = .ok (.iadd, 1) := by decide +kernel
theorem dX5_knot_54 : decode cX5_knot 54 = .ok (.iload_n 2, 1) := by decide +kernel
theorem dX5_knot_55 : decode cX5_knot 55 = .ok (.iadd, 1) := by decide +kernel
theorem dX5_knot_56 : decode cX5_knot 56 = .ok (.bipush 10, 2) := by decide +kernel
theorem dX5_knot_58 : decode cX5_knot 58 = .ok (.iload_n 3, 1) := by decide +kernel
theorem dX5_knot_59 : decode cX5_knot 59 = .ok (.imul, 1) := by decide +kernel
theorem dX5_knot_60 : decode cX5_knot 60 = .ok (.iload 4, 2) := by decide +kernel
theorem dX5_knot_62 : decode cX5_knot 62 = .ok (.iadd, 1) := by decide +kernel
theorem dX5_knot_63 : decode cX5_knot 63 = .ok (.iastore, 1) := by decide +kernel
theorem dX5_knot_64 : decode cX5_knot 64 = .ok (.aload_n 0, 1) := by decide +kernel
theorem dX5_knot_65 : decode cX5_knot 65 = .ok (.iload_n 1, 1) := by decide +kernel
theorem dX5_knot_66 : decode cX5_knot 66 = .ok (.invokevirtual 168, 3) := by decide +kernel
theorem dX5_knot_69 : decode cX5_knot 69 = .ok (.ireturn, 1) := by decide +kernel
theorem dX5_dye_0 : decode cX5_dye 0 = .ok (.aload_n 0, 1) := by decide +kernel
theorem dX5_dye_1 : decode cX5_dye 1 = .ok (.iload_n 1, 1) := by decide +kernel
theorem dX5_dye_2 : decode cX5_dye 2 = .ok (.invokevirtual 156, 3) := by decide +kernel
theorem dX5_dye_5 : decode cX5_dye 5 = .ok (.ifCond .eq 15, 3) := by decide +kernel
theorem dX5_dye_8 : decode cX5_dye 8 = .ok (.iload_n 2, 1) := by decide +kernel
theorem dX5_dye_9 : decode cX5_dye 9 = .ok (.i2l, 1) := by decide +kernel
theorem dX5_dye_10 : decode cX5_dye 10 = .ok (.lconst 0, 1) := by decide +kernel
theorem dX5_dye_11 : decode cX5_dye 11 = .ok (.ldc2_w 215, 3) := by decide +kernel
theorem dX5_dye_14 : decode cX5_dye 14 = .ok (.invokestatic 54, 3) := by decide +kernel
theorem dX5_dye_17 : decode cX5_dye 17 = .ok (.ifCond .ne 5, 3) := by decide +kernel
theorem dX5_dye_20 : decode cX5_dye 20 = .ok (.iconst (-1), 1) := by decide +kernel
theorem dX5_dye_21 : decode cX5_dye 21 = .ok (.ireturn, 1) := by decide +kernel
theorem dX5_dye_22 : decode cX5_dye 22 = .ok (.aload_n 0, 1) := by decide +kernel
theorem dX5_dye_23 : decode cX5_dye 23 = .ok (.invokevirtual 198, 3) := by decide +kernel
theorem dX5_dye_26 : decode cX5_dye 26 = .ok (.aload_n 0, 1) := by decide +kernel
theorem dX5_dye_27 : decode cX5_dye 27 = .ok (.getfield 7, 3) := by decide +kernel
theorem dX5_dye_30 : decode cX5_dye 30 = .ok (.iconst 2, 1) := by decide +kernel
theorem dX5_dye_31 : decode cX5_dye 31 = .ok (.iload_n 1, 1) := by decide +kernel
theorem dX5_dye_32 : decode cX5_dye 32 = .ok (.iadd, 1) := by decide +kernel
theorem dX5_dye_33 : decode cX5_dye 33 = .ok (.iaload, 1) := by decide +kernel
theorem dX5_dye_34 : decode cX5_dye 34 = .ok (.istore_n 3, 1) := by decide +kernel
theorem dX5_dye_35 : decode cX5_dye 35 = .ok (.aload_n 0, 1) := by decide +kernel
theorem dX5_dye_36 : decode cX5_dye 36 = .ok (.getfield 7, 3) := by decide +kernel
theorem dX5_dye_39 : decode cX5_dye 39 = .ok (.iconst 2, 1) := by decide +kernel
theorem dX5_dye_40 : decode cX5_dye 40 = .ok (.iload_n 1, 1) := by decide +kernel
theorem dX5_dye_41 : decode cX5_dye 41 = .ok (.iadd, 1) := by decide +kernel
theorem dX5_dye_42 : decode cX5_dye 42 = .ok (.iload_n 2, 1) := by decide +kernel
theorem dX5_dye_43 : decode cX5_dye 43 = .ok (.iastore, 1) := by decide +kernel
theorem dX5_dye_44 : decode cX5_dye 44 = .ok (.iload_n 3, 1) := by decide +kernel
theorem dX5_dye_45 : decode cX5_dye 45 = .ok (.ireturn, 1) := by decide +kernel
theorem dX5_hang_0 : decode cX5_hang 0 = .ok (.aload_n 0, 1) := by decide +kernel
theorem dX5_hang_1 : decode cX5_hang 1 = .ok (.iload_n 1, 1) := by decide +kernel
theorem dX5_hang_2 : decode cX5_hang 2 = .ok (.invokevirtual 156, 3) := by decide +kernel
theorem dX5_hang_5 : decode cX5_hang 5 = .ok (.ifCond .eq 11, 3) := by decide +kernel
theorem dX5_hang_8 : decode cX5_hang 8 = .ok (.aload_n 0, 1) := by decide +kernel
theorem dX5_hang_9 : decode cX5_hang 9 = .ok (.iload_n 2, 1) := by decide +kernel
theorem dX5_hang_10 : decode cX5_hang 10 = .ok (.invokevirtual 183, 3) := by decide +kernel
theorem dX5_hang_13 : decode cX5_hang 13 = .ok (.ifCond .ne 5, 3) := by decide +kernel
theorem dX5_hang_16 : decode cX5_hang 16 = .ok (.iconst (-1), 1) := by decide +kernel
theorem dX5_hang_17 : decode cX5_hang 17 = .ok (.ireturn, 1) := by decide +kernel
theorem dX5_hang_18 : decode cX5_hang 18 = .ok (.aload_n 0, 1) := by decide +kernel
theorem dX5_hang_19 : decode cX5_hang 19 = .ok (.iload_n 1, 1) := by decide +kernel
theorem dX5_hang_20 : decode cX5_hang 20 = .ok (.invokevirtual 170, 3) := by decide +kernel
theorem dX5_hang_23 : decode cX5_hang 23 = .ok (.ifCond .eq 33, 3) := by decide +kernel
theorem dX5_hang_26 : decode cX5_hang 26 = .ok (.aload_n 0, 1) := by decide +kernel
theorem dX5_hang_27 : decode cX5_hang 27 = .ok (.aload_n 0, 1) := by decide +kernel
theorem dX5_hang_28 : decode cX5_hang 28 = .ok (.getfield 7, 3) := by decide +kernel
theorem dX5_hang_31 : decode cX5_hang 31 = .ok (.bipush 114, 2) := by decide +kernel
theorem dX5_hang_33 : decode cX5_hang 33 = .ok (.iload_n 1, 1) := by decide +kernel
theorem dX5_hang_34 : decode cX5_hang 34 = .ok (.iadd, 1) := by decide +kernel
theorem dX5_hang_35 : decode cX5_hang 35 = .ok (.iaload, 1) := by decide +kernel
theorem dX5_hang_36 : decode cX5_hang 36 = .ok (.invokevirtual 186, 3) := by decide +kernel
theorem dX5_hang_39 : decode cX5_hang 39 = .ok (.iconst 1, 1) := by decide +kernel
theorem dX5_hang_40 : decode cX5_hang 40 = .ok (.if_icmp .eq 16, 3) := by decide +kernel
theorem dX5_hang_43 : decode cX5_hang 43 = .ok (.aload_n 0, 1) := by decide +kernel
theorem dX5_hang_44 : decode cX5_hang 44 = .ok (.getfield 7, 3) := by decide +kernel
theorem dX5_hang_47 : decode cX5_hang 47 = .ok (.bipush 114, 2) := by decide +kernel
theorem dX5_hang_49 : decode cX5_hang 49 = .ok (.iload_n 1, 1) := by decide +kernel
theorem dX5_hang_50 : decode cX5_hang 50 = .ok (.iadd, 1) := by decide +kernel
theorem dX5_hang_51 : decode cX5_hang 51 = .ok (.iaload, 1) := by decide +kernel
theorem dX5_hang_52 : decode cX5_hang 52 = .ok (.iload_n 2, 1) := by decide +kernel
theorem dX5_hang_53 : decode cX5_hang 53 = .ok (.if_icmp .ne 6, 3) := by decide +kernel
theorem dX5_hang_56 : decode cX5_hang 56 = .ok (.bipush (-2), 2) := by decide +kernel
theorem dX5_hang_58 : decode cX5_hang 58 = .ok (.ireturn, 1) := by decide +kernel
theorem dX5_hang_59 : decode cX5_hang 59 = .ok (.aload_n 0, 1) := by decide +kernel
theorem dX5_hang_60 : decode cX5_hang 60 = .ok (.invokevirtual 198, 3) := by decide +kernel
theorem dX5_hang_63 : decode cX5_hang 63 = .ok (.iconst 0, 1) := by decide +kernel
theorem dX5_hang_64 : decode cX5_hang 64 = .ok (.istore_n 3, 1) := by decide +kernel
theorem dX5_hang_65 : decode cX5_hang 65 = .ok (.iconst 0, 1) := by decide +kernel
theorem dX5_hang_66 : decode cX5_hang 66 = .ok (.istore 4, 2) := by decide +kernel
theorem dX5_hang_68 : decode cX5_hang 68 = .ok (.iload 4, 2) := by decide +kernel
theorem dX5_hang_70 : decode cX5_hang 70 = .ok (.aload_n 0, 1) := by decide +kernel
theorem dX5_hang_71 : decode cX5_hang 71 = .ok (.getfield 7, 3) := by decide +kernel
theorem dX5_hang_74 : decode cX5_hang 74 = .ok (.iconst 0, 1) := by decide +kernel
theorem dX5_hang_75 : decode cX5_hang 75 = .ok (.iaload, 1) := by decide +kernel
theorem dX5_hang_76 : decode cX5_hang 76 = .ok (.if_icmp .ge 74, 3) := by decide +kernel
theorem dX5_hang_79 : decode cX5_hang 79 = .ok (.aload_n 0, 1) := by decide +kernel
theorem dX5_hang_80 : decode cX5_hang 80 = .ok (.getfield 7, 3) := by decide +kernel
theorem dX5_hang_83 : decode cX5_hang 83 = .ok (.sipush 146, 3) := by decide +kernel
theorem dX5_hang_86 : decode cX5_hang 86 = .ok (.iload 4, 2) := by decide +kernel
theorem dX5_hang_88 : decode cX5_hang 88 = .ok (.iadd, 1) := by decide +kernel
theorem dX5_hang_89 : decode cX5_hang 89 = .ok (.iaload, 1) := by decide +kernel
theorem dX5_hang_90 : decode cX5_hang 90 = .ok (.iload_n 3, 1) := by decide +kernel
theorem dX5_hang_91 : decode cX5_hang 91 = .ok (.if_icmp .le 17, 3) := by decide +kernel
theorem dX5_hang_94 : decode cX5_hang 94 = .ok (.aload_n 0, 1) := by decide +kernel
theorem dX5_hang_95 : decode cX5_hang 95 = .ok (.getfield 7, 3) := by decide +kernel
theorem dX5_hang_98 : decode cX5_hang 98 = .ok (.sipush 146, 3) := by decide +kernel
theorem dX5_hang_101 : decode cX5_hang 101 = .ok (.iload 4, 2) := by decide +kernel
theorem dX5_hang_103 : decode cX5_hang 103 = .ok (.iadd, 1) := by decide +kernel
theorem dX5_hang_104 : decode cX5_hang 104 = .ok (.iaload, 1) := by decide +kernel
theorem dX5_hang_105 : decode cX5_hang 105 = .ok (.goto 4, 3) := by decide +kernel
theorem dX5_hang_108 : decode cX5_hang 108 = .ok (.iload_n 3, 1) := by decide +kernel
theorem dX5_hang_109 : decode cX5_hang 109 = .ok (.istore_n 3, 1) := by decide +kernel
theorem dX5_hang_110 : decode cX5_hang 110 = .ok (.aload_n 0, 1) := by decide +kernel
theorem dX5_hang_111 : decode cX5_hang 111 = .ok (.getfield 7, 3) := by decide +kernel
theorem dX5_hang_114 : decode cX5_hang 114 = .ok (.bipush 114, 2) := by decide +kernel
theorem dX5_hang_116 : decode cX5_hang 116 = .ok (.iload 4, 2) := by decide +kernel
theorem dX5_hang_118 : decode cX5_hang 118 = .ok (.iadd, 1) := by decide +kernel
theorem dX5_hang_119 : decode cX5_hang 119 = .ok (.aload_n 0, 1) := by decide +kernel
theorem dX5_hang_120 : decode cX5_hang 120 = .ok (.iload 4, 2) := by decide +kernel
theorem dX5_hang_122 : decode cX5_hang 122 = .ok (.iload_n 1, 1) := by decide +kernel
theorem dX5_hang_123 : decode cX5_hang 123 = .ok (.invokevirtual 142, 3) := by decide +kernel
theorem dX5_hang_126 : decode cX5_hang 126 = .ok (.ifCond .eq 7, 3) := by decide +kernel
theorem dX5_hang_129 : decode cX5_hang 129 = .ok (.iload_n 2, 1) := by decide +kernel
theorem dX5_hang_130 : decode cX5_hang 130 = .ok (.goto 13, 3) := by decide +kernel
theorem dX5_hang_133 : decode cX5_hang 133 = .ok (.aload_n 0, 1) := by decide +kernel
theorem dX5_hang_134 : decode cX5_hang 134 = .ok (.getfield 7, 3) := by decide +kernel
theorem dX5_hang_137 : decode cX5_hang 137 = .ok (.bipush 114, 2) := by decide +kernel
theorem dX5_hang_139 : decode cX5_hang 139 = .ok (.iload 4, 2) := by decide +kernel
theorem dX5_hang_141 : decode cX5_hang 141 = .ok (.iadd, 1) := by decide +kernel
theorem dX5_hang_142 : decode cX5_hang 142 = .ok (.iaload, 1) := by decide +kernel
theorem dX5_hang_143 : decode cX5_hang 143 = .ok (.iastore, 1) := by decide +kernel
theorem dX5_hang_144 : decode cX5_hang 144 = .ok (.iinc 4 1, 3) := by decide +kernel
theorem dX5_hang_147 : decode cX5_hang 147 = .ok (.goto (-79), 3) := by decide +kernel
theorem dX5_hang_150 : decode cX5_hang 150 = .ok (.aload_n 0, 1) := by decide +kernel
theorem dX5_hang_151 : decode cX5_hang 151 = .ok (.getfield 7, 3) := by decide +kernel
theorem dX5_hang_154 : decode cX5_hang 154 = .ok (.bipush 114, 2) := by decide +kernel
theorem dX5_hang_156 : decode cX5_hang 156 = .ok (.iload_n 1, 1) := by decide +kernel
theorem dX5_hang_157 : decode cX5_hang 157 = .ok (.iadd, 1) := by decide +kernel
theorem dX5_hang_158 : decode cX5_hang 158 = .ok (.iload_n 2, 1) := by decide +kernel
theorem dX5_hang_159 : decode cX5_hang 159 = .ok (.iastore, 1) := by decide +kernel
theorem dX5_hang_160 : decode cX5_hang 160 = .ok (.aload_n 0, 1) := by decide +kernel
theorem dX5_hang_161 : decode cX5_hang 161 = .ok (.getfield 7, 3) := by decide +kernel
theorem dX5_hang_164 : decode cX5_hang 164 = .ok (.sipush 146, 3) := by decide +kernel
theorem dX5_hang_167 : decode cX5_hang 167 = .ok (.iload_n 1, 1) := by decide +kernel
theorem dX5_hang_168 : decode cX5_hang 168 = .ok (.iadd, 1) := by decide +kernel
theorem dX5_hang_169 : decode cX5_hang 169 = .ok (.iload_n 3, 1) := by decide +kernel
theorem dX5_hang_170 : decode cX5_hang 170 = .ok (.iconst 1, 1) := by decide +kernel
theorem dX5_hang_171 : decode cX5_hang 171 = .ok (.iadd, 1) := by decide +kernel
theorem dX5_hang_172 : decode cX5_hang 172 = .ok (.iastore, 1) := by decide +kernel
theorem dX5_hang_173 : decode cX5_hang 173 = .ok (.aload_n 0, 1) := by decide +kernel
theorem dX5_hang_174 : decode cX5_hang 174 = .ok (.iload_n 2, 1) := by decide +kernel
theorem dX5_hang_175 : decode cX5_hang 175 = .ok (.invokevirtual 186, 3) := by decide +kernel
theorem dX5_hang_178 : decode cX5_hang 178 = .ok (.ireturn, 1) := by decide +kernel
theorem dX5_undo_0 : decode cX5_undo 0 = .ok (.aload_n 0, 1) := by decide +kernel
theorem dX5_undo_1 : decode cX5_undo 1 = .ok (.getfield 122, 3) := by decide +kernel
theorem dX5_undo_4 : decode cX5_undo 4 = .ok (.ifCond .ne 6, 3) := by decide +kernel
theorem dX5_undo_7 : decode cX5_undo 7 = .ok (.bipush (-2), 2) := by decide +kernel
theorem dX5_undo_9 : decode cX5_undo 9 = .ok (.ireturn, 1) := by decide +kernel
theorem dX5_undo_10 : decode cX5_undo 10 = .ok (.aload_n 0, 1) := by decide +kernel
theorem dX5_undo_11 : decode cX5_undo 11 = .ok (.dup, 1) := by decide +kernel
theorem dX5_undo_12 : decode cX5_undo 12 = .ok (.getfield 122, 3) := by decide +kernel
theorem dX5_undo_15 : decode cX5_undo 15 = .ok (.iconst 1, 1) := by decide +kernel
theorem dX5_undo_16 : decode cX5_undo 16 = .ok (.isub, 1) := by decide +kernel
theorem dX5_undo_17 : decode cX5_undo 17 = .ok (.putfield 122, 3) := by decide +kernel
theorem dX5_undo_20 : decode cX5_undo 20 = .ok (.aload_n 0, 1) := by decide +kernel
theorem dX5_undo_21 : decode cX5_undo 21 = .ok (.getfield 13, 3) := by decide +kernel
theorem dX5_undo_24 : decode cX5_undo 24 = .ok (.sipush 162, 3) := by decide +kernel
theorem dX5_undo_27 : decode cX5_undo 27 = .ok (.aload_n 0, 1) := by decide +kernel
theorem dX5_undo_28 : decode cX5_undo 28 = .ok (.getfield 122, 3) := by decide +kernel
theorem dX5_undo_31 : decode cX5_undo 31 = .ok (.imul, 1) := by decide +kernel
theorem dX5_undo_32 : decode cX5_undo 32 = .ok (.aload_n 0, 1) := by decide +kernel
theorem dX5_undo_33 : decode cX5_undo 33 = .ok (.getfield 7, 3) := by decide +kernel
theorem dX5_undo_36 : decode cX5_undo 36 = .ok (.iconst 0, 1) := by decide +kernel
theorem dX5_undo_37 : decode cX5_undo 37 = .ok (.invokestatic 118, 3) := by decide +kernel
theorem dX5_undo_40 : decode cX5_undo 40 = .ok (.aload_n 0, 1) := by decide +kernel
theorem dX5_undo_41 : decode cX5_undo 41 = .ok (.getfield 122, 3) := by decide +kernel
theorem dX5_undo_44 : decode cX5_undo 44 = .ok (.ireturn, 1) := by decide +kernel
theorem dX5_wrong_0 : decode cX5_wrong 0 = .ok (.aload_n 0, 1) := by decide +kernel
theorem dX5_wrong_1 : decode cX5_wrong 1 = .ok (.iload_n 1, 1) := by decide +kernel
theorem dX5_wrong_2 : decode cX5_wrong 2 = .ok (.invokevirtual 183, 3) := by decide +kernel
theorem dX5_wrong_5 : decode cX5_wrong 5 = .ok (.ifCond .eq 11, 3) := by decide +kernel
theorem dX5_wrong_8 : decode cX5_wrong 8 = .ok (.aload_n 0, 1) := by decide +kernel
theorem dX5_wrong_9 : decode cX5_wrong 9 = .ok (.iload_n 1, 1) := by decide +kernel
theorem dX5_wrong_10 : decode cX5_wrong 10 = .ok (.invokevirtual 189, 3) := by decide +kernel
theorem dX5_wrong_13 : decode cX5_wrong 13 = .ok (.goto 4, 3) := by decide +kernel
theorem dX5_wrong_16 : decode cX5_wrong 16 = .ok (.iconst (-1), 1) := by decide +kernel
theorem dX5_wrong_17 : decode cX5_wrong 17 = .ok (.ireturn, 1) := by decide +kernel
theorem dX5_layRoom_0 : decode cX5_layRoom 0 = .ok (.iconst 0, 1) := by decide +kernel
theorem dX5_layRoom_1 : decode cX5_layRoom 1 = .ok (.istore_n 2, 1) := by decide +kernel
theorem dX5_layRoom_2 : decode cX5_layRoom 2 = .ok (.iload_n 2, 1) := by decide +kernel
theorem dX5_layRoom_3 : decode cX5_layRoom 3 = .ok (.iconst 4, 1) := by decide +kernel
theorem dX5_layRoom_4 : decode cX5_layRoom 4 = .ok (.if_icmp .ge 23, 3) := by decide +kernel
theorem dX5_layRoom_7 : decode cX5_layRoom 7 = .ok (.aload_n 0, 1) := by decide +kernel
theorem dX5_layRoom_8 : decode cX5_layRoom 8 = .ok (.getfield 28, 3) := by decide +kernel
theorem dX5_layRoom_11 : decode cX5_layRoom 11 = .ok (.iload_n 2, 1) := by decide +kernel
theorem dX5_layRoom_12 : decode cX5_layRoom 12 = .ok (.iconst 0, 1) := by decide +kernel
theorem dX5_layRoom_13 : decode cX5_layRoom 13 = .ok (.iastore, 1) := by decide +kernel
theorem dX5_layRoom_14 : decode cX5_layRoom 14 = .ok (.aload_n 0, 1) := by decide +kernel
theorem dX5_layRoom_15 : decode cX5_layRoom 15 = .ok (.getfield 31, 3) := by decide +kernel
theorem dX5_layRoom_18 : decode cX5_layRoom 18 = .ok (.iload_n 2, 1) := by decide +kernel
theorem dX5_layRoom_19 : decode cX5_layRoom 19 = .ok (.iconst 0, 1) := by decide +kernel
theorem dX5_layRoom_20 : decode cX5_layRoom 20 = .ok (.iastore, 1) := by decide +kernel
theorem dX5_layRoom_21 : decode cX5_layRoom 21 = .ok (.iinc 2 1, 3) := by decide +kernel
theorem dX5_layRoom_24 : decode cX5_layRoom 24 = .ok (.goto (-22), 3) := by decide +kernel
theorem dX5_layRoom_27 : decode cX5_layRoom 27 = .ok (.iconst 0, 1) := by decide +kernel
theorem dX5_layRoom_28 : decode cX5_layRoom 28 = .ok (.istore_n 2, 1) := by decide +kernel
theorem dX5_layRoom_29 : decode cX5_layRoom 29 = .ok (.iload_n 2, 1) := by decide +kernel
theorem dX5_layRoom_30 : decode cX5_layRoom 30 = .ok (.aload_n 0, 1) := by decide +kernel
theorem dX5_layRoom_31 : decode cX5_layRoom 31 = .ok (.getfield 7, 3) := by decide +kernel
theorem dX5_layRoom_34 : decode cX5_layRoom 34 = .ok (.iconst 0, 1) := by decide +kernel
theorem dX5_layRoom_35 : decode cX5_layRoom 35 = .ok (.iaload, 1) := by decide +kernel
theorem dX5_layRoom_36 : decode cX5_layRoom 36 = .ok (.if_icmp .ge 138, 3) := by decide +kernel
theorem dX5_layRoom_39 : decode cX5_layRoom 39 = .ok (.aload_n 0, 1) := by decide +kernel
theorem dX5_layRoom_40 : decode cX5_layRoom 40 = .ok (.getfield 7, 3) := by decide +kernel
theorem dX5_layRoom_43 : decode cX5_layRoom 43 = .ok (.sipush 130, 3) := by decide +kernel
theorem dX5_layRoom_46 : decode cX5_layRoom 46 = .ok (.iload_n 2, 1) := by decide +kernel
theorem dX5_layRoom_47 : decode cX5_layRoom 47 = .ok (.iadd, 1) := by decide +kernel
theorem dX5_layRoom_48 : decode cX5_layRoom 48 = .ok (.iaload, 1) := by decide +kernel
theorem dX5_layRoom_49 : decode cX5_layRoom 49 = .ok (.iconst 1, 1) := by decide +kernel
theorem dX5_layRoom_50 : decode cX5_layRoom 50 = .ok (.if_icmp .ne 20, 3) := by decide +kernel
theorem dX5_layRoom_53 : decode cX5_layRoom 53 = .ok (.aload_n 0, 1) := by decide +kernel
theorem dX5_layRoom_54 : decode cX5_layRoom 54 = .ok (.getfield 7, 3) := by decide +kernel
theorem dX5_layRoom_57 : decode cX5_layRoom 57 = .ok (.bipush 114, 2) := by decide +kernel
theorem dX5_layRoom_59 : decode cX5_layRoom 59 = .ok (.iload_n 2, 1) := by decide +kernel
theorem dX5_layRoom_60 : decode cX5_layRoom 60 = .ok (.iadd, 1) := by decide +kernel
theorem dX5_layRoom_61 : decode cX5_layRoom 61 = .ok (.iaload, 1) := by decide +kernel
theorem dX5_layRoom_62 : decode cX5_layRoom 62 = .ok (.iload_n 1, 1) := by decide +kernel
theorem dX5_layRoom_63 : decode cX5_layRoom 63 = .ok (.if_icmp .ne 7, 3) := by decide +kernel
theorem dX5_layRoom_66 : decode cX5_layRoom 66 = .ok (.iconst 1, 1) := by decide +kernel
theorem dX5_layRoom_67 : decode cX5_layRoom 67 = .ok (.goto 4, 3) := by decide +kernel
theorem dX5_layRoom_70 : decode cX5_layRoom 70 = .ok (.iconst 0, 1) := by decide +kernel
theorem dX5_layRoom_71 : decode cX5_layRoom 71 = .ok (.istore_n 3, 1) := by decide +kernel
theorem dX5_layRoom_72 : decode cX5_layRoom 72 = .ok (.iconst 0, 1) := by decide +kernel
theorem dX5_layRoom_73 : decode cX5_layRoom 73 = .ok (.istore 4, 2) := by decide +kernel
theorem dX5_layRoom_75 : decode cX5_layRoom 75 = .ok (.iload 4, 2) := by decide +kernel
theorem dX5_layRoom_77 : decode cX5_layRoom 77 = .ok (.aload_n 0, 1) := by decide +kernel
theorem dX5_layRoom_78 : decode cX5_layRoom 78 = .ok (.getfield 7, 3) := by decide +kernel
theorem dX5_layRoom_81 : decode cX5_layRoom 81 = .ok (.bipush 18, 2) := by decide +kernel
theorem dX5_layRoom_83 : decode cX5_layRoom 83 = .ok (.iload_n 2, 1) := by decide +kernel
theorem dX5_layRoom_84 : decode cX5_layRoom 84 = .ok (.iadd, 1) := by decide +kernel
theorem dX5_layRoom_85 : decode cX5_layRoom 85 = .ok (.iaload, 1) := by decide +kernel
theorem dX5_layRoom_86 : decode cX5_layRoom 86 = .ok (.if_icmp .ge 82, 3) := by decide +kernel
theorem dX5_layRoom_89 : decode cX5_layRoom 89 = .ok (.iload_n 3, 1) := by decide +kernel
theorem dX5_layRoom_90 : decode cX5_layRoom 90 = .ok (.ifCond .ne 12, 3) := by decide +kernel
theorem dX5_layRoom_93 : decode cX5_layRoom 93 = .ok (.aload_n 0, 1) := by decide +kernel
theorem dX5_layRoom_94 : decode cX5_layRoom 94 = .ok (.iload_n 2, 1) := by decide +kernel
theorem dX5_layRoom_95 : decode cX5_layRoom 95 = .ok (.iload_n 1, 1) := by decide +kernel
theorem dX5_layRoom_96 : decode cX5_layRoom 96 = .ok (.invokevirtual 173, 3) := by decide +kernel
theorem dX5_layRoom_99 : decode cX5_layRoom 99 = .ok (.ifCond .eq 69, 3) := by decide +kernel
theorem dX5_layRoom_102 : decode cX5_layRoom 102 = .ok (.aload_n 0, 1) := by decide +kernel
theorem dX5_layRoom_103 : decode cX5_layRoom 103 = .ok (.iload_n 2, 1) := by decide +kernel
theorem dX5_layRoom_104 : decode cX5_layRoom 104 = .ok (.iload 4, 2) := by decide +kernel
theorem dX5_layRoom_106 : decode cX5_layRoom 106 = .ok (.invokevirtual 134, 3) := by decide +kernel
theorem dX5_layRoom_109 : decode cX5_layRoom 109 = .ok (.bipush 10, 2) := by decide +kernel
theorem dX5_layRoom_111 : decode cX5_layRoom 111 = .ok (.irem, 1) := by decide +kernel
theorem dX5_layRoom_112 : decode cX5_layRoom 112 = .ok (.istore 5, 2) := by decide +kernel
theorem dX5_layRoom_114 : decode cX5_layRoom 114 = .ok (.aload_n 0, 1) := by decide +kernel
theorem dX5_layRoom_115 : decode cX5_layRoom 115 = .ok (.getfield 28, 3) := by decide +kernel
theorem dX5_layRoom_118 : decode cX5_layRoom 118 = .ok (.iload 4, 2) := by decide +kernel
theorem dX5_layRoom_120 : decode cX5_layRoom 120 = .ok (.dup2, 1) := by decide +kernel
theorem dX5_layRoom_121 : decode cX5_layRoom 121 = .ok (.iaload, 1) := by decide +kernel
theorem dX5_layRoom_122 : decode cX5_layRoom 122 = .ok (.iload_n 3, 1) := by decide +kernel
theorem dX5_layRoom_123 : decode cX5_layRoom 123 = .ok (.ifCond .eq 8, 3) := by decide +kernel
theorem dX5_layRoom_126 : decode cX5_layRoom 126 = .ok (.iload 5, 2) := by decide +kernel
theorem dX5_layRoom_128 : decode cX5_layRoom 128 = .ok (.goto 8, 3) := by decide +kernel
theorem dX5_layRoom_131 : decode cX5_layRoom 131 = .ok (.bipush 9, 2) := by decide +kernel
theorem dX5_layRoom_133 : decode cX5_layRoom 133 = .ok (.iload 5, 2) := by decide +kernel
theorem dX5_layRoom_135 : decode cX5_layRoom 135 = .ok (.isub, 1) := by decide +kernel
theorem dX5_layRoom_136 : decode cX5_layRoom 136 = .ok (.iadd, 1) := by decide +kernel
theorem dX5_layRoom_137 : decode cX5_layRoom 137 = .ok (.iastore, 1) := by decide +kernel
theorem dX5_layRoom_138 : decode cX5_layRoom 138 = .ok (.aload_n 0, 1) := by decide +kernel
theorem dX5_layRoom_139 : decode cX5_layRoom 139 = .ok (.getfield 31, 3) := by decide +kernel
theorem dX5_layRoom_142 : decode cX5_layRoom 142 = .ok (.iload 4, 2) := by decide +kernel
theorem dX5_layRoom_144 : decode cX5_layRoom 144 = .ok (.dup2, 1) := by decide +kernel
theorem dX5_layRoom_145 : decode cX5_layRoom 145 = .ok (.iaload, 1) := by decide +kernel
theorem dX5_layRoom_146 : decode cX5_layRoom 146 = .ok (.iload_n 3, 1) := by decide +kernel
theorem dX5_layRoom_147 : decode cX5_layRoom 147 = .ok (.ifCond .eq 11, 3) := by decide +kernel
theorem dX5_layRoom_150 : decode cX5_layRoom 150 = .ok (.bipush 9, 2) := by decide +kernel
theorem dX5_layRoom_152 : decode cX5_layRoom 152 = .ok (.iload 5, 2) := by decide +kernel
theorem dX5_layRoom_154 : decode cX5_layRoom 154 = .ok (.isub, 1) := by decide +kernel
theorem dX5_layRoom_155 : decode cX5_layRoom 155 = .ok (.goto 5, 3) := by decide +kernel
theorem dX5_layRoom_158 : decode cX5_layRoom 158 = .ok (.iload 5, 2) := by decide +kernel
theorem dX5_layRoom_160 : decode cX5_layRoom 160 = .ok (.iadd, 1) := by decide +kernel
theorem dX5_layRoom_161 : decode cX5_layRoom 161 = .ok (.iastore, 1) := by decide +kernel
theorem dX5_layRoom_162 : decode cX5_layRoom 162 = .ok (.iinc 4 1, 3) := by decide +kernel
theorem dX5_layRoom_165 : decode cX5_layRoom 165 = .ok (.goto (-90), 3) := by decide +kernel
theorem dX5_layRoom_168 : decode cX5_layRoom 168 = .ok (.iinc 2 1, 3) := by decide +kernel
theorem dX5_layRoom_171 : decode cX5_layRoom 171 = .ok (.goto (-142), 3) := by decide +kernel
theorem dX5_layRoom_174 : decode cX5_layRoom 174 = .ok (.return_, 1) := by decide +kernel
theorem dX5_plain_0 : decode cX5_plain 0 = .ok (.iload_n 0, 1) := by decide +kernel
theorem dX5_plain_1 : decode cX5_plain 1 = .ok (.ifCond .ge 8, 3) := by decide +kernel
theorem dX5_plain_4 : decode cX5_plain 4 = .ok (.iload_n 0, 1) := by decide +kernel
theorem dX5_plain_5 : decode cX5_plain 5 = .ok (.ineg, 1) := by decide +kernel
theorem dX5_plain_6 : decode cX5_plain 6 = .ok (.goto 4, 3) := by decide +kernel
theorem dX5_plain_9 : decode cX5_plain 9 = .ok (.iload_n 0, 1) := by decide +kernel
theorem dX5_plain_10 : decode cX5_plain 10 = .ok (.ireturn, 1) := by decide +kernel
theorem dX5_mend_0 : decode cX5_mend 0 = .ok (.aload_n 0, 1) := by decide +kernel
theorem dX5_mend_1 : decode cX5_mend 1 = .ok (.iload_n 1, 1) := by decide +kernel
theorem dX5_mend_2 : decode cX5_mend 2 = .ok (.invokevirtual 183, 3) := by decide +kernel
theorem dX5_mend_5 : decode cX5_mend 5 = .ok (.ifCond .ne 5, 3) := by decide +kernel
theorem dX5_mend_8 : decode cX5_mend 8 = .ok (.iconst (-1), 1) := by decide +kernel
theorem dX5_mend_9 : decode cX5_mend 9 = .ok (.ireturn, 1) := by decide +kernel
theorem dX5_mend_10 : decode cX5_mend 10 = .ok (.aload_n 0, 1) := by decide +kernel
theorem dX5_mend_11 : decode cX5_mend 11 = .ok (.iload_n 1, 1) := by decide +kernel
theorem dX5_mend_12 : decode cX5_mend 12 = .ok (.invokevirtual 189, 3) := by decide +kernel
theorem dX5_mend_15 : decode cX5_mend 15 = .ok (.istore_n 2, 1) := by decide +kernel
theorem dX5_mend_16 : decode cX5_mend 16 = .ok (.iload_n 2, 1) := by decide +kernel
theorem dX5_mend_17 : decode cX5_mend 17 = .ok (.bipush (-4), 2) := by decide +kernel
theorem dX5_mend_19 : decode cX5_mend 19 = .ok (.if_icmp .ne 6, 3) := by decide +kernel
theorem dX5_mend_22 : decode cX5_mend 22 = .ok (.bipush (-4), 2) := by decide +kernel
theorem dX5_mend_24 : decode cX5_mend 24 = .ok (.ireturn, 1) := by decide +kernel
theorem dX5_mend_25 : decode cX5_mend 25 = .ok (.aload_n 0, 1) := by decide +kernel
theorem dX5_mend_26 : decode cX5_mend 26 = .ok (.iload_n 1, 1) := by decide +kernel
theorem dX5_mend_27 : decode cX5_mend 27 = .ok (.invokevirtual 222, 3) := by decide +kernel
theorem dX5_mend_30 : decode cX5_mend 30 = .ok (.ldc 182, 2) := by decide +kernel
theorem dX5_mend_32 : decode cX5_mend 32 = .ok (.iload_n 2, 1) := by decide +kernel
theorem dX5_mend_33 : decode cX5_mend 33 = .ok (.isub, 1) := by decide +kernel
theorem dX5_mend_34 : decode cX5_mend 34 = .ok (.istore_n 3, 1) := by decide +kernel
theorem dX5_mend_35 : decode cX5_mend 35 = .ok (.ldc 226, 2) := by decide +kernel
theorem dX5_mend_37 : decode cX5_mend 37 = .ok (.istore 4, 2) := by decide +kernel
theorem dX5_mend_39 : decode cX5_mend 39 = .ok (.aload_n 0, 1) := by decide +kernel
theorem dX5_mend_40 : decode cX5_mend 40 = .ok (.getfield 31, 3) := by decide +kernel
theorem dX5_mend_43 : decode cX5_mend 43 = .ok (.iconst 3, 1) := by decide +kernel
theorem dX5_mend_44 : decode cX5_mend 44 = .ok (.iaload, 1) := by decide +kernel
theorem dX5_mend_45 : decode cX5_mend 45 = .ok (.ineg, 1) := by decide +kernel
theorem dX5_mend_46 : decode cX5_mend 46 = .ok (.istore 5, 2) := by decide +kernel
theorem dX5_mend_48 : decode cX5_mend 48 = .ok (.iload 5, 2) := by decide +kernel
theorem dX5_mend_50 : decode cX5_mend 50 = .ok (.aload_n 0, 1) := by decide +kernel
theorem dX5_mend_51 : decode cX5_mend 51 = .ok (.getfield 28, 3) := by decide +kernel
theorem dX5_mend_54 : decode cX5_mend 54 = .ok (.iconst 3, 1) := by decide +kernel
theorem dX5_mend_55 : decode cX5_mend 55 = .ok (.iaload, 1) := by decide +kernel
theorem dX5_mend_56 : decode cX5_mend 56 = .ok (.if_icmp .gt 239, 3) := by decide +kernel
theorem dX5_mend_59 : decode cX5_mend 59 = .ok (.iload_n 3, 1) := by decide +kernel
theorem dX5_mend_60 : decode cX5_mend 60 = .ok (.sipush 1000, 3) := by decide +kernel
theorem dX5_mend_63 : decode cX5_mend 63 = .ok (.iload 5, 2) := by decide +kernel
theorem dX5_mend_65 : decode cX5_mend 65 = .ok (.imul, 1) := by decide +kernel
theorem dX5_mend_66 : decode cX5_mend 66 = .ok (.isub, 1) := by decide +kernel
theorem dX5_mend_67 : decode cX5_mend 67 = .ok (.istore 6, 2) := by decide +kernel
theorem dX5_mend_69 : decode cX5_mend 69 = .ok (.aload_n 0, 1) := by decide +kernel
theorem dX5_mend_70 : decode cX5_mend 70 = .ok (.getfield 31, 3) := by decide +kernel
theorem dX5_mend_73 : decode cX5_mend 73 = .ok (.iconst 2, 1) := by decide +kernel
theorem dX5_mend_74 : decode cX5_mend 74 = .ok (.iaload, 1) := by decide +kernel
theorem dX5_mend_75 : decode cX5_mend 75 = .ok (.ineg, 1) := by decide +kernel
theorem dX5_mend_76 : decode cX5_mend 76 = .ok (.istore 7, 2) := by decide +kernel
theorem dX5_mend_78 : decode cX5_mend 78 = .ok (.iload 7, 2) := by decide +kernel
theorem dX5_mend_80 : decode cX5_mend 80 = .ok (.aload_n 0, 1) := by decide +kernel
theorem dX5_mend_81 : decode cX5_mend 81 = .ok (.getfield 28, 3) := by decide +kernel
theorem dX5_mend_84 : decode cX5_mend 84 = .ok (.iconst 2, 1) := by decide +kernel
theorem dX5_mend_85 : decode cX5_mend 85 = .ok (.iaload, 1) := by decide +kernel
theorem dX5_mend_86 : decode cX5_mend 86 = .ok (.if_icmp .gt 203, 3) := by decide +kernel
theorem dX5_mend_89 : decode cX5_mend 89 = .ok (.iload 5, 2) := by decide +kernel
theorem dX5_mend_91 : decode cX5_mend 91 = .ok (.invokestatic 227, 3) := by decide +kernel
theorem dX5_mend_94 : decode cX5_mend 94 = .ok (.iload 4, 2) := by decide +kernel
theorem dX5_mend_96 : decode cX5_mend 96 = .ok (.if_icmp .ge 193, 3) := by decide +kernel
theorem dX5_mend_99 : decode cX5_mend 99 = .ok (.iload 6, 2) := by decide +kernel
theorem dX5_mend_101 : decode cX5_mend 101 = .ok (.bipush 100, 2) := by decide +kernel
theorem dX5_mend_103 : decode cX5_mend 103 = .ok (.iload 7, 2) := by decide +kernel
theorem dX5_mend_105 : decode cX5_mend 105 = .ok (.imul, 1) := by decide +kernel
theorem dX5_mend_106 : decode cX5_mend 106 = .ok (.isub, 1) := by decide +kernel
theorem dX5_mend_107 : decode cX5_mend 107 = .ok (.istore 8, 2) := by decide +kernel
theorem dX5_mend_109 : decode cX5_mend 109 = .ok (.iload 8, 2) := by decide +kernel
theorem dX5_mend_111 : decode cX5_mend 111 = .ok (.aload_n 0, 1) := by decide +kernel
theorem dX5_mend_112 : decode cX5_mend 112 = .ok (.getfield 28, 3) := by decide +kernel
theorem dX5_mend_115 : decode cX5_mend 115 = .ok (.iconst 0, 1) := by decide +kernel
theorem dX5_mend_116 : decode cX5_mend 116 = .ok (.iaload, 1) := by decide +kernel
theorem dX5_mend_117 : decode cX5_mend 117 = .ok (.isub, 1) := by decide +kernel
theorem dX5_mend_118 : decode cX5_mend 118 = .ok (.bipush 10, 2) := by decide +kernel
theorem dX5_mend_120 : decode cX5_mend 120 = .ok (.idiv, 1) := by decide +kernel
theorem dX5_mend_121 : decode cX5_mend 121 = .ok (.iconst 1, 1) := by decide +kernel
theorem dX5_mend_122 : decode cX5_mend 122 = .ok (.isub, 1) := by decide +kernel
theorem dX5_mend_123 : decode cX5_mend 123 = .ok (.istore 9, 2) := by decide +kernel
theorem dX5_mend_125 : decode cX5_mend 125 = .ok (.iload 8, 2) := by decide +kernel
theorem dX5_mend_127 : decode cX5_mend 127 = .ok (.aload_n 0, 1) := by decide +kernel
theorem dX5_mend_128 : decode cX5_mend 128 = .ok (.getfield 31, 3) := by decide +kernel
theorem dX5_mend_131 : decode cX5_mend 131 = .ok (.iconst 0, 1) := by decide +kernel
theorem dX5_mend_132 : decode cX5_mend 132 = .ok (.iaload, 1) := by decide +kernel
theorem dX5_mend_133 : decode cX5_mend 133 = .ok (.iadd, 1) := by decide +kernel
theorem dX5_mend_134 : decode cX5_mend 134 = .ok (.bipush 10, 2) := by decide +kernel
theorem dX5_mend_136 : decode cX5_mend 136 = .ok (.idiv, 1) := by decide +kernel
theorem dX5_mend_137 : decode cX5_mend 137 = .ok (.iconst 1, 1) := by decide +kernel
theorem dX5_mend_138 : decode cX5_mend 138 = .ok (.iadd, 1) := by decide +kernel
theorem dX5_mend_139 : decode cX5_mend 139 = .ok (.istore 10, 2) := by decide +kernel
theorem dX5_mend_141 : decode cX5_mend 141 = .ok (.iload 9, 2) := by decide +kernel
theorem dX5_mend_143 : decode cX5_mend 143 = .ok (.aload_n 0, 1) := by decide +kernel
theorem dX5_mend_144 : decode cX5_mend 144 = .ok (.getfield 31, 3) := by decide +kernel
theorem dX5_mend_147 : decode cX5_mend 147 = .ok (.iconst 1, 1) := by decide +kernel
theorem dX5_mend_148 : decode cX5_mend 148 = .ok (.iaload, 1) := by decide +kernel
theorem dX5_mend_149 : decode cX5_mend 149 = .ok (.ineg, 1) := by decide +kernel
theorem dX5_mend_150 : decode cX5_mend 150 = .ok (.if_icmp .ge 13, 3) := by decide +kernel
theorem dX5_mend_153 : decode cX5_mend 153 = .ok (.aload_n 0, 1) := by decide +kernel
theorem dX5_mend_154 : decode cX5_mend 154 = .ok (.getfield 31, 3) := by decide +kernel
theorem dX5_mend_157 : decode cX5_mend 157 = .ok (.iconst 1, 1) := by decide +kernel
theorem dX5_mend_158 : decode cX5_mend 158 = .ok (.iaload, 1) := by decide +kernel
theorem dX5_mend_159 : decode cX5_mend 159 = .ok (.ineg, 1) := by decide +kernel
theorem dX5_mend_160 : decode cX5_mend 160 = .ok (.goto 5, 3) := by decide +kernel
theorem dX5_mend_163 : decode cX5_mend 163 = .ok (.iload 9, 2) := by decide +kernel
theorem dX5_mend_165 : decode cX5_mend 165 = .ok (.istore 9, 2) := by decide +kernel
theorem dX5_mend_167 : decode cX5_mend 167 = .ok (.iload 10, 2) := by decide +kernel
theorem dX5_mend_169 : decode cX5_mend 169 = .ok (.aload_n 0, 1) := by decide +kernel
theorem dX5_mend_170 : decode cX5_mend 170 = .ok (.getfield 28, 3) := by decide +kernel
theorem dX5_mend_173 : decode cX5_mend 173 = .ok (.iconst 1, 1) := by decide +kernel
theorem dX5_mend_174 : decode cX5_mend 174 = .ok (.iaload, 1) := by decide +kernel
theorem dX5_mend_175 : decode cX5_mend 175 = .ok (.if_icmp .le 12, 3) := by decide +kernel
theorem dX5_mend_178 : decode cX5_mend 178 = .ok (.aload_n 0, 1) := by decide +kernel
theorem dX5_mend_179 : decode cX5_mend 179 = .ok (.getfield 28, 3) := by decide +kernel
theorem dX5_mend_182 : decode cX5_mend 182 = .ok (.iconst 1, 1) := by decide +kernel
theorem dX5_mend_183 : decode cX5_mend 183 = .ok (.iaload, 1) := by decide +kernel
theorem dX5_mend_184 : decode cX5_mend 184 = .ok (.goto 5, 3) := by decide +kernel
theorem dX5_mend_187 : decode cX5_mend 187 = .ok (.iload 10, 2) := by decide +kernel
theorem dX5_mend_189 : decode cX5_mend 189 = .ok (.istore 10, 2) := by decide +kernel
theorem dX5_mend_191 : decode cX5_mend 191 = .ok (.iload 9, 2) := by decide +kernel
theorem dX5_mend_193 : decode cX5_mend 193 = .ok (.istore 11, 2) := by decide +kernel
theorem dX5_mend_195 : decode cX5_mend 195 = .ok (.iload 11, 2) := by decide +kernel
theorem dX5_mend_197 : decode cX5_mend 197 = .ok (.iload 10, 2) := by decide +kernel
theorem dX5_mend_199 : decode cX5_mend 199 = .ok (.if_icmp .gt 84, 3) := by decide +kernel
theorem dX5_mend_202 : decode cX5_mend 202 = .ok (.iload 8, 2) := by decide +kernel
theorem dX5_mend_204 : decode cX5_mend 204 = .ok (.bipush 10, 2) := by decide +kernel
theorem dX5_mend_206 : decode cX5_mend 206 = .ok (.iload 11, 2) := by decide +kernel
theorem dX5_mend_208 : decode cX5_mend 208 = .ok (.imul, 1) := by decide +kernel
theorem dX5_mend_209 : decode cX5_mend 209 = .ok (.isub, 1) := by decide +kernel
theorem dX5_mend_210 : decode cX5_mend 210 = .ok (.istore 12, 2) := by decide +kernel
theorem dX5_mend_212 : decode cX5_mend 212 = .ok (.iload 5, 2) := by decide +kernel
theorem dX5_mend_214 : decode cX5_mend 214 = .ok (.invokestatic 227, 3) := by decide +kernel
theorem dX5_mend_217 : decode cX5_mend 217 = .ok (.iload 7, 2) := by decide +kernel
theorem dX5_mend_219 : decode cX5_mend 219 = .ok (.invokestatic 227, 3) := by decide +kernel
theorem dX5_mend_222 : decode cX5_mend 222 = .ok (.iadd, 1) := by decide +kernel
theorem dX5_mend_223 : decode cX5_mend 223 = .ok (.iload 11, 2) := by decide +kernel
theorem dX5_mend_225 : decode cX5_mend 225 = .ok (.invokestatic 227, 3) := by decide +kernel
theorem dX5_mend_228 : decode cX5_mend 228 = .ok (.iadd, 1) := by decide +kernel
theorem dX5_mend_229 : decode cX5_mend 229 = .ok (.iload 12, 2) := by decide +kernel
theorem dX5_mend_231 : decode cX5_mend 231 = .ok (.invokestatic 227, 3) := by decide +kernel
theorem dX5_mend_234 : decode cX5_mend 234 = .ok (.iadd, 1) := by decide +kernel
theorem dX5_mend_235 : decode cX5_mend 235 = .ok (.istore 13, 2) := by decide +kernel
theorem dX5_mend_237 : decode cX5_mend 237 = .ok (.iload 12, 2) := by decide +kernel
theorem dX5_mend_239 : decode cX5_mend 239 = .ok (.i2l, 1) := by decide +kernel
theorem dX5_mend_240 : decode cX5_mend 240 = .ok (.aload_n 0, 1) := by decide +kernel
theorem dX5_mend_241 : decode cX5_mend 241 = .ok (.getfield 31, 3) := by decide +kernel
theorem dX5_mend_244 : decode cX5_mend 244 = .ok (.iconst 0, 1) := by decide +kernel
theorem dX5_mend_245 : decode cX5_mend 245 = .ok (.iaload, 1) := by decide +kernel
theorem dX5_mend_246 : decode cX5_mend 246 = .ok (.ineg, 1) := by decide +kernel
theorem dX5_mend_247 : decode cX5_mend 247 = .ok (.i2l, 1) := by decide +kernel
theorem dX5_mend_248 : decode cX5_mend 248 = .ok (.aload_n 0, 1) := by decide +kernel
theorem dX5_mend_249 : decode cX5_mend 249 = .ok (.getfield 28, 3) := by decide +kernel
theorem dX5_mend_252 : decode cX5_mend 252 = .ok (.iconst 0, 1) := by decide +kernel
theorem dX5_mend_253 : decode cX5_mend 253 = .ok (.iaload, 1) := by decide +kernel
theorem dX5_mend_254 : decode cX5_mend 254 = .ok (.i2l, 1) := by decide +kernel
theorem dX5_mend_255 : decode cX5_mend 255 = .ok (.invokestatic 54, 3) := by decide +kernel
theorem dX5_mend_258 : decode cX5_mend 258 = .ok (.ifCond .eq 15, 3) := by decide +kernel
theorem dX5_mend_261 : decode cX5_mend 261 = .ok (.iload 13, 2) := by decide +kernel
theorem dX5_mend_263 : decode cX5_mend 263 = .ok (.iload 4, 2) := by decide +kernel
theorem dX5_mend_265 : decode cX5_mend 265 = .ok (.if_icmp .ge 8, 3) := by decide +kernel
theorem dX5_mend_268 : decode cX5_mend 268 = .ok (.iload 13, 2) := by decide +kernel
theorem dX5_mend_270 : decode cX5_mend 270 = .ok (.goto 5, 3) := by decide +kernel
theorem dX5_mend_273 : decode cX5_mend 273 = .ok (.iload 4, 2) := by decide +kernel
theorem dX5_mend_275 : decode cX5_mend 275 = .ok (.istore 4, 2) := by decide +kernel
theorem dX5_mend_277 : decode cX5_mend 277 = .ok (.iinc 11 1, 3) := by decide +kernel
theorem dX5_mend_280 : decode cX5_mend 280 = .ok (.goto (-85), 3) := by decide +kernel
theorem dX5_mend_283 : decode cX5_mend 283 = .ok (.iinc 7 1, 3) := by decide +kernel
theorem dX5_mend_286 : decode cX5_mend 286 = .ok (.goto (-208), 3) := by decide +kernel
theorem dX5_mend_289 : decode cX5_mend 289 = .ok (.iinc 5 1, 3) := by decide +kernel
theorem dX5_mend_292 : decode cX5_mend 292 = .ok (.goto (-244), 3) := by decide +kernel
theorem dX5_mend_295 : decode cX5_mend 295 = .ok (.iload 4, 2) := by decide +kernel
theorem dX5_mend_297 : decode cX5_mend 297 = .ok (.ldc 226, 2) := by decide +kernel
theorem dX5_mend_299 : decode cX5_mend 299 = .ok (.if_icmp .ne 8, 3) := by decide +kernel
theorem dX5_mend_302 : decode cX5_mend 302 = .ok (.bipush (-4), 2) := by decide +kernel
theorem dX5_mend_304 : decode cX5_mend 304 = .ok (.goto 5, 3) := by decide +kernel
theorem dX5_mend_307 : decode cX5_mend 307 = .ok (.iload 4, 2) := by decide +kernel
theorem dX5_mend_309 : decode cX5_mend 309 = .ok (.ireturn, 1) := by decide +kernel
theorem dX5_slip_0 : decode cX5_slip 0 = .ok (.aload_n 0, 1) := by decide +kernel
theorem dX5_slip_1 : decode cX5_slip 1 = .ok (.iload_n 1, 1) := by decide +kernel
theorem dX5_slip_2 : decode cX5_slip 2 = .ok (.invokevirtual 183, 3) := by decide +kernel
theorem dX5_slip_5 : decode cX5_slip 5 = .ok (.ifCond .eq 10, 3) := by decide +kernel
theorem dX5_slip_8 : decode cX5_slip 8 = .ok (.iload_n 2, 1) := by decide +kernel
theorem dX5_slip_9 : decode cX5_slip 9 = .ok (.invokestatic 230, 3) := by decide +kernel
theorem dX5_slip_12 : decode cX5_slip 12 = .ok (.ifCond .ne 5, 3) := by decide +kernel
theorem dX5_slip_15 : decode cX5_slip 15 = .ok (.iconst (-1), 1) := by decide +kernel
theorem dX5_slip_16 : decode cX5_slip 16 = .ok (.ireturn, 1) := by decide +kernel
theorem dX5_slip_17 : decode cX5_slip 17 = .ok (.aload_n 0, 1) := by decide +kernel
theorem dX5_slip_18 : decode cX5_slip 18 = .ok (.iload_n 1, 1) := by decide +kernel
theorem dX5_slip_19 : decode cX5_slip 19 = .ok (.invokevirtual 189, 3) := by decide +kernel
theorem dX5_slip_22 : decode cX5_slip 22 = .ok (.istore_n 3, 1) := by decide +kernel
theorem dX5_slip_23 : decode cX5_slip 23 = .ok (.iconst 0, 1) := by decide +kernel
theorem dX5_slip_24 : decode cX5_slip 24 = .ok (.istore 4, 2) := by decide +kernel
theorem dX5_slip_26 : decode cX5_slip 26 = .ok (.bipush (-4), 2) := by decide +kernel
theorem dX5_slip_28 : decode cX5_slip 28 = .ok (.istore 5, 2) := by decide +kernel
theorem dX5_slip_30 : decode cX5_slip 30 = .ok (.aload_n 0, 1) := by decide +kernel
theorem dX5_slip_31 : decode cX5_slip 31 = .ok (.getfield 7, 3) := by decide +kernel
theorem dX5_slip_34 : decode cX5_slip 34 = .ok (.iconst 0, 1) := by decide +kernel
theorem dX5_slip_35 : decode cX5_slip 35 = .ok (.iaload, 1) := by decide +kernel
theorem dX5_slip_36 : decode cX5_slip 36 = .ok (.iconst 1, 1) := by decide +kernel
theorem dX5_slip_37 : decode cX5_slip 37 = .ok (.isub, 1) := by decide +kernel
theorem dX5_slip_38 : decode cX5_slip 38 = .ok (.istore 6, 2) := by decide +kernel
theorem dX5_slip_40 : decode cX5_slip 40 = .ok (.iload 6, 2) := by decide +kernel
theorem dX5_slip_42 : decode cX5_slip 42 = .ok (.ifCond .lt 172, 3) := by decide +kernel
theorem dX5_slip_45 : decode cX5_slip 45 = .ok (.iload_n 3, 1) := by decide +kernel
theorem dX5_slip_46 : decode cX5_slip 46 = .ok (.bipush (-4), 2) := by decide +kernel
theorem dX5_slip_48 : decode cX5_slip 48 = .ok (.if_icmp .eq 166, 3) := by decide +kernel
theorem dX5_slip_51 : decode cX5_slip 51 = .ok (.aload_n 0, 1) := by decide +kernel
theorem dX5_slip_52 : decode cX5_slip 52 = .ok (.getfield 7, 3) := by decide +kernel
theorem dX5_slip_55 : decode cX5_slip 55 = .ok (.sipush 130, 3) := by decide +kernel
theorem dX5_slip_58 : decode cX5_slip 58 = .ok (.iload 6, 2) := by decide +kernel
theorem dX5_slip_60 : decode cX5_slip 60 = .ok (.iadd, 1) := by decide +kernel
theorem dX5_slip_61 : decode cX5_slip 61 = .ok (.iaload, 1) := by decide +kernel
theorem dX5_slip_62 : decode cX5_slip 62 = .ok (.iconst 1, 1) := by decide +kernel
theorem dX5_slip_63 : decode cX5_slip 63 = .ok (.if_icmp .ne 21, 3) := by decide +kernel
theorem dX5_slip_66 : decode cX5_slip 66 = .ok (.aload_n 0, 1) := by decide +kernel
theorem dX5_slip_67 : decode cX5_slip 67 = .ok (.getfield 7, 3) := by decide +kernel
theorem dX5_slip_70 : decode cX5_slip 70 = .ok (.bipush 114, 2) := by decide +kernel
theorem dX5_slip_72 : decode cX5_slip 72 = .ok (.iload 6, 2) := by decide +kernel
theorem dX5_slip_74 : decode cX5_slip 74 = .ok (.iadd, 1) := by decide +kernel
theorem dX5_slip_75 : decode cX5_slip 75 = .ok (.iaload, 1) := by decide +kernel
theorem dX5_slip_76 : decode cX5_slip 76 = .ok (.iload_n 1, 1) := by decide +kernel
theorem dX5_slip_77 : decode cX5_slip 77 = .ok (.if_icmp .ne 7, 3) := by decide +kernel
theorem dX5_slip_80 : decode cX5_slip 80 = .ok (.iconst 1, 1) := by decide +kernel
theorem dX5_slip_81 : decode cX5_slip 81 = .ok (.goto 4, 3) := by decide +kernel
theorem dX5_slip_84 : decode cX5_slip 84 = .ok (.iconst 0, 1) := by decide +kernel
theorem dX5_slip_85 : decode cX5_slip 85 = .ok (.istore 7, 2) := by decide +kernel
theorem dX5_slip_87 : decode cX5_slip 87 = .ok (.aload_n 0, 1) := by decide +kernel
theorem dX5_slip_88 : decode cX5_slip 88 = .ok (.getfield 7, 3) := by decide +kernel
theorem dX5_slip_91 : decode cX5_slip 91 = .ok (.bipush 18, 2) := by decide +kernel
theorem dX5_slip_93 : decode cX5_slip 93 = .ok (.iload 6, 2) := by decide +kernel
theorem dX5_slip_95 : decode cX5_slip 95 = .ok (.iadd, 1) := by decide +kernel
theorem dX5_slip_96 : decode cX5_slip 96 = .ok (.iaload, 1) := by decide +kernel
theorem dX5_slip_97 : decode cX5_slip 97 = .ok (.iconst 1, 1) := by decide +kernel
theorem dX5_slip_98 : decode cX5_slip 98 = .ok (.isub, 1) := by decide +kernel
theorem dX5_slip_99 : decode cX5_slip 99 = .ok (.istore 8, 2) := by decide +kernel
theorem dX5_slip_101 : decode cX5_slip 101 = .ok (.iload 8, 2) := by decide +kernel
theorem dX5_slip_103 : decode cX5_slip 103 = .ok (.ifCond .lt 105, 3) := by decide +kernel
theorem dX5_slip_106 : decode cX5_slip 106 = .ok (.iload 7, 2) := by decide +kernel
theorem dX5_slip_108 : decode cX5_slip 108 = .ok (.ifCond .ne 13, 3) := by decide +kernel
theorem dX5_slip_111 : decode cX5_slip 111 = .ok (.aload_n 0, 1) := by decide +kernel
theorem dX5_slip_112 : decode cX5_slip 112 = .ok (.iload 6, 2) := by decide +kernel
theorem dX5_slip_114 : decode cX5_slip 114 = .ok (.iload_n 1, 1) := by decide +kernel
theorem dX5_slip_115 : decode cX5_slip 115 = .ok (.invokevirtual 173, 3) := by decide +kernel
theorem dX5_slip_118 : decode cX5_slip 118 = .ok (.ifCond .eq 90, 3) := by decide +kernel
theorem dX5_slip_121 : decode cX5_slip 121 = .ok (.bipush 9, 2) := by decide +kernel
theorem dX5_slip_123 : decode cX5_slip 123 = .ok (.istore 9, 2) := by decide +kernel
theorem dX5_slip_125 : decode cX5_slip 125 = .ok (.iload 9, 2) := by decide +kernel
theorem dX5_slip_127 : decode cX5_slip 127 = .ok (.ifCond .lt 75, 3) := by decide +kernel
theorem dX5_slip_130 : decode cX5_slip 130 = .ok (.iload 9, 2) := by decide +kernel
theorem dX5_slip_132 : decode cX5_slip 132 = .ok (.aload_n 0, 1) := by decide +kernel
theorem dX5_slip_133 : decode cX5_slip 133 = .ok (.iload 6, 2) := by decide +kernel
theorem dX5_slip_135 : decode cX5_slip 135 = .ok (.iload 8, 2) := by decide +kernel
theorem dX5_slip_137 : decode cX5_slip 137 = .ok (.invokevirtual 134, 3) := by decide +kernel
theorem dX5_slip_140 : decode cX5_slip 140 = .ok (.bipush 10, 2) := by decide +kernel
theorem dX5_slip_142 : decode cX5_slip 142 = .ok (.irem, 1) := by decide +kernel
theorem dX5_slip_143 : decode cX5_slip 143 = .ok (.isub, 1) := by decide +kernel
theorem dX5_slip_144 : decode cX5_slip 144 = .ok (.iload 8, 2) := by decide +kernel
theorem dX5_slip_146 : decode cX5_slip 146 = .ok (.invokestatic 201, 3) := by decide +kernel
theorem dX5_slip_149 : decode cX5_slip 149 = .ok (.imul, 1) := by decide +kernel
theorem dX5_slip_150 : decode cX5_slip 150 = .ok (.istore 10, 2) := by decide +kernel
theorem dX5_slip_152 : decode cX5_slip 152 = .ok (.iload 10, 2) := by decide +kernel
theorem dX5_slip_154 : decode cX5_slip 154 = .ok (.ifCond .eq 42, 3) := by decide +kernel
theorem dX5_slip_157 : decode cX5_slip 157 = .ok (.iload_n 3, 1) := by decide +kernel
theorem dX5_slip_158 : decode cX5_slip 158 = .ok (.iload 7, 2) := by decide +kernel
theorem dX5_slip_160 : decode cX5_slip 160 = .ok (.ifCond .eq 9, 3) := by decide +kernel
theorem dX5_slip_163 : decode cX5_slip 163 = .ok (.iload 10, 2) := by decide +kernel
theorem dX5_slip_165 : decode cX5_slip 165 = .ok (.ineg, 1) := by decide +kernel
theorem dX5_slip_166 : decode cX5_slip 166 = .ok (.goto 5, 3) := by decide +kernel
theorem dX5_slip_169 : decode cX5_slip 169 = .ok (.iload 10, 2) := by decide +kernel
theorem dX5_slip_171 : decode cX5_slip 171 = .ok (.iadd, 1) := by decide +kernel
theorem dX5_slip_172 : decode cX5_slip 172 = .ok (.ldc 182, 2) := by decide +kernel
theorem dX5_slip_174 : decode cX5_slip 174 = .ok (.if_icmp .ne 22, 3) := by decide +kernel
theorem dX5_slip_177 : decode cX5_slip 177 = .ok (.iinc 4 1, 3) := by decide +kernel
theorem dX5_slip_180 : decode cX5_slip 180 = .ok (.bipush 100, 2) := by decide +kernel
theorem dX5_slip_182 : decode cX5_slip 182 = .ok (.iload 6, 2) := by decide +kernel
theorem dX5_slip_184 : decode cX5_slip 184 = .ok (.imul, 1) := by decide +kernel
theorem dX5_slip_185 : decode cX5_slip 185 = .ok (.bipush 10, 2) := by decide +kernel
theorem dX5_slip_187 : decode cX5_slip 187 = .ok (.iload 8, 2) := by decide +kernel
theorem dX5_slip_189 : decode cX5_slip 189 = .ok (.imul, 1) := by decide +kernel
theorem dX5_slip_190 : decode cX5_slip 190 = .ok (.iadd, 1) := by decide +kernel
theorem dX5_slip_191 : decode cX5_slip 191 = .ok (.iload 9, 2) := by decide +kernel
theorem dX5_slip_193 : decode cX5_slip 193 = .ok (.iadd, 1) := by decide +kernel
theorem dX5_slip_194 : decode cX5_slip 194 = .ok (.istore 5, 2) := by decide +kernel
theorem dX5_slip_196 : decode cX5_slip 196 = .ok (.iinc 9 (-1), 3) := by decide +kernel
theorem dX5_slip_199 : decode cX5_slip 199 = .ok (.goto (-74), 3) := by decide +kernel
theorem dX5_slip_202 : decode cX5_slip 202 = .ok (.iinc 8 (-1), 3) := by decide +kernel
theorem dX5_slip_205 : decode cX5_slip 205 = .ok (.goto (-104), 3) := by decide +kernel
theorem dX5_slip_208 : decode cX5_slip 208 = .ok (.iinc 6 (-1), 3) := by decide +kernel
theorem dX5_slip_211 : decode cX5_slip 211 = .ok (.goto (-171), 3) := by decide +kernel
theorem dX5_slip_214 : decode cX5_slip 214 = .ok (.iload_n 2, 1) := by decide +kernel
theorem dX5_slip_215 : decode cX5_slip 215 = .ok (.ifCond .ne 8, 3) := by decide +kernel
theorem dX5_slip_218 : decode cX5_slip 218 = .ok (.iload 4, 2) := by decide +kernel
theorem dX5_slip_220 : decode cX5_slip 220 = .ok (.goto 5, 3) := by decide +kernel
theorem dX5_slip_223 : decode cX5_slip 223 = .ok (.iload 5, 2) := by decide +kernel
theorem dX5_slip_225 : decode cX5_slip 225 = .ok (.ireturn, 1) := by decide +kernel
theorem dX5_lost_0 : decode cX5_lost 0 = .ok (.aload_n 0, 1) := by decide +kernel
theorem dX5_lost_1 : decode cX5_lost 1 = .ok (.iload_n 1, 1) := by decide +kernel
theorem dX5_lost_2 : decode cX5_lost 2 = .ok (.invokevirtual 156, 3) := by decide +kernel
theorem dX5_lost_5 : decode cX5_lost 5 = .ok (.ifCond .ne 5, 3) := by decide +kernel
theorem dX5_lost_8 : decode cX5_lost 8 = .ok (.iconst (-1), 1) := by decide +kernel
theorem dX5_lost_9 : decode cX5_lost 9 = .ok (.ireturn, 1) := by decide +kernel
theorem dX5_lost_10 : decode cX5_lost 10 = .ok (.aload_n 0, 1) := by decide +kernel
theorem dX5_lost_11 : decode cX5_lost 11 = .ok (.iload_n 1, 1) := by decide +kernel
theorem dX5_lost_12 : decode cX5_lost 12 = .ok (.invokevirtual 170, 3) := by decide +kernel
theorem dX5_lost_15 : decode cX5_lost 15 = .ok (.ifCond .ne 6, 3) := by decide +kernel
theorem dX5_lost_18 : decode cX5_lost 18 = .ok (.bipush (-2), 2) := by decide +kernel
theorem dX5_lost_20 : decode cX5_lost 20 = .ok (.ireturn, 1) := by decide +kernel
theorem dX5_lost_21 : decode cX5_lost 21 = .ok (.aload_n 0, 1) := by decide +kernel
theorem dX5_lost_22 : decode cX5_lost 22 = .ok (.getfield 7, 3) := by decide +kernel
theorem dX5_lost_25 : decode cX5_lost 25 = .ok (.bipush 114, 2) := by decide +kernel
theorem dX5_lost_27 : decode cX5_lost 27 = .ok (.iload_n 1, 1) := by decide +kernel
theorem dX5_lost_28 : decode cX5_lost 28 = .ok (.iadd, 1) := by decide +kernel
theorem dX5_lost_29 : decode cX5_lost 29 = .ok (.iaload, 1) := by decide +kernel
theorem dX5_lost_30 : decode cX5_lost 30 = .ok (.istore_n 2, 1) := by decide +kernel
theorem dX5_lost_31 : decode cX5_lost 31 = .ok (.aload_n 0, 1) := by decide +kernel
theorem dX5_lost_32 : decode cX5_lost 32 = .ok (.iload_n 2, 1) := by decide +kernel
theorem dX5_lost_33 : decode cX5_lost 33 = .ok (.invokevirtual 176, 3) := by decide +kernel
theorem dX5_lost_36 : decode cX5_lost 36 = .ok (.istore_n 3, 1) := by decide +kernel
theorem dX5_lost_37 : decode cX5_lost 37 = .ok (.iload_n 3, 1) := by decide +kernel
theorem dX5_lost_38 : decode cX5_lost 38 = .ok (.bipush (-4), 2) := by decide +kernel
theorem dX5_lost_40 : decode cX5_lost 40 = .ok (.if_icmp .eq 23, 3) := by decide +kernel
theorem dX5_lost_43 : decode cX5_lost 43 = .ok (.aload_n 0, 1) := by decide +kernel
theorem dX5_lost_44 : decode cX5_lost 44 = .ok (.iload_n 3, 1) := by decide +kernel
theorem dX5_lost_45 : decode cX5_lost 45 = .ok (.invokevirtual 165, 3) := by decide +kernel
theorem dX5_lost_48 : decode cX5_lost 48 = .ok (.bipush (-4), 2) := by decide +kernel
theorem dX5_lost_50 : decode cX5_lost 50 = .ok (.if_icmp .eq 13, 3) := by decide +kernel
theorem dX5_lost_53 : decode cX5_lost 53 = .ok (.aload_n 0, 1) := by decide +kernel
theorem dX5_lost_54 : decode cX5_lost 54 = .ok (.iload_n 1, 1) := by decide +kernel
theorem dX5_lost_55 : decode cX5_lost 55 = .ok (.invokevirtual 150, 3) := by decide +kernel
theorem dX5_lost_58 : decode cX5_lost 58 = .ok (.bipush (-4), 2) := by decide +kernel
theorem dX5_lost_60 : decode cX5_lost 60 = .ok (.if_icmp .ne 6, 3) := by decide +kernel
theorem dX5_lost_63 : decode cX5_lost 63 = .ok (.bipush (-4), 2) := by decide +kernel
theorem dX5_lost_65 : decode cX5_lost 65 = .ok (.ireturn, 1) := by decide +kernel
theorem dX5_lost_66 : decode cX5_lost 66 = .ok (.aload_n 0, 1) := by decide +kernel
theorem dX5_lost_67 : decode cX5_lost 67 = .ok (.iload_n 3, 1) := by decide +kernel
theorem dX5_lost_68 : decode cX5_lost 68 = .ok (.invokevirtual 165, 3) := by decide +kernel
theorem dX5_lost_71 : decode cX5_lost 71 = .ok (.aload_n 0, 1) := by decide +kernel
theorem dX5_lost_72 : decode cX5_lost 72 = .ok (.iload_n 1, 1) := by decide +kernel
theorem dX5_lost_73 : decode cX5_lost 73 = .ok (.invokevirtual 150, 3) := by decide +kernel
theorem dX5_lost_76 : decode cX5_lost 76 = .ok (.isub, 1) := by decide +kernel
theorem dX5_lost_77 : decode cX5_lost 77 = .ok (.istore 4, 2) := by decide +kernel
theorem dX5_lost_79 : decode cX5_lost 79 = .ok (.iconst 0, 1) := by decide +kernel
theorem dX5_lost_80 : decode cX5_lost 80 = .ok (.istore 5, 2) := by decide +kernel
theorem dX5_lost_82 : decode cX5_lost 82 = .ok (.iload 5, 2) := by decide +kernel
theorem dX5_lost_84 : decode cX5_lost 84 = .ok (.aload_n 0, 1) := by decide +kernel
theorem dX5_lost_85 : decode cX5_lost 85 = .ok (.getfield 7, 3) := by decide +kernel
theorem dX5_lost_88 : decode cX5_lost 88 = .ok (.iconst 0, 1) := by decide +kernel
theorem dX5_lost_89 : decode cX5_lost 89 = .ok (.iaload, 1) := by decide +kernel
theorem dX5_lost_90 : decode cX5_lost 90 = .ok (.if_icmp .ge 50, 3) := by decide +kernel
theorem dX5_lost_93 : decode cX5_lost 93 = .ok (.iload 5, 2) := by decide +kernel
theorem dX5_lost_95 : decode cX5_lost 95 = .ok (.iload_n 1, 1) := by decide +kernel
theorem dX5_lost_96 : decode cX5_lost 96 = .ok (.if_icmp .eq 38, 3) := by decide +kernel
theorem dX5_lost_99 : decode cX5_lost 99 = .ok (.aload_n 0, 1) := by decide +kernel
theorem dX5_lost_100 : decode cX5_lost 100 = .ok (.iload 5, 2) := by decide +kernel
theorem dX5_lost_102 : decode cX5_lost 102 = .ok (.iload_n 2, 1) := by decide +kernel
theorem dX5_lost_103 : decode cX5_lost 103 = .ok (.invokevirtual 173, 3) := by decide +kernel
theorem dX5_lost_106 : decode cX5_lost 106 = .ok (.ifCond .eq 28, 3) := by decide +kernel
theorem dX5_lost_109 : decode cX5_lost 109 = .ok (.aload_n 0, 1) := by decide +kernel
theorem dX5_lost_110 : decode cX5_lost 110 = .ok (.iload 5, 2) := by decide +kernel
theorem dX5_lost_112 : decode cX5_lost 112 = .ok (.invokevirtual 165, 3) := by decide +kernel
theorem dX5_lost_115 : decode cX5_lost 115 = .ok (.bipush (-4), 2) := by decide +kernel
theorem dX5_lost_117 : decode cX5_lost 117 = .ok (.if_icmp .ne 6, 3) := by decide +kernel
theorem dX5_lost_120 : decode cX5_lost 120 = .ok (.bipush (-4), 2) := by decide +kernel
theorem dX5_lost_122 : decode cX5_lost 122 = .ok (.ireturn, 1) := by decide +kernel
theorem dX5_lost_123 : decode cX5_lost 123 = .ok (.iload 4, 2) := by decide +kernel
theorem dX5_lost_125 : decode cX5_lost 125 = .ok (.aload_n 0, 1) := by decide +kernel
theorem dX5_lost_126 : decode cX5_lost 126 = .ok (.iload 5, 2) := by decide +kernel
theorem dX5_lost_128 : decode cX5_lost 128 = .ok (.invokevirtual 165, 3) := by decide +kernel
theorem dX5_lost_131 : decode cX5_lost 131 = .ok (.isub, 1) := by decide +kernel
theorem dX5_lost_132 : decode cX5_lost 132 = .ok (.istore 4, 2) := by decide +kernel
theorem dX5_lost_134 : decode cX5_lost 134 = .ok (.iinc 5 1, 3) := by decide +kernel
theorem dX5_lost_137 : decode cX5_lost 137 = .ok (.goto (-55), 3) := by decide +kernel
theorem dX5_lost_140 : decode cX5_lost 140 = .ok (.iload 4, 2) := by decide +kernel
theorem dX5_lost_142 : decode cX5_lost 142 = .ok (.i2l, 1) := by decide +kernel
theorem dX5_lost_143 : decode cX5_lost 143 = .ok (.lconst 0, 1) := by decide +kernel
theorem dX5_lost_144 : decode cX5_lost 144 = .ok (.ldc2_w 213, 3) := by decide +kernel
theorem dX5_lost_147 : decode cX5_lost 147 = .ok (.invokestatic 54, 3) := by decide +kernel
theorem dX5_lost_150 : decode cX5_lost 150 = .ok (.ifCond .eq 8, 3) := by decide +kernel
theorem dX5_lost_153 : decode cX5_lost 153 = .ok (.iload 4, 2) := by decide +kernel
theorem dX5_lost_155 : decode cX5_lost 155 = .ok (.goto 5, 3) := by decide +kernel
theorem dX5_lost_158 : decode cX5_lost 158 = .ok (.bipush (-4), 2) := by decide +kernel
theorem dX5_lost_160 : decode cX5_lost 160 = .ok (.ireturn, 1) := by decide +kernel
theorem dX5_closed_0 : decode cX5_closed 0 = .ok (.aload_n 0, 1) := by decide +kernel
theorem dX5_closed_1 : decode cX5_closed 1 = .ok (.iload_n 1, 1) := by decide +kernel
theorem dX5_closed_2 : decode cX5_closed 2 = .ok (.invokevirtual 156, 3) := by decide +kernel
theorem dX5_closed_5 : decode cX5_closed 5 = .ok (.ifCond .eq 22, 3) := by decide +kernel
theorem dX5_closed_8 : decode cX5_closed 8 = .ok (.iload_n 2, 1) := by decide +kernel
theorem dX5_closed_9 : decode cX5_closed 9 = .ok (.i2l, 1) := by decide +kernel
theorem dX5_closed_10 : decode cX5_closed 10 = .ok (.lconst 1, 1) := by decide +kernel
theorem dX5_closed_11 : decode cX5_closed 11 = .ok (.ldc2_w 233, 3) := by decide +kernel
theorem dX5_closed_14 : decode cX5_closed 14 = .ok (.invokestatic 54, 3) := by decide +kernel
theorem dX5_closed_17 : decode cX5_closed 17 = .ok (.ifCond .eq 10, 3) := by decide +kernel
theorem dX5_closed_20 : decode cX5_closed 20 = .ok (.iload_n 3, 1) := by decide +kernel
theorem dX5_closed_21 : decode cX5_closed 21 = .ok (.invokestatic 230, 3) := by decide +kernel
theorem dX5_closed_24 : decode cX5_closed 24 = .ok (.ifCond .ne 5, 3) := by decide +kernel
theorem dX5_closed_27 : decode cX5_closed 27 = .ok (.iconst (-1), 1) := by decide +kernel
theorem dX5_closed_28 : decode cX5_closed 28 = .ok (.ireturn, 1) := by decide +kernel
theorem dX5_closed_29 : decode cX5_closed 29 = .ok (.iconst 0, 1) := by decide +kernel
theorem dX5_closed_30 : decode cX5_closed 30 = .ok (.istore 4, 2) := by decide +kernel
theorem dX5_closed_32 : decode cX5_closed 32 = .ok (.iconst 0, 1) := by decide +kernel
theorem dX5_closed_33 : decode cX5_closed 33 = .ok (.istore 5, 2) := by decide +kernel
theorem dX5_closed_35 : decode cX5_closed 35 = .ok (.iload 5, 2) := by decide +kernel
theorem dX5_closed_37 : decode cX5_closed 37 = .ok (.aload_n 0, 1) := by decide +kernel
theorem dX5_closed_38 : decode cX5_closed 38 = .ok (.getfield 7, 3) := by decide +kernel
theorem dX5_closed_41 : decode cX5_closed 41 = .ok (.bipush 18, 2) := by decide +kernel
theorem dX5_closed_43 : decode cX5_closed 43 = .ok (.iload_n 1, 1) := by decide +kernel
theorem dX5_closed_44 : decode cX5_closed 44 = .ok (.iadd, 1) := by decide +kernel
theorem dX5_closed_45 : decode cX5_closed 45 = .ok (.iaload, 1) := by decide +kernel
theorem dX5_closed_46 : decode cX5_closed 46 = .ok (.if_icmp .ge 36, 3) := by decide +kernel
theorem dX5_closed_49 : decode cX5_closed 49 = .ok (.aload_n 0, 1) := by decide +kernel
theorem dX5_closed_50 : decode cX5_closed 50 = .ok (.iload_n 1, 1) := by decide +kernel
theorem dX5_closed_51 : decode cX5_closed 51 = .ok (.iload 5, 2) := by decide +kernel
theorem dX5_closed_53 : decode cX5_closed 53 = .ok (.invokevirtual 134, 3) := by decide +kernel
theorem dX5_closed_56 : decode cX5_closed 56 = .ok (.ifCond .eq 20, 3) := by decide +kernel
theorem dX5_closed_59 : decode cX5_closed 59 = .ok (.aload_n 0, 1) := by decide +kernel
theorem dX5_closed_60 : decode cX5_closed 60 = .ok (.getfield 34, 3) := by decide +kernel
theorem dX5_closed_63 : decode cX5_closed 63 = .ok (.iload 4, 2) := by decide +kernel
theorem dX5_closed_65 : decode cX5_closed 65 = .ok (.aload_n 0, 1) := by decide +kernel
theorem dX5_closed_66 : decode cX5_closed 66 = .ok (.iload_n 1, 1) := by decide +kernel
theorem dX5_closed_67 : decode cX5_closed 67 = .ok (.iload 5, 2) := by decide +kernel
theorem dX5_closed_69 : decode cX5_closed 69 = .ok (.invokevirtual 134, 3) := by decide +kernel
theorem dX5_closed_72 : decode cX5_closed 72 = .ok (.iastore, 1) := by decide +kernel
theorem dX5_closed_73 : decode cX5_closed 73 = .ok (.iinc 4 1, 3) := by decide +kernel
theorem dX5_closed_76 : decode cX5_closed 76 = .ok (.iinc 5 1, 3) := by decide +kernel
theorem dX5_closed_79 : decode cX5_closed 79 = .ok (.goto (-44), 3) := by decide +kernel
theorem dX5_closed_82 : decode cX5_closed 82 = .ok (.iconst 0, 1) := by decide +kernel
theorem dX5_closed_83 : decode cX5_closed 83 = .ok (.istore 5, 2) := by decide +kernel
theorem dX5_closed_85 : decode cX5_closed 85 = .ok (.bipush (-4), 2) := by decide +kernel
theorem dX5_closed_87 : decode cX5_closed 87 = .ok (.istore 6, 2) := by decide +kernel
theorem dX5_closed_89 : decode cX5_closed 89 = .ok (.iconst 0, 1) := by decide +kernel
theorem dX5_closed_90 : decode cX5_closed 90 = .ok (.istore 7, 2) := by decide +kernel
theorem dX5_closed_92 : decode cX5_closed 92 = .ok (.iload 7, 2) := by decide +kernel
theorem dX5_closed_94 : decode cX5_closed 94 = .ok (.iconst 1, 1) := by decide +kernel
theorem dX5_closed_95 : decode cX5_closed 95 = .ok (.iload_n 2, 1) := by decide +kernel
theorem dX5_closed_96 : decode cX5_closed 96 = .ok (.ishl, 1) := by decide +kernel
theorem dX5_closed_97 : decode cX5_closed 97 = .ok (.if_icmp .ge 166, 3) := by decide +kernel
theorem dX5_closed_100 : decode cX5_closed 100 = .ok (.iconst 0, 1) := by decide +kernel
theorem dX5_closed_101 : decode cX5_closed 101 = .ok (.istore 8, 2) := by decide +kernel
theorem dX5_closed_103 : decode cX5_closed 103 = .ok (.iconst 0, 1) := by decide +kernel
theorem dX5_closed_104 : decode cX5_closed 104 = .ok (.istore 9, 2) := by decide +kernel
theorem dX5_closed_106 : decode cX5_closed 106 = .ok (.iconst 1, 1) := by decide +kernel
theorem dX5_closed_107 : decode cX5_closed 107 = .ok (.istore 10, 2) := by decide +kernel
theorem dX5_closed_109 : decode cX5_closed 109 = .ok (.iconst 0, 1) := by decide +kernel
theorem dX5_closed_110 : decode cX5_closed 110 = .ok (.istore 11, 2) := by decide +kernel
theorem dX5_closed_112 : decode cX5_closed 112 = .ok (.iload 11, 2) := by decide +kernel
theorem dX5_closed_114 : decode cX5_closed 114 = .ok (.iload_n 2, 1) := by decide +kernel
theorem dX5_closed_115 : decode cX5_closed 115 = .ok (.if_icmp .ge 104, 3) := by decide +kernel
theorem dX5_closed_118 : decode cX5_closed 118 = .ok (.iload 10, 2) := by decide +kernel
theorem dX5_closed_120 : decode cX5_closed 120 = .ok (.ifCond .eq 99, 3) := by decide +kernel
theorem dX5_closed_123 : decode cX5_closed 123 = .ok (.iload 7, 2) := by decide +kernel
theorem dX5_closed_125 : decode cX5_closed 125 = .ok (.iload 11, 2) := by decide +kernel
theorem dX5_closed_127 : decode cX5_closed 127 = .ok (.ishr, 1) := by decide +kernel
theorem dX5_closed_128 : decode cX5_closed 128 = .ok (.iconst 1, 1) := by decide +kernel
theorem dX5_closed_129 : decode cX5_closed 129 = .ok (.iand, 1) := by decide +kernel
theorem dX5_closed_130 : decode cX5_closed 130 = .ok (.iconst 1, 1) := by decide +kernel
theorem dX5_closed_131 : decode cX5_closed 131 = .ok (.if_icmp .ne 82, 3) := by decide +kernel
theorem dX5_closed_134 : decode cX5_closed 134 = .ok (.iload 8, 2) := by decide +kernel
theorem dX5_closed_136 : decode cX5_closed 136 = .ok (.iload 4, 2) := by decide +kernel
theorem dX5_closed_138 : decode cX5_closed 138 = .ok (.if_icmp .ge 39, 3) := by decide +kernel
theorem dX5_closed_141 : decode cX5_closed 141 = .ok (.aload_n 0, 1) := by decide +kernel
theorem dX5_closed_142 : decode cX5_closed 142 = .ok (.getfield 34, 3) := by decide +kernel
theorem dX5_closed_145 : decode cX5_closed 145 = .ok (.iload 8, 2) := by decide +kernel
theorem dX5_closed_147 : decode cX5_closed 147 = .ok (.iaload, 1) := by decide +kernel
theorem dX5_closed_148 : decode cX5_closed 148 = .ok (.bipush 10, 2) := by decide +kernel
theorem dX5_closed_150 : decode cX5_closed 150 = .ok (.idiv, 1) := by decide +kernel
theorem dX5_closed_151 : decode cX5_closed 151 = .ok (.iconst 1, 1) := by decide +kernel
theorem dX5_closed_152 : decode cX5_closed 152 = .ok (.if_icmp .ne 7, 3) := by decide +kernel
theorem dX5_closed_155 : decode cX5_closed 155 = .ok (.iconst 1, 1) := by decide +kernel
theorem dX5_closed_156 : decode cX5_closed 156 = .ok (.goto 4, 3) := by decide +kernel
theorem dX5_closed_159 : decode cX5_closed 159 = .ok (.iconst 0, 1) := by decide +kernel
theorem dX5_closed_160 : decode cX5_closed 160 = .ok (.iload 11, 2) := by decide +kernel
theorem dX5_closed_162 : decode cX5_closed 162 = .ok (.ifCond .le 7, 3) := by decide +kernel
theorem dX5_closed_165 : decode cX5_closed 165 = .ok (.iconst 1, 1) := by decide +kernel
theorem dX5_closed_166 : decode cX5_closed 166 = .ok (.goto 4, 3) := by decide +kernel
theorem dX5_closed_169 : decode cX5_closed 169 = .ok (.iconst 0, 1) := by decide +kernel
theorem dX5_closed_170 : decode cX5_closed 170 = .ok (.if_icmp .ne 7, 3) := by decide +kernel
theorem dX5_closed_173 : decode cX5_closed 173 = .ok (.iconst 1, 1) := by decide +kernel
theorem dX5_closed_174 : decode cX5_closed 174 = .ok (.goto 4, 3) := by decide +kernel
theorem dX5_closed_177 : decode cX5_closed 177 = .ok (.iconst 0, 1) := by decide +kernel
theorem dX5_closed_178 : decode cX5_closed 178 = .ok (.istore 10, 2) := by decide +kernel
theorem dX5_closed_180 : decode cX5_closed 180 = .ok (.iload 9, 2) := by decide +kernel
theorem dX5_closed_182 : decode cX5_closed 182 = .ok (.iload 10, 2) := by decide +kernel
theorem dX5_closed_184 : decode cX5_closed 184 = .ok (.ifCond .eq 22, 3) := by decide +kernel
theorem dX5_closed_187 : decode cX5_closed 187 = .ok (.aload_n 0, 1) := by decide +kernel
theorem dX5_closed_188 : decode cX5_closed 188 = .ok (.getfield 34, 3) := by decide +kernel
theorem dX5_closed_191 : decode cX5_closed 191 = .ok (.iload 8, 2) := by decide +kernel
theorem dX5_closed_193 : decode cX5_closed 193 = .ok (.iaload, 1) := by decide +kernel
theorem dX5_closed_194 : decode cX5_closed 194 = .ok (.bipush 10, 2) := by decide +kernel
theorem dX5_closed_196 : decode cX5_closed 196 = .ok (.irem, 1) := by decide +kernel
theorem dX5_closed_197 : decode cX5_closed 197 = .ok (.iload 11, 2) := by decide +kernel
theorem dX5_closed_199 : decode cX5_closed 199 = .ok (.invokestatic 201, 3) := by decide +kernel
theorem dX5_closed_202 : decode cX5_closed 202 = .ok (.imul, 1) := by decide +kernel
theorem dX5_closed_203 : decode cX5_closed 203 = .ok (.goto 4, 3) := by decide +kernel
theorem dX5_closed_206 : decode cX5_closed 206 = .ok (.iconst 0, 1) := by decide +kernel
theorem dX5_closed_207 : decode cX5_closed 207 = .ok (.iadd, 1) := by decide +kernel
theorem dX5_closed_208 : decode cX5_closed 208 = .ok (.istore 9, 2) := by decide +kernel
theorem dX5_closed_210 : decode cX5_closed 210 = .ok (.iinc 8 1, 3) := by decide +kernel
theorem dX5_closed_213 : decode cX5_closed 213 = .ok (.iinc 11 1, 3) := by decide +kernel
theorem dX5_closed_216 : decode cX5_closed 216 = .ok (.goto (-104), 3) := by decide +kernel
theorem dX5_closed_219 : decode cX5_closed 219 = .ok (.iload 10, 2) := by decide +kernel
theorem dX5_closed_221 : decode cX5_closed 221 = .ok (.ifCond .eq 36, 3) := by decide +kernel
theorem dX5_closed_224 : decode cX5_closed 224 = .ok (.iload 8, 2) := by decide +kernel
theorem dX5_closed_226 : decode cX5_closed 226 = .ok (.iload 4, 2) := by decide +kernel
theorem dX5_closed_228 : decode cX5_closed 228 = .ok (.if_icmp .ne 29, 3) := by decide +kernel
theorem dX5_closed_231 : decode cX5_closed 231 = .ok (.iinc 5 1, 3) := by decide +kernel
theorem dX5_closed_234 : decode cX5_closed 234 = .ok (.iload 6, 2) := by decide +kernel
theorem dX5_closed_236 : decode cX5_closed 236 = .ok (.bipush (-4), 2) := by decide +kernel
theorem dX5_closed_238 : decode cX5_closed 238 = .ok (.if_icmp .eq 10, 3) := by decide +kernel
theorem dX5_closed_241 : decode cX5_closed 241 = .ok (.iload 9, 2) := by decide +kernel
theorem dX5_closed_243 : decode cX5_closed 243 = .ok (.iload 6, 2) := by decide +kernel
theorem dX5_closed_245 : decode cX5_closed 245 = .ok (.if_icmp .ge 8, 3) := by decide +kernel
theorem dX5_closed_248 : decode cX5_closed 248 = .ok (.iload 9, 2) := by decide +kernel
theorem dX5_closed_250 : decode cX5_closed 250 = .ok (.goto 5, 3) := by decide +kernel
theorem dX5_closed_253 : decode cX5_closed 253 = .ok (.iload 6, 2) := by decide +kernel
theorem dX5_closed_255 : decode cX5_closed 255 = .ok (.istore 6, 2) := by decide +kernel
theorem dX5_closed_257 : decode cX5_closed 257 = .ok (.iinc 7 1, 3) := by decide +kernel
theorem dX5_closed_260 : decode cX5_closed 260 = .ok (.goto (-168), 3) := by decide +kernel
theorem dX5_closed_263 : decode cX5_closed 263 = .ok (.iload_n 3, 1) := by decide +kernel
theorem dX5_closed_264 : decode cX5_closed 264 = .ok (.ifCond .ne 8, 3) := by decide +kernel
theorem dX5_closed_267 : decode cX5_closed 267 = .ok (.iload 5, 2) := by decide +kernel
theorem dX5_closed_269 : decode cX5_closed 269 = .ok (.goto 5, 3) := by decide +kernel
theorem dX5_closed_272 : decode cX5_closed 272 = .ok (.iload 6, 2) := by decide +kernel
theorem dX5_closed_274 : decode cX5_closed 274 = .ok (.ireturn, 1) := by decide +kernel
theorem dX5_order_0 : decode cX5_order 0 = .ok (.aload_n 0, 1) := by decide +kernel
theorem dX5_order_1 : decode cX5_order 1 = .ok (.iload_n 1, 1) := by decide +kernel
theorem dX5_order_2 : decode cX5_order 2 = .ok (.invokevirtual 183, 3) := by decide +kernel
theorem dX5_order_5 : decode cX5_order 5 = .ok (.ifCond .ne 5, 3) := by decide +kernel
theorem dX5_order_8 : decode cX5_order 8 = .ok (.iconst (-1), 1) := by decide +kernel
theorem dX5_order_9 : decode cX5_order 9 = .ok (.ireturn, 1) := by decide +kernel
theorem dX5_order_10 : decode cX5_order 10 = .ok (.aload_n 0, 1) := by decide +kernel
theorem dX5_order_11 : decode cX5_order 11 = .ok (.iload_n 1, 1) := by decide +kernel
theorem dX5_order_12 : decode cX5_order 12 = .ok (.invokevirtual 186, 3) := by decide +kernel
theorem dX5_order_15 : decode cX5_order 15 = .ok (.istore_n 2, 1) := by decide +kernel
theorem dX5_order_16 : decode cX5_order 16 = .ok (.iconst 0, 1) := by decide +kernel
theorem dX5_order_17 : decode cX5_order 17 = .ok (.istore_n 3, 1) := by decide +kernel
theorem dX5_order_18 : decode cX5_order 18 = .ok (.iconst 0, 1) := by decide +kernel
theorem dX5_order_19 : decode cX5_order 19 = .ok (.istore 4, 2) := by decide +kernel
theorem dX5_order_21 : decode cX5_order 21 = .ok (.iload 4, 2) := by decide +kernel
theorem dX5_order_23 : decode cX5_order 23 = .ok (.iload_n 2, 1) := by decide +kernel
theorem dX5_order_24 : decode cX5_order 24 = .ok (.if_icmp .ge 151, 3) := by decide +kernel
theorem dX5_order_27 : decode cX5_order 27 = .ok (.aload_n 0, 1) := by decide +kernel
theorem dX5_order_28 : decode cX5_order 28 = .ok (.getfield 37, 3) := by decide +kernel
theorem dX5_order_31 : decode cX5_order 31 = .ok (.iload 4, 2) := by decide +kernel
theorem dX5_order_33 : decode cX5_order 33 = .ok (.aload_n 0, 1) := by decide +kernel
theorem dX5_order_34 : decode cX5_order 34 = .ok (.aload_n 0, 1) := by decide +kernel
theorem dX5_order_35 : decode cX5_order 35 = .ok (.iload_n 1, 1) := by decide +kernel
theorem dX5_order_36 : decode cX5_order 36 = .ok (.iload 4, 2) := by decide +kernel
theorem dX5_order_38 : decode cX5_order 38 = .ok (.invokevirtual 192, 3) := by decide +kernel
theorem dX5_order_41 : decode cX5_order 41 = .ok (.invokevirtual 146, 3) := by decide +kernel
theorem dX5_order_44 : decode cX5_order 44 = .ok (.iastore, 1) := by decide +kernel
theorem dX5_order_45 : decode cX5_order 45 = .ok (.aload_n 0, 1) := by decide +kernel
theorem dX5_order_46 : decode cX5_order 46 = .ok (.getfield 37, 3) := by decide +kernel
theorem dX5_order_49 : decode cX5_order 49 = .ok (.iload 4, 2) := by decide +kernel
theorem dX5_order_51 : decode cX5_order 51 = .ok (.iaload, 1) := by decide +kernel
theorem dX5_order_52 : decode cX5_order 52 = .ok (.bipush (-4), 2) := by decide +kernel
theorem dX5_order_54 : decode cX5_order 54 = .ok (.if_icmp .ne 6, 3) := by decide +kernel
theorem dX5_order_57 : decode cX5_order 57 = .ok (.bipush (-4), 2) := by decide +kernel
theorem dX5_order_59 : decode cX5_order 59 = .ok (.ireturn, 1) := by decide +kernel
theorem dX5_order_60 : decode cX5_order 60 = .ok (.aload_n 0, 1) := by decide +kernel
theorem dX5_order_61 : decode cX5_order 61 = .ok (.getfield 40, 3) := by decide +kernel
theorem dX5_order_64 : decode cX5_order 64 = .ok (.iload 4, 2) := by decide +kernel
theorem dX5_order_66 : decode cX5_order 66 = .ok (.iconst 1, 1) := by decide +kernel
theorem dX5_order_67 : decode cX5_order 67 = .ok (.iastore, 1) := by decide +kernel
theorem dX5_order_68 : decode cX5_order 68 = .ok (.iconst 0, 1) := by decide +kernel
theorem dX5_order_69 : decode cX5_order 69 = .ok (.istore 5, 2) := by decide +kernel
theorem dX5_order_71 : decode cX5_order 71 = .ok (.iload 5, 2) := by decide +kernel
theorem dX5_order_73 : decode cX5_order 73 = .ok (.iload 4, 2) := by decide +kernel
theorem dX5_order_75 : decode cX5_order 75 = .ok (.if_icmp .ge 71, 3) := by decide +kernel
theorem dX5_order_78 : decode cX5_order 78 = .ok (.aload_n 0, 1) := by decide +kernel
theorem dX5_order_79 : decode cX5_order 79 = .ok (.getfield 40, 3) := by decide +kernel
theorem dX5_order_82 : decode cX5_order 82 = .ok (.iload 4, 2) := by decide +kernel
theorem dX5_order_84 : decode cX5_order 84 = .ok (.aload_n 0, 1) := by decide +kernel
theorem dX5_order_85 : decode cX5_order 85 = .ok (.getfield 37, 3) := by decide +kernel
theorem dX5_order_88 : decode cX5_order 88 = .ok (.iload 5, 2) := by decide +kernel
theorem dX5_order_90 : decode cX5_order 90 = .ok (.iaload, 1) := by decide +kernel
theorem dX5_order_91 : decode cX5_order 91 = .ok (.aload_n 0, 1) := by decide +kernel
theorem dX5_order_92 : decode cX5_order 92 = .ok (.getfield 37, 3) := by decide +kernel
theorem dX5_order_95 : decode cX5_order 95 = .ok (.iload 4, 2) := by decide +kernel
theorem dX5_order_97 : decode cX5_order 97 = .ok (.iaload, 1) := by decide +kernel
theorem dX5_order_98 : decode cX5_order 98 = .ok (.if_icmp .gt 34, 3) := by decide +kernel
theorem dX5_order_101 : decode cX5_order 101 = .ok (.aload_n 0, 1) := by decide +kernel
theorem dX5_order_102 : decode cX5_order 102 = .ok (.getfield 40, 3) := by decide +kernel
theorem dX5_order_105 : decode cX5_order 105 = .ok (.iload 5, 2) := by decide +kernel
theorem dX5_order_107 : decode cX5_order 107 = .ok (.iaload, 1) := by decide +kernel
theorem dX5_order_108 : decode cX5_order 108 = .ok (.iconst 1, 1) := by decide +kernel
theorem dX5_order_109 : decode cX5_order 109 = .ok (.iadd, 1) := by decide +kernel
theorem dX5_order_110 : decode cX5_order 110 = .ok (.aload_n 0, 1) := by decide +kernel
theorem dX5_order_111 : decode cX5_order 111 = .ok (.getfield 40, 3) := by decide +kernel
theorem dX5_order_114 : decode cX5_order 114 = .ok (.iload 4, 2) := by decide +kernel
theorem dX5_order_116 : decode cX5_order 116 = .ok (.iaload, 1) := by decide +kernel
theorem dX5_order_117 : decode cX5_order 117 = .ok (.if_icmp .le 15, 3) := by decide +kernel
theorem dX5_order_120 : decode cX5_order 120 = .ok (.aload_n 0, 1) := by decide +kernel
theorem dX5_order_121 : decode cX5_order 121 = .ok (.getfield 40, 3) := by decide +kernel
theorem dX5_order_124 : decode cX5_order 124 = .ok (.iload 5, 2) := by decide +kernel
theorem dX5_order_126 : decode cX5_order 126 = .ok (.iaload, 1) := by decide +kernel
theorem dX5_order_127 : decode cX5_order 127 = .ok (.iconst 1, 1) := by decide +kernel
theorem dX5_order_128 : decode cX5_order 128 = .ok (.iadd, 1) := by decide +kernel
theorem dX5_order_129 : decode cX5_order 129 = .ok (.goto 10, 3) := by decide +kernel
theorem dX5_order_132 : decode cX5_order 132 = .ok (.aload_n 0, 1) := by decide +kernel
theorem dX5_order_133 : decode cX5_order 133 = .ok (.getfield 40, 3) := by decide +kernel
theorem dX5_order_136 : decode cX5_order 136 = .ok (.iload 4, 2) := by decide +kernel
theorem dX5_order_138 : decode cX5_order 138 = .ok (.iaload, 1) := by decide +kernel
theorem dX5_order_139 : decode cX5_order 139 = .ok (.iastore, 1) := by decide +kernel
theorem dX5_order_140 : decode cX5_order 140 = .ok (.iinc 5 1, 3) := by decide +kernel
theorem dX5_order_143 : decode cX5_order 143 = .ok (.goto (-72), 3) := by decide +kernel
theorem dX5_order_146 : decode cX5_order 146 = .ok (.aload_n 0, 1) := by decide +kernel
theorem dX5_order_147 : decode cX5_order 147 = .ok (.getfield 40, 3) := by decide +kernel
theorem dX5_order_150 : decode cX5_order 150 = .ok (.iload 4, 2) := by decide +kernel
theorem dX5_order_152 : decode cX5_order 152 = .ok (.iaload, 1) := by decide +kernel
theorem dX5_order_153 : decode cX5_order 153 = .ok (.iload_n 3, 1) := by decide +kernel
theorem dX5_order_154 : decode cX5_order 154 = .ok (.if_icmp .le 13, 3) := by decide +kernel
theorem dX5_order_157 : decode cX5_order 157 = .ok (.aload_n 0, 1) := by decide +kernel
theorem dX5_order_158 : decode cX5_order 158 = .ok (.getfield 40, 3) := by decide +kernel
theorem dX5_order_161 : decode cX5_order 161 = .ok (.iload 4, 2) := by decide +kernel
theorem dX5_order_163 : decode cX5_order 163 = .ok (.iaload, 1) := by decide +kernel
theorem dX5_order_164 : decode cX5_order 164 = .ok (.goto 4, 3) := by decide +kernel
theorem dX5_order_167 : decode cX5_order 167 = .ok (.iload_n 3, 1) := by decide +kernel
theorem dX5_order_168 : decode cX5_order 168 = .ok (.istore_n 3, 1) := by decide +kernel
theorem dX5_order_169 : decode cX5_order 169 = .ok (.iinc 4 1, 3) := by decide +kernel
theorem dX5_order_172 : decode cX5_order 172 = .ok (.goto (-151), 3) := by decide +kernel
theorem dX5_order_175 : decode cX5_order 175 = .ok (.iload_n 2, 1) := by decide +kernel
theorem dX5_order_176 : decode cX5_order 176 = .ok (.iload_n 3, 1) := by decide +kernel
theorem dX5_order_177 : decode cX5_order 177 = .ok (.isub, 1) := by decide +kernel
theorem dX5_order_178 : decode cX5_order 178 = .ok (.ireturn, 1) := by decide +kernel
theorem dX5_bits_0 : decode cX5_bits 0 = .ok (.iconst 0, 1) := by decide +kernel
theorem dX5_bits_1 : decode cX5_bits 1 = .ok (.istore_n 1, 1) := by decide +kernel
theorem dX5_bits_2 : decode cX5_bits 2 = .ok (.iload_n 0, 1) := by decide +kernel
theorem dX5_bits_3 : decode cX5_bits 3 = .ok (.istore_n 2, 1) := by decide +kernel
theorem dX5_bits_4 : decode cX5_bits 4 = .ok (.iload_n 2, 1) := by decide +kernel
theorem dX5_bits_5 : decode cX5_bits 5 = .ok (.ifCond .eq 15, 3) := by decide +kernel
theorem dX5_bits_8 : decode cX5_bits 8 = .ok (.iinc 1 1, 3) := by decide +kernel
theorem dX5_bits_11 : decode cX5_bits 11 = .ok (.iload_n 2, 1) := by decide +kernel
theorem dX5_bits_12 : decode cX5_bits 12 = .ok (.iload_n 2, 1) := by decide +kernel
theorem dX5_bits_13 : decode cX5_bits 13 = .ok (.iconst 1, 1) := by decide +kernel
theorem dX5_bits_14 : decode cX5_bits 14 = .ok (.isub, 1) := by decide +kernel
theorem dX5_bits_15 : decode cX5_bits 15 = .ok (.iand, 1) := by decide +kernel
theorem dX5_bits_16 : decode cX5_bits 16 = .ok (.istore_n 2, 1) := by decide +kernel
theorem dX5_bits_17 : decode cX5_bits 17 = .ok (.goto (-13), 3) := by decide +kernel
theorem dX5_bits_20 : decode cX5_bits 20 = .ok (.iload_n 1, 1) := by decide +kernel
theorem dX5_bits_21 : decode cX5_bits 21 = .ok (.ireturn, 1) := by decide +kernel
theorem dX5_tellOf_0 : decode cX5_tellOf 0 = .ok (.iconst 0, 1) := by decide +kernel
theorem dX5_tellOf_1 : decode cX5_tellOf 1 = .ok (.istore_n 2, 1) := by decide +kernel
theorem dX5_tellOf_2 : decode cX5_tellOf 2 = .ok (.iconst 0, 1) := by decide +kernel
theorem dX5_tellOf_3 : decode cX5_tellOf 3 = .ok (.istore_n 3, 1) := by decide +kernel
theorem dX5_tellOf_4 : decode cX5_tellOf 4 = .ok (.iload_n 3, 1) := by decide +kernel
theorem dX5_tellOf_5 : decode cX5_tellOf 5 = .ok (.aload_n 0, 1) := by decide +kernel
theorem dX5_tellOf_6 : decode cX5_tellOf 6 = .ok (.getfield 7, 3) := by decide +kernel
theorem dX5_tellOf_9 : decode cX5_tellOf 9 = .ok (.iconst 0, 1) := by decide +kernel
theorem dX5_tellOf_10 : decode cX5_tellOf 10 = .ok (.iaload, 1) := by decide +kernel
theorem dX5_tellOf_11 : decode cX5_tellOf 11 = .ok (.if_icmp .ge 31, 3) := by decide +kernel
theorem dX5_tellOf_14 : decode cX5_tellOf 14 = .ok (.iload_n 2, 1) := by decide +kernel
theorem dX5_tellOf_15 : decode cX5_tellOf 15 = .ok (.iload_n 1, 1) := by decide +kernel
theorem dX5_tellOf_16 : decode cX5_tellOf 16 = .ok (.iload_n 3, 1) := by decide +kernel
theorem dX5_tellOf_17 : decode cX5_tellOf 17 = .ok (.ishr, 1) := by decide +kernel
theorem dX5_tellOf_18 : decode cX5_tellOf 18 = .ok (.iconst 1, 1) := by decide +kernel
theorem dX5_tellOf_19 : decode cX5_tellOf 19 = .ok (.iand, 1) := by decide +kernel
theorem dX5_tellOf_20 : decode cX5_tellOf 20 = .ok (.iconst 1, 1) := by decide +kernel
theorem dX5_tellOf_21 : decode cX5_tellOf 21 = .ok (.if_icmp .ne 12, 3) := by decide +kernel
theorem dX5_tellOf_24 : decode cX5_tellOf 24 = .ok (.aload_n 0, 1) := by decide +kernel
theorem dX5_tellOf_25 : decode cX5_tellOf 25 = .ok (.getfield 37, 3) := by decide +kernel
theorem dX5_tellOf_28 : decode cX5_tellOf 28 = .ok (.iload_n 3, 1) := by decide +kernel
theorem dX5_tellOf_29 : decode cX5_tellOf 29 = .ok (.iaload, 1) := by decide +kernel
theorem dX5_tellOf_30 : decode cX5_tellOf 30 = .ok (.goto 4, 3) := by decide +kernel
theorem dX5_tellOf_33 : decode cX5_tellOf 33 = .ok (.iconst 0, 1) := by decide +kernel
theorem dX5_tellOf_34 : decode cX5_tellOf 34 = .ok (.iadd, 1) := by decide +kernel
theorem dX5_tellOf_35 : decode cX5_tellOf 35 = .ok (.istore_n 2, 1) := by decide +kernel
theorem dX5_tellOf_36 : decode cX5_tellOf 36 = .ok (.iinc 3 1, 3) := by decide +kernel
theorem dX5_tellOf_39 : decode cX5_tellOf 39 = .ok (.goto (-35), 3) := by decide +kernel
theorem dX5_tellOf_42 : decode cX5_tellOf 42 = .ok (.iload_n 2, 1) := by decide +kernel
theorem dX5_tellOf_43 : decode cX5_tellOf 43 = .ok (.ireturn, 1) := by decide +kernel
theorem dX5_layValues_0 : decode cX5_layValues 0 = .ok (.iconst 0, 1) := by decide +kernel
theorem dX5_layValues_1 : decode cX5_layValues 1 = .ok (.istore_n 1, 1) := by decide +kernel
theorem dX5_layValues_2 : decode cX5_layValues 2 = .ok (.iload_n 1, 1) := by decide +kernel
theorem dX5_layValues_3 : decode cX5_layValues 3 = .ok (.aload_n 0, 1) := by decide +kernel
theorem dX5_layValues_4 : decode cX5_layValues 4 = .ok (.getfield 7, 3) := by decide +kernel
theorem dX5_layValues_7 : decode cX5_layValues 7 = .ok (.iconst 0, 1) := by decide +kernel
theorem dX5_layValues_8 : decode cX5_layValues 8 = .ok (.iaload, 1) := by decide +kernel
theorem dX5_layValues_9 : decode cX5_layValues 9 = .ok (.if_icmp .ge 20, 3) := by decide +kernel
theorem dX5_layValues_12 : decode cX5_layValues 12 = .ok (.aload_n 0, 1) := by decide +kernel
theorem dX5_layValues_13 : decode cX5_layValues 13 = .ok (.getfield 37, 3) := by decide +kernel
theorem dX5_layValues_16 : decode cX5_layValues 16 = .ok (.iload_n 1, 1) := by decide +kernel
theorem dX5_layValues_17 : decode cX5_layValues 17 = .ok (.aload_n 0, 1) := by decide +kernel
theorem dX5_layValues_18 : decode cX5_layValues 18 = .ok (.iload_n 1, 1) := by decide +kernel
theorem dX5_layValues_19 : decode cX5_layValues 19 = .ok (.invokevirtual 146, 3) := by decide +kernel
theorem dX5_layValues_22 : decode cX5_layValues 22 = .ok (.iastore, 1) := by decide +kernel
theorem dX5_layValues_23 : decode cX5_layValues 23 = .ok (.iinc 1 1, 3) := by decide +kernel
theorem dX5_layValues_26 : decode cX5_layValues 26 = .ok (.goto (-24), 3) := by decide +kernel
theorem dX5_layValues_29 : decode cX5_layValues 29 = .ok (.return_, 1) := by decide +kernel
theorem dX5_share_0 : decode cX5_share 0 = .ok (.aload_n 0, 1) := by decide +kernel
theorem dX5_share_1 : decode cX5_share 1 = .ok (.iload_n 1, 1) := by decide +kernel
theorem dX5_share_2 : decode cX5_share 2 = .ok (.invokevirtual 183, 3) := by decide +kernel
theorem dX5_share_5 : decode cX5_share 5 = .ok (.ifCond .ne 8, 3) := by decide +kernel
theorem dX5_share_8 : decode cX5_share 8 = .ok (.iload_n 1, 1) := by decide +kernel
theorem dX5_share_9 : decode cX5_share 9 = .ok (.iconst 5, 1) := by decide +kernel
theorem dX5_share_10 : decode cX5_share 10 = .ok (.if_icmp .ne 10, 3) := by decide +kernel
theorem dX5_share_13 : decode cX5_share 13 = .ok (.iload_n 2, 1) := by decide +kernel
theorem dX5_share_14 : decode cX5_share 14 = .ok (.invokestatic 230, 3) := by decide +kernel
theorem dX5_share_17 : decode cX5_share 17 = .ok (.ifCond .ne 5, 3) := by decide +kernel
theorem dX5_share_20 : decode cX5_share 20 = .ok (.iconst (-1), 1) := by decide +kernel
theorem dX5_share_21 : decode cX5_share 21 = .ok (.ireturn, 1) := by decide +kernel
theorem dX5_share_22 : decode cX5_share 22 = .ok (.aload_n 0, 1) := by decide +kernel
theorem dX5_share_23 : decode cX5_share 23 = .ok (.invokevirtual 235, 3) := by decide +kernel
theorem dX5_share_26 : decode cX5_share 26 = .ok (.iconst 0, 1) := by decide +kernel
theorem dX5_share_27 : decode cX5_share 27 = .ok (.istore_n 3, 1) := by decide +kernel
theorem dX5_share_28 : decode cX5_share 28 = .ok (.iconst 0, 1) := by decide +kernel
theorem dX5_share_29 : decode cX5_share 29 = .ok (.istore 4, 2) := by decide +kernel
theorem dX5_share_31 : decode cX5_share 31 = .ok (.iload 4, 2) := by decide +kernel
theorem dX5_share_33 : decode cX5_share 33 = .ok (.aload_n 0, 1) := by decide +kernel
theorem dX5_share_34 : decode cX5_share 34 = .ok (.getfield 7, 3) := by decide +kernel
theorem dX5_share_37 : decode cX5_share 37 = .ok (.iconst 0, 1) := by decide +kernel
theorem dX5_share_38 : decode cX5_share 38 = .ok (.iaload, 1) := by decide +kernel
theorem dX5_share_39 : decode cX5_share 39 = .ok (.if_icmp .ge 41, 3) := by decide +kernel
theorem dX5_share_42 : decode cX5_share 42 = .ok (.aload_n 0, 1) := by decide +kernel
theorem dX5_share_43 : decode cX5_share 43 = .ok (.iload 4, 2) := by decide +kernel
theorem dX5_share_45 : decode cX5_share 45 = .ok (.iload_n 1, 1) := by decide +kernel
theorem dX5_share_46 : decode cX5_share 46 = .ok (.invokevirtual 173, 3) := by decide +kernel
theorem dX5_share_49 : decode cX5_share 49 = .ok (.ifCond .eq 25, 3) := by decide +kernel
theorem dX5_share_52 : decode cX5_share 52 = .ok (.aload_n 0, 1) := by decide +kernel
theorem dX5_share_53 : decode cX5_share 53 = .ok (.getfield 37, 3) := by decide +kernel
theorem dX5_share_56 : decode cX5_share 56 = .ok (.iload 4, 2) := by decide +kernel
theorem dX5_share_58 : decode cX5_share 58 = .ok (.iaload, 1) := by decide +kernel
theorem dX5_share_59 : decode cX5_share 59 = .ok (.bipush (-4), 2) := by decide +kernel
theorem dX5_share_61 : decode cX5_share 61 = .ok (.if_icmp .ne 6, 3) := by decide +kernel
theorem dX5_share_64 : decode cX5_share 64 = .ok (.bipush (-4), 2) := by decide +kernel
theorem dX5_share_66 : decode cX5_share 66 = .ok (.ireturn, 1) := by decide +kernel
theorem dX5_share_67 : decode cX5_share 67 = .ok (.iload_n 3, 1) := by decide +kernel
theorem dX5_share_68 : decode cX5_share 68 = .ok (.iconst 1, 1) := by decide +kernel
theorem dX5_share_69 : decode cX5_share 69 = .ok (.iload 4, 2) := by decide +kernel
theorem dX5_share_71 : decode cX5_share 71 = .ok (.ishl, 1) := by decide +kernel
theorem dX5_share_72 : decode cX5_share 72 = .ok (.ior, 1) := by decide +kernel
theorem dX5_share_73 : decode cX5_share 73 = .ok (.istore_n 3, 1) := by decide +kernel
theorem dX5_share_74 : decode cX5_share 74 = .ok (.iinc 4 1, 3) := by decide +kernel
theorem dX5_share_77 : decode cX5_share 77 = .ok (.goto (-46), 3) := by decide +kernel
theorem dX5_share_80 : decode cX5_share 80 = .ok (.aload_n 0, 1) := by decide +kernel
theorem dX5_share_81 : decode cX5_share 81 = .ok (.iload_n 3, 1) := by decide +kernel
theorem dX5_share_82 : decode cX5_share 82 = .ok (.invokevirtual 238, 3) := by decide +kernel
theorem dX5_share_85 : decode cX5_share 85 = .ok (.istore 4, 2) := by decide +kernel
theorem dX5_share_87 : decode cX5_share 87 = .ok (.iconst 0, 1) := by decide +kernel
theorem dX5_share_88 : decode cX5_share 88 = .ok (.istore 5, 2) := by decide +kernel
theorem dX5_share_90 : decode cX5_share 90 = .ok (.ldc 226, 2) := by decide +kernel
theorem dX5_share_92 : decode cX5_share 92 = .ok (.istore 6, 2) := by decide +kernel
theorem dX5_share_94 : decode cX5_share 94 = .ok (.iconst 0, 1) := by decide +kernel
theorem dX5_share_95 : decode cX5_share 95 = .ok (.istore 7, 2) := by decide +kernel
theorem dX5_share_97 : decode cX5_share 97 = .ok (.iload 7, 2) := by decide +kernel
theorem dX5_share_99 : decode cX5_share 99 = .ok (.iload_n 3, 1) := by decide +kernel
theorem dX5_share_100 : decode cX5_share 100 = .ok (.if_icmp .gt 66, 3) := by decide +kernel
theorem dX5_share_103 : decode cX5_share 103 = .ok (.iload 7, 2) := by decide +kernel
theorem dX5_share_105 : decode cX5_share 105 = .ok (.iload_n 3, 1) := by decide +kernel
theorem dX5_share_106 : decode cX5_share 106 = .ok (.iconst (-1), 1) := by decide +kernel
theorem dX5_share_107 : decode cX5_share 107 = .ok (.ixor, 1) := by decide +kernel
theorem dX5_share_108 : decode cX5_share 108 = .ok (.iand, 1) := by decide +kernel
theorem dX5_share_109 : decode cX5_share 109 = .ok (.ifCond .ne 51, 3) := by decide +kernel
theorem dX5_share_112 : decode cX5_share 112 = .ok (.iload 4, 2) := by decide +kernel
theorem dX5_share_114 : decode cX5_share 114 = .ok (.iconst 2, 1) := by decide +kernel
theorem dX5_share_115 : decode cX5_share 115 = .ok (.aload_n 0, 1) := by decide +kernel
theorem dX5_share_116 : decode cX5_share 116 = .ok (.iload 7, 2) := by decide +kernel
theorem dX5_share_118 : decode cX5_share 118 = .ok (.invokevirtual 238, 3) := by decide +kernel
theorem dX5_share_121 : decode cX5_share 121 = .ok (.imul, 1) := by decide +kernel
theorem dX5_share_122 : decode cX5_share 122 = .ok (.isub, 1) := by decide +kernel
theorem dX5_share_123 : decode cX5_share 123 = .ok (.invokestatic 227, 3) := by decide +kernel
theorem dX5_share_126 : decode cX5_share 126 = .ok (.istore 8, 2) := by decide +kernel
theorem dX5_share_128 : decode cX5_share 128 = .ok (.iload 8, 2) := by decide +kernel
theorem dX5_share_130 : decode cX5_share 130 = .ok (.iload 6, 2) := by decide +kernel
theorem dX5_share_132 : decode cX5_share 132 = .ok (.if_icmp .ge 8, 3) := by decide +kernel
theorem dX5_share_135 : decode cX5_share 135 = .ok (.iload 7, 2) := by decide +kernel
theorem dX5_share_137 : decode cX5_share 137 = .ok (.goto 5, 3) := by decide +kernel
theorem dX5_share_140 : decode cX5_share 140 = .ok (.iload 5, 2) := by decide +kernel
theorem dX5_share_142 : decode cX5_share 142 = .ok (.istore 5, 2) := by decide +kernel
theorem dX5_share_144 : decode cX5_share 144 = .ok (.iload 8, 2) := by decide +kernel
theorem dX5_share_146 : decode cX5_share 146 = .ok (.iload 6, 2) := by decide +kernel
theorem dX5_share_148 : decode cX5_share 148 = .ok (.if_icmp .ge 8, 3) := by decide +kernel
theorem dX5_share_151 : decode cX5_share 151 = .ok (.iload 8, 2) := by decide +kernel
theorem dX5_share_153 : decode cX5_share 153 = .ok (.goto 5, 3) := by decide +kernel
theorem dX5_share_156 : decode cX5_share 156 = .ok (.iload 6, 2) := by decide +kernel
theorem dX5_share_158 : decode cX5_share 158 = .ok (.istore 6, 2) := by decide +kernel
theorem dX5_share_160 : decode cX5_share 160 = .ok (.iinc 7 1, 3) := by decide +kernel
theorem dX5_share_163 : decode cX5_share 163 = .ok (.goto (-66), 3) := by decide +kernel
theorem dX5_share_166 : decode cX5_share 166 = .ok (.iload_n 2, 1) := by decide +kernel
theorem dX5_share_167 : decode cX5_share 167 = .ok (.ifCond .ne 8, 3) := by decide +kernel
theorem dX5_share_170 : decode cX5_share 170 = .ok (.iload 5, 2) := by decide +kernel
theorem dX5_share_172 : decode cX5_share 172 = .ok (.goto 5, 3) := by decide +kernel
theorem dX5_share_175 : decode cX5_share 175 = .ok (.iload 6, 2) := by decide +kernel
theorem dX5_share_177 : decode cX5_share 177 = .ok (.ireturn, 1) := by decide +kernel
theorem dX5_make_0 : decode cX5_make 0 = .ok (.iload_n 1, 1) := by decide +kernel
theorem dX5_make_1 : decode cX5_make 1 = .ok (.i2l, 1) := by decide +kernel
theorem dX5_make_2 : decode cX5_make 2 = .ok (.lconst 0, 1) := by decide +kernel
theorem dX5_make_3 : decode cX5_make 3 = .ok (.ldc2_w 213, 3) := by decide +kernel
theorem dX5_make_6 : decode cX5_make 6 = .ok (.invokestatic 54, 3) := by decide +kernel
theorem dX5_make_9 : decode cX5_make 9 = .ok (.ifCond .ne 5, 3) := by decide +kernel
theorem dX5_make_12 : decode cX5_make 12 = .ok (.iconst (-1), 1) := by decide +kernel
theorem dX5_make_13 : decode cX5_make 13 = .ok (.ireturn, 1) := by decide +kernel
theorem dX5_make_14 : decode cX5_make 14 = .ok (.aload_n 0, 1) := by decide +kernel
theorem dX5_make_15 : decode cX5_make 15 = .ok (.invokevirtual 235, 3) := by decide +kernel
theorem dX5_make_18 : decode cX5_make 18 = .ok (.iconst 0, 1) := by decide +kernel
theorem dX5_make_19 : decode cX5_make 19 = .ok (.istore_n 2, 1) := by decide +kernel
theorem dX5_make_20 : decode cX5_make 20 = .ok (.iconst 0, 1) := by decide +kernel
theorem dX5_make_21 : decode cX5_make 21 = .ok (.istore_n 3, 1) := by decide +kernel
theorem dX5_make_22 : decode cX5_make 22 = .ok (.iload_n 3, 1) := by decide +kernel
theorem dX5_make_23 : decode cX5_make 23 = .ok (.aload_n 0, 1) := by decide +kernel
theorem dX5_make_24 : decode cX5_make 24 = .ok (.getfield 7, 3) := by decide +kernel
theorem dX5_make_27 : decode cX5_make 27 = .ok (.iconst 0, 1) := by decide +kernel
theorem dX5_make_28 : decode cX5_make 28 = .ok (.iaload, 1) := by decide +kernel
theorem dX5_make_29 : decode cX5_make 29 = .ok (.if_icmp .ge 38, 3) := by decide +kernel
theorem dX5_make_32 : decode cX5_make 32 = .ok (.iload_n 2, 1) := by decide +kernel
theorem dX5_make_33 : decode cX5_make 33 = .ok (.aload_n 0, 1) := by decide +kernel
theorem dX5_make_34 : decode cX5_make 34 = .ok (.iload_n 3, 1) := by decide +kernel
theorem dX5_make_35 : decode cX5_make 35 = .ok (.invokevirtual 170, 3) := by decide +kernel
theorem dX5_make_38 : decode cX5_make 38 = .ok (.ifCond .eq 20, 3) := by decide +kernel
theorem dX5_make_41 : decode cX5_make 41 = .ok (.aload_n 0, 1) := by decide +kernel
theorem dX5_make_42 : decode cX5_make 42 = .ok (.getfield 37, 3) := by decide +kernel
theorem dX5_make_45 : decode cX5_make 45 = .ok (.iload_n 3, 1) := by decide +kernel
theorem dX5_make_46 : decode cX5_make 46 = .ok (.iaload, 1) := by decide +kernel
theorem dX5_make_47 : decode cX5_make 47 = .ok (.bipush (-4), 2) := by decide +kernel
theorem dX5_make_49 : decode cX5_make 49 = .ok (.if_icmp .eq 9, 3) := by decide +kernel
theorem dX5_make_52 : decode cX5_make 52 = .ok (.iconst 1, 1) := by decide +kernel
theorem dX5_make_53 : decode cX5_make 53 = .ok (.iload_n 3, 1) := by decide +kernel
theorem dX5_make_54 : decode cX5_make 54 = .ok (.ishl, 1) := by decide +kernel
theorem dX5_make_55 : decode cX5_make 55 = .ok (.goto 4, 3) := by decide +kernel
theorem dX5_make_58 : decode cX5_make 58 = .ok (.iconst 0, 1) := by decide +kernel
theorem dX5_make_59 : decode cX5_make 59 = .ok (.ior, 1) := by decide +kernel
theorem dX5_make_60 : decode cX5_make 60 = .ok (.istore_n 2, 1) := by decide +kernel
theorem dX5_make_61 : decode cX5_make 61 = .ok (.iinc 3 1, 3) := by decide +kernel
theorem dX5_make_64 : decode cX5_make 64 = .ok (.goto (-42), 3) := by decide +kernel
theorem dX5_make_67 : decode cX5_make 67 = .ok (.bipush (-4), 2) := by decide +kernel
theorem dX5_make_69 : decode cX5_make 69 = .ok (.istore_n 3, 1) := by decide +kernel
theorem dX5_make_70 : decode cX5_make 70 = .ok (.iconst 0, 1) := by decide +kernel
theorem dX5_make_71 : decode cX5_make 71 = .ok (.istore 4, 2) := by decide +kernel
theorem dX5_make_73 : decode cX5_make 73 = .ok (.iload 4, 2) := by decide +kernel
theorem dX5_make_75 : decode cX5_make 75 = .ok (.iload_n 2, 1) := by decide +kernel
theorem dX5_make_76 : decode cX5_make 76 = .ok (.if_icmp .gt 65, 3) := by decide +kernel
theorem dX5_make_79 : decode cX5_make 79 = .ok (.iload 4, 2) := by decide +kernel
theorem dX5_make_81 : decode cX5_make 81 = .ok (.iload_n 2, 1) := by decide +kernel
theorem dX5_make_82 : decode cX5_make 82 = .ok (.iconst (-1), 1) := by decide +kernel
theorem dX5_make_83 : decode cX5_make 83 = .ok (.ixor, 1) := by decide +kernel
theorem dX5_make_84 : decode cX5_make 84 = .ok (.iand, 1) := by decide +kernel
theorem dX5_make_85 : decode cX5_make 85 = .ok (.ifCond .ne 25, 3) := by decide +kernel
theorem dX5_make_88 : decode cX5_make 88 = .ok (.iload_n 3, 1) := by decide +kernel
theorem dX5_make_89 : decode cX5_make 89 = .ok (.bipush (-4), 2) := by decide +kernel
theorem dX5_make_91 : decode cX5_make 91 = .ok (.if_icmp .eq 15, 3) := by decide +kernel
theorem dX5_make_94 : decode cX5_make 94 = .ok (.iload 4, 2) := by decide +kernel
theorem dX5_make_96 : decode cX5_make 96 = .ok (.invokestatic 241, 3) := by decide +kernel
theorem dX5_make_99 : decode cX5_make 99 = .ok (.iload_n 3, 1) := by decide +kernel
theorem dX5_make_100 : decode cX5_make 100 = .ok (.invokestatic 241, 3) := by decide +kernel
theorem dX5_make_103 : decode cX5_make 103 = .ok (.if_icmp .ge 7, 3) := by decide +kernel
theorem dX5_make_106 : decode cX5_make 106 = .ok (.iconst 1, 1) := by decide +kernel
theorem dX5_make_107 : decode cX5_make 107 = .ok (.goto 4, 3) := by decide +kernel
theorem dX5_make_110 : decode cX5_make 110 = .ok (.iconst 0, 1) := by decide +kernel
theorem dX5_make_111 : decode cX5_make 111 = .ok (.istore 5, 2) := by decide +kernel
theorem dX5_make_113 : decode cX5_make 113 = .ok (.iload 5, 2) := by decide +kernel
theorem dX5_make_115 : decode cX5_make 115 = .ok (.ifCond .eq 18, 3) := by decide +kernel
theorem dX5_make_118 : decode cX5_make 118 = .ok (.aload_n 0, 1) := by decide +kernel
theorem dX5_make_119 : decode cX5_make 119 = .ok (.iload 4, 2) := by decide +kernel
theorem dX5_make_121 : decode cX5_make 121 = .ok (.invokevirtual 238, 3) := by decide +kernel
theorem dX5_make_124 : decode cX5_make 124 = .ok (.iload_n 1, 1) := by decide +kernel
theorem dX5_make_125 : decode cX5_make 125 = .ok (.if_icmp .ne 8, 3) := by decide +kernel
theorem dX5_make_128 : decode cX5_make 128 = .ok (.iload 4, 2) := by decide +kernel
theorem dX5_make_130 : decode cX5_make 130 = .ok (.goto 4, 3) := by decide +kernel
theorem dX5_make_133 : decode cX5_make 133 = .ok (.iload_n 3, 1) := by decide +kernel
theorem dX5_make_134 : decode cX5_make 134 = .ok (.istore_n 3, 1) := by decide +kernel
theorem dX5_make_135 : decode cX5_make 135 = .ok (.iinc 4 1, 3) := by decide +kernel
theorem dX5_make_138 : decode cX5_make 138 = .ok (.goto (-65), 3) := by decide +kernel
theorem dX5_make_141 : decode cX5_make 141 = .ok (.iload_n 3, 1) := by decide +kernel
theorem dX5_make_142 : decode cX5_make 142 = .ok (.ireturn, 1) := by decide +kernel
theorem dX5_colours_0 : decode cX5_colours 0 = .ok (.iload_n 1, 1) := by decide +kernel
theorem dX5_colours_1 : decode cX5_colours 1 = .ok (.i2l, 1) := by decide +kernel
theorem dX5_colours_2 : decode cX5_colours 2 = .ok (.lconst 0, 1) := by decide +kernel
theorem dX5_colours_3 : decode cX5_colours 3 = .ok (.ldc2_w 215, 3) := by decide +kernel
theorem dX5_colours_6 : decode cX5_colours 6 = .ok (.invokestatic 54, 3) := by decide +kernel
theorem dX5_colours_9 : decode cX5_colours 9 = .ok (.ifCond .eq 10, 3) := by decide +kernel
theorem dX5_colours_12 : decode cX5_colours 12 = .ok (.iload_n 2, 1) := by decide +kernel
theorem dX5_colours_13 : decode cX5_colours 13 = .ok (.invokestatic 230, 3) := by decide +kernel
theorem dX5_colours_16 : decode cX5_colours 16 = .ok (.ifCond .ne 5, 3) := by decide +kernel
theorem dX5_colours_19 : decode cX5_colours 19 = .ok (.iconst (-1), 1) := by decide +kernel
theorem dX5_colours_20 : decode cX5_colours 20 = .ok (.ireturn, 1) := by decide +kernel
theorem dX5_colours_21 : decode cX5_colours 21 = .ok (.iconst 0, 1) := by decide +kernel
theorem dX5_colours_22 : decode cX5_colours 22 = .ok (.istore_n 3, 1) := by decide +kernel
theorem dX5_colours_23 : decode cX5_colours 23 = .ok (.iconst 0, 1) := by decide +kernel
theorem dX5_colours_24 : decode cX5_colours 24 = .ok (.istore 4, 2) := by decide +kernel
theorem dX5_colours_26 : decode cX5_colours 26 = .ok (.iconst 0, 1) := by decide +kernel
theorem dX5_colours_27 : decode cX5_colours 27 = .ok (.istore 5, 2) := by decide +kernel
theorem dX5_colours_29 : decode cX5_colours 29 = .ok (.iload 5, 2) := by decide +kernel
theorem dX5_colours_31 : decode cX5_colours 31 = .ok (.aload_n 0, 1) := by decide +kernel
theorem dX5_colours_32 : decode cX5_colours 32 = .ok (.getfield 7, 3) := by decide +kernel
theorem dX5_colours_35 : decode cX5_colours 35 = .ok (.iconst 0, 1) := by decide +kernel
theorem dX5_colours_36 : decode cX5_colours 36 = .ok (.iaload, 1) := by decide +kernel
theorem dX5_colours_37 : decode cX5_colours 37 = .ok (.if_icmp .ge 49, 3) := by decide +kernel
theorem dX5_colours_40 : decode cX5_colours 40 = .ok (.aload_n 0, 1) := by decide +kernel
theorem dX5_colours_41 : decode cX5_colours 41 = .ok (.getfield 7, 3) := by decide +kernel
theorem dX5_colours_44 : decode cX5_colours 44 = .ok (.iconst 2, 1) := by decide +kernel
theorem dX5_colours_45 : decode cX5_colours 45 = .ok (.iload 5, 2) := by decide +kernel
theorem dX5_colours_47 : decode cX5_colours 47 = .ok (.iadd, 1) := by decide +kernel
theorem dX5_colours_48 : decode cX5_colours 48 = .ok (.iaload, 1) := by decide +kernel
theorem dX5_colours_49 : decode cX5_colours 49 = .ok (.iload_n 1, 1) := by decide +kernel
theorem dX5_colours_50 : decode cX5_colours 50 = .ok (.if_icmp .ne 30, 3) := by decide +kernel
theorem dX5_colours_53 : decode cX5_colours 53 = .ok (.iload_n 3, 1) := by decide +kernel
theorem dX5_colours_54 : decode cX5_colours 54 = .ok (.aload_n 0, 1) := by decide +kernel
theorem dX5_colours_55 : decode cX5_colours 55 = .ok (.iload 5, 2) := by decide +kernel
theorem dX5_colours_57 : decode cX5_colours 57 = .ok (.invokevirtual 146, 3) := by decide +kernel
theorem dX5_colours_60 : decode cX5_colours 60 = .ok (.bipush (-4), 2) := by decide +kernel
theorem dX5_colours_62 : decode cX5_colours 62 = .ok (.if_icmp .ne 7, 3) := by decide +kernel
theorem dX5_colours_65 : decode cX5_colours 65 = .ok (.iconst 0, 1) := by decide +kernel
theorem dX5_colours_66 : decode cX5_colours 66 = .ok (.goto 9, 3) := by decide +kernel
theorem dX5_colours_69 : decode cX5_colours 69 = .ok (.aload_n 0, 1) := by decide +kernel
theorem dX5_colours_70 : decode cX5_colours 70 = .ok (.iload 5, 2) := by decide +kernel
theorem dX5_colours_72 : decode cX5_colours 72 = .ok (.invokevirtual 146, 3) := by decide +kernel
theorem dX5_colours_75 : decode cX5_colours 75 = .ok (.iadd, 1) := by decide +kernel
theorem dX5_colours_76 : decode cX5_colours 76 = .ok (.istore_n 3, 1) := by decide +kernel
theorem dX5_colours_77 : decode cX5_colours 77 = .ok (.iinc 4 1, 3) := by decide +kernel
theorem dX5_colours_80 : decode cX5_colours 80 = .ok (.iinc 5 1, 3) := by decide +kernel
theorem dX5_colours_83 : decode cX5_colours 83 = .ok (.goto (-54), 3) := by decide +kernel
theorem dX5_colours_86 : decode cX5_colours 86 = .ok (.iload_n 2, 1) := by decide +kernel
theorem dX5_colours_87 : decode cX5_colours 87 = .ok (.ifCond .ne 7, 3) := by decide +kernel
theorem dX5_colours_90 : decode cX5_colours 90 = .ok (.iload_n 3, 1) := by decide +kernel
theorem dX5_colours_91 : decode cX5_colours 91 = .ok (.goto 5, 3) := by decide +kernel
theorem dX5_colours_94 : decode cX5_colours 94 = .ok (.iload 4, 2) := by decide +kernel
theorem dX5_colours_96 : decode cX5_colours 96 = .ok (.ireturn, 1) := by decide +kernel
theorem dX5_path_0 : decode cX5_path 0 = .ok (.iload_n 1, 1) := by decide +kernel
theorem dX5_path_1 : decode cX5_path 1 = .ok (.i2l, 1) := by decide +kernel
theorem dX5_path_2 : decode cX5_path 2 = .ok (.lconst 0, 1) := by decide +kernel
theorem dX5_path_3 : decode cX5_path 3 = .ok (.ldc2_w 215, 3) := by decide +kernel
theorem dX5_path_6 : decode cX5_path 6 = .ok (.invokestatic 54, 3) := by decide +kernel
theorem dX5_path_9 : decode cX5_path 9 = .ok (.ifCond .eq 15, 3) := by decide +kernel
theorem dX5_path_12 : decode cX5_path 12 = .ok (.iload_n 2, 1) := by decide +kernel
theorem dX5_path_13 : decode cX5_path 13 = .ok (.i2l, 1) := by decide +kernel
theorem dX5_path_14 : decode cX5_path 14 = .ok (.lconst 0, 1) := by decide +kernel
theorem dX5_path_15 : decode cX5_path 15 = .ok (.ldc2_w 215, 3) := by decide +kernel
theorem dX5_path_18 : decode cX5_path 18 = .ok (.invokestatic 54, 3) := by decide +kernel
theorem dX5_path_21 : decode cX5_path 21 = .ok (.ifCond .ne 5, 3) := by decide +kernel
theorem dX5_path_24 : decode cX5_path 24 = .ok (.iconst (-1), 1) := by decide +kernel
theorem dX5_path_25 : decode cX5_path 25 = .ok (.ireturn, 1) := by decide +kernel
theorem dX5_path_26 : decode cX5_path 26 = .ok (.iconst 0, 1) := by decide +kernel
theorem dX5_path_27 : decode cX5_path 27 = .ok (.istore_n 3, 1) := by decide +kernel
theorem dX5_path_28 : decode cX5_path 28 = .ok (.iconst 0, 1) := by decide +kernel
theorem dX5_path_29 : decode cX5_path 29 = .ok (.istore 4, 2) := by decide +kernel
theorem dX5_path_31 : decode cX5_path 31 = .ok (.iload 4, 2) := by decide +kernel
theorem dX5_path_33 : decode cX5_path 33 = .ok (.aload_n 0, 1) := by decide +kernel
theorem dX5_path_34 : decode cX5_path 34 = .ok (.getfield 7, 3) := by decide +kernel
theorem dX5_path_37 : decode cX5_path 37 = .ok (.iconst 0, 1) := by decide +kernel
theorem dX5_path_38 : decode cX5_path 38 = .ok (.iaload, 1) := by decide +kernel
theorem dX5_path_39 : decode cX5_path 39 = .ok (.if_icmp .ge 88, 3) := by decide +kernel
theorem dX5_path_42 : decode cX5_path 42 = .ok (.aload_n 0, 1) := by decide +kernel
theorem dX5_path_43 : decode cX5_path 43 = .ok (.getfield 7, 3) := by decide +kernel
theorem dX5_path_46 : decode cX5_path 46 = .ok (.iconst 2, 1) := by decide +kernel
theorem dX5_path_47 : decode cX5_path 47 = .ok (.iload 4, 2) := by decide +kernel
theorem dX5_path_49 : decode cX5_path 49 = .ok (.iadd, 1) := by decide +kernel
theorem dX5_path_50 : decode cX5_path 50 = .ok (.iaload, 1) := by decide +kernel
theorem dX5_path_51 : decode cX5_path 51 = .ok (.iload_n 2, 1) := by decide +kernel
theorem dX5_path_52 : decode cX5_path 52 = .ok (.if_icmp .ne 37, 3) := by decide +kernel
theorem dX5_path_55 : decode cX5_path 55 = .ok (.aload_n 0, 1) := by decide +kernel
theorem dX5_path_56 : decode cX5_path 56 = .ok (.iload 4, 2) := by decide +kernel
theorem dX5_path_58 : decode cX5_path 58 = .ok (.invokevirtual 131, 3) := by decide +kernel
theorem dX5_path_61 : decode cX5_path 61 = .ok (.ifCond .ne 28, 3) := by decide +kernel
theorem dX5_path_64 : decode cX5_path 64 = .ok (.aload_n 0, 1) := by decide +kernel
theorem dX5_path_65 : decode cX5_path 65 = .ok (.getfield 7, 3) := by decide +kernel
theorem dX5_path_68 : decode cX5_path 68 = .ok (.iconst 2, 1) := by decide +kernel
theorem dX5_path_69 : decode cX5_path 69 = .ok (.aload_n 0, 1) := by decide +kernel
theorem dX5_path_70 : decode cX5_path 70 = .ok (.getfield 7, 3) := by decide +kernel
theorem dX5_path_73 : decode cX5_path 73 = .ok (.bipush 98, 2) := by decide +kernel
theorem dX5_path_75 : decode cX5_path 75 = .ok (.iload 4, 2) := by decide +kernel
theorem dX5_path_77 : decode cX5_path 77 = .ok (.iadd, 1) := by decide +kernel
theorem dX5_path_78 : decode cX5_path 78 = .ok (.iaload, 1) := by decide +kernel
theorem dX5_path_79 : decode cX5_path 79 = .ok (.iadd, 1) := by decide +kernel
theorem dX5_path_80 : decode cX5_path 80 = .ok (.iaload, 1) := by decide +kernel
theorem dX5_path_81 : decode cX5_path 81 = .ok (.iload_n 1, 1) := by decide +kernel
theorem dX5_path_82 : decode cX5_path 82 = .ok (.if_icmp .ne 7, 3) := by decide +kernel
theorem dX5_path_85 : decode cX5_path 85 = .ok (.iconst 1, 1) := by decide +kernel
theorem dX5_path_86 : decode cX5_path 86 = .ok (.goto 4, 3) := by decide +kernel
theorem dX5_path_89 : decode cX5_path 89 = .ok (.iconst 0, 1) := by decide +kernel
theorem dX5_path_90 : decode cX5_path 90 = .ok (.istore 5, 2) := by decide +kernel
theorem dX5_path_92 : decode cX5_path 92 = .ok (.iload_n 3, 1) := by decide +kernel
theorem dX5_path_93 : decode cX5_path 93 = .ok (.iload 5, 2) := by decide +kernel
theorem dX5_path_95 : decode cX5_path 95 = .ok (.ifCond .eq 23, 3) := by decide +kernel
theorem dX5_path_98 : decode cX5_path 98 = .ok (.aload_n 0, 1) := by decide +kernel
theorem dX5_path_99 : decode cX5_path 99 = .ok (.iload 4, 2) := by decide +kernel
theorem dX5_path_101 : decode cX5_path 101 = .ok (.invokevirtual 146, 3) := by decide +kernel
theorem dX5_path_104 : decode cX5_path 104 = .ok (.bipush (-4), 2) := by decide +kernel
theorem dX5_path_106 : decode cX5_path 106 = .ok (.if_icmp .eq 12, 3) := by decide +kernel
theorem dX5_path_109 : decode cX5_path 109 = .ok (.aload_n 0, 1) := by decide +kernel
theorem dX5_path_110 : decode cX5_path 110 = .ok (.iload 4, 2) := by decide +kernel
theorem dX5_path_112 : decode cX5_path 112 = .ok (.invokevirtual 146, 3) := by decide +kernel
theorem dX5_path_115 : decode cX5_path 115 = .ok (.goto 4, 3) := by decide +kernel
theorem dX5_path_118 : decode cX5_path 118 = .ok (.iconst 0, 1) := by decide +kernel
theorem dX5_path_119 : decode cX5_path 119 = .ok (.iadd, 1) := by decide +kernel
theorem dX5_path_120 : decode cX5_path 120 = .ok (.istore_n 3, 1) := by decide +kernel
theorem dX5_path_121 : decode cX5_path 121 = .ok (.iinc 4 1, 3) := by decide +kernel
theorem dX5_path_124 : decode cX5_path 124 = .ok (.goto (-93), 3) := by decide +kernel
theorem dX5_path_127 : decode cX5_path 127 = .ok (.iload_n 3, 1) := by decide +kernel
theorem dX5_path_128 : decode cX5_path 128 = .ok (.ireturn, 1) := by decide +kernel
theorem dX5_hangingAt_0 : decode cX5_hangingAt 0 = .ok (.iconst (-1), 1) := by decide +kernel
theorem dX5_hangingAt_1 : decode cX5_hangingAt 1 = .ok (.istore_n 3, 1) := by decide +kernel
theorem dX5_hangingAt_2 : decode cX5_hangingAt 2 = .ok (.iconst 0, 1) := by decide +kernel
theorem dX5_hangingAt_3 : decode cX5_hangingAt 3 = .ok (.istore 4, 2) := by decide +kernel
theorem dX5_hangingAt_5 : decode cX5_hangingAt 5 = .ok (.iconst 0, 1) := by decide +kernel
theorem dX5_hangingAt_6 : decode cX5_hangingAt 6 = .ok (.istore 5, 2) := by decide +kernel
theorem dX5_hangingAt_8 : decode cX5_hangingAt 8 = .ok (.iload 5, 2) := by decide +kernel
theorem dX5_hangingAt_10 : decode cX5_hangingAt 10 = .ok (.aload_n 0, 1) := by decide +kernel
theorem dX5_hangingAt_11 : decode cX5_hangingAt 11 = .ok (.getfield 7, 3) := by decide +kernel
theorem dX5_hangingAt_14 : decode cX5_hangingAt 14 = .ok (.iconst 0, 1) := by decide +kernel
theorem dX5_hangingAt_15 : decode cX5_hangingAt 15 = .ok (.iaload, 1) := by decide +kernel
theorem dX5_hangingAt_16 : decode cX5_hangingAt 16 = .ok (.if_icmp .ge 39, 3) := by decide +kernel
theorem dX5_hangingAt_19 : decode cX5_hangingAt 19 = .ok (.aload_n 0, 1) := by decide +kernel
theorem dX5_hangingAt_20 : decode cX5_hangingAt 20 = .ok (.getfield 7, 3) := by decide +kernel
theorem dX5_hangingAt_23 : decode cX5_hangingAt 23 = .ok (.bipush 98, 2) := by decide +kernel
theorem dX5_hangingAt_25 : decode cX5_hangingAt 25 = .ok (.iload 5, 2) := by decide +kernel
theorem dX5_hangingAt_27 : decode cX5_hangingAt 27 = .ok (.iadd, 1) := by decide +kernel
theorem dX5_hangingAt_28 : decode cX5_hangingAt 28 = .ok (.iaload, 1) := by decide +kernel
theorem dX5_hangingAt_29 : decode cX5_hangingAt 29 = .ok (.iload_n 1, 1) := by decide +kernel
theorem dX5_hangingAt_30 : decode cX5_hangingAt 30 = .ok (.if_icmp .ne 19, 3) := by decide +kernel
theorem dX5_hangingAt_33 : decode cX5_hangingAt 33 = .ok (.iload 4, 2) := by decide +kernel
theorem dX5_hangingAt_35 : decode cX5_hangingAt 35 = .ok (.iload_n 2, 1) := by decide +kernel
theorem dX5_hangingAt_36 : decode cX5_hangingAt 36 = .ok (.if_icmp .ne 8, 3) := by decide +kernel
theorem dX5_hangingAt_39 : decode cX5_hangingAt 39 = .ok (.iload 5, 2) := by decide +kernel
theorem dX5_hangingAt_41 : decode cX5_hangingAt 41 = .ok (.goto 4, 3) := by decide +kernel
theorem dX5_hangingAt_44 : decode cX5_hangingAt 44 = .ok (.iload_n 3, 1) := by decide +kernel
theorem dX5_hangingAt_45 : decode cX5_hangingAt 45 = .ok (.istore_n 3, 1) := by decide +kernel
theorem dX5_hangingAt_46 : decode cX5_hangingAt 46 = .ok (.iinc 4 1, 3) := by decide +kernel
theorem dX5_hangingAt_49 : decode cX5_hangingAt 49 = .ok (.iinc 5 1, 3) := by decide +kernel
theorem dX5_hangingAt_52 : decode cX5_hangingAt 52 = .ok (.goto (-44), 3) := by decide +kernel
theorem dX5_hangingAt_55 : decode cX5_hangingAt 55 = .ok (.iload_n 3, 1) := by decide +kernel
theorem dX5_hangingAt_56 : decode cX5_hangingAt 56 = .ok (.ireturn, 1) := by decide +kernel
theorem dX5_areAlike_0 : decode cX5_areAlike 0 = .ok (.aload_n 0, 1) := by decide +kernel
theorem dX5_areAlike_1 : decode cX5_areAlike 1 = .ok (.getfield 7, 3) := by decide +kernel
theorem dX5_areAlike_4 : decode cX5_areAlike 4 = .ok (.iconst 2, 1) := by decide +kernel
theorem dX5_areAlike_5 : decode cX5_areAlike 5 = .ok (.iload_n 1, 1) := by decide +kernel
theorem dX5_areAlike_6 : decode cX5_areAlike 6 = .ok (.iadd, 1) := by decide +kernel
theorem dX5_areAlike_7 : decode cX5_areAlike 7 = .ok (.iaload, 1) := by decide +kernel
theorem dX5_areAlike_8 : decode cX5_areAlike 8 = .ok (.aload_n 0, 1) := by decide +kernel
theorem dX5_areAlike_9 : decode cX5_areAlike 9 = .ok (.getfield 7, 3) := by decide +kernel
theorem dX5_areAlike_12 : decode cX5_areAlike 12 = .ok (.iconst 2, 1) := by decide +kernel
theorem dX5_areAlike_13 : decode cX5_areAlike 13 = .ok (.iload_n 2, 1) := by decide +kernel
theorem dX5_areAlike_14 : decode cX5_areAlike 14 = .ok (.iadd, 1) := by decide +kernel
theorem dX5_areAlike_15 : decode cX5_areAlike 15 = .ok (.iaload, 1) := by decide +kernel
theorem dX5_areAlike_16 : decode cX5_areAlike 16 = .ok (.if_icmp .ne 41, 3) := by decide +kernel
theorem dX5_areAlike_19 : decode cX5_areAlike 19 = .ok (.aload_n 0, 1) := by decide +kernel
theorem dX5_areAlike_20 : decode cX5_areAlike 20 = .ok (.getfield 7, 3) := by decide +kernel
theorem dX5_areAlike_23 : decode cX5_areAlike 23 = .ok (.bipush 18, 2) := by decide +kernel
theorem dX5_areAlike_25 : decode cX5_areAlike 25 = .ok (.iload_n 1, 1) := by decide +kernel
theorem dX5_areAlike_26 : decode cX5_areAlike 26 = .ok (.iadd, 1) := by decide +kernel
theorem dX5_areAlike_27 : decode cX5_areAlike 27 = .ok (.iaload, 1) := by decide +kernel
theorem dX5_areAlike_28 : decode cX5_areAlike 28 = .ok (.aload_n 0, 1) := by decide +kernel
theorem dX5_areAlike_29 : decode cX5_areAlike 29 = .ok (.getfield 7, 3) := by decide +kernel
theorem dX5_areAlike_32 : decode cX5_areAlike 32 = .ok (.bipush 18, 2) := by decide +kernel
theorem dX5_areAlike_34 : decode cX5_areAlike 34 = .ok (.iload_n 2, 1) := by decide +kernel
theorem dX5_areAlike_35 : decode cX5_areAlike 35 = .ok (.iadd, 1) := by decide +kernel
theorem dX5_areAlike_36 : decode cX5_areAlike 36 = .ok (.iaload, 1) := by decide +kernel
theorem dX5_areAlike_37 : decode cX5_areAlike 37 = .ok (.if_icmp .ne 20, 3) := by decide +kernel
theorem dX5_areAlike_40 : decode cX5_areAlike 40 = .ok (.aload_n 0, 1) := by decide +kernel
theorem dX5_areAlike_41 : decode cX5_areAlike 41 = .ok (.iload_n 1, 1) := by decide +kernel
theorem dX5_areAlike_42 : decode cX5_areAlike 42 = .ok (.invokevirtual 162, 3) := by decide +kernel
theorem dX5_areAlike_45 : decode cX5_areAlike 45 = .ok (.aload_n 0, 1) := by decide +kernel
theorem dX5_areAlike_46 : decode cX5_areAlike 46 = .ok (.iload_n 2, 1) := by decide +kernel
theorem dX5_areAlike_47 : decode cX5_areAlike 47 = .ok (.invokevirtual 162, 3) := by decide +kernel
theorem dX5_areAlike_50 : decode cX5_areAlike 50 = .ok (.if_icmp .ne 7, 3) := by decide +kernel
theorem dX5_areAlike_53 : decode cX5_areAlike 53 = .ok (.iconst 1, 1) := by decide +kernel
theorem dX5_areAlike_54 : decode cX5_areAlike 54 = .ok (.goto 4, 3) := by decide +kernel
theorem dX5_areAlike_57 : decode cX5_areAlike 57 = .ok (.iconst 0, 1) := by decide +kernel
theorem dX5_areAlike_58 : decode cX5_areAlike 58 = .ok (.istore_n 3, 1) := by decide +kernel
theorem dX5_areAlike_59 : decode cX5_areAlike 59 = .ok (.iconst 0, 1) := by decide +kernel
theorem dX5_areAlike_60 : decode cX5_areAlike 60 = .ok (.istore 4, 2) := by decide +kernel
theorem dX5_areAlike_62 : decode cX5_areAlike 62 = .ok (.iload 4, 2) := by decide +kernel
theorem dX5_areAlike_64 : decode cX5_areAlike 64 = .ok (.aload_n 0, 1) := by decide +kernel
theorem dX5_areAlike_65 : decode cX5_areAlike 65 = .ok (.getfield 7, 3) := by decide +kernel
theorem dX5_areAlike_68 : decode cX5_areAlike 68 = .ok (.bipush 18, 2) := by decide +kernel
theorem dX5_areAlike_70 : decode cX5_areAlike 70 = .ok (.iload_n 1, 1) := by decide +kernel
theorem dX5_areAlike_71 : decode cX5_areAlike 71 = .ok (.iadd, 1) := by decide +kernel
theorem dX5_areAlike_72 : decode cX5_areAlike 72 = .ok (.iaload, 1) := by decide +kernel
theorem dX5_areAlike_73 : decode cX5_areAlike 73 = .ok (.if_icmp .ge 36, 3) := by decide +kernel
theorem dX5_areAlike_76 : decode cX5_areAlike 76 = .ok (.iload_n 3, 1) := by decide +kernel
theorem dX5_areAlike_77 : decode cX5_areAlike 77 = .ok (.ifCond .eq 24, 3) := by decide +kernel
theorem dX5_areAlike_80 : decode cX5_areAlike 80 = .ok (.aload_n 0, 1) := by decide +kernel
theorem dX5_areAlike_81 : decode cX5_areAlike 81 = .ok (.iload_n 1, 1) := by decide +kernel
theorem dX5_areAlike_82 : decode cX5_areAlike 82 = .ok (.iload 4, 2) := by decide +kernel
theorem dX5_areAlike_84 : decode cX5_areAlike 84 = .ok (.invokevirtual 134, 3) := by decide +kernel
theorem dX5_areAlike_87 : decode cX5_areAlike 87 = .ok (.aload_n 0, 1) := by decide +kernel
theorem dX5_areAlike_88 : decode cX5_areAlike 88 = .ok (.iload_n 2, 1) := by decide +kernel
theorem dX5_areAlike_89 : decode cX5_areAlike 89 = .ok (.iload 4, 2) := by decide +kernel
theorem dX5_areAlike_91 : decode cX5_areAlike 91 = .ok (.invokevirtual 134, 3) := by decide +kernel
theorem dX5_areAlike_94 : decode cX5_areAlike 94 = .ok (.if_icmp .ne 7, 3) := by decide +kernel
theorem dX5_areAlike_97 : decode cX5_areAlike 97 = .ok (.iconst 1, 1) := by decide +kernel
theorem dX5_areAlike_98 : decode cX5_areAlike 98 = .ok (.goto 4, 3) := by decide +kernel
theorem dX5_areAlike_101 : decode cX5_areAlike 101 = .ok (.iconst 0, 1) := by decide +kernel
theorem dX5_areAlike_102 : decode cX5_areAlike 102 = .ok (.istore_n 3, 1) := by decide +kernel
theorem dX5_areAlike_103 : decode cX5_areAlike 103 = .ok (.iinc 4 1, 3) := by decide +kernel
theorem dX5_areAlike_106 : decode cX5_areAlike 106 = .ok (.goto (-44), 3) := by decide +kernel
theorem dX5_areAlike_109 : decode cX5_areAlike 109 = .ok (.iload_n 3, 1) := by decide +kernel
theorem dX5_areAlike_110 : decode cX5_areAlike 110 = .ok (.ireturn, 1) := by decide +kernel
theorem dX5_areAlikeBelow_0 : decode cX5_areAlikeBelow 0 = .ok (.aload_n 0, 1) := by decide +kernel
theorem dX5_areAlikeBelow_1 : decode cX5_areAlikeBelow 1 = .ok (.iload_n 1, 1) := by decide +kernel
theorem dX5_areAlikeBelow_2 : decode cX5_areAlikeBelow 2 = .ok (.iload_n 2, 1) := by decide +kernel
theorem dX5_areAlikeBelow_3 : decode cX5_areAlikeBelow 3 = .ok (.invokevirtual 244, 3) := by decide +kernel
theorem dX5_areAlikeBelow_6 : decode cX5_areAlikeBelow 6 = .ok (.istore_n 3, 1) := by decide +kernel
theorem dX5_areAlikeBelow_7 : decode cX5_areAlikeBelow 7 = .ok (.iconst 0, 1) := by decide +kernel
theorem dX5_areAlikeBelow_8 : decode cX5_areAlikeBelow 8 = .ok (.istore 4, 2) := by decide +kernel
theorem dX5_areAlikeBelow_10 : decode cX5_areAlikeBelow 10 = .ok (.iload_n 3, 1) := by decide +kernel
theorem dX5_areAlikeBelow_11 : decode cX5_areAlikeBelow 11 = .ok (.ifCond .eq 38, 3) := by decide +kernel
theorem dX5_areAlikeBelow_14 : decode cX5_areAlikeBelow 14 = .ok (.iload 4, 2) := by decide +kernel
theorem dX5_areAlikeBelow_16 : decode cX5_areAlikeBelow 16 = .ok (.aload_n 0, 1) := by decide +kernel
theorem dX5_areAlikeBelow_17 : decode cX5_areAlikeBelow 17 = .ok (.iload_n 1, 1) := by decide +kernel
theorem dX5_areAlikeBelow_18 : decode cX5_areAlikeBelow 18 = .ok (.invokevirtual 162, 3) := by decide +kernel
theorem dX5_areAlikeBelow_21 : decode cX5_areAlikeBelow 21 = .ok (.if_icmp .ge 28, 3) := by decide +kernel
theorem dX5_areAlikeBelow_24 : decode cX5_areAlikeBelow 24 = .ok (.aload_n 0, 1) := by decide +kernel
theorem dX5_areAlikeBelow_25 : decode cX5_areAlikeBelow 25 = .ok (.aload_n 0, 1) := by decide +kernel
theorem dX5_areAlikeBelow_26 : decode cX5_areAlikeBelow 26 = .ok (.iload_n 1, 1) := by decide +kernel
theorem dX5_areAlikeBelow_27 : decode cX5_areAlikeBelow 27 = .ok (.iload 4, 2) := by decide +kernel
theorem dX5_areAlikeBelow_29 : decode cX5_areAlikeBelow 29 = .ok (.invokevirtual 247, 3) := by decide +kernel
theorem dX5_areAlikeBelow_32 : decode cX5_areAlikeBelow 32 = .ok (.aload_n 0, 1) := by decide +kernel
theorem dX5_areAlikeBelow_33 : decode cX5_areAlikeBelow 33 = .ok (.iload_n 2, 1) := by decide +kernel
theorem dX5_areAlikeBelow_34 : decode cX5_areAlikeBelow 34 = .ok (.iload 4, 2) := by decide +kernel
theorem dX5_areAlikeBelow_36 : decode cX5_areAlikeBelow 36 = .ok (.invokevirtual 247, 3) := by decide +kernel
theorem dX5_areAlikeBelow_39 : decode cX5_areAlikeBelow 39 = .ok (.invokevirtual 244, 3) := by decide +kernel
theorem dX5_areAlikeBelow_42 : decode cX5_areAlikeBelow 42 = .ok (.istore_n 3, 1) := by decide +kernel
theorem dX5_areAlikeBelow_43 : decode cX5_areAlikeBelow 43 = .ok (.iinc 4 1, 3) := by decide +kernel
theorem dX5_areAlikeBelow_46 : decode cX5_areAlikeBelow 46 = .ok (.goto (-36), 3) := by decide +kernel
theorem dX5_areAlikeBelow_49 : decode cX5_areAlikeBelow 49 = .ok (.iload_n 3, 1) := by decide +kernel
theorem dX5_areAlikeBelow_50 : decode cX5_areAlikeBelow 50 = .ok (.ireturn, 1) := by decide +kernel
theorem dX5_same_0 : decode cX5_same 0 = .ok (.aload_n 0, 1) := by decide +kernel
theorem dX5_same_1 : decode cX5_same 1 = .ok (.iload_n 1, 1) := by decide +kernel
theorem dX5_same_2 : decode cX5_same 2 = .ok (.invokevirtual 156, 3) := by decide +kernel
theorem dX5_same_5 : decode cX5_same 5 = .ok (.ifCond .eq 16, 3) := by decide +kernel
theorem dX5_same_8 : decode cX5_same 8 = .ok (.aload_n 0, 1) := by decide +kernel
theorem dX5_same_9 : decode cX5_same 9 = .ok (.iload_n 2, 1) := by decide +kernel
theorem dX5_same_10 : decode cX5_same 10 = .ok (.invokevirtual 156, 3) := by decide +kernel
theorem dX5_same_13 : decode cX5_same 13 = .ok (.ifCond .eq 8, 3) := by decide +kernel
theorem dX5_same_16 : decode cX5_same 16 = .ok (.iload_n 1, 1) := by decide +kernel
theorem dX5_same_17 : decode cX5_same 17 = .ok (.iload_n 2, 1) := by decide +kernel
theorem dX5_same_18 : decode cX5_same 18 = .ok (.if_icmp .ne 5, 3) := by decide +kernel
theorem dX5_same_21 : decode cX5_same 21 = .ok (.iconst (-1), 1) := by decide +kernel
theorem dX5_same_22 : decode cX5_same 22 = .ok (.ireturn, 1) := by decide +kernel
theorem dX5_same_23 : decode cX5_same 23 = .ok (.aload_n 0, 1) := by decide +kernel
theorem dX5_same_24 : decode cX5_same 24 = .ok (.iload_n 1, 1) := by decide +kernel
theorem dX5_same_25 : decode cX5_same 25 = .ok (.iload_n 2, 1) := by decide +kernel
theorem dX5_same_26 : decode cX5_same 26 = .ok (.invokevirtual 244, 3) := by decide +kernel
theorem dX5_same_29 : decode cX5_same 29 = .ok (.istore_n 3, 1) := by decide +kernel
theorem dX5_same_30 : decode cX5_same 30 = .ok (.iconst 0, 1) := by decide +kernel
theorem dX5_same_31 : decode cX5_same 31 = .ok (.istore 4, 2) := by decide +kernel
theorem dX5_same_33 : decode cX5_same 33 = .ok (.iload_n 3, 1) := by decide +kernel
theorem dX5_same_34 : decode cX5_same 34 = .ok (.ifCond .eq 38, 3) := by decide +kernel
theorem dX5_same_37 : decode cX5_same 37 = .ok (.iload 4, 2) := by decide +kernel
theorem dX5_same_39 : decode cX5_same 39 = .ok (.aload_n 0, 1) := by decide +kernel
theorem dX5_same_40 : decode cX5_same 40 = .ok (.iload_n 1, 1) := by decide +kernel
theorem dX5_same_41 : decode cX5_same 41 = .ok (.invokevirtual 162, 3) := by decide +kernel
theorem dX5_same_44 : decode cX5_same 44 = .ok (.if_icmp .ge 28, 3) := by decide +kernel
theorem dX5_same_47 : decode cX5_same 47 = .ok (.aload_n 0, 1) := by decide +kernel
theorem dX5_same_48 : decode cX5_same 48 = .ok (.aload_n 0, 1) := by decide +kernel
theorem dX5_same_49 : decode cX5_same 49 = .ok (.iload_n 1, 1) := by decide +kernel
theorem dX5_same_50 : decode cX5_same 50 = .ok (.iload 4, 2) := by decide +kernel
theorem dX5_same_52 : decode cX5_same 52 = .ok (.invokevirtual 247, 3) := by decide +kernel
theorem dX5_same_55 : decode cX5_same 55 = .ok (.aload_n 0, 1) := by decide +kernel
theorem dX5_same_56 : decode cX5_same 56 = .ok (.iload_n 2, 1) := by decide +kernel
theorem dX5_same_57 : decode cX5_same 57 = .ok (.iload 4, 2) := by decide +kernel
theorem dX5_same_59 : decode cX5_same 59 = .ok (.invokevirtual 247, 3) := by decide +kernel
theorem dX5_same_62 : decode cX5_same 62 = .ok (.invokevirtual 250, 3) := by decide +kernel
theorem dX5_same_65 : decode cX5_same 65 = .ok (.istore_n 3, 1) := by decide +kernel
theorem dX5_same_66 : decode cX5_same 66 = .ok (.iinc 4 1, 3) := by decide +kernel
theorem dX5_same_69 : decode cX5_same 69 = .ok (.goto (-36), 3) := by decide +kernel
theorem dX5_same_72 : decode cX5_same 72 = .ok (.iload_n 3, 1) := by decide +kernel
theorem dX5_same_73 : decode cX5_same 73 = .ok (.ifCond .eq 7, 3) := by decide +kernel
theorem dX5_same_76 : decode cX5_same 76 = .ok (.iconst 1, 1) := by decide +kernel
theorem dX5_same_77 : decode cX5_same 77 = .ok (.goto 4, 3) := by decide +kernel
theorem dX5_same_80 : decode cX5_same 80 = .ok (.iconst 0, 1) := by decide +kernel
theorem dX5_same_81 : decode cX5_same 81 = .ok (.ireturn, 1) := by decide +kernel
theorem dX5_year_0 : decode cX5_year 0 = .ok (.iload_n 1, 1) := by decide +kernel
theorem dX5_year_1 : decode cX5_year 1 = .ok (.i2l, 1) := by decide +kernel
theorem dX5_year_2 : decode cX5_year 2 = .ok (.lconst 0, 1) := by decide +kernel
theorem dX5_year_3 : decode cX5_year 3 = .ok (.ldc2_w 213, 3) := by decide +kernel
theorem dX5_year_6 : decode cX5_year 6 = .ok (.invokestatic 54, 3) := by decide +kernel
theorem dX5_year_9 : decode cX5_year 9 = .ok (.ifCond .eq 10, 3) := by decide +kernel
theorem dX5_year_12 : decode cX5_year 12 = .ok (.iload_n 2, 1) := by decide +kernel
theorem dX5_year_13 : decode cX5_year 13 = .ok (.invokestatic 230, 3) := by decide +kernel
theorem dX5_year_16 : decode cX5_year 16 = .ok (.ifCond .ne 5, 3) := by decide +kernel
theorem dX5_year_19 : decode cX5_year 19 = .ok (.iconst (-1), 1) := by decide +kernel
theorem dX5_year_20 : decode cX5_year 20 = .ok (.ireturn, 1) := by decide +kernel
theorem dX5_year_21 : decode cX5_year 21 = .ok (.iconst 0, 1) := by decide +kernel
theorem dX5_year_22 : decode cX5_year 22 = .ok (.istore_n 3, 1) := by decide +kernel
theorem dX5_year_23 : decode cX5_year 23 = .ok (.iconst 0, 1) := by decide +kernel
theorem dX5_year_24 : decode cX5_year 24 = .ok (.istore 4, 2) := by decide +kernel
theorem dX5_year_26 : decode cX5_year 26 = .ok (.iconst 0, 1) := by decide +kernel
theorem dX5_year_27 : decode cX5_year 27 = .ok (.istore 5, 2) := by decide +kernel
theorem dX5_year_29 : decode cX5_year 29 = .ok (.iload 5, 2) := by decide +kernel
theorem dX5_year_31 : decode cX5_year 31 = .ok (.aload_n 0, 1) := by decide +kernel
theorem dX5_year_32 : decode cX5_year 32 = .ok (.getfield 7, 3) := by decide +kernel
theorem dX5_year_35 : decode cX5_year 35 = .ok (.iconst 0, 1) := by decide +kernel
theorem dX5_year_36 : decode cX5_year 36 = .ok (.iaload, 1) := by decide +kernel
theorem dX5_year_37 : decode cX5_year 37 = .ok (.if_icmp .ge 139, 3) := by decide +kernel
theorem dX5_year_40 : decode cX5_year 40 = .ok (.aload_n 0, 1) := by decide +kernel
theorem dX5_year_41 : decode cX5_year 41 = .ok (.iload 5, 2) := by decide +kernel
theorem dX5_year_43 : decode cX5_year 43 = .ok (.invokevirtual 170, 3) := by decide +kernel
theorem dX5_year_46 : decode cX5_year 46 = .ok (.ifCond .eq 124, 3) := by decide +kernel
theorem dX5_year_49 : decode cX5_year 49 = .ok (.aload_n 0, 1) := by decide +kernel
theorem dX5_year_50 : decode cX5_year 50 = .ok (.iload 5, 2) := by decide +kernel
theorem dX5_year_52 : decode cX5_year 52 = .ok (.invokevirtual 146, 3) := by decide +kernel
theorem dX5_year_55 : decode cX5_year 55 = .ok (.bipush (-4), 2) := by decide +kernel
theorem dX5_year_57 : decode cX5_year 57 = .ok (.if_icmp .eq 113, 3) := by decide +kernel
theorem dX5_year_60 : decode cX5_year 60 = .ok (.ldc2_w 253, 3) := by decide +kernel
theorem dX5_year_63 : decode cX5_year 63 = .ok (.iload_n 1, 1) := by decide +kernel
theorem dX5_year_64 : decode cX5_year 64 = .ok (.i2l, 1) := by decide +kernel
theorem dX5_year_65 : decode cX5_year 65 = .ok (.lmul, 1) := by decide +kernel
theorem dX5_year_66 : decode cX5_year 66 = .ok (.ldc2_w 255, 3) := by decide +kernel
theorem dX5_year_69 : decode cX5_year 69 = .ok (.iload 5, 2) := by decide +kernel
theorem dX5_year_71 : decode cX5_year 71 = .ok (.i2l, 1) := by decide +kernel
theorem dX5_year_72 : decode cX5_year 72 = .ok (.lmul, 1) := by decide +kernel
theorem dX5_year_73 : decode cX5_year 73 = .ok (.ladd, 1) := by decide +kernel
theorem dX5_year_74 : decode cX5_year 74 = .ok (.lconst 1, 1) := by decide +kernel
theorem dX5_year_75 : decode cX5_year 75 = .ok (.ladd, 1) := by decide +kernel
theorem dX5_year_76 : decode cX5_year 76 = .ok (.lstore 6, 2) := by decide +kernel
theorem dX5_year_78 : decode cX5_year 78 = .ok (.lload 6, 2) := by decide +kernel
theorem dX5_year_80 : decode cX5_year 80 = .ok (.lload 6, 2) := by decide +kernel
theorem dX5_year_82 : decode cX5_year 82 = .ok (.lmul, 1) := by decide +kernel
theorem dX5_year_83 : decode cX5_year 83 = .ok (.ldc2_w 257, 3) := by decide +kernel
theorem dX5_year_86 : decode cX5_year 86 = .ok (.lrem, 1) := by decide +kernel
theorem dX5_year_87 : decode cX5_year 87 = .ok (.l2i, 1) := by decide +kernel
theorem dX5_year_88 : decode cX5_year 88 = .ok (.bipush 8, 2) := by decide +kernel
theorem dX5_year_90 : decode cX5_year 90 = .ok (.idiv, 1) := by decide +kernel
theorem dX5_year_91 : decode cX5_year 91 = .ok (.istore 8, 2) := by decide +kernel
theorem dX5_year_93 : decode cX5_year 93 = .ok (.aload_n 0, 1) := by decide +kernel
theorem dX5_year_94 : decode cX5_year 94 = .ok (.getfield 7, 3) := by decide +kernel
theorem dX5_year_97 : decode cX5_year 97 = .ok (.bipush 18, 2) := by decide +kernel
theorem dX5_year_99 : decode cX5_year 99 = .ok (.iload 5, 2) := by decide +kernel
theorem dX5_year_101 : decode cX5_year 101 = .ok (.iadd, 1) := by decide +kernel
theorem dX5_year_102 : decode cX5_year 102 = .ok (.iaload, 1) := by decide +kernel
theorem dX5_year_103 : decode cX5_year 103 = .ok (.invokestatic 201, 3) := by decide +kernel
theorem dX5_year_106 : decode cX5_year 106 = .ok (.iconst 1, 1) := by decide +kernel
theorem dX5_year_107 : decode cX5_year 107 = .ok (.isub, 1) := by decide +kernel
theorem dX5_year_108 : decode cX5_year 108 = .ok (.istore 9, 2) := by decide +kernel
theorem dX5_year_110 : decode cX5_year 110 = .ok (.aload_n 0, 1) := by decide +kernel
theorem dX5_year_111 : decode cX5_year 111 = .ok (.iload 5, 2) := by decide +kernel
theorem dX5_year_113 : decode cX5_year 113 = .ok (.invokevirtual 146, 3) := by decide +kernel
theorem dX5_year_116 : decode cX5_year 116 = .ok (.iload 8, 2) := by decide +kernel
theorem dX5_year_118 : decode cX5_year 118 = .ok (.bipush 21, 2) := by decide +kernel
theorem dX5_year_120 : decode cX5_year 120 = .ok (.irem, 1) := by decide +kernel
theorem dX5_year_121 : decode cX5_year 121 = .ok (.iadd, 1) := by decide +kernel
theorem dX5_year_122 : decode cX5_year 122 = .ok (.bipush 10, 2) := by decide +kernel
theorem dX5_year_124 : decode cX5_year 124 = .ok (.isub, 1) := by decide +kernel
theorem dX5_year_125 : decode cX5_year 125 = .ok (.istore 10, 2) := by decide +kernel
theorem dX5_year_127 : decode cX5_year 127 = .ok (.iload 10, 2) := by decide +kernel
theorem dX5_year_129 : decode cX5_year 129 = .ok (.ifCond .ge 7, 3) := by decide +kernel
theorem dX5_year_132 : decode cX5_year 132 = .ok (.iconst 0, 1) := by decide +kernel
theorem dX5_year_133 : decode cX5_year 133 = .ok (.goto 17, 3) := by decide +kernel
theorem dX5_year_136 : decode cX5_year 136 = .ok (.iload 10, 2) := by decide +kernel
theorem dX5_year_138 : decode cX5_year 138 = .ok (.iload 9, 2) := by decide +kernel
theorem dX5_year_140 : decode cX5_year 140 = .ok (.if_icmp .le 8, 3) := by decide +kernel
theorem dX5_year_143 : decode cX5_year 143 = .ok (.iload 9, 2) := by decide +kernel
theorem dX5_year_145 : decode cX5_year 145 = .ok (.goto 5, 3) := by decide +kernel
theorem dX5_year_148 : decode cX5_year 148 = .ok (.iload 10, 2) := by decide +kernel
theorem dX5_year_150 : decode cX5_year 150 = .ok (.istore 10, 2) := by decide +kernel
theorem dX5_year_152 : decode cX5_year 152 = .ok (.iload_n 3, 1) := by decide +kernel
theorem dX5_year_153 : decode cX5_year 153 = .ok (.aload_n 0, 1) := by decide +kernel
theorem dX5_year_154 : decode cX5_year 154 = .ok (.iload 5, 2) := by decide +kernel
theorem dX5_year_156 : decode cX5_year 156 = .ok (.iload 10, 2) := by decide +kernel
theorem dX5_year_158 : decode cX5_year 158 = .ok (.invokevirtual 204, 3) := by decide +kernel
theorem dX5_year_161 : decode cX5_year 161 = .ok (.iadd, 1) := by decide +kernel
theorem dX5_year_162 : decode cX5_year 162 = .ok (.istore_n 3, 1) := by decide +kernel
theorem dX5_year_163 : decode cX5_year 163 = .ok (.iload 4, 2) := by decide +kernel
theorem dX5_year_165 : decode cX5_year 165 = .ok (.iload 10, 2) := by decide +kernel
theorem dX5_year_167 : decode cX5_year 167 = .ok (.iadd, 1) := by decide +kernel
theorem dX5_year_168 : decode cX5_year 168 = .ok (.istore 4, 2) := by decide +kernel
theorem dX5_year_170 : decode cX5_year 170 = .ok (.iinc 5 1, 3) := by decide +kernel
theorem dX5_year_173 : decode cX5_year 173 = .ok (.goto (-144), 3) := by decide +kernel
theorem dX5_year_176 : decode cX5_year 176 = .ok (.iload_n 2, 1) := by decide +kernel
theorem dX5_year_177 : decode cX5_year 177 = .ok (.ifCond .ne 7, 3) := by decide +kernel
theorem dX5_year_180 : decode cX5_year 180 = .ok (.iload_n 3, 1) := by decide +kernel
theorem dX5_year_181 : decode cX5_year 181 = .ok (.goto 5, 3) := by decide +kernel
theorem dX5_year_184 : decode cX5_year 184 = .ok (.iload 4, 2) := by decide +kernel
theorem dX5_year_186 : decode cX5_year 186 = .ok (.ireturn, 1) := by decide +kernel
theorem dX5_keep_0 : decode cX5_keep 0 = .ok (.aload_n 0, 1) := by decide +kernel
theorem dX5_keep_1 : decode cX5_keep 1 = .ok (.getfield 125, 3) := by decide +kernel
theorem dX5_keep_4 : decode cX5_keep 4 = .ok (.iconst 2, 1) := by decide +kernel
theorem dX5_keep_5 : decode cX5_keep 5 = .ok (.if_icmp .ne 6, 3) := by decide +kernel
theorem dX5_keep_8 : decode cX5_keep 8 = .ok (.bipush (-3), 2) := by decide +kernel
theorem dX5_keep_10 : decode cX5_keep 10 = .ok (.ireturn, 1) := by decide +kernel
theorem dX5_keep_11 : decode cX5_keep 11 = .ok (.aload_n 0, 1) := by decide +kernel
theorem dX5_keep_12 : decode cX5_keep 12 = .ok (.getfield 7, 3) := by decide +kernel
theorem dX5_keep_15 : decode cX5_keep 15 = .ok (.iconst 0, 1) := by decide +kernel
theorem dX5_keep_16 : decode cX5_keep 16 = .ok (.aload_n 0, 1) := by decide +kernel
theorem dX5_keep_17 : decode cX5_keep 17 = .ok (.getfield 16, 3) := by decide +kernel
theorem dX5_keep_20 : decode cX5_keep 20 = .ok (.sipush 162, 3) := by decide +kernel
theorem dX5_keep_23 : decode cX5_keep 23 = .ok (.aload_n 0, 1) := by decide +kernel
theorem dX5_keep_24 : decode cX5_keep 24 = .ok (.getfield 125, 3) := by decide +kernel
theorem dX5_keep_27 : decode cX5_keep 27 = .ok (.imul, 1) := by decide +kernel
theorem dX5_keep_28 : decode cX5_keep 28 = .ok (.invokestatic 118, 3) := by decide +kernel
theorem dX5_keep_31 : decode cX5_keep 31 = .ok (.aload_n 0, 1) := by decide +kernel
theorem dX5_keep_32 : decode cX5_keep 32 = .ok (.dup, 1) := by decide +kernel
theorem dX5_keep_33 : decode cX5_keep 33 = .ok (.getfield 125, 3) := by decide +kernel
theorem dX5_keep_36 : decode cX5_keep 36 = .ok (.iconst 1, 1) := by decide +kernel
theorem dX5_keep_37 : decode cX5_keep 37 = .ok (.iadd, 1) := by decide +kernel
theorem dX5_keep_38 : decode cX5_keep 38 = .ok (.putfield 125, 3) := by decide +kernel
theorem dX5_keep_41 : decode cX5_keep 41 = .ok (.aload_n 0, 1) := by decide +kernel
theorem dX5_keep_42 : decode cX5_keep 42 = .ok (.getfield 125, 3) := by decide +kernel
theorem dX5_keep_45 : decode cX5_keep 45 = .ok (.ireturn, 1) := by decide +kernel
theorem dX5_back_0 : decode cX5_back 0 = .ok (.aload_n 0, 1) := by decide +kernel
theorem dX5_back_1 : decode cX5_back 1 = .ok (.getfield 125, 3) := by decide +kernel
theorem dX5_back_4 : decode cX5_back 4 = .ok (.ifCond .ne 6, 3) := by decide +kernel
theorem dX5_back_7 : decode cX5_back 7 = .ok (.bipush (-2), 2) := by decide +kernel
theorem dX5_back_9 : decode cX5_back 9 = .ok (.ireturn, 1) := by decide +kernel
theorem dX5_back_10 : decode cX5_back 10 = .ok (.aload_n 0, 1) := by decide +kernel
theorem dX5_back_11 : decode cX5_back 11 = .ok (.dup, 1) := by decide +kernel
theorem dX5_back_12 : decode cX5_back 12 = .ok (.getfield 125, 3) := by decide +kernel
theorem dX5_back_15 : decode cX5_back 15 = .ok (.iconst 1, 1) := by decide +kernel
theorem dX5_back_16 : decode cX5_back 16 = .ok (.isub, 1) := by decide +kernel
theorem dX5_back_17 : decode cX5_back 17 = .ok (.putfield 125, 3) := by decide +kernel
theorem dX5_back_20 : decode cX5_back 20 = .ok (.aload_n 0, 1) := by decide +kernel
theorem dX5_back_21 : decode cX5_back 21 = .ok (.getfield 16, 3) := by decide +kernel
theorem dX5_back_24 : decode cX5_back 24 = .ok (.sipush 162, 3) := by decide +kernel
theorem dX5_back_27 : decode cX5_back 27 = .ok (.aload_n 0, 1) := by decide +kernel
theorem dX5_back_28 : decode cX5_back 28 = .ok (.getfield 125, 3) := by decide +kernel
theorem dX5_back_31 : decode cX5_back 31 = .ok (.imul, 1) := by decide +kernel
theorem dX5_back_32 : decode cX5_back 32 = .ok (.aload_n 0, 1) := by decide +kernel
theorem dX5_back_33 : decode cX5_back 33 = .ok (.getfield 7, 3) := by decide +kernel
theorem dX5_back_36 : decode cX5_back 36 = .ok (.iconst 0, 1) := by decide +kernel
theorem dX5_back_37 : decode cX5_back 37 = .ok (.invokestatic 118, 3) := by decide +kernel
theorem dX5_back_40 : decode cX5_back 40 = .ok (.aload_n 0, 1) := by decide +kernel
theorem dX5_back_41 : decode cX5_back 41 = .ok (.iconst 0, 1) := by decide +kernel
theorem dX5_back_42 : decode cX5_back 42 = .ok (.putfield 122, 3) := by decide +kernel
theorem dX5_back_45 : decode cX5_back 45 = .ok (.aload_n 0, 1) := by decide +kernel
theorem dX5_back_46 : decode cX5_back 46 = .ok (.getfield 125, 3) := by decide +kernel
theorem dX5_back_49 : decode cX5_back 49 = .ok (.ireturn, 1) := by decide +kernel
theorem dX5_count_0 : decode cX5_count 0 = .ok (.iconst 0, 1) := by decide +kernel
theorem dX5_count_1 : decode cX5_count 1 = .ok (.istore_n 2, 1) := by decide +kernel
theorem dX5_count_2 : decode cX5_count 2 = .ok (.iconst 0, 1) := by decide +kernel
theorem dX5_count_3 : decode cX5_count 3 = .ok (.istore_n 3, 1) := by decide +kernel
theorem dX5_count_4 : decode cX5_count 4 = .ok (.iconst 0, 1) := by decide +kernel
theorem dX5_count_5 : decode cX5_count 5 = .ok (.istore 4, 2) := by decide +kernel
theorem dX5_count_7 : decode cX5_count 7 = .ok (.iconst 0, 1) := by decide +kernel
theorem dX5_count_8 : decode cX5_count 8 = .ok (.istore 5, 2) := by decide +kernel
theorem dX5_count_10 : decode cX5_count 10 = .ok (.iload 5, 2) := by decide +kernel
theorem dX5_count_12 : decode cX5_count 12 = .ok (.aload_n 0, 1) := by decide +kernel
theorem dX5_count_13 : decode cX5_count 13 = .ok (.getfield 7, 3) := by decide +kernel
theorem dX5_count_16 : decode cX5_count 16 = .ok (.iconst 0, 1) := by decide +kernel
theorem dX5_count_17 : decode cX5_count 17 = .ok (.iaload, 1) := by decide +kernel
theorem dX5_count_18 : decode cX5_count 18 = .ok (.if_icmp .ge 53, 3) := by decide +kernel
theorem dX5_count_21 : decode cX5_count 21 = .ok (.iload_n 2, 1) := by decide +kernel
theorem dX5_count_22 : decode cX5_count 22 = .ok (.aload_n 0, 1) := by decide +kernel
theorem dX5_count_23 : decode cX5_count 23 = .ok (.getfield 7, 3) := by decide +kernel
theorem dX5_count_26 : decode cX5_count 26 = .ok (.sipush 130, 3) := by decide +kernel
theorem dX5_count_29 : decode cX5_count 29 = .ok (.iload 5, 2) := by decide +kernel
theorem dX5_count_31 : decode cX5_count 31 = .ok (.iadd, 1) := by decide +kernel
theorem dX5_count_32 : decode cX5_count 32 = .ok (.iaload, 1) := by decide +kernel
theorem dX5_count_33 : decode cX5_count 33 = .ok (.iadd, 1) := by decide +kernel
theorem dX5_count_34 : decode cX5_count 34 = .ok (.istore_n 2, 1) := by decide +kernel
theorem dX5_count_35 : decode cX5_count 35 = .ok (.iload_n 3, 1) := by decide +kernel
theorem dX5_count_36 : decode cX5_count 36 = .ok (.aload_n 0, 1) := by decide +kernel
theorem dX5_count_37 : decode cX5_count 37 = .ok (.iload 5, 2) := by decide +kernel
theorem dX5_count_39 : decode cX5_count 39 = .ok (.invokevirtual 146, 3) := by decide +kernel
theorem dX5_count_42 : decode cX5_count 42 = .ok (.bipush (-4), 2) := by decide +kernel
theorem dX5_count_44 : decode cX5_count 44 = .ok (.if_icmp .ne 7, 3) := by decide +kernel
theorem dX5_count_47 : decode cX5_count 47 = .ok (.iconst 0, 1) := by decide +kernel
theorem dX5_count_48 : decode cX5_count 48 = .ok (.goto 4, 3) := by decide +kernel
theorem dX5_count_51 : decode cX5_count 51 = .ok (.iconst 1, 1) := by decide +kernel
theorem dX5_count_52 : decode cX5_count 52 = .ok (.iadd, 1) := by decide +kernel
theorem dX5_count_53 : decode cX5_count 53 = .ok (.istore_n 3, 1) := by decide +kernel
theorem dX5_count_54 : decode cX5_count 54 = .ok (.iload 4, 2) := by decide +kernel
theorem dX5_count_56 : decode cX5_count 56 = .ok (.aload_n 0, 1) := by decide +kernel
theorem dX5_count_57 : decode cX5_count 57 = .ok (.iload 5, 2) := by decide +kernel
theorem dX5_count_59 : decode cX5_count 59 = .ok (.invokevirtual 168, 3) := by decide +kernel
theorem dX5_count_62 : decode cX5_count 62 = .ok (.iadd, 1) := by decide +kernel
theorem dX5_count_63 : decode cX5_count 63 = .ok (.istore 4, 2) := by decide +kernel
theorem dX5_count_65 : decode cX5_count 65 = .ok (.iinc 5 1, 3) := by decide +kernel
theorem dX5_count_68 : decode cX5_count 68 = .ok (.goto (-58), 3) := by decide +kernel
theorem dX5_count_71 : decode cX5_count 71 = .ok (.iload_n 1, 1) := by decide +kernel
theorem dX5_count_72 : decode cX5_count 72 = .ok (.tableswitch 84 0 7 #[48, 55, 62, 64, 66, 69, 74, 79], 48) := by decide +kernel
theorem dX5_count_120 : decode cX5_count 120 = .ok (.aload_n 0, 1) := by decide +kernel
theorem dX5_count_121 : decode cX5_count 121 = .ok (.getfield 7, 3) := by decide +kernel
theorem dX5_count_124 : decode cX5_count 124 = .ok (.iconst 0, 1) := by decide +kernel
theorem dX5_count_125 : decode cX5_count 125 = .ok (.iaload, 1) := by decide +kernel
theorem dX5_count_126 : decode cX5_count 126 = .ok (.ireturn, 1) := by decide +kernel
theorem dX5_count_127 : decode cX5_count 127 = .ok (.aload_n 0, 1) := by decide +kernel
theorem dX5_count_128 : decode cX5_count 128 = .ok (.getfield 7, 3) := by decide +kernel
theorem dX5_count_131 : decode cX5_count 131 = .ok (.iconst 1, 1) := by decide +kernel
theorem dX5_count_132 : decode cX5_count 132 = .ok (.iaload, 1) := by decide +kernel
theorem dX5_count_133 : decode cX5_count 133 = .ok (.ireturn, 1) := by decide +kernel
theorem dX5_count_134 : decode cX5_count 134 = .ok (.iload_n 2, 1) := by decide +kernel
theorem dX5_count_135 : decode cX5_count 135 = .ok (.ireturn, 1) := by decide +kernel
theorem dX5_count_136 : decode cX5_count 136 = .ok (.iload_n 3, 1) := by decide +kernel
theorem dX5_count_137 : decode cX5_count 137 = .ok (.ireturn, 1) := by decide +kernel
theorem dX5_count_138 : decode cX5_count 138 = .ok (.iload 4, 2) := by decide +kernel
theorem dX5_count_140 : decode cX5_count 140 = .ok (.ireturn, 1) := by decide +kernel
theorem dX5_count_141 : decode cX5_count 141 = .ok (.aload_n 0, 1) := by decide +kernel
theorem dX5_count_142 : decode cX5_count 142 = .ok (.getfield 122, 3) := by decide +kernel
theorem dX5_count_145 : decode cX5_count 145 = .ok (.ireturn, 1) := by decide +kernel
theorem dX5_count_146 : decode cX5_count 146 = .ok (.aload_n 0, 1) := by decide +kernel
theorem dX5_count_147 : decode cX5_count 147 = .ok (.getfield 125, 3) := by decide +kernel
theorem dX5_count_150 : decode cX5_count 150 = .ok (.ireturn, 1) := by decide +kernel
theorem dX5_count_151 : decode cX5_count 151 = .ok (.aload_n 0, 1) := by decide +kernel
theorem dX5_count_152 : decode cX5_count 152 = .ok (.getfield 62, 3) := by decide +kernel
theorem dX5_count_155 : decode cX5_count 155 = .ok (.ireturn, 1) := by decide +kernel
theorem dX5_count_156 : decode cX5_count 156 = .ok (.iconst (-1), 1) := by decide +kernel
theorem dX5_count_157 : decode cX5_count 157 = .ok (.ireturn, 1) := by decide +kernel
theorem dJ6_bitCount_0f7a4_0 : decode cJ6_bitCount_0f7a4 0 = .ok (.iload_n 0, 1) := by decide +kernel
theorem dJ6_bitCount_0f7a4_1 : decode cJ6_bitCount_0f7a4 1 = .ok (.iload_n 0, 1) := by decide +kernel
theorem dJ6_bitCount_0f7a4_2 : decode cJ6_bitCount_0f7a4 2 = .ok (.iconst 1, 1) := by decide +kernel
theorem dJ6_bitCount_0f7a4_3 : decode cJ6_bitCount_0f7a4 3 = .ok (.iushr, 1) := by decide +kernel
theorem dJ6_bitCount_0f7a4_4 : decode cJ6_bitCount_0f7a4 4 = .ok (.ldc_w 265, 3) := by decide +kernel
theorem dJ6_bitCount_0f7a4_7 : decode cJ6_bitCount_0f7a4 7 = .ok (.iand, 1) := by decide +kernel
theorem dJ6_bitCount_0f7a4_8 : decode cJ6_bitCount_0f7a4 8 = .ok (.isub, 1) := by decide +kernel
theorem dJ6_bitCount_0f7a4_9 : decode cJ6_bitCount_0f7a4 9 = .ok (.istore_n 0, 1) := by decide +kernel
theorem dJ6_bitCount_0f7a4_10 : decode cJ6_bitCount_0f7a4 10 = .ok (.iload_n 0, 1) := by decide +kernel
theorem dJ6_bitCount_0f7a4_11 : decode cJ6_bitCount_0f7a4 11 = .ok (.ldc_w 266, 3) := by decide +kernel
theorem dJ6_bitCount_0f7a4_14 : decode cJ6_bitCount_0f7a4 14 = .ok (.iand, 1) := by decide +kernel
theorem dJ6_bitCount_0f7a4_15 : decode cJ6_bitCount_0f7a4 15 = .ok (.iload_n 0, 1) := by decide +kernel
theorem dJ6_bitCount_0f7a4_16 : decode cJ6_bitCount_0f7a4 16 = .ok (.iconst 2, 1) := by decide +kernel
theorem dJ6_bitCount_0f7a4_17 : decode cJ6_bitCount_0f7a4 17 = .ok (.iushr, 1) := by decide +kernel
theorem dJ6_bitCount_0f7a4_18 : decode cJ6_bitCount_0f7a4 18 = .ok (.ldc_w 266, 3) := by decide +kernel
theorem dJ6_bitCount_0f7a4_21 : decode cJ6_bitCount_0f7a4 21 = .ok (.iand, 1) := by decide +kernel
theorem dJ6_bitCount_0f7a4_22 : decode cJ6_bitCount_0f7a4 22 = .ok (.iadd, 1) := by decide +kernel
theorem dJ6_bitCount_0f7a4_23 : decode cJ6_bitCount_0f7a4 23 = .ok (.istore_n 0, 1) := by decide +kernel
theorem dJ6_bitCount_0f7a4_24 : decode cJ6_bitCount_0f7a4 24 = .ok (.iload_n 0, 1) := by decide +kernel
theorem dJ6_bitCount_0f7a4_25 : decode cJ6_bitCount_0f7a4 25 = .ok (.iload_n 0, 1) := by decide +kernel
theorem dJ6_bitCount_0f7a4_26 : decode cJ6_bitCount_0f7a4 26 = .ok (.iconst 4, 1) := by decide +kernel
theorem dJ6_bitCount_0f7a4_27 : decode cJ6_bitCount_0f7a4 27 = .ok (.iushr, 1) := by decide +kernel
theorem dJ6_bitCount_0f7a4_28 : decode cJ6_bitCount_0f7a4 28 = .ok (.iadd, 1) := by decide +kernel
theorem dJ6_bitCount_0f7a4_29 : decode cJ6_bitCount_0f7a4 29 = .ok (.ldc_w 267, 3) := by decide +kernel
theorem dJ6_bitCount_0f7a4_32 : decode cJ6_bitCount_0f7a4 32 = .ok (.iand, 1) := by decide +kernel
theorem dJ6_bitCount_0f7a4_33 : decode cJ6_bitCount_0f7a4 33 = .ok (.istore_n 0, 1) := by decide +kernel
theorem dJ6_bitCount_0f7a4_34 : decode cJ6_bitCount_0f7a4 34 = .ok (.iload_n 0, 1) := by decide +kernel
theorem dJ6_bitCount_0f7a4_35 : decode cJ6_bitCount_0f7a4 35 = .ok (.iload_n 0, 1) := by decide +kernel
theorem dJ6_bitCount_0f7a4_36 : decode cJ6_bitCount_0f7a4 36 = .ok (.bipush 8, 2) := by decide +kernel
theorem dJ6_bitCount_0f7a4_38 : decode cJ6_bitCount_0f7a4 38 = .ok (.iushr, 1) := by decide +kernel
theorem dJ6_bitCount_0f7a4_39 : decode cJ6_bitCount_0f7a4 39 = .ok (.iadd, 1) := by decide +kernel
theorem dJ6_bitCount_0f7a4_40 : decode cJ6_bitCount_0f7a4 40 = .ok (.istore_n 0, 1) := by decide +kernel
theorem dJ6_bitCount_0f7a4_41 : decode cJ6_bitCount_0f7a4 41 = .ok (.iload_n 0, 1) := by decide +kernel
theorem dJ6_bitCount_0f7a4_42 : decode cJ6_bitCount_0f7a4 42 = .ok (.iload_n 0, 1) := by decide +kernel
theorem dJ6_bitCount_0f7a4_43 : decode cJ6_bitCount_0f7a4 43 = .ok (.bipush 16, 2) := by decide +kernel
theorem dJ6_bitCount_0f7a4_45 : decode cJ6_bitCount_0f7a4 45 = .ok (.iushr, 1) := by decide +kernel
theorem dJ6_bitCount_0f7a4_46 : decode cJ6_bitCount_0f7a4 46 = .ok (.iadd, 1) := by decide +kernel
theorem dJ6_bitCount_0f7a4_47 : decode cJ6_bitCount_0f7a4 47 = .ok (.istore_n 0, 1) := by decide +kernel
theorem dJ6_bitCount_0f7a4_48 : decode cJ6_bitCount_0f7a4 48 = .ok (.iload_n 0, 1) := by decide +kernel
theorem dJ6_bitCount_0f7a4_49 : decode cJ6_bitCount_0f7a4 49 = .ok (.bipush 63, 2) := by decide +kernel
theorem dJ6_bitCount_0f7a4_51 : decode cJ6_bitCount_0f7a4 51 = .ok (.iand, 1) := by decide +kernel
theorem dJ6_bitCount_0f7a4_52 : decode cJ6_bitCount_0f7a4 52 = .ok (.ireturn, 1) := by decide +kernel
theorem dJ9_floorMod_7cf53_0 : decode cJ9_floorMod_7cf53 0 = .ok (.iload_n 0, 1) := by decide +kernel
theorem dJ9_floorMod_7cf53_1 : decode cJ9_floorMod_7cf53 1 = .ok (.iload_n 1, 1) := by decide +kernel
theorem dJ9_floorMod_7cf53_2 : decode cJ9_floorMod_7cf53 2 = .ok (.irem, 1) := by decide +kernel
theorem dJ9_floorMod_7cf53_3 : decode cJ9_floorMod_7cf53 3 = .ok (.istore_n 2, 1) := by decide +kernel
theorem dJ9_floorMod_7cf53_4 : decode cJ9_floorMod_7cf53 4 = .ok (.iload_n 0, 1) := by decide +kernel
theorem dJ9_floorMod_7cf53_5 : decode cJ9_floorMod_7cf53 5 = .ok (.iload_n 1, 1) := by decide +kernel
theorem dJ9_floorMod_7cf53_6 : decode cJ9_floorMod_7cf53 6 = .ok (.ixor, 1) := by decide +kernel
theorem dJ9_floorMod_7cf53_7 : decode cJ9_floorMod_7cf53 7 = .ok (.ifCond .ge 11, 3) := by decide +kernel
theorem dJ9_floorMod_7cf53_10 : decode cJ9_floorMod_7cf53 10 = .ok (.iload_n 2, 1) := by decide +kernel
theorem dJ9_floorMod_7cf53_11 : decode cJ9_floorMod_7cf53 11 = .ok (.ifCond .eq 7, 3) := by decide +kernel
theorem dJ9_floorMod_7cf53_14 : decode cJ9_floorMod_7cf53 14 = .ok (.iload_n 2, 1) := by decide +kernel
theorem dJ9_floorMod_7cf53_15 : decode cJ9_floorMod_7cf53 15 = .ok (.iload_n 1, 1) := by decide +kernel
theorem dJ9_floorMod_7cf53_16 : decode cJ9_floorMod_7cf53 16 = .ok (.iadd, 1) := by decide +kernel
theorem dJ9_floorMod_7cf53_17 : decode cJ9_floorMod_7cf53 17 = .ok (.ireturn, 1) := by decide +kernel
theorem dJ9_floorMod_7cf53_18 : decode cJ9_floorMod_7cf53 18 = .ok (.iload_n 2, 1) := by decide +kernel
theorem dJ9_floorMod_7cf53_19 : decode cJ9_floorMod_7cf53 19 = .ok (.ireturn, 1) := by decide +kernel
theorem dJ9_abs_0f7a4_0 : decode cJ9_abs_0f7a4 0 = .ok (.iload_n 0, 1) := by decide +kernel
theorem dJ9_abs_0f7a4_1 : decode cJ9_abs_0f7a4 1 = .ok (.ifCond .ge 8, 3) := by decide +kernel
theorem dJ9_abs_0f7a4_4 : decode cJ9_abs_0f7a4 4 = .ok (.iload_n 0, 1) := by decide +kernel
theorem dJ9_abs_0f7a4_5 : decode cJ9_abs_0f7a4 5 = .ok (.ineg, 1) := by decide +kernel
theorem dJ9_abs_0f7a4_6 : decode cJ9_abs_0f7a4 6 = .ok (.goto 4, 3) := by decide +kernel
theorem dJ9_abs_0f7a4_9 : decode cJ9_abs_0f7a4 9 = .ok (.iload_n 0, 1) := by decide +kernel
theorem dJ9_abs_0f7a4_10 : decode cJ9_abs_0f7a4 10 = .ok (.ireturn, 1) := by decide +kernel
theorem dJ9_max_7cf53_0 : decode cJ9_max_7cf53 0 = .ok (.iload_n 0, 1) := by decide +kernel
theorem dJ9_max_7cf53_1 : decode cJ9_max_7cf53 1 = .ok (.iload_n 1, 1) := by decide +kernel
theorem dJ9_max_7cf53_2 : decode cJ9_max_7cf53 2 = .ok (.if_icmp .lt 7, 3) := by decide +kernel
theorem dJ9_max_7cf53_5 : decode cJ9_max_7cf53 5 = .ok (.iload_n 0, 1) := by decide +kernel
theorem dJ9_max_7cf53_6 : decode cJ9_max_7cf53 6 = .ok (.goto 4, 3) := by decide +kernel
theorem dJ9_max_7cf53_9 : decode cJ9_max_7cf53 9 = .ok (.iload_n 1, 1) := by decide +kernel
theorem dJ9_max_7cf53_10 : decode cJ9_max_7cf53 10 = .ok (.ireturn, 1) := by decide +kernel
theorem dJ9_min_7cf53_0 : decode cJ9_min_7cf53 0 = .ok (.iload_n 0, 1) := by decide +kernel
theorem dJ9_min_7cf53_1 : decode cJ9_min_7cf53 1 = .ok (.iload_n 1, 1) := by decide +kernel
theorem dJ9_min_7cf53_2 : decode cJ9_min_7cf53 2 = .ok (.if_icmp .gt 7, 3) := by decide +kernel
theorem dJ9_min_7cf53_5 : decode cJ9_min_7cf53 5 = .ok (.iload_n 0, 1) := by decide +kernel
theorem dJ9_min_7cf53_6 : decode cJ9_min_7cf53 6 = .ok (.goto 4, 3) := by decide +kernel
theorem dJ9_min_7cf53_9 : decode cJ9_min_7cf53 9 = .ok (.iload_n 1, 1) := by decide +kernel
theorem dJ9_min_7cf53_10 : decode cJ9_min_7cf53 10 = .ok (.ireturn, 1) := by decide +kernel
theorem dJ0_length_8abf5_0 : decode cJ0_length_8abf5 0 = .ok (.aload_n 0, 1) := by decide +kernel
theorem dJ0_length_8abf5_1 : decode cJ0_length_8abf5 1 = .ok (.getfield 9, 3) := by decide +kernel
theorem dJ0_length_8abf5_4 : decode cJ0_length_8abf5 4 = .ok (.arraylength, 1) := by decide +kernel
theorem dJ0_length_8abf5_5 : decode cJ0_length_8abf5 5 = .ok (.aload_n 0, 1) := by decide +kernel
theorem dJ0_length_8abf5_6 : decode cJ0_length_8abf5 6 = .ok (.invokevirtual 335, 3) := by decide +kernel
theorem dJ0_length_8abf5_9 : decode cJ0_length_8abf5 9 = .ok (.ishr, 1) := by decide +kernel
theorem dJ0_length_8abf5_10 : decode cJ0_length_8abf5 10 = .ok (.ireturn, 1) := by decide +kernel
theorem dJ0_toCharArray_70df3_0 : decode cJ0_toCharArray_70df3 0 = .ok (.aload_n 0, 1) := by decide +kernel
theorem dJ0_toCharArray_70df3_1 : decode cJ0_toCharArray_70df3 1 = .ok (.invokevirtual 492, 3) := by decide +kernel
theorem dJ0_toCharArray_70df3_4 : decode cJ0_toCharArray_70df3 4 = .ok (.ifCond .eq 13, 3) := by decide +kernel
theorem dJ0_toCharArray_70df3_7 : decode cJ0_toCharArray_70df3 7 = .ok (.aload_n 0, 1) := by decide +kernel
theorem dJ0_toCharArray_70df3_8 : decode cJ0_toCharArray_70df3 8 = .ok (.getfield 9, 3) := by decide +kernel
theorem dJ0_toCharArray_70df3_11 : decode cJ0_toCharArray_70df3 11 = .ok (.invokestatic 299, 3) := by decide +kernel
theorem dJ0_toCharArray_70df3_14 : decode cJ0_toCharArray_70df3 14 = .ok (.goto 10, 3) := by decide +kernel
theorem dJ0_toCharArray_70df3_17 : decode cJ0_toCharArray_70df3 17 = .ok (.aload_n 0, 1) := by decide +kernel
theorem dJ0_toCharArray_70df3_18 : decode cJ0_toCharArray_70df3 18 = .ok (.getfield 9, 3) := by decide +kernel
theorem dJ0_toCharArray_70df3_21 : decode cJ0_toCharArray_70df3 21 = .ok (.invokestatic 303, 3) := by decide +kernel
theorem dJ0_toCharArray_70df3_24 : decode cJ0_toCharArray_70df3 24 = .ok (.areturn, 1) := by decide +kernel
theorem dJ0_coder_7d493_0 : decode cJ0_coder_7d493 0 = .ok (.getstatic 38, 3) := by decide +kernel
theorem dJ0_coder_7d493_3 : decode cJ0_coder_7d493 3 = .ok (.ifCond .eq 10, 3) := by decide +kernel
theorem dJ0_coder_7d493_6 : decode cJ0_coder_7d493 6 = .ok (.aload_n 0, 1) := by decide +kernel
theorem dJ0_coder_7d493_7 : decode cJ0_coder_7d493 7 = .ok (.getfield 15, 3) := by decide +kernel
theorem dJ0_coder_7d493_10 : decode cJ0_coder_7d493 10 = .ok (.goto 4, 3) := by decide +kernel
theorem dJ0_coder_7d493_13 : decode cJ0_coder_7d493 13 = .ok (.iconst 1, 1) := by decide +kernel
theorem dJ0_coder_7d493_14 : decode cJ0_coder_7d493 14 = .ok (.ireturn, 1) := by decide +kernel
theorem dJ0_isLatin1_aae02_0 : decode cJ0_isLatin1_aae02 0 = .ok (.getstatic 38, 3) := by decide +kernel
theorem dJ0_isLatin1_aae02_3 : decode cJ0_isLatin1_aae02 3 = .ok (.ifCond .eq 14, 3) := by decide +kernel
theorem dJ0_isLatin1_aae02_6 : decode cJ0_isLatin1_aae02 6 = .ok (.aload_n 0, 1) := by decide +kernel
theorem dJ0_isLatin1_aae02_7 : decode cJ0_isLatin1_aae02 7 = .ok (.getfield 15, 3) := by decide +kernel
theorem dJ0_isLatin1_aae02_10 : decode cJ0_isLatin1_aae02 10 = .ok (.ifCond .ne 7, 3) := by decide +kernel
theorem dJ0_isLatin1_aae02_13 : decode cJ0_isLatin1_aae02 13 = .ok (.iconst 1, 1) := by decide +kernel
theorem dJ0_isLatin1_aae02_14 : decode cJ0_isLatin1_aae02 14 = .ok (.goto 4, 3) := by decide +kernel
theorem dJ0_isLatin1_aae02_17 : decode cJ0_isLatin1_aae02 17 = .ok (.iconst 0, 1) := by decide +kernel
theorem dJ0_isLatin1_aae02_18 : decode cJ0_isLatin1_aae02 18 = .ok (.ireturn, 1) := by decide +kernel
theorem dJ0_checkBoundsOffCount_cabcc_0 : decode cJ0_checkBoundsOffCount_cabcc 0 = .ok (.iload_n 0, 1) := by decide +kernel
theorem dJ0_checkBoundsOffCount_cabcc_1 : decode cJ0_checkBoundsOffCount_cabcc 1 = .ok (.iload_n 1, 1) := by decide +kernel
theorem dJ0_checkBoundsOffCount_cabcc_2 : decode cJ0_checkBoundsOffCount_cabcc 2 = .ok (.iload_n 2, 1) := by decide +kernel
theorem dJ0_checkBoundsOffCount_cabcc_3 : decode cJ0_checkBoundsOffCount_cabcc 3 = .ok (.getstatic 1053, 3) := by decide +kernel
theorem dJ0_checkBoundsOffCount_cabcc_6 : decode cJ0_checkBoundsOffCount_cabcc 6 = .ok (.invokestatic 1065, 3) := by decide +kernel
theorem dJ0_checkBoundsOffCount_cabcc_9 : decode cJ0_checkBoundsOffCount_cabcc 9 = .ok (.ireturn, 1) := by decide +kernel
theorem dJ1_toChars_9d188_0 : decode cJ1_toChars_9d188 0 = .ok (.aload_n 0, 1) := by decide +kernel
theorem dJ1_toChars_9d188_1 : decode cJ1_toChars_9d188 1 = .ok (.arraylength, 1) := by decide +kernel
theorem dJ1_toChars_9d188_2 : decode cJ1_toChars_9d188 2 = .ok (.newarray .char, 2) := by decide +kernel
theorem dJ1_toChars_9d188_4 : decode cJ1_toChars_9d188 4 = .ok (.astore_n 1, 1) := by decide +kernel
theorem dJ1_toChars_9d188_5 : decode cJ1_toChars_9d188 5 = .ok (.aload_n 0, 1) := by decide +kernel
theorem dJ1_toChars_9d188_6 : decode cJ1_toChars_9d188 6 = .ok (.iconst 0, 1) := by decide +kernel
theorem dJ1_toChars_9d188_7 : decode cJ1_toChars_9d188 7 = .ok (.aload_n 1, 1) := by decide +kernel
theorem dJ1_toChars_9d188_8 : decode cJ1_toChars_9d188 8 = .ok (.iconst 0, 1) := by decide +kernel
theorem dJ1_toChars_9d188_9 : decode cJ1_toChars_9d188 9 = .ok (.aload_n 0, 1) := by decide +kernel
theorem dJ1_toChars_9d188_10 : decode cJ1_toChars_9d188 10 = .ok (.arraylength, 1) := by decide +kernel
theorem dJ1_toChars_9d188_11 : decode cJ1_toChars_9d188 11 = .ok (.invokestatic 13, 3) := by decide +kernel
theorem dJ1_toChars_9d188_14 : decode cJ1_toChars_9d188 14 = .ok (.aload_n 1, 1) := by decide +kernel
theorem dJ1_toChars_9d188_15 : decode cJ1_toChars_9d188 15 = .ok (.areturn, 1) := by decide +kernel
theorem dJ1_inflate_03870_0 : decode cJ1_inflate_03870 0 = .ok (.iconst 0, 1) := by decide +kernel
theorem dJ1_inflate_03870_1 : decode cJ1_inflate_03870 1 = .ok (.istore 5, 2) := by decide +kernel
theorem dJ1_inflate_03870_3 : decode cJ1_inflate_03870 3 = .ok (.iload 5, 2) := by decide +kernel
theorem dJ1_inflate_03870_5 : decode cJ1_inflate_03870 5 = .ok (.iload 4, 2) := by decide +kernel
theorem dJ1_inflate_03870_7 : decode cJ1_inflate_03870 7 = .ok (.if_icmp .ge 26, 3) := by decide +kernel
theorem dJ1_inflate_03870_10 : decode cJ1_inflate_03870 10 = .ok (.aload_n 2, 1) := by decide +kernel
theorem dJ1_inflate_03870_11 : decode cJ1_inflate_03870 11 = .ok (.iload_n 3, 1) := by decide +kernel
theorem dJ1_inflate_03870_12 : decode cJ1_inflate_03870 12 = .ok (.iinc 3 1, 3) := by decide +kernel
theorem dJ1_inflate_03870_15 : decode cJ1_inflate_03870 15 = .ok (.aload_n 0, 1) := by decide +kernel
theorem dJ1_inflate_03870_16 : decode cJ1_inflate_03870 16 = .ok (.iload_n 1, 1) := by decide +kernel
theorem dJ1_inflate_03870_17 : decode cJ1_inflate_03870 17 = .ok (.iinc 1 1, 3) := by decide +kernel
theorem dJ1_inflate_03870_20 : decode cJ1_inflate_03870 20 = .ok (.baload, 1) := by decide +kernel
theorem dJ1_inflate_03870_21 : decode cJ1_inflate_03870 21 = .ok (.sipush 255, 3) := by decide +kernel
theorem dJ1_inflate_03870_24 : decode cJ1_inflate_03870 24 = .ok (.iand, 1) := by decide +kernel
theorem dJ1_inflate_03870_25 : decode cJ1_inflate_03870 25 = .ok (.i2c, 1) := by decide +kernel
theorem dJ1_inflate_03870_26 : decode cJ1_inflate_03870 26 = .ok (.castore, 1) := by decide +kernel
theorem dJ1_inflate_03870_27 : decode cJ1_inflate_03870 27 = .ok (.iinc 5 1, 3) := by decide +kernel
theorem dJ1_inflate_03870_30 : decode cJ1_inflate_03870 30 = .ok (.goto (-27), 3) := by decide +kernel
theorem dJ1_inflate_03870_33 : decode cJ1_inflate_03870 33 = .ok (.return_, 1) := by decide +kernel
theorem dJ2_getChar_3b067_0 : decode cJ2_getChar_3b067 0 = .ok (.getstatic 44, 3) := by decide +kernel
theorem dJ2_getChar_3b067_3 : decode cJ2_getChar_3b067 3 = .ok (.ifCond .ne 25, 3) := by decide +kernel
theorem dJ2_getChar_3b067_6 : decode cJ2_getChar_3b067 6 = .ok (.iload_n 1, 1) := by decide +kernel
theorem dJ2_getChar_3b067_7 : decode cJ2_getChar_3b067 7 = .ok (.ifCond .lt 11, 3) := by decide +kernel
theorem dJ2_getChar_3b067_10 : decode cJ2_getChar_3b067 10 = .ok (.iload_n 1, 1) := by decide +kernel
theorem dJ2_getChar_3b067_11 : decode cJ2_getChar_3b067 11 = .ok (.aload_n 0, 1) := by decide +kernel
theorem dJ2_getChar_3b067_12 : decode cJ2_getChar_3b067 12 = .ok (.invokestatic 48, 3) := by decide +kernel
theorem dJ2_getChar_3b067_15 : decode cJ2_getChar_3b067 15 = .ok (.if_icmp .lt 13, 3) := by decide +kernel
theorem dJ2_getChar_3b067_18 : decode cJ2_getChar_3b067 18 = .ok (.new 52, 3) := by decide +kernel
theorem dJ2_getChar_3b067_21 : decode cJ2_getChar_3b067 21 = .ok (.dup, 1) := by decide +kernel
theorem dJ2_getChar_3b067_22 : decode cJ2_getChar_3b067 22 = .ok (.ldc 54, 2) := by decide +kernel
theorem dJ2_getChar_3b067_24 : decode cJ2_getChar_3b067 24 = .ok (.invokespecial 56, 3) := by decide +kernel
theorem dJ2_getChar_3b067_27 : decode cJ2_getChar_3b067 27 = .ok (.athrow, 1) := by decide +kernel
theorem dJ2_getChar_3b067_28 : decode cJ2_getChar_3b067 28 = .ok (.iload_n 1, 1) := by decide +kernel
theorem dJ2_getChar_3b067_29 : decode cJ2_getChar_3b067 29 = .ok (.iconst 1, 1) := by decide +kernel
theorem dJ2_getChar_3b067_30 : decode cJ2_getChar_3b067 30 = .ok (.ishl, 1) := by decide +kernel
theorem dJ2_getChar_3b067_31 : decode cJ2_getChar_3b067 31 = .ok (.istore_n 1, 1) := by decide +kernel
theorem dJ2_getChar_3b067_32 : decode cJ2_getChar_3b067 32 = .ok (.aload_n 0, 1) := by decide +kernel
theorem dJ2_getChar_3b067_33 : decode cJ2_getChar_3b067 33 = .ok (.iload_n 1, 1) := by decide +kernel
theorem dJ2_getChar_3b067_34 : decode cJ2_getChar_3b067 34 = .ok (.iinc 1 1, 3) := by decide +kernel
theorem dJ2_getChar_3b067_37 : decode cJ2_getChar_3b067 37 = .ok (.baload, 1) := by decide +kernel
theorem dJ2_getChar_3b067_38 : decode cJ2_getChar_3b067 38 = .ok (.sipush 255, 3) := by decide +kernel
theorem dJ2_getChar_3b067_41 : decode cJ2_getChar_3b067 41 = .ok (.iand, 1) := by decide +kernel
theorem dJ2_getChar_3b067_42 : decode cJ2_getChar_3b067 42 = .ok (.getstatic 59, 3) := by decide +kernel
theorem dJ2_getChar_3b067_45 : decode cJ2_getChar_3b067 45 = .ok (.ishl, 1) := by decide +kernel
theorem dJ2_getChar_3b067_46 : decode cJ2_getChar_3b067 46 = .ok (.aload_n 0, 1) := by decide +kernel
theorem dJ2_getChar_3b067_47 : decode cJ2_getChar_3b067 47 = .ok (.iload_n 1, 1) := by decide +kernel
theorem dJ2_getChar_3b067_48 : decode cJ2_getChar_3b067 48 = .ok (.baload, 1) := by decide +kernel
theorem dJ2_getChar_3b067_49 : decode cJ2_getChar_3b067 49 = .ok (.sipush 255, 3) := by decide +kernel
theorem dJ2_getChar_3b067_52 : decode cJ2_getChar_3b067 52 = .ok (.iand, 1) := by decide +kernel
theorem dJ2_getChar_3b067_53 : decode cJ2_getChar_3b067 53 = .ok (.getstatic 63, 3) := by decide +kernel
theorem dJ2_getChar_3b067_56 : decode cJ2_getChar_3b067 56 = .ok (.ishl, 1) := by decide +kernel
theorem dJ2_getChar_3b067_57 : decode cJ2_getChar_3b067 57 = .ok (.ior, 1) := by decide +kernel
theorem dJ2_getChar_3b067_58 : decode cJ2_getChar_3b067 58 = .ok (.i2c, 1) := by decide +kernel
theorem dJ2_getChar_3b067_59 : decode cJ2_getChar_3b067 59 = .ok (.ireturn, 1) := by decide +kernel
theorem dJ2_length_9d52b_0 : decode cJ2_length_9d52b 0 = .ok (.aload_n 0, 1) := by decide +kernel
theorem dJ2_length_9d52b_1 : decode cJ2_length_9d52b 1 = .ok (.arraylength, 1) := by decide +kernel
theorem dJ2_length_9d52b_2 : decode cJ2_length_9d52b 2 = .ok (.iconst 1, 1) := by decide +kernel
theorem dJ2_length_9d52b_3 : decode cJ2_length_9d52b 3 = .ok (.ishr, 1) := by decide +kernel
theorem dJ2_length_9d52b_4 : decode cJ2_length_9d52b 4 = .ok (.ireturn, 1) := by decide +kernel
theorem dJ2_toChars_9d188_0 : decode cJ2_toChars_9d188 0 = .ok (.aload_n 0, 1) := by decide +kernel
theorem dJ2_toChars_9d188_1 : decode cJ2_toChars_9d188 1 = .ok (.arraylength, 1) := by decide +kernel
theorem dJ2_toChars_9d188_2 : decode cJ2_toChars_9d188 2 = .ok (.iconst 1, 1) := by decide +kernel
theorem dJ2_toChars_9d188_3 : decode cJ2_toChars_9d188 3 = .ok (.ishr, 1) := by decide +kernel
theorem dJ2_toChars_9d188_4 : decode cJ2_toChars_9d188 4 = .ok (.newarray .char, 2) := by decide +kernel
theorem dJ2_toChars_9d188_6 : decode cJ2_toChars_9d188 6 = .ok (.astore_n 1, 1) := by decide +kernel
theorem dJ2_toChars_9d188_7 : decode cJ2_toChars_9d188 7 = .ok (.aload_n 0, 1) := by decide +kernel
theorem dJ2_toChars_9d188_8 : decode cJ2_toChars_9d188 8 = .ok (.iconst 0, 1) := by decide +kernel
theorem dJ2_toChars_9d188_9 : decode cJ2_toChars_9d188 9 = .ok (.aload_n 1, 1) := by decide +kernel
theorem dJ2_toChars_9d188_10 : decode cJ2_toChars_9d188 10 = .ok (.arraylength, 1) := by decide +kernel
theorem dJ2_toChars_9d188_11 : decode cJ2_toChars_9d188 11 = .ok (.aload_n 1, 1) := by decide +kernel
theorem dJ2_toChars_9d188_12 : decode cJ2_toChars_9d188 12 = .ok (.iconst 0, 1) := by decide +kernel
theorem dJ2_toChars_9d188_13 : decode cJ2_toChars_9d188 13 = .ok (.invokestatic 103, 3) := by decide +kernel
theorem dJ2_toChars_9d188_16 : decode cJ2_toChars_9d188 16 = .ok (.aload_n 1, 1) := by decide +kernel
theorem dJ2_toChars_9d188_17 : decode cJ2_toChars_9d188 17 = .ok (.areturn, 1) := by decide +kernel
theorem dJ2_getChars_a1a8b_0 : decode cJ2_getChars_a1a8b 0 = .ok (.iload_n 1, 1) := by decide +kernel
theorem dJ2_getChars_a1a8b_1 : decode cJ2_getChars_a1a8b 1 = .ok (.iload_n 2, 1) := by decide +kernel
theorem dJ2_getChars_a1a8b_2 : decode cJ2_getChars_a1a8b 2 = .ok (.if_icmp .ge 11, 3) := by decide +kernel
theorem dJ2_getChars_a1a8b_5 : decode cJ2_getChars_a1a8b 5 = .ok (.iload_n 1, 1) := by decide +kernel
theorem dJ2_getChars_a1a8b_6 : decode cJ2_getChars_a1a8b 6 = .ok (.iload_n 2, 1) := by decide +kernel
theorem dJ2_getChars_a1a8b_7 : decode cJ2_getChars_a1a8b 7 = .ok (.iload_n 1, 1) := by decide +kernel
theorem dJ2_getChars_a1a8b_8 : decode cJ2_getChars_a1a8b 8 = .ok (.isub, 1) := by decide +kernel
theorem dJ2_getChars_a1a8b_9 : decode cJ2_getChars_a1a8b 9 = .ok (.aload_n 0, 1) := by decide +kernel
theorem dJ2_getChars_a1a8b_10 : decode cJ2_getChars_a1a8b 10 = .ok (.invokestatic 173, 3) := by decide +kernel
theorem dJ2_getChars_a1a8b_13 : decode cJ2_getChars_a1a8b 13 = .ok (.iload_n 1, 1) := by decide +kernel
theorem dJ2_getChars_a1a8b_14 : decode cJ2_getChars_a1a8b 14 = .ok (.istore 5, 2) := by decide +kernel
theorem dJ2_getChars_a1a8b_16 : decode cJ2_getChars_a1a8b 16 = .ok (.iload 5, 2) := by decide +kernel
theorem dJ2_getChars_a1a8b_18 : decode cJ2_getChars_a1a8b 18 = .ok (.iload_n 2, 1) := by decide +kernel
theorem dJ2_getChars_a1a8b_19 : decode cJ2_getChars_a1a8b 19 = .ok (.if_icmp .ge 22, 3) := by decide +kernel
theorem dJ2_getChars_a1a8b_22 : decode cJ2_getChars_a1a8b 22 = .ok (.aload_n 3, 1) := by decide +kernel
theorem dJ2_getChars_a1a8b_23 : decode cJ2_getChars_a1a8b 23 = .ok (.iload 4, 2) := by decide +kernel
theorem dJ2_getChars_a1a8b_25 : decode cJ2_getChars_a1a8b 25 = .ok (.iinc 4 1, 3) := by decide +kernel
theorem dJ2_getChars_a1a8b_28 : decode cJ2_getChars_a1a8b 28 = .ok (.aload_n 0, 1) := by decide +kernel
theorem dJ2_getChars_a1a8b_29 : decode cJ2_getChars_a1a8b 29 = .ok (.iload 5, 2) := by decide +kernel
theorem dJ2_getChars_a1a8b_31 : decode cJ2_getChars_a1a8b 31 = .ok (.invokestatic 71, 3) := by decide +kernel
theorem dJ2_getChars_a1a8b_34 : decode cJ2_getChars_a1a8b 34 = .ok (.castore, 1) := by decide +kernel
theorem dJ2_getChars_a1a8b_35 : decode cJ2_getChars_a1a8b 35 = .ok (.iinc 5 1, 3) := by decide +kernel
theorem dJ2_getChars_a1a8b_38 : decode cJ2_getChars_a1a8b 38 = .ok (.goto (-22), 3) := by decide +kernel
theorem dJ2_getChars_a1a8b_41 : decode cJ2_getChars_a1a8b 41 = .ok (.return_, 1) := by decide +kernel
theorem dJ2_checkBoundsOffCount_d044e_0 : decode cJ2_checkBoundsOffCount_d044e 0 = .ok (.iload_n 0, 1) := by decide +kernel
theorem dJ2_checkBoundsOffCount_d044e_1 : decode cJ2_checkBoundsOffCount_d044e 1 = .ok (.iload_n 1, 1) := by decide +kernel
theorem dJ2_checkBoundsOffCount_d044e_2 : decode cJ2_checkBoundsOffCount_d044e 2 = .ok (.aload_n 2, 1) := by decide +kernel
theorem dJ2_checkBoundsOffCount_d044e_3 : decode cJ2_checkBoundsOffCount_d044e 3 = .ok (.invokestatic 48, 3) := by decide +kernel
theorem dJ2_checkBoundsOffCount_d044e_6 : decode cJ2_checkBoundsOffCount_d044e 6 = .ok (.invokestatic 419, 3) := by decide +kernel
theorem dJ2_checkBoundsOffCount_d044e_9 : decode cJ2_checkBoundsOffCount_d044e 9 = .ok (.pop, 1) := by decide +kernel
theorem dJ2_checkBoundsOffCount_d044e_10 : decode cJ2_checkBoundsOffCount_d044e 10 = .ok (.return_, 1) := by decide +kernel
theorem dJ7_fill_53178_0 : decode cJ7_fill_53178 0 = .ok (.iconst 0, 1) := by decide +kernel
theorem dJ7_fill_53178_1 : decode cJ7_fill_53178 1 = .ok (.istore_n 2, 1) := by decide +kernel
theorem dJ7_fill_53178_2 : decode cJ7_fill_53178 2 = .ok (.aload_n 0, 1) := by decide +kernel
theorem dJ7_fill_53178_3 : decode cJ7_fill_53178 3 = .ok (.arraylength, 1) := by decide +kernel
theorem dJ7_fill_53178_4 : decode cJ7_fill_53178 4 = .ok (.istore_n 3, 1) := by decide +kernel
theorem dJ7_fill_53178_5 : decode cJ7_fill_53178 5 = .ok (.iload_n 2, 1) := by decide +kernel
theorem dJ7_fill_53178_6 : decode cJ7_fill_53178 6 = .ok (.iload_n 3, 1) := by decide +kernel
theorem dJ7_fill_53178_7 : decode cJ7_fill_53178 7 = .ok (.if_icmp .ge 13, 3) := by decide +kernel
theorem dJ7_fill_53178_10 : decode cJ7_fill_53178 10 = .ok (.aload_n 0, 1) := by decide +kernel
theorem dJ7_fill_53178_11 : decode cJ7_fill_53178 11 = .ok (.iload_n 2, 1) := by decide +kernel
theorem dJ7_fill_53178_12 : decode cJ7_fill_53178 12 = .ok (.iload_n 1, 1) := by decide +kernel
theorem dJ7_fill_53178_13 : decode cJ7_fill_53178 13 = .ok (.iastore, 1) := by decide +kernel
theorem dJ7_fill_53178_14 : decode cJ7_fill_53178 14 = .ok (.iinc 2 1, 3) := by decide +kernel
theorem dJ7_fill_53178_17 : decode cJ7_fill_53178 17 = .ok (.goto (-12), 3) := by decide +kernel
theorem dJ7_fill_53178_20 : decode cJ7_fill_53178 20 = .ok (.return_, 1) := by decide +kernel
theorem dJ3_checkFromIndexSize_8c36e_0 : decode cJ3_checkFromIndexSize_8c36e 0 = .ok (.iload_n 2, 1) := by decide +kernel
theorem dJ3_checkFromIndexSize_8c36e_1 : decode cJ3_checkFromIndexSize_8c36e 1 = .ok (.iload_n 0, 1) := by decide +kernel
theorem dJ3_checkFromIndexSize_8c36e_2 : decode cJ3_checkFromIndexSize_8c36e 2 = .ok (.ior, 1) := by decide +kernel
theorem dJ3_checkFromIndexSize_8c36e_3 : decode cJ3_checkFromIndexSize_8c36e 3 = .ok (.iload_n 1, 1) := by decide +kernel
theorem dJ3_checkFromIndexSize_8c36e_4 : decode cJ3_checkFromIndexSize_8c36e 4 = .ok (.ior, 1) := by decide +kernel
theorem dJ3_checkFromIndexSize_8c36e_5 : decode cJ3_checkFromIndexSize_8c36e 5 = .ok (.ifCond .lt 10, 3) := by decide +kernel
theorem dJ3_checkFromIndexSize_8c36e_8 : decode cJ3_checkFromIndexSize_8c36e 8 = .ok (.iload_n 1, 1) := by decide +kernel
theorem dJ3_checkFromIndexSize_8c36e_9 : decode cJ3_checkFromIndexSize_8c36e 9 = .ok (.iload_n 2, 1) := by decide +kernel
theorem dJ3_checkFromIndexSize_8c36e_10 : decode cJ3_checkFromIndexSize_8c36e 10 = .ok (.iload_n 0, 1) := by decide +kernel
theorem dJ3_checkFromIndexSize_8c36e_11 : decode cJ3_checkFromIndexSize_8c36e 11 = .ok (.isub, 1) := by decide +kernel
theorem dJ3_checkFromIndexSize_8c36e_12 : decode cJ3_checkFromIndexSize_8c36e 12 = .ok (.if_icmp .le 11, 3) := by decide +kernel
theorem dJ3_checkFromIndexSize_8c36e_15 : decode cJ3_checkFromIndexSize_8c36e 15 = .ok (.aload_n 3, 1) := by decide +kernel
theorem dJ3_checkFromIndexSize_8c36e_16 : decode cJ3_checkFromIndexSize_8c36e 16 = .ok (.iload_n 0, 1) := by decide +kernel
theorem dJ3_checkFromIndexSize_8c36e_17 : decode cJ3_checkFromIndexSize_8c36e 17 = .ok (.iload_n 1, 1) := by decide +kernel
theorem dJ3_checkFromIndexSize_8c36e_18 : decode cJ3_checkFromIndexSize_8c36e 18 = .ok (.iload_n 2, 1) := by decide +kernel
theorem dJ3_checkFromIndexSize_8c36e_19 : decode cJ3_checkFromIndexSize_8c36e 19 = .ok (.invokestatic 103, 3) := by decide +kernel
theorem dJ3_checkFromIndexSize_8c36e_22 : decode cJ3_checkFromIndexSize_8c36e 22 = .ok (.athrow, 1) := by decide +kernel
theorem dJ3_checkFromIndexSize_8c36e_23 : decode cJ3_checkFromIndexSize_8c36e 23 = .ok (.iload_n 0, 1) := by decide +kernel
theorem dJ3_checkFromIndexSize_8c36e_24 : decode cJ3_checkFromIndexSize_8c36e 24 = .ok (.ireturn, 1) := by decide +kernel
theorem dL_law_0 : decode cL_law 0 = .ok (.new 7, 3) := by decide +kernel
theorem dL_law_3 : decode cL_law 3 = .ok (.dup, 1) := by decide +kernel
theorem dL_law_4 : decode cL_law 4 = .ok (.invokespecial 9, 3) := by decide +kernel
theorem dL_law_7 : decode cL_law 7 = .ok (.astore_n 1, 1) := by decide +kernel
theorem dL_law_8 : decode cL_law 8 = .ok (.new 10, 3) := by decide +kernel
theorem dL_law_11 : decode cL_law 11 = .ok (.dup, 1) := by decide +kernel
theorem dL_law_12 : decode cL_law 12 = .ok (.invokespecial 12, 3) := by decide +kernel
theorem dL_law_15 : decode cL_law 15 = .ok (.astore_n 2, 1) := by decide +kernel
theorem dL_law_16 : decode cL_law 16 = .ok (.iconst 0, 1) := by decide +kernel
theorem dL_law_17 : decode cL_law 17 = .ok (.istore_n 3, 1) := by decide +kernel
theorem dL_law_18 : decode cL_law 18 = .ok (.iload_n 3, 1) := by decide +kernel
theorem dL_law_19 : decode cL_law 19 = .ok (.aload_n 0, 1) := by decide +kernel
theorem dL_law_20 : decode cL_law 20 = .ok (.arraylength, 1) := by decide +kernel
theorem dL_law_21 : decode cL_law 21 = .ok (.iconst 5, 1) := by decide +kernel
theorem dL_law_22 : decode cL_law 22 = .ok (.isub, 1) := by decide +kernel
theorem dL_law_23 : decode cL_law 23 = .ok (.if_icmp .gt 944, 3) := by decide +kernel
theorem dL_law_26 : decode cL_law 26 = .ok (.aload_n 0, 1) := by decide +kernel
theorem dL_law_27 : decode cL_law 27 = .ok (.iload_n 3, 1) := by decide +kernel
theorem dL_law_28 : decode cL_law 28 = .ok (.iaload, 1) := by decide +kernel
theorem dL_law_29 : decode cL_law 29 = .ok (.bipush 31, 2) := by decide +kernel
theorem dL_law_31 : decode cL_law 31 = .ok (.iand, 1) := by decide +kernel
theorem dL_law_32 : decode cL_law 32 = .ok (.tableswitch 929 0 28 #[132, 155, 168, 181, 194, 227, 260, 293, 326, 359, 392, 445, 478, 511, 524, 547, 570, 603, 626, 669, 692, 725, 748, 781, 814, 847, 880, 893, 906], 132) := by decide +kernel
theorem dL_law_164 : decode cL_law 164 = .ok (.aload_n 1, 1) := by decide +kernel
theorem dL_law_165 : decode cL_law 165 = .ok (.aload_n 0, 1) := by decide +kernel
theorem dL_law_166 : decode cL_law 166 = .ok (.iload_n 3, 1) := by decide +kernel
theorem dL_law_167 : decode cL_law 167 = .ok (.iconst 1, 1) := by decide +kernel
theorem dL_law_168 : decode cL_law 168 = .ok (.iadd, 1) := by decide +kernel
theorem dL_law_169 : decode cL_law 169 = .ok (.iaload, 1) := by decide +kernel
theorem dL_law_170 : decode cL_law 170 = .ok (.invokevirtual 13, 3) := by decide +kernel
theorem dL_law_173 : decode cL_law 173 = .ok (.aload_n 2, 1) := by decide +kernel
theorem dL_law_174 : decode cL_law 174 = .ok (.aload_n 0, 1) := by decide +kernel
theorem dL_law_175 : decode cL_law 175 = .ok (.iload_n 3, 1) := by decide +kernel
theorem dL_law_176 : decode cL_law 176 = .ok (.iconst 1, 1) := by decide +kernel
theorem dL_law_177 : decode cL_law 177 = .ok (.iadd, 1) := by decide +kernel
theorem dL_law_178 : decode cL_law 178 = .ok (.iaload, 1) := by decide +kernel
theorem dL_law_179 : decode cL_law 179 = .ok (.invokevirtual 17, 3) := by decide +kernel
theorem dL_law_182 : decode cL_law 182 = .ok (.if_icmp .eq 779, 3) := by decide +kernel
theorem dL_law_185 : decode cL_law 185 = .ok (.iconst 0, 1) := by decide +kernel
theorem dL_law_186 : decode cL_law 186 = .ok (.ireturn, 1) := by decide +kernel
theorem dL_law_187 : decode cL_law 187 = .ok (.aload_n 1, 1) := by decide +kernel
theorem dL_law_188 : decode cL_law 188 = .ok (.invokevirtual 18, 3) := by decide +kernel
theorem dL_law_191 : decode cL_law 191 = .ok (.aload_n 2, 1) := by decide +kernel
theorem dL_law_192 : decode cL_law 192 = .ok (.invokevirtual 22, 3) := by decide +kernel
theorem dL_law_195 : decode cL_law 195 = .ok (.if_icmp .eq 766, 3) := by decide +kernel
theorem dL_law_198 : decode cL_law 198 = .ok (.iconst 0, 1) := by decide +kernel
theorem dL_law_199 : decode cL_law 199 = .ok (.ireturn, 1) := by decide +kernel
theorem dL_law_200 : decode cL_law 200 = .ok (.aload_n 1, 1) := by decide +kernel
theorem dL_law_201 : decode cL_law 201 = .ok (.invokevirtual 23, 3) := by decide +kernel
theorem dL_law_204 : decode cL_law 204 = .ok (.aload_n 2, 1) := by decide +kernel
theorem dL_law_205 : decode cL_law 205 = .ok (.invokevirtual 26, 3) := by decide +kernel
theorem dL_law_208 : decode cL_law 208 = .ok (.if_icmp .eq 753, 3) := by decide +kernel
theorem dL_law_211 : decode cL_law 211 = .ok (.iconst 0, 1) := by decide +kernel
theorem dL_law_212 : decode cL_law 212 = .ok (.ireturn, 1) := by decide +kernel
theorem dL_law_213 : decode cL_law 213 = .ok (.aload_n 1, 1) := by decide +kernel
theorem dL_law_214 : decode cL_law 214 = .ok (.invokevirtual 27, 3) := by decide +kernel
theorem dL_law_217 : decode cL_law 217 = .ok (.aload_n 2, 1) := by decide +kernel
theorem dL_law_218 : decode cL_law 218 = .ok (.invokevirtual 30, 3) := by decide +kernel
theorem dL_law_221 : decode cL_law 221 = .ok (.if_icmp .eq 740, 3) := by decide +kernel
theorem dL_law_224 : decode cL_law 224 = .ok (.iconst 0, 1) := by decide +kernel
theorem dL_law_225 : decode cL_law 225 = .ok (.ireturn, 1) := by decide +kernel
theorem dL_law_226 : decode cL_law 226 = .ok (.aload_n 1, 1) := by decide +kernel
theorem dL_law_227 : decode cL_law 227 = .ok (.aload_n 0, 1) := by decide +kernel
theorem dL_law_228 : decode cL_law 228 = .ok (.iload_n 3, 1) := by decide +kernel
theorem dL_law_229 : decode cL_law 229 = .ok (.iconst 1, 1) := by decide +kernel
theorem dL_law_230 : decode cL_law 230 = .ok (.iadd, 1) := by decide +kernel
theorem dL_law_231 : decode cL_law 231 = .ok (.iaload, 1) := by decide +kernel
theorem dL_law_232 : decode cL_law 232 = .ok (.aload_n 0, 1) := by decide +kernel
theorem dL_law_233 : decode cL_law 233 = .ok (.iload_n 3, 1) := by decide +kernel
theorem dL_law_234 : decode cL_law 234 = .ok (.iconst 2, 1) := by decide +kernel
theorem dL_law_235 : decode cL_law 235 = .ok (.iadd, 1) := by decide +kernel
theorem dL_law_236 : decode cL_law 236 = .ok (.iaload, 1) := by decide +kernel
theorem dL_law_237 : decode cL_law 237 = .ok (.invokevirtual 31, 3) := by decide +kernel
theorem dL_law_240 : decode cL_law 240 = .ok (.aload_n 2, 1) := by decide +kernel
theorem dL_law_241 : decode cL_law 241 = .ok (.aload_n 0, 1) := by decide +kernel
theorem dL_law_242 : decode cL_law 242 = .ok (.iload_n 3, 1) := by decide +kernel
theorem dL_law_243 : decode cL_law 243 = .ok (.iconst 1, 1) := by decide +kernel
theorem dL_law_244 : decode cL_law 244 = .ok (.iadd, 1) := by decide +kernel
theorem dL_law_245 : decode cL_law 245 = .ok (.iaload, 1) := by decide +kernel
theorem dL_law_246 : decode cL_law 246 = .ok (.aload_n 0, 1) := by decide +kernel
theorem dL_law_247 : decode cL_law 247 = .ok (.iload_n 3, 1) := by decide +kernel
theorem dL_law_248 : decode cL_law 248 = .ok (.iconst 2, 1) := by decide +kernel
theorem dL_law_249 : decode cL_law 249 = .ok (.iadd, 1) := by decide +kernel
theorem dL_law_250 : decode cL_law 250 = .ok (.iaload, 1) := by decide +kernel
theorem dL_law_251 : decode cL_law 251 = .ok (.invokevirtual 35, 3) := by decide +kernel
theorem dL_law_254 : decode cL_law 254 = .ok (.if_icmp .eq 707, 3) := by decide +kernel
theorem dL_law_257 : decode cL_law 257 = .ok (.iconst 0, 1) := by decide +kernel
theorem dL_law_258 : decode cL_law 258 = .ok (.ireturn, 1) := by decide +kernel
theorem dL_law_259 : decode cL_law 259 = .ok (.aload_n 1, 1) := by decide +kernel
theorem dL_law_260 : decode cL_law 260 = .ok (.aload_n 0, 1) := by decide +kernel
theorem dL_law_261 : decode cL_law 261 = .ok (.iload_n 3, 1) := by decide +kernel
theorem dL_law_262 : decode cL_law 262 = .ok (.iconst 1, 1) := by decide +kernel
theorem dL_law_263 : decode cL_law 263 = .ok (.iadd, 1) := by decide +kernel
theorem dL_law_264 : decode cL_law 264 = .ok (.iaload, 1) := by decide +kernel
theorem dL_law_265 : decode cL_law 265 = .ok (.aload_n 0, 1) := by decide +kernel
theorem dL_law_266 : decode cL_law 266 = .ok (.iload_n 3, 1) := by decide +kernel
theorem dL_law_267 : decode cL_law 267 = .ok (.iconst 2, 1) := by decide +kernel
theorem dL_law_268 : decode cL_law 268 = .ok (.iadd, 1) := by decide +kernel
theorem dL_law_269 : decode cL_law 269 = .ok (.iaload, 1) := by decide +kernel
theorem dL_law_270 : decode cL_law 270 = .ok (.invokevirtual 36, 3) := by decide +kernel
theorem dL_law_273 : decode cL_law 273 = .ok (.aload_n 2, 1) := by decide +kernel
theorem dL_law_274 : decode cL_law 274 = .ok (.aload_n 0, 1) := by decide +kernel
theorem dL_law_275 : decode cL_law 275 = .ok (.iload_n 3, 1) := by decide +kernel
theorem dL_law_276 : decode cL_law 276 = .ok (.iconst 1, 1) := by decide +kernel
theorem dL_law_277 : decode cL_law 277 = .ok (.iadd, 1) := by decide +kernel
theorem dL_law_278 : decode cL_law 278 = .ok (.iaload, 1) := by decide +kernel
theorem dL_law_279 : decode cL_law 279 = .ok (.aload_n 0, 1) := by decide +kernel
theorem dL_law_280 : decode cL_law 280 = .ok (.iload_n 3, 1) := by decide +kernel
theorem dL_law_281 : decode cL_law 281 = .ok (.iconst 2, 1) := by decide +kernel
theorem dL_law_282 : decode cL_law 282 = .ok (.iadd, 1) := by decide +kernel
theorem dL_law_283 : decode cL_law 283 = .ok (.iaload, 1) := by decide +kernel
theorem dL_law_284 : decode cL_law 284 = .ok (.invokevirtual 39, 3) := by decide +kernel
theorem dL_law_287 : decode cL_law 287 = .ok (.if_icmp .eq 674, 3) := by decide +kernel
theorem dL_law_290 : decode cL_law 290 = .ok (.iconst 0, 1) := by decide +kernel
theorem dL_law_291 : decode cL_law 291 = .ok (.ireturn, 1) := by decide +kernel
theorem dL_law_292 : decode cL_law 292 = .ok (.aload_n 1, 1) := by decide +kernel
theorem dL_law_293 : decode cL_law 293 = .ok (.aload_n 0, 1) := by decide +kernel
theorem dL_law_294 : decode cL_law 294 = .ok (.iload_n 3, 1) := by decide +kernel
theorem dL_law_295 : decode cL_law 295 = .ok (.iconst 1, 1) := by decide +kernel
theorem dL_law_296 : decode cL_law 296 = .ok (.iadd, 1) := by decide +kernel
theorem dL_law_297 : decode cL_law 297 = .ok (.iaload, 1) := by decide +kernel
theorem dL_law_298 : decode cL_law 298 = .ok (.aload_n 0, 1) := by decide +kernel
theorem dL_law_299 : decode cL_law 299 = .ok (.iload_n 3, 1) := by decide +kernel
theorem dL_law_300 : decode cL_law 300 = .ok (.iconst 2, 1) := by decide +kernel
theorem dL_law_301 : decode cL_law 301 = .ok (.iadd, 1) := by decide +kernel
theorem dL_law_302 : decode cL_law 302 = .ok (.iaload, 1) := by decide +kernel
theorem dL_law_303 : decode cL_law 303 = .ok (.invokevirtual 40, 3) := by decide +kernel
theorem dL_law_306 : decode cL_law 306 = .ok (.aload_n 2, 1) := by decide +kernel
theorem dL_law_307 : decode cL_law 307 = .ok (.aload_n 0, 1) := by decide +kernel
theorem dL_law_308 : decode cL_law 308 = .ok (.iload_n 3, 1) := by decide +kernel
theorem dL_law_309 : decode cL_law 309 = .ok (.iconst 1, 1) := by decide +kernel
theorem dL_law_310 : decode cL_law 310 = .ok (.iadd, 1) := by decide +kernel
theorem dL_law_311 : decode cL_law 311 = .ok (.iaload, 1) := by decide +kernel
theorem dL_law_312 : decode cL_law 312 = .ok (.aload_n 0, 1) := by decide +kernel
theorem dL_law_313 : decode cL_law 313 = .ok (.iload_n 3, 1) := by decide +kernel
theorem dL_law_314 : decode cL_law 314 = .ok (.iconst 2, 1) := by decide +kernel
theorem dL_law_315 : decode cL_law 315 = .ok (.iadd, 1) := by decide +kernel
theorem dL_law_316 : decode cL_law 316 = .ok (.iaload, 1) := by decide +kernel
theorem dL_law_317 : decode cL_law 317 = .ok (.invokevirtual 43, 3) := by decide +kernel
theorem dL_law_320 : decode cL_law 320 = .ok (.if_icmp .eq 641, 3) := by decide +kernel
theorem dL_law_323 : decode cL_law 323 = .ok (.iconst 0, 1) := by decide +kernel
theorem dL_law_324 : decode cL_law 324 = .ok (.ireturn, 1) := by decide +kernel
theorem dL_law_325 : decode cL_law 325 = .ok (.aload_n 1, 1) := by decide +kernel
theorem dL_law_326 : decode cL_law 326 = .ok (.aload_n 0, 1) := by decide +kernel
theorem dL_law_327 : decode cL_law 327 = .ok (.iload_n 3, 1) := by decide +kernel
theorem dL_law_328 : decode cL_law 328 = .ok (.iconst 1, 1) := by decide +kernel
theorem dL_law_329 : decode cL_law 329 = .ok (.iadd, 1) := by decide +kernel
theorem dL_law_330 : decode cL_law 330 = .ok (.iaload, 1) := by decide +kernel
theorem dL_law_331 : decode cL_law 331 = .ok (.aload_n 0, 1) := by decide +kernel
theorem dL_law_332 : decode cL_law 332 = .ok (.iload_n 3, 1) := by decide +kernel
theorem dL_law_333 : decode cL_law 333 = .ok (.iconst 2, 1) := by decide +kernel
theorem dL_law_334 : decode cL_law 334 = .ok (.iadd, 1) := by decide +kernel
theorem dL_law_335 : decode cL_law 335 = .ok (.iaload, 1) := by decide +kernel
theorem dL_law_336 : decode cL_law 336 = .ok (.invokevirtual 44, 3) := by decide +kernel
theorem dL_law_339 : decode cL_law 339 = .ok (.aload_n 2, 1) := by decide +kernel
theorem dL_law_340 : decode cL_law 340 = .ok (.aload_n 0, 1) := by decide +kernel
theorem dL_law_341 : decode cL_law 341 = .ok (.iload_n 3, 1) := by decide +kernel
theorem dL_law_342 : decode cL_law 342 = .ok (.iconst 1, 1) := by decide +kernel
theorem dL_law_343 : decode cL_law 343 = .ok (.iadd, 1) := by decide +kernel
theorem dL_law_344 : decode cL_law 344 = .ok (.iaload, 1) := by decide +kernel
theorem dL_law_345 : decode cL_law 345 = .ok (.aload_n 0, 1) := by decide +kernel
theorem dL_law_346 : decode cL_law 346 = .ok (.iload_n 3, 1) := by decide +kernel
theorem dL_law_347 : decode cL_law 347 = .ok (.iconst 2, 1) := by decide +kernel
theorem dL_law_348 : decode cL_law 348 = .ok (.iadd, 1) := by decide +kernel
theorem dL_law_349 : decode cL_law 349 = .ok (.iaload, 1) := by decide +kernel
theorem dL_law_350 : decode cL_law 350 = .ok (.invokevirtual 47, 3) := by decide +kernel
theorem dL_law_353 : decode cL_law 353 = .ok (.if_icmp .eq 608, 3) := by decide +kernel
theorem dL_law_356 : decode cL_law 356 = .ok (.iconst 0, 1) := by decide +kernel
theorem dL_law_357 : decode cL_law 357 = .ok (.ireturn, 1) := by decide +kernel
theorem dL_law_358 : decode cL_law 358 = .ok (.aload_n 1, 1) := by decide +kernel
theorem dL_law_359 : decode cL_law 359 = .ok (.aload_n 0, 1) := by decide +kernel
theorem dL_law_360 : decode cL_law 360 = .ok (.iload_n 3, 1) := by decide +kernel
theorem dL_law_361 : decode cL_law 361 = .ok (.iconst 1, 1) := by decide +kernel
theorem dL_law_362 : decode cL_law 362 = .ok (.iadd, 1) := by decide +kernel
theorem dL_law_363 : decode cL_law 363 = .ok (.iaload, 1) := by decide +kernel
theorem dL_law_364 : decode cL_law 364 = .ok (.aload_n 0, 1) := by decide +kernel
theorem dL_law_365 : decode cL_law 365 = .ok (.iload_n 3, 1) := by decide +kernel
theorem dL_law_366 : decode cL_law 366 = .ok (.iconst 2, 1) := by decide +kernel
theorem dL_law_367 : decode cL_law 367 = .ok (.iadd, 1) := by decide +kernel
theorem dL_law_368 : decode cL_law 368 = .ok (.iaload, 1) := by decide +kernel
theorem dL_law_369 : decode cL_law 369 = .ok (.invokevirtual 48, 3) := by decide +kernel
theorem dL_law_372 : decode cL_law 372 = .ok (.aload_n 2, 1) := by decide +kernel
theorem dL_law_373 : decode cL_law 373 = .ok (.aload_n 0, 1) := by decide +kernel
theorem dL_law_374 : decode cL_law 374 = .ok (.iload_n 3, 1) := by decide +kernel
theorem dL_law_375 : decode cL_law 375 = .ok (.iconst 1, 1) := by decide +kernel
theorem dL_law_376 : decode cL_law 376 = .ok (.iadd, 1) := by decide +kernel
theorem dL_law_377 : decode cL_law 377 = .ok (.iaload, 1) := by decide +kernel
theorem dL_law_378 : decode cL_law 378 = .ok (.aload_n 0, 1) := by decide +kernel
theorem dL_law_379 : decode cL_law 379 = .ok (.iload_n 3, 1) := by decide +kernel
theorem dL_law_380 : decode cL_law 380 = .ok (.iconst 2, 1) := by decide +kernel
theorem dL_law_381 : decode cL_law 381 = .ok (.iadd, 1) := by decide +kernel
theorem dL_law_382 : decode cL_law 382 = .ok (.iaload, 1) := by decide +kernel
theorem dL_law_383 : decode cL_law 383 = .ok (.invokevirtual 51, 3) := by decide +kernel
theorem dL_law_386 : decode cL_law 386 = .ok (.if_icmp .eq 575, 3) := by decide +kernel
theorem dL_law_389 : decode cL_law 389 = .ok (.iconst 0, 1) := by decide +kernel
theorem dL_law_390 : decode cL_law 390 = .ok (.ireturn, 1) := by decide +kernel
theorem dL_law_391 : decode cL_law 391 = .ok (.aload_n 1, 1) := by decide +kernel
theorem dL_law_392 : decode cL_law 392 = .ok (.aload_n 0, 1) := by decide +kernel
theorem dL_law_393 : decode cL_law 393 = .ok (.iload_n 3, 1) := by decide +kernel
theorem dL_law_394 : decode cL_law 394 = .ok (.iconst 1, 1) := by decide +kernel
theorem dL_law_395 : decode cL_law 395 = .ok (.iadd, 1) := by decide +kernel
theorem dL_law_396 : decode cL_law 396 = .ok (.iaload, 1) := by decide +kernel
theorem dL_law_397 : decode cL_law 397 = .ok (.aload_n 0, 1) := by decide +kernel
theorem dL_law_398 : decode cL_law 398 = .ok (.iload_n 3, 1) := by decide +kernel
theorem dL_law_399 : decode cL_law 399 = .ok (.iconst 2, 1) := by decide +kernel
theorem dL_law_400 : decode cL_law 400 = .ok (.iadd, 1) := by decide +kernel
theorem dL_law_401 : decode cL_law 401 = .ok (.iaload, 1) := by decide +kernel
theorem dL_law_402 : decode cL_law 402 = .ok (.invokevirtual 52, 3) := by decide +kernel
theorem dL_law_405 : decode cL_law 405 = .ok (.aload_n 2, 1) := by decide +kernel
theorem dL_law_406 : decode cL_law 406 = .ok (.aload_n 0, 1) := by decide +kernel
theorem dL_law_407 : decode cL_law 407 = .ok (.iload_n 3, 1) := by decide +kernel
theorem dL_law_408 : decode cL_law 408 = .ok (.iconst 1, 1) := by decide +kernel
theorem dL_law_409 : decode cL_law 409 = .ok (.iadd, 1) := by decide +kernel
theorem dL_law_410 : decode cL_law 410 = .ok (.iaload, 1) := by decide +kernel
theorem dL_law_411 : decode cL_law 411 = .ok (.aload_n 0, 1) := by decide +kernel
theorem dL_law_412 : decode cL_law 412 = .ok (.iload_n 3, 1) := by decide +kernel
theorem dL_law_413 : decode cL_law 413 = .ok (.iconst 2, 1) := by decide +kernel
theorem dL_law_414 : decode cL_law 414 = .ok (.iadd, 1) := by decide +kernel
theorem dL_law_415 : decode cL_law 415 = .ok (.iaload, 1) := by decide +kernel
theorem dL_law_416 : decode cL_law 416 = .ok (.invokevirtual 55, 3) := by decide +kernel
theorem dL_law_419 : decode cL_law 419 = .ok (.if_icmp .eq 542, 3) := by decide +kernel
theorem dL_law_422 : decode cL_law 422 = .ok (.iconst 0, 1) := by decide +kernel
theorem dL_law_423 : decode cL_law 423 = .ok (.ireturn, 1) := by decide +kernel
theorem dL_law_424 : decode cL_law 424 = .ok (.aload_n 1, 1) := by decide +kernel
theorem dL_law_425 : decode cL_law 425 = .ok (.aload_n 0, 1) := by decide +kernel
theorem dL_law_426 : decode cL_law 426 = .ok (.iload_n 3, 1) := by decide +kernel
theorem dL_law_427 : decode cL_law 427 = .ok (.iconst 1, 1) := by decide +kernel
theorem dL_law_428 : decode cL_law 428 = .ok (.iadd, 1) := by decide +kernel
theorem dL_law_429 : decode cL_law 429 = .ok (.iaload, 1) := by decide +kernel
theorem dL_law_430 : decode cL_law 430 = .ok (.aload_n 0, 1) := by decide +kernel
theorem dL_law_431 : decode cL_law 431 = .ok (.iload_n 3, 1) := by decide +kernel
theorem dL_law_432 : decode cL_law 432 = .ok (.iconst 2, 1) := by decide +kernel
theorem dL_law_433 : decode cL_law 433 = .ok (.iadd, 1) := by decide +kernel
theorem dL_law_434 : decode cL_law 434 = .ok (.iaload, 1) := by decide +kernel
theorem dL_law_435 : decode cL_law 435 = .ok (.aload_n 0, 1) := by decide +kernel
theorem dL_law_436 : decode cL_law 436 = .ok (.iload_n 3, 1) := by decide +kernel
theorem dL_law_437 : decode cL_law 437 = .ok (.iconst 3, 1) := by decide +kernel
theorem dL_law_438 : decode cL_law 438 = .ok (.iadd, 1) := by decide +kernel
theorem dL_law_439 : decode cL_law 439 = .ok (.iaload, 1) := by decide +kernel
theorem dL_law_440 : decode cL_law 440 = .ok (.aload_n 0, 1) := by decide +kernel
theorem dL_law_441 : decode cL_law 441 = .ok (.iload_n 3, 1) := by decide +kernel
theorem dL_law_442 : decode cL_law 442 = .ok (.iconst 4, 1) := by decide +kernel
theorem dL_law_443 : decode cL_law 443 = .ok (.iadd, 1) := by decide +kernel
theorem dL_law_444 : decode cL_law 444 = .ok (.iaload, 1) := by decide +kernel
theorem dL_law_445 : decode cL_law 445 = .ok (.invokevirtual 56, 3) := by decide +kernel
theorem dL_law_448 : decode cL_law 448 = .ok (.aload_n 2, 1) := by decide +kernel
theorem dL_law_449 : decode cL_law 449 = .ok (.aload_n 0, 1) := by decide +kernel
theorem dL_law_450 : decode cL_law 450 = .ok (.iload_n 3, 1) := by decide +kernel
theorem dL_law_451 : decode cL_law 451 = .ok (.iconst 1, 1) := by decide +kernel
theorem dL_law_452 : decode cL_law 452 = .ok (.iadd, 1) := by decide +kernel
theorem dL_law_453 : decode cL_law 453 = .ok (.iaload, 1) := by decide +kernel
theorem dL_law_454 : decode cL_law 454 = .ok (.aload_n 0, 1) := by decide +kernel
theorem dL_law_455 : decode cL_law 455 = .ok (.iload_n 3, 1) := by decide +kernel
theorem dL_law_456 : decode cL_law 456 = .ok (.iconst 2, 1) := by decide +kernel
theorem dL_law_457 : decode cL_law 457 = .ok (.iadd, 1) := by decide +kernel
theorem dL_law_458 : decode cL_law 458 = .ok (.iaload, 1) := by decide +kernel
theorem dL_law_459 : decode cL_law 459 = .ok (.aload_n 0, 1) := by decide +kernel
theorem dL_law_460 : decode cL_law 460 = .ok (.iload_n 3, 1) := by decide +kernel
theorem dL_law_461 : decode cL_law 461 = .ok (.iconst 3, 1) := by decide +kernel
theorem dL_law_462 : decode cL_law 462 = .ok (.iadd, 1) := by decide +kernel
theorem dL_law_463 : decode cL_law 463 = .ok (.iaload, 1) := by decide +kernel
theorem dL_law_464 : decode cL_law 464 = .ok (.aload_n 0, 1) := by decide +kernel
theorem dL_law_465 : decode cL_law 465 = .ok (.iload_n 3, 1) := by decide +kernel
theorem dL_law_466 : decode cL_law 466 = .ok (.iconst 4, 1) := by decide +kernel
theorem dL_law_467 : decode cL_law 467 = .ok (.iadd, 1) := by decide +kernel
theorem dL_law_468 : decode cL_law 468 = .ok (.iaload, 1) := by decide +kernel
theorem dL_law_469 : decode cL_law 469 = .ok (.invokevirtual 60, 3) := by decide +kernel
theorem dL_law_472 : decode cL_law 472 = .ok (.if_icmp .eq 489, 3) := by decide +kernel
theorem dL_law_475 : decode cL_law 475 = .ok (.iconst 0, 1) := by decide +kernel
theorem dL_law_476 : decode cL_law 476 = .ok (.ireturn, 1) := by decide +kernel
theorem dL_law_477 : decode cL_law 477 = .ok (.aload_n 1, 1) := by decide +kernel
theorem dL_law_478 : decode cL_law 478 = .ok (.aload_n 0, 1) := by decide +kernel
theorem dL_law_479 : decode cL_law 479 = .ok (.iload_n 3, 1) := by decide +kernel
theorem dL_law_480 : decode cL_law 480 = .ok (.iconst 1, 1) := by decide +kernel
theorem dL_law_481 : decode cL_law 481 = .ok (.iadd, 1) := by decide +kernel
theorem dL_law_482 : decode cL_law 482 = .ok (.iaload, 1) := by decide +kernel
theorem dL_law_483 : decode cL_law 483 = .ok (.aload_n 0, 1) := by decide +kernel
theorem dL_law_484 : decode cL_law 484 = .ok (.iload_n 3, 1) := by decide +kernel
theorem dL_law_485 : decode cL_law 485 = .ok (.iconst 2, 1) := by decide +kernel
theorem dL_law_486 : decode cL_law 486 = .ok (.iadd, 1) := by decide +kernel
theorem dL_law_487 : decode cL_law 487 = .ok (.iaload, 1) := by decide +kernel
theorem dL_law_488 : decode cL_law 488 = .ok (.invokevirtual 61, 3) := by decide +kernel
theorem dL_law_491 : decode cL_law 491 = .ok (.aload_n 2, 1) := by decide +kernel
theorem dL_law_492 : decode cL_law 492 = .ok (.aload_n 0, 1) := by decide +kernel
theorem dL_law_493 : decode cL_law 493 = .ok (.iload_n 3, 1) := by decide +kernel
theorem dL_law_494 : decode cL_law 494 = .ok (.iconst 1, 1) := by decide +kernel
theorem dL_law_495 : decode cL_law 495 = .ok (.iadd, 1) := by decide +kernel
theorem dL_law_496 : decode cL_law 496 = .ok (.iaload, 1) := by decide +kernel
theorem dL_law_497 : decode cL_law 497 = .ok (.aload_n 0, 1) := by decide +kernel
theorem dL_law_498 : decode cL_law 498 = .ok (.iload_n 3, 1) := by decide +kernel
theorem dL_law_499 : decode cL_law 499 = .ok (.iconst 2, 1) := by decide +kernel
theorem dL_law_500 : decode cL_law 500 = .ok (.iadd, 1) := by decide +kernel
theorem dL_law_501 : decode cL_law 501 = .ok (.iaload, 1) := by decide +kernel
theorem dL_law_502 : decode cL_law 502 = .ok (.invokevirtual 64, 3) := by decide +kernel
theorem dL_law_505 : decode cL_law 505 = .ok (.if_icmp .eq 456, 3) := by decide +kernel
theorem dL_law_508 : decode cL_law 508 = .ok (.iconst 0, 1) := by decide +kernel
theorem dL_law_509 : decode cL_law 509 = .ok (.ireturn, 1) := by decide +kernel
theorem dL_law_510 : decode cL_law 510 = .ok (.aload_n 1, 1) := by decide +kernel
theorem dL_law_511 : decode cL_law 511 = .ok (.aload_n 0, 1) := by decide +kernel
theorem dL_law_512 : decode cL_law 512 = .ok (.iload_n 3, 1) := by decide +kernel
theorem dL_law_513 : decode cL_law 513 = .ok (.iconst 1, 1) := by decide +kernel
theorem dL_law_514 : decode cL_law 514 = .ok (.iadd, 1) := by decide +kernel
theorem dL_law_515 : decode cL_law 515 = .ok (.iaload, 1) := by decide +kernel
theorem dL_law_516 : decode cL_law 516 = .ok (.aload_n 0, 1) := by decide +kernel
theorem dL_law_517 : decode cL_law 517 = .ok (.iload_n 3, 1) := by decide +kernel
theorem dL_law_518 : decode cL_law 518 = .ok (.iconst 2, 1) := by decide +kernel
theorem dL_law_519 : decode cL_law 519 = .ok (.iadd, 1) := by decide +kernel
theorem dL_law_520 : decode cL_law 520 = .ok (.iaload, 1) := by decide +kernel
theorem dL_law_521 : decode cL_law 521 = .ok (.invokevirtual 65, 3) := by decide +kernel
theorem dL_law_524 : decode cL_law 524 = .ok (.aload_n 2, 1) := by decide +kernel
theorem dL_law_525 : decode cL_law 525 = .ok (.aload_n 0, 1) := by decide +kernel
theorem dL_law_526 : decode cL_law 526 = .ok (.iload_n 3, 1) := by decide +kernel
theorem dL_law_527 : decode cL_law 527 = .ok (.iconst 1, 1) := by decide +kernel
theorem dL_law_528 : decode cL_law 528 = .ok (.iadd, 1) := by decide +kernel
theorem dL_law_529 : decode cL_law 529 = .ok (.iaload, 1) := by decide +kernel
theorem dL_law_530 : decode cL_law 530 = .ok (.aload_n 0, 1) := by decide +kernel
theorem dL_law_531 : decode cL_law 531 = .ok (.iload_n 3, 1) := by decide +kernel
theorem dL_law_532 : decode cL_law 532 = .ok (.iconst 2, 1) := by decide +kernel
theorem dL_law_533 : decode cL_law 533 = .ok (.iadd, 1) := by decide +kernel
theorem dL_law_534 : decode cL_law 534 = .ok (.iaload, 1) := by decide +kernel
theorem dL_law_535 : decode cL_law 535 = .ok (.invokevirtual 68, 3) := by decide +kernel
theorem dL_law_538 : decode cL_law 538 = .ok (.if_icmp .eq 423, 3) := by decide +kernel
theorem dL_law_541 : decode cL_law 541 = .ok (.iconst 0, 1) := by decide +kernel
theorem dL_law_542 : decode cL_law 542 = .ok (.ireturn, 1) := by decide +kernel
theorem dL_law_543 : decode cL_law 543 = .ok (.aload_n 1, 1) := by decide +kernel
theorem dL_law_544 : decode cL_law 544 = .ok (.invokevirtual 69, 3) := by decide +kernel
theorem dL_law_547 : decode cL_law 547 = .ok (.aload_n 2, 1) := by decide +kernel
theorem dL_law_548 : decode cL_law 548 = .ok (.invokevirtual 72, 3) := by decide +kernel
theorem dL_law_551 : decode cL_law 551 = .ok (.if_icmp .eq 410, 3) := by decide +kernel
theorem dL_law_554 : decode cL_law 554 = .ok (.iconst 0, 1) := by decide +kernel
theorem dL_law_555 : decode cL_law 555 = .ok (.ireturn, 1) := by decide +kernel
theorem dL_law_556 : decode cL_law 556 = .ok (.aload_n 1, 1) := by decide +kernel
theorem dL_law_557 : decode cL_law 557 = .ok (.aload_n 0, 1) := by decide +kernel
theorem dL_law_558 : decode cL_law 558 = .ok (.iload_n 3, 1) := by decide +kernel
theorem dL_law_559 : decode cL_law 559 = .ok (.iconst 1, 1) := by decide +kernel
theorem dL_law_560 : decode cL_law 560 = .ok (.iadd, 1) := by decide +kernel
theorem dL_law_561 : decode cL_law 561 = .ok (.iaload, 1) := by decide +kernel
theorem dL_law_562 : decode cL_law 562 = .ok (.invokevirtual 73, 3) := by decide +kernel
theorem dL_law_565 : decode cL_law 565 = .ok (.aload_n 2, 1) := by decide +kernel
theorem dL_law_566 : decode cL_law 566 = .ok (.aload_n 0, 1) := by decide +kernel
theorem dL_law_567 : decode cL_law 567 = .ok (.iload_n 3, 1) := by decide +kernel
theorem dL_law_568 : decode cL_law 568 = .ok (.iconst 1, 1) := by decide +kernel
theorem dL_law_569 : decode cL_law 569 = .ok (.iadd, 1) := by decide +kernel
theorem dL_law_570 : decode cL_law 570 = .ok (.iaload, 1) := by decide +kernel
theorem dL_law_571 : decode cL_law 571 = .ok (.invokevirtual 76, 3) := by decide +kernel
theorem dL_law_574 : decode cL_law 574 = .ok (.if_icmp .eq 387, 3) := by decide +kernel
theorem dL_law_577 : decode cL_law 577 = .ok (.iconst 0, 1) := by decide +kernel
theorem dL_law_578 : decode cL_law 578 = .ok (.ireturn, 1) := by decide +kernel
theorem dL_law_579 : decode cL_law 579 = .ok (.aload_n 1, 1) := by decide +kernel
theorem dL_law_580 : decode cL_law 580 = .ok (.aload_n 0, 1) := by decide +kernel
theorem dL_law_581 : decode cL_law 581 = .ok (.iload_n 3, 1) := by decide +kernel
theorem dL_law_582 : decode cL_law 582 = .ok (.iconst 1, 1) := by decide +kernel
theorem dL_law_583 : decode cL_law 583 = .ok (.iadd, 1) := by decide +kernel
theorem dL_law_584 : decode cL_law 584 = .ok (.iaload, 1) := by decide +kernel
theorem dL_law_585 : decode cL_law 585 = .ok (.invokevirtual 77, 3) := by decide +kernel
theorem dL_law_588 : decode cL_law 588 = .ok (.aload_n 2, 1) := by decide +kernel
theorem dL_law_589 : decode cL_law 589 = .ok (.aload_n 0, 1) := by decide +kernel
theorem dL_law_590 : decode cL_law 590 = .ok (.iload_n 3, 1) := by decide +kernel
theorem dL_law_591 : decode cL_law 591 = .ok (.iconst 1, 1) := by decide +kernel
theorem dL_law_592 : decode cL_law 592 = .ok (.iadd, 1) := by decide +kernel
theorem dL_law_593 : decode cL_law 593 = .ok (.iaload, 1) := by decide +kernel
theorem dL_law_594 : decode cL_law 594 = .ok (.invokevirtual 80, 3) := by decide +kernel
theorem dL_law_597 : decode cL_law 597 = .ok (.if_icmp .eq 364, 3) := by decide +kernel
theorem dL_law_600 : decode cL_law 600 = .ok (.iconst 0, 1) := by decide +kernel
theorem dL_law_601 : decode cL_law 601 = .ok (.ireturn, 1) := by decide +kernel
theorem dL_law_602 : decode cL_law 602 = .ok (.aload_n 1, 1) := by decide +kernel
theorem dL_law_603 : decode cL_law 603 = .ok (.aload_n 0, 1) := by decide +kernel
theorem dL_law_604 : decode cL_law 604 = .ok (.iload_n 3, 1) := by decide +kernel
theorem dL_law_605 : decode cL_law 605 = .ok (.iconst 1, 1) := by decide +kernel
theorem dL_law_606 : decode cL_law 606 = .ok (.iadd, 1) := by decide +kernel
theorem dL_law_607 : decode cL_law 607 = .ok (.iaload, 1) := by decide +kernel
theorem dL_law_608 : decode cL_law 608 = .ok (.aload_n 0, 1) := by decide +kernel
theorem dL_law_609 : decode cL_law 609 = .ok (.iload_n 3, 1) := by decide +kernel
theorem dL_law_610 : decode cL_law 610 = .ok (.iconst 2, 1) := by decide +kernel
theorem dL_law_611 : decode cL_law 611 = .ok (.iadd, 1) := by decide +kernel
theorem dL_law_612 : decode cL_law 612 = .ok (.iaload, 1) := by decide +kernel
theorem dL_law_613 : decode cL_law 613 = .ok (.invokevirtual 81, 3) := by decide +kernel
theorem dL_law_616 : decode cL_law 616 = .ok (.aload_n 2, 1) := by decide +kernel
theorem dL_law_617 : decode cL_law 617 = .ok (.aload_n 0, 1) := by decide +kernel
theorem dL_law_618 : decode cL_law 618 = .ok (.iload_n 3, 1) := by decide +kernel
theorem dL_law_619 : decode cL_law 619 = .ok (.iconst 1, 1) := by decide +kernel
theorem dL_law_620 : decode cL_law 620 = .ok (.iadd, 1) := by decide +kernel
theorem dL_law_621 : decode cL_law 621 = .ok (.iaload, 1) := by decide +kernel
theorem dL_law_622 : decode cL_law 622 = .ok (.aload_n 0, 1) := by decide +kernel
theorem dL_law_623 : decode cL_law 623 = .ok (.iload_n 3, 1) := by decide +kernel
theorem dL_law_624 : decode cL_law 624 = .ok (.iconst 2, 1) := by decide +kernel
theorem dL_law_625 : decode cL_law 625 = .ok (.iadd, 1) := by decide +kernel
theorem dL_law_626 : decode cL_law 626 = .ok (.iaload, 1) := by decide +kernel
theorem dL_law_627 : decode cL_law 627 = .ok (.invokevirtual 84, 3) := by decide +kernel
theorem dL_law_630 : decode cL_law 630 = .ok (.if_icmp .eq 331, 3) := by decide +kernel
theorem dL_law_633 : decode cL_law 633 = .ok (.iconst 0, 1) := by decide +kernel
theorem dL_law_634 : decode cL_law 634 = .ok (.ireturn, 1) := by decide +kernel
theorem dL_law_635 : decode cL_law 635 = .ok (.aload_n 1, 1) := by decide +kernel
theorem dL_law_636 : decode cL_law 636 = .ok (.aload_n 0, 1) := by decide +kernel
theorem dL_law_637 : decode cL_law 637 = .ok (.iload_n 3, 1) := by decide +kernel
theorem dL_law_638 : decode cL_law 638 = .ok (.iconst 1, 1) := by decide +kernel
theorem dL_law_639 : decode cL_law 639 = .ok (.iadd, 1) := by decide +kernel
theorem dL_law_640 : decode cL_law 640 = .ok (.iaload, 1) := by decide +kernel
theorem dL_law_641 : decode cL_law 641 = .ok (.invokevirtual 85, 3) := by decide +kernel
theorem dL_law_644 : decode cL_law 644 = .ok (.aload_n 2, 1) := by decide +kernel
theorem dL_law_645 : decode cL_law 645 = .ok (.aload_n 0, 1) := by decide +kernel
theorem dL_law_646 : decode cL_law 646 = .ok (.iload_n 3, 1) := by decide +kernel
theorem dL_law_647 : decode cL_law 647 = .ok (.iconst 1, 1) := by decide +kernel
theorem dL_law_648 : decode cL_law 648 = .ok (.iadd, 1) := by decide +kernel
theorem dL_law_649 : decode cL_law 649 = .ok (.iaload, 1) := by decide +kernel
theorem dL_law_650 : decode cL_law 650 = .ok (.invokevirtual 88, 3) := by decide +kernel
theorem dL_law_653 : decode cL_law 653 = .ok (.if_icmp .eq 308, 3) := by decide +kernel
theorem dL_law_656 : decode cL_law 656 = .ok (.iconst 0, 1) := by decide +kernel
theorem dL_law_657 : decode cL_law 657 = .ok (.ireturn, 1) := by decide +kernel
theorem dL_law_658 : decode cL_law 658 = .ok (.aload_n 1, 1) := by decide +kernel
theorem dL_law_659 : decode cL_law 659 = .ok (.aload_n 0, 1) := by decide +kernel
theorem dL_law_660 : decode cL_law 660 = .ok (.iload_n 3, 1) := by decide +kernel
theorem dL_law_661 : decode cL_law 661 = .ok (.iconst 1, 1) := by decide +kernel
theorem dL_law_662 : decode cL_law 662 = .ok (.iadd, 1) := by decide +kernel
theorem dL_law_663 : decode cL_law 663 = .ok (.iaload, 1) := by decide +kernel
theorem dL_law_664 : decode cL_law 664 = .ok (.aload_n 0, 1) := by decide +kernel
theorem dL_law_665 : decode cL_law 665 = .ok (.iload_n 3, 1) := by decide +kernel
theorem dL_law_666 : decode cL_law 666 = .ok (.iconst 2, 1) := by decide +kernel
theorem dL_law_667 : decode cL_law 667 = .ok (.iadd, 1) := by decide +kernel
theorem dL_law_668 : decode cL_law 668 = .ok (.iaload, 1) := by decide +kernel
theorem dL_law_669 : decode cL_law 669 = .ok (.aload_n 0, 1) := by decide +kernel
theorem dL_law_670 : decode cL_law 670 = .ok (.iload_n 3, 1) := by decide +kernel
theorem dL_law_671 : decode cL_law 671 = .ok (.iconst 3, 1) := by decide +kernel
theorem dL_law_672 : decode cL_law 672 = .ok (.iadd, 1) := by decide +kernel
theorem dL_law_673 : decode cL_law 673 = .ok (.iaload, 1) := by decide +kernel
theorem dL_law_674 : decode cL_law 674 = .ok (.invokevirtual 89, 3) := by decide +kernel
theorem dL_law_677 : decode cL_law 677 = .ok (.aload_n 2, 1) := by decide +kernel
theorem dL_law_678 : decode cL_law 678 = .ok (.aload_n 0, 1) := by decide +kernel
theorem dL_law_679 : decode cL_law 679 = .ok (.iload_n 3, 1) := by decide +kernel
theorem dL_law_680 : decode cL_law 680 = .ok (.iconst 1, 1) := by decide +kernel
theorem dL_law_681 : decode cL_law 681 = .ok (.iadd, 1) := by decide +kernel
theorem dL_law_682 : decode cL_law 682 = .ok (.iaload, 1) := by decide +kernel
theorem dL_law_683 : decode cL_law 683 = .ok (.aload_n 0, 1) := by decide +kernel
theorem dL_law_684 : decode cL_law 684 = .ok (.iload_n 3, 1) := by decide +kernel
theorem dL_law_685 : decode cL_law 685 = .ok (.iconst 2, 1) := by decide +kernel
theorem dL_law_686 : decode cL_law 686 = .ok (.iadd, 1) := by decide +kernel
theorem dL_law_687 : decode cL_law 687 = .ok (.iaload, 1) := by decide +kernel
theorem dL_law_688 : decode cL_law 688 = .ok (.aload_n 0, 1) := by decide +kernel
theorem dL_law_689 : decode cL_law 689 = .ok (.iload_n 3, 1) := by decide +kernel
theorem dL_law_690 : decode cL_law 690 = .ok (.iconst 3, 1) := by decide +kernel
theorem dL_law_691 : decode cL_law 691 = .ok (.iadd, 1) := by decide +kernel
theorem dL_law_692 : decode cL_law 692 = .ok (.iaload, 1) := by decide +kernel
theorem dL_law_693 : decode cL_law 693 = .ok (.invokevirtual 93, 3) := by decide +kernel
theorem dL_law_696 : decode cL_law 696 = .ok (.if_icmp .eq 265, 3) := by decide +kernel
theorem dL_law_699 : decode cL_law 699 = .ok (.iconst 0, 1) := by decide +kernel
theorem dL_law_700 : decode cL_law 700 = .ok (.ireturn, 1) := by decide +kernel
theorem dL_law_701 : decode cL_law 701 = .ok (.aload_n 1, 1) := by decide +kernel
theorem dL_law_702 : decode cL_law 702 = .ok (.aload_n 0, 1) := by decide +kernel
theorem dL_law_703 : decode cL_law 703 = .ok (.iload_n 3, 1) := by decide +kernel
theorem dL_law_704 : decode cL_law 704 = .ok (.iconst 1, 1) := by decide +kernel
theorem dL_law_705 : decode cL_law 705 = .ok (.iadd, 1) := by decide +kernel
theorem dL_law_706 : decode cL_law 706 = .ok (.iaload, 1) := by decide +kernel
theorem dL_law_707 : decode cL_law 707 = .ok (.invokevirtual 94, 3) := by decide +kernel
theorem dL_law_710 : decode cL_law 710 = .ok (.aload_n 2, 1) := by decide +kernel
theorem dL_law_711 : decode cL_law 711 = .ok (.aload_n 0, 1) := by decide +kernel
theorem dL_law_712 : decode cL_law 712 = .ok (.iload_n 3, 1) := by decide +kernel
theorem dL_law_713 : decode cL_law 713 = .ok (.iconst 1, 1) := by decide +kernel
theorem dL_law_714 : decode cL_law 714 = .ok (.iadd, 1) := by decide +kernel
theorem dL_law_715 : decode cL_law 715 = .ok (.iaload, 1) := by decide +kernel
theorem dL_law_716 : decode cL_law 716 = .ok (.invokevirtual 97, 3) := by decide +kernel
theorem dL_law_719 : decode cL_law 719 = .ok (.if_icmp .eq 242, 3) := by decide +kernel
theorem dL_law_722 : decode cL_law 722 = .ok (.iconst 0, 1) := by decide +kernel
theorem dL_law_723 : decode cL_law 723 = .ok (.ireturn, 1) := by decide +kernel
theorem dL_law_724 : decode cL_law 724 = .ok (.aload_n 1, 1) := by decide +kernel
theorem dL_law_725 : decode cL_law 725 = .ok (.aload_n 0, 1) := by decide +kernel
theorem dL_law_726 : decode cL_law 726 = .ok (.iload_n 3, 1) := by decide +kernel
theorem dL_law_727 : decode cL_law 727 = .ok (.iconst 1, 1) := by decide +kernel
theorem dL_law_728 : decode cL_law 728 = .ok (.iadd, 1) := by decide +kernel
theorem dL_law_729 : decode cL_law 729 = .ok (.iaload, 1) := by decide +kernel
theorem dL_law_730 : decode cL_law 730 = .ok (.aload_n 0, 1) := by decide +kernel
theorem dL_law_731 : decode cL_law 731 = .ok (.iload_n 3, 1) := by decide +kernel
theorem dL_law_732 : decode cL_law 732 = .ok (.iconst 2, 1) := by decide +kernel
theorem dL_law_733 : decode cL_law 733 = .ok (.iadd, 1) := by decide +kernel
theorem dL_law_734 : decode cL_law 734 = .ok (.iaload, 1) := by decide +kernel
theorem dL_law_735 : decode cL_law 735 = .ok (.invokevirtual 98, 3) := by decide +kernel
theorem dL_law_738 : decode cL_law 738 = .ok (.aload_n 2, 1) := by decide +kernel
theorem dL_law_739 : decode cL_law 739 = .ok (.aload_n 0, 1) := by decide +kernel
theorem dL_law_740 : decode cL_law 740 = .ok (.iload_n 3, 1) := by decide +kernel
theorem dL_law_741 : decode cL_law 741 = .ok (.iconst 1, 1) := by decide +kernel
theorem dL_law_742 : decode cL_law 742 = .ok (.iadd, 1) := by decide +kernel
theorem dL_law_743 : decode cL_law 743 = .ok (.iaload, 1) := by decide +kernel
theorem dL_law_744 : decode cL_law 744 = .ok (.aload_n 0, 1) := by decide +kernel
theorem dL_law_745 : decode cL_law 745 = .ok (.iload_n 3, 1) := by decide +kernel
theorem dL_law_746 : decode cL_law 746 = .ok (.iconst 2, 1) := by decide +kernel
theorem dL_law_747 : decode cL_law 747 = .ok (.iadd, 1) := by decide +kernel
theorem dL_law_748 : decode cL_law 748 = .ok (.iaload, 1) := by decide +kernel
theorem dL_law_749 : decode cL_law 749 = .ok (.invokevirtual 101, 3) := by decide +kernel
theorem dL_law_752 : decode cL_law 752 = .ok (.if_icmp .eq 209, 3) := by decide +kernel
theorem dL_law_755 : decode cL_law 755 = .ok (.iconst 0, 1) := by decide +kernel
theorem dL_law_756 : decode cL_law 756 = .ok (.ireturn, 1) := by decide +kernel
theorem dL_law_757 : decode cL_law 757 = .ok (.aload_n 1, 1) := by decide +kernel
theorem dL_law_758 : decode cL_law 758 = .ok (.aload_n 0, 1) := by decide +kernel
theorem dL_law_759 : decode cL_law 759 = .ok (.iload_n 3, 1) := by decide +kernel
theorem dL_law_760 : decode cL_law 760 = .ok (.iconst 1, 1) := by decide +kernel
theorem dL_law_761 : decode cL_law 761 = .ok (.iadd, 1) := by decide +kernel
theorem dL_law_762 : decode cL_law 762 = .ok (.iaload, 1) := by decide +kernel
theorem dL_law_763 : decode cL_law 763 = .ok (.invokevirtual 102, 3) := by decide +kernel
theorem dL_law_766 : decode cL_law 766 = .ok (.aload_n 2, 1) := by decide +kernel
theorem dL_law_767 : decode cL_law 767 = .ok (.aload_n 0, 1) := by decide +kernel
theorem dL_law_768 : decode cL_law 768 = .ok (.iload_n 3, 1) := by decide +kernel
theorem dL_law_769 : decode cL_law 769 = .ok (.iconst 1, 1) := by decide +kernel
theorem dL_law_770 : decode cL_law 770 = .ok (.iadd, 1) := by decide +kernel
theorem dL_law_771 : decode cL_law 771 = .ok (.iaload, 1) := by decide +kernel
theorem dL_law_772 : decode cL_law 772 = .ok (.invokevirtual 105, 3) := by decide +kernel
theorem dL_law_775 : decode cL_law 775 = .ok (.if_icmp .eq 186, 3) := by decide +kernel
theorem dL_law_778 : decode cL_law 778 = .ok (.iconst 0, 1) := by decide +kernel
theorem dL_law_779 : decode cL_law 779 = .ok (.ireturn, 1) := by decide +kernel
theorem dL_law_780 : decode cL_law 780 = .ok (.aload_n 1, 1) := by decide +kernel
theorem dL_law_781 : decode cL_law 781 = .ok (.aload_n 0, 1) := by decide +kernel
theorem dL_law_782 : decode cL_law 782 = .ok (.iload_n 3, 1) := by decide +kernel
theorem dL_law_783 : decode cL_law 783 = .ok (.iconst 1, 1) := by decide +kernel
theorem dL_law_784 : decode cL_law 784 = .ok (.iadd, 1) := by decide +kernel
theorem dL_law_785 : decode cL_law 785 = .ok (.iaload, 1) := by decide +kernel
theorem dL_law_786 : decode cL_law 786 = .ok (.aload_n 0, 1) := by decide +kernel
theorem dL_law_787 : decode cL_law 787 = .ok (.iload_n 3, 1) := by decide +kernel
theorem dL_law_788 : decode cL_law 788 = .ok (.iconst 2, 1) := by decide +kernel
theorem dL_law_789 : decode cL_law 789 = .ok (.iadd, 1) := by decide +kernel
theorem dL_law_790 : decode cL_law 790 = .ok (.iaload, 1) := by decide +kernel
theorem dL_law_791 : decode cL_law 791 = .ok (.invokevirtual 106, 3) := by decide +kernel
theorem dL_law_794 : decode cL_law 794 = .ok (.aload_n 2, 1) := by decide +kernel
theorem dL_law_795 : decode cL_law 795 = .ok (.aload_n 0, 1) := by decide +kernel
theorem dL_law_796 : decode cL_law 796 = .ok (.iload_n 3, 1) := by decide +kernel
theorem dL_law_797 : decode cL_law 797 = .ok (.iconst 1, 1) := by decide +kernel
theorem dL_law_798 : decode cL_law 798 = .ok (.iadd, 1) := by decide +kernel
theorem dL_law_799 : decode cL_law 799 = .ok (.iaload, 1) := by decide +kernel
theorem dL_law_800 : decode cL_law 800 = .ok (.aload_n 0, 1) := by decide +kernel
theorem dL_law_801 : decode cL_law 801 = .ok (.iload_n 3, 1) := by decide +kernel
theorem dL_law_802 : decode cL_law 802 = .ok (.iconst 2, 1) := by decide +kernel
theorem dL_law_803 : decode cL_law 803 = .ok (.iadd, 1) := by decide +kernel
theorem dL_law_804 : decode cL_law 804 = .ok (.iaload, 1) := by decide +kernel
theorem dL_law_805 : decode cL_law 805 = .ok (.invokevirtual 109, 3) := by decide +kernel
theorem dL_law_808 : decode cL_law 808 = .ok (.if_icmp .eq 153, 3) := by decide +kernel
theorem dL_law_811 : decode cL_law 811 = .ok (.iconst 0, 1) := by decide +kernel
theorem dL_law_812 : decode cL_law 812 = .ok (.ireturn, 1) := by decide +kernel
theorem dL_law_813 : decode cL_law 813 = .ok (.aload_n 1, 1) := by decide +kernel
theorem dL_law_814 : decode cL_law 814 = .ok (.aload_n 0, 1) := by decide +kernel
theorem dL_law_815 : decode cL_law 815 = .ok (.iload_n 3, 1) := by decide +kernel
theorem dL_law_816 : decode cL_law 816 = .ok (.iconst 1, 1) := by decide +kernel
theorem dL_law_817 : decode cL_law 817 = .ok (.iadd, 1) := by decide +kernel
theorem dL_law_818 : decode cL_law 818 = .ok (.iaload, 1) := by decide +kernel
theorem dL_law_819 : decode cL_law 819 = .ok (.aload_n 0, 1) := by decide +kernel
theorem dL_law_820 : decode cL_law 820 = .ok (.iload_n 3, 1) := by decide +kernel
theorem dL_law_821 : decode cL_law 821 = .ok (.iconst 2, 1) := by decide +kernel
theorem dL_law_822 : decode cL_law 822 = .ok (.iadd, 1) := by decide +kernel
theorem dL_law_823 : decode cL_law 823 = .ok (.iaload, 1) := by decide +kernel
theorem dL_law_824 : decode cL_law 824 = .ok (.invokevirtual 110, 3) := by decide +kernel
theorem dL_law_827 : decode cL_law 827 = .ok (.aload_n 2, 1) := by decide +kernel
theorem dL_law_828 : decode cL_law 828 = .ok (.aload_n 0, 1) := by decide +kernel
theorem dL_law_829 : decode cL_law 829 = .ok (.iload_n 3, 1) := by decide +kernel
theorem dL_law_830 : decode cL_law 830 = .ok (.iconst 1, 1) := by decide +kernel
theorem dL_law_831 : decode cL_law 831 = .ok (.iadd, 1) := by decide +kernel
theorem dL_law_832 : decode cL_law 832 = .ok (.iaload, 1) := by decide +kernel
theorem dL_law_833 : decode cL_law 833 = .ok (.aload_n 0, 1) := by decide +kernel
theorem dL_law_834 : decode cL_law 834 = .ok (.iload_n 3, 1) := by decide +kernel
theorem dL_law_835 : decode cL_law 835 = .ok (.iconst 2, 1) := by decide +kernel
theorem dL_law_836 : decode cL_law 836 = .ok (.iadd, 1) := by decide +kernel
theorem dL_law_837 : decode cL_law 837 = .ok (.iaload, 1) := by decide +kernel
