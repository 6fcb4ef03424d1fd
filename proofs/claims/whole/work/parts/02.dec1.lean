theorem dX4_closed_51 : decode cX4_closed 51 = .ok (.iload_n 1, 1) := by decide +kernel
theorem dX4_closed_52 : decode cX4_closed 52 = .ok (.invokevirtual 102, 3) := by decide +kernel
theorem dX4_closed_55 : decode cX4_closed 55 = .ok (.if_icmp .ge 87, 3) := by decide +kernel
theorem dX4_closed_58 : decode cX4_closed 58 = .ok (.aload_n 0, 1) := by decide +kernel
theorem dX4_closed_59 : decode cX4_closed 59 = .ok (.getfield 23, 3) := by decide +kernel
theorem dX4_closed_62 : decode cX4_closed 62 = .ok (.iload_n 1, 1) := by decide +kernel
theorem dX4_closed_63 : decode cX4_closed 63 = .ok (.iload 7, 2) := by decide +kernel
theorem dX4_closed_65 : decode cX4_closed 65 = .ok (.invokevirtual 136, 3) := by decide +kernel
theorem dX4_closed_68 : decode cX4_closed 68 = .ok (.istore 8, 2) := by decide +kernel
theorem dX4_closed_70 : decode cX4_closed 70 = .ok (.iload 8, 2) := by decide +kernel
theorem dX4_closed_72 : decode cX4_closed 72 = .ok (.invokestatic 217, 3) := by decide +kernel
theorem dX4_closed_75 : decode cX4_closed 75 = .ok (.iconst 1, 1) := by decide +kernel
theorem dX4_closed_76 : decode cX4_closed 76 = .ok (.if_icmp .ne 25, 3) := by decide +kernel
theorem dX4_closed_79 : decode cX4_closed 79 = .ok (.iinc 5 1, 3) := by decide +kernel
theorem dX4_closed_82 : decode cX4_closed 82 = .ok (.iload 4, 2) := by decide +kernel
theorem dX4_closed_84 : decode cX4_closed 84 = .ok (.iload 8, 2) := by decide +kernel
theorem dX4_closed_86 : decode cX4_closed 86 = .ok (.invokestatic 220, 3) := by decide +kernel
theorem dX4_closed_89 : decode cX4_closed 89 = .ok (.iload 5, 2) := by decide +kernel
theorem dX4_closed_91 : decode cX4_closed 91 = .ok (.invokestatic 223, 3) := by decide +kernel
theorem dX4_closed_94 : decode cX4_closed 94 = .ok (.imul, 1) := by decide +kernel
theorem dX4_closed_95 : decode cX4_closed 95 = .ok (.iadd, 1) := by decide +kernel
theorem dX4_closed_96 : decode cX4_closed 96 = .ok (.istore 4, 2) := by decide +kernel
theorem dX4_closed_98 : decode cX4_closed 98 = .ok (.goto 38, 3) := by decide +kernel
theorem dX4_closed_101 : decode cX4_closed 101 = .ok (.iload 8, 2) := by decide +kernel
theorem dX4_closed_103 : decode cX4_closed 103 = .ok (.invokestatic 217, 3) := by decide +kernel
theorem dX4_closed_106 : decode cX4_closed 106 = .ok (.ifCond .eq 30, 3) := by decide +kernel
theorem dX4_closed_109 : decode cX4_closed 109 = .ok (.iload 6, 2) := by decide +kernel
theorem dX4_closed_111 : decode cX4_closed 111 = .ok (.ifCond .eq 12, 3) := by decide +kernel
theorem dX4_closed_114 : decode cX4_closed 114 = .ok (.iload 4, 2) := by decide +kernel
theorem dX4_closed_116 : decode cX4_closed 116 = .ok (.ifCond .ne 7, 3) := by decide +kernel
theorem dX4_closed_119 : decode cX4_closed 119 = .ok (.iconst 1, 1) := by decide +kernel
theorem dX4_closed_120 : decode cX4_closed 120 = .ok (.goto 4, 3) := by decide +kernel
theorem dX4_closed_123 : decode cX4_closed 123 = .ok (.iconst 0, 1) := by decide +kernel
theorem dX4_closed_124 : decode cX4_closed 124 = .ok (.istore 6, 2) := by decide +kernel
theorem dX4_closed_126 : decode cX4_closed 126 = .ok (.iload 4, 2) := by decide +kernel
theorem dX4_closed_128 : decode cX4_closed 128 = .ok (.iload 8, 2) := by decide +kernel
theorem dX4_closed_130 : decode cX4_closed 130 = .ok (.invokestatic 220, 3) := by decide +kernel
theorem dX4_closed_133 : decode cX4_closed 133 = .ok (.iadd, 1) := by decide +kernel
theorem dX4_closed_134 : decode cX4_closed 134 = .ok (.istore 4, 2) := by decide +kernel
theorem dX4_closed_136 : decode cX4_closed 136 = .ok (.iinc 7 1, 3) := by decide +kernel
theorem dX4_closed_139 : decode cX4_closed 139 = .ok (.goto (-94), 3) := by decide +kernel
theorem dX4_closed_142 : decode cX4_closed 142 = .ok (.iload 6, 2) := by decide +kernel
theorem dX4_closed_144 : decode cX4_closed 144 = .ok (.ifCond .eq 14, 3) := by decide +kernel
theorem dX4_closed_147 : decode cX4_closed 147 = .ok (.iload_n 2, 1) := by decide +kernel
theorem dX4_closed_148 : decode cX4_closed 148 = .ok (.iconst 1, 1) := by decide +kernel
theorem dX4_closed_149 : decode cX4_closed 149 = .ok (.isub, 1) := by decide +kernel
theorem dX4_closed_150 : decode cX4_closed 150 = .ok (.iload 5, 2) := by decide +kernel
theorem dX4_closed_152 : decode cX4_closed 152 = .ok (.invokestatic 226, 3) := by decide +kernel
theorem dX4_closed_155 : decode cX4_closed 155 = .ok (.goto 4, 3) := by decide +kernel
theorem dX4_closed_158 : decode cX4_closed 158 = .ok (.iconst 0, 1) := by decide +kernel
theorem dX4_closed_159 : decode cX4_closed 159 = .ok (.istore 7, 2) := by decide +kernel
theorem dX4_closed_161 : decode cX4_closed 161 = .ok (.iload_n 3, 1) := by decide +kernel
theorem dX4_closed_162 : decode cX4_closed 162 = .ok (.ifCond .ne 6, 3) := by decide +kernel
theorem dX4_closed_165 : decode cX4_closed 165 = .ok (.iload 7, 2) := by decide +kernel
theorem dX4_closed_167 : decode cX4_closed 167 = .ok (.ireturn, 1) := by decide +kernel
theorem dX4_closed_168 : decode cX4_closed 168 = .ok (.iload 7, 2) := by decide +kernel
theorem dX4_closed_170 : decode cX4_closed 170 = .ok (.ifCond .ne 8, 3) := by decide +kernel
theorem dX4_closed_173 : decode cX4_closed 173 = .ok (.bipush (-4), 2) := by decide +kernel
theorem dX4_closed_175 : decode cX4_closed 175 = .ok (.goto 5, 3) := by decide +kernel
theorem dX4_closed_178 : decode cX4_closed 178 = .ok (.iload 4, 2) := by decide +kernel
theorem dX4_closed_180 : decode cX4_closed 180 = .ok (.ireturn, 1) := by decide +kernel
theorem dX4_order_0 : decode cX4_order 0 = .ok (.aload_n 0, 1) := by decide +kernel
theorem dX4_order_1 : decode cX4_order 1 = .ok (.getfield 23, 3) := by decide +kernel
theorem dX4_order_4 : decode cX4_order 4 = .ok (.iload_n 1, 1) := by decide +kernel
theorem dX4_order_5 : decode cX4_order 5 = .ok (.invokevirtual 140, 3) := by decide +kernel
theorem dX4_order_8 : decode cX4_order 8 = .ok (.ifCond .ne 5, 3) := by decide +kernel
theorem dX4_order_11 : decode cX4_order 11 = .ok (.iconst (-1), 1) := by decide +kernel
theorem dX4_order_12 : decode cX4_order 12 = .ok (.ireturn, 1) := by decide +kernel
theorem dX4_order_13 : decode cX4_order 13 = .ok (.aload_n 0, 1) := by decide +kernel
theorem dX4_order_14 : decode cX4_order 14 = .ok (.getfield 23, 3) := by decide +kernel
theorem dX4_order_17 : decode cX4_order 17 = .ok (.iload_n 1, 1) := by decide +kernel
theorem dX4_order_18 : decode cX4_order 18 = .ok (.invokevirtual 143, 3) := by decide +kernel
theorem dX4_order_21 : decode cX4_order 21 = .ok (.istore_n 2, 1) := by decide +kernel
theorem dX4_order_22 : decode cX4_order 22 = .ok (.iconst 0, 1) := by decide +kernel
theorem dX4_order_23 : decode cX4_order 23 = .ok (.istore_n 3, 1) := by decide +kernel
theorem dX4_order_24 : decode cX4_order 24 = .ok (.iconst 0, 1) := by decide +kernel
theorem dX4_order_25 : decode cX4_order 25 = .ok (.istore 4, 2) := by decide +kernel
theorem dX4_order_27 : decode cX4_order 27 = .ok (.iload 4, 2) := by decide +kernel
theorem dX4_order_29 : decode cX4_order 29 = .ok (.iload_n 2, 1) := by decide +kernel
theorem dX4_order_30 : decode cX4_order 30 = .ok (.if_icmp .ge 123, 3) := by decide +kernel
theorem dX4_order_33 : decode cX4_order 33 = .ok (.aload_n 0, 1) := by decide +kernel
theorem dX4_order_34 : decode cX4_order 34 = .ok (.getfield 23, 3) := by decide +kernel
theorem dX4_order_37 : decode cX4_order 37 = .ok (.aload_n 0, 1) := by decide +kernel
theorem dX4_order_38 : decode cX4_order 38 = .ok (.getfield 23, 3) := by decide +kernel
theorem dX4_order_41 : decode cX4_order 41 = .ok (.iload_n 1, 1) := by decide +kernel
theorem dX4_order_42 : decode cX4_order 42 = .ok (.iload 4, 2) := by decide +kernel
theorem dX4_order_44 : decode cX4_order 44 = .ok (.invokevirtual 158, 3) := by decide +kernel
theorem dX4_order_47 : decode cX4_order 47 = .ok (.invokevirtual 120, 3) := by decide +kernel
theorem dX4_order_50 : decode cX4_order 50 = .ok (.istore 5, 2) := by decide +kernel
theorem dX4_order_52 : decode cX4_order 52 = .ok (.iload 5, 2) := by decide +kernel
theorem dX4_order_54 : decode cX4_order 54 = .ok (.bipush (-4), 2) := by decide +kernel
theorem dX4_order_56 : decode cX4_order 56 = .ok (.if_icmp .ne 6, 3) := by decide +kernel
theorem dX4_order_59 : decode cX4_order 59 = .ok (.bipush (-4), 2) := by decide +kernel
theorem dX4_order_61 : decode cX4_order 61 = .ok (.ireturn, 1) := by decide +kernel
theorem dX4_order_62 : decode cX4_order 62 = .ok (.iconst 1, 1) := by decide +kernel
theorem dX4_order_63 : decode cX4_order 63 = .ok (.istore 6, 2) := by decide +kernel
theorem dX4_order_65 : decode cX4_order 65 = .ok (.iconst 0, 1) := by decide +kernel
theorem dX4_order_66 : decode cX4_order 66 = .ok (.istore 7, 2) := by decide +kernel
theorem dX4_order_68 : decode cX4_order 68 = .ok (.iload 7, 2) := by decide +kernel
theorem dX4_order_70 : decode cX4_order 70 = .ok (.iload 4, 2) := by decide +kernel
theorem dX4_order_72 : decode cX4_order 72 = .ok (.if_icmp .ge 46, 3) := by decide +kernel
theorem dX4_order_75 : decode cX4_order 75 = .ok (.aload_n 0, 1) := by decide +kernel
theorem dX4_order_76 : decode cX4_order 76 = .ok (.getfield 53, 3) := by decide +kernel
theorem dX4_order_79 : decode cX4_order 79 = .ok (.iload 7, 2) := by decide +kernel
theorem dX4_order_81 : decode cX4_order 81 = .ok (.invokestatic 229, 3) := by decide +kernel
theorem dX4_order_84 : decode cX4_order 84 = .ok (.iload 5, 2) := by decide +kernel
theorem dX4_order_86 : decode cX4_order 86 = .ok (.if_icmp .gt 22, 3) := by decide +kernel
theorem dX4_order_89 : decode cX4_order 89 = .ok (.iload 6, 2) := by decide +kernel
theorem dX4_order_91 : decode cX4_order 91 = .ok (.aload_n 0, 1) := by decide +kernel
theorem dX4_order_92 : decode cX4_order 92 = .ok (.getfield 56, 3) := by decide +kernel
theorem dX4_order_95 : decode cX4_order 95 = .ok (.iload 7, 2) := by decide +kernel
theorem dX4_order_97 : decode cX4_order 97 = .ok (.invokestatic 229, 3) := by decide +kernel
theorem dX4_order_100 : decode cX4_order 100 = .ok (.iconst 1, 1) := by decide +kernel
theorem dX4_order_101 : decode cX4_order 101 = .ok (.iadd, 1) := by decide +kernel
theorem dX4_order_102 : decode cX4_order 102 = .ok (.invokestatic 233, 3) := by decide +kernel
theorem dX4_order_105 : decode cX4_order 105 = .ok (.goto 5, 3) := by decide +kernel
theorem dX4_order_108 : decode cX4_order 108 = .ok (.iload 6, 2) := by decide +kernel
theorem dX4_order_110 : decode cX4_order 110 = .ok (.istore 6, 2) := by decide +kernel
theorem dX4_order_112 : decode cX4_order 112 = .ok (.iinc 7 1, 3) := by decide +kernel
theorem dX4_order_115 : decode cX4_order 115 = .ok (.goto (-47), 3) := by decide +kernel
theorem dX4_order_118 : decode cX4_order 118 = .ok (.aload_n 0, 1) := by decide +kernel
theorem dX4_order_119 : decode cX4_order 119 = .ok (.getfield 53, 3) := by decide +kernel
theorem dX4_order_122 : decode cX4_order 122 = .ok (.iload 4, 2) := by decide +kernel
theorem dX4_order_124 : decode cX4_order 124 = .ok (.iload 5, 2) := by decide +kernel
theorem dX4_order_126 : decode cX4_order 126 = .ok (.invokestatic 238, 3) := by decide +kernel
theorem dX4_order_129 : decode cX4_order 129 = .ok (.aload_n 0, 1) := by decide +kernel
theorem dX4_order_130 : decode cX4_order 130 = .ok (.getfield 56, 3) := by decide +kernel
theorem dX4_order_133 : decode cX4_order 133 = .ok (.iload 4, 2) := by decide +kernel
theorem dX4_order_135 : decode cX4_order 135 = .ok (.iload 6, 2) := by decide +kernel
theorem dX4_order_137 : decode cX4_order 137 = .ok (.invokestatic 238, 3) := by decide +kernel
theorem dX4_order_140 : decode cX4_order 140 = .ok (.iload_n 3, 1) := by decide +kernel
theorem dX4_order_141 : decode cX4_order 141 = .ok (.iload 6, 2) := by decide +kernel
theorem dX4_order_143 : decode cX4_order 143 = .ok (.invokestatic 233, 3) := by decide +kernel
theorem dX4_order_146 : decode cX4_order 146 = .ok (.istore_n 3, 1) := by decide +kernel
theorem dX4_order_147 : decode cX4_order 147 = .ok (.iinc 4 1, 3) := by decide +kernel
theorem dX4_order_150 : decode cX4_order 150 = .ok (.goto (-123), 3) := by decide +kernel
theorem dX4_order_153 : decode cX4_order 153 = .ok (.iload_n 2, 1) := by decide +kernel
theorem dX4_order_154 : decode cX4_order 154 = .ok (.iload_n 3, 1) := by decide +kernel
theorem dX4_order_155 : decode cX4_order 155 = .ok (.isub, 1) := by decide +kernel
theorem dX4_order_156 : decode cX4_order 156 = .ok (.ireturn, 1) := by decide +kernel
theorem dX4_share_0 : decode cX4_share 0 = .ok (.iload_n 1, 1) := by decide +kernel
theorem dX4_share_1 : decode cX4_share 1 = .ok (.iconst 5, 1) := by decide +kernel
theorem dX4_share_2 : decode cX4_share 2 = .ok (.if_icmp .eq 14, 3) := by decide +kernel
theorem dX4_share_5 : decode cX4_share 5 = .ok (.aload_n 0, 1) := by decide +kernel
theorem dX4_share_6 : decode cX4_share 6 = .ok (.getfield 23, 3) := by decide +kernel
theorem dX4_share_9 : decode cX4_share 9 = .ok (.iload_n 1, 1) := by decide +kernel
theorem dX4_share_10 : decode cX4_share 10 = .ok (.invokevirtual 140, 3) := by decide +kernel
theorem dX4_share_13 : decode cX4_share 13 = .ok (.ifCond .eq 12, 3) := by decide +kernel
theorem dX4_share_16 : decode cX4_share 16 = .ok (.iload_n 2, 1) := by decide +kernel
theorem dX4_share_17 : decode cX4_share 17 = .ok (.ifCond .lt 8, 3) := by decide +kernel
theorem dX4_share_20 : decode cX4_share 20 = .ok (.iload_n 2, 1) := by decide +kernel
theorem dX4_share_21 : decode cX4_share 21 = .ok (.iconst 1, 1) := by decide +kernel
theorem dX4_share_22 : decode cX4_share 22 = .ok (.if_icmp .le 5, 3) := by decide +kernel
theorem dX4_share_25 : decode cX4_share 25 = .ok (.iconst (-1), 1) := by decide +kernel
theorem dX4_share_26 : decode cX4_share 26 = .ok (.ireturn, 1) := by decide +kernel
theorem dX4_share_27 : decode cX4_share 27 = .ok (.aload_n 0, 1) := by decide +kernel
theorem dX4_share_28 : decode cX4_share 28 = .ok (.getfield 42, 3) := by decide +kernel
theorem dX4_share_31 : decode cX4_share 31 = .ok (.invokevirtual 242, 3) := by decide +kernel
theorem dX4_share_34 : decode cX4_share 34 = .ok (.iconst 0, 1) := by decide +kernel
theorem dX4_share_35 : decode cX4_share 35 = .ok (.istore_n 3, 1) := by decide +kernel
theorem dX4_share_36 : decode cX4_share 36 = .ok (.iload_n 3, 1) := by decide +kernel
theorem dX4_share_37 : decode cX4_share 37 = .ok (.aload_n 0, 1) := by decide +kernel
theorem dX4_share_38 : decode cX4_share 38 = .ok (.getfield 23, 3) := by decide +kernel
theorem dX4_share_41 : decode cX4_share 41 = .ok (.invokevirtual 91, 3) := by decide +kernel
theorem dX4_share_44 : decode cX4_share 44 = .ok (.if_icmp .ge 67, 3) := by decide +kernel
theorem dX4_share_47 : decode cX4_share 47 = .ok (.aload_n 0, 1) := by decide +kernel
theorem dX4_share_48 : decode cX4_share 48 = .ok (.getfield 23, 3) := by decide +kernel
theorem dX4_share_51 : decode cX4_share 51 = .ok (.iload_n 3, 1) := by decide +kernel
theorem dX4_share_52 : decode cX4_share 52 = .ok (.invokevirtual 187, 3) := by decide +kernel
theorem dX4_share_55 : decode cX4_share 55 = .ok (.ifCond .eq 50, 3) := by decide +kernel
theorem dX4_share_58 : decode cX4_share 58 = .ok (.iload_n 1, 1) := by decide +kernel
theorem dX4_share_59 : decode cX4_share 59 = .ok (.iconst 5, 1) := by decide +kernel
theorem dX4_share_60 : decode cX4_share 60 = .ok (.if_icmp .eq 15, 3) := by decide +kernel
theorem dX4_share_63 : decode cX4_share 63 = .ok (.aload_n 0, 1) := by decide +kernel
theorem dX4_share_64 : decode cX4_share 64 = .ok (.getfield 23, 3) := by decide +kernel
theorem dX4_share_67 : decode cX4_share 67 = .ok (.iload_n 3, 1) := by decide +kernel
theorem dX4_share_68 : decode cX4_share 68 = .ok (.invokevirtual 108, 3) := by decide +kernel
theorem dX4_share_71 : decode cX4_share 71 = .ok (.iload_n 1, 1) := by decide +kernel
theorem dX4_share_72 : decode cX4_share 72 = .ok (.if_icmp .ne 33, 3) := by decide +kernel
theorem dX4_share_75 : decode cX4_share 75 = .ok (.aload_n 0, 1) := by decide +kernel
theorem dX4_share_76 : decode cX4_share 76 = .ok (.getfield 23, 3) := by decide +kernel
theorem dX4_share_79 : decode cX4_share 79 = .ok (.iload_n 3, 1) := by decide +kernel
theorem dX4_share_80 : decode cX4_share 80 = .ok (.invokevirtual 120, 3) := by decide +kernel
theorem dX4_share_83 : decode cX4_share 83 = .ok (.istore 4, 2) := by decide +kernel
theorem dX4_share_85 : decode cX4_share 85 = .ok (.iload 4, 2) := by decide +kernel
theorem dX4_share_87 : decode cX4_share 87 = .ok (.bipush (-4), 2) := by decide +kernel
theorem dX4_share_89 : decode cX4_share 89 = .ok (.if_icmp .ne 6, 3) := by decide +kernel
theorem dX4_share_92 : decode cX4_share 92 = .ok (.bipush (-4), 2) := by decide +kernel
theorem dX4_share_94 : decode cX4_share 94 = .ok (.ireturn, 1) := by decide +kernel
theorem dX4_share_95 : decode cX4_share 95 = .ok (.aload_n 0, 1) := by decide +kernel
theorem dX4_share_96 : decode cX4_share 96 = .ok (.getfield 42, 3) := by decide +kernel
theorem dX4_share_99 : decode cX4_share 99 = .ok (.iload_n 3, 1) := by decide +kernel
theorem dX4_share_100 : decode cX4_share 100 = .ok (.iload 4, 2) := by decide +kernel
theorem dX4_share_102 : decode cX4_share 102 = .ok (.invokevirtual 243, 3) := by decide +kernel
theorem dX4_share_105 : decode cX4_share 105 = .ok (.iinc 3 1, 3) := by decide +kernel
theorem dX4_share_108 : decode cX4_share 108 = .ok (.goto (-72), 3) := by decide +kernel
theorem dX4_share_111 : decode cX4_share 111 = .ok (.aload_n 0, 1) := by decide +kernel
theorem dX4_share_112 : decode cX4_share 112 = .ok (.getfield 42, 3) := by decide +kernel
theorem dX4_share_115 : decode cX4_share 115 = .ok (.invokevirtual 245, 3) := by decide +kernel
theorem dX4_share_118 : decode cX4_share 118 = .ok (.iload_n 2, 1) := by decide +kernel
theorem dX4_share_119 : decode cX4_share 119 = .ok (.ifCond .ne 13, 3) := by decide +kernel
theorem dX4_share_122 : decode cX4_share 122 = .ok (.aload_n 0, 1) := by decide +kernel
theorem dX4_share_123 : decode cX4_share 123 = .ok (.getfield 42, 3) := by decide +kernel
theorem dX4_share_126 : decode cX4_share 126 = .ok (.getfield 248, 3) := by decide +kernel
theorem dX4_share_129 : decode cX4_share 129 = .ok (.goto 10, 3) := by decide +kernel
theorem dX4_share_132 : decode cX4_share 132 = .ok (.aload_n 0, 1) := by decide +kernel
theorem dX4_share_133 : decode cX4_share 133 = .ok (.getfield 42, 3) := by decide +kernel
theorem dX4_share_136 : decode cX4_share 136 = .ok (.getfield 251, 3) := by decide +kernel
theorem dX4_share_139 : decode cX4_share 139 = .ok (.ireturn, 1) := by decide +kernel
theorem dX4_make_0 : decode cX4_make 0 = .ok (.iload_n 1, 1) := by decide +kernel
theorem dX4_make_1 : decode cX4_make 1 = .ok (.ifCond .lt 10, 3) := by decide +kernel
theorem dX4_make_4 : decode cX4_make 4 = .ok (.iload_n 1, 1) := by decide +kernel
theorem dX4_make_5 : decode cX4_make 5 = .ok (.sipush 9999, 3) := by decide +kernel
theorem dX4_make_8 : decode cX4_make 8 = .ok (.if_icmp .le 5, 3) := by decide +kernel
theorem dX4_make_11 : decode cX4_make 11 = .ok (.iconst (-1), 1) := by decide +kernel
theorem dX4_make_12 : decode cX4_make 12 = .ok (.ireturn, 1) := by decide +kernel
theorem dX4_make_13 : decode cX4_make 13 = .ok (.aload_n 0, 1) := by decide +kernel
theorem dX4_make_14 : decode cX4_make 14 = .ok (.getfield 42, 3) := by decide +kernel
theorem dX4_make_17 : decode cX4_make 17 = .ok (.invokevirtual 242, 3) := by decide +kernel
theorem dX4_make_20 : decode cX4_make 20 = .ok (.iconst 0, 1) := by decide +kernel
theorem dX4_make_21 : decode cX4_make 21 = .ok (.istore_n 2, 1) := by decide +kernel
theorem dX4_make_22 : decode cX4_make 22 = .ok (.iload_n 2, 1) := by decide +kernel
theorem dX4_make_23 : decode cX4_make 23 = .ok (.aload_n 0, 1) := by decide +kernel
theorem dX4_make_24 : decode cX4_make 24 = .ok (.getfield 23, 3) := by decide +kernel
theorem dX4_make_27 : decode cX4_make 27 = .ok (.invokevirtual 91, 3) := by decide +kernel
theorem dX4_make_30 : decode cX4_make 30 = .ok (.if_icmp .ge 49, 3) := by decide +kernel
theorem dX4_make_33 : decode cX4_make 33 = .ok (.aload_n 0, 1) := by decide +kernel
theorem dX4_make_34 : decode cX4_make 34 = .ok (.getfield 23, 3) := by decide +kernel
theorem dX4_make_37 : decode cX4_make 37 = .ok (.iload_n 2, 1) := by decide +kernel
theorem dX4_make_38 : decode cX4_make 38 = .ok (.invokevirtual 187, 3) := by decide +kernel
theorem dX4_make_41 : decode cX4_make 41 = .ok (.ifCond .eq 32, 3) := by decide +kernel
theorem dX4_make_44 : decode cX4_make 44 = .ok (.aload_n 0, 1) := by decide +kernel
theorem dX4_make_45 : decode cX4_make 45 = .ok (.getfield 23, 3) := by decide +kernel
theorem dX4_make_48 : decode cX4_make 48 = .ok (.iload_n 2, 1) := by decide +kernel
theorem dX4_make_49 : decode cX4_make 49 = .ok (.invokevirtual 120, 3) := by decide +kernel
theorem dX4_make_52 : decode cX4_make 52 = .ok (.bipush (-4), 2) := by decide +kernel
theorem dX4_make_54 : decode cX4_make 54 = .ok (.if_icmp .eq 19, 3) := by decide +kernel
theorem dX4_make_57 : decode cX4_make 57 = .ok (.aload_n 0, 1) := by decide +kernel
theorem dX4_make_58 : decode cX4_make 58 = .ok (.getfield 42, 3) := by decide +kernel
theorem dX4_make_61 : decode cX4_make 61 = .ok (.iload_n 2, 1) := by decide +kernel
theorem dX4_make_62 : decode cX4_make 62 = .ok (.aload_n 0, 1) := by decide +kernel
theorem dX4_make_63 : decode cX4_make 63 = .ok (.getfield 23, 3) := by decide +kernel
theorem dX4_make_66 : decode cX4_make 66 = .ok (.iload_n 2, 1) := by decide +kernel
theorem dX4_make_67 : decode cX4_make 67 = .ok (.invokevirtual 120, 3) := by decide +kernel
theorem dX4_make_70 : decode cX4_make 70 = .ok (.invokevirtual 243, 3) := by decide +kernel
theorem dX4_make_73 : decode cX4_make 73 = .ok (.iinc 2 1, 3) := by decide +kernel
theorem dX4_make_76 : decode cX4_make 76 = .ok (.goto (-54), 3) := by decide +kernel
theorem dX4_make_79 : decode cX4_make 79 = .ok (.aload_n 0, 1) := by decide +kernel
theorem dX4_make_80 : decode cX4_make 80 = .ok (.getfield 42, 3) := by decide +kernel
theorem dX4_make_83 : decode cX4_make 83 = .ok (.iload_n 1, 1) := by decide +kernel
theorem dX4_make_84 : decode cX4_make 84 = .ok (.invokevirtual 254, 3) := by decide +kernel
theorem dX4_make_87 : decode cX4_make 87 = .ok (.aload_n 0, 1) := by decide +kernel
theorem dX4_make_88 : decode cX4_make 88 = .ok (.getfield 42, 3) := by decide +kernel
theorem dX4_make_91 : decode cX4_make 91 = .ok (.getfield 248, 3) := by decide +kernel
theorem dX4_make_94 : decode cX4_make 94 = .ok (.ireturn, 1) := by decide +kernel
theorem dX4_colours_0 : decode cX4_colours 0 = .ok (.iload_n 1, 1) := by decide +kernel
theorem dX4_colours_1 : decode cX4_colours 1 = .ok (.invokestatic 181, 3) := by decide +kernel
theorem dX4_colours_4 : decode cX4_colours 4 = .ok (.ifCond .eq 12, 3) := by decide +kernel
theorem dX4_colours_7 : decode cX4_colours 7 = .ok (.iload_n 2, 1) := by decide +kernel
theorem dX4_colours_8 : decode cX4_colours 8 = .ok (.ifCond .lt 8, 3) := by decide +kernel
theorem dX4_colours_11 : decode cX4_colours 11 = .ok (.iload_n 2, 1) := by decide +kernel
theorem dX4_colours_12 : decode cX4_colours 12 = .ok (.iconst 1, 1) := by decide +kernel
theorem dX4_colours_13 : decode cX4_colours 13 = .ok (.if_icmp .le 5, 3) := by decide +kernel
theorem dX4_colours_16 : decode cX4_colours 16 = .ok (.iconst (-1), 1) := by decide +kernel
theorem dX4_colours_17 : decode cX4_colours 17 = .ok (.ireturn, 1) := by decide +kernel
theorem dX4_colours_18 : decode cX4_colours 18 = .ok (.iconst 0, 1) := by decide +kernel
theorem dX4_colours_19 : decode cX4_colours 19 = .ok (.istore_n 3, 1) := by decide +kernel
theorem dX4_colours_20 : decode cX4_colours 20 = .ok (.iconst 0, 1) := by decide +kernel
theorem dX4_colours_21 : decode cX4_colours 21 = .ok (.istore 4, 2) := by decide +kernel
theorem dX4_colours_23 : decode cX4_colours 23 = .ok (.iconst 0, 1) := by decide +kernel
theorem dX4_colours_24 : decode cX4_colours 24 = .ok (.istore 5, 2) := by decide +kernel
theorem dX4_colours_26 : decode cX4_colours 26 = .ok (.iload 5, 2) := by decide +kernel
theorem dX4_colours_28 : decode cX4_colours 28 = .ok (.aload_n 0, 1) := by decide +kernel
theorem dX4_colours_29 : decode cX4_colours 29 = .ok (.getfield 23, 3) := by decide +kernel
theorem dX4_colours_32 : decode cX4_colours 32 = .ok (.invokevirtual 91, 3) := by decide +kernel
theorem dX4_colours_35 : decode cX4_colours 35 = .ok (.if_icmp .ge 37, 3) := by decide +kernel
theorem dX4_colours_38 : decode cX4_colours 38 = .ok (.aload_n 0, 1) := by decide +kernel
theorem dX4_colours_39 : decode cX4_colours 39 = .ok (.getfield 23, 3) := by decide +kernel
theorem dX4_colours_42 : decode cX4_colours 42 = .ok (.iload 5, 2) := by decide +kernel
theorem dX4_colours_44 : decode cX4_colours 44 = .ok (.invokevirtual 98, 3) := by decide +kernel
theorem dX4_colours_47 : decode cX4_colours 47 = .ok (.iload_n 1, 1) := by decide +kernel
theorem dX4_colours_48 : decode cX4_colours 48 = .ok (.if_icmp .ne 18, 3) := by decide +kernel
theorem dX4_colours_51 : decode cX4_colours 51 = .ok (.iinc 4 1, 3) := by decide +kernel
theorem dX4_colours_54 : decode cX4_colours 54 = .ok (.iload_n 3, 1) := by decide +kernel
theorem dX4_colours_55 : decode cX4_colours 55 = .ok (.aload_n 0, 1) := by decide +kernel
theorem dX4_colours_56 : decode cX4_colours 56 = .ok (.getfield 23, 3) := by decide +kernel
theorem dX4_colours_59 : decode cX4_colours 59 = .ok (.iload 5, 2) := by decide +kernel
theorem dX4_colours_61 : decode cX4_colours 61 = .ok (.invokevirtual 257, 3) := by decide +kernel
theorem dX4_colours_64 : decode cX4_colours 64 = .ok (.iadd, 1) := by decide +kernel
theorem dX4_colours_65 : decode cX4_colours 65 = .ok (.istore_n 3, 1) := by decide +kernel
theorem dX4_colours_66 : decode cX4_colours 66 = .ok (.iinc 5 1, 3) := by decide +kernel
theorem dX4_colours_69 : decode cX4_colours 69 = .ok (.goto (-43), 3) := by decide +kernel
theorem dX4_colours_72 : decode cX4_colours 72 = .ok (.iload_n 2, 1) := by decide +kernel
theorem dX4_colours_73 : decode cX4_colours 73 = .ok (.ifCond .ne 7, 3) := by decide +kernel
theorem dX4_colours_76 : decode cX4_colours 76 = .ok (.iload_n 3, 1) := by decide +kernel
theorem dX4_colours_77 : decode cX4_colours 77 = .ok (.goto 5, 3) := by decide +kernel
theorem dX4_colours_80 : decode cX4_colours 80 = .ok (.iload 4, 2) := by decide +kernel
theorem dX4_colours_82 : decode cX4_colours 82 = .ok (.ireturn, 1) := by decide +kernel
theorem dX4_path_0 : decode cX4_path 0 = .ok (.iload_n 1, 1) := by decide +kernel
theorem dX4_path_1 : decode cX4_path 1 = .ok (.invokestatic 181, 3) := by decide +kernel
theorem dX4_path_4 : decode cX4_path 4 = .ok (.ifCond .eq 10, 3) := by decide +kernel
theorem dX4_path_7 : decode cX4_path 7 = .ok (.iload_n 2, 1) := by decide +kernel
theorem dX4_path_8 : decode cX4_path 8 = .ok (.invokestatic 181, 3) := by decide +kernel
theorem dX4_path_11 : decode cX4_path 11 = .ok (.ifCond .ne 5, 3) := by decide +kernel
theorem dX4_path_14 : decode cX4_path 14 = .ok (.iconst (-1), 1) := by decide +kernel
theorem dX4_path_15 : decode cX4_path 15 = .ok (.ireturn, 1) := by decide +kernel
theorem dX4_path_16 : decode cX4_path 16 = .ok (.iconst 0, 1) := by decide +kernel
theorem dX4_path_17 : decode cX4_path 17 = .ok (.istore_n 3, 1) := by decide +kernel
theorem dX4_path_18 : decode cX4_path 18 = .ok (.iconst 0, 1) := by decide +kernel
theorem dX4_path_19 : decode cX4_path 19 = .ok (.istore 4, 2) := by decide +kernel
theorem dX4_path_21 : decode cX4_path 21 = .ok (.iload 4, 2) := by decide +kernel
theorem dX4_path_23 : decode cX4_path 23 = .ok (.aload_n 0, 1) := by decide +kernel
theorem dX4_path_24 : decode cX4_path 24 = .ok (.getfield 23, 3) := by decide +kernel
theorem dX4_path_27 : decode cX4_path 27 = .ok (.invokevirtual 91, 3) := by decide +kernel
theorem dX4_path_30 : decode cX4_path 30 = .ok (.if_icmp .ge 65, 3) := by decide +kernel
theorem dX4_path_33 : decode cX4_path 33 = .ok (.aload_n 0, 1) := by decide +kernel
theorem dX4_path_34 : decode cX4_path 34 = .ok (.getfield 23, 3) := by decide +kernel
theorem dX4_path_37 : decode cX4_path 37 = .ok (.iload 4, 2) := by decide +kernel
theorem dX4_path_39 : decode cX4_path 39 = .ok (.invokevirtual 105, 3) := by decide +kernel
theorem dX4_path_42 : decode cX4_path 42 = .ok (.istore 5, 2) := by decide +kernel
theorem dX4_path_44 : decode cX4_path 44 = .ok (.iload 5, 2) := by decide +kernel
theorem dX4_path_46 : decode cX4_path 46 = .ok (.bipush (-4), 2) := by decide +kernel
theorem dX4_path_48 : decode cX4_path 48 = .ok (.if_icmp .eq 41, 3) := by decide +kernel
theorem dX4_path_51 : decode cX4_path 51 = .ok (.aload_n 0, 1) := by decide +kernel
theorem dX4_path_52 : decode cX4_path 52 = .ok (.getfield 23, 3) := by decide +kernel
theorem dX4_path_55 : decode cX4_path 55 = .ok (.iload 5, 2) := by decide +kernel
theorem dX4_path_57 : decode cX4_path 57 = .ok (.invokevirtual 98, 3) := by decide +kernel
theorem dX4_path_60 : decode cX4_path 60 = .ok (.iload_n 1, 1) := by decide +kernel
theorem dX4_path_61 : decode cX4_path 61 = .ok (.if_icmp .ne 28, 3) := by decide +kernel
theorem dX4_path_64 : decode cX4_path 64 = .ok (.aload_n 0, 1) := by decide +kernel
theorem dX4_path_65 : decode cX4_path 65 = .ok (.getfield 23, 3) := by decide +kernel
theorem dX4_path_68 : decode cX4_path 68 = .ok (.iload 4, 2) := by decide +kernel
theorem dX4_path_70 : decode cX4_path 70 = .ok (.invokevirtual 98, 3) := by decide +kernel
theorem dX4_path_73 : decode cX4_path 73 = .ok (.iload_n 2, 1) := by decide +kernel
theorem dX4_path_74 : decode cX4_path 74 = .ok (.if_icmp .ne 15, 3) := by decide +kernel
theorem dX4_path_77 : decode cX4_path 77 = .ok (.iload_n 3, 1) := by decide +kernel
theorem dX4_path_78 : decode cX4_path 78 = .ok (.aload_n 0, 1) := by decide +kernel
theorem dX4_path_79 : decode cX4_path 79 = .ok (.getfield 23, 3) := by decide +kernel
theorem dX4_path_82 : decode cX4_path 82 = .ok (.iload 4, 2) := by decide +kernel
theorem dX4_path_84 : decode cX4_path 84 = .ok (.invokevirtual 257, 3) := by decide +kernel
theorem dX4_path_87 : decode cX4_path 87 = .ok (.iadd, 1) := by decide +kernel
theorem dX4_path_88 : decode cX4_path 88 = .ok (.istore_n 3, 1) := by decide +kernel
theorem dX4_path_89 : decode cX4_path 89 = .ok (.iinc 4 1, 3) := by decide +kernel
theorem dX4_path_92 : decode cX4_path 92 = .ok (.goto (-71), 3) := by decide +kernel
theorem dX4_path_95 : decode cX4_path 95 = .ok (.iload_n 3, 1) := by decide +kernel
theorem dX4_path_96 : decode cX4_path 96 = .ok (.ireturn, 1) := by decide +kernel
theorem dX4_same_0 : decode cX4_same 0 = .ok (.aload_n 0, 1) := by decide +kernel
theorem dX4_same_1 : decode cX4_same 1 = .ok (.getfield 23, 3) := by decide +kernel
theorem dX4_same_4 : decode cX4_same 4 = .ok (.iload_n 1, 1) := by decide +kernel
theorem dX4_same_5 : decode cX4_same 5 = .ok (.invokevirtual 94, 3) := by decide +kernel
theorem dX4_same_8 : decode cX4_same 8 = .ok (.ifCond .eq 19, 3) := by decide +kernel
theorem dX4_same_11 : decode cX4_same 11 = .ok (.aload_n 0, 1) := by decide +kernel
theorem dX4_same_12 : decode cX4_same 12 = .ok (.getfield 23, 3) := by decide +kernel
theorem dX4_same_15 : decode cX4_same 15 = .ok (.iload_n 2, 1) := by decide +kernel
theorem dX4_same_16 : decode cX4_same 16 = .ok (.invokevirtual 94, 3) := by decide +kernel
theorem dX4_same_19 : decode cX4_same 19 = .ok (.ifCond .eq 8, 3) := by decide +kernel
theorem dX4_same_22 : decode cX4_same 22 = .ok (.iload_n 1, 1) := by decide +kernel
theorem dX4_same_23 : decode cX4_same 23 = .ok (.iload_n 2, 1) := by decide +kernel
theorem dX4_same_24 : decode cX4_same 24 = .ok (.if_icmp .ne 5, 3) := by decide +kernel
theorem dX4_same_27 : decode cX4_same 27 = .ok (.iconst (-1), 1) := by decide +kernel
theorem dX4_same_28 : decode cX4_same 28 = .ok (.ireturn, 1) := by decide +kernel
theorem dX4_same_29 : decode cX4_same 29 = .ok (.aload_n 0, 1) := by decide +kernel
theorem dX4_same_30 : decode cX4_same 30 = .ok (.getfield 23, 3) := by decide +kernel
theorem dX4_same_33 : decode cX4_same 33 = .ok (.iload_n 1, 1) := by decide +kernel
theorem dX4_same_34 : decode cX4_same 34 = .ok (.invokevirtual 260, 3) := by decide +kernel
theorem dX4_same_37 : decode cX4_same 37 = .ok (.istore_n 3, 1) := by decide +kernel
theorem dX4_same_38 : decode cX4_same 38 = .ok (.iload_n 3, 1) := by decide +kernel
theorem dX4_same_39 : decode cX4_same 39 = .ok (.aload_n 0, 1) := by decide +kernel
theorem dX4_same_40 : decode cX4_same 40 = .ok (.getfield 23, 3) := by decide +kernel
theorem dX4_same_43 : decode cX4_same 43 = .ok (.iload_n 2, 1) := by decide +kernel
theorem dX4_same_44 : decode cX4_same 44 = .ok (.invokevirtual 260, 3) := by decide +kernel
theorem dX4_same_47 : decode cX4_same 47 = .ok (.if_icmp .ne 7, 3) := by decide +kernel
theorem dX4_same_50 : decode cX4_same 50 = .ok (.iconst 1, 1) := by decide +kernel
theorem dX4_same_51 : decode cX4_same 51 = .ok (.goto 4, 3) := by decide +kernel
theorem dX4_same_54 : decode cX4_same 54 = .ok (.iconst 0, 1) := by decide +kernel
theorem dX4_same_55 : decode cX4_same 55 = .ok (.istore 4, 2) := by decide +kernel
theorem dX4_same_57 : decode cX4_same 57 = .ok (.aload_n 0, 1) := by decide +kernel
theorem dX4_same_58 : decode cX4_same 58 = .ok (.getfield 23, 3) := by decide +kernel
theorem dX4_same_61 : decode cX4_same 61 = .ok (.iload_n 2, 1) := by decide +kernel
theorem dX4_same_62 : decode cX4_same 62 = .ok (.invokevirtual 111, 3) := by decide +kernel
theorem dX4_same_65 : decode cX4_same 65 = .ok (.aload_n 0, 1) := by decide +kernel
theorem dX4_same_66 : decode cX4_same 66 = .ok (.getfield 23, 3) := by decide +kernel
theorem dX4_same_69 : decode cX4_same 69 = .ok (.iload_n 1, 1) := by decide +kernel
theorem dX4_same_70 : decode cX4_same 70 = .ok (.invokevirtual 111, 3) := by decide +kernel
theorem dX4_same_73 : decode cX4_same 73 = .ok (.isub, 1) := by decide +kernel
theorem dX4_same_74 : decode cX4_same 74 = .ok (.istore 5, 2) := by decide +kernel
theorem dX4_same_76 : decode cX4_same 76 = .ok (.iconst 0, 1) := by decide +kernel
theorem dX4_same_77 : decode cX4_same 77 = .ok (.istore 6, 2) := by decide +kernel
theorem dX4_same_79 : decode cX4_same 79 = .ok (.iload 4, 2) := by decide +kernel
theorem dX4_same_81 : decode cX4_same 81 = .ok (.ifCond .eq 68, 3) := by decide +kernel
theorem dX4_same_84 : decode cX4_same 84 = .ok (.iload 6, 2) := by decide +kernel
theorem dX4_same_86 : decode cX4_same 86 = .ok (.iload_n 3, 1) := by decide +kernel
theorem dX4_same_87 : decode cX4_same 87 = .ok (.if_icmp .ge 62, 3) := by decide +kernel
theorem dX4_same_90 : decode cX4_same 90 = .ok (.aload_n 0, 1) := by decide +kernel
theorem dX4_same_91 : decode cX4_same 91 = .ok (.getfield 23, 3) := by decide +kernel
theorem dX4_same_94 : decode cX4_same 94 = .ok (.iload_n 1, 1) := by decide +kernel
theorem dX4_same_95 : decode cX4_same 95 = .ok (.iload 6, 2) := by decide +kernel
theorem dX4_same_97 : decode cX4_same 97 = .ok (.iadd, 1) := by decide +kernel
theorem dX4_same_98 : decode cX4_same 98 = .ok (.iload_n 2, 1) := by decide +kernel
theorem dX4_same_99 : decode cX4_same 99 = .ok (.iload 6, 2) := by decide +kernel
theorem dX4_same_101 : decode cX4_same 101 = .ok (.iadd, 1) := by decide +kernel
theorem dX4_same_102 : decode cX4_same 102 = .ok (.invokevirtual 263, 3) := by decide +kernel
theorem dX4_same_105 : decode cX4_same 105 = .ok (.ifCond .eq 35, 3) := by decide +kernel
theorem dX4_same_108 : decode cX4_same 108 = .ok (.aload_n 0, 1) := by decide +kernel
theorem dX4_same_109 : decode cX4_same 109 = .ok (.getfield 23, 3) := by decide +kernel
theorem dX4_same_112 : decode cX4_same 112 = .ok (.iload_n 2, 1) := by decide +kernel
theorem dX4_same_113 : decode cX4_same 113 = .ok (.iload 6, 2) := by decide +kernel
theorem dX4_same_115 : decode cX4_same 115 = .ok (.iadd, 1) := by decide +kernel
theorem dX4_same_116 : decode cX4_same 116 = .ok (.invokevirtual 111, 3) := by decide +kernel
theorem dX4_same_119 : decode cX4_same 119 = .ok (.aload_n 0, 1) := by decide +kernel
theorem dX4_same_120 : decode cX4_same 120 = .ok (.getfield 23, 3) := by decide +kernel
theorem dX4_same_123 : decode cX4_same 123 = .ok (.iload_n 1, 1) := by decide +kernel
theorem dX4_same_124 : decode cX4_same 124 = .ok (.iload 6, 2) := by decide +kernel
theorem dX4_same_126 : decode cX4_same 126 = .ok (.iadd, 1) := by decide +kernel
theorem dX4_same_127 : decode cX4_same 127 = .ok (.invokevirtual 111, 3) := by decide +kernel
theorem dX4_same_130 : decode cX4_same 130 = .ok (.isub, 1) := by decide +kernel
theorem dX4_same_131 : decode cX4_same 131 = .ok (.iload 5, 2) := by decide +kernel
theorem dX4_same_133 : decode cX4_same 133 = .ok (.if_icmp .ne 7, 3) := by decide +kernel
theorem dX4_same_136 : decode cX4_same 136 = .ok (.iconst 1, 1) := by decide +kernel
theorem dX4_same_137 : decode cX4_same 137 = .ok (.goto 4, 3) := by decide +kernel
theorem dX4_same_140 : decode cX4_same 140 = .ok (.iconst 0, 1) := by decide +kernel
theorem dX4_same_141 : decode cX4_same 141 = .ok (.istore 4, 2) := by decide +kernel
theorem dX4_same_143 : decode cX4_same 143 = .ok (.iinc 6 1, 3) := by decide +kernel
theorem dX4_same_146 : decode cX4_same 146 = .ok (.goto (-67), 3) := by decide +kernel
theorem dX4_same_149 : decode cX4_same 149 = .ok (.iload 4, 2) := by decide +kernel
theorem dX4_same_151 : decode cX4_same 151 = .ok (.ifCond .eq 7, 3) := by decide +kernel
theorem dX4_same_154 : decode cX4_same 154 = .ok (.iconst 1, 1) := by decide +kernel
theorem dX4_same_155 : decode cX4_same 155 = .ok (.goto 4, 3) := by decide +kernel
theorem dX4_same_158 : decode cX4_same 158 = .ok (.iconst 0, 1) := by decide +kernel
theorem dX4_same_159 : decode cX4_same 159 = .ok (.ireturn, 1) := by decide +kernel
theorem dX4_year_0 : decode cX4_year 0 = .ok (.iload_n 1, 1) := by decide +kernel
theorem dX4_year_1 : decode cX4_year 1 = .ok (.ifCond .lt 19, 3) := by decide +kernel
theorem dX4_year_4 : decode cX4_year 4 = .ok (.iload_n 1, 1) := by decide +kernel
theorem dX4_year_5 : decode cX4_year 5 = .ok (.sipush 9999, 3) := by decide +kernel
theorem dX4_year_8 : decode cX4_year 8 = .ok (.if_icmp .gt 12, 3) := by decide +kernel
theorem dX4_year_11 : decode cX4_year 11 = .ok (.iload_n 2, 1) := by decide +kernel
theorem dX4_year_12 : decode cX4_year 12 = .ok (.ifCond .lt 8, 3) := by decide +kernel
theorem dX4_year_15 : decode cX4_year 15 = .ok (.iload_n 2, 1) := by decide +kernel
theorem dX4_year_16 : decode cX4_year 16 = .ok (.iconst 1, 1) := by decide +kernel
theorem dX4_year_17 : decode cX4_year 17 = .ok (.if_icmp .le 5, 3) := by decide +kernel
theorem dX4_year_20 : decode cX4_year 20 = .ok (.iconst (-1), 1) := by decide +kernel
theorem dX4_year_21 : decode cX4_year 21 = .ok (.ireturn, 1) := by decide +kernel
theorem dX4_year_22 : decode cX4_year 22 = .ok (.iconst 0, 1) := by decide +kernel
theorem dX4_year_23 : decode cX4_year 23 = .ok (.istore_n 3, 1) := by decide +kernel
theorem dX4_year_24 : decode cX4_year 24 = .ok (.iconst 0, 1) := by decide +kernel
theorem dX4_year_25 : decode cX4_year 25 = .ok (.istore 4, 2) := by decide +kernel
theorem dX4_year_27 : decode cX4_year 27 = .ok (.iconst 0, 1) := by decide +kernel
theorem dX4_year_28 : decode cX4_year 28 = .ok (.istore 5, 2) := by decide +kernel
theorem dX4_year_30 : decode cX4_year 30 = .ok (.iload 5, 2) := by decide +kernel
theorem dX4_year_32 : decode cX4_year 32 = .ok (.aload_n 0, 1) := by decide +kernel
theorem dX4_year_33 : decode cX4_year 33 = .ok (.getfield 23, 3) := by decide +kernel
theorem dX4_year_36 : decode cX4_year 36 = .ok (.invokevirtual 91, 3) := by decide +kernel
theorem dX4_year_39 : decode cX4_year 39 = .ok (.if_icmp .ge 92, 3) := by decide +kernel
theorem dX4_year_42 : decode cX4_year 42 = .ok (.aload_n 0, 1) := by decide +kernel
theorem dX4_year_43 : decode cX4_year 43 = .ok (.getfield 23, 3) := by decide +kernel
theorem dX4_year_46 : decode cX4_year 46 = .ok (.iload 5, 2) := by decide +kernel
theorem dX4_year_48 : decode cX4_year 48 = .ok (.invokevirtual 187, 3) := by decide +kernel
theorem dX4_year_51 : decode cX4_year 51 = .ok (.ifCond .eq 15, 3) := by decide +kernel
theorem dX4_year_54 : decode cX4_year 54 = .ok (.aload_n 0, 1) := by decide +kernel
theorem dX4_year_55 : decode cX4_year 55 = .ok (.getfield 23, 3) := by decide +kernel
theorem dX4_year_58 : decode cX4_year 58 = .ok (.iload 5, 2) := by decide +kernel
theorem dX4_year_60 : decode cX4_year 60 = .ok (.invokevirtual 120, 3) := by decide +kernel
theorem dX4_year_63 : decode cX4_year 63 = .ok (.goto 5, 3) := by decide +kernel
theorem dX4_year_66 : decode cX4_year 66 = .ok (.bipush (-4), 2) := by decide +kernel
theorem dX4_year_68 : decode cX4_year 68 = .ok (.istore 6, 2) := by decide +kernel
theorem dX4_year_70 : decode cX4_year 70 = .ok (.iload 6, 2) := by decide +kernel
theorem dX4_year_72 : decode cX4_year 72 = .ok (.bipush (-4), 2) := by decide +kernel
theorem dX4_year_74 : decode cX4_year 74 = .ok (.if_icmp .eq 51, 3) := by decide +kernel
theorem dX4_year_77 : decode cX4_year 77 = .ok (.iload 6, 2) := by decide +kernel
theorem dX4_year_79 : decode cX4_year 79 = .ok (.iload_n 1, 1) := by decide +kernel
theorem dX4_year_80 : decode cX4_year 80 = .ok (.iload 5, 2) := by decide +kernel
theorem dX4_year_82 : decode cX4_year 82 = .ok (.invokestatic 266, 3) := by decide +kernel
theorem dX4_year_85 : decode cX4_year 85 = .ok (.iadd, 1) := by decide +kernel
theorem dX4_year_86 : decode cX4_year 86 = .ok (.iconst 0, 1) := by decide +kernel
theorem dX4_year_87 : decode cX4_year 87 = .ok (.invokestatic 233, 3) := by decide +kernel
theorem dX4_year_90 : decode cX4_year 90 = .ok (.aload_n 0, 1) := by decide +kernel
theorem dX4_year_91 : decode cX4_year 91 = .ok (.getfield 23, 3) := by decide +kernel
theorem dX4_year_94 : decode cX4_year 94 = .ok (.iload 5, 2) := by decide +kernel
theorem dX4_year_96 : decode cX4_year 96 = .ok (.invokevirtual 161, 3) := by decide +kernel
theorem dX4_year_99 : decode cX4_year 99 = .ok (.invokestatic 269, 3) := by decide +kernel
theorem dX4_year_102 : decode cX4_year 102 = .ok (.istore 7, 2) := by decide +kernel
theorem dX4_year_104 : decode cX4_year 104 = .ok (.iload_n 3, 1) := by decide +kernel
theorem dX4_year_105 : decode cX4_year 105 = .ok (.aload_n 0, 1) := by decide +kernel
theorem dX4_year_106 : decode cX4_year 106 = .ok (.getfield 23, 3) := by decide +kernel
theorem dX4_year_109 : decode cX4_year 109 = .ok (.iload 5, 2) := by decide +kernel
theorem dX4_year_111 : decode cX4_year 111 = .ok (.iload 7, 2) := by decide +kernel
theorem dX4_year_113 : decode cX4_year 113 = .ok (.invokevirtual 164, 3) := by decide +kernel
theorem dX4_year_116 : decode cX4_year 116 = .ok (.iadd, 1) := by decide +kernel
theorem dX4_year_117 : decode cX4_year 117 = .ok (.istore_n 3, 1) := by decide +kernel
theorem dX4_year_118 : decode cX4_year 118 = .ok (.iload 4, 2) := by decide +kernel
theorem dX4_year_120 : decode cX4_year 120 = .ok (.iload 7, 2) := by decide +kernel
theorem dX4_year_122 : decode cX4_year 122 = .ok (.iadd, 1) := by decide +kernel
theorem dX4_year_123 : decode cX4_year 123 = .ok (.istore 4, 2) := by decide +kernel
theorem dX4_year_125 : decode cX4_year 125 = .ok (.iinc 5 1, 3) := by decide +kernel
theorem dX4_year_128 : decode cX4_year 128 = .ok (.goto (-98), 3) := by decide +kernel
theorem dX4_year_131 : decode cX4_year 131 = .ok (.iload_n 2, 1) := by decide +kernel
theorem dX4_year_132 : decode cX4_year 132 = .ok (.ifCond .ne 7, 3) := by decide +kernel
theorem dX4_year_135 : decode cX4_year 135 = .ok (.iload_n 3, 1) := by decide +kernel
theorem dX4_year_136 : decode cX4_year 136 = .ok (.goto 5, 3) := by decide +kernel
theorem dX4_year_139 : decode cX4_year 139 = .ok (.iload 4, 2) := by decide +kernel
theorem dX4_year_141 : decode cX4_year 141 = .ok (.ireturn, 1) := by decide +kernel
theorem dX4_keep_0 : decode cX4_keep 0 = .ok (.aload_n 0, 1) := by decide +kernel
theorem dX4_keep_1 : decode cX4_keep 1 = .ok (.getfield 36, 3) := by decide +kernel
theorem dX4_keep_4 : decode cX4_keep 4 = .ok (.getfield 193, 3) := by decide +kernel
theorem dX4_keep_7 : decode cX4_keep 7 = .ok (.iconst 2, 1) := by decide +kernel
theorem dX4_keep_8 : decode cX4_keep 8 = .ok (.if_icmp .lt 6, 3) := by decide +kernel
theorem dX4_keep_11 : decode cX4_keep 11 = .ok (.bipush (-3), 2) := by decide +kernel
theorem dX4_keep_13 : decode cX4_keep 13 = .ok (.ireturn, 1) := by decide +kernel
theorem dX4_keep_14 : decode cX4_keep 14 = .ok (.aload_n 0, 1) := by decide +kernel
theorem dX4_keep_15 : decode cX4_keep 15 = .ok (.getfield 36, 3) := by decide +kernel
theorem dX4_keep_18 : decode cX4_keep 18 = .ok (.aload_n 0, 1) := by decide +kernel
theorem dX4_keep_19 : decode cX4_keep 19 = .ok (.getfield 23, 3) := by decide +kernel
theorem dX4_keep_22 : decode cX4_keep 22 = .ok (.getfield 78, 3) := by decide +kernel
theorem dX4_keep_25 : decode cX4_keep 25 = .ok (.invokevirtual 167, 3) := by decide +kernel
theorem dX4_keep_28 : decode cX4_keep 28 = .ok (.aload_n 0, 1) := by decide +kernel
theorem dX4_keep_29 : decode cX4_keep 29 = .ok (.getfield 36, 3) := by decide +kernel
theorem dX4_keep_32 : decode cX4_keep 32 = .ok (.getfield 193, 3) := by decide +kernel
theorem dX4_keep_35 : decode cX4_keep 35 = .ok (.ireturn, 1) := by decide +kernel
theorem dX4_back_0 : decode cX4_back 0 = .ok (.aload_n 0, 1) := by decide +kernel
theorem dX4_back_1 : decode cX4_back 1 = .ok (.getfield 36, 3) := by decide +kernel
theorem dX4_back_4 : decode cX4_back 4 = .ok (.getfield 193, 3) := by decide +kernel
theorem dX4_back_7 : decode cX4_back 7 = .ok (.ifCond .ne 6, 3) := by decide +kernel
theorem dX4_back_10 : decode cX4_back 10 = .ok (.bipush (-2), 2) := by decide +kernel
theorem dX4_back_12 : decode cX4_back 12 = .ok (.ireturn, 1) := by decide +kernel
theorem dX4_back_13 : decode cX4_back 13 = .ok (.aload_n 0, 1) := by decide +kernel
theorem dX4_back_14 : decode cX4_back 14 = .ok (.getfield 36, 3) := by decide +kernel
theorem dX4_back_17 : decode cX4_back 17 = .ok (.aload_n 0, 1) := by decide +kernel
theorem dX4_back_18 : decode cX4_back 18 = .ok (.getfield 23, 3) := by decide +kernel
theorem dX4_back_21 : decode cX4_back 21 = .ok (.getfield 78, 3) := by decide +kernel
theorem dX4_back_24 : decode cX4_back 24 = .ok (.invokevirtual 196, 3) := by decide +kernel
theorem dX4_back_27 : decode cX4_back 27 = .ok (.aload_n 0, 1) := by decide +kernel
theorem dX4_back_28 : decode cX4_back 28 = .ok (.getfield 32, 3) := by decide +kernel
theorem dX4_back_31 : decode cX4_back 31 = .ok (.invokevirtual 88, 3) := by decide +kernel
theorem dX4_back_34 : decode cX4_back 34 = .ok (.aload_n 0, 1) := by decide +kernel
theorem dX4_back_35 : decode cX4_back 35 = .ok (.getfield 36, 3) := by decide +kernel
theorem dX4_back_38 : decode cX4_back 38 = .ok (.getfield 193, 3) := by decide +kernel
theorem dX4_back_41 : decode cX4_back 41 = .ok (.ireturn, 1) := by decide +kernel
theorem dX4_count_0 : decode cX4_count 0 = .ok (.iload_n 1, 1) := by decide +kernel
theorem dX4_count_1 : decode cX4_count 1 = .ok (.tableswitch 108 0 7 #[47, 55, 63, 71, 79, 87, 95, 103], 47) := by decide +kernel
theorem dX4_count_48 : decode cX4_count 48 = .ok (.aload_n 0, 1) := by decide +kernel
theorem dX4_count_49 : decode cX4_count 49 = .ok (.getfield 23, 3) := by decide +kernel
theorem dX4_count_52 : decode cX4_count 52 = .ok (.invokevirtual 91, 3) := by decide +kernel
theorem dX4_count_55 : decode cX4_count 55 = .ok (.ireturn, 1) := by decide +kernel
theorem dX4_count_56 : decode cX4_count 56 = .ok (.aload_n 0, 1) := by decide +kernel
theorem dX4_count_57 : decode cX4_count 57 = .ok (.getfield 23, 3) := by decide +kernel
theorem dX4_count_60 : decode cX4_count 60 = .ok (.invokevirtual 272, 3) := by decide +kernel
theorem dX4_count_63 : decode cX4_count 63 = .ok (.ireturn, 1) := by decide +kernel
theorem dX4_count_64 : decode cX4_count 64 = .ok (.aload_n 0, 1) := by decide +kernel
theorem dX4_count_65 : decode cX4_count 65 = .ok (.getfield 23, 3) := by decide +kernel
theorem dX4_count_68 : decode cX4_count 68 = .ok (.invokevirtual 275, 3) := by decide +kernel
theorem dX4_count_71 : decode cX4_count 71 = .ok (.ireturn, 1) := by decide +kernel
theorem dX4_count_72 : decode cX4_count 72 = .ok (.aload_n 0, 1) := by decide +kernel
theorem dX4_count_73 : decode cX4_count 73 = .ok (.getfield 23, 3) := by decide +kernel
theorem dX4_count_76 : decode cX4_count 76 = .ok (.invokevirtual 278, 3) := by decide +kernel
theorem dX4_count_79 : decode cX4_count 79 = .ok (.ireturn, 1) := by decide +kernel
theorem dX4_count_80 : decode cX4_count 80 = .ok (.aload_n 0, 1) := by decide +kernel
theorem dX4_count_81 : decode cX4_count 81 = .ok (.getfield 23, 3) := by decide +kernel
theorem dX4_count_84 : decode cX4_count 84 = .ok (.invokevirtual 281, 3) := by decide +kernel
theorem dX4_count_87 : decode cX4_count 87 = .ok (.ireturn, 1) := by decide +kernel
theorem dX4_count_88 : decode cX4_count 88 = .ok (.aload_n 0, 1) := by decide +kernel
theorem dX4_count_89 : decode cX4_count 89 = .ok (.getfield 32, 3) := by decide +kernel
theorem dX4_count_92 : decode cX4_count 92 = .ok (.getfield 193, 3) := by decide +kernel
theorem dX4_count_95 : decode cX4_count 95 = .ok (.ireturn, 1) := by decide +kernel
theorem dX4_count_96 : decode cX4_count 96 = .ok (.aload_n 0, 1) := by decide +kernel
theorem dX4_count_97 : decode cX4_count 97 = .ok (.getfield 36, 3) := by decide +kernel
theorem dX4_count_100 : decode cX4_count 100 = .ok (.getfield 193, 3) := by decide +kernel
theorem dX4_count_103 : decode cX4_count 103 = .ok (.ireturn, 1) := by decide +kernel
theorem dX4_count_104 : decode cX4_count 104 = .ok (.aload_n 0, 1) := by decide +kernel
theorem dX4_count_105 : decode cX4_count 105 = .ok (.getfield 85, 3) := by decide +kernel
theorem dX4_count_108 : decode cX4_count 108 = .ok (.ireturn, 1) := by decide +kernel
theorem dX4_count_109 : decode cX4_count 109 = .ok (.iconst (-1), 1) := by decide +kernel
theorem dX4_count_110 : decode cX4_count 110 = .ok (.ireturn, 1) := by decide +kernel
theorem dX4_measureRoom_0 : decode cX4_measureRoom 0 = .ok (.aload_n 0, 1) := by decide +kernel
theorem dX4_measureRoom_1 : decode cX4_measureRoom 1 = .ok (.getfield 46, 3) := by decide +kernel
theorem dX4_measureRoom_4 : decode cX4_measureRoom 4 = .ok (.iconst 0, 1) := by decide +kernel
theorem dX4_measureRoom_5 : decode cX4_measureRoom 5 = .ok (.invokestatic 284, 3) := by decide +kernel
theorem dX4_measureRoom_8 : decode cX4_measureRoom 8 = .ok (.aload_n 0, 1) := by decide +kernel
theorem dX4_measureRoom_9 : decode cX4_measureRoom 9 = .ok (.getfield 50, 3) := by decide +kernel
theorem dX4_measureRoom_12 : decode cX4_measureRoom 12 = .ok (.iconst 0, 1) := by decide +kernel
theorem dX4_measureRoom_13 : decode cX4_measureRoom 13 = .ok (.invokestatic 284, 3) := by decide +kernel
theorem dX4_measureRoom_16 : decode cX4_measureRoom 16 = .ok (.iconst 0, 1) := by decide +kernel
theorem dX4_measureRoom_17 : decode cX4_measureRoom 17 = .ok (.istore_n 2, 1) := by decide +kernel
theorem dX4_measureRoom_18 : decode cX4_measureRoom 18 = .ok (.iload_n 2, 1) := by decide +kernel
theorem dX4_measureRoom_19 : decode cX4_measureRoom 19 = .ok (.aload_n 0, 1) := by decide +kernel
theorem dX4_measureRoom_20 : decode cX4_measureRoom 20 = .ok (.getfield 23, 3) := by decide +kernel
theorem dX4_measureRoom_23 : decode cX4_measureRoom 23 = .ok (.invokevirtual 91, 3) := by decide +kernel
theorem dX4_measureRoom_26 : decode cX4_measureRoom 26 = .ok (.if_icmp .ge 119, 3) := by decide +kernel
theorem dX4_measureRoom_29 : decode cX4_measureRoom 29 = .ok (.iconst 0, 1) := by decide +kernel
theorem dX4_measureRoom_30 : decode cX4_measureRoom 30 = .ok (.istore_n 3, 1) := by decide +kernel
theorem dX4_measureRoom_31 : decode cX4_measureRoom 31 = .ok (.aload_n 0, 1) := by decide +kernel
theorem dX4_measureRoom_32 : decode cX4_measureRoom 32 = .ok (.getfield 23, 3) := by decide +kernel
theorem dX4_measureRoom_35 : decode cX4_measureRoom 35 = .ok (.iload_n 2, 1) := by decide +kernel
theorem dX4_measureRoom_36 : decode cX4_measureRoom 36 = .ok (.iload_n 1, 1) := by decide +kernel
theorem dX4_measureRoom_37 : decode cX4_measureRoom 37 = .ok (.invokevirtual 207, 3) := by decide +kernel
theorem dX4_measureRoom_40 : decode cX4_measureRoom 40 = .ok (.ifCond .eq 99, 3) := by decide +kernel
theorem dX4_measureRoom_43 : decode cX4_measureRoom 43 = .ok (.iload_n 3, 1) := by decide +kernel
theorem dX4_measureRoom_44 : decode cX4_measureRoom 44 = .ok (.aload_n 0, 1) := by decide +kernel
theorem dX4_measureRoom_45 : decode cX4_measureRoom 45 = .ok (.getfield 23, 3) := by decide +kernel
theorem dX4_measureRoom_48 : decode cX4_measureRoom 48 = .ok (.iload_n 2, 1) := by decide +kernel
theorem dX4_measureRoom_49 : decode cX4_measureRoom 49 = .ok (.invokevirtual 102, 3) := by decide +kernel
theorem dX4_measureRoom_52 : decode cX4_measureRoom 52 = .ok (.if_icmp .ge 87, 3) := by decide +kernel
theorem dX4_measureRoom_55 : decode cX4_measureRoom 55 = .ok (.aload_n 0, 1) := by decide +kernel
theorem dX4_measureRoom_56 : decode cX4_measureRoom 56 = .ok (.getfield 23, 3) := by decide +kernel
theorem dX4_measureRoom_59 : decode cX4_measureRoom 59 = .ok (.iload_n 2, 1) := by decide +kernel
theorem dX4_measureRoom_60 : decode cX4_measureRoom 60 = .ok (.iload_n 3, 1) := by decide +kernel
theorem dX4_measureRoom_61 : decode cX4_measureRoom 61 = .ok (.invokevirtual 136, 3) := by decide +kernel
theorem dX4_measureRoom_64 : decode cX4_measureRoom 64 = .ok (.invokestatic 220, 3) := by decide +kernel
theorem dX4_measureRoom_67 : decode cX4_measureRoom 67 = .ok (.istore 4, 2) := by decide +kernel
theorem dX4_measureRoom_69 : decode cX4_measureRoom 69 = .ok (.aload_n 0, 1) := by decide +kernel
theorem dX4_measureRoom_70 : decode cX4_measureRoom 70 = .ok (.getfield 23, 3) := by decide +kernel
theorem dX4_measureRoom_73 : decode cX4_measureRoom 73 = .ok (.iload_n 2, 1) := by decide +kernel
theorem dX4_measureRoom_74 : decode cX4_measureRoom 74 = .ok (.invokevirtual 117, 3) := by decide +kernel
theorem dX4_measureRoom_77 : decode cX4_measureRoom 77 = .ok (.ifCond .eq 8, 3) := by decide +kernel
theorem dX4_measureRoom_80 : decode cX4_measureRoom 80 = .ok (.iload 4, 2) := by decide +kernel
theorem dX4_measureRoom_82 : decode cX4_measureRoom 82 = .ok (.goto 8, 3) := by decide +kernel
theorem dX4_measureRoom_85 : decode cX4_measureRoom 85 = .ok (.bipush 9, 2) := by decide +kernel
theorem dX4_measureRoom_87 : decode cX4_measureRoom 87 = .ok (.iload 4, 2) := by decide +kernel
theorem dX4_measureRoom_89 : decode cX4_measureRoom 89 = .ok (.isub, 1) := by decide +kernel
theorem dX4_measureRoom_90 : decode cX4_measureRoom 90 = .ok (.istore 5, 2) := by decide +kernel
theorem dX4_measureRoom_92 : decode cX4_measureRoom 92 = .ok (.aload_n 0, 1) := by decide +kernel
theorem dX4_measureRoom_93 : decode cX4_measureRoom 93 = .ok (.getfield 46, 3) := by decide +kernel
theorem dX4_measureRoom_96 : decode cX4_measureRoom 96 = .ok (.iload_n 3, 1) := by decide +kernel
theorem dX4_measureRoom_97 : decode cX4_measureRoom 97 = .ok (.aload_n 0, 1) := by decide +kernel
theorem dX4_measureRoom_98 : decode cX4_measureRoom 98 = .ok (.getfield 46, 3) := by decide +kernel
theorem dX4_measureRoom_101 : decode cX4_measureRoom 101 = .ok (.iload_n 3, 1) := by decide +kernel
theorem dX4_measureRoom_102 : decode cX4_measureRoom 102 = .ok (.invokestatic 229, 3) := by decide +kernel
theorem dX4_measureRoom_105 : decode cX4_measureRoom 105 = .ok (.iload 5, 2) := by decide +kernel
theorem dX4_measureRoom_107 : decode cX4_measureRoom 107 = .ok (.iadd, 1) := by decide +kernel
theorem dX4_measureRoom_108 : decode cX4_measureRoom 108 = .ok (.invokestatic 238, 3) := by decide +kernel
theorem dX4_measureRoom_111 : decode cX4_measureRoom 111 = .ok (.aload_n 0, 1) := by decide +kernel
theorem dX4_measureRoom_112 : decode cX4_measureRoom 112 = .ok (.getfield 50, 3) := by decide +kernel
theorem dX4_measureRoom_115 : decode cX4_measureRoom 115 = .ok (.iload_n 3, 1) := by decide +kernel
theorem dX4_measureRoom_116 : decode cX4_measureRoom 116 = .ok (.aload_n 0, 1) := by decide +kernel
theorem dX4_measureRoom_117 : decode cX4_measureRoom 117 = .ok (.getfield 50, 3) := by decide +kernel
theorem dX4_measureRoom_120 : decode cX4_measureRoom 120 = .ok (.iload_n 3, 1) := by decide +kernel
theorem dX4_measureRoom_121 : decode cX4_measureRoom 121 = .ok (.invokestatic 229, 3) := by decide +kernel
theorem dX4_measureRoom_124 : decode cX4_measureRoom 124 = .ok (.bipush 9, 2) := by decide +kernel
theorem dX4_measureRoom_126 : decode cX4_measureRoom 126 = .ok (.iadd, 1) := by decide +kernel
theorem dX4_measureRoom_127 : decode cX4_measureRoom 127 = .ok (.iload 5, 2) := by decide +kernel
theorem dX4_measureRoom_129 : decode cX4_measureRoom 129 = .ok (.isub, 1) := by decide +kernel
theorem dX4_measureRoom_130 : decode cX4_measureRoom 130 = .ok (.invokestatic 238, 3) := by decide +kernel
theorem dX4_measureRoom_133 : decode cX4_measureRoom 133 = .ok (.iinc 3 1, 3) := by decide +kernel
theorem dX4_measureRoom_136 : decode cX4_measureRoom 136 = .ok (.goto (-105), 3) := by decide +kernel
theorem dX4_measureRoom_139 : decode cX4_measureRoom 139 = .ok (.iinc 2 1, 3) := by decide +kernel
theorem dX4_measureRoom_142 : decode cX4_measureRoom 142 = .ok (.goto (-124), 3) := by decide +kernel
theorem dX4_measureRoom_145 : decode cX4_measureRoom 145 = .ok (.return_, 1) := by decide +kernel
theorem dX4_leastMoves_0 : decode cX4_leastMoves 0 = .ok (.aload_n 1, 1) := by decide +kernel
theorem dX4_leastMoves_1 : decode cX4_leastMoves 1 = .ok (.iload_n 2, 1) := by decide +kernel
theorem dX4_leastMoves_2 : decode cX4_leastMoves 2 = .ok (.invokestatic 229, 3) := by decide +kernel
theorem dX4_leastMoves_5 : decode cX4_leastMoves 5 = .ok (.ineg, 1) := by decide +kernel
theorem dX4_leastMoves_6 : decode cX4_leastMoves 6 = .ok (.istore 4, 2) := by decide +kernel
theorem dX4_leastMoves_8 : decode cX4_leastMoves 8 = .ok (.aload_n 0, 1) := by decide +kernel
theorem dX4_leastMoves_9 : decode cX4_leastMoves 9 = .ok (.iload_n 2, 1) := by decide +kernel
theorem dX4_leastMoves_10 : decode cX4_leastMoves 10 = .ok (.invokestatic 229, 3) := by decide +kernel
theorem dX4_leastMoves_13 : decode cX4_leastMoves 13 = .ok (.istore 5, 2) := by decide +kernel
theorem dX4_leastMoves_15 : decode cX4_leastMoves 15 = .ok (.iload_n 2, 1) := by decide +kernel
theorem dX4_leastMoves_16 : decode cX4_leastMoves 16 = .ok (.iconst 3, 1) := by decide +kernel
theorem dX4_leastMoves_17 : decode cX4_leastMoves 17 = .ok (.if_icmp .lt 25, 3) := by decide +kernel
theorem dX4_leastMoves_20 : decode cX4_leastMoves 20 = .ok (.iload_n 3, 1) := by decide +kernel
theorem dX4_leastMoves_21 : decode cX4_leastMoves 21 = .ok (.iload 4, 2) := by decide +kernel
theorem dX4_leastMoves_23 : decode cX4_leastMoves 23 = .ok (.if_icmp .lt 16, 3) := by decide +kernel
theorem dX4_leastMoves_26 : decode cX4_leastMoves 26 = .ok (.iload_n 3, 1) := by decide +kernel
theorem dX4_leastMoves_27 : decode cX4_leastMoves 27 = .ok (.iload 5, 2) := by decide +kernel
theorem dX4_leastMoves_29 : decode cX4_leastMoves 29 = .ok (.if_icmp .gt 10, 3) := by decide +kernel
theorem dX4_leastMoves_32 : decode cX4_leastMoves 32 = .ok (.iload_n 3, 1) := by decide +kernel
theorem dX4_leastMoves_33 : decode cX4_leastMoves 33 = .ok (.invokestatic 290, 3) := by decide +kernel
theorem dX4_leastMoves_36 : decode cX4_leastMoves 36 = .ok (.goto 5, 3) := by decide +kernel
theorem dX4_leastMoves_39 : decode cX4_leastMoves 39 = .ok (.bipush (-4), 2) := by decide +kernel
theorem dX4_leastMoves_41 : decode cX4_leastMoves 41 = .ok (.ireturn, 1) := by decide +kernel
theorem dX4_leastMoves_42 : decode cX4_leastMoves 42 = .ok (.bipush (-4), 2) := by decide +kernel
theorem dX4_leastMoves_44 : decode cX4_leastMoves 44 = .ok (.istore 6, 2) := by decide +kernel
theorem dX4_leastMoves_46 : decode cX4_leastMoves 46 = .ok (.iload 4, 2) := by decide +kernel
theorem dX4_leastMoves_48 : decode cX4_leastMoves 48 = .ok (.iload_n 3, 1) := by decide +kernel
theorem dX4_leastMoves_49 : decode cX4_leastMoves 49 = .ok (.iload 4, 2) := by decide +kernel
theorem dX4_leastMoves_51 : decode cX4_leastMoves 51 = .ok (.isub, 1) := by decide +kernel
theorem dX4_leastMoves_52 : decode cX4_leastMoves 52 = .ok (.bipush 10, 2) := by decide +kernel
theorem dX4_leastMoves_54 : decode cX4_leastMoves 54 = .ok (.invokestatic 293, 3) := by decide +kernel
theorem dX4_leastMoves_57 : decode cX4_leastMoves 57 = .ok (.iadd, 1) := by decide +kernel
theorem dX4_leastMoves_58 : decode cX4_leastMoves 58 = .ok (.istore 7, 2) := by decide +kernel
theorem dX4_leastMoves_60 : decode cX4_leastMoves 60 = .ok (.iload 7, 2) := by decide +kernel
theorem dX4_leastMoves_62 : decode cX4_leastMoves 62 = .ok (.iload 5, 2) := by decide +kernel
theorem dX4_leastMoves_64 : decode cX4_leastMoves 64 = .ok (.if_icmp .gt 61, 3) := by decide +kernel
theorem dX4_leastMoves_67 : decode cX4_leastMoves 67 = .ok (.aload_n 0, 1) := by decide +kernel
theorem dX4_leastMoves_68 : decode cX4_leastMoves 68 = .ok (.aload_n 1, 1) := by decide +kernel
theorem dX4_leastMoves_69 : decode cX4_leastMoves 69 = .ok (.iload_n 2, 1) := by decide +kernel
theorem dX4_leastMoves_70 : decode cX4_leastMoves 70 = .ok (.iconst 1, 1) := by decide +kernel
theorem dX4_leastMoves_71 : decode cX4_leastMoves 71 = .ok (.iadd, 1) := by decide +kernel
theorem dX4_leastMoves_72 : decode cX4_leastMoves 72 = .ok (.iload_n 3, 1) := by decide +kernel
theorem dX4_leastMoves_73 : decode cX4_leastMoves 73 = .ok (.iload 7, 2) := by decide +kernel
theorem dX4_leastMoves_75 : decode cX4_leastMoves 75 = .ok (.isub, 1) := by decide +kernel
theorem dX4_leastMoves_76 : decode cX4_leastMoves 76 = .ok (.bipush 10, 2) := by decide +kernel
theorem dX4_leastMoves_78 : decode cX4_leastMoves 78 = .ok (.idiv, 1) := by decide +kernel
theorem dX4_leastMoves_79 : decode cX4_leastMoves 79 = .ok (.invokestatic 203, 3) := by decide +kernel
theorem dX4_leastMoves_82 : decode cX4_leastMoves 82 = .ok (.istore 8, 2) := by decide +kernel
theorem dX4_leastMoves_84 : decode cX4_leastMoves 84 = .ok (.iload 8, 2) := by decide +kernel
theorem dX4_leastMoves_86 : decode cX4_leastMoves 86 = .ok (.iload 7, 2) := by decide +kernel
theorem dX4_leastMoves_88 : decode cX4_leastMoves 88 = .ok (.invokestatic 290, 3) := by decide +kernel
theorem dX4_leastMoves_91 : decode cX4_leastMoves 91 = .ok (.iadd, 1) := by decide +kernel
theorem dX4_leastMoves_92 : decode cX4_leastMoves 92 = .ok (.istore 9, 2) := by decide +kernel
theorem dX4_leastMoves_94 : decode cX4_leastMoves 94 = .ok (.iload 8, 2) := by decide +kernel
theorem dX4_leastMoves_96 : decode cX4_leastMoves 96 = .ok (.bipush (-4), 2) := by decide +kernel
theorem dX4_leastMoves_98 : decode cX4_leastMoves 98 = .ok (.if_icmp .eq 21, 3) := by decide +kernel
theorem dX4_leastMoves_101 : decode cX4_leastMoves 101 = .ok (.iload 6, 2) := by decide +kernel
theorem dX4_leastMoves_103 : decode cX4_leastMoves 103 = .ok (.bipush (-4), 2) := by decide +kernel
theorem dX4_leastMoves_105 : decode cX4_leastMoves 105 = .ok (.if_icmp .eq 10, 3) := by decide +kernel
theorem dX4_leastMoves_108 : decode cX4_leastMoves 108 = .ok (.iload 9, 2) := by decide +kernel
theorem dX4_leastMoves_110 : decode cX4_leastMoves 110 = .ok (.iload 6, 2) := by decide +kernel
theorem dX4_leastMoves_112 : decode cX4_leastMoves 112 = .ok (.if_icmp .ge 7, 3) := by decide +kernel
theorem dX4_leastMoves_115 : decode cX4_leastMoves 115 = .ok (.iload 9, 2) := by decide +kernel
theorem dX4_leastMoves_117 : decode cX4_leastMoves 117 = .ok (.istore 6, 2) := by decide +kernel
theorem dX4_leastMoves_119 : decode cX4_leastMoves 119 = .ok (.iinc 7 10, 3) := by decide +kernel
theorem dX4_leastMoves_122 : decode cX4_leastMoves 122 = .ok (.goto (-62), 3) := by decide +kernel
theorem dX4_leastMoves_125 : decode cX4_leastMoves 125 = .ok (.iload 6, 2) := by decide +kernel
theorem dX4_leastMoves_127 : decode cX4_leastMoves 127 = .ok (.ireturn, 1) := by decide +kernel
theorem dX4_slipAt_0 : decode cX4_slipAt 0 = .ok (.iload_n 2, 1) := by decide +kernel
theorem dX4_slipAt_1 : decode cX4_slipAt 1 = .ok (.invokestatic 223, 3) := by decide +kernel
theorem dX4_slipAt_4 : decode cX4_slipAt 4 = .ok (.istore 4, 2) := by decide +kernel
theorem dX4_slipAt_6 : decode cX4_slipAt 6 = .ok (.aload_n 0, 1) := by decide +kernel
theorem dX4_slipAt_7 : decode cX4_slipAt 7 = .ok (.getfield 23, 3) := by decide +kernel
theorem dX4_slipAt_10 : decode cX4_slipAt 10 = .ok (.iload_n 1, 1) := by decide +kernel
theorem dX4_slipAt_11 : decode cX4_slipAt 11 = .ok (.iload_n 2, 1) := by decide +kernel
theorem dX4_slipAt_12 : decode cX4_slipAt 12 = .ok (.invokevirtual 136, 3) := by decide +kernel
theorem dX4_slipAt_15 : decode cX4_slipAt 15 = .ok (.invokestatic 220, 3) := by decide +kernel
theorem dX4_slipAt_18 : decode cX4_slipAt 18 = .ok (.istore 5, 2) := by decide +kernel
theorem dX4_slipAt_20 : decode cX4_slipAt 20 = .ok (.iconst 0, 1) := by decide +kernel
theorem dX4_slipAt_21 : decode cX4_slipAt 21 = .ok (.istore 6, 2) := by decide +kernel
theorem dX4_slipAt_23 : decode cX4_slipAt 23 = .ok (.iload 6, 2) := by decide +kernel
theorem dX4_slipAt_25 : decode cX4_slipAt 25 = .ok (.bipush 9, 2) := by decide +kernel
theorem dX4_slipAt_27 : decode cX4_slipAt 27 = .ok (.if_icmp .gt 53, 3) := by decide +kernel
theorem dX4_slipAt_30 : decode cX4_slipAt 30 = .ok (.iload 6, 2) := by decide +kernel
theorem dX4_slipAt_32 : decode cX4_slipAt 32 = .ok (.iload 5, 2) := by decide +kernel
theorem dX4_slipAt_34 : decode cX4_slipAt 34 = .ok (.isub, 1) := by decide +kernel
theorem dX4_slipAt_35 : decode cX4_slipAt 35 = .ok (.iload 4, 2) := by decide +kernel
theorem dX4_slipAt_37 : decode cX4_slipAt 37 = .ok (.imul, 1) := by decide +kernel
theorem dX4_slipAt_38 : decode cX4_slipAt 38 = .ok (.istore 7, 2) := by decide +kernel
theorem dX4_slipAt_40 : decode cX4_slipAt 40 = .ok (.iload 6, 2) := by decide +kernel
theorem dX4_slipAt_42 : decode cX4_slipAt 42 = .ok (.iload 5, 2) := by decide +kernel
theorem dX4_slipAt_44 : decode cX4_slipAt 44 = .ok (.if_icmp .eq 30, 3) := by decide +kernel
theorem dX4_slipAt_47 : decode cX4_slipAt 47 = .ok (.iload_n 3, 1) := by decide +kernel
theorem dX4_slipAt_48 : decode cX4_slipAt 48 = .ok (.aload_n 0, 1) := by decide +kernel
theorem dX4_slipAt_49 : decode cX4_slipAt 49 = .ok (.getfield 23, 3) := by decide +kernel
theorem dX4_slipAt_52 : decode cX4_slipAt 52 = .ok (.iload_n 1, 1) := by decide +kernel
theorem dX4_slipAt_53 : decode cX4_slipAt 53 = .ok (.invokevirtual 117, 3) := by decide +kernel
theorem dX4_slipAt_56 : decode cX4_slipAt 56 = .ok (.ifCond .eq 9, 3) := by decide +kernel
theorem dX4_slipAt_59 : decode cX4_slipAt 59 = .ok (.iload 7, 2) := by decide +kernel
theorem dX4_slipAt_61 : decode cX4_slipAt 61 = .ok (.ineg, 1) := by decide +kernel
theorem dX4_slipAt_62 : decode cX4_slipAt 62 = .ok (.goto 5, 3) := by decide +kernel
theorem dX4_slipAt_65 : decode cX4_slipAt 65 = .ok (.iload 7, 2) := by decide +kernel
theorem dX4_slipAt_67 : decode cX4_slipAt 67 = .ok (.iadd, 1) := by decide +kernel
theorem dX4_slipAt_68 : decode cX4_slipAt 68 = .ok (.ifCond .ne 6, 3) := by decide +kernel
theorem dX4_slipAt_71 : decode cX4_slipAt 71 = .ok (.iload 6, 2) := by decide +kernel
theorem dX4_slipAt_73 : decode cX4_slipAt 73 = .ok (.ireturn, 1) := by decide +kernel
theorem dX4_slipAt_74 : decode cX4_slipAt 74 = .ok (.iinc 6 1, 3) := by decide +kernel
theorem dX4_slipAt_77 : decode cX4_slipAt 77 = .ok (.goto (-54), 3) := by decide +kernel
theorem dX4_slipAt_80 : decode cX4_slipAt 80 = .ok (.bipush (-4), 2) := by decide +kernel
theorem dX4_slipAt_82 : decode cX4_slipAt 82 = .ok (.ireturn, 1) := by decide +kernel
theorem dX4_drawn_0 : decode cX4_drawn 0 = .ok (.ldc2_w 296, 3) := by decide +kernel
theorem dX4_drawn_3 : decode cX4_drawn 3 = .ok (.iload_n 0, 1) := by decide +kernel
theorem dX4_drawn_4 : decode cX4_drawn 4 = .ok (.i2l, 1) := by decide +kernel
theorem dX4_drawn_5 : decode cX4_drawn 5 = .ok (.lmul, 1) := by decide +kernel
theorem dX4_drawn_6 : decode cX4_drawn 6 = .ok (.ldc2_w 298, 3) := by decide +kernel
theorem dX4_drawn_9 : decode cX4_drawn 9 = .ok (.iload_n 1, 1) := by decide +kernel
theorem dX4_drawn_10 : decode cX4_drawn 10 = .ok (.i2l, 1) := by decide +kernel
theorem dX4_drawn_11 : decode cX4_drawn 11 = .ok (.lmul, 1) := by decide +kernel
theorem dX4_drawn_12 : decode cX4_drawn 12 = .ok (.ladd, 1) := by decide +kernel
theorem dX4_drawn_13 : decode cX4_drawn 13 = .ok (.lconst 1, 1) := by decide +kernel
theorem dX4_drawn_14 : decode cX4_drawn 14 = .ok (.ladd, 1) := by decide +kernel
theorem dX4_drawn_15 : decode cX4_drawn 15 = .ok (.lstore_n 2, 1) := by decide +kernel
theorem dX4_drawn_16 : decode cX4_drawn 16 = .ok (.lload_n 2, 1) := by decide +kernel
theorem dX4_drawn_17 : decode cX4_drawn 17 = .ok (.lload_n 2, 1) := by decide +kernel
theorem dX4_drawn_18 : decode cX4_drawn 18 = .ok (.lmul, 1) := by decide +kernel
theorem dX4_drawn_19 : decode cX4_drawn 19 = .ok (.ldc2_w 300, 3) := by decide +kernel
theorem dX4_drawn_22 : decode cX4_drawn 22 = .ok (.lrem, 1) := by decide +kernel
theorem dX4_drawn_23 : decode cX4_drawn 23 = .ok (.ldc2_w 302, 3) := by decide +kernel
theorem dX4_drawn_26 : decode cX4_drawn 26 = .ok (.ldiv, 1) := by decide +kernel
theorem dX4_drawn_27 : decode cX4_drawn 27 = .ok (.lstore 4, 2) := by decide +kernel
theorem dX4_drawn_29 : decode cX4_drawn 29 = .ok (.lload 4, 2) := by decide +kernel
theorem dX4_drawn_31 : decode cX4_drawn 31 = .ok (.ldc2_w 304, 3) := by decide +kernel
theorem dX4_drawn_34 : decode cX4_drawn 34 = .ok (.lrem, 1) := by decide +kernel
theorem dX4_drawn_35 : decode cX4_drawn 35 = .ok (.l2i, 1) := by decide +kernel
theorem dX4_drawn_36 : decode cX4_drawn 36 = .ok (.bipush 10, 2) := by decide +kernel
theorem dX4_drawn_38 : decode cX4_drawn 38 = .ok (.isub, 1) := by decide +kernel
theorem dX4_drawn_39 : decode cX4_drawn 39 = .ok (.ireturn, 1) := by decide +kernel
theorem dX4_choices_0 : decode cX4_choices 0 = .ok (.iconst 0, 1) := by decide +kernel
theorem dX4_choices_1 : decode cX4_choices 1 = .ok (.istore_n 2, 1) := by decide +kernel
theorem dX4_choices_2 : decode cX4_choices 2 = .ok (.iconst 0, 1) := by decide +kernel
theorem dX4_choices_3 : decode cX4_choices 3 = .ok (.istore_n 3, 1) := by decide +kernel
theorem dX4_choices_4 : decode cX4_choices 4 = .ok (.iload_n 3, 1) := by decide +kernel
theorem dX4_choices_5 : decode cX4_choices 5 = .ok (.iconst 1, 1) := by decide +kernel
theorem dX4_choices_6 : decode cX4_choices 6 = .ok (.iload_n 0, 1) := by decide +kernel
theorem dX4_choices_7 : decode cX4_choices 7 = .ok (.ishl, 1) := by decide +kernel
theorem dX4_choices_8 : decode cX4_choices 8 = .ok (.if_icmp .ge 25, 3) := by decide +kernel
theorem dX4_choices_11 : decode cX4_choices 11 = .ok (.iload_n 2, 1) := by decide +kernel
theorem dX4_choices_12 : decode cX4_choices 12 = .ok (.iload_n 3, 1) := by decide +kernel
theorem dX4_choices_13 : decode cX4_choices 13 = .ok (.invokestatic 306, 3) := by decide +kernel
theorem dX4_choices_16 : decode cX4_choices 16 = .ok (.iload_n 1, 1) := by decide +kernel
theorem dX4_choices_17 : decode cX4_choices 17 = .ok (.if_icmp .ne 7, 3) := by decide +kernel
theorem dX4_choices_20 : decode cX4_choices 20 = .ok (.iconst 1, 1) := by decide +kernel
theorem dX4_choices_21 : decode cX4_choices 21 = .ok (.goto 4, 3) := by decide +kernel
theorem dX4_choices_24 : decode cX4_choices 24 = .ok (.iconst 0, 1) := by decide +kernel
theorem dX4_choices_25 : decode cX4_choices 25 = .ok (.iadd, 1) := by decide +kernel
theorem dX4_choices_26 : decode cX4_choices 26 = .ok (.istore_n 2, 1) := by decide +kernel
theorem dX4_choices_27 : decode cX4_choices 27 = .ok (.iinc 3 1, 3) := by decide +kernel
theorem dX4_choices_30 : decode cX4_choices 30 = .ok (.goto (-26), 3) := by decide +kernel
theorem dX4_choices_33 : decode cX4_choices 33 = .ok (.iload_n 2, 1) := by decide +kernel
theorem dX4_choices_34 : decode cX4_choices 34 = .ok (.ireturn, 1) := by decide +kernel
theorem dX4_isColour_0 : decode cX4_isColour 0 = .ok (.iload_n 0, 1) := by decide +kernel
theorem dX4_isColour_1 : decode cX4_isColour 1 = .ok (.ifCond .lt 13, 3) := by decide +kernel
theorem dX4_isColour_4 : decode cX4_isColour 4 = .ok (.iload_n 0, 1) := by decide +kernel
theorem dX4_isColour_5 : decode cX4_isColour 5 = .ok (.bipush 9, 2) := by decide +kernel
theorem dX4_isColour_7 : decode cX4_isColour 7 = .ok (.if_icmp .gt 7, 3) := by decide +kernel
theorem dX4_isColour_10 : decode cX4_isColour 10 = .ok (.iconst 1, 1) := by decide +kernel
theorem dX4_isColour_11 : decode cX4_isColour 11 = .ok (.goto 4, 3) := by decide +kernel
theorem dX4_isColour_14 : decode cX4_isColour 14 = .ok (.iconst 0, 1) := by decide +kernel
theorem dX4_isColour_15 : decode cX4_isColour 15 = .ok (.ireturn, 1) := by decide +kernel
theorem dX4_canCount_0 : decode cX4_canCount 0 = .ok (.iload_n 0, 1) := by decide +kernel
theorem dX4_canCount_1 : decode cX4_canCount 1 = .ok (.tableswitch 86 0 3 #[31, 41, 58, 75], 31) := by decide +kernel
theorem dX4_canCount_32 : decode cX4_canCount 32 = .ok (.iload_n 1, 1) := by decide +kernel
theorem dX4_canCount_33 : decode cX4_canCount 33 = .ok (.ifCond .ne 7, 3) := by decide +kernel
theorem dX4_canCount_36 : decode cX4_canCount 36 = .ok (.iconst 1, 1) := by decide +kernel
theorem dX4_canCount_37 : decode cX4_canCount 37 = .ok (.goto 4, 3) := by decide +kernel
theorem dX4_canCount_40 : decode cX4_canCount 40 = .ok (.iconst 0, 1) := by decide +kernel
theorem dX4_canCount_41 : decode cX4_canCount 41 = .ok (.ireturn, 1) := by decide +kernel
theorem dX4_canCount_42 : decode cX4_canCount 42 = .ok (.iload_n 1, 1) := by decide +kernel
theorem dX4_canCount_43 : decode cX4_canCount 43 = .ok (.iconst 1, 1) := by decide +kernel
theorem dX4_canCount_44 : decode cX4_canCount 44 = .ok (.if_icmp .lt 13, 3) := by decide +kernel
theorem dX4_canCount_47 : decode cX4_canCount 47 = .ok (.iload_n 1, 1) := by decide +kernel
theorem dX4_canCount_48 : decode cX4_canCount 48 = .ok (.bipush 9, 2) := by decide +kernel
theorem dX4_canCount_50 : decode cX4_canCount 50 = .ok (.if_icmp .gt 7, 3) := by decide +kernel
theorem dX4_canCount_53 : decode cX4_canCount 53 = .ok (.iconst 1, 1) := by decide +kernel
theorem dX4_canCount_54 : decode cX4_canCount 54 = .ok (.goto 4, 3) := by decide +kernel
theorem dX4_canCount_57 : decode cX4_canCount 57 = .ok (.iconst 0, 1) := by decide +kernel
theorem dX4_canCount_58 : decode cX4_canCount 58 = .ok (.ireturn, 1) := by decide +kernel
theorem dX4_canCount_59 : decode cX4_canCount 59 = .ok (.iload_n 1, 1) := by decide +kernel
theorem dX4_canCount_60 : decode cX4_canCount 60 = .ok (.iconst 2, 1) := by decide +kernel
theorem dX4_canCount_61 : decode cX4_canCount 61 = .ok (.if_icmp .lt 13, 3) := by decide +kernel
theorem dX4_canCount_64 : decode cX4_canCount 64 = .ok (.iload_n 1, 1) := by decide +kernel
theorem dX4_canCount_65 : decode cX4_canCount 65 = .ok (.bipush 9, 2) := by decide +kernel
theorem dX4_canCount_67 : decode cX4_canCount 67 = .ok (.if_icmp .gt 7, 3) := by decide +kernel
theorem dX4_canCount_70 : decode cX4_canCount 70 = .ok (.iconst 1, 1) := by decide +kernel
theorem dX4_canCount_71 : decode cX4_canCount 71 = .ok (.goto 4, 3) := by decide +kernel
theorem dX4_canCount_74 : decode cX4_canCount 74 = .ok (.iconst 0, 1) := by decide +kernel
theorem dX4_canCount_75 : decode cX4_canCount 75 = .ok (.ireturn, 1) := by decide +kernel
theorem dX4_canCount_76 : decode cX4_canCount 76 = .ok (.iload_n 1, 1) := by decide +kernel
theorem dX4_canCount_77 : decode cX4_canCount 77 = .ok (.iconst 1, 1) := by decide +kernel
theorem dX4_canCount_78 : decode cX4_canCount 78 = .ok (.if_icmp .ne 7, 3) := by decide +kernel
theorem dX4_canCount_81 : decode cX4_canCount 81 = .ok (.iconst 1, 1) := by decide +kernel
theorem dX4_canCount_82 : decode cX4_canCount 82 = .ok (.goto 4, 3) := by decide +kernel
theorem dX4_canCount_85 : decode cX4_canCount 85 = .ok (.iconst 0, 1) := by decide +kernel
theorem dX4_canCount_86 : decode cX4_canCount 86 = .ok (.ireturn, 1) := by decide +kernel
theorem dX4_canCount_87 : decode cX4_canCount 87 = .ok (.iconst 0, 1) := by decide +kernel
theorem dX4_canCount_88 : decode cX4_canCount 88 = .ok (.ireturn, 1) := by decide +kernel
theorem dX4_kindOf_0 : decode cX4_kindOf 0 = .ok (.iload_n 0, 1) := by decide +kernel
theorem dX4_kindOf_1 : decode cX4_kindOf 1 = .ok (.bipush 10, 2) := by decide +kernel
theorem dX4_kindOf_3 : decode cX4_kindOf 3 = .ok (.idiv, 1) := by decide +kernel
theorem dX4_kindOf_4 : decode cX4_kindOf 4 = .ok (.ireturn, 1) := by decide +kernel
theorem dX4_countOf_0 : decode cX4_countOf 0 = .ok (.iload_n 0, 1) := by decide +kernel
theorem dX4_countOf_1 : decode cX4_countOf 1 = .ok (.bipush 10, 2) := by decide +kernel
theorem dX4_countOf_3 : decode cX4_countOf 3 = .ok (.irem, 1) := by decide +kernel
theorem dX4_countOf_4 : decode cX4_countOf 4 = .ok (.ireturn, 1) := by decide +kernel
theorem dX4_knotsIn_0 : decode cX4_knotsIn 0 = .ok (.iload_n 0, 1) := by decide +kernel
theorem dX4_knotsIn_1 : decode cX4_knotsIn 1 = .ok (.invokestatic 217, 3) := by decide +kernel
theorem dX4_knotsIn_4 : decode cX4_knotsIn 4 = .ok (.iconst 3, 1) := by decide +kernel
theorem dX4_knotsIn_5 : decode cX4_knotsIn 5 = .ok (.if_icmp .ne 7, 3) := by decide +kernel
theorem dX4_knotsIn_8 : decode cX4_knotsIn 8 = .ok (.iconst 2, 1) := by decide +kernel
theorem dX4_knotsIn_9 : decode cX4_knotsIn 9 = .ok (.goto 7, 3) := by decide +kernel
theorem dX4_knotsIn_12 : decode cX4_knotsIn 12 = .ok (.iload_n 0, 1) := by decide +kernel
theorem dX4_knotsIn_13 : decode cX4_knotsIn 13 = .ok (.invokestatic 220, 3) := by decide +kernel
theorem dX4_knotsIn_16 : decode cX4_knotsIn 16 = .ok (.ireturn, 1) := by decide +kernel
theorem dX4_codeToTell_0 : decode cX4_codeToTell 0 = .ok (.iload_n 0, 1) := by decide +kernel
theorem dX4_codeToTell_1 : decode cX4_codeToTell 1 = .ok (.ifCond .ne 5, 3) := by decide +kernel
theorem dX4_codeToTell_4 : decode cX4_codeToTell 4 = .ok (.iconst 0, 1) := by decide +kernel
theorem dX4_codeToTell_5 : decode cX4_codeToTell 5 = .ok (.ireturn, 1) := by decide +kernel
theorem dX4_codeToTell_6 : decode cX4_codeToTell 6 = .ok (.iload_n 1, 1) := by decide +kernel
theorem dX4_codeToTell_7 : decode cX4_codeToTell 7 = .ok (.ifCond .le 8, 3) := by decide +kernel
theorem dX4_codeToTell_10 : decode cX4_codeToTell 10 = .ok (.bipush 10, 2) := by decide +kernel
theorem dX4_codeToTell_12 : decode cX4_codeToTell 12 = .ok (.iload_n 0, 1) := by decide +kernel
theorem dX4_codeToTell_13 : decode cX4_codeToTell 13 = .ok (.iadd, 1) := by decide +kernel
theorem dX4_codeToTell_14 : decode cX4_codeToTell 14 = .ok (.ireturn, 1) := by decide +kernel
theorem dX4_codeToTell_15 : decode cX4_codeToTell 15 = .ok (.bipush 10, 2) := by decide +kernel
theorem dX4_codeToTell_17 : decode cX4_codeToTell 17 = .ok (.iload_n 0, 1) := by decide +kernel
theorem dX4_codeToTell_18 : decode cX4_codeToTell 18 = .ok (.iconst 1, 1) := by decide +kernel
theorem dX4_codeToTell_19 : decode cX4_codeToTell 19 = .ok (.if_icmp .ne 7, 3) := by decide +kernel
theorem dX4_codeToTell_22 : decode cX4_codeToTell 22 = .ok (.iconst 3, 1) := by decide +kernel
theorem dX4_codeToTell_23 : decode cX4_codeToTell 23 = .ok (.goto 4, 3) := by decide +kernel
theorem dX4_codeToTell_26 : decode cX4_codeToTell 26 = .ok (.iconst 2, 1) := by decide +kernel
theorem dX4_codeToTell_27 : decode cX4_codeToTell 27 = .ok (.imul, 1) := by decide +kernel
theorem dX4_codeToTell_28 : decode cX4_codeToTell 28 = .ok (.iload_n 0, 1) := by decide +kernel
theorem dX4_codeToTell_29 : decode cX4_codeToTell 29 = .ok (.iadd, 1) := by decide +kernel
theorem dX4_codeToTell_30 : decode cX4_codeToTell 30 = .ok (.ireturn, 1) := by decide +kernel
theorem dX4_isWellPlaced_0 : decode cX4_isWellPlaced 0 = .ok (.iload_n 0, 1) := by decide +kernel
theorem dX4_isWellPlaced_1 : decode cX4_isWellPlaced 1 = .ok (.invokestatic 217, 3) := by decide +kernel
theorem dX4_isWellPlaced_4 : decode cX4_isWellPlaced 4 = .ok (.istore_n 2, 1) := by decide +kernel
theorem dX4_isWellPlaced_5 : decode cX4_isWellPlaced 5 = .ok (.iload_n 2, 1) := by decide +kernel
theorem dX4_isWellPlaced_6 : decode cX4_isWellPlaced 6 = .ok (.ifCond .eq 25, 3) := by decide +kernel
theorem dX4_isWellPlaced_9 : decode cX4_isWellPlaced 9 = .ok (.iload_n 2, 1) := by decide +kernel
theorem dX4_isWellPlaced_10 : decode cX4_isWellPlaced 10 = .ok (.iconst 1, 1) := by decide +kernel
theorem dX4_isWellPlaced_11 : decode cX4_isWellPlaced 11 = .ok (.if_icmp .ne 7, 3) := by decide +kernel
theorem dX4_isWellPlaced_14 : decode cX4_isWellPlaced 14 = .ok (.iconst 1, 1) := by decide +kernel
theorem dX4_isWellPlaced_15 : decode cX4_isWellPlaced 15 = .ok (.goto 4, 3) := by decide +kernel
theorem dX4_isWellPlaced_18 : decode cX4_isWellPlaced 18 = .ok (.iconst 0, 1) := by decide +kernel
theorem dX4_isWellPlaced_19 : decode cX4_isWellPlaced 19 = .ok (.iload_n 1, 1) := by decide +kernel
theorem dX4_isWellPlaced_20 : decode cX4_isWellPlaced 20 = .ok (.ifCond .le 7, 3) := by decide +kernel
theorem dX4_isWellPlaced_23 : decode cX4_isWellPlaced 23 = .ok (.iconst 1, 1) := by decide +kernel
theorem dX4_isWellPlaced_24 : decode cX4_isWellPlaced 24 = .ok (.goto 4, 3) := by decide +kernel
theorem dX4_isWellPlaced_27 : decode cX4_isWellPlaced 27 = .ok (.iconst 0, 1) := by decide +kernel
theorem dX4_isWellPlaced_28 : decode cX4_isWellPlaced 28 = .ok (.if_icmp .ne 7, 3) := by decide +kernel
theorem dX4_isWellPlaced_31 : decode cX4_isWellPlaced 31 = .ok (.iconst 1, 1) := by decide +kernel
theorem dX4_isWellPlaced_32 : decode cX4_isWellPlaced 32 = .ok (.goto 4, 3) := by decide +kernel
theorem dX4_isWellPlaced_35 : decode cX4_isWellPlaced 35 = .ok (.iconst 0, 1) := by decide +kernel
theorem dX4_isWellPlaced_36 : decode cX4_isWellPlaced 36 = .ok (.ireturn, 1) := by decide +kernel
theorem dX4_tens_0 : decode cX4_tens 0 = .ok (.iload_n 0, 1) := by decide +kernel
theorem dX4_tens_1 : decode cX4_tens 1 = .ok (.ifCond .lt 19, 3) := by decide +kernel
theorem dX4_tens_4 : decode cX4_tens 4 = .ok (.iload_n 0, 1) := by decide +kernel
theorem dX4_tens_5 : decode cX4_tens 5 = .ok (.getstatic 311, 3) := by decide +kernel
theorem dX4_tens_8 : decode cX4_tens 8 = .ok (.arraylength, 1) := by decide +kernel
theorem dX4_tens_9 : decode cX4_tens 9 = .ok (.if_icmp .ge 11, 3) := by decide +kernel
theorem dX4_tens_12 : decode cX4_tens 12 = .ok (.getstatic 311, 3) := by decide +kernel
theorem dX4_tens_15 : decode cX4_tens 15 = .ok (.iload_n 0, 1) := by decide +kernel
theorem dX4_tens_16 : decode cX4_tens 16 = .ok (.iaload, 1) := by decide +kernel
theorem dX4_tens_17 : decode cX4_tens 17 = .ok (.goto 4, 3) := by decide +kernel
theorem dX4_tens_20 : decode cX4_tens 20 = .ok (.iconst 0, 1) := by decide +kernel
theorem dX4_tens_21 : decode cX4_tens 21 = .ok (.ireturn, 1) := by decide +kernel
theorem dX4_at_0 : decode cX4_at 0 = .ok (.iload_n 1, 1) := by decide +kernel
theorem dX4_at_1 : decode cX4_at 1 = .ok (.ifCond .lt 15, 3) := by decide +kernel
theorem dX4_at_4 : decode cX4_at 4 = .ok (.iload_n 1, 1) := by decide +kernel
theorem dX4_at_5 : decode cX4_at 5 = .ok (.aload_n 0, 1) := by decide +kernel
theorem dX4_at_6 : decode cX4_at 6 = .ok (.arraylength, 1) := by decide +kernel
theorem dX4_at_7 : decode cX4_at 7 = .ok (.if_icmp .ge 9, 3) := by decide +kernel
theorem dX4_at_10 : decode cX4_at 10 = .ok (.aload_n 0, 1) := by decide +kernel
theorem dX4_at_11 : decode cX4_at 11 = .ok (.iload_n 1, 1) := by decide +kernel
theorem dX4_at_12 : decode cX4_at 12 = .ok (.iaload, 1) := by decide +kernel
theorem dX4_at_13 : decode cX4_at 13 = .ok (.goto 4, 3) := by decide +kernel
theorem dX4_at_16 : decode cX4_at 16 = .ok (.iconst 0, 1) := by decide +kernel
theorem dX4_at_17 : decode cX4_at 17 = .ok (.ireturn, 1) := by decide +kernel
theorem dX4_put_0 : decode cX4_put 0 = .ok (.iload_n 1, 1) := by decide +kernel
theorem dX4_put_1 : decode cX4_put 1 = .ok (.ifCond .lt 13, 3) := by decide +kernel
theorem dX4_put_4 : decode cX4_put 4 = .ok (.iload_n 1, 1) := by decide +kernel
theorem dX4_put_5 : decode cX4_put 5 = .ok (.aload_n 0, 1) := by decide +kernel
theorem dX4_put_6 : decode cX4_put 6 = .ok (.arraylength, 1) := by decide +kernel
theorem dX4_put_7 : decode cX4_put 7 = .ok (.if_icmp .ge 7, 3) := by decide +kernel
theorem dX4_put_10 : decode cX4_put 10 = .ok (.aload_n 0, 1) := by decide +kernel
theorem dX4_put_11 : decode cX4_put 11 = .ok (.iload_n 1, 1) := by decide +kernel
theorem dX4_put_12 : decode cX4_put 12 = .ok (.iload_n 2, 1) := by decide +kernel
theorem dX4_put_13 : decode cX4_put 13 = .ok (.iastore, 1) := by decide +kernel
theorem dX4_put_14 : decode cX4_put 14 = .ok (.return_, 1) := by decide +kernel
theorem dX4_copyRow_0 : decode cX4_copyRow 0 = .ok (.iload_n 1, 1) := by decide +kernel
theorem dX4_copyRow_1 : decode cX4_copyRow 1 = .ok (.ifCond .lt 31, 3) := by decide +kernel
theorem dX4_copyRow_4 : decode cX4_copyRow 4 = .ok (.iload_n 1, 1) := by decide +kernel
theorem dX4_copyRow_5 : decode cX4_copyRow 5 = .ok (.sipush 179, 3) := by decide +kernel
theorem dX4_copyRow_8 : decode cX4_copyRow 8 = .ok (.iadd, 1) := by decide +kernel
theorem dX4_copyRow_9 : decode cX4_copyRow 9 = .ok (.aload_n 0, 1) := by decide +kernel
theorem dX4_copyRow_10 : decode cX4_copyRow 10 = .ok (.arraylength, 1) := by decide +kernel
theorem dX4_copyRow_11 : decode cX4_copyRow 11 = .ok (.if_icmp .gt 21, 3) := by decide +kernel
theorem dX4_copyRow_14 : decode cX4_copyRow 14 = .ok (.iload_n 3, 1) := by decide +kernel
theorem dX4_copyRow_15 : decode cX4_copyRow 15 = .ok (.ifCond .lt 17, 3) := by decide +kernel
theorem dX4_copyRow_18 : decode cX4_copyRow 18 = .ok (.iload_n 3, 1) := by decide +kernel
theorem dX4_copyRow_19 : decode cX4_copyRow 19 = .ok (.sipush 179, 3) := by decide +kernel
theorem dX4_copyRow_22 : decode cX4_copyRow 22 = .ok (.iadd, 1) := by decide +kernel
theorem dX4_copyRow_23 : decode cX4_copyRow 23 = .ok (.aload_n 2, 1) := by decide +kernel
theorem dX4_copyRow_24 : decode cX4_copyRow 24 = .ok (.arraylength, 1) := by decide +kernel
theorem dX4_copyRow_25 : decode cX4_copyRow 25 = .ok (.if_icmp .gt 7, 3) := by decide +kernel
theorem dX4_copyRow_28 : decode cX4_copyRow 28 = .ok (.iconst 1, 1) := by decide +kernel
theorem dX4_copyRow_29 : decode cX4_copyRow 29 = .ok (.goto 4, 3) := by decide +kernel
theorem dX4_copyRow_32 : decode cX4_copyRow 32 = .ok (.iconst 0, 1) := by decide +kernel
theorem dX4_copyRow_33 : decode cX4_copyRow 33 = .ok (.istore 4, 2) := by decide +kernel
theorem dX4_copyRow_35 : decode cX4_copyRow 35 = .ok (.iload 4, 2) := by decide +kernel
theorem dX4_copyRow_37 : decode cX4_copyRow 37 = .ok (.ifCond .eq 13, 3) := by decide +kernel
theorem dX4_copyRow_40 : decode cX4_copyRow 40 = .ok (.aload_n 0, 1) := by decide +kernel
theorem dX4_copyRow_41 : decode cX4_copyRow 41 = .ok (.iload_n 1, 1) := by decide +kernel
theorem dX4_copyRow_42 : decode cX4_copyRow 42 = .ok (.aload_n 2, 1) := by decide +kernel
theorem dX4_copyRow_43 : decode cX4_copyRow 43 = .ok (.iload_n 3, 1) := by decide +kernel
theorem dX4_copyRow_44 : decode cX4_copyRow 44 = .ok (.sipush 179, 3) := by decide +kernel
theorem dX4_copyRow_47 : decode cX4_copyRow 47 = .ok (.invokestatic 314, 3) := by decide +kernel
theorem dX4_copyRow_50 : decode cX4_copyRow 50 = .ok (.return_, 1) := by decide +kernel
theorem dX5_init_0 : decode cX5_init 0 = .ok (.aload_n 0, 1) := by decide +kernel
theorem dX5_init_1 : decode cX5_init 1 = .ok (.invokespecial 1, 3) := by decide +kernel
theorem dX5_init_4 : decode cX5_init 4 = .ok (.aload_n 0, 1) := by decide +kernel
theorem dX5_init_5 : decode cX5_init 5 = .ok (.sipush 162, 3) := by decide +kernel
theorem dX5_init_8 : decode cX5_init 8 = .ok (.newarray .int, 2) := by decide +kernel
theorem dX5_init_10 : decode cX5_init 10 = .ok (.putfield 7, 3) := by decide +kernel
theorem dX5_init_13 : decode cX5_init 13 = .ok (.aload_n 0, 1) := by decide +kernel
theorem dX5_init_14 : decode cX5_init 14 = .ok (.sipush 1296, 3) := by decide +kernel
theorem dX5_init_17 : decode cX5_init 17 = .ok (.newarray .int, 2) := by decide +kernel
theorem dX5_init_19 : decode cX5_init 19 = .ok (.putfield 13, 3) := by decide +kernel
theorem dX5_init_22 : decode cX5_init 22 = .ok (.aload_n 0, 1) := by decide +kernel
theorem dX5_init_23 : decode cX5_init 23 = .ok (.sipush 324, 3) := by decide +kernel
theorem dX5_init_26 : decode cX5_init 26 = .ok (.newarray .int, 2) := by decide +kernel
theorem dX5_init_28 : decode cX5_init 28 = .ok (.putfield 16, 3) := by decide +kernel
theorem dX5_init_31 : decode cX5_init 31 = .ok (.aload_n 0, 1) := by decide +kernel
theorem dX5_init_32 : decode cX5_init 32 = .ok (.sipush 200, 3) := by decide +kernel
theorem dX5_init_35 : decode cX5_init 35 = .ok (.newarray .int, 2) := by decide +kernel
theorem dX5_init_37 : decode cX5_init 37 = .ok (.putfield 19, 3) := by decide +kernel
theorem dX5_init_40 : decode cX5_init 40 = .ok (.aload_n 0, 1) := by decide +kernel
theorem dX5_init_41 : decode cX5_init 41 = .ok (.sipush 162, 3) := by decide +kernel
theorem dX5_init_44 : decode cX5_init 44 = .ok (.newarray .int, 2) := by decide +kernel
theorem dX5_init_46 : decode cX5_init 46 = .ok (.putfield 22, 3) := by decide +kernel
theorem dX5_init_49 : decode cX5_init 49 = .ok (.aload_n 0, 1) := by decide +kernel
theorem dX5_init_50 : decode cX5_init 50 = .ok (.iconst 3, 1) := by decide +kernel
theorem dX5_init_51 : decode cX5_init 51 = .ok (.newarray .int, 2) := by decide +kernel
theorem dX5_init_53 : decode cX5_init 53 = .ok (.putfield 25, 3) := by decide +kernel
theorem dX5_init_56 : decode cX5_init 56 = .ok (.aload_n 0, 1) := by decide +kernel
theorem dX5_init_57 : decode cX5_init 57 = .ok (.iconst 4, 1) := by decide +kernel
theorem dX5_init_58 : decode cX5_init 58 = .ok (.newarray .int, 2) := by decide +kernel
theorem dX5_init_60 : decode cX5_init 60 = .ok (.putfield 28, 3) := by decide +kernel
theorem dX5_init_63 : decode cX5_init 63 = .ok (.aload_n 0, 1) := by decide +kernel
theorem dX5_init_64 : decode cX5_init 64 = .ok (.iconst 4, 1) := by decide +kernel
theorem dX5_init_65 : decode cX5_init 65 = .ok (.newarray .int, 2) := by decide +kernel
theorem dX5_init_67 : decode cX5_init 67 = .ok (.putfield 31, 3) := by decide +kernel
theorem dX5_init_70 : decode cX5_init 70 = .ok (.aload_n 0, 1) := by decide +kernel
theorem dX5_init_71 : decode cX5_init 71 = .ok (.iconst 4, 1) := by decide +kernel
theorem dX5_init_72 : decode cX5_init 72 = .ok (.newarray .int, 2) := by decide +kernel
theorem dX5_init_74 : decode cX5_init 74 = .ok (.putfield 34, 3) := by decide +kernel
theorem dX5_init_77 : decode cX5_init 77 = .ok (.aload_n 0, 1) := by decide +kernel
theorem dX5_init_78 : decode cX5_init 78 = .ok (.bipush 16, 2) := by decide +kernel
theorem dX5_init_80 : decode cX5_init 80 = .ok (.newarray .int, 2) := by decide +kernel
theorem dX5_init_82 : decode cX5_init 82 = .ok (.putfield 37, 3) := by decide +kernel
theorem dX5_init_85 : decode cX5_init 85 = .ok (.aload_n 0, 1) := by decide +kernel
theorem dX5_init_86 : decode cX5_init 86 = .ok (.bipush 16, 2) := by decide +kernel
theorem dX5_init_88 : decode cX5_init 88 = .ok (.newarray .int, 2) := by decide +kernel
theorem dX5_init_90 : decode cX5_init 90 = .ok (.putfield 40, 3) := by decide +kernel
theorem dX5_init_93 : decode cX5_init 93 = .ok (.aload_n 0, 1) := by decide +kernel
theorem dX5_init_94 : decode cX5_init 94 = .ok (.iconst 0, 1) := by decide +kernel
theorem dX5_init_95 : decode cX5_init 95 = .ok (.iconst 1, 1) := by decide +kernel
theorem dX5_init_96 : decode cX5_init 96 = .ok (.iconst 3, 1) := by decide +kernel
theorem dX5_init_97 : decode cX5_init 97 = .ok (.iconst (-1), 1) := by decide +kernel
theorem dX5_init_98 : decode cX5_init 98 = .ok (.iconst 0, 1) := by decide +kernel
theorem dX5_init_99 : decode cX5_init 99 = .ok (.iconst 0, 1) := by decide +kernel
theorem dX5_init_100 : decode cX5_init 100 = .ok (.invokevirtual 43, 3) := by decide +kernel
theorem dX5_init_103 : decode cX5_init 103 = .ok (.aload_n 0, 1) := by decide +kernel
theorem dX5_init_104 : decode cX5_init 104 = .ok (.iconst 0, 1) := by decide +kernel
theorem dX5_init_105 : decode cX5_init 105 = .ok (.bipush 23, 2) := by decide +kernel
theorem dX5_init_107 : decode cX5_init 107 = .ok (.iconst 0, 1) := by decide +kernel
theorem dX5_init_108 : decode cX5_init 108 = .ok (.bipush 12, 2) := by decide +kernel
theorem dX5_init_110 : decode cX5_init 110 = .ok (.iconst 0, 1) := by decide +kernel
theorem dX5_init_111 : decode cX5_init 111 = .ok (.invokevirtual 47, 3) := by decide +kernel
theorem dX5_init_114 : decode cX5_init 114 = .ok (.aload_n 0, 1) := by decide +kernel
theorem dX5_init_115 : decode cX5_init 115 = .ok (.iconst 1, 1) := by decide +kernel
theorem dX5_init_116 : decode cX5_init 116 = .ok (.iconst 4, 1) := by decide +kernel
theorem dX5_init_117 : decode cX5_init 117 = .ok (.iconst 1, 1) := by decide +kernel
theorem dX5_init_118 : decode cX5_init 118 = .ok (.iconst 0, 1) := by decide +kernel
theorem dX5_init_119 : decode cX5_init 119 = .ok (.iconst 0, 1) := by decide +kernel
theorem dX5_init_120 : decode cX5_init 120 = .ok (.iconst 0, 1) := by decide +kernel
theorem dX5_init_121 : decode cX5_init 121 = .ok (.invokevirtual 43, 3) := by decide +kernel
theorem dX5_init_124 : decode cX5_init 124 = .ok (.aload_n 0, 1) := by decide +kernel
theorem dX5_init_125 : decode cX5_init 125 = .ok (.iconst 1, 1) := by decide +kernel
theorem dX5_init_126 : decode cX5_init 126 = .ok (.bipush 31, 2) := by decide +kernel
theorem dX5_init_128 : decode cX5_init 128 = .ok (.iconst 0, 1) := by decide +kernel
theorem dX5_init_129 : decode cX5_init 129 = .ok (.iconst 0, 1) := by decide +kernel
theorem dX5_init_130 : decode cX5_init 130 = .ok (.iconst 0, 1) := by decide +kernel
theorem dX5_init_131 : decode cX5_init 131 = .ok (.invokevirtual 47, 3) := by decide +kernel
theorem dX5_init_134 : decode cX5_init 134 = .ok (.aload_n 0, 1) := by decide +kernel
theorem dX5_init_135 : decode cX5_init 135 = .ok (.iconst 2, 1) := by decide +kernel
theorem dX5_init_136 : decode cX5_init 136 = .ok (.iconst 2, 1) := by decide +kernel
theorem dX5_init_137 : decode cX5_init 137 = .ok (.iconst 2, 1) := by decide +kernel
theorem dX5_init_138 : decode cX5_init 138 = .ok (.iconst (-1), 1) := by decide +kernel
theorem dX5_init_139 : decode cX5_init 139 = .ok (.iconst 0, 1) := by decide +kernel
theorem dX5_init_140 : decode cX5_init 140 = .ok (.iconst 0, 1) := by decide +kernel
theorem dX5_init_141 : decode cX5_init 141 = .ok (.invokevirtual 43, 3) := by decide +kernel
theorem dX5_init_144 : decode cX5_init 144 = .ok (.aload_n 0, 1) := by decide +kernel
theorem dX5_init_145 : decode cX5_init 145 = .ok (.iconst 2, 1) := by decide +kernel
theorem dX5_init_146 : decode cX5_init 146 = .ok (.bipush 31, 2) := by decide +kernel
theorem dX5_init_148 : decode cX5_init 148 = .ok (.bipush 11, 2) := by decide +kernel
theorem dX5_init_150 : decode cX5_init 150 = .ok (.iconst 0, 1) := by decide +kernel
theorem dX5_init_151 : decode cX5_init 151 = .ok (.iconst 0, 1) := by decide +kernel
theorem dX5_init_152 : decode cX5_init 152 = .ok (.invokevirtual 47, 3) := by decide +kernel
theorem dX5_init_155 : decode cX5_init 155 = .ok (.aload_n 0, 1) := by decide +kernel
theorem dX5_init_156 : decode cX5_init 156 = .ok (.iconst 3, 1) := by decide +kernel
theorem dX5_init_157 : decode cX5_init 157 = .ok (.iconst 3, 1) := by decide +kernel
theorem dX5_init_158 : decode cX5_init 158 = .ok (.iconst 3, 1) := by decide +kernel
theorem dX5_init_159 : decode cX5_init 159 = .ok (.iconst (-1), 1) := by decide +kernel
theorem dX5_init_160 : decode cX5_init 160 = .ok (.iconst 0, 1) := by decide +kernel
theorem dX5_init_161 : decode cX5_init 161 = .ok (.iconst 1, 1) := by decide +kernel
theorem dX5_init_162 : decode cX5_init 162 = .ok (.invokevirtual 43, 3) := by decide +kernel
theorem dX5_init_165 : decode cX5_init 165 = .ok (.aload_n 0, 1) := by decide +kernel
theorem dX5_init_166 : decode cX5_init 166 = .ok (.iconst 3, 1) := by decide +kernel
theorem dX5_init_167 : decode cX5_init 167 = .ok (.bipush 24, 2) := by decide +kernel
theorem dX5_init_169 : decode cX5_init 169 = .ok (.iconst 0, 1) := by decide +kernel
theorem dX5_init_170 : decode cX5_init 170 = .ok (.bipush 13, 2) := by decide +kernel
theorem dX5_init_172 : decode cX5_init 172 = .ok (.iconst 0, 1) := by decide +kernel
theorem dX5_init_173 : decode cX5_init 173 = .ok (.invokevirtual 47, 3) := by decide +kernel
theorem dX5_init_176 : decode cX5_init 176 = .ok (.aload_n 0, 1) := by decide +kernel
theorem dX5_init_177 : decode cX5_init 177 = .ok (.iconst 4, 1) := by decide +kernel
theorem dX5_init_178 : decode cX5_init 178 = .ok (.iconst 1, 1) := by decide +kernel
theorem dX5_init_179 : decode cX5_init 179 = .ok (.iconst 1, 1) := by decide +kernel
theorem dX5_init_180 : decode cX5_init 180 = .ok (.iconst (-1), 1) := by decide +kernel
theorem dX5_init_181 : decode cX5_init 181 = .ok (.iconst 1, 1) := by decide +kernel
theorem dX5_init_182 : decode cX5_init 182 = .ok (.iconst 0, 1) := by decide +kernel
theorem dX5_init_183 : decode cX5_init 183 = .ok (.invokevirtual 43, 3) := by decide +kernel
theorem dX5_init_186 : decode cX5_init 186 = .ok (.aload_n 0, 1) := by decide +kernel
theorem dX5_init_187 : decode cX5_init 187 = .ok (.iconst 4, 1) := by decide +kernel
theorem dX5_init_188 : decode cX5_init 188 = .ok (.bipush 25, 2) := by decide +kernel
theorem dX5_init_190 : decode cX5_init 190 = .ok (.iconst 0, 1) := by decide +kernel
theorem dX5_init_191 : decode cX5_init 191 = .ok (.iconst 0, 1) := by decide +kernel
theorem dX5_init_192 : decode cX5_init 192 = .ok (.iconst 0, 1) := by decide +kernel
theorem dX5_init_193 : decode cX5_init 193 = .ok (.invokevirtual 47, 3) := by decide +kernel
theorem dX5_init_196 : decode cX5_init 196 = .ok (.aload_n 0, 1) := by decide +kernel
theorem dX5_init_197 : decode cX5_init 197 = .ok (.iconst 5, 1) := by decide +kernel
theorem dX5_init_198 : decode cX5_init 198 = .ok (.iconst 2, 1) := by decide +kernel
theorem dX5_init_199 : decode cX5_init 199 = .ok (.iconst 1, 1) := by decide +kernel
theorem dX5_init_200 : decode cX5_init 200 = .ok (.iconst 4, 1) := by decide +kernel
theorem dX5_init_201 : decode cX5_init 201 = .ok (.iconst 1, 1) := by decide +kernel
theorem dX5_init_202 : decode cX5_init 202 = .ok (.iconst 0, 1) := by decide +kernel
theorem dX5_init_203 : decode cX5_init 203 = .ok (.invokevirtual 43, 3) := by decide +kernel
theorem dX5_init_206 : decode cX5_init 206 = .ok (.aload_n 0, 1) := by decide +kernel
theorem dX5_init_207 : decode cX5_init 207 = .ok (.iconst 5, 1) := by decide +kernel
theorem dX5_init_208 : decode cX5_init 208 = .ok (.bipush 22, 2) := by decide +kernel
theorem dX5_init_210 : decode cX5_init 210 = .ok (.iconst 0, 1) := by decide +kernel
theorem dX5_init_211 : decode cX5_init 211 = .ok (.iconst 0, 1) := by decide +kernel
theorem dX5_init_212 : decode cX5_init 212 = .ok (.iconst 0, 1) := by decide +kernel
theorem dX5_init_213 : decode cX5_init 213 = .ok (.invokevirtual 47, 3) := by decide +kernel
theorem dX5_init_216 : decode cX5_init 216 = .ok (.aload_n 0, 1) := by decide +kernel
theorem dX5_init_217 : decode cX5_init 217 = .ok (.bipush 6, 2) := by decide +kernel
theorem dX5_init_219 : decode cX5_init 219 = .ok (.bipush 7, 2) := by decide +kernel
theorem dX5_init_221 : decode cX5_init 221 = .ok (.iconst 1, 1) := by decide +kernel
theorem dX5_init_222 : decode cX5_init 222 = .ok (.iconst 5, 1) := by decide +kernel
theorem dX5_init_223 : decode cX5_init 223 = .ok (.iconst 1, 1) := by decide +kernel
theorem dX5_init_224 : decode cX5_init 224 = .ok (.iconst 0, 1) := by decide +kernel
theorem dX5_init_225 : decode cX5_init 225 = .ok (.invokevirtual 43, 3) := by decide +kernel
theorem dX5_init_228 : decode cX5_init 228 = .ok (.aload_n 0, 1) := by decide +kernel
theorem dX5_init_229 : decode cX5_init 229 = .ok (.bipush 6, 2) := by decide +kernel
theorem dX5_init_231 : decode cX5_init 231 = .ok (.iconst 0, 1) := by decide +kernel
theorem dX5_init_232 : decode cX5_init 232 = .ok (.iconst 0, 1) := by decide +kernel
theorem dX5_init_233 : decode cX5_init 233 = .ok (.iconst 0, 1) := by decide +kernel
theorem dX5_init_234 : decode cX5_init 234 = .ok (.iconst 0, 1) := by decide +kernel
theorem dX5_init_235 : decode cX5_init 235 = .ok (.invokevirtual 47, 3) := by decide +kernel
theorem dX5_init_238 : decode cX5_init 238 = .ok (.aload_n 0, 1) := by decide +kernel
theorem dX5_init_239 : decode cX5_init 239 = .ok (.getfield 22, 3) := by decide +kernel
theorem dX5_init_242 : decode cX5_init 242 = .ok (.iconst 0, 1) := by decide +kernel
theorem dX5_init_243 : decode cX5_init 243 = .ok (.bipush 7, 2) := by decide +kernel
theorem dX5_init_245 : decode cX5_init 245 = .ok (.iastore, 1) := by decide +kernel
theorem dX5_init_246 : decode cX5_init 246 = .ok (.aload_n 0, 1) := by decide +kernel
theorem dX5_init_247 : decode cX5_init 247 = .ok (.getfield 22, 3) := by decide +kernel
theorem dX5_init_250 : decode cX5_init 250 = .ok (.iconst 1, 1) := by decide +kernel
theorem dX5_init_251 : decode cX5_init 251 = .ok (.iconst 2, 1) := by decide +kernel
theorem dX5_init_252 : decode cX5_init 252 = .ok (.iastore, 1) := by decide +kernel
theorem dX5_init_253 : decode cX5_init 253 = .ok (.aload_n 0, 1) := by decide +kernel
theorem dX5_init_254 : decode cX5_init 254 = .ok (.invokevirtual 51, 3) := by decide +kernel
theorem dX5_init_257 : decode cX5_init 257 = .ok (.return_, 1) := by decide +kernel
theorem dX5_first_0 : decode cX5_first 0 = .ok (.aload_n 0, 1) := by decide +kernel
theorem dX5_first_1 : decode cX5_first 1 = .ok (.getfield 22, 3) := by decide +kernel
theorem dX5_first_4 : decode cX5_first 4 = .ok (.iconst 2, 1) := by decide +kernel
theorem dX5_first_5 : decode cX5_first 5 = .ok (.iload_n 1, 1) := by decide +kernel
theorem dX5_first_6 : decode cX5_first 6 = .ok (.iadd, 1) := by decide +kernel
theorem dX5_first_7 : decode cX5_first 7 = .ok (.iload_n 2, 1) := by decide +kernel
theorem dX5_first_8 : decode cX5_first 8 = .ok (.iastore, 1) := by decide +kernel
theorem dX5_first_9 : decode cX5_first 9 = .ok (.aload_n 0, 1) := by decide +kernel
theorem dX5_first_10 : decode cX5_first 10 = .ok (.getfield 22, 3) := by decide +kernel
theorem dX5_first_13 : decode cX5_first 13 = .ok (.bipush 18, 2) := by decide +kernel
theorem dX5_first_15 : decode cX5_first 15 = .ok (.iload_n 1, 1) := by decide +kernel
theorem dX5_first_16 : decode cX5_first 16 = .ok (.iadd, 1) := by decide +kernel
theorem dX5_first_17 : decode cX5_first 17 = .ok (.iload_n 3, 1) := by decide +kernel
theorem dX5_first_18 : decode cX5_first 18 = .ok (.iastore, 1) := by decide +kernel
theorem dX5_first_19 : decode cX5_first 19 = .ok (.aload_n 0, 1) := by decide +kernel
theorem dX5_first_20 : decode cX5_first 20 = .ok (.getfield 22, 3) := by decide +kernel
theorem dX5_first_23 : decode cX5_first 23 = .ok (.bipush 98, 2) := by decide +kernel
theorem dX5_first_25 : decode cX5_first 25 = .ok (.iload_n 1, 1) := by decide +kernel
theorem dX5_first_26 : decode cX5_first 26 = .ok (.iadd, 1) := by decide +kernel
theorem dX5_first_27 : decode cX5_first 27 = .ok (.iload 4, 2) := by decide +kernel
theorem dX5_first_29 : decode cX5_first 29 = .ok (.iastore, 1) := by decide +kernel
theorem dX5_first_30 : decode cX5_first 30 = .ok (.aload_n 0, 1) := by decide +kernel
theorem dX5_first_31 : decode cX5_first 31 = .ok (.getfield 22, 3) := by decide +kernel
theorem dX5_first_34 : decode cX5_first 34 = .ok (.bipush 114, 2) := by decide +kernel
theorem dX5_first_36 : decode cX5_first 36 = .ok (.iload_n 1, 1) := by decide +kernel
theorem dX5_first_37 : decode cX5_first 37 = .ok (.iadd, 1) := by decide +kernel
theorem dX5_first_38 : decode cX5_first 38 = .ok (.iload 5, 2) := by decide +kernel
theorem dX5_first_40 : decode cX5_first 40 = .ok (.iastore, 1) := by decide +kernel
theorem dX5_first_41 : decode cX5_first 41 = .ok (.aload_n 0, 1) := by decide +kernel
theorem dX5_first_42 : decode cX5_first 42 = .ok (.getfield 22, 3) := by decide +kernel
theorem dX5_first_45 : decode cX5_first 45 = .ok (.sipush 130, 3) := by decide +kernel
theorem dX5_first_48 : decode cX5_first 48 = .ok (.iload_n 1, 1) := by decide +kernel
theorem dX5_first_49 : decode cX5_first 49 = .ok (.iadd, 1) := by decide +kernel
theorem dX5_first_50 : decode cX5_first 50 = .ok (.iload 6, 2) := by decide +kernel
theorem dX5_first_52 : decode cX5_first 52 = .ok (.iastore, 1) := by decide +kernel
theorem dX5_first_53 : decode cX5_first 53 = .ok (.aload_n 0, 1) := by decide +kernel
theorem dX5_first_54 : decode cX5_first 54 = .ok (.getfield 22, 3) := by decide +kernel
theorem dX5_first_57 : decode cX5_first 57 = .ok (.sipush 146, 3) := by decide +kernel
theorem dX5_first_60 : decode cX5_first 60 = .ok (.iload_n 1, 1) := by decide +kernel
theorem dX5_first_61 : decode cX5_first 61 = .ok (.iadd, 1) := by decide +kernel
theorem dX5_first_62 : decode cX5_first 62 = .ok (.iload_n 1, 1) := by decide +kernel
theorem dX5_first_63 : decode cX5_first 63 = .ok (.iastore, 1) := by decide +kernel
theorem dX5_first_64 : decode cX5_first 64 = .ok (.return_, 1) := by decide +kernel
theorem dX5_knots_0 : decode cX5_knots 0 = .ok (.aload_n 0, 1) := by decide +kernel
theorem dX5_knots_1 : decode cX5_knots 1 = .ok (.getfield 22, 3) := by decide +kernel
theorem dX5_knots_4 : decode cX5_knots 4 = .ok (.bipush 34, 2) := by decide +kernel
theorem dX5_knots_6 : decode cX5_knots 6 = .ok (.iconst 4, 1) := by decide +kernel
theorem dX5_knots_7 : decode cX5_knots 7 = .ok (.iload_n 1, 1) := by decide +kernel
theorem dX5_knots_8 : decode cX5_knots 8 = .ok (.imul, 1) := by decide +kernel
theorem dX5_knots_9 : decode cX5_knots 9 = .ok (.iadd, 1) := by decide +kernel
theorem dX5_knots_10 : decode cX5_knots 10 = .ok (.iload_n 2, 1) := by decide +kernel
theorem dX5_knots_11 : decode cX5_knots 11 = .ok (.iastore, 1) := by decide +kernel
theorem dX5_knots_12 : decode cX5_knots 12 = .ok (.aload_n 0, 1) := by decide +kernel
theorem dX5_knots_13 : decode cX5_knots 13 = .ok (.getfield 22, 3) := by decide +kernel
theorem dX5_knots_16 : decode cX5_knots 16 = .ok (.bipush 34, 2) := by decide +kernel
theorem dX5_knots_18 : decode cX5_knots 18 = .ok (.iconst 4, 1) := by decide +kernel
theorem dX5_knots_19 : decode cX5_knots 19 = .ok (.iload_n 1, 1) := by decide +kernel
theorem dX5_knots_20 : decode cX5_knots 20 = .ok (.imul, 1) := by decide +kernel
theorem dX5_knots_21 : decode cX5_knots 21 = .ok (.iadd, 1) := by decide +kernel
theorem dX5_knots_22 : decode cX5_knots 22 = .ok (.iconst 1, 1) := by decide +kernel
theorem dX5_knots_23 : decode cX5_knots 23 = .ok (.iadd, 1) := by decide +kernel
theorem dX5_knots_24 : decode cX5_knots 24 = .ok (.iload_n 3, 1) := by decide +kernel
theorem dX5_knots_25 : decode cX5_knots 25 = .ok (.iastore, 1) := by decide +kernel
theorem dX5_knots_26 : decode cX5_knots 26 = .ok (.aload_n 0, 1) := by decide +kernel
theorem dX5_knots_27 : decode cX5_knots 27 = .ok (.getfield 22, 3) := by decide +kernel
theorem dX5_knots_30 : decode cX5_knots 30 = .ok (.bipush 34, 2) := by decide +kernel
theorem dX5_knots_32 : decode cX5_knots 32 = .ok (.iconst 4, 1) := by decide +kernel
theorem dX5_knots_33 : decode cX5_knots 33 = .ok (.iload_n 1, 1) := by decide +kernel
theorem dX5_knots_34 : decode cX5_knots 34 = .ok (.imul, 1) := by decide +kernel
theorem dX5_knots_35 : decode cX5_knots 35 = .ok (.iadd, 1) := by decide +kernel
theorem dX5_knots_36 : decode cX5_knots 36 = .ok (.iconst 2, 1) := by decide +kernel
theorem dX5_knots_37 : decode cX5_knots 37 = .ok (.iadd, 1) := by decide +kernel
theorem dX5_knots_38 : decode cX5_knots 38 = .ok (.iload 4, 2) := by decide +kernel
theorem dX5_knots_40 : decode cX5_knots 40 = .ok (.iastore, 1) := by decide +kernel
theorem dX5_knots_41 : decode cX5_knots 41 = .ok (.aload_n 0, 1) := by decide +kernel
theorem dX5_knots_42 : decode cX5_knots 42 = .ok (.getfield 22, 3) := by decide +kernel
theorem dX5_knots_45 : decode cX5_knots 45 = .ok (.bipush 34, 2) := by decide +kernel
theorem dX5_knots_47 : decode cX5_knots 47 = .ok (.iconst 4, 1) := by decide +kernel
theorem dX5_knots_48 : decode cX5_knots 48 = .ok (.iload_n 1, 1) := by decide +kernel
theorem dX5_knots_49 : decode cX5_knots 49 = .ok (.imul, 1) := by decide +kernel
theorem dX5_knots_50 : decode cX5_knots 50 = .ok (.iadd, 1) := by decide +kernel
theorem dX5_knots_51 : decode cX5_knots 51 = .ok (.iconst 3, 1) := by decide +kernel
theorem dX5_knots_52 : decode cX5_knots 52 = .ok (.iadd, 1) := by decide +kernel
theorem dX5_knots_53 : decode cX5_knots 53 = .ok (.iload 5, 2) := by decide +kernel
theorem dX5_knots_55 : decode cX5_knots 55 = .ok (.iastore, 1) := by decide +kernel
theorem dX5_knots_56 : decode cX5_knots 56 = .ok (.return_, 1) := by decide +kernel
theorem dX5_in_0 : decode cX5_in 0 = .ok (.lload_n 0, 1) := by decide +kernel
theorem dX5_in_1 : decode cX5_in 1 = .ok (.lload_n 2, 1) := by decide +kernel
theorem dX5_in_2 : decode cX5_in 2 = .ok (.lcmp, 1) := by decide +kernel
theorem dX5_in_3 : decode cX5_in 3 = .ok (.ifCond .lt 14, 3) := by decide +kernel
theorem dX5_in_6 : decode cX5_in 6 = .ok (.lload_n 0, 1) := by decide +kernel
theorem dX5_in_7 : decode cX5_in 7 = .ok (.lload 4, 2) := by decide +kernel
theorem dX5_in_9 : decode cX5_in 9 = .ok (.lcmp, 1) := by decide +kernel
theorem dX5_in_10 : decode cX5_in 10 = .ok (.ifCond .gt 7, 3) := by decide +kernel
theorem dX5_in_13 : decode cX5_in 13 = .ok (.iconst 1, 1) := by decide +kernel
theorem dX5_in_14 : decode cX5_in 14 = .ok (.goto 4, 3) := by decide +kernel
theorem dX5_in_17 : decode cX5_in 17 = .ok (.iconst 0, 1) := by decide +kernel
theorem dX5_in_18 : decode cX5_in 18 = .ok (.ireturn, 1) := by decide +kernel
theorem dX5_isTwo_0 : decode cX5_isTwo 0 = .ok (.iload_n 0, 1) := by decide +kernel
theorem dX5_isTwo_1 : decode cX5_isTwo 1 = .ok (.i2l, 1) := by decide +kernel
theorem dX5_isTwo_2 : decode cX5_isTwo 2 = .ok (.lconst 0, 1) := by decide +kernel
theorem dX5_isTwo_3 : decode cX5_isTwo 3 = .ok (.lconst 1, 1) := by decide +kernel
theorem dX5_isTwo_4 : decode cX5_isTwo 4 = .ok (.invokestatic 54, 3) := by decide +kernel
theorem dX5_isTwo_7 : decode cX5_isTwo 7 = .ok (.ireturn, 1) := by decide +kernel
theorem dX5_write_0 : decode cX5_write 0 = .ok (.iload_n 1, 1) := by decide +kernel
theorem dX5_write_1 : decode cX5_write 1 = .ok (.i2l, 1) := by decide +kernel
theorem dX5_write_2 : decode cX5_write 2 = .ok (.ldc2_w 58, 3) := by decide +kernel
theorem dX5_write_5 : decode cX5_write 5 = .ok (.ldc2_w 60, 3) := by decide +kernel
theorem dX5_write_8 : decode cX5_write 8 = .ok (.invokestatic 54, 3) := by decide +kernel
theorem dX5_write_11 : decode cX5_write 11 = .ok (.ifCond .ne 5, 3) := by decide +kernel
theorem dX5_write_14 : decode cX5_write 14 = .ok (.iconst (-1), 1) := by decide +kernel
theorem dX5_write_15 : decode cX5_write 15 = .ok (.ireturn, 1) := by decide +kernel
theorem dX5_write_16 : decode cX5_write 16 = .ok (.aload_n 0, 1) := by decide +kernel
theorem dX5_write_17 : decode cX5_write 17 = .ok (.getfield 62, 3) := by decide +kernel
theorem dX5_write_20 : decode cX5_write 20 = .ok (.sipush 200, 3) := by decide +kernel
theorem dX5_write_23 : decode cX5_write 23 = .ok (.if_icmp .ne 6, 3) := by decide +kernel
theorem dX5_write_26 : decode cX5_write 26 = .ok (.bipush (-3), 2) := by decide +kernel
theorem dX5_write_28 : decode cX5_write 28 = .ok (.ireturn, 1) := by decide +kernel
theorem dX5_write_29 : decode cX5_write 29 = .ok (.aload_n 0, 1) := by decide +kernel
theorem dX5_write_30 : decode cX5_write 30 = .ok (.getfield 19, 3) := by decide +kernel
theorem dX5_write_33 : decode cX5_write 33 = .ok (.aload_n 0, 1) := by decide +kernel
theorem dX5_write_34 : decode cX5_write 34 = .ok (.getfield 62, 3) := by decide +kernel
theorem dX5_write_37 : decode cX5_write 37 = .ok (.iload_n 1, 1) := by decide +kernel
theorem dX5_write_38 : decode cX5_write 38 = .ok (.iastore, 1) := by decide +kernel
theorem dX5_write_39 : decode cX5_write 39 = .ok (.aload_n 0, 1) := by decide +kernel
theorem dX5_write_40 : decode cX5_write 40 = .ok (.dup, 1) := by decide +kernel
theorem dX5_write_41 : decode cX5_write 41 = .ok (.getfield 62, 3) := by decide +kernel
theorem dX5_write_44 : decode cX5_write 44 = .ok (.iconst 1, 1) := by decide +kernel
theorem dX5_write_45 : decode cX5_write 45 = .ok (.iadd, 1) := by decide +kernel
theorem dX5_write_46 : decode cX5_write 46 = .ok (.putfield 62, 3) := by decide +kernel
theorem dX5_write_49 : decode cX5_write 49 = .ok (.aload_n 0, 1) := by decide +kernel
theorem dX5_write_50 : decode cX5_write 50 = .ok (.getfield 62, 3) := by decide +kernel
theorem dX5_write_53 : decode cX5_write 53 = .ok (.ireturn, 1) := by decide +kernel
theorem dX5_wipe_0 : decode cX5_wipe 0 = .ok (.aload_n 0, 1) := by decide +kernel
theorem dX5_wipe_1 : decode cX5_wipe 1 = .ok (.getfield 62, 3) := by decide +kernel
theorem dX5_wipe_4 : decode cX5_wipe 4 = .ok (.istore_n 1, 1) := by decide +kernel
theorem dX5_wipe_5 : decode cX5_wipe 5 = .ok (.aload_n 0, 1) := by decide +kernel
theorem dX5_wipe_6 : decode cX5_wipe 6 = .ok (.iconst 0, 1) := by decide +kernel
theorem dX5_wipe_7 : decode cX5_wipe 7 = .ok (.putfield 62, 3) := by decide +kernel
theorem dX5_wipe_10 : decode cX5_wipe 10 = .ok (.iload_n 1, 1) := by decide +kernel
theorem dX5_wipe_11 : decode cX5_wipe 11 = .ok (.ireturn, 1) := by decide +kernel
theorem dX5_newest_0 : decode cX5_newest 0 = .ok (.aload_n 0, 1) := by decide +kernel
theorem dX5_newest_1 : decode cX5_newest 1 = .ok (.getfield 22, 3) := by decide +kernel
theorem dX5_newest_4 : decode cX5_newest 4 = .ok (.iconst 0, 1) := by decide +kernel
theorem dX5_newest_5 : decode cX5_newest 5 = .ok (.iaload, 1) := by decide +kernel
theorem dX5_newest_6 : decode cX5_newest 6 = .ok (.iconst 1, 1) := by decide +kernel
theorem dX5_newest_7 : decode cX5_newest 7 = .ok (.isub, 1) := by decide +kernel
theorem dX5_newest_8 : decode cX5_newest 8 = .ok (.ireturn, 1) := by decide +kernel
theorem dX5_hasRoom_0 : decode cX5_hasRoom 0 = .ok (.aload_n 0, 1) := by decide +kernel
theorem dX5_hasRoom_1 : decode cX5_hasRoom 1 = .ok (.getfield 22, 3) := by decide +kernel
theorem dX5_hasRoom_4 : decode cX5_hasRoom 4 = .ok (.iconst 0, 1) := by decide +kernel
theorem dX5_hasRoom_5 : decode cX5_hasRoom 5 = .ok (.iaload, 1) := by decide +kernel
theorem dX5_hasRoom_6 : decode cX5_hasRoom 6 = .ok (.bipush 16, 2) := by decide +kernel
theorem dX5_hasRoom_8 : decode cX5_hasRoom 8 = .ok (.if_icmp .ge 7, 3) := by decide +kernel
theorem dX5_hasRoom_11 : decode cX5_hasRoom 11 = .ok (.iconst 1, 1) := by decide +kernel
theorem dX5_hasRoom_12 : decode cX5_hasRoom 12 = .ok (.goto 4, 3) := by decide +kernel
theorem dX5_hasRoom_15 : decode cX5_hasRoom 15 = .ok (.iconst 0, 1) := by decide +kernel
theorem dX5_hasRoom_16 : decode cX5_hasRoom 16 = .ok (.ireturn, 1) := by decide +kernel
theorem dX5_goesTo_0 : decode cX5_goesTo 0 = .ok (.aload_n 0, 1) := by decide +kernel
theorem dX5_goesTo_1 : decode cX5_goesTo 1 = .ok (.iload_n 1, 1) := by decide +kernel
theorem dX5_goesTo_2 : decode cX5_goesTo 2 = .ok (.putfield 66, 3) := by decide +kernel
theorem dX5_goesTo_5 : decode cX5_goesTo 5 = .ok (.iconst 1, 1) := by decide +kernel
theorem dX5_goesTo_6 : decode cX5_goesTo 6 = .ok (.ireturn, 1) := by decide +kernel
theorem dX5_takesColour_0 : decode cX5_takesColour 0 = .ok (.aload_n 0, 1) := by decide +kernel
theorem dX5_takesColour_1 : decode cX5_takesColour 1 = .ok (.getfield 22, 3) := by decide +kernel
theorem dX5_takesColour_4 : decode cX5_takesColour 4 = .ok (.iconst 0, 1) := by decide +kernel
theorem dX5_takesColour_5 : decode cX5_takesColour 5 = .ok (.iaload, 1) := by decide +kernel
theorem dX5_takesColour_6 : decode cX5_takesColour 6 = .ok (.istore_n 2, 1) := by decide +kernel
theorem dX5_takesColour_7 : decode cX5_takesColour 7 = .ok (.aload_n 0, 1) := by decide +kernel
theorem dX5_takesColour_8 : decode cX5_takesColour 8 = .ok (.getfield 22, 3) := by decide +kernel
theorem dX5_takesColour_11 : decode cX5_takesColour 11 = .ok (.iconst 2, 1) := by decide +kernel
theorem dX5_takesColour_12 : decode cX5_takesColour 12 = .ok (.iload_n 2, 1) := by decide +kernel
theorem dX5_takesColour_13 : decode cX5_takesColour 13 = .ok (.iadd, 1) := by decide +kernel
theorem dX5_takesColour_14 : decode cX5_takesColour 14 = .ok (.iload_n 1, 1) := by decide +kernel
theorem dX5_takesColour_15 : decode cX5_takesColour 15 = .ok (.iastore, 1) := by decide +kernel
theorem dX5_takesColour_16 : decode cX5_takesColour 16 = .ok (.aload_n 0, 1) := by decide +kernel
theorem dX5_takesColour_17 : decode cX5_takesColour 17 = .ok (.getfield 22, 3) := by decide +kernel
theorem dX5_takesColour_20 : decode cX5_takesColour 20 = .ok (.bipush 18, 2) := by decide +kernel
theorem dX5_takesColour_22 : decode cX5_takesColour 22 = .ok (.iload_n 2, 1) := by decide +kernel
theorem dX5_takesColour_23 : decode cX5_takesColour 23 = .ok (.iadd, 1) := by decide +kernel
theorem dX5_takesColour_24 : decode cX5_takesColour 24 = .ok (.iconst 0, 1) := by decide +kernel
theorem dX5_takesColour_25 : decode cX5_takesColour 25 = .ok (.iastore, 1) := by decide +kernel
theorem dX5_takesColour_26 : decode cX5_takesColour 26 = .ok (.aload_n 0, 1) := by decide +kernel
theorem dX5_takesColour_27 : decode cX5_takesColour 27 = .ok (.getfield 22, 3) := by decide +kernel
theorem dX5_takesColour_30 : decode cX5_takesColour 30 = .ok (.bipush 98, 2) := by decide +kernel
theorem dX5_takesColour_32 : decode cX5_takesColour 32 = .ok (.iload_n 2, 1) := by decide +kernel
theorem dX5_takesColour_33 : decode cX5_takesColour 33 = .ok (.iadd, 1) := by decide +kernel
theorem dX5_takesColour_34 : decode cX5_takesColour 34 = .ok (.aload_n 0, 1) := by decide +kernel
theorem dX5_takesColour_35 : decode cX5_takesColour 35 = .ok (.getfield 69, 3) := by decide +kernel
theorem dX5_takesColour_38 : decode cX5_takesColour 38 = .ok (.ifCond .ne 7, 3) := by decide +kernel
theorem dX5_takesColour_41 : decode cX5_takesColour 41 = .ok (.iconst (-1), 1) := by decide +kernel
theorem dX5_takesColour_42 : decode cX5_takesColour 42 = .ok (.goto 14, 3) := by decide +kernel
theorem dX5_takesColour_45 : decode cX5_takesColour 45 = .ok (.aload_n 0, 1) := by decide +kernel
theorem dX5_takesColour_46 : decode cX5_takesColour 46 = .ok (.getfield 25, 3) := by decide +kernel
theorem dX5_takesColour_49 : decode cX5_takesColour 49 = .ok (.aload_n 0, 1) := by decide +kernel
theorem dX5_takesColour_50 : decode cX5_takesColour 50 = .ok (.getfield 69, 3) := by decide +kernel
theorem dX5_takesColour_53 : decode cX5_takesColour 53 = .ok (.iconst 1, 1) := by decide +kernel
theorem dX5_takesColour_54 : decode cX5_takesColour 54 = .ok (.isub, 1) := by decide +kernel
theorem dX5_takesColour_55 : decode cX5_takesColour 55 = .ok (.iaload, 1) := by decide +kernel
theorem dX5_takesColour_56 : decode cX5_takesColour 56 = .ok (.iastore, 1) := by decide +kernel
theorem dX5_takesColour_57 : decode cX5_takesColour 57 = .ok (.aload_n 0, 1) := by decide +kernel
theorem dX5_takesColour_58 : decode cX5_takesColour 58 = .ok (.getfield 22, 3) := by decide +kernel
theorem dX5_takesColour_61 : decode cX5_takesColour 61 = .ok (.bipush 114, 2) := by decide +kernel
theorem dX5_takesColour_63 : decode cX5_takesColour 63 = .ok (.iload_n 2, 1) := by decide +kernel
theorem dX5_takesColour_64 : decode cX5_takesColour 64 = .ok (.iadd, 1) := by decide +kernel
theorem dX5_takesColour_65 : decode cX5_takesColour 65 = .ok (.aload_n 0, 1) := by decide +kernel
theorem dX5_takesColour_66 : decode cX5_takesColour 66 = .ok (.getfield 22, 3) := by decide +kernel
theorem dX5_takesColour_69 : decode cX5_takesColour 69 = .ok (.iconst 1, 1) := by decide +kernel
theorem dX5_takesColour_70 : decode cX5_takesColour 70 = .ok (.iaload, 1) := by decide +kernel
theorem dX5_takesColour_71 : decode cX5_takesColour 71 = .ok (.iconst 1, 1) := by decide +kernel
theorem dX5_takesColour_72 : decode cX5_takesColour 72 = .ok (.isub, 1) := by decide +kernel
theorem dX5_takesColour_73 : decode cX5_takesColour 73 = .ok (.iastore, 1) := by decide +kernel
theorem dX5_takesColour_74 : decode cX5_takesColour 74 = .ok (.aload_n 0, 1) := by decide +kernel
theorem dX5_takesColour_75 : decode cX5_takesColour 75 = .ok (.getfield 22, 3) := by decide +kernel
theorem dX5_takesColour_78 : decode cX5_takesColour 78 = .ok (.sipush 130, 3) := by decide +kernel
theorem dX5_takesColour_81 : decode cX5_takesColour 81 = .ok (.iload_n 2, 1) := by decide +kernel
theorem dX5_takesColour_82 : decode cX5_takesColour 82 = .ok (.iadd, 1) := by decide +kernel
theorem dX5_takesColour_83 : decode cX5_takesColour 83 = .ok (.aload_n 0, 1) := by decide +kernel
theorem dX5_takesColour_84 : decode cX5_takesColour 84 = .ok (.getfield 69, 3) := by decide +kernel
theorem dX5_takesColour_87 : decode cX5_takesColour 87 = .ok (.ifCond .ne 14, 3) := by decide +kernel
theorem dX5_takesColour_90 : decode cX5_takesColour 90 = .ok (.aload_n 0, 1) := by decide +kernel
theorem dX5_takesColour_91 : decode cX5_takesColour 91 = .ok (.getfield 72, 3) := by decide +kernel
theorem dX5_takesColour_94 : decode cX5_takesColour 94 = .ok (.ifCond .eq 7, 3) := by decide +kernel
theorem dX5_takesColour_97 : decode cX5_takesColour 97 = .ok (.iconst 1, 1) := by decide +kernel
theorem dX5_takesColour_98 : decode cX5_takesColour 98 = .ok (.goto 4, 3) := by decide +kernel
theorem dX5_takesColour_101 : decode cX5_takesColour 101 = .ok (.iconst 0, 1) := by decide +kernel
theorem dX5_takesColour_102 : decode cX5_takesColour 102 = .ok (.iastore, 1) := by decide +kernel
theorem dX5_takesColour_103 : decode cX5_takesColour 103 = .ok (.aload_n 0, 1) := by decide +kernel
theorem dX5_takesColour_104 : decode cX5_takesColour 104 = .ok (.getfield 22, 3) := by decide +kernel
theorem dX5_takesColour_107 : decode cX5_takesColour 107 = .ok (.sipush 146, 3) := by decide +kernel
theorem dX5_takesColour_110 : decode cX5_takesColour 110 = .ok (.iload_n 2, 1) := by decide +kernel
theorem dX5_takesColour_111 : decode cX5_takesColour 111 = .ok (.iadd, 1) := by decide +kernel
theorem dX5_takesColour_112 : decode cX5_takesColour 112 = .ok (.iload_n 2, 1) := by decide +kernel
theorem dX5_takesColour_113 : decode cX5_takesColour 113 = .ok (.iastore, 1) := by decide +kernel
theorem dX5_takesColour_114 : decode cX5_takesColour 114 = .ok (.aload_n 0, 1) := by decide +kernel
theorem dX5_takesColour_115 : decode cX5_takesColour 115 = .ok (.getfield 25, 3) := by decide +kernel
theorem dX5_takesColour_118 : decode cX5_takesColour 118 = .ok (.aload_n 0, 1) := by decide +kernel
theorem dX5_takesColour_119 : decode cX5_takesColour 119 = .ok (.getfield 69, 3) := by decide +kernel
theorem dX5_takesColour_122 : decode cX5_takesColour 122 = .ok (.iload_n 2, 1) := by decide +kernel
theorem dX5_takesColour_123 : decode cX5_takesColour 123 = .ok (.iastore, 1) := by decide +kernel
theorem dX5_takesColour_124 : decode cX5_takesColour 124 = .ok (.aload_n 0, 1) := by decide +kernel
theorem dX5_takesColour_125 : decode cX5_takesColour 125 = .ok (.getfield 22, 3) := by decide +kernel
theorem dX5_takesColour_128 : decode cX5_takesColour 128 = .ok (.iconst 0, 1) := by decide +kernel
theorem dX5_takesColour_129 : decode cX5_takesColour 129 = .ok (.dup2, 1) := by decide +kernel
theorem dX5_takesColour_130 : decode cX5_takesColour 130 = .ok (.iaload, 1) := by decide +kernel
theorem dX5_takesColour_131 : decode cX5_takesColour 131 = .ok (.iconst 1, 1) := by decide +kernel
theorem dX5_takesColour_132 : decode cX5_takesColour 132 = .ok (.iadd, 1) := by decide +kernel
theorem dX5_takesColour_133 : decode cX5_takesColour 133 = .ok (.iastore, 1) := by decide +kernel
theorem dX5_takesColour_134 : decode cX5_takesColour 134 = .ok (.aload_n 0, 1) := by decide +kernel
theorem dX5_takesColour_135 : decode cX5_takesColour 135 = .ok (.iconst 2, 1) := by decide +kernel
theorem dX5_takesColour_136 : decode cX5_takesColour 136 = .ok (.invokevirtual 76, 3) := by decide +kernel
theorem dX5_takesColour_139 : decode cX5_takesColour 139 = .ok (.ireturn, 1) := by decide +kernel
theorem dX5_takesCluster_0 : decode cX5_takesCluster 0 = .ok (.aload_n 0, 1) := by decide +kernel
theorem dX5_takesCluster_1 : decode cX5_takesCluster 1 = .ok (.invokevirtual 80, 3) := by decide +kernel
theorem dX5_takesCluster_4 : decode cX5_takesCluster 4 = .ok (.istore_n 2, 1) := by decide +kernel
theorem dX5_takesCluster_5 : decode cX5_takesCluster 5 = .ok (.iconst 3, 1) := by decide +kernel
theorem dX5_takesCluster_6 : decode cX5_takesCluster 6 = .ok (.istore_n 3, 1) := by decide +kernel
theorem dX5_takesCluster_7 : decode cX5_takesCluster 7 = .ok (.iload_n 3, 1) := by decide +kernel
theorem dX5_takesCluster_8 : decode cX5_takesCluster 8 = .ok (.ifCond .le 37, 3) := by decide +kernel
theorem dX5_takesCluster_11 : decode cX5_takesCluster 11 = .ok (.aload_n 0, 1) := by decide +kernel
theorem dX5_takesCluster_12 : decode cX5_takesCluster 12 = .ok (.getfield 22, 3) := by decide +kernel
theorem dX5_takesCluster_15 : decode cX5_takesCluster 15 = .ok (.bipush 34, 2) := by decide +kernel
theorem dX5_takesCluster_17 : decode cX5_takesCluster 17 = .ok (.iconst 4, 1) := by decide +kernel
theorem dX5_takesCluster_18 : decode cX5_takesCluster 18 = .ok (.iload_n 2, 1) := by decide +kernel
theorem dX5_takesCluster_19 : decode cX5_takesCluster 19 = .ok (.imul, 1) := by decide +kernel
theorem dX5_takesCluster_20 : decode cX5_takesCluster 20 = .ok (.iadd, 1) := by decide +kernel
theorem dX5_takesCluster_21 : decode cX5_takesCluster 21 = .ok (.iload_n 3, 1) := by decide +kernel
theorem dX5_takesCluster_22 : decode cX5_takesCluster 22 = .ok (.iadd, 1) := by decide +kernel
theorem dX5_takesCluster_23 : decode cX5_takesCluster 23 = .ok (.aload_n 0, 1) := by decide +kernel
theorem dX5_takesCluster_24 : decode cX5_takesCluster 24 = .ok (.getfield 22, 3) := by decide +kernel
theorem dX5_takesCluster_27 : decode cX5_takesCluster 27 = .ok (.bipush 34, 2) := by decide +kernel
theorem dX5_takesCluster_29 : decode cX5_takesCluster 29 = .ok (.iconst 4, 1) := by decide +kernel
theorem dX5_takesCluster_30 : decode cX5_takesCluster 30 = .ok (.iload_n 2, 1) := by decide +kernel
theorem dX5_takesCluster_31 : decode cX5_takesCluster 31 = .ok (.imul, 1) := by decide +kernel
theorem dX5_takesCluster_32 : decode cX5_takesCluster 32 = .ok (.iadd, 1) := by decide +kernel
theorem dX5_takesCluster_33 : decode cX5_takesCluster 33 = .ok (.iload_n 3, 1) := by decide +kernel
theorem dX5_takesCluster_34 : decode cX5_takesCluster 34 = .ok (.iadd, 1) := by decide +kernel
theorem dX5_takesCluster_35 : decode cX5_takesCluster 35 = .ok (.iconst 1, 1) := by decide +kernel
theorem dX5_takesCluster_36 : decode cX5_takesCluster 36 = .ok (.isub, 1) := by decide +kernel
theorem dX5_takesCluster_37 : decode cX5_takesCluster 37 = .ok (.iaload, 1) := by decide +kernel
theorem dX5_takesCluster_38 : decode cX5_takesCluster 38 = .ok (.iastore, 1) := by decide +kernel
theorem dX5_takesCluster_39 : decode cX5_takesCluster 39 = .ok (.iinc 3 (-1), 3) := by decide +kernel
theorem dX5_takesCluster_42 : decode cX5_takesCluster 42 = .ok (.goto (-35), 3) := by decide +kernel
theorem dX5_takesCluster_45 : decode cX5_takesCluster 45 = .ok (.aload_n 0, 1) := by decide +kernel
theorem dX5_takesCluster_46 : decode cX5_takesCluster 46 = .ok (.getfield 22, 3) := by decide +kernel
theorem dX5_takesCluster_49 : decode cX5_takesCluster 49 = .ok (.bipush 34, 2) := by decide +kernel
theorem dX5_takesCluster_51 : decode cX5_takesCluster 51 = .ok (.iconst 4, 1) := by decide +kernel
theorem dX5_takesCluster_52 : decode cX5_takesCluster 52 = .ok (.iload_n 2, 1) := by decide +kernel
theorem dX5_takesCluster_53 : decode cX5_takesCluster 53 = .ok (.imul, 1) := by decide +kernel
theorem dX5_takesCluster_54 : decode cX5_takesCluster 54 = .ok (.iadd, 1) := by decide +kernel
theorem dX5_takesCluster_55 : decode cX5_takesCluster 55 = .ok (.iload_n 1, 1) := by decide +kernel
theorem dX5_takesCluster_56 : decode cX5_takesCluster 56 = .ok (.iastore, 1) := by decide +kernel
theorem dX5_takesCluster_57 : decode cX5_takesCluster 57 = .ok (.aload_n 0, 1) := by decide +kernel
theorem dX5_takesCluster_58 : decode cX5_takesCluster 58 = .ok (.getfield 22, 3) := by decide +kernel
theorem dX5_takesCluster_61 : decode cX5_takesCluster 61 = .ok (.bipush 18, 2) := by decide +kernel
theorem dX5_takesCluster_63 : decode cX5_takesCluster 63 = .ok (.iload_n 2, 1) := by decide +kernel
theorem dX5_takesCluster_64 : decode cX5_takesCluster 64 = .ok (.iadd, 1) := by decide +kernel
theorem dX5_takesCluster_65 : decode cX5_takesCluster 65 = .ok (.dup2, 1) := by decide +kernel
theorem dX5_takesCluster_66 : decode cX5_takesCluster 66 = .ok (.iaload, 1) := by decide +kernel
theorem dX5_takesCluster_67 : decode cX5_takesCluster 67 = .ok (.iconst 1, 1) := by decide +kernel
theorem dX5_takesCluster_68 : decode cX5_takesCluster 68 = .ok (.iadd, 1) := by decide +kernel
theorem dX5_takesCluster_69 : decode cX5_takesCluster 69 = .ok (.iastore, 1) := by decide +kernel
theorem dX5_takesCluster_70 : decode cX5_takesCluster 70 = .ok (.aload_n 0, 1) := by decide +kernel
theorem dX5_takesCluster_71 : decode cX5_takesCluster 71 = .ok (.iconst 3, 1) := by decide +kernel
theorem dX5_takesCluster_72 : decode cX5_takesCluster 72 = .ok (.invokevirtual 76, 3) := by decide +kernel
theorem dX5_takesCluster_75 : decode cX5_takesCluster 75 = .ok (.ireturn, 1) := by decide +kernel
theorem dX5_takesKnots_0 : decode cX5_takesKnots 0 = .ok (.aload_n 0, 1) := by decide +kernel
theorem dX5_takesKnots_1 : decode cX5_takesKnots 1 = .ok (.getfield 66, 3) := by decide +kernel
theorem dX5_takesKnots_4 : decode cX5_takesKnots 4 = .ok (.iconst 3, 1) := by decide +kernel
theorem dX5_takesKnots_5 : decode cX5_takesKnots 5 = .ok (.if_icmp .ne 21, 3) := by decide +kernel
theorem dX5_takesKnots_8 : decode cX5_takesKnots 8 = .ok (.aload_n 0, 1) := by decide +kernel
theorem dX5_takesKnots_9 : decode cX5_takesKnots 9 = .ok (.getfield 22, 3) := by decide +kernel
theorem dX5_takesKnots_12 : decode cX5_takesKnots 12 = .ok (.bipush 18, 2) := by decide +kernel
theorem dX5_takesKnots_14 : decode cX5_takesKnots 14 = .ok (.aload_n 0, 1) := by decide +kernel
theorem dX5_takesKnots_15 : decode cX5_takesKnots 15 = .ok (.invokevirtual 80, 3) := by decide +kernel
theorem dX5_takesKnots_18 : decode cX5_takesKnots 18 = .ok (.iadd, 1) := by decide +kernel
theorem dX5_takesKnots_19 : decode cX5_takesKnots 19 = .ok (.iaload, 1) := by decide +kernel
theorem dX5_takesKnots_20 : decode cX5_takesKnots 20 = .ok (.iconst 4, 1) := by decide +kernel
theorem dX5_takesKnots_21 : decode cX5_takesKnots 21 = .ok (.if_icmp .ne 5, 3) := by decide +kernel
theorem dX5_takesKnots_24 : decode cX5_takesKnots 24 = .ok (.iconst 0, 1) := by decide +kernel
theorem dX5_takesKnots_25 : decode cX5_takesKnots 25 = .ok (.ireturn, 1) := by decide +kernel
theorem dX5_takesKnots_26 : decode cX5_takesKnots 26 = .ok (.iload_n 1, 1) := by decide +kernel
theorem dX5_takesKnots_27 : decode cX5_takesKnots 27 = .ok (.lookupswitch 67 #[(46, 41), (101, 47), (108, 60), (115, 54)], 41) := by decide +kernel
theorem dX5_takesKnots_68 : decode cX5_takesKnots 68 = .ok (.aload_n 0, 1) := by decide +kernel
theorem dX5_takesKnots_69 : decode cX5_takesKnots 69 = .ok (.iconst 0, 1) := by decide +kernel
theorem dX5_takesKnots_70 : decode cX5_takesKnots 70 = .ok (.invokevirtual 84, 3) := by decide +kernel
theorem dX5_takesKnots_73 : decode cX5_takesKnots 73 = .ok (.ireturn, 1) := by decide +kernel
theorem dX5_takesKnots_74 : decode cX5_takesKnots 74 = .ok (.aload_n 0, 1) := by decide +kernel
theorem dX5_takesKnots_75 : decode cX5_takesKnots 75 = .ok (.bipush 31, 2) := by decide +kernel
theorem dX5_takesKnots_77 : decode cX5_takesKnots 77 = .ok (.invokevirtual 84, 3) := by decide +kernel
theorem dX5_takesKnots_80 : decode cX5_takesKnots 80 = .ok (.ireturn, 1) := by decide +kernel
theorem dX5_takesKnots_81 : decode cX5_takesKnots 81 = .ok (.aload_n 0, 1) := by decide +kernel
theorem dX5_takesKnots_82 : decode cX5_takesKnots 82 = .ok (.iconst 5, 1) := by decide +kernel
theorem dX5_takesKnots_83 : decode cX5_takesKnots 83 = .ok (.invokevirtual 76, 3) := by decide +kernel
theorem dX5_takesKnots_86 : decode cX5_takesKnots 86 = .ok (.ireturn, 1) := by decide +kernel
theorem dX5_takesKnots_87 : decode cX5_takesKnots 87 = .ok (.aload_n 0, 1) := by decide +kernel
theorem dX5_takesKnots_88 : decode cX5_takesKnots 88 = .ok (.bipush 6, 2) := by decide +kernel
theorem dX5_takesKnots_90 : decode cX5_takesKnots 90 = .ok (.invokevirtual 76, 3) := by decide +kernel
theorem dX5_takesKnots_93 : decode cX5_takesKnots 93 = .ok (.ireturn, 1) := by decide +kernel
theorem dX5_takesKnots_94 : decode cX5_takesKnots 94 = .ok (.iconst 0, 1) := by decide +kernel
theorem dX5_takesKnots_95 : decode cX5_takesKnots 95 = .ok (.ireturn, 1) := by decide +kernel
theorem dX5_takesBehind_0 : decode cX5_takesBehind 0 = .ok (.aload_n 0, 1) := by decide +kernel
theorem dX5_takesBehind_1 : decode cX5_takesBehind 1 = .ok (.getfield 69, 3) := by decide +kernel
theorem dX5_takesBehind_4 : decode cX5_takesBehind 4 = .ok (.ifCond .ne 7, 3) := by decide +kernel
theorem dX5_takesBehind_7 : decode cX5_takesBehind 7 = .ok (.iconst 1, 1) := by decide +kernel
theorem dX5_takesBehind_8 : decode cX5_takesBehind 8 = .ok (.goto 4, 3) := by decide +kernel
theorem dX5_takesBehind_11 : decode cX5_takesBehind 11 = .ok (.iconst 0, 1) := by decide +kernel
theorem dX5_takesBehind_12 : decode cX5_takesBehind 12 = .ok (.istore_n 2, 1) := by decide +kernel
theorem dX5_takesBehind_13 : decode cX5_takesBehind 13 = .ok (.iload_n 1, 1) := by decide +kernel
theorem dX5_takesBehind_14 : decode cX5_takesBehind 14 = .ok (.lookupswitch 140 #[(40, 42), (41, 76), (93, 122), (94, 98)], 42) := by decide +kernel
theorem dX5_takesBehind_56 : decode cX5_takesBehind 56 = .ok (.aload_n 0, 1) := by decide +kernel
theorem dX5_takesBehind_57 : decode cX5_takesBehind 57 = .ok (.getfield 66, 3) := by decide +kernel
theorem dX5_takesBehind_60 : decode cX5_takesBehind 60 = .ok (.iconst 4, 1) := by decide +kernel
theorem dX5_takesBehind_61 : decode cX5_takesBehind 61 = .ok (.if_icmp .eq 11, 3) := by decide +kernel
theorem dX5_takesBehind_64 : decode cX5_takesBehind 64 = .ok (.aload_n 0, 1) := by decide +kernel
theorem dX5_takesBehind_65 : decode cX5_takesBehind 65 = .ok (.getfield 69, 3) := by decide +kernel
theorem dX5_takesBehind_68 : decode cX5_takesBehind 68 = .ok (.iconst 2, 1) := by decide +kernel
theorem dX5_takesBehind_69 : decode cX5_takesBehind 69 = .ok (.if_icmp .ne 5, 3) := by decide +kernel
theorem dX5_takesBehind_72 : decode cX5_takesBehind 72 = .ok (.iconst 0, 1) := by decide +kernel
theorem dX5_takesBehind_73 : decode cX5_takesBehind 73 = .ok (.ireturn, 1) := by decide +kernel
theorem dX5_takesBehind_74 : decode cX5_takesBehind 74 = .ok (.aload_n 0, 1) := by decide +kernel
theorem dX5_takesBehind_75 : decode cX5_takesBehind 75 = .ok (.dup, 1) := by decide +kernel
theorem dX5_takesBehind_76 : decode cX5_takesBehind 76 = .ok (.getfield 69, 3) := by decide +kernel
theorem dX5_takesBehind_79 : decode cX5_takesBehind 79 = .ok (.iconst 1, 1) := by decide +kernel
theorem dX5_takesBehind_80 : decode cX5_takesBehind 80 = .ok (.iadd, 1) := by decide +kernel
theorem dX5_takesBehind_81 : decode cX5_takesBehind 81 = .ok (.putfield 69, 3) := by decide +kernel
theorem dX5_takesBehind_84 : decode cX5_takesBehind 84 = .ok (.aload_n 0, 1) := by decide +kernel
theorem dX5_takesBehind_85 : decode cX5_takesBehind 85 = .ok (.iconst 1, 1) := by decide +kernel
theorem dX5_takesBehind_86 : decode cX5_takesBehind 86 = .ok (.invokevirtual 76, 3) := by decide +kernel
theorem dX5_takesBehind_89 : decode cX5_takesBehind 89 = .ok (.ireturn, 1) := by decide +kernel
theorem dX5_takesBehind_90 : decode cX5_takesBehind 90 = .ok (.iload_n 2, 1) := by decide +kernel
theorem dX5_takesBehind_91 : decode cX5_takesBehind 91 = .ok (.ifCond .eq 5, 3) := by decide +kernel
theorem dX5_takesBehind_94 : decode cX5_takesBehind 94 = .ok (.iconst 0, 1) := by decide +kernel
theorem dX5_takesBehind_95 : decode cX5_takesBehind 95 = .ok (.ireturn, 1) := by decide +kernel
theorem dX5_takesBehind_96 : decode cX5_takesBehind 96 = .ok (.aload_n 0, 1) := by decide +kernel
theorem dX5_takesBehind_97 : decode cX5_takesBehind 97 = .ok (.dup, 1) := by decide +kernel
theorem dX5_takesBehind_98 : decode cX5_takesBehind 98 = .ok (.getfield 69, 3) := by decide +kernel
theorem dX5_takesBehind_101 : decode cX5_takesBehind 101 = .ok (.iconst 1, 1) := by decide +kernel
theorem dX5_takesBehind_102 : decode cX5_takesBehind 102 = .ok (.isub, 1) := by decide +kernel
theorem dX5_takesBehind_103 : decode cX5_takesBehind 103 = .ok (.putfield 69, 3) := by decide +kernel
theorem dX5_takesBehind_106 : decode cX5_takesBehind 106 = .ok (.aload_n 0, 1) := by decide +kernel
theorem dX5_takesBehind_107 : decode cX5_takesBehind 107 = .ok (.iconst 4, 1) := by decide +kernel
theorem dX5_takesBehind_108 : decode cX5_takesBehind 108 = .ok (.invokevirtual 76, 3) := by decide +kernel
theorem dX5_takesBehind_111 : decode cX5_takesBehind 111 = .ok (.ireturn, 1) := by decide +kernel
theorem dX5_takesBehind_112 : decode cX5_takesBehind 112 = .ok (.iload_n 2, 1) := by decide +kernel
theorem dX5_takesBehind_113 : decode cX5_takesBehind 113 = .ok (.ifCond .eq 10, 3) := by decide +kernel
theorem dX5_takesBehind_116 : decode cX5_takesBehind 116 = .ok (.aload_n 0, 1) := by decide +kernel
theorem dX5_takesBehind_117 : decode cX5_takesBehind 117 = .ok (.getfield 72, 3) := by decide +kernel
theorem dX5_takesBehind_120 : decode cX5_takesBehind 120 = .ok (.ifCond .eq 5, 3) := by decide +kernel
theorem dX5_takesBehind_123 : decode cX5_takesBehind 123 = .ok (.iconst 0, 1) := by decide +kernel
theorem dX5_takesBehind_124 : decode cX5_takesBehind 124 = .ok (.ireturn, 1) := by decide +kernel
theorem dX5_takesBehind_125 : decode cX5_takesBehind 125 = .ok (.aload_n 0, 1) := by decide +kernel
theorem dX5_takesBehind_126 : decode cX5_takesBehind 126 = .ok (.iconst 1, 1) := by decide +kernel
theorem dX5_takesBehind_127 : decode cX5_takesBehind 127 = .ok (.putfield 72, 3) := by decide +kernel
theorem dX5_takesBehind_130 : decode cX5_takesBehind 130 = .ok (.aload_n 0, 1) := by decide +kernel
theorem dX5_takesBehind_131 : decode cX5_takesBehind 131 = .ok (.iconst 1, 1) := by decide +kernel
theorem dX5_takesBehind_132 : decode cX5_takesBehind 132 = .ok (.invokevirtual 76, 3) := by decide +kernel
theorem dX5_takesBehind_135 : decode cX5_takesBehind 135 = .ok (.ireturn, 1) := by decide +kernel
theorem dX5_takesBehind_136 : decode cX5_takesBehind 136 = .ok (.iload_n 2, 1) := by decide +kernel
theorem dX5_takesBehind_137 : decode cX5_takesBehind 137 = .ok (.ifCond .eq 15, 3) := by decide +kernel
theorem dX5_takesBehind_140 : decode cX5_takesBehind 140 = .ok (.aload_n 0, 1) := by decide +kernel
theorem dX5_takesBehind_141 : decode cX5_takesBehind 141 = .ok (.iconst 0, 1) := by decide +kernel
theorem dX5_takesBehind_142 : decode cX5_takesBehind 142 = .ok (.invokevirtual 76, 3) := by decide +kernel
theorem dX5_takesBehind_145 : decode cX5_takesBehind 145 = .ok (.ifCond .eq 7, 3) := by decide +kernel
theorem dX5_takesBehind_148 : decode cX5_takesBehind 148 = .ok (.iconst 1, 1) := by decide +kernel
theorem dX5_takesBehind_149 : decode cX5_takesBehind 149 = .ok (.goto 4, 3) := by decide +kernel
theorem dX5_takesBehind_152 : decode cX5_takesBehind 152 = .ok (.iconst 0, 1) := by decide +kernel
theorem dX5_takesBehind_153 : decode cX5_takesBehind 153 = .ok (.ireturn, 1) := by decide +kernel
theorem dX5_takesBehind_154 : decode cX5_takesBehind 154 = .ok (.iload_n 1, 1) := by decide +kernel
theorem dX5_takesBehind_155 : decode cX5_takesBehind 155 = .ok (.i2l, 1) := by decide +kernel
theorem dX5_takesBehind_156 : decode cX5_takesBehind 156 = .ok (.ldc2_w 87, 3) := by decide +kernel
theorem dX5_takesBehind_159 : decode cX5_takesBehind 159 = .ok (.ldc2_w 89, 3) := by decide +kernel
theorem dX5_takesBehind_162 : decode cX5_takesBehind 162 = .ok (.invokestatic 54, 3) := by decide +kernel
theorem dX5_takesBehind_165 : decode cX5_takesBehind 165 = .ok (.ifCond .eq 36, 3) := by decide +kernel
theorem dX5_takesBehind_168 : decode cX5_takesBehind 168 = .ok (.aload_n 0, 1) := by decide +kernel
theorem dX5_takesBehind_169 : decode cX5_takesBehind 169 = .ok (.invokevirtual 91, 3) := by decide +kernel
theorem dX5_takesBehind_172 : decode cX5_takesBehind 172 = .ok (.ifCond .eq 29, 3) := by decide +kernel
theorem dX5_takesBehind_175 : decode cX5_takesBehind 175 = .ok (.iload_n 2, 1) := by decide +kernel
theorem dX5_takesBehind_176 : decode cX5_takesBehind 176 = .ok (.ifCond .eq 10, 3) := by decide +kernel
theorem dX5_takesBehind_179 : decode cX5_takesBehind 179 = .ok (.aload_n 0, 1) := by decide +kernel
theorem dX5_takesBehind_180 : decode cX5_takesBehind 180 = .ok (.getfield 72, 3) := by decide +kernel
theorem dX5_takesBehind_183 : decode cX5_takesBehind 183 = .ok (.ifCond .ne 18, 3) := by decide +kernel
theorem dX5_takesBehind_186 : decode cX5_takesBehind 186 = .ok (.aload_n 0, 1) := by decide +kernel
theorem dX5_takesBehind_187 : decode cX5_takesBehind 187 = .ok (.iload_n 1, 1) := by decide +kernel
theorem dX5_takesBehind_188 : decode cX5_takesBehind 188 = .ok (.bipush 48, 2) := by decide +kernel
theorem dX5_takesBehind_190 : decode cX5_takesBehind 190 = .ok (.isub, 1) := by decide +kernel
theorem dX5_takesBehind_191 : decode cX5_takesBehind 191 = .ok (.invokevirtual 95, 3) := by decide +kernel
theorem dX5_takesBehind_194 : decode cX5_takesBehind 194 = .ok (.ifCond .eq 7, 3) := by decide +kernel
theorem dX5_takesBehind_197 : decode cX5_takesBehind 197 = .ok (.iconst 1, 1) := by decide +kernel
theorem dX5_takesBehind_198 : decode cX5_takesBehind 198 = .ok (.goto 4, 3) := by decide +kernel
theorem dX5_takesBehind_201 : decode cX5_takesBehind 201 = .ok (.iconst 0, 1) := by decide +kernel
theorem dX5_takesBehind_202 : decode cX5_takesBehind 202 = .ok (.ireturn, 1) := by decide +kernel
theorem dX5_takesGroup_0 : decode cX5_takesGroup 0 = .ok (.iload_n 1, 1) := by decide +kernel
theorem dX5_takesGroup_1 : decode cX5_takesGroup 1 = .ok (.bipush 91, 2) := by decide +kernel
theorem dX5_takesGroup_3 : decode cX5_takesGroup 3 = .ok (.if_icmp .ne 13, 3) := by decide +kernel
theorem dX5_takesGroup_6 : decode cX5_takesGroup 6 = .ok (.aload_n 0, 1) := by decide +kernel
theorem dX5_takesGroup_7 : decode cX5_takesGroup 7 = .ok (.getfield 22, 3) := by decide +kernel
theorem dX5_takesGroup_10 : decode cX5_takesGroup 10 = .ok (.iconst 1, 1) := by decide +kernel
theorem dX5_takesGroup_11 : decode cX5_takesGroup 11 = .ok (.iaload, 1) := by decide +kernel
theorem dX5_takesGroup_12 : decode cX5_takesGroup 12 = .ok (.iconst 5, 1) := by decide +kernel
theorem dX5_takesGroup_13 : decode cX5_takesGroup 13 = .ok (.if_icmp .ne 5, 3) := by decide +kernel
theorem dX5_takesGroup_16 : decode cX5_takesGroup 16 = .ok (.iconst 0, 1) := by decide +kernel
theorem dX5_takesGroup_17 : decode cX5_takesGroup 17 = .ok (.ireturn, 1) := by decide +kernel
theorem dX5_takesGroup_18 : decode cX5_takesGroup 18 = .ok (.aload_n 0, 1) := by decide +kernel
theorem dX5_takesGroup_19 : decode cX5_takesGroup 19 = .ok (.getfield 22, 3) := by decide +kernel
theorem dX5_takesGroup_22 : decode cX5_takesGroup 22 = .ok (.iconst 1, 1) := by decide +kernel
theorem dX5_takesGroup_23 : decode cX5_takesGroup 23 = .ok (.dup2, 1) := by decide +kernel
theorem dX5_takesGroup_24 : decode cX5_takesGroup 24 = .ok (.iaload, 1) := by decide +kernel
theorem dX5_takesGroup_25 : decode cX5_takesGroup 25 = .ok (.iconst 1, 1) := by decide +kernel
theorem dX5_takesGroup_26 : decode cX5_takesGroup 26 = .ok (.iadd, 1) := by decide +kernel
theorem dX5_takesGroup_27 : decode cX5_takesGroup 27 = .ok (.iastore, 1) := by decide +kernel
theorem dX5_takesGroup_28 : decode cX5_takesGroup 28 = .ok (.aload_n 0, 1) := by decide +kernel
theorem dX5_takesGroup_29 : decode cX5_takesGroup 29 = .ok (.iconst 0, 1) := by decide +kernel
theorem dX5_takesGroup_30 : decode cX5_takesGroup 30 = .ok (.putfield 72, 3) := by decide +kernel
theorem dX5_takesGroup_33 : decode cX5_takesGroup 33 = .ok (.aload_n 0, 1) := by decide +kernel
theorem dX5_takesGroup_34 : decode cX5_takesGroup 34 = .ok (.iconst 0, 1) := by decide +kernel
theorem dX5_takesGroup_35 : decode cX5_takesGroup 35 = .ok (.putfield 69, 3) := by decide +kernel
theorem dX5_takesGroup_38 : decode cX5_takesGroup 38 = .ok (.aload_n 0, 1) := by decide +kernel
theorem dX5_takesGroup_39 : decode cX5_takesGroup 39 = .ok (.iconst 1, 1) := by decide +kernel
theorem dX5_takesGroup_40 : decode cX5_takesGroup 40 = .ok (.invokevirtual 76, 3) := by decide +kernel
theorem dX5_takesGroup_43 : decode cX5_takesGroup 43 = .ok (.ireturn, 1) := by decide +kernel
theorem dX5_takes_0 : decode cX5_takes 0 = .ok (.aload_n 0, 1) := by decide +kernel
theorem dX5_takes_1 : decode cX5_takes 1 = .ok (.getfield 66, 3) := by decide +kernel
theorem dX5_takes_4 : decode cX5_takes 4 = .ok (.tableswitch 164 0 5 #[40, 46, 84, 90, 124, 130], 40) := by decide +kernel
theorem dX5_takes_44 : decode cX5_takes 44 = .ok (.aload_n 0, 1) := by decide +kernel
theorem dX5_takes_45 : decode cX5_takes 45 = .ok (.iload_n 1, 1) := by decide +kernel
theorem dX5_takes_46 : decode cX5_takes 46 = .ok (.invokevirtual 98, 3) := by decide +kernel
theorem dX5_takes_49 : decode cX5_takes 49 = .ok (.ireturn, 1) := by decide +kernel
theorem dX5_takes_50 : decode cX5_takes 50 = .ok (.iload_n 1, 1) := by decide +kernel
theorem dX5_takes_51 : decode cX5_takes 51 = .ok (.i2l, 1) := by decide +kernel
theorem dX5_takes_52 : decode cX5_takes 52 = .ok (.ldc2_w 87, 3) := by decide +kernel
theorem dX5_takes_55 : decode cX5_takes 55 = .ok (.ldc2_w 89, 3) := by decide +kernel
theorem dX5_takes_58 : decode cX5_takes 58 = .ok (.invokestatic 54, 3) := by decide +kernel
theorem dX5_takes_61 : decode cX5_takes 61 = .ok (.ifCond .eq 25, 3) := by decide +kernel
theorem dX5_takes_64 : decode cX5_takes 64 = .ok (.aload_n 0, 1) := by decide +kernel
theorem dX5_takes_65 : decode cX5_takes 65 = .ok (.invokevirtual 91, 3) := by decide +kernel
theorem dX5_takes_68 : decode cX5_takes 68 = .ok (.ifCond .eq 18, 3) := by decide +kernel
theorem dX5_takes_71 : decode cX5_takes 71 = .ok (.aload_n 0, 1) := by decide +kernel
theorem dX5_takes_72 : decode cX5_takes 72 = .ok (.iload_n 1, 1) := by decide +kernel
theorem dX5_takes_73 : decode cX5_takes 73 = .ok (.bipush 48, 2) := by decide +kernel
theorem dX5_takes_75 : decode cX5_takes 75 = .ok (.isub, 1) := by decide +kernel
theorem dX5_takes_76 : decode cX5_takes 76 = .ok (.invokevirtual 95, 3) := by decide +kernel
theorem dX5_takes_79 : decode cX5_takes 79 = .ok (.ifCond .eq 7, 3) := by decide +kernel
theorem dX5_takes_82 : decode cX5_takes 82 = .ok (.iconst 1, 1) := by decide +kernel
theorem dX5_takes_83 : decode cX5_takes 83 = .ok (.goto 4, 3) := by decide +kernel
theorem dX5_takes_86 : decode cX5_takes 86 = .ok (.iconst 0, 1) := by decide +kernel
theorem dX5_takes_87 : decode cX5_takes 87 = .ok (.ireturn, 1) := by decide +kernel
theorem dX5_takes_88 : decode cX5_takes 88 = .ok (.aload_n 0, 1) := by decide +kernel
theorem dX5_takes_89 : decode cX5_takes 89 = .ok (.iload_n 1, 1) := by decide +kernel
theorem dX5_takes_90 : decode cX5_takes 90 = .ok (.invokevirtual 101, 3) := by decide +kernel
theorem dX5_takes_93 : decode cX5_takes 93 = .ok (.ireturn, 1) := by decide +kernel
theorem dX5_takes_94 : decode cX5_takes 94 = .ok (.iload_n 1, 1) := by decide +kernel
theorem dX5_takes_95 : decode cX5_takes 95 = .ok (.bipush 46, 2) := by decide +kernel
theorem dX5_takes_97 : decode cX5_takes 97 = .ok (.if_icmp .eq 17, 3) := by decide +kernel
theorem dX5_takes_100 : decode cX5_takes 100 = .ok (.iload_n 1, 1) := by decide +kernel
theorem dX5_takes_101 : decode cX5_takes 101 = .ok (.i2l, 1) := by decide +kernel
theorem dX5_takes_102 : decode cX5_takes 102 = .ok (.ldc2_w 104, 3) := by decide +kernel
theorem dX5_takes_105 : decode cX5_takes 105 = .ok (.ldc2_w 106, 3) := by decide +kernel
theorem dX5_takes_108 : decode cX5_takes 108 = .ok (.invokestatic 54, 3) := by decide +kernel
theorem dX5_takes_111 : decode cX5_takes 111 = .ok (.ifCond .eq 11, 3) := by decide +kernel
theorem dX5_takes_114 : decode cX5_takes 114 = .ok (.aload_n 0, 1) := by decide +kernel
theorem dX5_takes_115 : decode cX5_takes 115 = .ok (.iload_n 1, 1) := by decide +kernel
theorem dX5_takes_116 : decode cX5_takes 116 = .ok (.invokevirtual 101, 3) := by decide +kernel
theorem dX5_takes_119 : decode cX5_takes 119 = .ok (.goto 8, 3) := by decide +kernel
theorem dX5_takes_122 : decode cX5_takes 122 = .ok (.aload_n 0, 1) := by decide +kernel
theorem dX5_takes_123 : decode cX5_takes 123 = .ok (.iload_n 1, 1) := by decide +kernel
theorem dX5_takes_124 : decode cX5_takes 124 = .ok (.invokevirtual 108, 3) := by decide +kernel
theorem dX5_takes_127 : decode cX5_takes 127 = .ok (.ireturn, 1) := by decide +kernel
theorem dX5_takes_128 : decode cX5_takes 128 = .ok (.aload_n 0, 1) := by decide +kernel
theorem dX5_takes_129 : decode cX5_takes 129 = .ok (.iload_n 1, 1) := by decide +kernel
theorem dX5_takes_130 : decode cX5_takes 130 = .ok (.invokevirtual 108, 3) := by decide +kernel
theorem dX5_takes_133 : decode cX5_takes 133 = .ok (.ireturn, 1) := by decide +kernel
theorem dX5_takes_134 : decode cX5_takes 134 = .ok (.iload_n 1, 1) := by decide +kernel
theorem dX5_takes_135 : decode cX5_takes 135 = .ok (.i2l, 1) := by decide +kernel
theorem dX5_takes_136 : decode cX5_takes 136 = .ok (.ldc2_w 111, 3) := by decide +kernel
theorem dX5_takes_139 : decode cX5_takes 139 = .ok (.ldc2_w 89, 3) := by decide +kernel
theorem dX5_takes_142 : decode cX5_takes 142 = .ok (.invokestatic 54, 3) := by decide +kernel
theorem dX5_takes_145 : decode cX5_takes 145 = .ok (.ifCond .eq 21, 3) := by decide +kernel
theorem dX5_takes_148 : decode cX5_takes 148 = .ok (.aload_n 0, 1) := by decide +kernel
theorem dX5_takes_149 : decode cX5_takes 149 = .ok (.bipush 10, 2) := by decide +kernel
theorem dX5_takes_151 : decode cX5_takes 151 = .ok (.iload_n 1, 1) := by decide +kernel
theorem dX5_takes_152 : decode cX5_takes 152 = .ok (.iadd, 1) := by decide +kernel
theorem dX5_takes_153 : decode cX5_takes 153 = .ok (.bipush 48, 2) := by decide +kernel
theorem dX5_takes_155 : decode cX5_takes 155 = .ok (.isub, 1) := by decide +kernel
theorem dX5_takes_156 : decode cX5_takes 156 = .ok (.invokevirtual 84, 3) := by decide +kernel
theorem dX5_takes_159 : decode cX5_takes 159 = .ok (.ifCond .eq 7, 3) := by decide +kernel
theorem dX5_takes_162 : decode cX5_takes 162 = .ok (.iconst 1, 1) := by decide +kernel
theorem dX5_takes_163 : decode cX5_takes 163 = .ok (.goto 4, 3) := by decide +kernel
theorem dX5_takes_166 : decode cX5_takes 166 = .ok (.iconst 0, 1) := by decide +kernel
theorem dX5_takes_167 : decode cX5_takes 167 = .ok (.ireturn, 1) := by decide +kernel
theorem dX5_takes_168 : decode cX5_takes 168 = .ok (.iload_n 1, 1) := by decide +kernel
theorem dX5_takes_169 : decode cX5_takes 169 = .ok (.i2l, 1) := by decide +kernel
theorem dX5_takes_170 : decode cX5_takes 170 = .ok (.ldc2_w 113, 3) := by decide +kernel
theorem dX5_takes_173 : decode cX5_takes 173 = .ok (.ldc2_w 89, 3) := by decide +kernel
theorem dX5_takes_176 : decode cX5_takes 176 = .ok (.invokestatic 54, 3) := by decide +kernel
theorem dX5_takes_179 : decode cX5_takes 179 = .ok (.ifCond .eq 21, 3) := by decide +kernel
theorem dX5_takes_182 : decode cX5_takes 182 = .ok (.aload_n 0, 1) := by decide +kernel
theorem dX5_takes_183 : decode cX5_takes 183 = .ok (.bipush 20, 2) := by decide +kernel
theorem dX5_takes_185 : decode cX5_takes 185 = .ok (.iload_n 1, 1) := by decide +kernel
theorem dX5_takes_186 : decode cX5_takes 186 = .ok (.iadd, 1) := by decide +kernel
theorem dX5_takes_187 : decode cX5_takes 187 = .ok (.bipush 48, 2) := by decide +kernel
theorem dX5_takes_189 : decode cX5_takes 189 = .ok (.isub, 1) := by decide +kernel
theorem dX5_takes_190 : decode cX5_takes 190 = .ok (.invokevirtual 84, 3) := by decide +kernel
theorem dX5_takes_193 : decode cX5_takes 193 = .ok (.ifCond .eq 7, 3) := by decide +kernel
theorem dX5_takes_196 : decode cX5_takes 196 = .ok (.iconst 1, 1) := by decide +kernel
theorem dX5_takes_197 : decode cX5_takes 197 = .ok (.goto 4, 3) := by decide +kernel
theorem dX5_takes_200 : decode cX5_takes 200 = .ok (.iconst 0, 1) := by decide +kernel
theorem dX5_takes_201 : decode cX5_takes 201 = .ok (.ireturn, 1) := by decide +kernel
theorem dX5_fault_0 : decode cX5_fault 0 = .ok (.iconst 0, 1) := by decide +kernel
theorem dX5_fault_1 : decode cX5_fault 1 = .ok (.istore_n 1, 1) := by decide +kernel
theorem dX5_fault_2 : decode cX5_fault 2 = .ok (.iload_n 1, 1) := by decide +kernel
theorem dX5_fault_3 : decode cX5_fault 3 = .ok (.sipush 162, 3) := by decide +kernel
theorem dX5_fault_6 : decode cX5_fault 6 = .ok (.if_icmp .ge 16, 3) := by decide +kernel
theorem dX5_fault_9 : decode cX5_fault 9 = .ok (.aload_n 0, 1) := by decide +kernel
theorem dX5_fault_10 : decode cX5_fault 10 = .ok (.getfield 22, 3) := by decide +kernel
theorem dX5_fault_13 : decode cX5_fault 13 = .ok (.iload_n 1, 1) := by decide +kernel
theorem dX5_fault_14 : decode cX5_fault 14 = .ok (.iconst 0, 1) := by decide +kernel
theorem dX5_fault_15 : decode cX5_fault 15 = .ok (.iastore, 1) := by decide +kernel
theorem dX5_fault_16 : decode cX5_fault 16 = .ok (.iinc 1 1, 3) := by decide +kernel
theorem dX5_fault_19 : decode cX5_fault 19 = .ok (.goto (-17), 3) := by decide +kernel
theorem dX5_fault_22 : decode cX5_fault 22 = .ok (.aload_n 0, 1) := by decide +kernel
theorem dX5_fault_23 : decode cX5_fault 23 = .ok (.iconst 0, 1) := by decide +kernel
theorem dX5_fault_24 : decode cX5_fault 24 = .ok (.putfield 66, 3) := by decide +kernel
theorem dX5_fault_27 : decode cX5_fault 27 = .ok (.iconst 0, 1) := by decide +kernel
theorem dX5_fault_28 : decode cX5_fault 28 = .ok (.istore_n 1, 1) := by decide +kernel
theorem dX5_fault_29 : decode cX5_fault 29 = .ok (.iload_n 1, 1) := by decide +kernel
theorem dX5_fault_30 : decode cX5_fault 30 = .ok (.aload_n 0, 1) := by decide +kernel
theorem dX5_fault_31 : decode cX5_fault 31 = .ok (.getfield 62, 3) := by decide +kernel
theorem dX5_fault_34 : decode cX5_fault 34 = .ok (.if_icmp .ge 24, 3) := by decide +kernel
theorem dX5_fault_37 : decode cX5_fault 37 = .ok (.aload_n 0, 1) := by decide +kernel
theorem dX5_fault_38 : decode cX5_fault 38 = .ok (.aload_n 0, 1) := by decide +kernel
theorem dX5_fault_39 : decode cX5_fault 39 = .ok (.getfield 19, 3) := by decide +kernel
theorem dX5_fault_42 : decode cX5_fault 42 = .ok (.iload_n 1, 1) := by decide +kernel
theorem dX5_fault_43 : decode cX5_fault 43 = .ok (.iaload, 1) := by decide +kernel
theorem dX5_fault_44 : decode cX5_fault 44 = .ok (.invokevirtual 115, 3) := by decide +kernel
theorem dX5_fault_47 : decode cX5_fault 47 = .ok (.ifCond .ne 5, 3) := by decide +kernel
theorem dX5_fault_50 : decode cX5_fault 50 = .ok (.iload_n 1, 1) := by decide +kernel
theorem dX5_fault_51 : decode cX5_fault 51 = .ok (.ireturn, 1) := by decide +kernel
theorem dX5_fault_52 : decode cX5_fault 52 = .ok (.iinc 1 1, 3) := by decide +kernel
theorem dX5_fault_55 : decode cX5_fault 55 = .ok (.goto (-26), 3) := by decide +kernel
theorem dX5_fault_58 : decode cX5_fault 58 = .ok (.aload_n 0, 1) := by decide +kernel
theorem dX5_fault_59 : decode cX5_fault 59 = .ok (.getfield 66, 3) := by decide +kernel
theorem dX5_fault_62 : decode cX5_fault 62 = .ok (.ifCond .ne 8, 3) := by decide +kernel
theorem dX5_fault_65 : decode cX5_fault 65 = .ok (.bipush (-4), 2) := by decide +kernel
theorem dX5_fault_67 : decode cX5_fault 67 = .ok (.goto 7, 3) := by decide +kernel
theorem dX5_fault_70 : decode cX5_fault 70 = .ok (.aload_n 0, 1) := by decide +kernel
theorem dX5_fault_71 : decode cX5_fault 71 = .ok (.getfield 62, 3) := by decide +kernel
theorem dX5_fault_74 : decode cX5_fault 74 = .ok (.ireturn, 1) := by decide +kernel
theorem dX5_copies_0 : decode cX5_copies 0 = .ok (.iconst 0, 1) := by decide +kernel
theorem dX5_copies_1 : decode cX5_copies 1 = .ok (.istore 4, 2) := by decide +kernel
theorem dX5_copies_3 : decode cX5_copies 3 = .ok (.iload 4, 2) := by decide +kernel
theorem dX5_copies_5 : decode cX5_copies 5 = .ok (.sipush 162, 3) := by decide +kernel
theorem dX5_copies_8 : decode cX5_copies 8 = .ok (.if_icmp .ge 21, 3) := by decide +kernel
theorem dX5_copies_11 : decode cX5_copies 11 = .ok (.aload_n 2, 1) := by decide +kernel
theorem dX5_copies_12 : decode cX5_copies 12 = .ok (.iload_n 3, 1) := by decide +kernel
theorem dX5_copies_13 : decode cX5_copies 13 = .ok (.iload 4, 2) := by decide +kernel
theorem dX5_copies_15 : decode cX5_copies 15 = .ok (.iadd, 1) := by decide +kernel
theorem dX5_copies_16 : decode cX5_copies 16 = .ok (.aload_n 0, 1) := by decide +kernel
theorem dX5_copies_17 : decode cX5_copies 17 = .ok (.iload_n 1, 1) := by decide +kernel
theorem dX5_copies_18 : decode cX5_copies 18 = .ok (.iload 4, 2) := by decide +kernel
theorem dX5_copies_20 : decode cX5_copies 20 = .ok (.iadd, 1) := by decide +kernel
theorem dX5_copies_21 : decode cX5_copies 21 = .ok (.iaload, 1) := by decide +kernel
theorem dX5_copies_22 : decode cX5_copies 22 = .ok (.iastore, 1) := by decide +kernel
theorem dX5_copies_23 : decode cX5_copies 23 = .ok (.iinc 4 1, 3) := by decide +kernel
theorem dX5_copies_26 : decode cX5_copies 26 = .ok (.goto (-23), 3) := by decide +kernel
theorem dX5_copies_29 : decode cX5_copies 29 = .ok (.return_, 1) := by decide +kernel
theorem dX5_begins_0 : decode cX5_begins 0 = .ok (.aload_n 0, 1) := by decide +kernel
theorem dX5_begins_1 : decode cX5_begins 1 = .ok (.getfield 22, 3) := by decide +kernel
theorem dX5_begins_4 : decode cX5_begins 4 = .ok (.iconst 0, 1) := by decide +kernel
theorem dX5_begins_5 : decode cX5_begins 5 = .ok (.aload_n 0, 1) := by decide +kernel
theorem dX5_begins_6 : decode cX5_begins 6 = .ok (.getfield 7, 3) := by decide +kernel
theorem dX5_begins_9 : decode cX5_begins 9 = .ok (.iconst 0, 1) := by decide +kernel
theorem dX5_begins_10 : decode cX5_begins 10 = .ok (.invokestatic 118, 3) := by decide +kernel
theorem dX5_begins_13 : decode cX5_begins 13 = .ok (.aload_n 0, 1) := by decide +kernel
theorem dX5_begins_14 : decode cX5_begins 14 = .ok (.iconst 0, 1) := by decide +kernel
theorem dX5_begins_15 : decode cX5_begins 15 = .ok (.putfield 122, 3) := by decide +kernel
theorem dX5_begins_18 : decode cX5_begins 18 = .ok (.aload_n 0, 1) := by decide +kernel
theorem dX5_begins_19 : decode cX5_begins 19 = .ok (.iconst 0, 1) := by decide +kernel
theorem dX5_begins_20 : decode cX5_begins 20 = .ok (.putfield 125, 3) := by decide +kernel
theorem dX5_begins_23 : decode cX5_begins 23 = .ok (.return_, 1) := by decide +kernel
theorem dX5_lay_0 : decode cX5_lay 0 = .ok (.aload_n 0, 1) := by decide +kernel
theorem dX5_lay_1 : decode cX5_lay 1 = .ok (.invokevirtual 128, 3) := by decide +kernel
theorem dX5_lay_4 : decode cX5_lay 4 = .ok (.bipush (-4), 2) := by decide +kernel
theorem dX5_lay_6 : decode cX5_lay 6 = .ok (.if_icmp .ne 10, 3) := by decide +kernel
theorem dX5_lay_9 : decode cX5_lay 9 = .ok (.aload_n 0, 1) := by decide +kernel
theorem dX5_lay_10 : decode cX5_lay 10 = .ok (.getfield 62, 3) := by decide +kernel
theorem dX5_lay_13 : decode cX5_lay 13 = .ok (.ifCond .ne 6, 3) := by decide +kernel
theorem dX5_lay_16 : decode cX5_lay 16 = .ok (.bipush (-2), 2) := by decide +kernel
theorem dX5_lay_18 : decode cX5_lay 18 = .ok (.ireturn, 1) := by decide +kernel
theorem dX5_lay_19 : decode cX5_lay 19 = .ok (.aload_n 0, 1) := by decide +kernel
theorem dX5_lay_20 : decode cX5_lay 20 = .ok (.invokevirtual 51, 3) := by decide +kernel
theorem dX5_lay_23 : decode cX5_lay 23 = .ok (.aload_n 0, 1) := by decide +kernel
theorem dX5_lay_24 : decode cX5_lay 24 = .ok (.getfield 7, 3) := by decide +kernel
theorem dX5_lay_27 : decode cX5_lay 27 = .ok (.iconst 0, 1) := by decide +kernel
theorem dX5_lay_28 : decode cX5_lay 28 = .ok (.iaload, 1) := by decide +kernel
theorem dX5_lay_29 : decode cX5_lay 29 = .ok (.ireturn, 1) := by decide +kernel
theorem dX5_isCord_0 : decode cX5_isCord 0 = .ok (.iload_n 1, 1) := by decide +kernel
theorem dX5_isCord_1 : decode cX5_isCord 1 = .ok (.i2l, 1) := by decide +kernel
theorem dX5_isCord_2 : decode cX5_isCord 2 = .ok (.lconst 0, 1) := by decide +kernel
theorem dX5_isCord_3 : decode cX5_isCord 3 = .ok (.aload_n 0, 1) := by decide +kernel
theorem dX5_isCord_4 : decode cX5_isCord 4 = .ok (.getfield 7, 3) := by decide +kernel
theorem dX5_isCord_7 : decode cX5_isCord 7 = .ok (.iconst 0, 1) := by decide +kernel
theorem dX5_isCord_8 : decode cX5_isCord 8 = .ok (.iaload, 1) := by decide +kernel
theorem dX5_isCord_9 : decode cX5_isCord 9 = .ok (.iconst 1, 1) := by decide +kernel
theorem dX5_isCord_10 : decode cX5_isCord 10 = .ok (.isub, 1) := by decide +kernel
theorem dX5_isCord_11 : decode cX5_isCord 11 = .ok (.i2l, 1) := by decide +kernel
theorem dX5_isCord_12 : decode cX5_isCord 12 = .ok (.invokestatic 54, 3) := by decide +kernel
theorem dX5_isCord_15 : decode cX5_isCord 15 = .ok (.ireturn, 1) := by decide +kernel
theorem dX5_isGroup_0 : decode cX5_isGroup 0 = .ok (.iload_n 1, 1) := by decide +kernel
theorem dX5_isGroup_1 : decode cX5_isGroup 1 = .ok (.i2l, 1) := by decide +kernel
theorem dX5_isGroup_2 : decode cX5_isGroup 2 = .ok (.lconst 0, 1) := by decide +kernel
theorem dX5_isGroup_3 : decode cX5_isGroup 3 = .ok (.aload_n 0, 1) := by decide +kernel
theorem dX5_isGroup_4 : decode cX5_isGroup 4 = .ok (.getfield 7, 3) := by decide +kernel
theorem dX5_isGroup_7 : decode cX5_isGroup 7 = .ok (.iconst 1, 1) := by decide +kernel
theorem dX5_isGroup_8 : decode cX5_isGroup 8 = .ok (.iaload, 1) := by decide +kernel
theorem dX5_isGroup_9 : decode cX5_isGroup 9 = .ok (.iconst 1, 1) := by decide +kernel
theorem dX5_isGroup_10 : decode cX5_isGroup 10 = .ok (.isub, 1) := by decide +kernel
theorem dX5_isGroup_11 : decode cX5_isGroup 11 = .ok (.i2l, 1) := by decide +kernel
theorem dX5_isGroup_12 : decode cX5_isGroup 12 = .ok (.invokestatic 54, 3) := by decide +kernel
theorem dX5_isGroup_15 : decode cX5_isGroup 15 = .ok (.ireturn, 1) := by decide +kernel
theorem dX5_isPendant_0 : decode cX5_isPendant 0 = .ok (.aload_n 0, 1) := by decide +kernel
theorem dX5_isPendant_1 : decode cX5_isPendant 1 = .ok (.getfield 7, 3) := by decide +kernel
theorem dX5_isPendant_4 : decode cX5_isPendant 4 = .ok (.bipush 98, 2) := by decide +kernel
theorem dX5_isPendant_6 : decode cX5_isPendant 6 = .ok (.iload_n 1, 1) := by decide +kernel
theorem dX5_isPendant_7 : decode cX5_isPendant 7 = .ok (.iadd, 1) := by decide +kernel
theorem dX5_isPendant_8 : decode cX5_isPendant 8 = .ok (.iaload, 1) := by decide +kernel
theorem dX5_isPendant_9 : decode cX5_isPendant 9 = .ok (.ifCond .ge 7, 3) := by decide +kernel
theorem dX5_isPendant_12 : decode cX5_isPendant 12 = .ok (.iconst 1, 1) := by decide +kernel
theorem dX5_isPendant_13 : decode cX5_isPendant 13 = .ok (.goto 4, 3) := by decide +kernel
theorem dX5_isPendant_16 : decode cX5_isPendant 16 = .ok (.iconst 0, 1) := by decide +kernel
theorem dX5_isPendant_17 : decode cX5_isPendant 17 = .ok (.ireturn, 1) := by decide +kernel
theorem dX5_isPlain_0 : decode cX5_isPlain 0 = .ok (.aload_n 0, 1) := by decide +kernel
theorem dX5_isPlain_1 : decode cX5_isPlain 1 = .ok (.iload_n 1, 1) := by decide +kernel
theorem dX5_isPlain_2 : decode cX5_isPlain 2 = .ok (.invokevirtual 131, 3) := by decide +kernel
theorem dX5_isPlain_5 : decode cX5_isPlain 5 = .ok (.ifCond .eq 20, 3) := by decide +kernel
theorem dX5_isPlain_8 : decode cX5_isPlain 8 = .ok (.aload_n 0, 1) := by decide +kernel
theorem dX5_isPlain_9 : decode cX5_isPlain 9 = .ok (.getfield 7, 3) := by decide +kernel
theorem dX5_isPlain_12 : decode cX5_isPlain 12 = .ok (.sipush 130, 3) := by decide +kernel
theorem dX5_isPlain_15 : decode cX5_isPlain 15 = .ok (.iload_n 1, 1) := by decide +kernel
theorem dX5_isPlain_16 : decode cX5_isPlain 16 = .ok (.iadd, 1) := by decide +kernel
theorem dX5_isPlain_17 : decode cX5_isPlain 17 = .ok (.iaload, 1) := by decide +kernel
theorem dX5_isPlain_18 : decode cX5_isPlain 18 = .ok (.ifCond .ne 7, 3) := by decide +kernel
theorem dX5_isPlain_21 : decode cX5_isPlain 21 = .ok (.iconst 1, 1) := by decide +kernel
theorem dX5_isPlain_22 : decode cX5_isPlain 22 = .ok (.goto 4, 3) := by decide +kernel
theorem dX5_isPlain_25 : decode cX5_isPlain 25 = .ok (.iconst 0, 1) := by decide +kernel
theorem dX5_isPlain_26 : decode cX5_isPlain 26 = .ok (.ireturn, 1) := by decide +kernel
theorem dX5_knot0_0 : decode cX5_knot0 0 = .ok (.aload_n 0, 1) := by decide +kernel
theorem dX5_knot0_1 : decode cX5_knot0 1 = .ok (.getfield 7, 3) := by decide +kernel
theorem dX5_knot0_4 : decode cX5_knot0 4 = .ok (.bipush 34, 2) := by decide +kernel
theorem dX5_knot0_6 : decode cX5_knot0 6 = .ok (.iconst 4, 1) := by decide +kernel
theorem dX5_knot0_7 : decode cX5_knot0 7 = .ok (.iload_n 1, 1) := by decide +kernel
theorem dX5_knot0_8 : decode cX5_knot0 8 = .ok (.imul, 1) := by decide +kernel
theorem dX5_knot0_9 : decode cX5_knot0 9 = .ok (.iadd, 1) := by decide +kernel
theorem dX5_knot0_10 : decode cX5_knot0 10 = .ok (.iload_n 2, 1) := by decide +kernel
theorem dX5_knot0_11 : decode cX5_knot0 11 = .ok (.iadd, 1) := by decide +kernel
theorem dX5_knot0_12 : decode cX5_knot0 12 = .ok (.iaload, 1) := by decide +kernel
theorem dX5_knot0_13 : decode cX5_knot0 13 = .ok (.ireturn, 1) := by decide +kernel
theorem dX5_told_0 : decode cX5_told 0 = .ok (.aload_n 0, 1) := by decide +kernel
theorem dX5_told_1 : decode cX5_told 1 = .ok (.getfield 7, 3) := by decide +kernel
theorem dX5_told_4 : decode cX5_told 4 = .ok (.bipush 18, 2) := by decide +kernel
theorem dX5_told_6 : decode cX5_told 6 = .ok (.iload_n 1, 1) := by decide +kernel
theorem dX5_told_7 : decode cX5_told 7 = .ok (.iadd, 1) := by decide +kernel
theorem dX5_told_8 : decode cX5_told 8 = .ok (.iaload, 1) := by decide +kernel
theorem dX5_told_9 : decode cX5_told 9 = .ok (.istore_n 3, 1) := by decide +kernel
theorem dX5_told_10 : decode cX5_told 10 = .ok (.iconst 0, 1) := by decide +kernel
theorem dX5_told_11 : decode cX5_told 11 = .ok (.istore 4, 2) := by decide +kernel
theorem dX5_told_13 : decode cX5_told 13 = .ok (.iconst 1, 1) := by decide +kernel
theorem dX5_told_14 : decode cX5_told 14 = .ok (.istore 5, 2) := by decide +kernel
theorem dX5_told_16 : decode cX5_told 16 = .ok (.iconst 0, 1) := by decide +kernel
theorem dX5_told_17 : decode cX5_told 17 = .ok (.istore 6, 2) := by decide +kernel
theorem dX5_told_19 : decode cX5_told 19 = .ok (.iload 6, 2) := by decide +kernel
theorem dX5_told_21 : decode cX5_told 21 = .ok (.iload_n 3, 1) := by decide +kernel
theorem dX5_told_22 : decode cX5_told 22 = .ok (.if_icmp .ge 83, 3) := by decide +kernel
theorem dX5_told_25 : decode cX5_told 25 = .ok (.aload_n 0, 1) := by decide +kernel
theorem dX5_told_26 : decode cX5_told 26 = .ok (.iload_n 1, 1) := by decide +kernel
theorem dX5_told_27 : decode cX5_told 27 = .ok (.iload_n 2, 1) := by decide +kernel
theorem dX5_told_28 : decode cX5_told 28 = .ok (.ifCond .eq 12, 3) := by decide +kernel
theorem dX5_told_31 : decode cX5_told 31 = .ok (.iload_n 3, 1) := by decide +kernel
theorem dX5_told_32 : decode cX5_told 32 = .ok (.iconst 1, 1) := by decide +kernel
theorem dX5_told_33 : decode cX5_told 33 = .ok (.isub, 1) := by decide +kernel
theorem dX5_told_34 : decode cX5_told 34 = .ok (.iload 6, 2) := by decide +kernel
theorem dX5_told_36 : decode cX5_told 36 = .ok (.isub, 1) := by decide +kernel
theorem dX5_told_37 : decode cX5_told 37 = .ok (.goto 5, 3) := by decide +kernel
theorem dX5_told_40 : decode cX5_told 40 = .ok (.iload 6, 2) := by decide +kernel
theorem dX5_told_42 : decode cX5_told 42 = .ok (.invokevirtual 134, 3) := by decide +kernel
theorem dX5_told_45 : decode cX5_told 45 = .ok (.istore 7, 2) := by decide +kernel
theorem dX5_told_47 : decode cX5_told 47 = .ok (.iload 7, 2) := by decide +kernel
theorem dX5_told_49 : decode cX5_told 49 = .ok (.bipush 10, 2) := by decide +kernel
theorem dX5_told_51 : decode cX5_told 51 = .ok (.idiv, 1) := by decide +kernel
theorem dX5_told_52 : decode cX5_told 52 = .ok (.istore 8, 2) := by decide +kernel
theorem dX5_told_54 : decode cX5_told 54 = .ok (.iload 8, 2) := by decide +kernel
theorem dX5_told_56 : decode cX5_told 56 = .ok (.iconst 1, 1) := by decide +kernel
theorem dX5_told_57 : decode cX5_told 57 = .ok (.if_icmp .ne 8, 3) := by decide +kernel
theorem dX5_told_60 : decode cX5_told 60 = .ok (.iload 6, 2) := by decide +kernel
theorem dX5_told_62 : decode cX5_told 62 = .ok (.ifCond .eq 14, 3) := by decide +kernel
theorem dX5_told_65 : decode cX5_told 65 = .ok (.iload 8, 2) := by decide +kernel
theorem dX5_told_67 : decode cX5_told 67 = .ok (.iconst 1, 1) := by decide +kernel
theorem dX5_told_68 : decode cX5_told 68 = .ok (.if_icmp .le 11, 3) := by decide +kernel
theorem dX5_told_71 : decode cX5_told 71 = .ok (.iload 6, 2) := by decide +kernel
theorem dX5_told_73 : decode cX5_told 73 = .ok (.ifCond .le 6, 3) := by decide +kernel
theorem dX5_told_76 : decode cX5_told 76 = .ok (.bipush (-4), 2) := by decide +kernel
theorem dX5_told_78 : decode cX5_told 78 = .ok (.ireturn, 1) := by decide +kernel
theorem dX5_told_79 : decode cX5_told 79 = .ok (.iload 4, 2) := by decide +kernel
theorem dX5_told_81 : decode cX5_told 81 = .ok (.iload 7, 2) := by decide +kernel
theorem dX5_told_83 : decode cX5_told 83 = .ok (.bipush 10, 2) := by decide +kernel
theorem dX5_told_85 : decode cX5_told 85 = .ok (.irem, 1) := by decide +kernel
theorem dX5_told_86 : decode cX5_told 86 = .ok (.iload 5, 2) := by decide +kernel
theorem dX5_told_88 : decode cX5_told 88 = .ok (.imul, 1) := by decide +kernel
theorem dX5_told_89 : decode cX5_told 89 = .ok (.iadd, 1) := by decide +kernel
theorem dX5_told_90 : decode cX5_told 90 = .ok (.istore 4, 2) := by decide +kernel
theorem dX5_told_92 : decode cX5_told 92 = .ok (.iload 5, 2) := by decide +kernel
theorem dX5_told_94 : decode cX5_told 94 = .ok (.bipush 10, 2) := by decide +kernel
theorem dX5_told_96 : decode cX5_told 96 = .ok (.imul, 1) := by decide +kernel
theorem dX5_told_97 : decode cX5_told 97 = .ok (.istore 5, 2) := by decide +kernel
theorem dX5_told_99 : decode cX5_told 99 = .ok (.iinc 6 1, 3) := by decide +kernel
theorem dX5_told_102 : decode cX5_told 102 = .ok (.goto (-83), 3) := by decide +kernel
theorem dX5_told_105 : decode cX5_told 105 = .ok (.iload 4, 2) := by decide +kernel
theorem dX5_told_107 : decode cX5_told 107 = .ok (.ireturn, 1) := by decide +kernel
theorem dX5_value_0 : decode cX5_value 0 = .ok (.aload_n 0, 1) := by decide +kernel
theorem dX5_value_1 : decode cX5_value 1 = .ok (.iload_n 1, 1) := by decide +kernel
theorem dX5_value_2 : decode cX5_value 2 = .ok (.iconst 0, 1) := by decide +kernel
theorem dX5_value_3 : decode cX5_value 3 = .ok (.invokevirtual 138, 3) := by decide +kernel
theorem dX5_value_6 : decode cX5_value 6 = .ok (.ireturn, 1) := by decide +kernel
theorem dX5_isUnder_0 : decode cX5_isUnder 0 = .ok (.aload_n 0, 1) := by decide +kernel
theorem dX5_isUnder_1 : decode cX5_isUnder 1 = .ok (.getfield 7, 3) := by decide +kernel
theorem dX5_isUnder_4 : decode cX5_isUnder 4 = .ok (.bipush 98, 2) := by decide +kernel
theorem dX5_isUnder_6 : decode cX5_isUnder 6 = .ok (.iload_n 1, 1) := by decide +kernel
theorem dX5_isUnder_7 : decode cX5_isUnder 7 = .ok (.iadd, 1) := by decide +kernel
theorem dX5_isUnder_8 : decode cX5_isUnder 8 = .ok (.iaload, 1) := by decide +kernel
theorem dX5_isUnder_9 : decode cX5_isUnder 9 = .ok (.istore_n 3, 1) := by decide +kernel
theorem dX5_isUnder_10 : decode cX5_isUnder 10 = .ok (.iload_n 3, 1) := by decide +kernel
theorem dX5_isUnder_11 : decode cX5_isUnder 11 = .ok (.iload_n 2, 1) := by decide +kernel
theorem dX5_isUnder_12 : decode cX5_isUnder 12 = .ok (.if_icmp .eq 20, 3) := by decide +kernel
theorem dX5_isUnder_15 : decode cX5_isUnder 15 = .ok (.iload_n 3, 1) := by decide +kernel
theorem dX5_isUnder_16 : decode cX5_isUnder 16 = .ok (.ifCond .lt 20, 3) := by decide +kernel
theorem dX5_isUnder_19 : decode cX5_isUnder 19 = .ok (.aload_n 0, 1) := by decide +kernel
theorem dX5_isUnder_20 : decode cX5_isUnder 20 = .ok (.getfield 7, 3) := by decide +kernel
theorem dX5_isUnder_23 : decode cX5_isUnder 23 = .ok (.bipush 98, 2) := by decide +kernel
theorem dX5_isUnder_25 : decode cX5_isUnder 25 = .ok (.iload_n 3, 1) := by decide +kernel
theorem dX5_isUnder_26 : decode cX5_isUnder 26 = .ok (.iadd, 1) := by decide +kernel
theorem dX5_isUnder_27 : decode cX5_isUnder 27 = .ok (.iaload, 1) := by decide +kernel
theorem dX5_isUnder_28 : decode cX5_isUnder 28 = .ok (.iload_n 2, 1) := by decide +kernel
theorem dX5_isUnder_29 : decode cX5_isUnder 29 = .ok (.if_icmp .ne 7, 3) := by decide +kernel
theorem dX5_isUnder_32 : decode cX5_isUnder 32 = .ok (.iconst 1, 1) := by decide +kernel
theorem dX5_isUnder_33 : decode cX5_isUnder 33 = .ok (.goto 4, 3) := by decide +kernel
theorem dX5_isUnder_36 : decode cX5_isUnder 36 = .ok (.iconst 0, 1) := by decide +kernel
theorem dX5_isUnder_37 : decode cX5_isUnder 37 = .ok (.ireturn, 1) := by decide +kernel
theorem dX5_beneath_0 : decode cX5_beneath 0 = .ok (.iconst 0, 1) := by decide +kernel
theorem dX5_beneath_1 : decode cX5_beneath 1 = .ok (.istore_n 2, 1) := by decide +kernel
theorem dX5_beneath_2 : decode cX5_beneath 2 = .ok (.iconst 0, 1) := by decide +kernel
theorem dX5_beneath_3 : decode cX5_beneath 3 = .ok (.istore_n 3, 1) := by decide +kernel
theorem dX5_beneath_4 : decode cX5_beneath 4 = .ok (.iload_n 3, 1) := by decide +kernel
theorem dX5_beneath_5 : decode cX5_beneath 5 = .ok (.aload_n 0, 1) := by decide +kernel
theorem dX5_beneath_6 : decode cX5_beneath 6 = .ok (.getfield 7, 3) := by decide +kernel
theorem dX5_beneath_9 : decode cX5_beneath 9 = .ok (.iconst 0, 1) := by decide +kernel
theorem dX5_beneath_10 : decode cX5_beneath 10 = .ok (.iaload, 1) := by decide +kernel
theorem dX5_beneath_11 : decode cX5_beneath 11 = .ok (.if_icmp .ge 39, 3) := by decide +kernel
theorem dX5_beneath_14 : decode cX5_beneath 14 = .ok (.aload_n 0, 1) := by decide +kernel
theorem dX5_beneath_15 : decode cX5_beneath 15 = .ok (.iload_n 3, 1) := by decide +kernel
theorem dX5_beneath_16 : decode cX5_beneath 16 = .ok (.iload_n 1, 1) := by decide +kernel
theorem dX5_beneath_17 : decode cX5_beneath 17 = .ok (.invokevirtual 142, 3) := by decide +kernel
theorem dX5_beneath_20 : decode cX5_beneath 20 = .ok (.ifCond .eq 24, 3) := by decide +kernel
theorem dX5_beneath_23 : decode cX5_beneath 23 = .ok (.aload_n 0, 1) := by decide +kernel
theorem dX5_beneath_24 : decode cX5_beneath 24 = .ok (.iload_n 3, 1) := by decide +kernel
theorem dX5_beneath_25 : decode cX5_beneath 25 = .ok (.invokevirtual 146, 3) := by decide +kernel
theorem dX5_beneath_28 : decode cX5_beneath 28 = .ok (.bipush (-4), 2) := by decide +kernel
theorem dX5_beneath_30 : decode cX5_beneath 30 = .ok (.if_icmp .ne 6, 3) := by decide +kernel
theorem dX5_beneath_33 : decode cX5_beneath 33 = .ok (.bipush (-4), 2) := by decide +kernel
theorem dX5_beneath_35 : decode cX5_beneath 35 = .ok (.ireturn, 1) := by decide +kernel
theorem dX5_beneath_36 : decode cX5_beneath 36 = .ok (.iload_n 2, 1) := by decide +kernel
theorem dX5_beneath_37 : decode cX5_beneath 37 = .ok (.aload_n 0, 1) := by decide +kernel
theorem dX5_beneath_38 : decode cX5_beneath 38 = .ok (.iload_n 3, 1) := by decide +kernel
theorem dX5_beneath_39 : decode cX5_beneath 39 = .ok (.invokevirtual 146, 3) := by decide +kernel
theorem dX5_beneath_42 : decode cX5_beneath 42 = .ok (.iadd, 1) := by decide +kernel
theorem dX5_beneath_43 : decode cX5_beneath 43 = .ok (.istore_n 2, 1) := by decide +kernel
theorem dX5_beneath_44 : decode cX5_beneath 44 = .ok (.iinc 3 1, 3) := by decide +kernel
theorem dX5_beneath_47 : decode cX5_beneath 47 = .ok (.goto (-43), 3) := by decide +kernel
theorem dX5_beneath_50 : decode cX5_beneath 50 = .ok (.iload_n 2, 1) := by decide +kernel
theorem dX5_beneath_51 : decode cX5_beneath 51 = .ok (.ireturn, 1) := by decide +kernel
theorem dX5_whole_0 : decode cX5_whole 0 = .ok (.aload_n 0, 1) := by decide +kernel
theorem dX5_whole_1 : decode cX5_whole 1 = .ok (.iload_n 1, 1) := by decide +kernel
theorem dX5_whole_2 : decode cX5_whole 2 = .ok (.invokevirtual 146, 3) := by decide +kernel
theorem dX5_whole_5 : decode cX5_whole 5 = .ok (.bipush (-4), 2) := by decide +kernel
theorem dX5_whole_7 : decode cX5_whole 7 = .ok (.if_icmp .eq 13, 3) := by decide +kernel
theorem dX5_whole_10 : decode cX5_whole 10 = .ok (.aload_n 0, 1) := by decide +kernel
theorem dX5_whole_11 : decode cX5_whole 11 = .ok (.iload_n 1, 1) := by decide +kernel
theorem dX5_whole_12 : decode cX5_whole 12 = .ok (.invokevirtual 150, 3) := by decide +kernel
theorem dX5_whole_15 : decode cX5_whole 15 = .ok (.bipush (-4), 2) := by decide +kernel
theorem dX5_whole_17 : decode cX5_whole 17 = .ok (.if_icmp .ne 8, 3) := by decide +kernel
theorem dX5_whole_20 : decode cX5_whole 20 = .ok (.bipush (-4), 2) := by decide +kernel
theorem dX5_whole_22 : decode cX5_whole 22 = .ok (.goto 14, 3) := by decide +kernel
theorem dX5_whole_25 : decode cX5_whole 25 = .ok (.aload_n 0, 1) := by decide +kernel
theorem dX5_whole_26 : decode cX5_whole 26 = .ok (.iload_n 1, 1) := by decide +kernel
theorem dX5_whole_27 : decode cX5_whole 27 = .ok (.invokevirtual 146, 3) := by decide +kernel
theorem dX5_whole_30 : decode cX5_whole 30 = .ok (.aload_n 0, 1) := by decide +kernel
theorem dX5_whole_31 : decode cX5_whole 31 = .ok (.iload_n 1, 1) := by decide +kernel
theorem dX5_whole_32 : decode cX5_whole 32 = .ok (.invokevirtual 150, 3) := by decide +kernel
theorem dX5_whole_35 : decode cX5_whole 35 = .ok (.iadd, 1) := by decide +kernel
theorem dX5_whole_36 : decode cX5_whole 36 = .ok (.ireturn, 1) := by decide +kernel
theorem dX5_knotsOf_0 : decode cX5_knotsOf 0 = .ok (.iload_n 0, 1) := by decide +kernel
theorem dX5_knotsOf_1 : decode cX5_knotsOf 1 = .ok (.bipush 31, 2) := by decide +kernel
theorem dX5_knotsOf_3 : decode cX5_knotsOf 3 = .ok (.if_icmp .ne 7, 3) := by decide +kernel
theorem dX5_knotsOf_6 : decode cX5_knotsOf 6 = .ok (.iconst 2, 1) := by decide +kernel
theorem dX5_knotsOf_7 : decode cX5_knotsOf 7 = .ok (.goto 7, 3) := by decide +kernel
theorem dX5_knotsOf_10 : decode cX5_knotsOf 10 = .ok (.iload_n 0, 1) := by decide +kernel
theorem dX5_knotsOf_11 : decode cX5_knotsOf 11 = .ok (.bipush 10, 2) := by decide +kernel
theorem dX5_knotsOf_13 : decode cX5_knotsOf 13 = .ok (.irem, 1) := by decide +kernel
theorem dX5_knotsOf_14 : decode cX5_knotsOf 14 = .ok (.ireturn, 1) := by decide +kernel
theorem dX5_knots__0 : decode cX5_knots_ 0 = .ok (.iconst 0, 1) := by decide +kernel
theorem dX5_knots__1 : decode cX5_knots_ 1 = .ok (.istore_n 2, 1) := by decide +kernel
theorem dX5_knots__2 : decode cX5_knots_ 2 = .ok (.iconst 0, 1) := by decide +kernel
theorem dX5_knots__3 : decode cX5_knots_ 3 = .ok (.istore_n 3, 1) := by decide +kernel
theorem dX5_knots__4 : decode cX5_knots_ 4 = .ok (.iload_n 3, 1) := by decide +kernel
theorem dX5_knots__5 : decode cX5_knots_ 5 = .ok (.aload_n 0, 1) := by decide +kernel
theorem dX5_knots__6 : decode cX5_knots_ 6 = .ok (.getfield 7, 3) := by decide +kernel
theorem dX5_knots__9 : decode cX5_knots_ 9 = .ok (.bipush 18, 2) := by decide +kernel
theorem dX5_knots__11 : decode cX5_knots_ 11 = .ok (.iload_n 1, 1) := by decide +kernel
theorem dX5_knots__12 : decode cX5_knots_ 12 = .ok (.iadd, 1) := by decide +kernel
theorem dX5_knots__13 : decode cX5_knots_ 13 = .ok (.iaload, 1) := by decide +kernel
theorem dX5_knots__14 : decode cX5_knots_ 14 = .ok (.if_icmp .ge 21, 3) := by decide +kernel
theorem dX5_knots__17 : decode cX5_knots_ 17 = .ok (.iload_n 2, 1) := by decide +kernel
theorem dX5_knots__18 : decode cX5_knots_ 18 = .ok (.aload_n 0, 1) := by decide +kernel
theorem dX5_knots__19 : decode cX5_knots_ 19 = .ok (.iload_n 1, 1) := by decide +kernel
theorem dX5_knots__20 : decode cX5_knots_ 20 = .ok (.iload_n 3, 1) := by decide +kernel
theorem dX5_knots__21 : decode cX5_knots_ 21 = .ok (.invokevirtual 134, 3) := by decide +kernel
theorem dX5_knots__24 : decode cX5_knots_ 24 = .ok (.invokestatic 153, 3) := by decide +kernel
theorem dX5_knots__27 : decode cX5_knots_ 27 = .ok (.iadd, 1) := by decide +kernel
theorem dX5_knots__28 : decode cX5_knots_ 28 = .ok (.istore_n 2, 1) := by decide +kernel
theorem dX5_knots__29 : decode cX5_knots_ 29 = .ok (.iinc 3 1, 3) := by decide +kernel
theorem dX5_knots__32 : decode cX5_knots_ 32 = .ok (.goto (-28), 3) := by decide +kernel
theorem dX5_knots__35 : decode cX5_knots_ 35 = .ok (.iload_n 2, 1) := by decide +kernel
theorem dX5_knots__36 : decode cX5_knots_ 36 = .ok (.ireturn, 1) := by decide +kernel
theorem dX5_hanging_0 : decode cX5_hanging 0 = .ok (.iconst 0, 1) := by decide +kernel
theorem dX5_hanging_1 : decode cX5_hanging 1 = .ok (.istore_n 2, 1) := by decide +kernel
theorem dX5_hanging_2 : decode cX5_hanging 2 = .ok (.iconst 0, 1) := by decide +kernel
theorem dX5_hanging_3 : decode cX5_hanging 3 = .ok (.istore_n 3, 1) := by decide +kernel
theorem dX5_hanging_4 : decode cX5_hanging 4 = .ok (.iload_n 3, 1) := by decide +kernel
theorem dX5_hanging_5 : decode cX5_hanging 5 = .ok (.aload_n 0, 1) := by decide +kernel
theorem dX5_hanging_6 : decode cX5_hanging 6 = .ok (.getfield 7, 3) := by decide +kernel
theorem dX5_hanging_9 : decode cX5_hanging 9 = .ok (.iconst 0, 1) := by decide +kernel
theorem dX5_hanging_10 : decode cX5_hanging 10 = .ok (.iaload, 1) := by decide +kernel
theorem dX5_hanging_11 : decode cX5_hanging 11 = .ok (.if_icmp .ge 30, 3) := by decide +kernel
theorem dX5_hanging_14 : decode cX5_hanging 14 = .ok (.iload_n 2, 1) := by decide +kernel
theorem dX5_hanging_15 : decode cX5_hanging 15 = .ok (.aload_n 0, 1) := by decide +kernel
theorem dX5_hanging_16 : decode cX5_hanging 16 = .ok (.getfield 7, 3) := by decide +kernel
theorem dX5_hanging_19 : decode cX5_hanging 19 = .ok (.bipush 98, 2) := by decide +kernel
theorem dX5_hanging_21 : decode cX5_hanging 21 = .ok (.iload_n 3, 1) := by decide +kernel
theorem dX5_hanging_22 : decode cX5_hanging 22 = .ok (.iadd, 1) := by decide +kernel
theorem dX5_hanging_23 : decode cX5_hanging 23 = .ok (.iaload, 1) := by decide +kernel
theorem dX5_hanging_24 : decode cX5_hanging 24 = .ok (.iload_n 1, 1) := by decide +kernel
theorem dX5_hanging_25 : decode cX5_hanging 25 = .ok (.if_icmp .ne 7, 3) := by decide +kernel
theorem dX5_hanging_28 : decode cX5_hanging 28 = .ok (.iconst 1, 1) := by decide +kernel
theorem dX5_hanging_29 : decode cX5_hanging 29 = .ok (.goto 4, 3) := by decide +kernel
theorem dX5_hanging_32 : decode cX5_hanging 32 = .ok (.iconst 0, 1) := by decide +kernel
theorem dX5_hanging_33 : decode cX5_hanging 33 = .ok (.iadd, 1) := by decide +kernel
theorem dX5_hanging_34 : decode cX5_hanging 34 = .ok (.istore_n 2, 1) := by decide +kernel
theorem dX5_hanging_35 : decode cX5_hanging 35 = .ok (.iinc 3 1, 3) := by decide +kernel
theorem dX5_hanging_38 : decode cX5_hanging 38 = .ok (.goto (-34), 3) := by decide +kernel
theorem dX5_hanging_41 : decode cX5_hanging 41 = .ok (.iload_n 2, 1) := by decide +kernel
theorem dX5_hanging_42 : decode cX5_hanging 42 = .ok (.ireturn, 1) := by decide +kernel
theorem dX5_depthOf_0 : decode cX5_depthOf 0 = .ok (.aload_n 0, 1) := by decide +kernel
theorem dX5_depthOf_1 : decode cX5_depthOf 1 = .ok (.getfield 7, 3) := by decide +kernel
theorem dX5_depthOf_4 : decode cX5_depthOf 4 = .ok (.bipush 98, 2) := by decide +kernel
theorem dX5_depthOf_6 : decode cX5_depthOf 6 = .ok (.iload_n 1, 1) := by decide +kernel
theorem dX5_depthOf_7 : decode cX5_depthOf 7 = .ok (.iadd, 1) := by decide +kernel
theorem dX5_depthOf_8 : decode cX5_depthOf 8 = .ok (.iaload, 1) := by decide +kernel
theorem dX5_depthOf_9 : decode cX5_depthOf 9 = .ok (.istore_n 2, 1) := by decide +kernel
theorem dX5_depthOf_10 : decode cX5_depthOf 10 = .ok (.iload_n 2, 1) := by decide +kernel
theorem dX5_depthOf_11 : decode cX5_depthOf 11 = .ok (.ifCond .ge 7, 3) := by decide +kernel
theorem dX5_depthOf_14 : decode cX5_depthOf 14 = .ok (.iconst 0, 1) := by decide +kernel
theorem dX5_depthOf_15 : decode cX5_depthOf 15 = .ok (.goto 20, 3) := by decide +kernel
theorem dX5_depthOf_18 : decode cX5_depthOf 18 = .ok (.aload_n 0, 1) := by decide +kernel
theorem dX5_depthOf_19 : decode cX5_depthOf 19 = .ok (.getfield 7, 3) := by decide +kernel
theorem dX5_depthOf_22 : decode cX5_depthOf 22 = .ok (.bipush 98, 2) := by decide +kernel
theorem dX5_depthOf_24 : decode cX5_depthOf 24 = .ok (.iload_n 2, 1) := by decide +kernel
theorem dX5_depthOf_25 : decode cX5_depthOf 25 = .ok (.iadd, 1) := by decide +kernel
theorem dX5_depthOf_26 : decode cX5_depthOf 26 = .ok (.iaload, 1) := by decide +kernel
theorem dX5_depthOf_27 : decode cX5_depthOf 27 = .ok (.ifCond .ge 7, 3) := by decide +kernel
theorem dX5_depthOf_30 : decode cX5_depthOf 30 = .ok (.iconst 1, 1) := by decide +kernel
theorem dX5_depthOf_31 : decode cX5_depthOf 31 = .ok (.goto 4, 3) := by decide +kernel
theorem dX5_depthOf_34 : decode cX5_depthOf 34 = .ok (.iconst 2, 1) := by decide +kernel
theorem dX5_depthOf_35 : decode cX5_depthOf 35 = .ok (.ireturn, 1) := by decide +kernel
theorem dX5_cord_0 : decode cX5_cord 0 = .ok (.aload_n 0, 1) := by decide +kernel
theorem dX5_cord_1 : decode cX5_cord 1 = .ok (.iload_n 1, 1) := by decide +kernel
theorem dX5_cord_2 : decode cX5_cord 2 = .ok (.invokevirtual 156, 3) := by decide +kernel
theorem dX5_cord_5 : decode cX5_cord 5 = .ok (.ifCond .ne 5, 3) := by decide +kernel
theorem dX5_cord_8 : decode cX5_cord 8 = .ok (.iconst (-1), 1) := by decide +kernel
theorem dX5_cord_9 : decode cX5_cord 9 = .ok (.ireturn, 1) := by decide +kernel
theorem dX5_cord_10 : decode cX5_cord 10 = .ok (.iload_n 2, 1) := by decide +kernel
theorem dX5_cord_11 : decode cX5_cord 11 = .ok (.tableswitch 157 0 10 #[57, 66, 76, 99, 109, 115, 121, 132, 138, 144, 151], 57) := by decide +kernel
theorem dX5_cord_68 : decode cX5_cord 68 = .ok (.aload_n 0, 1) := by decide +kernel
theorem dX5_cord_69 : decode cX5_cord 69 = .ok (.getfield 7, 3) := by decide +kernel
theorem dX5_cord_72 : decode cX5_cord 72 = .ok (.iconst 2, 1) := by decide +kernel
theorem dX5_cord_73 : decode cX5_cord 73 = .ok (.iload_n 1, 1) := by decide +kernel
theorem dX5_cord_74 : decode cX5_cord 74 = .ok (.iadd, 1) := by decide +kernel
theorem dX5_cord_75 : decode cX5_cord 75 = .ok (.iaload, 1) := by decide +kernel
theorem dX5_cord_76 : decode cX5_cord 76 = .ok (.ireturn, 1) := by decide +kernel
theorem dX5_cord_77 : decode cX5_cord 77 = .ok (.aload_n 0, 1) := by decide +kernel
theorem dX5_cord_78 : decode cX5_cord 78 = .ok (.getfield 7, 3) := by decide +kernel
theorem dX5_cord_81 : decode cX5_cord 81 = .ok (.bipush 18, 2) := by decide +kernel
theorem dX5_cord_83 : decode cX5_cord 83 = .ok (.iload_n 1, 1) := by decide +kernel
theorem dX5_cord_84 : decode cX5_cord 84 = .ok (.iadd, 1) := by decide +kernel
theorem dX5_cord_85 : decode cX5_cord 85 = .ok (.iaload, 1) := by decide +kernel
theorem dX5_cord_86 : decode cX5_cord 86 = .ok (.ireturn, 1) := by decide +kernel
theorem dX5_cord_87 : decode cX5_cord 87 = .ok (.aload_n 0, 1) := by decide +kernel
theorem dX5_cord_88 : decode cX5_cord 88 = .ok (.iload_n 1, 1) := by decide +kernel
theorem dX5_cord_89 : decode cX5_cord 89 = .ok (.invokevirtual 131, 3) := by decide +kernel
theorem dX5_cord_92 : decode cX5_cord 92 = .ok (.ifCond .eq 8, 3) := by decide +kernel
theorem dX5_cord_95 : decode cX5_cord 95 = .ok (.bipush (-4), 2) := by decide +kernel
theorem dX5_cord_97 : decode cX5_cord 97 = .ok (.goto 12, 3) := by decide +kernel
theorem dX5_cord_100 : decode cX5_cord 100 = .ok (.aload_n 0, 1) := by decide +kernel
theorem dX5_cord_101 : decode cX5_cord 101 = .ok (.getfield 7, 3) := by decide +kernel
theorem dX5_cord_104 : decode cX5_cord 104 = .ok (.bipush 98, 2) := by decide +kernel
theorem dX5_cord_106 : decode cX5_cord 106 = .ok (.iload_n 1, 1) := by decide +kernel
theorem dX5_cord_107 : decode cX5_cord 107 = .ok (.iadd, 1) := by decide +kernel
theorem dX5_cord_108 : decode cX5_cord 108 = .ok (.iaload, 1) := by decide +kernel
theorem dX5_cord_109 : decode cX5_cord 109 = .ok (.ireturn, 1) := by decide +kernel
theorem dX5_cord_110 : decode cX5_cord 110 = .ok (.aload_n 0, 1) := by decide +kernel
theorem dX5_cord_111 : decode cX5_cord 111 = .ok (.getfield 7, 3) := by decide +kernel
theorem dX5_cord_114 : decode cX5_cord 114 = .ok (.bipush 114, 2) := by decide +kernel
theorem dX5_cord_116 : decode cX5_cord 116 = .ok (.iload_n 1, 1) := by decide +kernel
theorem dX5_cord_117 : decode cX5_cord 117 = .ok (.iadd, 1) := by decide +kernel
theorem dX5_cord_118 : decode cX5_cord 118 = .ok (.iaload, 1) := by decide +kernel
theorem dX5_cord_119 : decode cX5_cord 119 = .ok (.ireturn, 1) := by decide +kernel
theorem dX5_cord_120 : decode cX5_cord 120 = .ok (.aload_n 0, 1) := by decide +kernel
theorem dX5_cord_121 : decode cX5_cord 121 = .ok (.iload_n 1, 1) := by decide +kernel
theorem dX5_cord_122 : decode cX5_cord 122 = .ok (.invokevirtual 159, 3) := by decide +kernel
theorem dX5_cord_125 : decode cX5_cord 125 = .ok (.ireturn, 1) := by decide +kernel
theorem dX5_cord_126 : decode cX5_cord 126 = .ok (.aload_n 0, 1) := by decide +kernel
theorem dX5_cord_127 : decode cX5_cord 127 = .ok (.iload_n 1, 1) := by decide +kernel
theorem dX5_cord_128 : decode cX5_cord 128 = .ok (.invokevirtual 162, 3) := by decide +kernel
theorem dX5_cord_131 : decode cX5_cord 131 = .ok (.ireturn, 1) := by decide +kernel
theorem dX5_cord_132 : decode cX5_cord 132 = .ok (.aload_n 0, 1) := by decide +kernel
theorem dX5_cord_133 : decode cX5_cord 133 = .ok (.getfield 7, 3) := by decide +kernel
theorem dX5_cord_136 : decode cX5_cord 136 = .ok (.sipush 130, 3) := by decide +kernel
theorem dX5_cord_139 : decode cX5_cord 139 = .ok (.iload_n 1, 1) := by decide +kernel
theorem dX5_cord_140 : decode cX5_cord 140 = .ok (.iadd, 1) := by decide +kernel
theorem dX5_cord_141 : decode cX5_cord 141 = .ok (.iaload, 1) := by decide +kernel
theorem dX5_cord_142 : decode cX5_cord 142 = .ok (.ireturn, 1) := by decide +kernel
theorem dX5_cord_143 : decode cX5_cord 143 = .ok (.aload_n 0, 1) := by decide +kernel
theorem dX5_cord_144 : decode cX5_cord 144 = .ok (.iload_n 1, 1) := by decide +kernel
theorem dX5_cord_145 : decode cX5_cord 145 = .ok (.invokevirtual 146, 3) := by decide +kernel
theorem dX5_cord_148 : decode cX5_cord 148 = .ok (.ireturn, 1) := by decide +kernel
theorem dX5_cord_149 : decode cX5_cord 149 = .ok (.aload_n 0, 1) := by decide +kernel
theorem dX5_cord_150 : decode cX5_cord 150 = .ok (.iload_n 1, 1) := by decide +kernel
theorem dX5_cord_151 : decode cX5_cord 151 = .ok (.invokevirtual 165, 3) := by decide +kernel
theorem dX5_cord_154 : decode cX5_cord 154 = .ok (.ireturn, 1) := by decide +kernel
theorem dX5_cord_155 : decode cX5_cord 155 = .ok (.aload_n 0, 1) := by decide +kernel
theorem dX5_cord_156 : decode cX5_cord 156 = .ok (.iload_n 1, 1) := by decide +kernel
theorem dX5_cord_157 : decode cX5_cord 157 = .ok (.iconst 1, 1) := by decide +kernel
theorem dX5_cord_158 : decode cX5_cord 158 = .ok (.invokevirtual 138, 3) := by decide +kernel
theorem dX5_cord_161 : decode cX5_cord 161 = .ok (.ireturn, 1) := by decide +kernel
theorem dX5_cord_162 : decode cX5_cord 162 = .ok (.aload_n 0, 1) := by decide +kernel
theorem dX5_cord_163 : decode cX5_cord 163 = .ok (.iload_n 1, 1) := by decide +kernel
theorem dX5_cord_164 : decode cX5_cord 164 = .ok (.invokevirtual 168, 3) := by decide +kernel
theorem dX5_cord_167 : decode cX5_cord 167 = .ok (.ireturn, 1) := by decide +kernel
theorem dX5_cord_168 : decode cX5_cord 168 = .ok (.iconst (-1), 1) := by decide +kernel
theorem dX5_cord_169 : decode cX5_cord 169 = .ok (.ireturn, 1) := by decide +kernel
theorem dX5_cluster_0 : decode cX5_cluster 0 = .ok (.aload_n 0, 1) := by decide +kernel
theorem dX5_cluster_1 : decode cX5_cluster 1 = .ok (.iload_n 1, 1) := by decide +kernel
theorem dX5_cluster_2 : decode cX5_cluster 2 = .ok (.invokevirtual 156, 3) := by decide +kernel
theorem dX5_cluster_5 : decode cX5_cluster 5 = .ok (.ifCond .eq 33, 3) := by decide +kernel
theorem dX5_cluster_8 : decode cX5_cluster 8 = .ok (.iload_n 2, 1) := by decide +kernel
theorem dX5_cluster_9 : decode cX5_cluster 9 = .ok (.i2l, 1) := by decide +kernel
theorem dX5_cluster_10 : decode cX5_cluster 10 = .ok (.lconst 0, 1) := by decide +kernel
theorem dX5_cluster_11 : decode cX5_cluster 11 = .ok (.aload_n 0, 1) := by decide +kernel
theorem dX5_cluster_12 : decode cX5_cluster 12 = .ok (.getfield 7, 3) := by decide +kernel
theorem dX5_cluster_15 : decode cX5_cluster 15 = .ok (.bipush 18, 2) := by decide +kernel
theorem dX5_cluster_17 : decode cX5_cluster 17 = .ok (.iload_n 1, 1) := by decide +kernel
theorem dX5_cluster_18 : decode cX5_cluster 18 = .ok (.iadd, 1) := by decide +kernel
theorem dX5_cluster_19 : decode cX5_cluster 19 = .ok (.iaload, 1) := by decide +kernel
theorem dX5_cluster_20 : decode cX5_cluster 20 = .ok (.iconst 1, 1) := by decide +kernel
theorem dX5_cluster_21 : decode cX5_cluster 21 = .ok (.isub, 1) := by decide +kernel
theorem dX5_cluster_22 : decode cX5_cluster 22 = .ok (.i2l, 1) := by decide +kernel
theorem dX5_cluster_23 : decode cX5_cluster 23 = .ok (.invokestatic 54, 3) := by decide +kernel
theorem dX5_cluster_26 : decode cX5_cluster 26 = .ok (.ifCond .eq 12, 3) := by decide +kernel
theorem dX5_cluster_29 : decode cX5_cluster 29 = .ok (.aload_n 0, 1) := by decide +kernel
theorem dX5_cluster_30 : decode cX5_cluster 30 = .ok (.iload_n 1, 1) := by decide +kernel
theorem dX5_cluster_31 : decode cX5_cluster 31 = .ok (.iload_n 2, 1) := by decide +kernel
theorem dX5_cluster_32 : decode cX5_cluster 32 = .ok (.invokevirtual 134, 3) := by decide +kernel
theorem dX5_cluster_35 : decode cX5_cluster 35 = .ok (.goto 4, 3) := by decide +kernel
theorem dX5_cluster_38 : decode cX5_cluster 38 = .ok (.iconst (-1), 1) := by decide +kernel
theorem dX5_cluster_39 : decode cX5_cluster 39 = .ok (.ireturn, 1) := by decide +kernel
theorem dX5_topOf_0 : decode cX5_topOf 0 = .ok (.bipush (-4), 2) := by decide +kernel
theorem dX5_topOf_2 : decode cX5_topOf 2 = .ok (.istore_n 2, 1) := by decide +kernel
theorem dX5_topOf_3 : decode cX5_topOf 3 = .ok (.iconst 0, 1) := by decide +kernel
theorem dX5_topOf_4 : decode cX5_topOf 4 = .ok (.istore_n 3, 1) := by decide +kernel
theorem dX5_topOf_5 : decode cX5_topOf 5 = .ok (.iload_n 3, 1) := by decide +kernel
theorem dX5_topOf_6 : decode cX5_topOf 6 = .ok (.aload_n 0, 1) := by decide +kernel
theorem dX5_topOf_7 : decode cX5_topOf 7 = .ok (.getfield 7, 3) := by decide +kernel
theorem dX5_topOf_10 : decode cX5_topOf 10 = .ok (.iconst 0, 1) := by decide +kernel
theorem dX5_topOf_11 : decode cX5_topOf 11 = .ok (.iaload, 1) := by decide +kernel
theorem dX5_topOf_12 : decode cX5_topOf 12 = .ok (.if_icmp .ge 42, 3) := by decide +kernel
theorem dX5_topOf_15 : decode cX5_topOf 15 = .ok (.aload_n 0, 1) := by decide +kernel
theorem dX5_topOf_16 : decode cX5_topOf 16 = .ok (.getfield 7, 3) := by decide +kernel
theorem dX5_topOf_19 : decode cX5_topOf 19 = .ok (.sipush 130, 3) := by decide +kernel
theorem dX5_topOf_22 : decode cX5_topOf 22 = .ok (.iload_n 3, 1) := by decide +kernel
theorem dX5_topOf_23 : decode cX5_topOf 23 = .ok (.iadd, 1) := by decide +kernel
theorem dX5_topOf_24 : decode cX5_topOf 24 = .ok (.iaload, 1) := by decide +kernel
theorem dX5_topOf_25 : decode cX5_topOf 25 = .ok (.iconst 1, 1) := by decide +kernel
theorem dX5_topOf_26 : decode cX5_topOf 26 = .ok (.if_icmp .ne 20, 3) := by decide +kernel
theorem dX5_topOf_29 : decode cX5_topOf 29 = .ok (.aload_n 0, 1) := by decide +kernel
theorem dX5_topOf_30 : decode cX5_topOf 30 = .ok (.getfield 7, 3) := by decide +kernel
theorem dX5_topOf_33 : decode cX5_topOf 33 = .ok (.bipush 114, 2) := by decide +kernel
theorem dX5_topOf_35 : decode cX5_topOf 35 = .ok (.iload_n 3, 1) := by decide +kernel
theorem dX5_topOf_36 : decode cX5_topOf 36 = .ok (.iadd, 1) := by decide +kernel
theorem dX5_topOf_37 : decode cX5_topOf 37 = .ok (.iaload, 1) := by decide +kernel
theorem dX5_topOf_38 : decode cX5_topOf 38 = .ok (.iload_n 1, 1) := by decide +kernel
theorem dX5_topOf_39 : decode cX5_topOf 39 = .ok (.if_icmp .ne 7, 3) := by decide +kernel
theorem dX5_topOf_42 : decode cX5_topOf 42 = .ok (.iload_n 3, 1) := by decide +kernel
theorem dX5_topOf_43 : decode cX5_topOf 43 = .ok (.goto 4, 3) := by decide +kernel
theorem dX5_topOf_46 : decode cX5_topOf 46 = .ok (.iload_n 2, 1) := by decide +kernel
theorem dX5_topOf_47 : decode cX5_topOf 47 = .ok (.istore_n 2, 1) := by decide +kernel
theorem dX5_topOf_48 : decode cX5_topOf 48 = .ok (.iinc 3 1, 3) := by decide +kernel
theorem dX5_topOf_51 : decode cX5_topOf 51 = .ok (.goto (-46), 3) := by decide +kernel
theorem dX5_topOf_54 : decode cX5_topOf 54 = .ok (.iload_n 2, 1) := by decide +kernel
theorem dX5_topOf_55 : decode cX5_topOf 55 = .ok (.ireturn, 1) := by decide +kernel
theorem dX5_isOf_0 : decode cX5_isOf 0 = .ok (.aload_n 0, 1) := by decide +kernel
theorem dX5_isOf_1 : decode cX5_isOf 1 = .ok (.iload_n 1, 1) := by decide +kernel
theorem dX5_isOf_2 : decode cX5_isOf 2 = .ok (.invokevirtual 170, 3) := by decide +kernel
theorem dX5_isOf_5 : decode cX5_isOf 5 = .ok (.ifCond .eq 25, 3) := by decide +kernel
theorem dX5_isOf_8 : decode cX5_isOf 8 = .ok (.iload_n 2, 1) := by decide +kernel
theorem dX5_isOf_9 : decode cX5_isOf 9 = .ok (.iconst 5, 1) := by decide +kernel
theorem dX5_isOf_10 : decode cX5_isOf 10 = .ok (.if_icmp .eq 16, 3) := by decide +kernel
theorem dX5_isOf_13 : decode cX5_isOf 13 = .ok (.aload_n 0, 1) := by decide +kernel
theorem dX5_isOf_14 : decode cX5_isOf 14 = .ok (.getfield 7, 3) := by decide +kernel
theorem dX5_isOf_17 : decode cX5_isOf 17 = .ok (.bipush 114, 2) := by decide +kernel
theorem dX5_isOf_19 : decode cX5_isOf 19 = .ok (.iload_n 1, 1) := by decide +kernel
theorem dX5_isOf_20 : decode cX5_isOf 20 = .ok (.iadd, 1) := by decide +kernel
theorem dX5_isOf_21 : decode cX5_isOf 21 = .ok (.iaload, 1) := by decide +kernel
theorem dX5_isOf_22 : decode cX5_isOf 22 = .ok (.iload_n 2, 1) := by decide +kernel
theorem dX5_isOf_23 : decode cX5_isOf 23 = .ok (.if_icmp .ne 7, 3) := by decide +kernel
theorem dX5_isOf_26 : decode cX5_isOf 26 = .ok (.iconst 1, 1) := by decide +kernel
theorem dX5_isOf_27 : decode cX5_isOf 27 = .ok (.goto 4, 3) := by decide +kernel
theorem dX5_isOf_30 : decode cX5_isOf 30 = .ok (.iconst 0, 1) := by decide +kernel
theorem dX5_isOf_31 : decode cX5_isOf 31 = .ok (.ireturn, 1) := by decide +kernel
theorem dX5_manyOf_0 : decode cX5_manyOf 0 = .ok (.iconst 0, 1) := by decide +kernel
theorem dX5_manyOf_1 : decode cX5_manyOf 1 = .ok (.istore_n 2, 1) := by decide +kernel
theorem dX5_manyOf_2 : decode cX5_manyOf 2 = .ok (.iconst 0, 1) := by decide +kernel
theorem dX5_manyOf_3 : decode cX5_manyOf 3 = .ok (.istore_n 3, 1) := by decide +kernel
theorem dX5_manyOf_4 : decode cX5_manyOf 4 = .ok (.iload_n 3, 1) := by decide +kernel
theorem dX5_manyOf_5 : decode cX5_manyOf 5 = .ok (.aload_n 0, 1) := by decide +kernel
theorem dX5_manyOf_6 : decode cX5_manyOf 6 = .ok (.getfield 7, 3) := by decide +kernel
theorem dX5_manyOf_9 : decode cX5_manyOf 9 = .ok (.iconst 0, 1) := by decide +kernel
theorem dX5_manyOf_10 : decode cX5_manyOf 10 = .ok (.iaload, 1) := by decide +kernel
theorem dX5_manyOf_11 : decode cX5_manyOf 11 = .ok (.if_icmp .ge 26, 3) := by decide +kernel
theorem dX5_manyOf_14 : decode cX5_manyOf 14 = .ok (.iload_n 2, 1) := by decide +kernel
theorem dX5_manyOf_15 : decode cX5_manyOf 15 = .ok (.aload_n 0, 1) := by decide +kernel
theorem dX5_manyOf_16 : decode cX5_manyOf 16 = .ok (.iload_n 3, 1) := by decide +kernel
theorem dX5_manyOf_17 : decode cX5_manyOf 17 = .ok (.iload_n 1, 1) := by decide +kernel
theorem dX5_manyOf_18 : decode cX5_manyOf 18 = .ok (.invokevirtual 173, 3) := by decide +kernel
theorem dX5_manyOf_21 : decode cX5_manyOf 21 = .ok (.ifCond .eq 7, 3) := by decide +kernel
theorem dX5_manyOf_24 : decode cX5_manyOf 24 = .ok (.iconst 1, 1) := by decide +kernel
theorem dX5_manyOf_25 : decode cX5_manyOf 25 = .ok (.goto 4, 3) := by decide +kernel
theorem dX5_manyOf_28 : decode cX5_manyOf 28 = .ok (.iconst 0, 1) := by decide +kernel
theorem dX5_manyOf_29 : decode cX5_manyOf 29 = .ok (.iadd, 1) := by decide +kernel
theorem dX5_manyOf_30 : decode cX5_manyOf 30 = .ok (.istore_n 2, 1) := by decide +kernel
theorem dX5_manyOf_31 : decode cX5_manyOf 31 = .ok (.iinc 3 1, 3) := by decide +kernel
theorem dX5_manyOf_34 : decode cX5_manyOf 34 = .ok (.goto (-30), 3) := by decide +kernel
theorem dX5_manyOf_37 : decode cX5_manyOf 37 = .ok (.iload_n 2, 1) := by decide +kernel
theorem dX5_manyOf_38 : decode cX5_manyOf 38 = .ok (.ireturn, 1) := by decide +kernel
theorem dX5_sumOf_0 : decode cX5_sumOf 0 = .ok (.iconst 0, 1) := by decide +kernel
theorem dX5_sumOf_1 : decode cX5_sumOf 1 = .ok (.istore_n 2, 1) := by decide +kernel
theorem dX5_sumOf_2 : decode cX5_sumOf 2 = .ok (.iconst 0, 1) := by decide +kernel
theorem dX5_sumOf_3 : decode cX5_sumOf 3 = .ok (.istore_n 3, 1) := by decide +kernel
theorem dX5_sumOf_4 : decode cX5_sumOf 4 = .ok (.iload_n 3, 1) := by decide +kernel
theorem dX5_sumOf_5 : decode cX5_sumOf 5 = .ok (.aload_n 0, 1) := by decide +kernel
theorem dX5_sumOf_6 : decode cX5_sumOf 6 = .ok (.getfield 7, 3) := by decide +kernel
theorem dX5_sumOf_9 : decode cX5_sumOf 9 = .ok (.iconst 0, 1) := by decide +kernel
theorem dX5_sumOf_10 : decode cX5_sumOf 10 = .ok (.iaload, 1) := by decide +kernel
theorem dX5_sumOf_11 : decode cX5_sumOf 11 = .ok (.if_icmp .ge 39, 3) := by decide +kernel
theorem dX5_sumOf_14 : decode cX5_sumOf 14 = .ok (.aload_n 0, 1) := by decide +kernel
theorem dX5_sumOf_15 : decode cX5_sumOf 15 = .ok (.iload_n 3, 1) := by decide +kernel
theorem dX5_sumOf_16 : decode cX5_sumOf 16 = .ok (.iload_n 1, 1) := by decide +kernel
theorem dX5_sumOf_17 : decode cX5_sumOf 17 = .ok (.invokevirtual 173, 3) := by decide +kernel
theorem dX5_sumOf_20 : decode cX5_sumOf 20 = .ok (.ifCond .eq 24, 3) := by decide +kernel
theorem dX5_sumOf_23 : decode cX5_sumOf 23 = .ok (.aload_n 0, 1) := by decide +kernel
theorem dX5_sumOf_24 : decode cX5_sumOf 24 = .ok (.iload_n 3, 1) := by decide +kernel
theorem dX5_sumOf_25 : decode cX5_sumOf 25 = .ok (.invokevirtual 165, 3) := by decide +kernel
theorem dX5_sumOf_28 : decode cX5_sumOf 28 = .ok (.bipush (-4), 2) := by decide +kernel
theorem dX5_sumOf_30 : decode cX5_sumOf 30 = .ok (.if_icmp .ne 6, 3) := by decide +kernel
theorem dX5_sumOf_33 : decode cX5_sumOf 33 = .ok (.bipush (-4), 2) := by decide +kernel
theorem dX5_sumOf_35 : decode cX5_sumOf 35 = .ok (.ireturn, 1) := by decide +kernel
theorem dX5_sumOf_36 : decode cX5_sumOf 36 = .ok (.iload_n 2, 1) := by decide +kernel
theorem dX5_sumOf_37 : decode cX5_sumOf 37 = .ok (.aload_n 0, 1) := by decide +kernel
theorem dX5_sumOf_38 : decode cX5_sumOf 38 = .ok (.iload_n 3, 1) := by decide +kernel
theorem dX5_sumOf_39 : decode cX5_sumOf 39 = .ok (.invokevirtual 165, 3) := by decide +kernel
theorem dX5_sumOf_42 : decode cX5_sumOf 42 = .ok (.iadd, 1) := by decide +kernel
theorem dX5_sumOf_43 : decode cX5_sumOf 43 = .ok (.istore_n 2, 1) := by decide +kernel
theorem dX5_sumOf_44 : decode cX5_sumOf 44 = .ok (.iinc 3 1, 3) := by decide +kernel
theorem dX5_sumOf_47 : decode cX5_sumOf 47 = .ok (.goto (-43), 3) := by decide +kernel
theorem dX5_sumOf_50 : decode cX5_sumOf 50 = .ok (.iload_n 2, 1) := by decide +kernel
theorem dX5_sumOf_51 : decode cX5_sumOf 51 = .ok (.ireturn, 1) := by decide +kernel
theorem dX5_wrongBy_0 : decode cX5_wrongBy 0 = .ok (.aload_n 0, 1) := by decide +kernel
theorem dX5_wrongBy_1 : decode cX5_wrongBy 1 = .ok (.iload_n 1, 1) := by decide +kernel
theorem dX5_wrongBy_2 : decode cX5_wrongBy 2 = .ok (.invokevirtual 176, 3) := by decide +kernel
theorem dX5_wrongBy_5 : decode cX5_wrongBy 5 = .ok (.istore_n 2, 1) := by decide +kernel
theorem dX5_wrongBy_6 : decode cX5_wrongBy 6 = .ok (.iload_n 2, 1) := by decide +kernel
theorem dX5_wrongBy_7 : decode cX5_wrongBy 7 = .ok (.bipush (-4), 2) := by decide +kernel
theorem dX5_wrongBy_9 : decode cX5_wrongBy 9 = .ok (.if_icmp .eq 23, 3) := by decide +kernel
theorem dX5_wrongBy_12 : decode cX5_wrongBy 12 = .ok (.aload_n 0, 1) := by decide +kernel
theorem dX5_wrongBy_13 : decode cX5_wrongBy 13 = .ok (.iload_n 2, 1) := by decide +kernel
theorem dX5_wrongBy_14 : decode cX5_wrongBy 14 = .ok (.invokevirtual 165, 3) := by decide +kernel
theorem dX5_wrongBy_17 : decode cX5_wrongBy 17 = .ok (.bipush (-4), 2) := by decide +kernel
theorem dX5_wrongBy_19 : decode cX5_wrongBy 19 = .ok (.if_icmp .eq 13, 3) := by decide +kernel
theorem dX5_wrongBy_22 : decode cX5_wrongBy 22 = .ok (.aload_n 0, 1) := by decide +kernel
theorem dX5_wrongBy_23 : decode cX5_wrongBy 23 = .ok (.iload_n 1, 1) := by decide +kernel
theorem dX5_wrongBy_24 : decode cX5_wrongBy 24 = .ok (.invokevirtual 179, 3) := by decide +kernel
theorem dX5_wrongBy_27 : decode cX5_wrongBy 27 = .ok (.bipush (-4), 2) := by decide +kernel
theorem dX5_wrongBy_29 : decode cX5_wrongBy 29 = .ok (.if_icmp .ne 6, 3) := by decide +kernel
theorem dX5_wrongBy_32 : decode cX5_wrongBy 32 = .ok (.bipush (-4), 2) := by decide +kernel
theorem dX5_wrongBy_34 : decode cX5_wrongBy 34 = .ok (.ireturn, 1) := by decide +kernel
theorem dX5_wrongBy_35 : decode cX5_wrongBy 35 = .ok (.aload_n 0, 1) := by decide +kernel
theorem dX5_wrongBy_36 : decode cX5_wrongBy 36 = .ok (.iload_n 1, 1) := by decide +kernel
theorem dX5_wrongBy_37 : decode cX5_wrongBy 37 = .ok (.invokevirtual 179, 3) := by decide +kernel
theorem dX5_wrongBy_40 : decode cX5_wrongBy 40 = .ok (.aload_n 0, 1) := by decide +kernel
theorem dX5_wrongBy_41 : decode cX5_wrongBy 41 = .ok (.iload_n 2, 1) := by decide +kernel
theorem dX5_wrongBy_42 : decode cX5_wrongBy 42 = .ok (.invokevirtual 165, 3) := by decide +kernel
theorem dX5_wrongBy_45 : decode cX5_wrongBy 45 = .ok (.isub, 1) := by decide +kernel
theorem dX5_wrongBy_46 : decode cX5_wrongBy 46 = .ok (.ldc 182, 2) := by decide +kernel
theorem dX5_wrongBy_48 : decode cX5_wrongBy 48 = .ok (.iadd, 1) := by decide +kernel
theorem dX5_wrongBy_49 : decode cX5_wrongBy 49 = .ok (.ireturn, 1) := by decide +kernel
theorem dX5_group_0 : decode cX5_group 0 = .ok (.aload_n 0, 1) := by decide +kernel
theorem dX5_group_1 : decode cX5_group 1 = .ok (.iload_n 1, 1) := by decide +kernel
theorem dX5_group_2 : decode cX5_group 2 = .ok (.invokevirtual 183, 3) := by decide +kernel
theorem dX5_group_5 : decode cX5_group 5 = .ok (.ifCond .ne 5, 3) := by decide +kernel
theorem dX5_group_8 : decode cX5_group 8 = .ok (.iconst (-1), 1) := by decide +kernel
theorem dX5_group_9 : decode cX5_group 9 = .ok (.ireturn, 1) := by decide +kernel
theorem dX5_group_10 : decode cX5_group 10 = .ok (.iload_n 2, 1) := by decide +kernel
theorem dX5_group_11 : decode cX5_group 11 = .ok (.tableswitch 63 0 3 #[29, 35, 41, 47], 29) := by decide +kernel
theorem dX5_group_40 : decode cX5_group 40 = .ok (.aload_n 0, 1) := by decide +kernel
theorem dX5_group_41 : decode cX5_group 41 = .ok (.iload_n 1, 1) := by decide +kernel
theorem dX5_group_42 : decode cX5_group 42 = .ok (.invokevirtual 186, 3) := by decide +kernel
theorem dX5_group_45 : decode cX5_group 45 = .ok (.ireturn, 1) := by decide +kernel
theorem dX5_group_46 : decode cX5_group 46 = .ok (.aload_n 0, 1) := by decide +kernel
theorem dX5_group_47 : decode cX5_group 47 = .ok (.iload_n 1, 1) := by decide +kernel
theorem dX5_group_48 : decode cX5_group 48 = .ok (.invokevirtual 176, 3) := by decide +kernel
theorem dX5_group_51 : decode cX5_group 51 = .ok (.ireturn, 1) := by decide +kernel
theorem dX5_group_52 : decode cX5_group 52 = .ok (.aload_n 0, 1) := by decide +kernel
theorem dX5_group_53 : decode cX5_group 53 = .ok (.iload_n 1, 1) := by decide +kernel
theorem dX5_group_54 : decode cX5_group 54 = .ok (.invokevirtual 179, 3) := by decide +kernel
theorem dX5_group_57 : decode cX5_group 57 = .ok (.ireturn, 1) := by decide +kernel
theorem dX5_group_58 : decode cX5_group 58 = .ok (.aload_n 0, 1) := by decide +kernel
theorem dX5_group_59 : decode cX5_group 59 = .ok (.iload_n 1, 1) := by decide +kernel
theorem dX5_group_60 : decode cX5_group 60 = .ok (.invokevirtual 189, 3) := by decide +kernel
theorem dX5_group_63 : decode cX5_group 63 = .ok (.ldc 182, 2) := by decide +kernel
theorem dX5_group_65 : decode cX5_group 65 = .ok (.if_icmp .ne 7, 3) := by decide +kernel
theorem dX5_group_68 : decode cX5_group 68 = .ok (.iconst 1, 1) := by decide +kernel
theorem dX5_group_69 : decode cX5_group 69 = .ok (.goto 4, 3) := by decide +kernel
theorem dX5_group_72 : decode cX5_group 72 = .ok (.iconst 0, 1) := by decide +kernel
theorem dX5_group_73 : decode cX5_group 73 = .ok (.ireturn, 1) := by decide +kernel
theorem dX5_group_74 : decode cX5_group 74 = .ok (.iconst (-1), 1) := by decide +kernel
theorem dX5_group_75 : decode cX5_group 75 = .ok (.ireturn, 1) := by decide +kernel
theorem dX5_pendantAt_0 : decode cX5_pendantAt 0 = .ok (.iconst 0, 1) := by decide +kernel
theorem dX5_pendantAt_1 : decode cX5_pendantAt 1 = .ok (.istore_n 3, 1) := by decide +kernel
theorem dX5_pendantAt_2 : decode cX5_pendantAt 2 = .ok (.iload_n 3, 1) := by decide +kernel
theorem dX5_pendantAt_3 : decode cX5_pendantAt 3 = .ok (.aload_n 0, 1) := by decide +kernel
theorem dX5_pendantAt_4 : decode cX5_pendantAt 4 = .ok (.getfield 7, 3) := by decide +kernel
theorem dX5_pendantAt_7 : decode cX5_pendantAt 7 = .ok (.iconst 0, 1) := by decide +kernel
theorem dX5_pendantAt_8 : decode cX5_pendantAt 8 = .ok (.iaload, 1) := by decide +kernel
theorem dX5_pendantAt_9 : decode cX5_pendantAt 9 = .ok (.if_icmp .ge 93, 3) := by decide +kernel
theorem dX5_pendantAt_12 : decode cX5_pendantAt 12 = .ok (.aload_n 0, 1) := by decide +kernel
theorem dX5_pendantAt_13 : decode cX5_pendantAt 13 = .ok (.iload_n 3, 1) := by decide +kernel
theorem dX5_pendantAt_14 : decode cX5_pendantAt 14 = .ok (.iload_n 1, 1) := by decide +kernel
theorem dX5_pendantAt_15 : decode cX5_pendantAt 15 = .ok (.invokevirtual 173, 3) := by decide +kernel
theorem dX5_pendantAt_18 : decode cX5_pendantAt 18 = .ok (.ifCond .eq 78, 3) := by decide +kernel
theorem dX5_pendantAt_21 : decode cX5_pendantAt 21 = .ok (.iconst 0, 1) := by decide +kernel
theorem dX5_pendantAt_22 : decode cX5_pendantAt 22 = .ok (.istore 4, 2) := by decide +kernel
theorem dX5_pendantAt_24 : decode cX5_pendantAt 24 = .ok (.iconst 0, 1) := by decide +kernel
theorem dX5_pendantAt_25 : decode cX5_pendantAt 25 = .ok (.istore 5, 2) := by decide +kernel
theorem dX5_pendantAt_27 : decode cX5_pendantAt 27 = .ok (.iload 5, 2) := by decide +kernel
theorem dX5_pendantAt_29 : decode cX5_pendantAt 29 = .ok (.aload_n 0, 1) := by decide +kernel
theorem dX5_pendantAt_30 : decode cX5_pendantAt 30 = .ok (.getfield 7, 3) := by decide +kernel
theorem dX5_pendantAt_33 : decode cX5_pendantAt 33 = .ok (.iconst 0, 1) := by decide +kernel
theorem dX5_pendantAt_34 : decode cX5_pendantAt 34 = .ok (.iaload, 1) := by decide +kernel
theorem dX5_pendantAt_35 : decode cX5_pendantAt 35 = .ok (.if_icmp .ge 53, 3) := by decide +kernel
theorem dX5_pendantAt_38 : decode cX5_pendantAt 38 = .ok (.iload 4, 2) := by decide +kernel
theorem dX5_pendantAt_40 : decode cX5_pendantAt 40 = .ok (.aload_n 0, 1) := by decide +kernel
theorem dX5_pendantAt_41 : decode cX5_pendantAt 41 = .ok (.iload 5, 2) := by decide +kernel
theorem dX5_pendantAt_43 : decode cX5_pendantAt 43 = .ok (.iload_n 1, 1) := by decide +kernel
theorem dX5_pendantAt_44 : decode cX5_pendantAt 44 = .ok (.invokevirtual 173, 3) := by decide +kernel
theorem dX5_pendantAt_47 : decode cX5_pendantAt 47 = .ok (.ifCond .eq 31, 3) := by decide +kernel
theorem dX5_pendantAt_50 : decode cX5_pendantAt 50 = .ok (.aload_n 0, 1) := by decide +kernel
theorem dX5_pendantAt_51 : decode cX5_pendantAt 51 = .ok (.getfield 7, 3) := by decide +kernel
theorem dX5_pendantAt_54 : decode cX5_pendantAt 54 = .ok (.sipush 146, 3) := by decide +kernel
theorem dX5_pendantAt_57 : decode cX5_pendantAt 57 = .ok (.iload 5, 2) := by decide +kernel
theorem dX5_pendantAt_59 : decode cX5_pendantAt 59 = .ok (.iadd, 1) := by decide +kernel
theorem dX5_pendantAt_60 : decode cX5_pendantAt 60 = .ok (.iaload, 1) := by decide +kernel
theorem dX5_pendantAt_61 : decode cX5_pendantAt 61 = .ok (.aload_n 0, 1) := by decide +kernel
theorem dX5_pendantAt_62 : decode cX5_pendantAt 62 = .ok (.getfield 7, 3) := by decide +kernel
theorem dX5_pendantAt_65 : decode cX5_pendantAt 65 = .ok (.sipush 146, 3) := by decide +kernel
theorem dX5_pendantAt_68 : decode cX5_pendantAt 68 = .ok (.iload_n 3, 1) := by decide +kernel
theorem dX5_pendantAt_69 : decode cX5_pendantAt 69 = .ok (.iadd, 1) := by decide +kernel
theorem dX5_pendantAt_70 : decode cX5_pendantAt 70 = .ok (.iaload, 1) := by decide +kernel
theorem dX5_pendantAt_71 : decode cX5_pendantAt 71 = .ok (.if_icmp .ge 7, 3) := by decide +kernel
theorem dX5_pendantAt_74 : decode cX5_pendantAt 74 = .ok (.iconst 1, 1) := by decide +kernel
theorem dX5_pendantAt_75 : decode cX5_pendantAt 75 = .ok (.goto 4, 3) := by decide +kernel
theorem dX5_pendantAt_78 : decode cX5_pendantAt 78 = .ok (.iconst 0, 1) := by decide +kernel
theorem dX5_pendantAt_79 : decode cX5_pendantAt 79 = .ok (.iadd, 1) := by decide +kernel
theorem dX5_pendantAt_80 : decode cX5_pendantAt 80 = .ok (.istore 4, 2) := by decide +kernel
theorem dX5_pendantAt_82 : decode cX5_pendantAt 82 = .ok (.iinc 5 1, 3) := by decide +kernel
theorem dX5_pendantAt_85 : decode cX5_pendantAt 85 = .ok (.goto (-58), 3) := by decide +kernel
theorem dX5_pendantAt_88 : decode cX5_pendantAt 88 = .ok (.iload 4, 2) := by decide +kernel
theorem dX5_pendantAt_90 : decode cX5_pendantAt 90 = .ok (.iload_n 2, 1) := by decide +kernel
theorem dX5_pendantAt_91 : decode cX5_pendantAt 91 = .ok (.if_icmp .ne 5, 3) := by decide +kernel
theorem dX5_pendantAt_94 : decode cX5_pendantAt 94 = .ok (.iload_n 3, 1) := by decide +kernel
theorem dX5_pendantAt_95 : decode cX5_pendantAt 95 = .ok (.ireturn, 1) := by decide +kernel
theorem dX5_pendantAt_96 : decode cX5_pendantAt 96 = .ok (.iinc 3 1, 3) := by decide +kernel
theorem dX5_pendantAt_99 : decode cX5_pendantAt 99 = .ok (.goto (-97), 3) := by decide +kernel
theorem dX5_pendantAt_102 : decode cX5_pendantAt 102 = .ok (.bipush (-4), 2) := by decide +kernel
theorem dX5_pendantAt_104 : decode cX5_pendantAt 104 = .ok (.ireturn, 1) := by decide +kernel
theorem dX5_pendant_0 : decode cX5_pendant 0 = .ok (.aload_n 0, 1) := by decide +kernel
theorem dX5_pendant_1 : decode cX5_pendant 1 = .ok (.iload_n 1, 1) := by decide +kernel
theorem dX5_pendant_2 : decode cX5_pendant 2 = .ok (.invokevirtual 183, 3) := by decide +kernel
theorem dX5_pendant_5 : decode cX5_pendant 5 = .ok (.ifCond .eq 16, 3) := by decide +kernel
theorem dX5_pendant_8 : decode cX5_pendant 8 = .ok (.iload_n 2, 1) := by decide +kernel
theorem dX5_pendant_9 : decode cX5_pendant 9 = .ok (.ifCond .lt 12, 3) := by decide +kernel
theorem dX5_pendant_12 : decode cX5_pendant 12 = .ok (.aload_n 0, 1) := by decide +kernel
theorem dX5_pendant_13 : decode cX5_pendant 13 = .ok (.iload_n 1, 1) := by decide +kernel
theorem dX5_pendant_14 : decode cX5_pendant 14 = .ok (.iload_n 2, 1) := by decide +kernel
theorem dX5_pendant_15 : decode cX5_pendant 15 = .ok (.invokevirtual 192, 3) := by decide +kernel
theorem dX5_pendant_18 : decode cX5_pendant 18 = .ok (.goto 4, 3) := by decide +kernel
theorem dX5_pendant_21 : decode cX5_pendant 21 = .ok (.iconst (-1), 1) := by decide +kernel
theorem dX5_pendant_22 : decode cX5_pendant 22 = .ok (.ireturn, 1) := by decide +kernel
theorem dX5_remember_0 : decode cX5_remember 0 = .ok (.aload_n 0, 1) := by decide +kernel
theorem dX5_remember_1 : decode cX5_remember 1 = .ok (.getfield 122, 3) := by decide +kernel
theorem dX5_remember_4 : decode cX5_remember 4 = .ok (.bipush 8, 2) := by decide +kernel
theorem dX5_remember_6 : decode cX5_remember 6 = .ok (.if_icmp .ne 44, 3) := by decide +kernel
theorem dX5_remember_9 : decode cX5_remember 9 = .ok (.iconst 0, 1) := by decide +kernel
theorem dX5_remember_10 : decode cX5_remember 10 = .ok (.istore_n 1, 1) := by decide +kernel
theorem dX5_remember_11 : decode cX5_remember 11 = .ok (.iload_n 1, 1) := by decide +kernel
theorem dX5_remember_12 : decode cX5_remember 12 = .ok (.sipush 1134, 3) := by decide +kernel
theorem dX5_remember_15 : decode cX5_remember 15 = .ok (.if_icmp .ge 25, 3) := by decide +kernel
theorem dX5_remember_18 : decode cX5_remember 18 = .ok (.aload_n 0, 1) := by decide +kernel
theorem dX5_remember_19 : decode cX5_remember 19 = .ok (.getfield 13, 3) := by decide +kernel
theorem dX5_remember_22 : decode cX5_remember 22 = .ok (.iload_n 1, 1) := by decide +kernel
theorem dX5_remember_23 : decode cX5_remember 23 = .ok (.aload_n 0, 1) := by decide +kernel
theorem dX5_remember_24 : decode cX5_remember 24 = .ok (.getfield 13, 3) := by decide +kernel
theorem dX5_remember_27 : decode cX5_remember 27 = .ok (.iload_n 1, 1) := by decide +kernel
theorem dX5_remember_28 : decode cX5_remember 28 = .ok (.sipush 162, 3) := by decide +kernel
theorem dX5_remember_31 : decode cX5_remember 31 = .ok (.iadd, 1) := by decide +kernel
theorem dX5_remember_32 : decode cX5_remember 32 = .ok (.iaload, 1) := by decide +kernel
theorem dX5_remember_33 : decode cX5_remember 33 = .ok (.iastore, 1) := by decide +kernel
theorem dX5_remember_34 : decode cX5_remember 34 = .ok (.iinc 1 1, 3) := by decide +kernel
theorem dX5_remember_37 : decode cX5_remember 37 = .ok (.goto (-26), 3) := by decide +kernel
theorem dX5_remember_40 : decode cX5_remember 40 = .ok (.aload_n 0, 1) := by decide +kernel
theorem dX5_remember_41 : decode cX5_remember 41 = .ok (.dup, 1) := by decide +kernel
theorem dX5_remember_42 : decode cX5_remember 42 = .ok (.getfield 122, 3) := by decide +kernel
theorem dX5_remember_45 : decode cX5_remember 45 = .ok (.iconst 1, 1) := by decide +kernel
theorem dX5_remember_46 : decode cX5_remember 46 = .ok (.isub, 1) := by decide +kernel
theorem dX5_remember_47 : decode cX5_remember 47 = .ok (.putfield 122, 3) := by decide +kernel
theorem dX5_remember_50 : decode cX5_remember 50 = .ok (.aload_n 0, 1) := by decide +kernel
theorem dX5_remember_51 : decode cX5_remember 51 = .ok (.getfield 7, 3) := by decide +kernel
theorem dX5_remember_54 : decode cX5_remember 54 = .ok (.iconst 0, 1) := by decide +kernel
theorem dX5_remember_55 : decode cX5_remember 55 = .ok (.aload_n 0, 1) := by decide +kernel
theorem dX5_remember_56 : decode cX5_remember 56 = .ok (.getfield 13, 3) := by decide +kernel
theorem dX5_remember_59 : decode cX5_remember 59 = .ok (.sipush 162, 3) := by decide +kernel
theorem dX5_remember_62 : decode cX5_remember 62 = .ok (.aload_n 0, 1) := by decide +kernel
theorem dX5_remember_63 : decode cX5_remember 63 = .ok (.getfield 122, 3) := by decide +kernel
theorem dX5_remember_66 : decode cX5_remember 66 = .ok (.imul, 1) := by decide +kernel
theorem dX5_remember_67 : decode cX5_remember 67 = .ok (.invokestatic 118, 3) := by decide +kernel
theorem dX5_remember_70 : decode cX5_remember 70 = .ok (.aload_n 0, 1) := by decide +kernel
theorem dX5_remember_71 : decode cX5_remember 71 = .ok (.dup, 1) := by decide +kernel
theorem dX5_remember_72 : decode cX5_remember 72 = .ok (.getfield 122, 3) := by decide +kernel
theorem dX5_remember_75 : decode cX5_remember 75 = .ok (.iconst 1, 1) := by decide +kernel
theorem dX5_remember_76 : decode cX5_remember 76 = .ok (.iadd, 1) := by decide +kernel
theorem dX5_remember_77 : decode cX5_remember 77 = .ok (.putfield 122, 3) := by decide +kernel
theorem dX5_remember_80 : decode cX5_remember 80 = .ok (.return_, 1) := by decide +kernel
theorem dX5_power_0 : decode cX5_power 0 = .ok (.iconst 1, 1) := by decide +kernel
theorem dX5_power_1 : decode cX5_power 1 = .ok (.istore_n 1, 1) := by decide +kernel
theorem dX5_power_2 : decode cX5_power 2 = .ok (.iconst 0, 1) := by decide +kernel
theorem dX5_power_3 : decode cX5_power 3 = .ok (.istore_n 2, 1) := by decide +kernel
theorem dX5_power_4 : decode cX5_power 4 = .ok (.iload_n 2, 1) := by decide +kernel
theorem dX5_power_5 : decode cX5_power 5 = .ok (.iload_n 0, 1) := by decide +kernel
theorem dX5_power_6 : decode cX5_power 6 = .ok (.if_icmp .ge 14, 3) := by decide +kernel
theorem dX5_power_9 : decode cX5_power 9 = .ok (.iload_n 1, 1) := by decide +kernel
theorem dX5_power_10 : decode cX5_power 10 = .ok (.bipush 10, 2) := by decide +kernel
theorem dX5_power_12 : decode cX5_power 12 = .ok (.imul, 1) := by decide +kernel
theorem dX5_power_13 : decode cX5_power 13 = .ok (.istore_n 1, 1) := by decide +kernel
theorem dX5_power_14 : decode cX5_power 14 = .ok (.iinc 2 1, 3) := by decide +kernel
theorem dX5_power_17 : decode cX5_power 17 = .ok (.goto (-13), 3) := by decide +kernel
theorem dX5_power_20 : decode cX5_power 20 = .ok (.iload_n 1, 1) := by decide +kernel
theorem dX5_power_21 : decode cX5_power 21 = .ok (.ireturn, 1) := by decide +kernel
theorem dX5_clusterFor_0 : decode cX5_clusterFor 0 = .ok (.iload_n 0, 1) := by decide +kernel
theorem dX5_clusterFor_1 : decode cX5_clusterFor 1 = .ok (.ifCond .ne 7, 3) := by decide +kernel
theorem dX5_clusterFor_4 : decode cX5_clusterFor 4 = .ok (.iconst 0, 1) := by decide +kernel
theorem dX5_clusterFor_5 : decode cX5_clusterFor 5 = .ok (.goto 28, 3) := by decide +kernel
theorem dX5_clusterFor_8 : decode cX5_clusterFor 8 = .ok (.iload_n 1, 1) := by decide +kernel
theorem dX5_clusterFor_9 : decode cX5_clusterFor 9 = .ok (.ifCond .le 10, 3) := by decide +kernel
theorem dX5_clusterFor_12 : decode cX5_clusterFor 12 = .ok (.bipush 10, 2) := by decide +kernel
theorem dX5_clusterFor_14 : decode cX5_clusterFor 14 = .ok (.iload_n 0, 1) := by decide +kernel
theorem dX5_clusterFor_15 : decode cX5_clusterFor 15 = .ok (.iadd, 1) := by decide +kernel
theorem dX5_clusterFor_16 : decode cX5_clusterFor 16 = .ok (.goto 17, 3) := by decide +kernel
theorem dX5_clusterFor_19 : decode cX5_clusterFor 19 = .ok (.iload_n 0, 1) := by decide +kernel
theorem dX5_clusterFor_20 : decode cX5_clusterFor 20 = .ok (.iconst 1, 1) := by decide +kernel
theorem dX5_clusterFor_21 : decode cX5_clusterFor 21 = .ok (.if_icmp .ne 8, 3) := by decide +kernel
theorem dX5_clusterFor_24 : decode cX5_clusterFor 24 = .ok (.bipush 31, 2) := by decide +kernel
theorem dX5_clusterFor_26 : decode cX5_clusterFor 26 = .ok (.goto 7, 3) := by decide +kernel
theorem dX5_clusterFor_29 : decode cX5_clusterFor 29 = .ok (.bipush 20, 2) := by decide +kernel
theorem dX5_clusterFor_31 : decode cX5_clusterFor 31 = .ok (.iload_n 0, 1) := by decide +kernel
theorem dX5_clusterFor_32 : decode cX5_clusterFor 32 = .ok (.iadd, 1) := by decide +kernel
theorem dX5_clusterFor_33 : decode cX5_clusterFor 33 = .ok (.ireturn, 1) := by decide +kernel
theorem dX5_workFor_0 : decode cX5_workFor 0 = .ok (.iconst 0, 1) := by decide +kernel
theorem dX5_workFor_1 : decode cX5_workFor 1 = .ok (.istore_n 3, 1) := by decide +kernel
theorem dX5_workFor_2 : decode cX5_workFor 2 = .ok (.iload_n 2, 1) := by decide +kernel
theorem dX5_workFor_3 : decode cX5_workFor 3 = .ok (.istore 4, 2) := by decide +kernel
theorem dX5_workFor_5 : decode cX5_workFor 5 = .ok (.iconst 0, 1) := by decide +kernel
theorem dX5_workFor_6 : decode cX5_workFor 6 = .ok (.istore 5, 2) := by decide +kernel
theorem dX5_workFor_8 : decode cX5_workFor 8 = .ok (.iload 5, 2) := by decide +kernel
theorem dX5_workFor_10 : decode cX5_workFor 10 = .ok (.aload_n 0, 1) := by decide +kernel
theorem dX5_workFor_11 : decode cX5_workFor 11 = .ok (.getfield 7, 3) := by decide +kernel
theorem dX5_workFor_14 : decode cX5_workFor 14 = .ok (.bipush 18, 2) := by decide +kernel
theorem dX5_workFor_16 : decode cX5_workFor 16 = .ok (.iload_n 1, 1) := by decide +kernel
theorem dX5_workFor_17 : decode cX5_workFor 17 = .ok (.iadd, 1) := by decide +kernel
theorem dX5_workFor_18 : decode cX5_workFor 18 = .ok (.iaload, 1) := by decide +kernel
theorem dX5_workFor_19 : decode cX5_workFor 19 = .ok (.if_icmp .ge 63, 3) := by decide +kernel
theorem dX5_workFor_22 : decode cX5_workFor 22 = .ok (.iload 4, 2) := by decide +kernel
theorem dX5_workFor_24 : decode cX5_workFor 24 = .ok (.bipush 10, 2) := by decide +kernel
theorem dX5_workFor_26 : decode cX5_workFor 26 = .ok (.irem, 1) := by decide +kernel
theorem dX5_workFor_27 : decode cX5_workFor 27 = .ok (.iload 5, 2) := by decide +kernel
theorem dX5_workFor_29 : decode cX5_workFor 29 = .ok (.invokestatic 195, 3) := by decide +kernel
theorem dX5_workFor_32 : decode cX5_workFor 32 = .ok (.istore 6, 2) := by decide +kernel
theorem dX5_workFor_34 : decode cX5_workFor 34 = .ok (.iload 4, 2) := by decide +kernel
theorem dX5_workFor_36 : decode cX5_workFor 36 = .ok (.bipush 10, 2) := by decide +kernel
theorem dX5_workFor_38 : decode cX5_workFor 38 = .ok (.idiv, 1) := by decide +kernel
theorem dX5_workFor_39 : decode cX5_workFor 39 = .ok (.istore 4, 2) := by decide +kernel
theorem dX5_workFor_41 : decode cX5_workFor 41 = .ok (.iload_n 3, 1) := by decide +kernel
theorem dX5_workFor_42 : decode cX5_workFor 42 = .ok (.iload 6, 2) := by decide +kernel
theorem dX5_workFor_44 : decode cX5_workFor 44 = .ok (.aload_n 0, 1) := by decide +kernel
theorem dX5_workFor_45 : decode cX5_workFor 45 = .ok (.iload_n 1, 1) := by decide +kernel
theorem dX5_workFor_46 : decode cX5_workFor 46 = .ok (.iload 5, 2) := by decide +kernel
theorem dX5_workFor_48 : decode cX5_workFor 48 = .ok (.invokevirtual 134, 3) := by decide +kernel
theorem dX5_workFor_51 : decode cX5_workFor 51 = .ok (.if_icmp .ne 7, 3) := by decide +kernel
theorem dX5_workFor_54 : decode cX5_workFor 54 = .ok (.iconst 0, 1) := by decide +kernel
theorem dX5_workFor_55 : decode cX5_workFor 55 = .ok (.goto 19, 3) := by decide +kernel
theorem dX5_workFor_58 : decode cX5_workFor 58 = .ok (.iload 6, 2) := by decide +kernel
theorem dX5_workFor_60 : decode cX5_workFor 60 = .ok (.invokestatic 153, 3) := by decide +kernel
theorem dX5_workFor_63 : decode cX5_workFor 63 = .ok (.aload_n 0, 1) := by decide +kernel
theorem dX5_workFor_64 : decode cX5_workFor 64 = .ok (.iload_n 1, 1) := by decide +kernel
theorem dX5_workFor_65 : decode cX5_workFor 65 = .ok (.iload 5, 2) := by decide +kernel
theorem dX5_workFor_67 : decode cX5_workFor 67 = .ok (.invokevirtual 134, 3) := by decide +kernel
theorem dX5_workFor_70 : decode cX5_workFor 70 = .ok (.invokestatic 153, 3) := by decide +kernel
theorem dX5_workFor_73 : decode cX5_workFor 73 = .ok (.iadd, 1) := by decide +kernel
theorem dX5_workFor_74 : decode cX5_workFor 74 = .ok (.iadd, 1) := by decide +kernel
theorem dX5_workFor_75 : decode cX5_workFor 75 = .ok (.istore_n 3, 1) := by decide +kernel
theorem dX5_workFor_76 : decode cX5_workFor 76 = .ok (.iinc 5 1, 3) := by decide +kernel
theorem dX5_workFor_79 : decode cX5_workFor 79 = .ok (.goto (-71), 3) := by decide +kernel
theorem dX5_workFor_82 : decode cX5_workFor 82 = .ok (.iload_n 3, 1) := by decide +kernel
theorem dX5_workFor_83 : decode cX5_workFor 83 = .ok (.ireturn, 1) := by decide +kernel
theorem dX5_ties_0 : decode cX5_ties 0 = .ok (.aload_n 0, 1) := by decide +kernel
theorem dX5_ties_1 : decode cX5_ties 1 = .ok (.invokevirtual 198, 3) := by decide +kernel
theorem dX5_ties_4 : decode cX5_ties 4 = .ok (.iload_n 2, 1) := by decide +kernel
theorem dX5_ties_5 : decode cX5_ties 5 = .ok (.istore_n 3, 1) := by decide +kernel
theorem dX5_ties_6 : decode cX5_ties 6 = .ok (.iconst 0, 1) := by decide +kernel
theorem dX5_ties_7 : decode cX5_ties 7 = .ok (.istore 4, 2) := by decide +kernel
theorem dX5_ties_9 : decode cX5_ties 9 = .ok (.iload 4, 2) := by decide +kernel
theorem dX5_ties_11 : decode cX5_ties 11 = .ok (.aload_n 0, 1) := by decide +kernel
theorem dX5_ties_12 : decode cX5_ties 12 = .ok (.getfield 7, 3) := by decide +kernel
theorem dX5_ties_15 : decode cX5_ties 15 = .ok (.bipush 18, 2) := by decide +kernel
theorem dX5_ties_17 : decode cX5_ties 17 = .ok (.iload_n 1, 1) := by decide +kernel
theorem dX5_ties_18 : decode cX5_ties 18 = .ok (.iadd, 1) := by decide +kernel
theorem dX5_ties_19 : decode cX5_ties 19 = .ok (.iaload, 1) := by decide +kernel
theorem dX5_ties_20 : decode cX5_ties 20 = .ok (.if_icmp .ge 37, 3) := by decide +kernel
theorem dX5_ties_23 : decode cX5_ties 23 = .ok (.aload_n 0, 1) := by decide +kernel
theorem dX5_ties_24 : decode cX5_ties 24 = .ok (.getfield 7, 3) := by decide +kernel
theorem dX5_ties_27 : decode cX5_ties 27 = .ok (.bipush 34, 2) := by decide +kernel
theorem dX5_ties_29 : decode cX5_ties 29 = .ok (.iconst 4, 1) := by decide +kernel
theorem dX5_ties_30 : decode cX5_ties 30 = .ok (.iload_n 1, 1) := by decide +kernel
theorem dX5_ties_31 : decode cX5_ties 31 = .ok (.imul, 1) := by decide +kernel
theorem dX5_ties_32 : decode cX5_ties 32 = .ok (.iadd, 1) := by decide +kernel
theorem dX5_ties_33 : decode cX5_ties 33 = .ok (.iload 4, 2) := by decide +kernel
theorem dX5_ties_35 : decode cX5_ties 35 = .ok (.iadd, 1) := by decide +kernel
theorem dX5_ties_36 : decode cX5_ties 36 = .ok (.iload_n 3, 1) := by decide +kernel
theorem dX5_ties_37 : decode cX5_ties 37 = .ok (.bipush 10, 2) := by decide +kernel
theorem dX5_ties_39 : decode cX5_ties 39 = .ok (.irem, 1) := by decide +kernel
theorem dX5_ties_40 : decode cX5_ties 40 = .ok (.iload 4, 2) := by decide +kernel
theorem dX5_ties_42 : decode cX5_ties 42 = .ok (.invokestatic 195, 3) := by decide +kernel
theorem dX5_ties_45 : decode cX5_ties 45 = .ok (.iastore, 1) := by decide +kernel
theorem dX5_ties_46 : decode cX5_ties 46 = .ok (.iload_n 3, 1) := by decide +kernel
theorem dX5_ties_47 : decode cX5_ties 47 = .ok (.bipush 10, 2) := by decide +kernel
theorem dX5_ties_49 : decode cX5_ties 49 = .ok (.idiv, 1) := by decide +kernel
theorem dX5_ties_50 : decode cX5_ties 50 = .ok (.istore_n 3, 1) := by decide +kernel
theorem dX5_ties_51 : decode cX5_ties 51 = .ok (.iinc 4 1, 3) := by decide +kernel
theorem dX5_ties_54 : decode cX5_ties 54 = .ok (.goto (-45), 3) := by decide +kernel
theorem dX5_ties_57 : decode cX5_ties 57 = .ok (.return_, 1) := by decide +kernel
theorem dX5_tie_0 : decode cX5_tie 0 = .ok (.aload_n 0, 1) := by decide +kernel
theorem dX5_tie_1 : decode cX5_tie 1 = .ok (.iload_n 1, 1) := by decide +kernel
theorem dX5_tie_2 : decode cX5_tie 2 = .ok (.invokevirtual 156, 3) := by decide +kernel
theorem dX5_tie_5 : decode cX5_tie 5 = .ok (.ifCond .eq 7, 3) := by decide +kernel
theorem dX5_tie_8 : decode cX5_tie 8 = .ok (.iload_n 2, 1) := by decide +kernel
theorem dX5_tie_9 : decode cX5_tie 9 = .ok (.ifCond .ge 5, 3) := by decide +kernel
theorem dX5_tie_12 : decode cX5_tie 12 = .ok (.iconst (-1), 1) := by decide +kernel
theorem dX5_tie_13 : decode cX5_tie 13 = .ok (.ireturn, 1) := by decide +kernel
theorem dX5_tie_14 : decode cX5_tie 14 = .ok (.iload_n 2, 1) := by decide +kernel
theorem dX5_tie_15 : decode cX5_tie 15 = .ok (.aload_n 0, 1) := by decide +kernel
theorem dX5_tie_16 : decode cX5_tie 16 = .ok (.getfield 7, 3) := by decide +kernel
theorem dX5_tie_19 : decode cX5_tie 19 = .ok (.bipush 18, 2) := by decide +kernel
theorem dX5_tie_21 : decode cX5_tie 21 = .ok (.iload_n 1, 1) := by decide +kernel
theorem dX5_tie_22 : decode cX5_tie 22 = .ok (.iadd, 1) := by decide +kernel
theorem dX5_tie_23 : decode cX5_tie 23 = .ok (.iaload, 1) := by decide +kernel
theorem dX5_tie_24 : decode cX5_tie 24 = .ok (.invokestatic 201, 3) := by decide +kernel
theorem dX5_tie_27 : decode cX5_tie 27 = .ok (.if_icmp .lt 6, 3) := by decide +kernel
theorem dX5_tie_30 : decode cX5_tie 30 = .ok (.bipush (-2), 2) := by decide +kernel
theorem dX5_tie_32 : decode cX5_tie 32 = .ok (.ireturn, 1) := by decide +kernel
theorem dX5_tie_33 : decode cX5_tie 33 = .ok (.aload_n 0, 1) := by decide +kernel
theorem dX5_tie_34 : decode cX5_tie 34 = .ok (.iload_n 1, 1) := by decide +kernel
theorem dX5_tie_35 : decode cX5_tie 35 = .ok (.iload_n 2, 1) := by decide +kernel
theorem dX5_tie_36 : decode cX5_tie 36 = .ok (.invokevirtual 204, 3) := by decide +kernel
theorem dX5_tie_39 : decode cX5_tie 39 = .ok (.istore_n 3, 1) := by decide +kernel
theorem dX5_tie_40 : decode cX5_tie 40 = .ok (.aload_n 0, 1) := by decide +kernel
theorem dX5_tie_41 : decode cX5_tie 41 = .ok (.iload_n 1, 1) := by decide +kernel
theorem dX5_tie_42 : decode cX5_tie 42 = .ok (.iload_n 2, 1) := by decide +kernel
theorem dX5_tie_43 : decode cX5_tie 43 = .ok (.invokevirtual 207, 3) := by decide +kernel
theorem dX5_tie_46 : decode cX5_tie 46 = .ok (.iload_n 3, 1) := by decide +kernel
theorem dX5_tie_47 : decode cX5_tie 47 = .ok (.ireturn, 1) := by decide +kernel
theorem dX5_more_0 : decode cX5_more 0 = .ok (.aload_n 0, 1) := by decide +kernel
theorem dX5_more_1 : decode cX5_more 1 = .ok (.iload_n 1, 1) := by decide +kernel
theorem dX5_more_2 : decode cX5_more 2 = .ok (.invokevirtual 156, 3) := by decide +kernel
theorem dX5_more_5 : decode cX5_more 5 = .ok (.ifCond .eq 17, 3) := by decide +kernel
theorem dX5_more_8 : decode cX5_more 8 = .ok (.iload_n 2, 1) := by decide +kernel
theorem dX5_more_9 : decode cX5_more 9 = .ok (.i2l, 1) := by decide +kernel
