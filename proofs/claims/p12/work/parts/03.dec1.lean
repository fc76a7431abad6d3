theorem gdX4_write_26 : (decode cX4_write 26 = .ok (.getfield 19, 3)) ∧ (decode cX4_write 29 = .ok (.iconst 1, 1)) ∧ (decode cX4_write 30 = .ok (.iadd, 1)) ∧ (decode cX4_write 31 = .ok (.putfield 19, 3)) ∧ (decode cX4_write 34 = .ok (.return_, 1)) := by decide +kernel
theorem dX4_write_26 : decode cX4_write 26 = .ok (.getfield 19, 3) := gdX4_write_26.1
theorem dX4_write_29 : decode cX4_write 29 = .ok (.iconst 1, 1) := gdX4_write_26.2.1
theorem dX4_write_30 : decode cX4_write 30 = .ok (.iadd, 1) := gdX4_write_26.2.2.1
theorem dX4_write_31 : decode cX4_write 31 = .ok (.putfield 19, 3) := gdX4_write_26.2.2.2.1
theorem dX4_write_34 : decode cX4_write 34 = .ok (.return_, 1) := gdX4_write_26.2.2.2.2
theorem gdX4_goalOf_0 : (decode cX4_goalOf 0 = .ok (.aload_n 0, 1)) ∧ (decode cX4_goalOf 1 = .ok (.iconst 0, 1)) ∧ (decode cX4_goalOf 2 = .ok (.putfield 23, 3)) ∧ (decode cX4_goalOf 5 = .ok (.iconst 0, 1)) ∧ (decode cX4_goalOf 6 = .ok (.istore 4, 2)) ∧ (decode cX4_goalOf 8 = .ok (.iload 4, 2)) ∧ (decode cX4_goalOf 10 = .ok (.aload_n 0, 1)) ∧ (decode cX4_goalOf 11 = .ok (.getfield 19, 3)) ∧ (decode cX4_goalOf 14 = .ok (.if_icmp .ge 151, 3)) ∧ (decode cX4_goalOf 17 = .ok (.iload 4, 2)) ∧ (decode cX4_goalOf 19 = .ok (.sipush 400, 3)) ∧ (decode cX4_goalOf 22 = .ok (.if_icmp .ge 143, 3)) ∧ (decode cX4_goalOf 25 = .ok (.aload_n 0, 1)) ∧ (decode cX4_goalOf 26 = .ok (.getfield 9, 3)) ∧ (decode cX4_goalOf 29 = .ok (.iload 4, 2)) ∧ (decode cX4_goalOf 31 = .ok (.iaload, 1)) := by decide +kernel
theorem dX4_goalOf_0 : decode cX4_goalOf 0 = .ok (.aload_n 0, 1) := gdX4_goalOf_0.1
theorem dX4_goalOf_1 : decode cX4_goalOf 1 = .ok (.iconst 0, 1) := gdX4_goalOf_0.2.1
theorem dX4_goalOf_2 : decode cX4_goalOf 2 = .ok (.putfield 23, 3) := gdX4_goalOf_0.2.2.1
theorem dX4_goalOf_5 : decode cX4_goalOf 5 = .ok (.iconst 0, 1) := gdX4_goalOf_0.2.2.2.1
theorem dX4_goalOf_6 : decode cX4_goalOf 6 = .ok (.istore 4, 2) := gdX4_goalOf_0.2.2.2.2.1
theorem dX4_goalOf_8 : decode cX4_goalOf 8 = .ok (.iload 4, 2) := gdX4_goalOf_0.2.2.2.2.2.1
theorem dX4_goalOf_10 : decode cX4_goalOf 10 = .ok (.aload_n 0, 1) := gdX4_goalOf_0.2.2.2.2.2.2.1
theorem dX4_goalOf_11 : decode cX4_goalOf 11 = .ok (.getfield 19, 3) := gdX4_goalOf_0.2.2.2.2.2.2.2.1
theorem dX4_goalOf_14 : decode cX4_goalOf 14 = .ok (.if_icmp .ge 151, 3) := gdX4_goalOf_0.2.2.2.2.2.2.2.2.1
theorem dX4_goalOf_17 : decode cX4_goalOf 17 = .ok (.iload 4, 2) := gdX4_goalOf_0.2.2.2.2.2.2.2.2.2.1
theorem dX4_goalOf_19 : decode cX4_goalOf 19 = .ok (.sipush 400, 3) := gdX4_goalOf_0.2.2.2.2.2.2.2.2.2.2.1
theorem dX4_goalOf_22 : decode cX4_goalOf 22 = .ok (.if_icmp .ge 143, 3) := gdX4_goalOf_0.2.2.2.2.2.2.2.2.2.2.2.1
theorem dX4_goalOf_25 : decode cX4_goalOf 25 = .ok (.aload_n 0, 1) := gdX4_goalOf_0.2.2.2.2.2.2.2.2.2.2.2.2.1
theorem dX4_goalOf_26 : decode cX4_goalOf 26 = .ok (.getfield 9, 3) := gdX4_goalOf_0.2.2.2.2.2.2.2.2.2.2.2.2.2.1
theorem dX4_goalOf_29 : decode cX4_goalOf 29 = .ok (.iload 4, 2) := gdX4_goalOf_0.2.2.2.2.2.2.2.2.2.2.2.2.2.2.1
theorem dX4_goalOf_31 : decode cX4_goalOf 31 = .ok (.iaload, 1) := gdX4_goalOf_0.2.2.2.2.2.2.2.2.2.2.2.2.2.2.2
theorem gdX4_goalOf_32 : (decode cX4_goalOf 32 = .ok (.bipush 31, 2)) ∧ (decode cX4_goalOf 34 = .ok (.iand, 1)) ∧ (decode cX4_goalOf 35 = .ok (.istore 5, 2)) ∧ (decode cX4_goalOf 37 = .ok (.aload_n 0, 1)) ∧ (decode cX4_goalOf 38 = .ok (.getfield 9, 3)) ∧ (decode cX4_goalOf 41 = .ok (.iload 4, 2)) ∧ (decode cX4_goalOf 43 = .ok (.iaload, 1)) ∧ (decode cX4_goalOf 44 = .ok (.iconst 5, 1)) ∧ (decode cX4_goalOf 45 = .ok (.ishr, 1)) ∧ (decode cX4_goalOf 46 = .ok (.istore 6, 2)) ∧ (decode cX4_goalOf 48 = .ok (.iload 5, 2)) ∧ (decode cX4_goalOf 50 = .ok (.ifCond .ne 6, 3)) ∧ (decode cX4_goalOf 53 = .ok (.iload 6, 2)) ∧ (decode cX4_goalOf 55 = .ok (.ireturn, 1)) ∧ (decode cX4_goalOf 56 = .ok (.iload 5, 2)) ∧ (decode cX4_goalOf 58 = .ok (.iconst 1, 1)) := by decide +kernel
theorem dX4_goalOf_32 : decode cX4_goalOf 32 = .ok (.bipush 31, 2) := gdX4_goalOf_32.1
theorem dX4_goalOf_34 : decode cX4_goalOf 34 = .ok (.iand, 1) := gdX4_goalOf_32.2.1
theorem dX4_goalOf_35 : decode cX4_goalOf 35 = .ok (.istore 5, 2) := gdX4_goalOf_32.2.2.1
theorem dX4_goalOf_37 : decode cX4_goalOf 37 = .ok (.aload_n 0, 1) := gdX4_goalOf_32.2.2.2.1
theorem dX4_goalOf_38 : decode cX4_goalOf 38 = .ok (.getfield 9, 3) := gdX4_goalOf_32.2.2.2.2.1
theorem dX4_goalOf_41 : decode cX4_goalOf 41 = .ok (.iload 4, 2) := gdX4_goalOf_32.2.2.2.2.2.1
theorem dX4_goalOf_43 : decode cX4_goalOf 43 = .ok (.iaload, 1) := gdX4_goalOf_32.2.2.2.2.2.2.1
theorem dX4_goalOf_44 : decode cX4_goalOf 44 = .ok (.iconst 5, 1) := gdX4_goalOf_32.2.2.2.2.2.2.2.1
theorem dX4_goalOf_45 : decode cX4_goalOf 45 = .ok (.ishr, 1) := gdX4_goalOf_32.2.2.2.2.2.2.2.2.1
theorem dX4_goalOf_46 : decode cX4_goalOf 46 = .ok (.istore 6, 2) := gdX4_goalOf_32.2.2.2.2.2.2.2.2.2.1
theorem dX4_goalOf_48 : decode cX4_goalOf 48 = .ok (.iload 5, 2) := gdX4_goalOf_32.2.2.2.2.2.2.2.2.2.2.1
theorem dX4_goalOf_50 : decode cX4_goalOf 50 = .ok (.ifCond .ne 6, 3) := gdX4_goalOf_32.2.2.2.2.2.2.2.2.2.2.2.1
theorem dX4_goalOf_53 : decode cX4_goalOf 53 = .ok (.iload 6, 2) := gdX4_goalOf_32.2.2.2.2.2.2.2.2.2.2.2.2.1
theorem dX4_goalOf_55 : decode cX4_goalOf 55 = .ok (.ireturn, 1) := gdX4_goalOf_32.2.2.2.2.2.2.2.2.2.2.2.2.2.1
theorem dX4_goalOf_56 : decode cX4_goalOf 56 = .ok (.iload 5, 2) := gdX4_goalOf_32.2.2.2.2.2.2.2.2.2.2.2.2.2.2.1
theorem dX4_goalOf_58 : decode cX4_goalOf 58 = .ok (.iconst 1, 1) := gdX4_goalOf_32.2.2.2.2.2.2.2.2.2.2.2.2.2.2.2
theorem gdX4_goalOf_59 : (decode cX4_goalOf 59 = .ok (.if_icmp .ne 15, 3)) ∧ (decode cX4_goalOf 62 = .ok (.aload_n 0, 1)) ∧ (decode cX4_goalOf 63 = .ok (.invokevirtual 32, 3)) ∧ (decode cX4_goalOf 66 = .ok (.lconst 0, 1)) ∧ (decode cX4_goalOf 67 = .ok (.lcmp, 1)) ∧ (decode cX4_goalOf 68 = .ok (.ifCond .eq 91, 3)) ∧ (decode cX4_goalOf 71 = .ok (.iload 6, 2)) ∧ (decode cX4_goalOf 73 = .ok (.ireturn, 1)) ∧ (decode cX4_goalOf 74 = .ok (.iload 5, 2)) ∧ (decode cX4_goalOf 76 = .ok (.iconst 2, 1)) ∧ (decode cX4_goalOf 77 = .ok (.if_icmp .ne 13, 3)) ∧ (decode cX4_goalOf 80 = .ok (.aload_n 0, 1)) ∧ (decode cX4_goalOf 81 = .ok (.iload 6, 2)) ∧ (decode cX4_goalOf 83 = .ok (.i2l, 1)) ∧ (decode cX4_goalOf 84 = .ok (.invokevirtual 36, 3)) ∧ (decode cX4_goalOf 87 = .ok (.goto 72, 3)) := by decide +kernel
theorem dX4_goalOf_59 : decode cX4_goalOf 59 = .ok (.if_icmp .ne 15, 3) := gdX4_goalOf_59.1
theorem dX4_goalOf_62 : decode cX4_goalOf 62 = .ok (.aload_n 0, 1) := gdX4_goalOf_59.2.1
theorem dX4_goalOf_63 : decode cX4_goalOf 63 = .ok (.invokevirtual 32, 3) := gdX4_goalOf_59.2.2.1
theorem dX4_goalOf_66 : decode cX4_goalOf 66 = .ok (.lconst 0, 1) := gdX4_goalOf_59.2.2.2.1
theorem dX4_goalOf_67 : decode cX4_goalOf 67 = .ok (.lcmp, 1) := gdX4_goalOf_59.2.2.2.2.1
theorem dX4_goalOf_68 : decode cX4_goalOf 68 = .ok (.ifCond .eq 91, 3) := gdX4_goalOf_59.2.2.2.2.2.1
theorem dX4_goalOf_71 : decode cX4_goalOf 71 = .ok (.iload 6, 2) := gdX4_goalOf_59.2.2.2.2.2.2.1
theorem dX4_goalOf_73 : decode cX4_goalOf 73 = .ok (.ireturn, 1) := gdX4_goalOf_59.2.2.2.2.2.2.2.1
theorem dX4_goalOf_74 : decode cX4_goalOf 74 = .ok (.iload 5, 2) := gdX4_goalOf_59.2.2.2.2.2.2.2.2.1
theorem dX4_goalOf_76 : decode cX4_goalOf 76 = .ok (.iconst 2, 1) := gdX4_goalOf_59.2.2.2.2.2.2.2.2.2.1
theorem dX4_goalOf_77 : decode cX4_goalOf 77 = .ok (.if_icmp .ne 13, 3) := gdX4_goalOf_59.2.2.2.2.2.2.2.2.2.2.1
theorem dX4_goalOf_80 : decode cX4_goalOf 80 = .ok (.aload_n 0, 1) := gdX4_goalOf_59.2.2.2.2.2.2.2.2.2.2.2.1
theorem dX4_goalOf_81 : decode cX4_goalOf 81 = .ok (.iload 6, 2) := gdX4_goalOf_59.2.2.2.2.2.2.2.2.2.2.2.2.1
theorem dX4_goalOf_83 : decode cX4_goalOf 83 = .ok (.i2l, 1) := gdX4_goalOf_59.2.2.2.2.2.2.2.2.2.2.2.2.2.1
theorem dX4_goalOf_84 : decode cX4_goalOf 84 = .ok (.invokevirtual 36, 3) := gdX4_goalOf_59.2.2.2.2.2.2.2.2.2.2.2.2.2.2.1
theorem dX4_goalOf_87 : decode cX4_goalOf 87 = .ok (.goto 72, 3) := gdX4_goalOf_59.2.2.2.2.2.2.2.2.2.2.2.2.2.2.2
theorem gdX4_goalOf_90 : (decode cX4_goalOf 90 = .ok (.iload 5, 2)) ∧ (decode cX4_goalOf 92 = .ok (.iconst 3, 1)) ∧ (decode cX4_goalOf 93 = .ok (.if_icmp .ne 18, 3)) ∧ (decode cX4_goalOf 96 = .ok (.aload_n 0, 1)) ∧ (decode cX4_goalOf 97 = .ok (.aload_n 2, 1)) ∧ (decode cX4_goalOf 98 = .ok (.aload_n 1, 1)) ∧ (decode cX4_goalOf 99 = .ok (.iload_n 3, 1)) ∧ (decode cX4_goalOf 100 = .ok (.iload 6, 2)) ∧ (decode cX4_goalOf 102 = .ok (.invokevirtual 40, 3)) ∧ (decode cX4_goalOf 105 = .ok (.invokevirtual 36, 3)) ∧ (decode cX4_goalOf 108 = .ok (.goto 51, 3)) ∧ (decode cX4_goalOf 111 = .ok (.iload 5, 2)) ∧ (decode cX4_goalOf 113 = .ok (.iconst 4, 1)) ∧ (decode cX4_goalOf 114 = .ok (.if_icmp .ne 24, 3)) ∧ (decode cX4_goalOf 117 = .ok (.aload_n 0, 1)) ∧ (decode cX4_goalOf 118 = .ok (.aload_n 0, 1)) := by decide +kernel
theorem dX4_goalOf_90 : decode cX4_goalOf 90 = .ok (.iload 5, 2) := gdX4_goalOf_90.1
theorem dX4_goalOf_92 : decode cX4_goalOf 92 = .ok (.iconst 3, 1) := gdX4_goalOf_90.2.1
theorem dX4_goalOf_93 : decode cX4_goalOf 93 = .ok (.if_icmp .ne 18, 3) := gdX4_goalOf_90.2.2.1
theorem dX4_goalOf_96 : decode cX4_goalOf 96 = .ok (.aload_n 0, 1) := gdX4_goalOf_90.2.2.2.1
theorem dX4_goalOf_97 : decode cX4_goalOf 97 = .ok (.aload_n 2, 1) := gdX4_goalOf_90.2.2.2.2.1
theorem dX4_goalOf_98 : decode cX4_goalOf 98 = .ok (.aload_n 1, 1) := gdX4_goalOf_90.2.2.2.2.2.1
theorem dX4_goalOf_99 : decode cX4_goalOf 99 = .ok (.iload_n 3, 1) := gdX4_goalOf_90.2.2.2.2.2.2.1
theorem dX4_goalOf_100 : decode cX4_goalOf 100 = .ok (.iload 6, 2) := gdX4_goalOf_90.2.2.2.2.2.2.2.1
theorem dX4_goalOf_102 : decode cX4_goalOf 102 = .ok (.invokevirtual 40, 3) := gdX4_goalOf_90.2.2.2.2.2.2.2.2.1
theorem dX4_goalOf_105 : decode cX4_goalOf 105 = .ok (.invokevirtual 36, 3) := gdX4_goalOf_90.2.2.2.2.2.2.2.2.2.1
theorem dX4_goalOf_108 : decode cX4_goalOf 108 = .ok (.goto 51, 3) := gdX4_goalOf_90.2.2.2.2.2.2.2.2.2.2.1
theorem dX4_goalOf_111 : decode cX4_goalOf 111 = .ok (.iload 5, 2) := gdX4_goalOf_90.2.2.2.2.2.2.2.2.2.2.2.1
theorem dX4_goalOf_113 : decode cX4_goalOf 113 = .ok (.iconst 4, 1) := gdX4_goalOf_90.2.2.2.2.2.2.2.2.2.2.2.2.1
theorem dX4_goalOf_114 : decode cX4_goalOf 114 = .ok (.if_icmp .ne 24, 3) := gdX4_goalOf_90.2.2.2.2.2.2.2.2.2.2.2.2.2.1
theorem dX4_goalOf_117 : decode cX4_goalOf 117 = .ok (.aload_n 0, 1) := gdX4_goalOf_90.2.2.2.2.2.2.2.2.2.2.2.2.2.2.1
theorem dX4_goalOf_118 : decode cX4_goalOf 118 = .ok (.aload_n 0, 1) := gdX4_goalOf_90.2.2.2.2.2.2.2.2.2.2.2.2.2.2.2
theorem gdX4_goalOf_119 : (decode cX4_goalOf 119 = .ok (.invokevirtual 32, 3)) ∧ (decode cX4_goalOf 122 = .ok (.lconst 0, 1)) ∧ (decode cX4_goalOf 123 = .ok (.lcmp, 1)) ∧ (decode cX4_goalOf 124 = .ok (.ifCond .ne 7, 3)) ∧ (decode cX4_goalOf 127 = .ok (.lconst 1, 1)) ∧ (decode cX4_goalOf 128 = .ok (.goto 4, 3)) ∧ (decode cX4_goalOf 131 = .ok (.lconst 0, 1)) ∧ (decode cX4_goalOf 132 = .ok (.invokevirtual 36, 3)) ∧ (decode cX4_goalOf 135 = .ok (.goto 24, 3)) ∧ (decode cX4_goalOf 138 = .ok (.aload_n 0, 1)) ∧ (decode cX4_goalOf 139 = .ok (.invokevirtual 32, 3)) ∧ (decode cX4_goalOf 142 = .ok (.lstore 7, 2)) ∧ (decode cX4_goalOf 144 = .ok (.aload_n 0, 1)) ∧ (decode cX4_goalOf 145 = .ok (.iload 5, 2)) ∧ (decode cX4_goalOf 147 = .ok (.aload_n 0, 1)) ∧ (decode cX4_goalOf 148 = .ok (.invokevirtual 32, 3)) := by decide +kernel
theorem dX4_goalOf_119 : decode cX4_goalOf 119 = .ok (.invokevirtual 32, 3) := gdX4_goalOf_119.1
theorem dX4_goalOf_122 : decode cX4_goalOf 122 = .ok (.lconst 0, 1) := gdX4_goalOf_119.2.1
theorem dX4_goalOf_123 : decode cX4_goalOf 123 = .ok (.lcmp, 1) := gdX4_goalOf_119.2.2.1
theorem dX4_goalOf_124 : decode cX4_goalOf 124 = .ok (.ifCond .ne 7, 3) := gdX4_goalOf_119.2.2.2.1
theorem dX4_goalOf_127 : decode cX4_goalOf 127 = .ok (.lconst 1, 1) := gdX4_goalOf_119.2.2.2.2.1
theorem dX4_goalOf_128 : decode cX4_goalOf 128 = .ok (.goto 4, 3) := gdX4_goalOf_119.2.2.2.2.2.1
theorem dX4_goalOf_131 : decode cX4_goalOf 131 = .ok (.lconst 0, 1) := gdX4_goalOf_119.2.2.2.2.2.2.1
theorem dX4_goalOf_132 : decode cX4_goalOf 132 = .ok (.invokevirtual 36, 3) := gdX4_goalOf_119.2.2.2.2.2.2.2.1
theorem dX4_goalOf_135 : decode cX4_goalOf 135 = .ok (.goto 24, 3) := gdX4_goalOf_119.2.2.2.2.2.2.2.2.1
theorem dX4_goalOf_138 : decode cX4_goalOf 138 = .ok (.aload_n 0, 1) := gdX4_goalOf_119.2.2.2.2.2.2.2.2.2.1
theorem dX4_goalOf_139 : decode cX4_goalOf 139 = .ok (.invokevirtual 32, 3) := gdX4_goalOf_119.2.2.2.2.2.2.2.2.2.2.1
theorem dX4_goalOf_142 : decode cX4_goalOf 142 = .ok (.lstore 7, 2) := gdX4_goalOf_119.2.2.2.2.2.2.2.2.2.2.2.1
theorem dX4_goalOf_144 : decode cX4_goalOf 144 = .ok (.aload_n 0, 1) := gdX4_goalOf_119.2.2.2.2.2.2.2.2.2.2.2.2.1
theorem dX4_goalOf_145 : decode cX4_goalOf 145 = .ok (.iload 5, 2) := gdX4_goalOf_119.2.2.2.2.2.2.2.2.2.2.2.2.2.1
theorem dX4_goalOf_147 : decode cX4_goalOf 147 = .ok (.aload_n 0, 1) := gdX4_goalOf_119.2.2.2.2.2.2.2.2.2.2.2.2.2.2.1
theorem dX4_goalOf_148 : decode cX4_goalOf 148 = .ok (.invokevirtual 32, 3) := gdX4_goalOf_119.2.2.2.2.2.2.2.2.2.2.2.2.2.2.2
theorem gdX4_goalOf_151 : (decode cX4_goalOf 151 = .ok (.lload 7, 2)) ∧ (decode cX4_goalOf 153 = .ok (.invokestatic 46, 3)) ∧ (decode cX4_goalOf 156 = .ok (.invokevirtual 36, 3)) ∧ (decode cX4_goalOf 159 = .ok (.iinc 4 1, 3)) ∧ (decode cX4_goalOf 162 = .ok (.goto (-154), 3)) ∧ (decode cX4_goalOf 165 = .ok (.iconst (-1), 1)) ∧ (decode cX4_goalOf 166 = .ok (.ireturn, 1)) := by decide +kernel
theorem dX4_goalOf_151 : decode cX4_goalOf 151 = .ok (.lload 7, 2) := gdX4_goalOf_151.1
theorem dX4_goalOf_153 : decode cX4_goalOf 153 = .ok (.invokestatic 46, 3) := gdX4_goalOf_151.2.1
theorem dX4_goalOf_156 : decode cX4_goalOf 156 = .ok (.invokevirtual 36, 3) := gdX4_goalOf_151.2.2.1
theorem dX4_goalOf_159 : decode cX4_goalOf 159 = .ok (.iinc 4 1, 3) := gdX4_goalOf_151.2.2.2.1
theorem dX4_goalOf_162 : decode cX4_goalOf 162 = .ok (.goto (-154), 3) := gdX4_goalOf_151.2.2.2.2.1
theorem dX4_goalOf_165 : decode cX4_goalOf 165 = .ok (.iconst (-1), 1) := gdX4_goalOf_151.2.2.2.2.2.1
theorem dX4_goalOf_166 : decode cX4_goalOf 166 = .ok (.ireturn, 1) := gdX4_goalOf_151.2.2.2.2.2.2
theorem gdX4_push_0 : (decode cX4_push 0 = .ok (.aload_n 0, 1)) ∧ (decode cX4_push 1 = .ok (.getfield 23, 3)) ∧ (decode cX4_push 4 = .ok (.ifCond .lt 32, 3)) ∧ (decode cX4_push 7 = .ok (.aload_n 0, 1)) ∧ (decode cX4_push 8 = .ok (.getfield 23, 3)) ∧ (decode cX4_push 11 = .ok (.bipush 60, 2)) ∧ (decode cX4_push 13 = .ok (.if_icmp .ge 23, 3)) ∧ (decode cX4_push 16 = .ok (.aload_n 0, 1)) ∧ (decode cX4_push 17 = .ok (.getfield 15, 3)) ∧ (decode cX4_push 20 = .ok (.aload_n 0, 1)) ∧ (decode cX4_push 21 = .ok (.getfield 23, 3)) ∧ (decode cX4_push 24 = .ok (.lload_n 1, 1)) ∧ (decode cX4_push 25 = .ok (.lastore, 1)) ∧ (decode cX4_push 26 = .ok (.aload_n 0, 1)) ∧ (decode cX4_push 27 = .ok (.dup, 1)) ∧ (decode cX4_push 28 = .ok (.getfield 23, 3)) := by decide +kernel
theorem dX4_push_0 : decode cX4_push 0 = .ok (.aload_n 0, 1) := gdX4_push_0.1
theorem dX4_push_1 : decode cX4_push 1 = .ok (.getfield 23, 3) := gdX4_push_0.2.1
theorem dX4_push_4 : decode cX4_push 4 = .ok (.ifCond .lt 32, 3) := gdX4_push_0.2.2.1
theorem dX4_push_7 : decode cX4_push 7 = .ok (.aload_n 0, 1) := gdX4_push_0.2.2.2.1
theorem dX4_push_8 : decode cX4_push 8 = .ok (.getfield 23, 3) := gdX4_push_0.2.2.2.2.1
theorem dX4_push_11 : decode cX4_push 11 = .ok (.bipush 60, 2) := gdX4_push_0.2.2.2.2.2.1
theorem dX4_push_13 : decode cX4_push 13 = .ok (.if_icmp .ge 23, 3) := gdX4_push_0.2.2.2.2.2.2.1
theorem dX4_push_16 : decode cX4_push 16 = .ok (.aload_n 0, 1) := gdX4_push_0.2.2.2.2.2.2.2.1
theorem dX4_push_17 : decode cX4_push 17 = .ok (.getfield 15, 3) := gdX4_push_0.2.2.2.2.2.2.2.2.1
theorem dX4_push_20 : decode cX4_push 20 = .ok (.aload_n 0, 1) := gdX4_push_0.2.2.2.2.2.2.2.2.2.1
theorem dX4_push_21 : decode cX4_push 21 = .ok (.getfield 23, 3) := gdX4_push_0.2.2.2.2.2.2.2.2.2.2.1
theorem dX4_push_24 : decode cX4_push 24 = .ok (.lload_n 1, 1) := gdX4_push_0.2.2.2.2.2.2.2.2.2.2.2.1
theorem dX4_push_25 : decode cX4_push 25 = .ok (.lastore, 1) := gdX4_push_0.2.2.2.2.2.2.2.2.2.2.2.2.1
theorem dX4_push_26 : decode cX4_push 26 = .ok (.aload_n 0, 1) := gdX4_push_0.2.2.2.2.2.2.2.2.2.2.2.2.2.1
theorem dX4_push_27 : decode cX4_push 27 = .ok (.dup, 1) := gdX4_push_0.2.2.2.2.2.2.2.2.2.2.2.2.2.2.1
theorem dX4_push_28 : decode cX4_push 28 = .ok (.getfield 23, 3) := gdX4_push_0.2.2.2.2.2.2.2.2.2.2.2.2.2.2.2
theorem gdX4_push_31 : (decode cX4_push 31 = .ok (.iconst 1, 1)) ∧ (decode cX4_push 32 = .ok (.iadd, 1)) ∧ (decode cX4_push 33 = .ok (.putfield 23, 3)) ∧ (decode cX4_push 36 = .ok (.return_, 1)) := by decide +kernel
theorem dX4_push_31 : decode cX4_push 31 = .ok (.iconst 1, 1) := gdX4_push_31.1
theorem dX4_push_32 : decode cX4_push 32 = .ok (.iadd, 1) := gdX4_push_31.2.1
theorem dX4_push_33 : decode cX4_push 33 = .ok (.putfield 23, 3) := gdX4_push_31.2.2.1
theorem dX4_push_36 : decode cX4_push 36 = .ok (.return_, 1) := gdX4_push_31.2.2.2
theorem gdX4_pop_0 : (decode cX4_pop 0 = .ok (.aload_n 0, 1)) ∧ (decode cX4_pop 1 = .ok (.getfield 23, 3)) ∧ (decode cX4_pop 4 = .ok (.ifCond .le 12, 3)) ∧ (decode cX4_pop 7 = .ok (.aload_n 0, 1)) ∧ (decode cX4_pop 8 = .ok (.getfield 23, 3)) ∧ (decode cX4_pop 11 = .ok (.bipush 60, 2)) ∧ (decode cX4_pop 13 = .ok (.if_icmp .le 5, 3)) ∧ (decode cX4_pop 16 = .ok (.lconst 0, 1)) ∧ (decode cX4_pop 17 = .ok (.lreturn, 1)) ∧ (decode cX4_pop 18 = .ok (.aload_n 0, 1)) ∧ (decode cX4_pop 19 = .ok (.dup, 1)) ∧ (decode cX4_pop 20 = .ok (.getfield 23, 3)) ∧ (decode cX4_pop 23 = .ok (.iconst 1, 1)) ∧ (decode cX4_pop 24 = .ok (.isub, 1)) ∧ (decode cX4_pop 25 = .ok (.putfield 23, 3)) ∧ (decode cX4_pop 28 = .ok (.aload_n 0, 1)) := by decide +kernel
theorem dX4_pop_0 : decode cX4_pop 0 = .ok (.aload_n 0, 1) := gdX4_pop_0.1
theorem dX4_pop_1 : decode cX4_pop 1 = .ok (.getfield 23, 3) := gdX4_pop_0.2.1
theorem dX4_pop_4 : decode cX4_pop 4 = .ok (.ifCond .le 12, 3) := gdX4_pop_0.2.2.1
theorem dX4_pop_7 : decode cX4_pop 7 = .ok (.aload_n 0, 1) := gdX4_pop_0.2.2.2.1
theorem dX4_pop_8 : decode cX4_pop 8 = .ok (.getfield 23, 3) := gdX4_pop_0.2.2.2.2.1
theorem dX4_pop_11 : decode cX4_pop 11 = .ok (.bipush 60, 2) := gdX4_pop_0.2.2.2.2.2.1
theorem dX4_pop_13 : decode cX4_pop 13 = .ok (.if_icmp .le 5, 3) := gdX4_pop_0.2.2.2.2.2.2.1
theorem dX4_pop_16 : decode cX4_pop 16 = .ok (.lconst 0, 1) := gdX4_pop_0.2.2.2.2.2.2.2.1
theorem dX4_pop_17 : decode cX4_pop 17 = .ok (.lreturn, 1) := gdX4_pop_0.2.2.2.2.2.2.2.2.1
theorem dX4_pop_18 : decode cX4_pop 18 = .ok (.aload_n 0, 1) := gdX4_pop_0.2.2.2.2.2.2.2.2.2.1
theorem dX4_pop_19 : decode cX4_pop 19 = .ok (.dup, 1) := gdX4_pop_0.2.2.2.2.2.2.2.2.2.2.1
theorem dX4_pop_20 : decode cX4_pop 20 = .ok (.getfield 23, 3) := gdX4_pop_0.2.2.2.2.2.2.2.2.2.2.2.1
theorem dX4_pop_23 : decode cX4_pop 23 = .ok (.iconst 1, 1) := gdX4_pop_0.2.2.2.2.2.2.2.2.2.2.2.2.1
theorem dX4_pop_24 : decode cX4_pop 24 = .ok (.isub, 1) := gdX4_pop_0.2.2.2.2.2.2.2.2.2.2.2.2.2.1
theorem dX4_pop_25 : decode cX4_pop 25 = .ok (.putfield 23, 3) := gdX4_pop_0.2.2.2.2.2.2.2.2.2.2.2.2.2.2.1
theorem dX4_pop_28 : decode cX4_pop 28 = .ok (.aload_n 0, 1) := gdX4_pop_0.2.2.2.2.2.2.2.2.2.2.2.2.2.2.2
theorem gdX4_pop_29 : (decode cX4_pop 29 = .ok (.getfield 15, 3)) ∧ (decode cX4_pop 32 = .ok (.aload_n 0, 1)) ∧ (decode cX4_pop 33 = .ok (.getfield 23, 3)) ∧ (decode cX4_pop 36 = .ok (.laload, 1)) ∧ (decode cX4_pop 37 = .ok (.lreturn, 1)) := by decide +kernel
theorem dX4_pop_29 : decode cX4_pop 29 = .ok (.getfield 15, 3) := gdX4_pop_29.1
theorem dX4_pop_32 : decode cX4_pop 32 = .ok (.aload_n 0, 1) := gdX4_pop_29.2.1
theorem dX4_pop_33 : decode cX4_pop 33 = .ok (.getfield 23, 3) := gdX4_pop_29.2.2.1
theorem dX4_pop_36 : decode cX4_pop 36 = .ok (.laload, 1) := gdX4_pop_29.2.2.2.1
theorem dX4_pop_37 : decode cX4_pop 37 = .ok (.lreturn, 1) := gdX4_pop_29.2.2.2.2
theorem gdX4_joined_0 : (decode cX4_joined 0 = .ok (.iload_n 0, 1)) ∧ (decode cX4_joined 1 = .ok (.tableswitch 57 7 10 #[31, 35, 39, 43], 31)) ∧ (decode cX4_joined 32 = .ok (.lload_n 1, 1)) ∧ (decode cX4_joined 33 = .ok (.lload_n 3, 1)) ∧ (decode cX4_joined 34 = .ok (.ladd, 1)) ∧ (decode cX4_joined 35 = .ok (.lreturn, 1)) ∧ (decode cX4_joined 36 = .ok (.lload_n 1, 1)) ∧ (decode cX4_joined 37 = .ok (.lload_n 3, 1)) ∧ (decode cX4_joined 38 = .ok (.lsub, 1)) ∧ (decode cX4_joined 39 = .ok (.lreturn, 1)) ∧ (decode cX4_joined 40 = .ok (.lload_n 1, 1)) ∧ (decode cX4_joined 41 = .ok (.lload_n 3, 1)) ∧ (decode cX4_joined 42 = .ok (.lmul, 1)) ∧ (decode cX4_joined 43 = .ok (.lreturn, 1)) ∧ (decode cX4_joined 44 = .ok (.lload_n 3, 1)) ∧ (decode cX4_joined 45 = .ok (.lconst 0, 1)) := by decide +kernel
theorem dX4_joined_0 : decode cX4_joined 0 = .ok (.iload_n 0, 1) := gdX4_joined_0.1
theorem dX4_joined_1 : decode cX4_joined 1 = .ok (.tableswitch 57 7 10 #[31, 35, 39, 43], 31) := gdX4_joined_0.2.1
theorem dX4_joined_32 : decode cX4_joined 32 = .ok (.lload_n 1, 1) := gdX4_joined_0.2.2.1
theorem dX4_joined_33 : decode cX4_joined 33 = .ok (.lload_n 3, 1) := gdX4_joined_0.2.2.2.1
theorem dX4_joined_34 : decode cX4_joined 34 = .ok (.ladd, 1) := gdX4_joined_0.2.2.2.2.1
theorem dX4_joined_35 : decode cX4_joined 35 = .ok (.lreturn, 1) := gdX4_joined_0.2.2.2.2.2.1
theorem dX4_joined_36 : decode cX4_joined 36 = .ok (.lload_n 1, 1) := gdX4_joined_0.2.2.2.2.2.2.1
theorem dX4_joined_37 : decode cX4_joined 37 = .ok (.lload_n 3, 1) := gdX4_joined_0.2.2.2.2.2.2.2.1
theorem dX4_joined_38 : decode cX4_joined 38 = .ok (.lsub, 1) := gdX4_joined_0.2.2.2.2.2.2.2.2.1
theorem dX4_joined_39 : decode cX4_joined 39 = .ok (.lreturn, 1) := gdX4_joined_0.2.2.2.2.2.2.2.2.2.1
theorem dX4_joined_40 : decode cX4_joined 40 = .ok (.lload_n 1, 1) := gdX4_joined_0.2.2.2.2.2.2.2.2.2.2.1
theorem dX4_joined_41 : decode cX4_joined 41 = .ok (.lload_n 3, 1) := gdX4_joined_0.2.2.2.2.2.2.2.2.2.2.2.1
theorem dX4_joined_42 : decode cX4_joined 42 = .ok (.lmul, 1) := gdX4_joined_0.2.2.2.2.2.2.2.2.2.2.2.2.1
theorem dX4_joined_43 : decode cX4_joined 43 = .ok (.lreturn, 1) := gdX4_joined_0.2.2.2.2.2.2.2.2.2.2.2.2.2.1
theorem dX4_joined_44 : decode cX4_joined 44 = .ok (.lload_n 3, 1) := gdX4_joined_0.2.2.2.2.2.2.2.2.2.2.2.2.2.2.1
theorem dX4_joined_45 : decode cX4_joined 45 = .ok (.lconst 0, 1) := gdX4_joined_0.2.2.2.2.2.2.2.2.2.2.2.2.2.2.2
theorem gdX4_joined_46 : (decode cX4_joined 46 = .ok (.lcmp, 1)) ∧ (decode cX4_joined 47 = .ok (.ifCond .ne 7, 3)) ∧ (decode cX4_joined 50 = .ok (.lconst 0, 1)) ∧ (decode cX4_joined 51 = .ok (.goto 6, 3)) ∧ (decode cX4_joined 54 = .ok (.lload_n 1, 1)) ∧ (decode cX4_joined 55 = .ok (.lload_n 3, 1)) ∧ (decode cX4_joined 56 = .ok (.ldiv, 1)) ∧ (decode cX4_joined 57 = .ok (.lreturn, 1)) ∧ (decode cX4_joined 58 = .ok (.iload_n 0, 1)) ∧ (decode cX4_joined 59 = .ok (.lload_n 1, 1)) ∧ (decode cX4_joined 60 = .ok (.lload_n 3, 1)) ∧ (decode cX4_joined 61 = .ok (.invokestatic 50, 3)) ∧ (decode cX4_joined 64 = .ok (.ifCond .eq 7, 3)) ∧ (decode cX4_joined 67 = .ok (.lconst 1, 1)) ∧ (decode cX4_joined 68 = .ok (.goto 4, 3)) ∧ (decode cX4_joined 71 = .ok (.lconst 0, 1)) := by decide +kernel
theorem dX4_joined_46 : decode cX4_joined 46 = .ok (.lcmp, 1) := gdX4_joined_46.1
theorem dX4_joined_47 : decode cX4_joined 47 = .ok (.ifCond .ne 7, 3) := gdX4_joined_46.2.1
theorem dX4_joined_50 : decode cX4_joined 50 = .ok (.lconst 0, 1) := gdX4_joined_46.2.2.1
theorem dX4_joined_51 : decode cX4_joined 51 = .ok (.goto 6, 3) := gdX4_joined_46.2.2.2.1
theorem dX4_joined_54 : decode cX4_joined 54 = .ok (.lload_n 1, 1) := gdX4_joined_46.2.2.2.2.1
theorem dX4_joined_55 : decode cX4_joined 55 = .ok (.lload_n 3, 1) := gdX4_joined_46.2.2.2.2.2.1
theorem dX4_joined_56 : decode cX4_joined 56 = .ok (.ldiv, 1) := gdX4_joined_46.2.2.2.2.2.2.1
theorem dX4_joined_57 : decode cX4_joined 57 = .ok (.lreturn, 1) := gdX4_joined_46.2.2.2.2.2.2.2.1
theorem dX4_joined_58 : decode cX4_joined 58 = .ok (.iload_n 0, 1) := gdX4_joined_46.2.2.2.2.2.2.2.2.1
theorem dX4_joined_59 : decode cX4_joined 59 = .ok (.lload_n 1, 1) := gdX4_joined_46.2.2.2.2.2.2.2.2.2.1
theorem dX4_joined_60 : decode cX4_joined 60 = .ok (.lload_n 3, 1) := gdX4_joined_46.2.2.2.2.2.2.2.2.2.2.1
theorem dX4_joined_61 : decode cX4_joined 61 = .ok (.invokestatic 50, 3) := gdX4_joined_46.2.2.2.2.2.2.2.2.2.2.2.1
theorem dX4_joined_64 : decode cX4_joined 64 = .ok (.ifCond .eq 7, 3) := gdX4_joined_46.2.2.2.2.2.2.2.2.2.2.2.2.1
theorem dX4_joined_67 : decode cX4_joined 67 = .ok (.lconst 1, 1) := gdX4_joined_46.2.2.2.2.2.2.2.2.2.2.2.2.2.1
theorem dX4_joined_68 : decode cX4_joined 68 = .ok (.goto 4, 3) := gdX4_joined_46.2.2.2.2.2.2.2.2.2.2.2.2.2.2.1
theorem dX4_joined_71 : decode cX4_joined 71 = .ok (.lconst 0, 1) := gdX4_joined_46.2.2.2.2.2.2.2.2.2.2.2.2.2.2.2
theorem dX4_joined_72 : decode cX4_joined 72 = .ok (.lreturn, 1) := by decide +kernel
theorem gdX4_isSo_0 : (decode cX4_isSo 0 = .ok (.iload_n 0, 1)) ∧ (decode cX4_isSo 1 = .ok (.tableswitch 139 5 14 #[55, 73, 139, 139, 139, 139, 91, 103, 115, 127], 55)) ∧ (decode cX4_isSo 56 = .ok (.lload_n 1, 1)) ∧ (decode cX4_isSo 57 = .ok (.lconst 0, 1)) ∧ (decode cX4_isSo 58 = .ok (.lcmp, 1)) ∧ (decode cX4_isSo 59 = .ok (.ifCond .eq 13, 3)) ∧ (decode cX4_isSo 62 = .ok (.lload_n 3, 1)) ∧ (decode cX4_isSo 63 = .ok (.lconst 0, 1)) ∧ (decode cX4_isSo 64 = .ok (.lcmp, 1)) ∧ (decode cX4_isSo 65 = .ok (.ifCond .eq 7, 3)) ∧ (decode cX4_isSo 68 = .ok (.iconst 1, 1)) ∧ (decode cX4_isSo 69 = .ok (.goto 4, 3)) ∧ (decode cX4_isSo 72 = .ok (.iconst 0, 1)) ∧ (decode cX4_isSo 73 = .ok (.ireturn, 1)) ∧ (decode cX4_isSo 74 = .ok (.lload_n 1, 1)) ∧ (decode cX4_isSo 75 = .ok (.lconst 0, 1)) := by decide +kernel
theorem dX4_isSo_0 : decode cX4_isSo 0 = .ok (.iload_n 0, 1) := gdX4_isSo_0.1
theorem dX4_isSo_1 : decode cX4_isSo 1 = .ok (.tableswitch 139 5 14 #[55, 73, 139, 139, 139, 139, 91, 103, 115, 127], 55) := gdX4_isSo_0.2.1
theorem dX4_isSo_56 : decode cX4_isSo 56 = .ok (.lload_n 1, 1) := gdX4_isSo_0.2.2.1
theorem dX4_isSo_57 : decode cX4_isSo 57 = .ok (.lconst 0, 1) := gdX4_isSo_0.2.2.2.1
theorem dX4_isSo_58 : decode cX4_isSo 58 = .ok (.lcmp, 1) := gdX4_isSo_0.2.2.2.2.1
theorem dX4_isSo_59 : decode cX4_isSo 59 = .ok (.ifCond .eq 13, 3) := gdX4_isSo_0.2.2.2.2.2.1
theorem dX4_isSo_62 : decode cX4_isSo 62 = .ok (.lload_n 3, 1) := gdX4_isSo_0.2.2.2.2.2.2.1
theorem dX4_isSo_63 : decode cX4_isSo 63 = .ok (.lconst 0, 1) := gdX4_isSo_0.2.2.2.2.2.2.2.1
theorem dX4_isSo_64 : decode cX4_isSo 64 = .ok (.lcmp, 1) := gdX4_isSo_0.2.2.2.2.2.2.2.2.1
theorem dX4_isSo_65 : decode cX4_isSo 65 = .ok (.ifCond .eq 7, 3) := gdX4_isSo_0.2.2.2.2.2.2.2.2.2.1
theorem dX4_isSo_68 : decode cX4_isSo 68 = .ok (.iconst 1, 1) := gdX4_isSo_0.2.2.2.2.2.2.2.2.2.2.1
theorem dX4_isSo_69 : decode cX4_isSo 69 = .ok (.goto 4, 3) := gdX4_isSo_0.2.2.2.2.2.2.2.2.2.2.2.1
theorem dX4_isSo_72 : decode cX4_isSo 72 = .ok (.iconst 0, 1) := gdX4_isSo_0.2.2.2.2.2.2.2.2.2.2.2.2.1
theorem dX4_isSo_73 : decode cX4_isSo 73 = .ok (.ireturn, 1) := gdX4_isSo_0.2.2.2.2.2.2.2.2.2.2.2.2.2.1
theorem dX4_isSo_74 : decode cX4_isSo 74 = .ok (.lload_n 1, 1) := gdX4_isSo_0.2.2.2.2.2.2.2.2.2.2.2.2.2.2.1
theorem dX4_isSo_75 : decode cX4_isSo 75 = .ok (.lconst 0, 1) := gdX4_isSo_0.2.2.2.2.2.2.2.2.2.2.2.2.2.2.2
theorem gdX4_isSo_76 : (decode cX4_isSo 76 = .ok (.lcmp, 1)) ∧ (decode cX4_isSo 77 = .ok (.ifCond .ne 9, 3)) ∧ (decode cX4_isSo 80 = .ok (.lload_n 3, 1)) ∧ (decode cX4_isSo 81 = .ok (.lconst 0, 1)) ∧ (decode cX4_isSo 82 = .ok (.lcmp, 1)) ∧ (decode cX4_isSo 83 = .ok (.ifCond .eq 7, 3)) ∧ (decode cX4_isSo 86 = .ok (.iconst 1, 1)) ∧ (decode cX4_isSo 87 = .ok (.goto 4, 3)) ∧ (decode cX4_isSo 90 = .ok (.iconst 0, 1)) ∧ (decode cX4_isSo 91 = .ok (.ireturn, 1)) ∧ (decode cX4_isSo 92 = .ok (.lload_n 1, 1)) ∧ (decode cX4_isSo 93 = .ok (.lload_n 3, 1)) ∧ (decode cX4_isSo 94 = .ok (.lcmp, 1)) ∧ (decode cX4_isSo 95 = .ok (.ifCond .ge 7, 3)) ∧ (decode cX4_isSo 98 = .ok (.iconst 1, 1)) ∧ (decode cX4_isSo 99 = .ok (.goto 4, 3)) := by decide +kernel
theorem dX4_isSo_76 : decode cX4_isSo 76 = .ok (.lcmp, 1) := gdX4_isSo_76.1
theorem dX4_isSo_77 : decode cX4_isSo 77 = .ok (.ifCond .ne 9, 3) := gdX4_isSo_76.2.1
theorem dX4_isSo_80 : decode cX4_isSo 80 = .ok (.lload_n 3, 1) := gdX4_isSo_76.2.2.1
theorem dX4_isSo_81 : decode cX4_isSo 81 = .ok (.lconst 0, 1) := gdX4_isSo_76.2.2.2.1
theorem dX4_isSo_82 : decode cX4_isSo 82 = .ok (.lcmp, 1) := gdX4_isSo_76.2.2.2.2.1
theorem dX4_isSo_83 : decode cX4_isSo 83 = .ok (.ifCond .eq 7, 3) := gdX4_isSo_76.2.2.2.2.2.1
theorem dX4_isSo_86 : decode cX4_isSo 86 = .ok (.iconst 1, 1) := gdX4_isSo_76.2.2.2.2.2.2.1
theorem dX4_isSo_87 : decode cX4_isSo 87 = .ok (.goto 4, 3) := gdX4_isSo_76.2.2.2.2.2.2.2.1
theorem dX4_isSo_90 : decode cX4_isSo 90 = .ok (.iconst 0, 1) := gdX4_isSo_76.2.2.2.2.2.2.2.2.1
theorem dX4_isSo_91 : decode cX4_isSo 91 = .ok (.ireturn, 1) := gdX4_isSo_76.2.2.2.2.2.2.2.2.2.1
theorem dX4_isSo_92 : decode cX4_isSo 92 = .ok (.lload_n 1, 1) := gdX4_isSo_76.2.2.2.2.2.2.2.2.2.2.1
theorem dX4_isSo_93 : decode cX4_isSo 93 = .ok (.lload_n 3, 1) := gdX4_isSo_76.2.2.2.2.2.2.2.2.2.2.2.1
theorem dX4_isSo_94 : decode cX4_isSo 94 = .ok (.lcmp, 1) := gdX4_isSo_76.2.2.2.2.2.2.2.2.2.2.2.2.1
theorem dX4_isSo_95 : decode cX4_isSo 95 = .ok (.ifCond .ge 7, 3) := gdX4_isSo_76.2.2.2.2.2.2.2.2.2.2.2.2.2.1
theorem dX4_isSo_98 : decode cX4_isSo 98 = .ok (.iconst 1, 1) := gdX4_isSo_76.2.2.2.2.2.2.2.2.2.2.2.2.2.2.1
theorem dX4_isSo_99 : decode cX4_isSo 99 = .ok (.goto 4, 3) := gdX4_isSo_76.2.2.2.2.2.2.2.2.2.2.2.2.2.2.2
theorem gdX4_isSo_102 : (decode cX4_isSo 102 = .ok (.iconst 0, 1)) ∧ (decode cX4_isSo 103 = .ok (.ireturn, 1)) ∧ (decode cX4_isSo 104 = .ok (.lload_n 1, 1)) ∧ (decode cX4_isSo 105 = .ok (.lload_n 3, 1)) ∧ (decode cX4_isSo 106 = .ok (.lcmp, 1)) ∧ (decode cX4_isSo 107 = .ok (.ifCond .gt 7, 3)) ∧ (decode cX4_isSo 110 = .ok (.iconst 1, 1)) ∧ (decode cX4_isSo 111 = .ok (.goto 4, 3)) ∧ (decode cX4_isSo 114 = .ok (.iconst 0, 1)) ∧ (decode cX4_isSo 115 = .ok (.ireturn, 1)) ∧ (decode cX4_isSo 116 = .ok (.lload_n 1, 1)) ∧ (decode cX4_isSo 117 = .ok (.lload_n 3, 1)) ∧ (decode cX4_isSo 118 = .ok (.lcmp, 1)) ∧ (decode cX4_isSo 119 = .ok (.ifCond .ne 7, 3)) ∧ (decode cX4_isSo 122 = .ok (.iconst 1, 1)) ∧ (decode cX4_isSo 123 = .ok (.goto 4, 3)) := by decide +kernel
theorem dX4_isSo_102 : decode cX4_isSo 102 = .ok (.iconst 0, 1) := gdX4_isSo_102.1
theorem dX4_isSo_103 : decode cX4_isSo 103 = .ok (.ireturn, 1) := gdX4_isSo_102.2.1
theorem dX4_isSo_104 : decode cX4_isSo 104 = .ok (.lload_n 1, 1) := gdX4_isSo_102.2.2.1
theorem dX4_isSo_105 : decode cX4_isSo 105 = .ok (.lload_n 3, 1) := gdX4_isSo_102.2.2.2.1
theorem dX4_isSo_106 : decode cX4_isSo 106 = .ok (.lcmp, 1) := gdX4_isSo_102.2.2.2.2.1
theorem dX4_isSo_107 : decode cX4_isSo 107 = .ok (.ifCond .gt 7, 3) := gdX4_isSo_102.2.2.2.2.2.1
theorem dX4_isSo_110 : decode cX4_isSo 110 = .ok (.iconst 1, 1) := gdX4_isSo_102.2.2.2.2.2.2.1
theorem dX4_isSo_111 : decode cX4_isSo 111 = .ok (.goto 4, 3) := gdX4_isSo_102.2.2.2.2.2.2.2.1
theorem dX4_isSo_114 : decode cX4_isSo 114 = .ok (.iconst 0, 1) := gdX4_isSo_102.2.2.2.2.2.2.2.2.1
theorem dX4_isSo_115 : decode cX4_isSo 115 = .ok (.ireturn, 1) := gdX4_isSo_102.2.2.2.2.2.2.2.2.2.1
theorem dX4_isSo_116 : decode cX4_isSo 116 = .ok (.lload_n 1, 1) := gdX4_isSo_102.2.2.2.2.2.2.2.2.2.2.1
theorem dX4_isSo_117 : decode cX4_isSo 117 = .ok (.lload_n 3, 1) := gdX4_isSo_102.2.2.2.2.2.2.2.2.2.2.2.1
theorem dX4_isSo_118 : decode cX4_isSo 118 = .ok (.lcmp, 1) := gdX4_isSo_102.2.2.2.2.2.2.2.2.2.2.2.2.1
theorem dX4_isSo_119 : decode cX4_isSo 119 = .ok (.ifCond .ne 7, 3) := gdX4_isSo_102.2.2.2.2.2.2.2.2.2.2.2.2.2.1
theorem dX4_isSo_122 : decode cX4_isSo 122 = .ok (.iconst 1, 1) := gdX4_isSo_102.2.2.2.2.2.2.2.2.2.2.2.2.2.2.1
theorem dX4_isSo_123 : decode cX4_isSo 123 = .ok (.goto 4, 3) := gdX4_isSo_102.2.2.2.2.2.2.2.2.2.2.2.2.2.2.2
theorem gdX4_isSo_126 : (decode cX4_isSo 126 = .ok (.iconst 0, 1)) ∧ (decode cX4_isSo 127 = .ok (.ireturn, 1)) ∧ (decode cX4_isSo 128 = .ok (.lload_n 1, 1)) ∧ (decode cX4_isSo 129 = .ok (.lload_n 3, 1)) ∧ (decode cX4_isSo 130 = .ok (.lcmp, 1)) ∧ (decode cX4_isSo 131 = .ok (.ifCond .lt 7, 3)) ∧ (decode cX4_isSo 134 = .ok (.iconst 1, 1)) ∧ (decode cX4_isSo 135 = .ok (.goto 4, 3)) ∧ (decode cX4_isSo 138 = .ok (.iconst 0, 1)) ∧ (decode cX4_isSo 139 = .ok (.ireturn, 1)) ∧ (decode cX4_isSo 140 = .ok (.lload_n 1, 1)) ∧ (decode cX4_isSo 141 = .ok (.lload_n 3, 1)) ∧ (decode cX4_isSo 142 = .ok (.lcmp, 1)) ∧ (decode cX4_isSo 143 = .ok (.ifCond .le 7, 3)) ∧ (decode cX4_isSo 146 = .ok (.iconst 1, 1)) ∧ (decode cX4_isSo 147 = .ok (.goto 4, 3)) := by decide +kernel
theorem dX4_isSo_126 : decode cX4_isSo 126 = .ok (.iconst 0, 1) := gdX4_isSo_126.1
theorem dX4_isSo_127 : decode cX4_isSo 127 = .ok (.ireturn, 1) := gdX4_isSo_126.2.1
theorem dX4_isSo_128 : decode cX4_isSo 128 = .ok (.lload_n 1, 1) := gdX4_isSo_126.2.2.1
theorem dX4_isSo_129 : decode cX4_isSo 129 = .ok (.lload_n 3, 1) := gdX4_isSo_126.2.2.2.1
theorem dX4_isSo_130 : decode cX4_isSo 130 = .ok (.lcmp, 1) := gdX4_isSo_126.2.2.2.2.1
theorem dX4_isSo_131 : decode cX4_isSo 131 = .ok (.ifCond .lt 7, 3) := gdX4_isSo_126.2.2.2.2.2.1
theorem dX4_isSo_134 : decode cX4_isSo 134 = .ok (.iconst 1, 1) := gdX4_isSo_126.2.2.2.2.2.2.1
theorem dX4_isSo_135 : decode cX4_isSo 135 = .ok (.goto 4, 3) := gdX4_isSo_126.2.2.2.2.2.2.2.1
theorem dX4_isSo_138 : decode cX4_isSo 138 = .ok (.iconst 0, 1) := gdX4_isSo_126.2.2.2.2.2.2.2.2.1
theorem dX4_isSo_139 : decode cX4_isSo 139 = .ok (.ireturn, 1) := gdX4_isSo_126.2.2.2.2.2.2.2.2.2.1
theorem dX4_isSo_140 : decode cX4_isSo 140 = .ok (.lload_n 1, 1) := gdX4_isSo_126.2.2.2.2.2.2.2.2.2.2.1
theorem dX4_isSo_141 : decode cX4_isSo 141 = .ok (.lload_n 3, 1) := gdX4_isSo_126.2.2.2.2.2.2.2.2.2.2.2.1
theorem dX4_isSo_142 : decode cX4_isSo 142 = .ok (.lcmp, 1) := gdX4_isSo_126.2.2.2.2.2.2.2.2.2.2.2.2.1
theorem dX4_isSo_143 : decode cX4_isSo 143 = .ok (.ifCond .le 7, 3) := gdX4_isSo_126.2.2.2.2.2.2.2.2.2.2.2.2.2.1
theorem dX4_isSo_146 : decode cX4_isSo 146 = .ok (.iconst 1, 1) := gdX4_isSo_126.2.2.2.2.2.2.2.2.2.2.2.2.2.2.1
theorem dX4_isSo_147 : decode cX4_isSo 147 = .ok (.goto 4, 3) := gdX4_isSo_126.2.2.2.2.2.2.2.2.2.2.2.2.2.2.2
theorem gdX4_isSo_150 : (decode cX4_isSo 150 = .ok (.iconst 0, 1)) ∧ (decode cX4_isSo 151 = .ok (.ireturn, 1)) := by decide +kernel
theorem dX4_isSo_150 : decode cX4_isSo 150 = .ok (.iconst 0, 1) := gdX4_isSo_150.1
theorem dX4_isSo_151 : decode cX4_isSo 151 = .ok (.ireturn, 1) := gdX4_isSo_150.2
theorem gdX5_init_0 : (decode cX5_init 0 = .ok (.aload_n 0, 1)) ∧ (decode cX5_init 1 = .ok (.invokespecial 3, 3)) ∧ (decode cX5_init 4 = .ok (.aload_n 0, 1)) ∧ (decode cX5_init 5 = .ok (.bipush 64, 2)) ∧ (decode cX5_init 7 = .ok (.newarray .int, 2)) ∧ (decode cX5_init 9 = .ok (.putfield 9, 3)) ∧ (decode cX5_init 12 = .ok (.aload_n 0, 1)) ∧ (decode cX5_init 13 = .ok (.new 15, 3)) ∧ (decode cX5_init 16 = .ok (.dup, 1)) ∧ (decode cX5_init 17 = .ok (.invokespecial 17, 3)) ∧ (decode cX5_init 20 = .ok (.putfield 18, 3)) ∧ (decode cX5_init 23 = .ok (.aload_n 0, 1)) ∧ (decode cX5_init 24 = .ok (.iconst 0, 1)) ∧ (decode cX5_init 25 = .ok (.putfield 22, 3)) ∧ (decode cX5_init 28 = .ok (.aload_n 0, 1)) ∧ (decode cX5_init 29 = .ok (.iconst 0, 1)) := by decide +kernel
theorem dX5_init_0 : decode cX5_init 0 = .ok (.aload_n 0, 1) := gdX5_init_0.1
theorem dX5_init_1 : decode cX5_init 1 = .ok (.invokespecial 3, 3) := gdX5_init_0.2.1
theorem dX5_init_4 : decode cX5_init 4 = .ok (.aload_n 0, 1) := gdX5_init_0.2.2.1
theorem dX5_init_5 : decode cX5_init 5 = .ok (.bipush 64, 2) := gdX5_init_0.2.2.2.1
theorem dX5_init_7 : decode cX5_init 7 = .ok (.newarray .int, 2) := gdX5_init_0.2.2.2.2.1
theorem dX5_init_9 : decode cX5_init 9 = .ok (.putfield 9, 3) := gdX5_init_0.2.2.2.2.2.1
theorem dX5_init_12 : decode cX5_init 12 = .ok (.aload_n 0, 1) := gdX5_init_0.2.2.2.2.2.2.1
theorem dX5_init_13 : decode cX5_init 13 = .ok (.new 15, 3) := gdX5_init_0.2.2.2.2.2.2.2.1
theorem dX5_init_16 : decode cX5_init 16 = .ok (.dup, 1) := gdX5_init_0.2.2.2.2.2.2.2.2.1
theorem dX5_init_17 : decode cX5_init 17 = .ok (.invokespecial 17, 3) := gdX5_init_0.2.2.2.2.2.2.2.2.2.1
theorem dX5_init_20 : decode cX5_init 20 = .ok (.putfield 18, 3) := gdX5_init_0.2.2.2.2.2.2.2.2.2.2.1
theorem dX5_init_23 : decode cX5_init 23 = .ok (.aload_n 0, 1) := gdX5_init_0.2.2.2.2.2.2.2.2.2.2.2.1
theorem dX5_init_24 : decode cX5_init 24 = .ok (.iconst 0, 1) := gdX5_init_0.2.2.2.2.2.2.2.2.2.2.2.2.1
theorem dX5_init_25 : decode cX5_init 25 = .ok (.putfield 22, 3) := gdX5_init_0.2.2.2.2.2.2.2.2.2.2.2.2.2.1
theorem dX5_init_28 : decode cX5_init 28 = .ok (.aload_n 0, 1) := gdX5_init_0.2.2.2.2.2.2.2.2.2.2.2.2.2.2.1
theorem dX5_init_29 : decode cX5_init 29 = .ok (.iconst 0, 1) := gdX5_init_0.2.2.2.2.2.2.2.2.2.2.2.2.2.2.2
theorem gdX5_init_30 : (decode cX5_init 30 = .ok (.putfield 26, 3)) ∧ (decode cX5_init 33 = .ok (.aload_n 0, 1)) ∧ (decode cX5_init 34 = .ok (.iconst 0, 1)) ∧ (decode cX5_init 35 = .ok (.putfield 29, 3)) ∧ (decode cX5_init 38 = .ok (.aload_n 0, 1)) ∧ (decode cX5_init 39 = .ok (.iconst 0, 1)) ∧ (decode cX5_init 40 = .ok (.putfield 32, 3)) ∧ (decode cX5_init 43 = .ok (.aload_n 0, 1)) ∧ (decode cX5_init 44 = .ok (.aload_n 1, 1)) ∧ (decode cX5_init 45 = .ok (.putfield 35, 3)) ∧ (decode cX5_init 48 = .ok (.return_, 1)) := by decide +kernel
theorem dX5_init_30 : decode cX5_init 30 = .ok (.putfield 26, 3) := gdX5_init_30.1
theorem dX5_init_33 : decode cX5_init 33 = .ok (.aload_n 0, 1) := gdX5_init_30.2.1
theorem dX5_init_34 : decode cX5_init 34 = .ok (.iconst 0, 1) := gdX5_init_30.2.2.1
theorem dX5_init_35 : decode cX5_init 35 = .ok (.putfield 29, 3) := gdX5_init_30.2.2.2.1
theorem dX5_init_38 : decode cX5_init 38 = .ok (.aload_n 0, 1) := gdX5_init_30.2.2.2.2.1
theorem dX5_init_39 : decode cX5_init 39 = .ok (.iconst 0, 1) := gdX5_init_30.2.2.2.2.2.1
theorem dX5_init_40 : decode cX5_init 40 = .ok (.putfield 32, 3) := gdX5_init_30.2.2.2.2.2.2.1
theorem dX5_init_43 : decode cX5_init 43 = .ok (.aload_n 0, 1) := gdX5_init_30.2.2.2.2.2.2.2.1
theorem dX5_init_44 : decode cX5_init 44 = .ok (.aload_n 1, 1) := gdX5_init_30.2.2.2.2.2.2.2.2.1
theorem dX5_init_45 : decode cX5_init 45 = .ok (.putfield 35, 3) := gdX5_init_30.2.2.2.2.2.2.2.2.2.1
theorem dX5_init_48 : decode cX5_init 48 = .ok (.return_, 1) := gdX5_init_30.2.2.2.2.2.2.2.2.2.2
theorem gdX5_read_0 : (decode cX5_read 0 = .ok (.aload_n 0, 1)) ∧ (decode cX5_read 1 = .ok (.getfield 18, 3)) ∧ (decode cX5_read 4 = .ok (.iconst 0, 1)) ∧ (decode cX5_read 5 = .ok (.putfield 39, 3)) ∧ (decode cX5_read 8 = .ok (.aload_n 0, 1)) ∧ (decode cX5_read 9 = .ok (.iconst 0, 1)) ∧ (decode cX5_read 10 = .ok (.putfield 22, 3)) ∧ (decode cX5_read 13 = .ok (.aload_n 0, 1)) ∧ (decode cX5_read 14 = .ok (.getfield 35, 3)) ∧ (decode cX5_read 17 = .ok (.invokevirtual 42, 3)) ∧ (decode cX5_read 20 = .ok (.iconst 0, 1)) ∧ (decode cX5_read 21 = .ok (.istore_n 1, 1)) ∧ (decode cX5_read 22 = .ok (.iload_n 1, 1)) ∧ (decode cX5_read 23 = .ok (.bipush 12, 2)) ∧ (decode cX5_read 25 = .ok (.if_icmp .gt 59, 3)) ∧ (decode cX5_read 28 = .ok (.aload_n 0, 1)) := by decide +kernel
theorem dX5_read_0 : decode cX5_read 0 = .ok (.aload_n 0, 1) := gdX5_read_0.1
theorem dX5_read_1 : decode cX5_read 1 = .ok (.getfield 18, 3) := gdX5_read_0.2.1
theorem dX5_read_4 : decode cX5_read 4 = .ok (.iconst 0, 1) := gdX5_read_0.2.2.1
theorem dX5_read_5 : decode cX5_read 5 = .ok (.putfield 39, 3) := gdX5_read_0.2.2.2.1
theorem dX5_read_8 : decode cX5_read 8 = .ok (.aload_n 0, 1) := gdX5_read_0.2.2.2.2.1
theorem dX5_read_9 : decode cX5_read 9 = .ok (.iconst 0, 1) := gdX5_read_0.2.2.2.2.2.1
theorem dX5_read_10 : decode cX5_read 10 = .ok (.putfield 22, 3) := gdX5_read_0.2.2.2.2.2.2.1
theorem dX5_read_13 : decode cX5_read 13 = .ok (.aload_n 0, 1) := gdX5_read_0.2.2.2.2.2.2.2.1
theorem dX5_read_14 : decode cX5_read 14 = .ok (.getfield 35, 3) := gdX5_read_0.2.2.2.2.2.2.2.2.1
theorem dX5_read_17 : decode cX5_read 17 = .ok (.invokevirtual 42, 3) := gdX5_read_0.2.2.2.2.2.2.2.2.2.1
theorem dX5_read_20 : decode cX5_read 20 = .ok (.iconst 0, 1) := gdX5_read_0.2.2.2.2.2.2.2.2.2.2.1
theorem dX5_read_21 : decode cX5_read 21 = .ok (.istore_n 1, 1) := gdX5_read_0.2.2.2.2.2.2.2.2.2.2.2.1
theorem dX5_read_22 : decode cX5_read 22 = .ok (.iload_n 1, 1) := gdX5_read_0.2.2.2.2.2.2.2.2.2.2.2.2.1
theorem dX5_read_23 : decode cX5_read 23 = .ok (.bipush 12, 2) := gdX5_read_0.2.2.2.2.2.2.2.2.2.2.2.2.2.1
theorem dX5_read_25 : decode cX5_read 25 = .ok (.if_icmp .gt 59, 3) := gdX5_read_0.2.2.2.2.2.2.2.2.2.2.2.2.2.2.1
theorem dX5_read_28 : decode cX5_read 28 = .ok (.aload_n 0, 1) := gdX5_read_0.2.2.2.2.2.2.2.2.2.2.2.2.2.2.2
theorem gdX5_read_29 : (decode cX5_read 29 = .ok (.iload_n 1, 1)) ∧ (decode cX5_read 30 = .ok (.invokevirtual 47, 3)) ∧ (decode cX5_read 33 = .ok (.ifCond .ne 5, 3)) ∧ (decode cX5_read 36 = .ok (.iconst 0, 1)) ∧ (decode cX5_read 37 = .ok (.ireturn, 1)) ∧ (decode cX5_read 38 = .ok (.aload_n 0, 1)) ∧ (decode cX5_read 39 = .ok (.getfield 35, 3)) ∧ (decode cX5_read 42 = .ok (.invokevirtual 51, 3)) ∧ (decode cX5_read 45 = .ok (.ifCond .eq 5, 3)) ∧ (decode cX5_read 48 = .ok (.iconst 1, 1)) ∧ (decode cX5_read 49 = .ok (.ireturn, 1)) ∧ (decode cX5_read 50 = .ok (.aload_n 0, 1)) ∧ (decode cX5_read 51 = .ok (.getfield 35, 3)) ∧ (decode cX5_read 54 = .ok (.bipush 59, 2)) ∧ (decode cX5_read 56 = .ok (.invokevirtual 55, 3)) ∧ (decode cX5_read 59 = .ok (.ifCond .ne 19, 3)) := by decide +kernel
theorem dX5_read_29 : decode cX5_read 29 = .ok (.iload_n 1, 1) := gdX5_read_29.1
theorem dX5_read_30 : decode cX5_read 30 = .ok (.invokevirtual 47, 3) := gdX5_read_29.2.1
theorem dX5_read_33 : decode cX5_read 33 = .ok (.ifCond .ne 5, 3) := gdX5_read_29.2.2.1
theorem dX5_read_36 : decode cX5_read 36 = .ok (.iconst 0, 1) := gdX5_read_29.2.2.2.1
theorem dX5_read_37 : decode cX5_read 37 = .ok (.ireturn, 1) := gdX5_read_29.2.2.2.2.1
theorem dX5_read_38 : decode cX5_read 38 = .ok (.aload_n 0, 1) := gdX5_read_29.2.2.2.2.2.1
theorem dX5_read_39 : decode cX5_read 39 = .ok (.getfield 35, 3) := gdX5_read_29.2.2.2.2.2.2.1
theorem dX5_read_42 : decode cX5_read 42 = .ok (.invokevirtual 51, 3) := gdX5_read_29.2.2.2.2.2.2.2.1
theorem dX5_read_45 : decode cX5_read 45 = .ok (.ifCond .eq 5, 3) := gdX5_read_29.2.2.2.2.2.2.2.2.1
theorem dX5_read_48 : decode cX5_read 48 = .ok (.iconst 1, 1) := gdX5_read_29.2.2.2.2.2.2.2.2.2.1
theorem dX5_read_49 : decode cX5_read 49 = .ok (.ireturn, 1) := gdX5_read_29.2.2.2.2.2.2.2.2.2.2.1
theorem dX5_read_50 : decode cX5_read 50 = .ok (.aload_n 0, 1) := gdX5_read_29.2.2.2.2.2.2.2.2.2.2.2.1
theorem dX5_read_51 : decode cX5_read 51 = .ok (.getfield 35, 3) := gdX5_read_29.2.2.2.2.2.2.2.2.2.2.2.2.1
theorem dX5_read_54 : decode cX5_read 54 = .ok (.bipush 59, 2) := gdX5_read_29.2.2.2.2.2.2.2.2.2.2.2.2.2.1
theorem dX5_read_56 : decode cX5_read 56 = .ok (.invokevirtual 55, 3) := gdX5_read_29.2.2.2.2.2.2.2.2.2.2.2.2.2.2.1
theorem dX5_read_59 : decode cX5_read 59 = .ok (.ifCond .ne 19, 3) := gdX5_read_29.2.2.2.2.2.2.2.2.2.2.2.2.2.2.2
theorem gdX5_read_62 : (decode cX5_read 62 = .ok (.aload_n 0, 1)) ∧ (decode cX5_read 63 = .ok (.getfield 35, 3)) ∧ (decode cX5_read 66 = .ok (.aload_n 0, 1)) ∧ (decode cX5_read 67 = .ok (.getfield 35, 3)) ∧ (decode cX5_read 70 = .ok (.getfield 59, 3)) ∧ (decode cX5_read 73 = .ok (.iconst 0, 1)) ∧ (decode cX5_read 74 = .ok (.invokevirtual 62, 3)) ∧ (decode cX5_read 77 = .ok (.ireturn, 1)) ∧ (decode cX5_read 78 = .ok (.iinc 1 1, 3)) ∧ (decode cX5_read 81 = .ok (.goto (-59), 3)) ∧ (decode cX5_read 84 = .ok (.iconst 0, 1)) ∧ (decode cX5_read 85 = .ok (.ireturn, 1)) := by decide +kernel
theorem dX5_read_62 : decode cX5_read 62 = .ok (.aload_n 0, 1) := gdX5_read_62.1
theorem dX5_read_63 : decode cX5_read 63 = .ok (.getfield 35, 3) := gdX5_read_62.2.1
theorem dX5_read_66 : decode cX5_read 66 = .ok (.aload_n 0, 1) := gdX5_read_62.2.2.1
theorem dX5_read_67 : decode cX5_read 67 = .ok (.getfield 35, 3) := gdX5_read_62.2.2.2.1
theorem dX5_read_70 : decode cX5_read 70 = .ok (.getfield 59, 3) := gdX5_read_62.2.2.2.2.1
theorem dX5_read_73 : decode cX5_read 73 = .ok (.iconst 0, 1) := gdX5_read_62.2.2.2.2.2.1
theorem dX5_read_74 : decode cX5_read 74 = .ok (.invokevirtual 62, 3) := gdX5_read_62.2.2.2.2.2.2.1
theorem dX5_read_77 : decode cX5_read 77 = .ok (.ireturn, 1) := gdX5_read_62.2.2.2.2.2.2.2.1
theorem dX5_read_78 : decode cX5_read 78 = .ok (.iinc 1 1, 3) := gdX5_read_62.2.2.2.2.2.2.2.2.1
theorem dX5_read_81 : decode cX5_read 81 = .ok (.goto (-59), 3) := gdX5_read_62.2.2.2.2.2.2.2.2.2.1
theorem dX5_read_84 : decode cX5_read 84 = .ok (.iconst 0, 1) := gdX5_read_62.2.2.2.2.2.2.2.2.2.2.1
theorem dX5_read_85 : decode cX5_read 85 = .ok (.ireturn, 1) := gdX5_read_62.2.2.2.2.2.2.2.2.2.2.2
theorem gdX5_readClause_0 : (decode cX5_readClause 0 = .ok (.aload_n 0, 1)) ∧ (decode cX5_readClause 1 = .ok (.getfield 35, 3)) ∧ (decode cX5_readClause 4 = .ok (.ldc 66, 2)) ∧ (decode cX5_readClause 6 = .ok (.invokevirtual 68, 3)) ∧ (decode cX5_readClause 9 = .ok (.ifCond .ne 19, 3)) ∧ (decode cX5_readClause 12 = .ok (.aload_n 0, 1)) ∧ (decode cX5_readClause 13 = .ok (.getfield 35, 3)) ∧ (decode cX5_readClause 16 = .ok (.aload_n 0, 1)) ∧ (decode cX5_readClause 17 = .ok (.getfield 35, 3)) ∧ (decode cX5_readClause 20 = .ok (.getfield 59, 3)) ∧ (decode cX5_readClause 23 = .ok (.iconst 0, 1)) ∧ (decode cX5_readClause 24 = .ok (.invokevirtual 62, 3)) ∧ (decode cX5_readClause 27 = .ok (.ireturn, 1)) ∧ (decode cX5_readClause 28 = .ok (.iload_n 1, 1)) ∧ (decode cX5_readClause 29 = .ok (.bipush 12, 2)) ∧ (decode cX5_readClause 31 = .ok (.if_icmp .lt 19, 3)) := by decide +kernel
theorem dX5_readClause_0 : decode cX5_readClause 0 = .ok (.aload_n 0, 1) := gdX5_readClause_0.1
theorem dX5_readClause_1 : decode cX5_readClause 1 = .ok (.getfield 35, 3) := gdX5_readClause_0.2.1
theorem dX5_readClause_4 : decode cX5_readClause 4 = .ok (.ldc 66, 2) := gdX5_readClause_0.2.2.1
theorem dX5_readClause_6 : decode cX5_readClause 6 = .ok (.invokevirtual 68, 3) := gdX5_readClause_0.2.2.2.1
theorem dX5_readClause_9 : decode cX5_readClause 9 = .ok (.ifCond .ne 19, 3) := gdX5_readClause_0.2.2.2.2.1
theorem dX5_readClause_12 : decode cX5_readClause 12 = .ok (.aload_n 0, 1) := gdX5_readClause_0.2.2.2.2.2.1
theorem dX5_readClause_13 : decode cX5_readClause 13 = .ok (.getfield 35, 3) := gdX5_readClause_0.2.2.2.2.2.2.1
theorem dX5_readClause_16 : decode cX5_readClause 16 = .ok (.aload_n 0, 1) := gdX5_readClause_0.2.2.2.2.2.2.2.1
theorem dX5_readClause_17 : decode cX5_readClause 17 = .ok (.getfield 35, 3) := gdX5_readClause_0.2.2.2.2.2.2.2.2.1
theorem dX5_readClause_20 : decode cX5_readClause 20 = .ok (.getfield 59, 3) := gdX5_readClause_0.2.2.2.2.2.2.2.2.2.1
theorem dX5_readClause_23 : decode cX5_readClause 23 = .ok (.iconst 0, 1) := gdX5_readClause_0.2.2.2.2.2.2.2.2.2.2.1
theorem dX5_readClause_24 : decode cX5_readClause 24 = .ok (.invokevirtual 62, 3) := gdX5_readClause_0.2.2.2.2.2.2.2.2.2.2.2.1
theorem dX5_readClause_27 : decode cX5_readClause 27 = .ok (.ireturn, 1) := gdX5_readClause_0.2.2.2.2.2.2.2.2.2.2.2.2.1
theorem dX5_readClause_28 : decode cX5_readClause 28 = .ok (.iload_n 1, 1) := gdX5_readClause_0.2.2.2.2.2.2.2.2.2.2.2.2.2.1
theorem dX5_readClause_29 : decode cX5_readClause 29 = .ok (.bipush 12, 2) := gdX5_readClause_0.2.2.2.2.2.2.2.2.2.2.2.2.2.2.1
theorem dX5_readClause_31 : decode cX5_readClause 31 = .ok (.if_icmp .lt 19, 3) := gdX5_readClause_0.2.2.2.2.2.2.2.2.2.2.2.2.2.2.2
theorem gdX5_readClause_34 : (decode cX5_readClause 34 = .ok (.aload_n 0, 1)) ∧ (decode cX5_readClause 35 = .ok (.getfield 35, 3)) ∧ (decode cX5_readClause 38 = .ok (.aload_n 0, 1)) ∧ (decode cX5_readClause 39 = .ok (.getfield 35, 3)) ∧ (decode cX5_readClause 42 = .ok (.getfield 72, 3)) ∧ (decode cX5_readClause 45 = .ok (.iconst 4, 1)) ∧ (decode cX5_readClause 46 = .ok (.invokevirtual 62, 3)) ∧ (decode cX5_readClause 49 = .ok (.ireturn, 1)) ∧ (decode cX5_readClause 50 = .ok (.aload_n 0, 1)) ∧ (decode cX5_readClause 51 = .ok (.getfield 35, 3)) ∧ (decode cX5_readClause 54 = .ok (.iconst 0, 1)) ∧ (decode cX5_readClause 55 = .ok (.bipush 9, 2)) ∧ (decode cX5_readClause 57 = .ok (.invokevirtual 75, 3)) ∧ (decode cX5_readClause 60 = .ok (.istore_n 2, 1)) ∧ (decode cX5_readClause 61 = .ok (.iload_n 2, 1)) ∧ (decode cX5_readClause 62 = .ok (.ifCond .ge 5, 3)) := by decide +kernel
theorem dX5_readClause_34 : decode cX5_readClause 34 = .ok (.aload_n 0, 1) := gdX5_readClause_34.1
theorem dX5_readClause_35 : decode cX5_readClause 35 = .ok (.getfield 35, 3) := gdX5_readClause_34.2.1
theorem dX5_readClause_38 : decode cX5_readClause 38 = .ok (.aload_n 0, 1) := gdX5_readClause_34.2.2.1
theorem dX5_readClause_39 : decode cX5_readClause 39 = .ok (.getfield 35, 3) := gdX5_readClause_34.2.2.2.1
theorem dX5_readClause_42 : decode cX5_readClause 42 = .ok (.getfield 72, 3) := gdX5_readClause_34.2.2.2.2.1
theorem dX5_readClause_45 : decode cX5_readClause 45 = .ok (.iconst 4, 1) := gdX5_readClause_34.2.2.2.2.2.1
theorem dX5_readClause_46 : decode cX5_readClause 46 = .ok (.invokevirtual 62, 3) := gdX5_readClause_34.2.2.2.2.2.2.1
theorem dX5_readClause_49 : decode cX5_readClause 49 = .ok (.ireturn, 1) := gdX5_readClause_34.2.2.2.2.2.2.2.1
theorem dX5_readClause_50 : decode cX5_readClause 50 = .ok (.aload_n 0, 1) := gdX5_readClause_34.2.2.2.2.2.2.2.2.1
theorem dX5_readClause_51 : decode cX5_readClause 51 = .ok (.getfield 35, 3) := gdX5_readClause_34.2.2.2.2.2.2.2.2.2.1
theorem dX5_readClause_54 : decode cX5_readClause 54 = .ok (.iconst 0, 1) := gdX5_readClause_34.2.2.2.2.2.2.2.2.2.2.1
theorem dX5_readClause_55 : decode cX5_readClause 55 = .ok (.bipush 9, 2) := gdX5_readClause_34.2.2.2.2.2.2.2.2.2.2.2.1
theorem dX5_readClause_57 : decode cX5_readClause 57 = .ok (.invokevirtual 75, 3) := gdX5_readClause_34.2.2.2.2.2.2.2.2.2.2.2.2.1
theorem dX5_readClause_60 : decode cX5_readClause 60 = .ok (.istore_n 2, 1) := gdX5_readClause_34.2.2.2.2.2.2.2.2.2.2.2.2.2.1
theorem dX5_readClause_61 : decode cX5_readClause 61 = .ok (.iload_n 2, 1) := gdX5_readClause_34.2.2.2.2.2.2.2.2.2.2.2.2.2.2.1
theorem dX5_readClause_62 : decode cX5_readClause 62 = .ok (.ifCond .ge 5, 3) := gdX5_readClause_34.2.2.2.2.2.2.2.2.2.2.2.2.2.2.2
theorem gdX5_readClause_65 : (decode cX5_readClause 65 = .ok (.iconst 0, 1)) ∧ (decode cX5_readClause 66 = .ok (.ireturn, 1)) ∧ (decode cX5_readClause 67 = .ok (.aload_n 0, 1)) ∧ (decode cX5_readClause 68 = .ok (.getfield 35, 3)) ∧ (decode cX5_readClause 71 = .ok (.ldc 79, 2)) ∧ (decode cX5_readClause 73 = .ok (.invokevirtual 68, 3)) ∧ (decode cX5_readClause 76 = .ok (.istore_n 3, 1)) ∧ (decode cX5_readClause 77 = .ok (.iload_n 3, 1)) ∧ (decode cX5_readClause 78 = .ok (.ifCond .eq 12, 3)) ∧ (decode cX5_readClause 81 = .ok (.aload_n 0, 1)) ∧ (decode cX5_readClause 82 = .ok (.invokevirtual 81, 3)) ∧ (decode cX5_readClause 85 = .ok (.ifCond .ne 5, 3)) ∧ (decode cX5_readClause 88 = .ok (.iconst 0, 1)) ∧ (decode cX5_readClause 89 = .ok (.ireturn, 1)) ∧ (decode cX5_readClause 90 = .ok (.aload_n 0, 1)) ∧ (decode cX5_readClause 91 = .ok (.getfield 18, 3)) := by decide +kernel
theorem dX5_readClause_65 : decode cX5_readClause 65 = .ok (.iconst 0, 1) := gdX5_readClause_65.1
theorem dX5_readClause_66 : decode cX5_readClause 66 = .ok (.ireturn, 1) := gdX5_readClause_65.2.1
theorem dX5_readClause_67 : decode cX5_readClause 67 = .ok (.aload_n 0, 1) := gdX5_readClause_65.2.2.1
theorem dX5_readClause_68 : decode cX5_readClause 68 = .ok (.getfield 35, 3) := gdX5_readClause_65.2.2.2.1
theorem dX5_readClause_71 : decode cX5_readClause 71 = .ok (.ldc 79, 2) := gdX5_readClause_65.2.2.2.2.1
theorem dX5_readClause_73 : decode cX5_readClause 73 = .ok (.invokevirtual 68, 3) := gdX5_readClause_65.2.2.2.2.2.1
theorem dX5_readClause_76 : decode cX5_readClause 76 = .ok (.istore_n 3, 1) := gdX5_readClause_65.2.2.2.2.2.2.1
theorem dX5_readClause_77 : decode cX5_readClause 77 = .ok (.iload_n 3, 1) := gdX5_readClause_65.2.2.2.2.2.2.2.1
theorem dX5_readClause_78 : decode cX5_readClause 78 = .ok (.ifCond .eq 12, 3) := gdX5_readClause_65.2.2.2.2.2.2.2.2.1
theorem dX5_readClause_81 : decode cX5_readClause 81 = .ok (.aload_n 0, 1) := gdX5_readClause_65.2.2.2.2.2.2.2.2.2.1
theorem dX5_readClause_82 : decode cX5_readClause 82 = .ok (.invokevirtual 81, 3) := gdX5_readClause_65.2.2.2.2.2.2.2.2.2.2.1
theorem dX5_readClause_85 : decode cX5_readClause 85 = .ok (.ifCond .ne 5, 3) := gdX5_readClause_65.2.2.2.2.2.2.2.2.2.2.2.1
theorem dX5_readClause_88 : decode cX5_readClause 88 = .ok (.iconst 0, 1) := gdX5_readClause_65.2.2.2.2.2.2.2.2.2.2.2.2.1
theorem dX5_readClause_89 : decode cX5_readClause 89 = .ok (.ireturn, 1) := gdX5_readClause_65.2.2.2.2.2.2.2.2.2.2.2.2.2.1
theorem dX5_readClause_90 : decode cX5_readClause 90 = .ok (.aload_n 0, 1) := gdX5_readClause_65.2.2.2.2.2.2.2.2.2.2.2.2.2.2.1
theorem dX5_readClause_91 : decode cX5_readClause 91 = .ok (.getfield 18, 3) := gdX5_readClause_65.2.2.2.2.2.2.2.2.2.2.2.2.2.2.2
theorem gdX5_readClause_94 : (decode cX5_readClause 94 = .ok (.iload_n 3, 1)) ∧ (decode cX5_readClause 95 = .ok (.ifCond .eq 7, 3)) ∧ (decode cX5_readClause 98 = .ok (.iconst 1, 1)) ∧ (decode cX5_readClause 99 = .ok (.goto 4, 3)) ∧ (decode cX5_readClause 102 = .ok (.iconst 0, 1)) ∧ (decode cX5_readClause 103 = .ok (.iload_n 2, 1)) ∧ (decode cX5_readClause 104 = .ok (.invokevirtual 84, 3)) ∧ (decode cX5_readClause 107 = .ok (.iconst 1, 1)) ∧ (decode cX5_readClause 108 = .ok (.ireturn, 1)) := by decide +kernel
theorem dX5_readClause_94 : decode cX5_readClause 94 = .ok (.iload_n 3, 1) := gdX5_readClause_94.1
theorem dX5_readClause_95 : decode cX5_readClause 95 = .ok (.ifCond .eq 7, 3) := gdX5_readClause_94.2.1
theorem dX5_readClause_98 : decode cX5_readClause 98 = .ok (.iconst 1, 1) := gdX5_readClause_94.2.2.1
theorem dX5_readClause_99 : decode cX5_readClause 99 = .ok (.goto 4, 3) := gdX5_readClause_94.2.2.2.1
theorem dX5_readClause_102 : decode cX5_readClause 102 = .ok (.iconst 0, 1) := gdX5_readClause_94.2.2.2.2.1
theorem dX5_readClause_103 : decode cX5_readClause 103 = .ok (.iload_n 2, 1) := gdX5_readClause_94.2.2.2.2.2.1
theorem dX5_readClause_104 : decode cX5_readClause 104 = .ok (.invokevirtual 84, 3) := gdX5_readClause_94.2.2.2.2.2.2.1
theorem dX5_readClause_107 : decode cX5_readClause 107 = .ok (.iconst 1, 1) := gdX5_readClause_94.2.2.2.2.2.2.2.1
theorem dX5_readClause_108 : decode cX5_readClause 108 = .ok (.ireturn, 1) := gdX5_readClause_94.2.2.2.2.2.2.2.2
theorem gdX5_readTest_0 : (decode cX5_readTest 0 = .ok (.aload_n 0, 1)) ∧ (decode cX5_readTest 1 = .ok (.iconst 0, 1)) ∧ (decode cX5_readTest 2 = .ok (.putfield 26, 3)) ∧ (decode cX5_readTest 5 = .ok (.aload_n 0, 1)) ∧ (decode cX5_readTest 6 = .ok (.iconst 0, 1)) ∧ (decode cX5_readTest 7 = .ok (.putfield 29, 3)) ∧ (decode cX5_readTest 10 = .ok (.aload_n 0, 1)) ∧ (decode cX5_readTest 11 = .ok (.iconst 0, 1)) ∧ (decode cX5_readTest 12 = .ok (.putfield 32, 3)) ∧ (decode cX5_readTest 15 = .ok (.iconst 1, 1)) ∧ (decode cX5_readTest 16 = .ok (.istore_n 1, 1)) ∧ (decode cX5_readTest 17 = .ok (.iconst 0, 1)) ∧ (decode cX5_readTest 18 = .ok (.istore_n 2, 1)) ∧ (decode cX5_readTest 19 = .ok (.iconst 0, 1)) ∧ (decode cX5_readTest 20 = .ok (.istore_n 3, 1)) ∧ (decode cX5_readTest 21 = .ok (.iload_n 3, 1)) := by decide +kernel
theorem dX5_readTest_0 : decode cX5_readTest 0 = .ok (.aload_n 0, 1) := gdX5_readTest_0.1
theorem dX5_readTest_1 : decode cX5_readTest 1 = .ok (.iconst 0, 1) := gdX5_readTest_0.2.1
theorem dX5_readTest_2 : decode cX5_readTest 2 = .ok (.putfield 26, 3) := gdX5_readTest_0.2.2.1
theorem dX5_readTest_5 : decode cX5_readTest 5 = .ok (.aload_n 0, 1) := gdX5_readTest_0.2.2.2.1
theorem dX5_readTest_6 : decode cX5_readTest 6 = .ok (.iconst 0, 1) := gdX5_readTest_0.2.2.2.2.1
theorem dX5_readTest_7 : decode cX5_readTest 7 = .ok (.putfield 29, 3) := gdX5_readTest_0.2.2.2.2.2.1
theorem dX5_readTest_10 : decode cX5_readTest 10 = .ok (.aload_n 0, 1) := gdX5_readTest_0.2.2.2.2.2.2.1
theorem dX5_readTest_11 : decode cX5_readTest 11 = .ok (.iconst 0, 1) := gdX5_readTest_0.2.2.2.2.2.2.2.1
theorem dX5_readTest_12 : decode cX5_readTest 12 = .ok (.putfield 32, 3) := gdX5_readTest_0.2.2.2.2.2.2.2.2.1
theorem dX5_readTest_15 : decode cX5_readTest 15 = .ok (.iconst 1, 1) := gdX5_readTest_0.2.2.2.2.2.2.2.2.2.1
theorem dX5_readTest_16 : decode cX5_readTest 16 = .ok (.istore_n 1, 1) := gdX5_readTest_0.2.2.2.2.2.2.2.2.2.2.1
theorem dX5_readTest_17 : decode cX5_readTest 17 = .ok (.iconst 0, 1) := gdX5_readTest_0.2.2.2.2.2.2.2.2.2.2.2.1
theorem dX5_readTest_18 : decode cX5_readTest 18 = .ok (.istore_n 2, 1) := gdX5_readTest_0.2.2.2.2.2.2.2.2.2.2.2.2.1
theorem dX5_readTest_19 : decode cX5_readTest 19 = .ok (.iconst 0, 1) := gdX5_readTest_0.2.2.2.2.2.2.2.2.2.2.2.2.2.1
theorem dX5_readTest_20 : decode cX5_readTest 20 = .ok (.istore_n 3, 1) := gdX5_readTest_0.2.2.2.2.2.2.2.2.2.2.2.2.2.2.1
theorem dX5_readTest_21 : decode cX5_readTest 21 = .ok (.iload_n 3, 1) := gdX5_readTest_0.2.2.2.2.2.2.2.2.2.2.2.2.2.2.2
theorem gdX5_readTest_22 : (decode cX5_readTest 22 = .ok (.sipush 400, 3)) ∧ (decode cX5_readTest 25 = .ok (.if_icmp .ge 137, 3)) ∧ (decode cX5_readTest 28 = .ok (.iload_n 1, 1)) ∧ (decode cX5_readTest 29 = .ok (.ifCond .eq 14, 3)) ∧ (decode cX5_readTest 32 = .ok (.iconst 0, 1)) ∧ (decode cX5_readTest 33 = .ok (.istore_n 2, 1)) ∧ (decode cX5_readTest 34 = .ok (.aload_n 0, 1)) ∧ (decode cX5_readTest 35 = .ok (.invokevirtual 88, 3)) ∧ (decode cX5_readTest 38 = .ok (.ifCond .ne 5, 3)) ∧ (decode cX5_readTest 41 = .ok (.iconst 0, 1)) ∧ (decode cX5_readTest 42 = .ok (.ireturn, 1)) ∧ (decode cX5_readTest 43 = .ok (.aload_n 0, 1)) ∧ (decode cX5_readTest 44 = .ok (.invokevirtual 91, 3)) ∧ (decode cX5_readTest 47 = .ok (.ifCond .ne 5, 3)) ∧ (decode cX5_readTest 50 = .ok (.iconst 0, 1)) ∧ (decode cX5_readTest 51 = .ok (.ireturn, 1)) := by decide +kernel
theorem dX5_readTest_22 : decode cX5_readTest 22 = .ok (.sipush 400, 3) := gdX5_readTest_22.1
theorem dX5_readTest_25 : decode cX5_readTest 25 = .ok (.if_icmp .ge 137, 3) := gdX5_readTest_22.2.1
theorem dX5_readTest_28 : decode cX5_readTest 28 = .ok (.iload_n 1, 1) := gdX5_readTest_22.2.2.1
theorem dX5_readTest_29 : decode cX5_readTest 29 = .ok (.ifCond .eq 14, 3) := gdX5_readTest_22.2.2.2.1
theorem dX5_readTest_32 : decode cX5_readTest 32 = .ok (.iconst 0, 1) := gdX5_readTest_22.2.2.2.2.1
theorem dX5_readTest_33 : decode cX5_readTest 33 = .ok (.istore_n 2, 1) := gdX5_readTest_22.2.2.2.2.2.1
theorem dX5_readTest_34 : decode cX5_readTest 34 = .ok (.aload_n 0, 1) := gdX5_readTest_22.2.2.2.2.2.2.1
theorem dX5_readTest_35 : decode cX5_readTest 35 = .ok (.invokevirtual 88, 3) := gdX5_readTest_22.2.2.2.2.2.2.2.1
theorem dX5_readTest_38 : decode cX5_readTest 38 = .ok (.ifCond .ne 5, 3) := gdX5_readTest_22.2.2.2.2.2.2.2.2.1
theorem dX5_readTest_41 : decode cX5_readTest 41 = .ok (.iconst 0, 1) := gdX5_readTest_22.2.2.2.2.2.2.2.2.2.1
theorem dX5_readTest_42 : decode cX5_readTest 42 = .ok (.ireturn, 1) := gdX5_readTest_22.2.2.2.2.2.2.2.2.2.2.1
theorem dX5_readTest_43 : decode cX5_readTest 43 = .ok (.aload_n 0, 1) := gdX5_readTest_22.2.2.2.2.2.2.2.2.2.2.2.1
theorem dX5_readTest_44 : decode cX5_readTest 44 = .ok (.invokevirtual 91, 3) := gdX5_readTest_22.2.2.2.2.2.2.2.2.2.2.2.2.1
theorem dX5_readTest_47 : decode cX5_readTest 47 = .ok (.ifCond .ne 5, 3) := gdX5_readTest_22.2.2.2.2.2.2.2.2.2.2.2.2.2.1
theorem dX5_readTest_50 : decode cX5_readTest 50 = .ok (.iconst 0, 1) := gdX5_readTest_22.2.2.2.2.2.2.2.2.2.2.2.2.2.2.1
theorem dX5_readTest_51 : decode cX5_readTest 51 = .ok (.ireturn, 1) := gdX5_readTest_22.2.2.2.2.2.2.2.2.2.2.2.2.2.2.2
theorem gdX5_readTest_52 : (decode cX5_readTest 52 = .ok (.aload_n 0, 1)) ∧ (decode cX5_readTest 53 = .ok (.invokevirtual 94, 3)) ∧ (decode cX5_readTest 56 = .ok (.istore 4, 2)) ∧ (decode cX5_readTest 58 = .ok (.iload 4, 2)) ∧ (decode cX5_readTest 60 = .ok (.ifCond .ge 11, 3)) ∧ (decode cX5_readTest 63 = .ok (.iload_n 2, 1)) ∧ (decode cX5_readTest 64 = .ok (.ifCond .eq 7, 3)) ∧ (decode cX5_readTest 67 = .ok (.iconst 1, 1)) ∧ (decode cX5_readTest 68 = .ok (.goto 4, 3)) ∧ (decode cX5_readTest 71 = .ok (.iconst 0, 1)) ∧ (decode cX5_readTest 72 = .ok (.istore_n 1, 1)) ∧ (decode cX5_readTest 73 = .ok (.iload_n 1, 1)) ∧ (decode cX5_readTest 74 = .ok (.ifCond .eq 23, 3)) ∧ (decode cX5_readTest 77 = .ok (.aload_n 0, 1)) ∧ (decode cX5_readTest 78 = .ok (.invokevirtual 98, 3)) ∧ (decode cX5_readTest 81 = .ok (.aload_n 0, 1)) := by decide +kernel
theorem dX5_readTest_52 : decode cX5_readTest 52 = .ok (.aload_n 0, 1) := gdX5_readTest_52.1
theorem dX5_readTest_53 : decode cX5_readTest 53 = .ok (.invokevirtual 94, 3) := gdX5_readTest_52.2.1
theorem dX5_readTest_56 : decode cX5_readTest 56 = .ok (.istore 4, 2) := gdX5_readTest_52.2.2.1
theorem dX5_readTest_58 : decode cX5_readTest 58 = .ok (.iload 4, 2) := gdX5_readTest_52.2.2.2.1
theorem dX5_readTest_60 : decode cX5_readTest 60 = .ok (.ifCond .ge 11, 3) := gdX5_readTest_52.2.2.2.2.1
theorem dX5_readTest_63 : decode cX5_readTest 63 = .ok (.iload_n 2, 1) := gdX5_readTest_52.2.2.2.2.2.1
theorem dX5_readTest_64 : decode cX5_readTest 64 = .ok (.ifCond .eq 7, 3) := gdX5_readTest_52.2.2.2.2.2.2.1
theorem dX5_readTest_67 : decode cX5_readTest 67 = .ok (.iconst 1, 1) := gdX5_readTest_52.2.2.2.2.2.2.2.1
theorem dX5_readTest_68 : decode cX5_readTest 68 = .ok (.goto 4, 3) := gdX5_readTest_52.2.2.2.2.2.2.2.2.1
theorem dX5_readTest_71 : decode cX5_readTest 71 = .ok (.iconst 0, 1) := gdX5_readTest_52.2.2.2.2.2.2.2.2.2.1
theorem dX5_readTest_72 : decode cX5_readTest 72 = .ok (.istore_n 1, 1) := gdX5_readTest_52.2.2.2.2.2.2.2.2.2.2.1
theorem dX5_readTest_73 : decode cX5_readTest 73 = .ok (.iload_n 1, 1) := gdX5_readTest_52.2.2.2.2.2.2.2.2.2.2.2.1
theorem dX5_readTest_74 : decode cX5_readTest 74 = .ok (.ifCond .eq 23, 3) := gdX5_readTest_52.2.2.2.2.2.2.2.2.2.2.2.2.1
theorem dX5_readTest_77 : decode cX5_readTest 77 = .ok (.aload_n 0, 1) := gdX5_readTest_52.2.2.2.2.2.2.2.2.2.2.2.2.2.1
theorem dX5_readTest_78 : decode cX5_readTest 78 = .ok (.invokevirtual 98, 3) := gdX5_readTest_52.2.2.2.2.2.2.2.2.2.2.2.2.2.2.1
theorem dX5_readTest_81 : decode cX5_readTest 81 = .ok (.aload_n 0, 1) := gdX5_readTest_52.2.2.2.2.2.2.2.2.2.2.2.2.2.2.2
theorem gdX5_readTest_82 : (decode cX5_readTest 82 = .ok (.invokevirtual 101, 3)) ∧ (decode cX5_readTest 85 = .ok (.istore 4, 2)) ∧ (decode cX5_readTest 87 = .ok (.iload 4, 2)) ∧ (decode cX5_readTest 89 = .ok (.ifCond .ge 51, 3)) ∧ (decode cX5_readTest 92 = .ok (.aload_n 0, 1)) ∧ (decode cX5_readTest 93 = .ok (.invokevirtual 104, 3)) ∧ (decode cX5_readTest 96 = .ok (.ireturn, 1)) ∧ (decode cX5_readTest 97 = .ok (.iload 4, 2)) ∧ (decode cX5_readTest 99 = .ok (.ifCond .ge 41, 3)) ∧ (decode cX5_readTest 102 = .ok (.aload_n 0, 1)) ∧ (decode cX5_readTest 103 = .ok (.invokevirtual 107, 3)) ∧ (decode cX5_readTest 106 = .ok (.istore 4, 2)) ∧ (decode cX5_readTest 108 = .ok (.iload 4, 2)) ∧ (decode cX5_readTest 110 = .ok (.ifCond .ge 19, 3)) ∧ (decode cX5_readTest 113 = .ok (.aload_n 0, 1)) ∧ (decode cX5_readTest 114 = .ok (.getfield 35, 3)) := by decide +kernel
theorem dX5_readTest_82 : decode cX5_readTest 82 = .ok (.invokevirtual 101, 3) := gdX5_readTest_82.1
theorem dX5_readTest_85 : decode cX5_readTest 85 = .ok (.istore 4, 2) := gdX5_readTest_82.2.1
theorem dX5_readTest_87 : decode cX5_readTest 87 = .ok (.iload 4, 2) := gdX5_readTest_82.2.2.1
theorem dX5_readTest_89 : decode cX5_readTest 89 = .ok (.ifCond .ge 51, 3) := gdX5_readTest_82.2.2.2.1
theorem dX5_readTest_92 : decode cX5_readTest 92 = .ok (.aload_n 0, 1) := gdX5_readTest_82.2.2.2.2.1
theorem dX5_readTest_93 : decode cX5_readTest 93 = .ok (.invokevirtual 104, 3) := gdX5_readTest_82.2.2.2.2.2.1
theorem dX5_readTest_96 : decode cX5_readTest 96 = .ok (.ireturn, 1) := gdX5_readTest_82.2.2.2.2.2.2.1
theorem dX5_readTest_97 : decode cX5_readTest 97 = .ok (.iload 4, 2) := gdX5_readTest_82.2.2.2.2.2.2.2.1
theorem dX5_readTest_99 : decode cX5_readTest 99 = .ok (.ifCond .ge 41, 3) := gdX5_readTest_82.2.2.2.2.2.2.2.2.1
theorem dX5_readTest_102 : decode cX5_readTest 102 = .ok (.aload_n 0, 1) := gdX5_readTest_82.2.2.2.2.2.2.2.2.2.1
theorem dX5_readTest_103 : decode cX5_readTest 103 = .ok (.invokevirtual 107, 3) := gdX5_readTest_82.2.2.2.2.2.2.2.2.2.2.1
theorem dX5_readTest_106 : decode cX5_readTest 106 = .ok (.istore 4, 2) := gdX5_readTest_82.2.2.2.2.2.2.2.2.2.2.2.1
theorem dX5_readTest_108 : decode cX5_readTest 108 = .ok (.iload 4, 2) := gdX5_readTest_82.2.2.2.2.2.2.2.2.2.2.2.2.1
theorem dX5_readTest_110 : decode cX5_readTest 110 = .ok (.ifCond .ge 19, 3) := gdX5_readTest_82.2.2.2.2.2.2.2.2.2.2.2.2.2.1
theorem dX5_readTest_113 : decode cX5_readTest 113 = .ok (.aload_n 0, 1) := gdX5_readTest_82.2.2.2.2.2.2.2.2.2.2.2.2.2.2.1
theorem dX5_readTest_114 : decode cX5_readTest 114 = .ok (.getfield 35, 3) := gdX5_readTest_82.2.2.2.2.2.2.2.2.2.2.2.2.2.2.2
theorem gdX5_readTest_117 : (decode cX5_readTest 117 = .ok (.aload_n 0, 1)) ∧ (decode cX5_readTest 118 = .ok (.getfield 35, 3)) ∧ (decode cX5_readTest 121 = .ok (.getfield 59, 3)) ∧ (decode cX5_readTest 124 = .ok (.iconst 0, 1)) ∧ (decode cX5_readTest 125 = .ok (.invokevirtual 62, 3)) ∧ (decode cX5_readTest 128 = .ok (.ireturn, 1)) ∧ (decode cX5_readTest 129 = .ok (.aload_n 0, 1)) ∧ (decode cX5_readTest 130 = .ok (.invokevirtual 110, 3)) ∧ (decode cX5_readTest 133 = .ok (.ifCond .ne 5, 3)) ∧ (decode cX5_readTest 136 = .ok (.iconst 0, 1)) ∧ (decode cX5_readTest 137 = .ok (.ireturn, 1)) ∧ (decode cX5_readTest 138 = .ok (.iconst 1, 1)) ∧ (decode cX5_readTest 139 = .ok (.istore_n 2, 1)) ∧ (decode cX5_readTest 140 = .ok (.aload_n 0, 1)) ∧ (decode cX5_readTest 141 = .ok (.getstatic 113, 3)) ∧ (decode cX5_readTest 144 = .ok (.iload 4, 2)) := by decide +kernel
theorem dX5_readTest_117 : decode cX5_readTest 117 = .ok (.aload_n 0, 1) := gdX5_readTest_117.1
theorem dX5_readTest_118 : decode cX5_readTest 118 = .ok (.getfield 35, 3) := gdX5_readTest_117.2.1
theorem dX5_readTest_121 : decode cX5_readTest 121 = .ok (.getfield 59, 3) := gdX5_readTest_117.2.2.1
theorem dX5_readTest_124 : decode cX5_readTest 124 = .ok (.iconst 0, 1) := gdX5_readTest_117.2.2.2.1
theorem dX5_readTest_125 : decode cX5_readTest 125 = .ok (.invokevirtual 62, 3) := gdX5_readTest_117.2.2.2.2.1
theorem dX5_readTest_128 : decode cX5_readTest 128 = .ok (.ireturn, 1) := gdX5_readTest_117.2.2.2.2.2.1
theorem dX5_readTest_129 : decode cX5_readTest 129 = .ok (.aload_n 0, 1) := gdX5_readTest_117.2.2.2.2.2.2.1
theorem dX5_readTest_130 : decode cX5_readTest 130 = .ok (.invokevirtual 110, 3) := gdX5_readTest_117.2.2.2.2.2.2.2.1
theorem dX5_readTest_133 : decode cX5_readTest 133 = .ok (.ifCond .ne 5, 3) := gdX5_readTest_117.2.2.2.2.2.2.2.2.1
theorem dX5_readTest_136 : decode cX5_readTest 136 = .ok (.iconst 0, 1) := gdX5_readTest_117.2.2.2.2.2.2.2.2.2.1
theorem dX5_readTest_137 : decode cX5_readTest 137 = .ok (.ireturn, 1) := gdX5_readTest_117.2.2.2.2.2.2.2.2.2.2.1
theorem dX5_readTest_138 : decode cX5_readTest 138 = .ok (.iconst 1, 1) := gdX5_readTest_117.2.2.2.2.2.2.2.2.2.2.2.1
theorem dX5_readTest_139 : decode cX5_readTest 139 = .ok (.istore_n 2, 1) := gdX5_readTest_117.2.2.2.2.2.2.2.2.2.2.2.2.1
theorem dX5_readTest_140 : decode cX5_readTest 140 = .ok (.aload_n 0, 1) := gdX5_readTest_117.2.2.2.2.2.2.2.2.2.2.2.2.2.1
theorem dX5_readTest_141 : decode cX5_readTest 141 = .ok (.getstatic 113, 3) := gdX5_readTest_117.2.2.2.2.2.2.2.2.2.2.2.2.2.2.1
theorem dX5_readTest_144 : decode cX5_readTest 144 = .ok (.iload 4, 2) := gdX5_readTest_117.2.2.2.2.2.2.2.2.2.2.2.2.2.2.2
theorem gdX5_readTest_146 : (decode cX5_readTest 146 = .ok (.iaload, 1)) ∧ (decode cX5_readTest 147 = .ok (.invokevirtual 116, 3)) ∧ (decode cX5_readTest 150 = .ok (.aload_n 0, 1)) ∧ (decode cX5_readTest 151 = .ok (.iload 4, 2)) ∧ (decode cX5_readTest 153 = .ok (.invokevirtual 120, 3)) ∧ (decode cX5_readTest 156 = .ok (.iinc 3 1, 3)) ∧ (decode cX5_readTest 159 = .ok (.goto (-138), 3)) ∧ (decode cX5_readTest 162 = .ok (.iconst 0, 1)) ∧ (decode cX5_readTest 163 = .ok (.ireturn, 1)) := by decide +kernel
theorem dX5_readTest_146 : decode cX5_readTest 146 = .ok (.iaload, 1) := gdX5_readTest_146.1
theorem dX5_readTest_147 : decode cX5_readTest 147 = .ok (.invokevirtual 116, 3) := gdX5_readTest_146.2.1
theorem dX5_readTest_150 : decode cX5_readTest 150 = .ok (.aload_n 0, 1) := gdX5_readTest_146.2.2.1
theorem dX5_readTest_151 : decode cX5_readTest 151 = .ok (.iload 4, 2) := gdX5_readTest_146.2.2.2.1
theorem dX5_readTest_153 : decode cX5_readTest 153 = .ok (.invokevirtual 120, 3) := gdX5_readTest_146.2.2.2.2.1
theorem dX5_readTest_156 : decode cX5_readTest 156 = .ok (.iinc 3 1, 3) := gdX5_readTest_146.2.2.2.2.2.1
theorem dX5_readTest_159 : decode cX5_readTest 159 = .ok (.goto (-138), 3) := gdX5_readTest_146.2.2.2.2.2.2.1
theorem dX5_readTest_162 : decode cX5_readTest 162 = .ok (.iconst 0, 1) := gdX5_readTest_146.2.2.2.2.2.2.2.1
theorem dX5_readTest_163 : decode cX5_readTest 163 = .ok (.ireturn, 1) := gdX5_readTest_146.2.2.2.2.2.2.2.2
theorem gdX5_readOpenings_0 : (decode cX5_readOpenings 0 = .ok (.iconst 0, 1)) ∧ (decode cX5_readOpenings 1 = .ok (.istore_n 1, 1)) ∧ (decode cX5_readOpenings 2 = .ok (.iload_n 1, 1)) ∧ (decode cX5_readOpenings 3 = .ok (.bipush 10, 2)) ∧ (decode cX5_readOpenings 5 = .ok (.if_icmp .gt 104, 3)) ∧ (decode cX5_readOpenings 8 = .ok (.aload_n 0, 1)) ∧ (decode cX5_readOpenings 9 = .ok (.getfield 35, 3)) ∧ (decode cX5_readOpenings 12 = .ok (.ldc 123, 2)) ∧ (decode cX5_readOpenings 14 = .ok (.invokevirtual 68, 3)) ∧ (decode cX5_readOpenings 17 = .ok (.istore_n 2, 1)) ∧ (decode cX5_readOpenings 18 = .ok (.iload_n 2, 1)) ∧ (decode cX5_readOpenings 19 = .ok (.ifCond .ne 17, 3)) ∧ (decode cX5_readOpenings 22 = .ok (.aload_n 0, 1)) ∧ (decode cX5_readOpenings 23 = .ok (.getfield 35, 3)) ∧ (decode cX5_readOpenings 26 = .ok (.bipush 91, 2)) ∧ (decode cX5_readOpenings 28 = .ok (.invokevirtual 55, 3)) := by decide +kernel
theorem dX5_readOpenings_0 : decode cX5_readOpenings 0 = .ok (.iconst 0, 1) := gdX5_readOpenings_0.1
theorem dX5_readOpenings_1 : decode cX5_readOpenings 1 = .ok (.istore_n 1, 1) := gdX5_readOpenings_0.2.1
theorem dX5_readOpenings_2 : decode cX5_readOpenings 2 = .ok (.iload_n 1, 1) := gdX5_readOpenings_0.2.2.1
theorem dX5_readOpenings_3 : decode cX5_readOpenings 3 = .ok (.bipush 10, 2) := gdX5_readOpenings_0.2.2.2.1
theorem dX5_readOpenings_5 : decode cX5_readOpenings 5 = .ok (.if_icmp .gt 104, 3) := gdX5_readOpenings_0.2.2.2.2.1
theorem dX5_readOpenings_8 : decode cX5_readOpenings 8 = .ok (.aload_n 0, 1) := gdX5_readOpenings_0.2.2.2.2.2.1
theorem dX5_readOpenings_9 : decode cX5_readOpenings 9 = .ok (.getfield 35, 3) := gdX5_readOpenings_0.2.2.2.2.2.2.1
theorem dX5_readOpenings_12 : decode cX5_readOpenings 12 = .ok (.ldc 123, 2) := gdX5_readOpenings_0.2.2.2.2.2.2.2.1
theorem dX5_readOpenings_14 : decode cX5_readOpenings 14 = .ok (.invokevirtual 68, 3) := gdX5_readOpenings_0.2.2.2.2.2.2.2.2.1
theorem dX5_readOpenings_17 : decode cX5_readOpenings 17 = .ok (.istore_n 2, 1) := gdX5_readOpenings_0.2.2.2.2.2.2.2.2.2.1
theorem dX5_readOpenings_18 : decode cX5_readOpenings 18 = .ok (.iload_n 2, 1) := gdX5_readOpenings_0.2.2.2.2.2.2.2.2.2.2.1
theorem dX5_readOpenings_19 : decode cX5_readOpenings 19 = .ok (.ifCond .ne 17, 3) := gdX5_readOpenings_0.2.2.2.2.2.2.2.2.2.2.2.1
theorem dX5_readOpenings_22 : decode cX5_readOpenings 22 = .ok (.aload_n 0, 1) := gdX5_readOpenings_0.2.2.2.2.2.2.2.2.2.2.2.2.1
theorem dX5_readOpenings_23 : decode cX5_readOpenings 23 = .ok (.getfield 35, 3) := gdX5_readOpenings_0.2.2.2.2.2.2.2.2.2.2.2.2.2.1
theorem dX5_readOpenings_26 : decode cX5_readOpenings 26 = .ok (.bipush 91, 2) := gdX5_readOpenings_0.2.2.2.2.2.2.2.2.2.2.2.2.2.2.1
theorem dX5_readOpenings_28 : decode cX5_readOpenings 28 = .ok (.invokevirtual 55, 3) := gdX5_readOpenings_0.2.2.2.2.2.2.2.2.2.2.2.2.2.2.2
theorem gdX5_readOpenings_31 : (decode cX5_readOpenings 31 = .ok (.ifCond .ne 5, 3)) ∧ (decode cX5_readOpenings 34 = .ok (.iconst 1, 1)) ∧ (decode cX5_readOpenings 35 = .ok (.ireturn, 1)) ∧ (decode cX5_readOpenings 36 = .ok (.aload_n 0, 1)) ∧ (decode cX5_readOpenings 37 = .ok (.getfield 32, 3)) ∧ (decode cX5_readOpenings 40 = .ok (.bipush 10, 2)) ∧ (decode cX5_readOpenings 42 = .ok (.if_icmp .lt 19, 3)) ∧ (decode cX5_readOpenings 45 = .ok (.aload_n 0, 1)) ∧ (decode cX5_readOpenings 46 = .ok (.getfield 35, 3)) ∧ (decode cX5_readOpenings 49 = .ok (.aload_n 0, 1)) ∧ (decode cX5_readOpenings 50 = .ok (.getfield 35, 3)) ∧ (decode cX5_readOpenings 53 = .ok (.getfield 72, 3)) ∧ (decode cX5_readOpenings 56 = .ok (.iconst 2, 1)) ∧ (decode cX5_readOpenings 57 = .ok (.invokevirtual 62, 3)) ∧ (decode cX5_readOpenings 60 = .ok (.ireturn, 1)) ∧ (decode cX5_readOpenings 61 = .ok (.aload_n 0, 1)) := by decide +kernel
theorem dX5_readOpenings_31 : decode cX5_readOpenings 31 = .ok (.ifCond .ne 5, 3) := gdX5_readOpenings_31.1
theorem dX5_readOpenings_34 : decode cX5_readOpenings 34 = .ok (.iconst 1, 1) := gdX5_readOpenings_31.2.1
theorem dX5_readOpenings_35 : decode cX5_readOpenings 35 = .ok (.ireturn, 1) := gdX5_readOpenings_31.2.2.1
theorem dX5_readOpenings_36 : decode cX5_readOpenings 36 = .ok (.aload_n 0, 1) := gdX5_readOpenings_31.2.2.2.1
theorem dX5_readOpenings_37 : decode cX5_readOpenings 37 = .ok (.getfield 32, 3) := gdX5_readOpenings_31.2.2.2.2.1
theorem dX5_readOpenings_40 : decode cX5_readOpenings 40 = .ok (.bipush 10, 2) := gdX5_readOpenings_31.2.2.2.2.2.1
theorem dX5_readOpenings_42 : decode cX5_readOpenings 42 = .ok (.if_icmp .lt 19, 3) := gdX5_readOpenings_31.2.2.2.2.2.2.1
theorem dX5_readOpenings_45 : decode cX5_readOpenings 45 = .ok (.aload_n 0, 1) := gdX5_readOpenings_31.2.2.2.2.2.2.2.1
theorem dX5_readOpenings_46 : decode cX5_readOpenings 46 = .ok (.getfield 35, 3) := gdX5_readOpenings_31.2.2.2.2.2.2.2.2.1
theorem dX5_readOpenings_49 : decode cX5_readOpenings 49 = .ok (.aload_n 0, 1) := gdX5_readOpenings_31.2.2.2.2.2.2.2.2.2.1
theorem dX5_readOpenings_50 : decode cX5_readOpenings 50 = .ok (.getfield 35, 3) := gdX5_readOpenings_31.2.2.2.2.2.2.2.2.2.2.1
theorem dX5_readOpenings_53 : decode cX5_readOpenings 53 = .ok (.getfield 72, 3) := gdX5_readOpenings_31.2.2.2.2.2.2.2.2.2.2.2.1
theorem dX5_readOpenings_56 : decode cX5_readOpenings 56 = .ok (.iconst 2, 1) := gdX5_readOpenings_31.2.2.2.2.2.2.2.2.2.2.2.2.1
theorem dX5_readOpenings_57 : decode cX5_readOpenings 57 = .ok (.invokevirtual 62, 3) := gdX5_readOpenings_31.2.2.2.2.2.2.2.2.2.2.2.2.2.1
theorem dX5_readOpenings_60 : decode cX5_readOpenings 60 = .ok (.ireturn, 1) := gdX5_readOpenings_31.2.2.2.2.2.2.2.2.2.2.2.2.2.2.1
theorem dX5_readOpenings_61 : decode cX5_readOpenings 61 = .ok (.aload_n 0, 1) := gdX5_readOpenings_31.2.2.2.2.2.2.2.2.2.2.2.2.2.2.2
theorem gdX5_readOpenings_62 : (decode cX5_readOpenings 62 = .ok (.dup, 1)) ∧ (decode cX5_readOpenings 63 = .ok (.getfield 32, 3)) ∧ (decode cX5_readOpenings 66 = .ok (.iconst 1, 1)) ∧ (decode cX5_readOpenings 67 = .ok (.iadd, 1)) ∧ (decode cX5_readOpenings 68 = .ok (.putfield 32, 3)) ∧ (decode cX5_readOpenings 71 = .ok (.aload_n 0, 1)) ∧ (decode cX5_readOpenings 72 = .ok (.dup, 1)) ∧ (decode cX5_readOpenings 73 = .ok (.getfield 29, 3)) ∧ (decode cX5_readOpenings 76 = .ok (.iload_n 2, 1)) ∧ (decode cX5_readOpenings 77 = .ok (.ifCond .eq 7, 3)) ∧ (decode cX5_readOpenings 80 = .ok (.iconst 0, 1)) ∧ (decode cX5_readOpenings 81 = .ok (.goto 4, 3)) ∧ (decode cX5_readOpenings 84 = .ok (.iconst 1, 1)) ∧ (decode cX5_readOpenings 85 = .ok (.iadd, 1)) ∧ (decode cX5_readOpenings 86 = .ok (.putfield 29, 3)) ∧ (decode cX5_readOpenings 89 = .ok (.aload_n 0, 1)) := by decide +kernel
theorem dX5_readOpenings_62 : decode cX5_readOpenings 62 = .ok (.dup, 1) := gdX5_readOpenings_62.1
theorem dX5_readOpenings_63 : decode cX5_readOpenings 63 = .ok (.getfield 32, 3) := gdX5_readOpenings_62.2.1
theorem dX5_readOpenings_66 : decode cX5_readOpenings 66 = .ok (.iconst 1, 1) := gdX5_readOpenings_62.2.2.1
theorem dX5_readOpenings_67 : decode cX5_readOpenings 67 = .ok (.iadd, 1) := gdX5_readOpenings_62.2.2.2.1
theorem dX5_readOpenings_68 : decode cX5_readOpenings 68 = .ok (.putfield 32, 3) := gdX5_readOpenings_62.2.2.2.2.1
theorem dX5_readOpenings_71 : decode cX5_readOpenings 71 = .ok (.aload_n 0, 1) := gdX5_readOpenings_62.2.2.2.2.2.1
theorem dX5_readOpenings_72 : decode cX5_readOpenings 72 = .ok (.dup, 1) := gdX5_readOpenings_62.2.2.2.2.2.2.1
theorem dX5_readOpenings_73 : decode cX5_readOpenings 73 = .ok (.getfield 29, 3) := gdX5_readOpenings_62.2.2.2.2.2.2.2.1
theorem dX5_readOpenings_76 : decode cX5_readOpenings 76 = .ok (.iload_n 2, 1) := gdX5_readOpenings_62.2.2.2.2.2.2.2.2.1
theorem dX5_readOpenings_77 : decode cX5_readOpenings 77 = .ok (.ifCond .eq 7, 3) := gdX5_readOpenings_62.2.2.2.2.2.2.2.2.2.1
theorem dX5_readOpenings_80 : decode cX5_readOpenings 80 = .ok (.iconst 0, 1) := gdX5_readOpenings_62.2.2.2.2.2.2.2.2.2.2.1
theorem dX5_readOpenings_81 : decode cX5_readOpenings 81 = .ok (.goto 4, 3) := gdX5_readOpenings_62.2.2.2.2.2.2.2.2.2.2.2.1
theorem dX5_readOpenings_84 : decode cX5_readOpenings 84 = .ok (.iconst 1, 1) := gdX5_readOpenings_62.2.2.2.2.2.2.2.2.2.2.2.2.1
theorem dX5_readOpenings_85 : decode cX5_readOpenings 85 = .ok (.iadd, 1) := gdX5_readOpenings_62.2.2.2.2.2.2.2.2.2.2.2.2.2.1
theorem dX5_readOpenings_86 : decode cX5_readOpenings 86 = .ok (.putfield 29, 3) := gdX5_readOpenings_62.2.2.2.2.2.2.2.2.2.2.2.2.2.2.1
theorem dX5_readOpenings_89 : decode cX5_readOpenings 89 = .ok (.aload_n 0, 1) := gdX5_readOpenings_62.2.2.2.2.2.2.2.2.2.2.2.2.2.2.2
theorem gdX5_readOpenings_90 : (decode cX5_readOpenings 90 = .ok (.iload_n 2, 1)) ∧ (decode cX5_readOpenings 91 = .ok (.ifCond .eq 7, 3)) ∧ (decode cX5_readOpenings 94 = .ok (.iconst 4, 1)) ∧ (decode cX5_readOpenings 95 = .ok (.goto 5, 3)) ∧ (decode cX5_readOpenings 98 = .ok (.bipush 16, 2)) ∧ (decode cX5_readOpenings 100 = .ok (.invokevirtual 120, 3)) ∧ (decode cX5_readOpenings 103 = .ok (.iinc 1 1, 3)) ∧ (decode cX5_readOpenings 106 = .ok (.goto (-104), 3)) ∧ (decode cX5_readOpenings 109 = .ok (.iconst 0, 1)) ∧ (decode cX5_readOpenings 110 = .ok (.ireturn, 1)) := by decide +kernel
theorem dX5_readOpenings_90 : decode cX5_readOpenings 90 = .ok (.iload_n 2, 1) := gdX5_readOpenings_90.1
theorem dX5_readOpenings_91 : decode cX5_readOpenings 91 = .ok (.ifCond .eq 7, 3) := gdX5_readOpenings_90.2.1
theorem dX5_readOpenings_94 : decode cX5_readOpenings 94 = .ok (.iconst 4, 1) := gdX5_readOpenings_90.2.2.1
theorem dX5_readOpenings_95 : decode cX5_readOpenings 95 = .ok (.goto 5, 3) := gdX5_readOpenings_90.2.2.2.1
theorem dX5_readOpenings_98 : decode cX5_readOpenings 98 = .ok (.bipush 16, 2) := gdX5_readOpenings_90.2.2.2.2.1
theorem dX5_readOpenings_100 : decode cX5_readOpenings 100 = .ok (.invokevirtual 120, 3) := gdX5_readOpenings_90.2.2.2.2.2.1
theorem dX5_readOpenings_103 : decode cX5_readOpenings 103 = .ok (.iinc 1 1, 3) := gdX5_readOpenings_90.2.2.2.2.2.2.1
theorem dX5_readOpenings_106 : decode cX5_readOpenings 106 = .ok (.goto (-104), 3) := gdX5_readOpenings_90.2.2.2.2.2.2.2.1
theorem dX5_readOpenings_109 : decode cX5_readOpenings 109 = .ok (.iconst 0, 1) := gdX5_readOpenings_90.2.2.2.2.2.2.2.2.1
theorem dX5_readOpenings_110 : decode cX5_readOpenings 110 = .ok (.ireturn, 1) := gdX5_readOpenings_90.2.2.2.2.2.2.2.2.2
theorem gdX5_closeBrackets_0 : (decode cX5_closeBrackets 0 = .ok (.aload_n 0, 1)) ∧ (decode cX5_closeBrackets 1 = .ok (.getfield 29, 3)) ∧ (decode cX5_closeBrackets 4 = .ok (.ifCond .le 62, 3)) ∧ (decode cX5_closeBrackets 7 = .ok (.aload_n 0, 1)) ∧ (decode cX5_closeBrackets 8 = .ok (.getfield 35, 3)) ∧ (decode cX5_closeBrackets 11 = .ok (.bipush 93, 2)) ∧ (decode cX5_closeBrackets 13 = .ok (.invokevirtual 55, 3)) ∧ (decode cX5_closeBrackets 16 = .ok (.ifCond .eq 50, 3)) ∧ (decode cX5_closeBrackets 19 = .ok (.aload_n 0, 1)) ∧ (decode cX5_closeBrackets 20 = .ok (.getstatic 113, 3)) ∧ (decode cX5_closeBrackets 23 = .ok (.bipush 6, 2)) ∧ (decode cX5_closeBrackets 25 = .ok (.iaload, 1)) ∧ (decode cX5_closeBrackets 26 = .ok (.invokevirtual 116, 3)) ∧ (decode cX5_closeBrackets 29 = .ok (.aload_n 0, 1)) ∧ (decode cX5_closeBrackets 30 = .ok (.aload_n 0, 1)) ∧ (decode cX5_closeBrackets 31 = .ok (.getfield 26, 3)) := by decide +kernel
theorem dX5_closeBrackets_0 : decode cX5_closeBrackets 0 = .ok (.aload_n 0, 1) := gdX5_closeBrackets_0.1
theorem dX5_closeBrackets_1 : decode cX5_closeBrackets 1 = .ok (.getfield 29, 3) := gdX5_closeBrackets_0.2.1
theorem dX5_closeBrackets_4 : decode cX5_closeBrackets 4 = .ok (.ifCond .le 62, 3) := gdX5_closeBrackets_0.2.2.1
theorem dX5_closeBrackets_7 : decode cX5_closeBrackets 7 = .ok (.aload_n 0, 1) := gdX5_closeBrackets_0.2.2.2.1
theorem dX5_closeBrackets_8 : decode cX5_closeBrackets 8 = .ok (.getfield 35, 3) := gdX5_closeBrackets_0.2.2.2.2.1
theorem dX5_closeBrackets_11 : decode cX5_closeBrackets 11 = .ok (.bipush 93, 2) := gdX5_closeBrackets_0.2.2.2.2.2.1
theorem dX5_closeBrackets_13 : decode cX5_closeBrackets 13 = .ok (.invokevirtual 55, 3) := gdX5_closeBrackets_0.2.2.2.2.2.2.1
theorem dX5_closeBrackets_16 : decode cX5_closeBrackets 16 = .ok (.ifCond .eq 50, 3) := gdX5_closeBrackets_0.2.2.2.2.2.2.2.1
theorem dX5_closeBrackets_19 : decode cX5_closeBrackets 19 = .ok (.aload_n 0, 1) := gdX5_closeBrackets_0.2.2.2.2.2.2.2.2.1
theorem dX5_closeBrackets_20 : decode cX5_closeBrackets 20 = .ok (.getstatic 113, 3) := gdX5_closeBrackets_0.2.2.2.2.2.2.2.2.2.1
theorem dX5_closeBrackets_23 : decode cX5_closeBrackets 23 = .ok (.bipush 6, 2) := gdX5_closeBrackets_0.2.2.2.2.2.2.2.2.2.2.1
theorem dX5_closeBrackets_25 : decode cX5_closeBrackets 25 = .ok (.iaload, 1) := gdX5_closeBrackets_0.2.2.2.2.2.2.2.2.2.2.2.1
theorem dX5_closeBrackets_26 : decode cX5_closeBrackets 26 = .ok (.invokevirtual 116, 3) := gdX5_closeBrackets_0.2.2.2.2.2.2.2.2.2.2.2.2.1
theorem dX5_closeBrackets_29 : decode cX5_closeBrackets 29 = .ok (.aload_n 0, 1) := gdX5_closeBrackets_0.2.2.2.2.2.2.2.2.2.2.2.2.2.1
theorem dX5_closeBrackets_30 : decode cX5_closeBrackets 30 = .ok (.aload_n 0, 1) := gdX5_closeBrackets_0.2.2.2.2.2.2.2.2.2.2.2.2.2.2.1
theorem dX5_closeBrackets_31 : decode cX5_closeBrackets 31 = .ok (.getfield 26, 3) := gdX5_closeBrackets_0.2.2.2.2.2.2.2.2.2.2.2.2.2.2.2
theorem gdX5_closeBrackets_34 : (decode cX5_closeBrackets 34 = .ok (.iconst 1, 1)) ∧ (decode cX5_closeBrackets 35 = .ok (.isub, 1)) ∧ (decode cX5_closeBrackets 36 = .ok (.iconst 0, 1)) ∧ (decode cX5_closeBrackets 37 = .ok (.invokestatic 125, 3)) ∧ (decode cX5_closeBrackets 40 = .ok (.putfield 26, 3)) ∧ (decode cX5_closeBrackets 43 = .ok (.aload_n 0, 1)) ∧ (decode cX5_closeBrackets 44 = .ok (.dup, 1)) ∧ (decode cX5_closeBrackets 45 = .ok (.getfield 32, 3)) ∧ (decode cX5_closeBrackets 48 = .ok (.iconst 1, 1)) ∧ (decode cX5_closeBrackets 49 = .ok (.isub, 1)) ∧ (decode cX5_closeBrackets 50 = .ok (.putfield 32, 3)) ∧ (decode cX5_closeBrackets 53 = .ok (.aload_n 0, 1)) ∧ (decode cX5_closeBrackets 54 = .ok (.dup, 1)) ∧ (decode cX5_closeBrackets 55 = .ok (.getfield 29, 3)) ∧ (decode cX5_closeBrackets 58 = .ok (.iconst 1, 1)) ∧ (decode cX5_closeBrackets 59 = .ok (.isub, 1)) := by decide +kernel
theorem dX5_closeBrackets_34 : decode cX5_closeBrackets 34 = .ok (.iconst 1, 1) := gdX5_closeBrackets_34.1
theorem dX5_closeBrackets_35 : decode cX5_closeBrackets 35 = .ok (.isub, 1) := gdX5_closeBrackets_34.2.1
theorem dX5_closeBrackets_36 : decode cX5_closeBrackets 36 = .ok (.iconst 0, 1) := gdX5_closeBrackets_34.2.2.1
theorem dX5_closeBrackets_37 : decode cX5_closeBrackets 37 = .ok (.invokestatic 125, 3) := gdX5_closeBrackets_34.2.2.2.1
theorem dX5_closeBrackets_40 : decode cX5_closeBrackets 40 = .ok (.putfield 26, 3) := gdX5_closeBrackets_34.2.2.2.2.1
theorem dX5_closeBrackets_43 : decode cX5_closeBrackets 43 = .ok (.aload_n 0, 1) := gdX5_closeBrackets_34.2.2.2.2.2.1
theorem dX5_closeBrackets_44 : decode cX5_closeBrackets 44 = .ok (.dup, 1) := gdX5_closeBrackets_34.2.2.2.2.2.2.1
theorem dX5_closeBrackets_45 : decode cX5_closeBrackets 45 = .ok (.getfield 32, 3) := gdX5_closeBrackets_34.2.2.2.2.2.2.2.1
theorem dX5_closeBrackets_48 : decode cX5_closeBrackets 48 = .ok (.iconst 1, 1) := gdX5_closeBrackets_34.2.2.2.2.2.2.2.2.1
theorem dX5_closeBrackets_49 : decode cX5_closeBrackets 49 = .ok (.isub, 1) := gdX5_closeBrackets_34.2.2.2.2.2.2.2.2.2.1
theorem dX5_closeBrackets_50 : decode cX5_closeBrackets 50 = .ok (.putfield 32, 3) := gdX5_closeBrackets_34.2.2.2.2.2.2.2.2.2.2.1
theorem dX5_closeBrackets_53 : decode cX5_closeBrackets 53 = .ok (.aload_n 0, 1) := gdX5_closeBrackets_34.2.2.2.2.2.2.2.2.2.2.2.1
theorem dX5_closeBrackets_54 : decode cX5_closeBrackets 54 = .ok (.dup, 1) := gdX5_closeBrackets_34.2.2.2.2.2.2.2.2.2.2.2.2.1
theorem dX5_closeBrackets_55 : decode cX5_closeBrackets 55 = .ok (.getfield 29, 3) := gdX5_closeBrackets_34.2.2.2.2.2.2.2.2.2.2.2.2.2.1
theorem dX5_closeBrackets_58 : decode cX5_closeBrackets 58 = .ok (.iconst 1, 1) := gdX5_closeBrackets_34.2.2.2.2.2.2.2.2.2.2.2.2.2.2.1
theorem dX5_closeBrackets_59 : decode cX5_closeBrackets 59 = .ok (.isub, 1) := gdX5_closeBrackets_34.2.2.2.2.2.2.2.2.2.2.2.2.2.2.2
theorem gdX5_closeBrackets_60 : (decode cX5_closeBrackets 60 = .ok (.putfield 29, 3)) ∧ (decode cX5_closeBrackets 63 = .ok (.goto (-63), 3)) ∧ (decode cX5_closeBrackets 66 = .ok (.return_, 1)) := by decide +kernel
theorem dX5_closeBrackets_60 : decode cX5_closeBrackets 60 = .ok (.putfield 29, 3) := gdX5_closeBrackets_60.1
theorem dX5_closeBrackets_63 : decode cX5_closeBrackets 63 = .ok (.goto (-63), 3) := gdX5_closeBrackets_60.2.1
theorem dX5_closeBrackets_66 : decode cX5_closeBrackets 66 = .ok (.return_, 1) := gdX5_closeBrackets_60.2.2
theorem gdX5_isTestOver_0 : (decode cX5_isTestOver 0 = .ok (.aload_n 0, 1)) ∧ (decode cX5_isTestOver 1 = .ok (.getstatic 113, 3)) ∧ (decode cX5_isTestOver 4 = .ok (.bipush 6, 2)) ∧ (decode cX5_isTestOver 6 = .ok (.iaload, 1)) ∧ (decode cX5_isTestOver 7 = .ok (.invokevirtual 116, 3)) ∧ (decode cX5_isTestOver 10 = .ok (.aload_n 0, 1)) ∧ (decode cX5_isTestOver 11 = .ok (.getfield 29, 3)) ∧ (decode cX5_isTestOver 14 = .ok (.ifCond .eq 21, 3)) ∧ (decode cX5_isTestOver 17 = .ok (.aload_n 0, 1)) ∧ (decode cX5_isTestOver 18 = .ok (.getfield 35, 3)) ∧ (decode cX5_isTestOver 21 = .ok (.aload_n 0, 1)) ∧ (decode cX5_isTestOver 22 = .ok (.getfield 35, 3)) ∧ (decode cX5_isTestOver 25 = .ok (.getfield 59, 3)) ∧ (decode cX5_isTestOver 28 = .ok (.iconst 0, 1)) ∧ (decode cX5_isTestOver 29 = .ok (.invokevirtual 62, 3)) ∧ (decode cX5_isTestOver 32 = .ok (.ifCond .eq 7, 3)) := by decide +kernel
theorem dX5_isTestOver_0 : decode cX5_isTestOver 0 = .ok (.aload_n 0, 1) := gdX5_isTestOver_0.1
theorem dX5_isTestOver_1 : decode cX5_isTestOver 1 = .ok (.getstatic 113, 3) := gdX5_isTestOver_0.2.1
theorem dX5_isTestOver_4 : decode cX5_isTestOver 4 = .ok (.bipush 6, 2) := gdX5_isTestOver_0.2.2.1
theorem dX5_isTestOver_6 : decode cX5_isTestOver 6 = .ok (.iaload, 1) := gdX5_isTestOver_0.2.2.2.1
theorem dX5_isTestOver_7 : decode cX5_isTestOver 7 = .ok (.invokevirtual 116, 3) := gdX5_isTestOver_0.2.2.2.2.1
theorem dX5_isTestOver_10 : decode cX5_isTestOver 10 = .ok (.aload_n 0, 1) := gdX5_isTestOver_0.2.2.2.2.2.1
theorem dX5_isTestOver_11 : decode cX5_isTestOver 11 = .ok (.getfield 29, 3) := gdX5_isTestOver_0.2.2.2.2.2.2.1
theorem dX5_isTestOver_14 : decode cX5_isTestOver 14 = .ok (.ifCond .eq 21, 3) := gdX5_isTestOver_0.2.2.2.2.2.2.2.1
theorem dX5_isTestOver_17 : decode cX5_isTestOver 17 = .ok (.aload_n 0, 1) := gdX5_isTestOver_0.2.2.2.2.2.2.2.2.1
theorem dX5_isTestOver_18 : decode cX5_isTestOver 18 = .ok (.getfield 35, 3) := gdX5_isTestOver_0.2.2.2.2.2.2.2.2.2.1
theorem dX5_isTestOver_21 : decode cX5_isTestOver 21 = .ok (.aload_n 0, 1) := gdX5_isTestOver_0.2.2.2.2.2.2.2.2.2.2.1
theorem dX5_isTestOver_22 : decode cX5_isTestOver 22 = .ok (.getfield 35, 3) := gdX5_isTestOver_0.2.2.2.2.2.2.2.2.2.2.2.1
theorem dX5_isTestOver_25 : decode cX5_isTestOver 25 = .ok (.getfield 59, 3) := gdX5_isTestOver_0.2.2.2.2.2.2.2.2.2.2.2.2.1
theorem dX5_isTestOver_28 : decode cX5_isTestOver 28 = .ok (.iconst 0, 1) := gdX5_isTestOver_0.2.2.2.2.2.2.2.2.2.2.2.2.2.1
theorem dX5_isTestOver_29 : decode cX5_isTestOver 29 = .ok (.invokevirtual 62, 3) := gdX5_isTestOver_0.2.2.2.2.2.2.2.2.2.2.2.2.2.2.1
theorem dX5_isTestOver_32 : decode cX5_isTestOver 32 = .ok (.ifCond .eq 7, 3) := gdX5_isTestOver_0.2.2.2.2.2.2.2.2.2.2.2.2.2.2.2
theorem gdX5_isTestOver_35 : (decode cX5_isTestOver 35 = .ok (.iconst 1, 1)) ∧ (decode cX5_isTestOver 36 = .ok (.goto 4, 3)) ∧ (decode cX5_isTestOver 39 = .ok (.iconst 0, 1)) ∧ (decode cX5_isTestOver 40 = .ok (.ireturn, 1)) := by decide +kernel
theorem dX5_isTestOver_35 : decode cX5_isTestOver 35 = .ok (.iconst 1, 1) := gdX5_isTestOver_35.1
theorem dX5_isTestOver_36 : decode cX5_isTestOver 36 = .ok (.goto 4, 3) := gdX5_isTestOver_35.2.1
theorem dX5_isTestOver_39 : decode cX5_isTestOver 39 = .ok (.iconst 0, 1) := gdX5_isTestOver_35.2.2.1
theorem dX5_isTestOver_40 : decode cX5_isTestOver 40 = .ok (.ireturn, 1) := gdX5_isTestOver_35.2.2.2
theorem gdX5_hold_0 : (decode cX5_hold 0 = .ok (.aload_n 0, 1)) ∧ (decode cX5_hold 1 = .ok (.getfield 26, 3)) ∧ (decode cX5_hold 4 = .ok (.ifCond .lt 32, 3)) ∧ (decode cX5_hold 7 = .ok (.aload_n 0, 1)) ∧ (decode cX5_hold 8 = .ok (.getfield 26, 3)) ∧ (decode cX5_hold 11 = .ok (.bipush 64, 2)) ∧ (decode cX5_hold 13 = .ok (.if_icmp .ge 23, 3)) ∧ (decode cX5_hold 16 = .ok (.aload_n 0, 1)) ∧ (decode cX5_hold 17 = .ok (.getfield 9, 3)) ∧ (decode cX5_hold 20 = .ok (.aload_n 0, 1)) ∧ (decode cX5_hold 21 = .ok (.getfield 26, 3)) ∧ (decode cX5_hold 24 = .ok (.iload_n 1, 1)) ∧ (decode cX5_hold 25 = .ok (.iastore, 1)) ∧ (decode cX5_hold 26 = .ok (.aload_n 0, 1)) ∧ (decode cX5_hold 27 = .ok (.dup, 1)) ∧ (decode cX5_hold 28 = .ok (.getfield 26, 3)) := by decide +kernel
theorem dX5_hold_0 : decode cX5_hold 0 = .ok (.aload_n 0, 1) := gdX5_hold_0.1
theorem dX5_hold_1 : decode cX5_hold 1 = .ok (.getfield 26, 3) := gdX5_hold_0.2.1
theorem dX5_hold_4 : decode cX5_hold 4 = .ok (.ifCond .lt 32, 3) := gdX5_hold_0.2.2.1
theorem dX5_hold_7 : decode cX5_hold 7 = .ok (.aload_n 0, 1) := gdX5_hold_0.2.2.2.1
theorem dX5_hold_8 : decode cX5_hold 8 = .ok (.getfield 26, 3) := gdX5_hold_0.2.2.2.2.1
theorem dX5_hold_11 : decode cX5_hold 11 = .ok (.bipush 64, 2) := gdX5_hold_0.2.2.2.2.2.1
theorem dX5_hold_13 : decode cX5_hold 13 = .ok (.if_icmp .ge 23, 3) := gdX5_hold_0.2.2.2.2.2.2.1
theorem dX5_hold_16 : decode cX5_hold 16 = .ok (.aload_n 0, 1) := gdX5_hold_0.2.2.2.2.2.2.2.1
theorem dX5_hold_17 : decode cX5_hold 17 = .ok (.getfield 9, 3) := gdX5_hold_0.2.2.2.2.2.2.2.2.1
theorem dX5_hold_20 : decode cX5_hold 20 = .ok (.aload_n 0, 1) := gdX5_hold_0.2.2.2.2.2.2.2.2.2.1
theorem dX5_hold_21 : decode cX5_hold 21 = .ok (.getfield 26, 3) := gdX5_hold_0.2.2.2.2.2.2.2.2.2.2.1
theorem dX5_hold_24 : decode cX5_hold 24 = .ok (.iload_n 1, 1) := gdX5_hold_0.2.2.2.2.2.2.2.2.2.2.2.1
theorem dX5_hold_25 : decode cX5_hold 25 = .ok (.iastore, 1) := gdX5_hold_0.2.2.2.2.2.2.2.2.2.2.2.2.1
theorem dX5_hold_26 : decode cX5_hold 26 = .ok (.aload_n 0, 1) := gdX5_hold_0.2.2.2.2.2.2.2.2.2.2.2.2.2.1
theorem dX5_hold_27 : decode cX5_hold 27 = .ok (.dup, 1) := gdX5_hold_0.2.2.2.2.2.2.2.2.2.2.2.2.2.2.1
theorem dX5_hold_28 : decode cX5_hold 28 = .ok (.getfield 26, 3) := gdX5_hold_0.2.2.2.2.2.2.2.2.2.2.2.2.2.2.2
theorem gdX5_hold_31 : (decode cX5_hold 31 = .ok (.iconst 1, 1)) ∧ (decode cX5_hold 32 = .ok (.iadd, 1)) ∧ (decode cX5_hold 33 = .ok (.putfield 26, 3)) ∧ (decode cX5_hold 36 = .ok (.return_, 1)) := by decide +kernel
theorem dX5_hold_31 : decode cX5_hold 31 = .ok (.iconst 1, 1) := gdX5_hold_31.1
theorem dX5_hold_32 : decode cX5_hold 32 = .ok (.iadd, 1) := gdX5_hold_31.2.1
theorem dX5_hold_33 : decode cX5_hold 33 = .ok (.putfield 26, 3) := gdX5_hold_31.2.2.1
theorem dX5_hold_36 : decode cX5_hold 36 = .ok (.return_, 1) := gdX5_hold_31.2.2.2
theorem gdX5_settle_0 : (decode cX5_settle 0 = .ok (.aload_n 0, 1)) ∧ (decode cX5_settle 1 = .ok (.getfield 26, 3)) ∧ (decode cX5_settle 4 = .ok (.ifCond .le 79, 3)) ∧ (decode cX5_settle 7 = .ok (.getstatic 113, 3)) ∧ (decode cX5_settle 10 = .ok (.aload_n 0, 1)) ∧ (decode cX5_settle 11 = .ok (.getfield 9, 3)) ∧ (decode cX5_settle 14 = .ok (.aload_n 0, 1)) ∧ (decode cX5_settle 15 = .ok (.getfield 26, 3)) ∧ (decode cX5_settle 18 = .ok (.iconst 1, 1)) ∧ (decode cX5_settle 19 = .ok (.isub, 1)) ∧ (decode cX5_settle 20 = .ok (.iaload, 1)) ∧ (decode cX5_settle 21 = .ok (.iaload, 1)) ∧ (decode cX5_settle 22 = .ok (.iload_n 1, 1)) ∧ (decode cX5_settle 23 = .ok (.if_icmp .lt 60, 3)) ∧ (decode cX5_settle 26 = .ok (.aload_n 0, 1)) ∧ (decode cX5_settle 27 = .ok (.dup, 1)) := by decide +kernel
theorem dX5_settle_0 : decode cX5_settle 0 = .ok (.aload_n 0, 1) := gdX5_settle_0.1
theorem dX5_settle_1 : decode cX5_settle 1 = .ok (.getfield 26, 3) := gdX5_settle_0.2.1
theorem dX5_settle_4 : decode cX5_settle 4 = .ok (.ifCond .le 79, 3) := gdX5_settle_0.2.2.1
theorem dX5_settle_7 : decode cX5_settle 7 = .ok (.getstatic 113, 3) := gdX5_settle_0.2.2.2.1
theorem dX5_settle_10 : decode cX5_settle 10 = .ok (.aload_n 0, 1) := gdX5_settle_0.2.2.2.2.1
theorem dX5_settle_11 : decode cX5_settle 11 = .ok (.getfield 9, 3) := gdX5_settle_0.2.2.2.2.2.1
theorem dX5_settle_14 : decode cX5_settle 14 = .ok (.aload_n 0, 1) := gdX5_settle_0.2.2.2.2.2.2.1
theorem dX5_settle_15 : decode cX5_settle 15 = .ok (.getfield 26, 3) := gdX5_settle_0.2.2.2.2.2.2.2.1
theorem dX5_settle_18 : decode cX5_settle 18 = .ok (.iconst 1, 1) := gdX5_settle_0.2.2.2.2.2.2.2.2.1
theorem dX5_settle_19 : decode cX5_settle 19 = .ok (.isub, 1) := gdX5_settle_0.2.2.2.2.2.2.2.2.2.1
theorem dX5_settle_20 : decode cX5_settle 20 = .ok (.iaload, 1) := gdX5_settle_0.2.2.2.2.2.2.2.2.2.2.1
theorem dX5_settle_21 : decode cX5_settle 21 = .ok (.iaload, 1) := gdX5_settle_0.2.2.2.2.2.2.2.2.2.2.2.1
theorem dX5_settle_22 : decode cX5_settle 22 = .ok (.iload_n 1, 1) := gdX5_settle_0.2.2.2.2.2.2.2.2.2.2.2.2.1
theorem dX5_settle_23 : decode cX5_settle 23 = .ok (.if_icmp .lt 60, 3) := gdX5_settle_0.2.2.2.2.2.2.2.2.2.2.2.2.2.1
theorem dX5_settle_26 : decode cX5_settle 26 = .ok (.aload_n 0, 1) := gdX5_settle_0.2.2.2.2.2.2.2.2.2.2.2.2.2.2.1
theorem dX5_settle_27 : decode cX5_settle 27 = .ok (.dup, 1) := gdX5_settle_0.2.2.2.2.2.2.2.2.2.2.2.2.2.2.2
theorem gdX5_settle_28 : (decode cX5_settle 28 = .ok (.getfield 26, 3)) ∧ (decode cX5_settle 31 = .ok (.iconst 1, 1)) ∧ (decode cX5_settle 32 = .ok (.isub, 1)) ∧ (decode cX5_settle 33 = .ok (.putfield 26, 3)) ∧ (decode cX5_settle 36 = .ok (.aload_n 0, 1)) ∧ (decode cX5_settle 37 = .ok (.getfield 18, 3)) ∧ (decode cX5_settle 40 = .ok (.aload_n 0, 1)) ∧ (decode cX5_settle 41 = .ok (.getfield 9, 3)) ∧ (decode cX5_settle 44 = .ok (.aload_n 0, 1)) ∧ (decode cX5_settle 45 = .ok (.getfield 26, 3)) ∧ (decode cX5_settle 48 = .ok (.iaload, 1)) ∧ (decode cX5_settle 49 = .ok (.iconst 0, 1)) ∧ (decode cX5_settle 50 = .ok (.invokevirtual 84, 3)) ∧ (decode cX5_settle 53 = .ok (.aload_n 0, 1)) ∧ (decode cX5_settle 54 = .ok (.dup, 1)) ∧ (decode cX5_settle 55 = .ok (.getfield 32, 3)) := by decide +kernel
theorem dX5_settle_28 : decode cX5_settle 28 = .ok (.getfield 26, 3) := gdX5_settle_28.1
theorem dX5_settle_31 : decode cX5_settle 31 = .ok (.iconst 1, 1) := gdX5_settle_28.2.1
theorem dX5_settle_32 : decode cX5_settle 32 = .ok (.isub, 1) := gdX5_settle_28.2.2.1
theorem dX5_settle_33 : decode cX5_settle 33 = .ok (.putfield 26, 3) := gdX5_settle_28.2.2.2.1
theorem dX5_settle_36 : decode cX5_settle 36 = .ok (.aload_n 0, 1) := gdX5_settle_28.2.2.2.2.1
theorem dX5_settle_37 : decode cX5_settle 37 = .ok (.getfield 18, 3) := gdX5_settle_28.2.2.2.2.2.1
theorem dX5_settle_40 : decode cX5_settle 40 = .ok (.aload_n 0, 1) := gdX5_settle_28.2.2.2.2.2.2.1
theorem dX5_settle_41 : decode cX5_settle 41 = .ok (.getfield 9, 3) := gdX5_settle_28.2.2.2.2.2.2.2.1
theorem dX5_settle_44 : decode cX5_settle 44 = .ok (.aload_n 0, 1) := gdX5_settle_28.2.2.2.2.2.2.2.2.1
theorem dX5_settle_45 : decode cX5_settle 45 = .ok (.getfield 26, 3) := gdX5_settle_28.2.2.2.2.2.2.2.2.2.1
theorem dX5_settle_48 : decode cX5_settle 48 = .ok (.iaload, 1) := gdX5_settle_28.2.2.2.2.2.2.2.2.2.2.1
theorem dX5_settle_49 : decode cX5_settle 49 = .ok (.iconst 0, 1) := gdX5_settle_28.2.2.2.2.2.2.2.2.2.2.2.1
theorem dX5_settle_50 : decode cX5_settle 50 = .ok (.invokevirtual 84, 3) := gdX5_settle_28.2.2.2.2.2.2.2.2.2.2.2.2.1
theorem dX5_settle_53 : decode cX5_settle 53 = .ok (.aload_n 0, 1) := gdX5_settle_28.2.2.2.2.2.2.2.2.2.2.2.2.2.1
theorem dX5_settle_54 : decode cX5_settle 54 = .ok (.dup, 1) := gdX5_settle_28.2.2.2.2.2.2.2.2.2.2.2.2.2.2.1
theorem dX5_settle_55 : decode cX5_settle 55 = .ok (.getfield 32, 3) := gdX5_settle_28.2.2.2.2.2.2.2.2.2.2.2.2.2.2.2
theorem gdX5_settle_58 : (decode cX5_settle 58 = .ok (.aload_n 0, 1)) ∧ (decode cX5_settle 59 = .ok (.getfield 9, 3)) ∧ (decode cX5_settle 62 = .ok (.aload_n 0, 1)) ∧ (decode cX5_settle 63 = .ok (.getfield 26, 3)) ∧ (decode cX5_settle 66 = .ok (.iaload, 1)) ∧ (decode cX5_settle 67 = .ok (.iconst 4, 1)) ∧ (decode cX5_settle 68 = .ok (.if_icmp .ne 7, 3)) ∧ (decode cX5_settle 71 = .ok (.iconst 1, 1)) ∧ (decode cX5_settle 72 = .ok (.goto 4, 3)) ∧ (decode cX5_settle 75 = .ok (.iconst 0, 1)) ∧ (decode cX5_settle 76 = .ok (.isub, 1)) ∧ (decode cX5_settle 77 = .ok (.putfield 32, 3)) ∧ (decode cX5_settle 80 = .ok (.goto (-80), 3)) ∧ (decode cX5_settle 83 = .ok (.return_, 1)) := by decide +kernel
theorem dX5_settle_58 : decode cX5_settle 58 = .ok (.aload_n 0, 1) := gdX5_settle_58.1
theorem dX5_settle_59 : decode cX5_settle 59 = .ok (.getfield 9, 3) := gdX5_settle_58.2.1
theorem dX5_settle_62 : decode cX5_settle 62 = .ok (.aload_n 0, 1) := gdX5_settle_58.2.2.1
theorem dX5_settle_63 : decode cX5_settle 63 = .ok (.getfield 26, 3) := gdX5_settle_58.2.2.2.1
theorem dX5_settle_66 : decode cX5_settle 66 = .ok (.iaload, 1) := gdX5_settle_58.2.2.2.2.1
theorem dX5_settle_67 : decode cX5_settle 67 = .ok (.iconst 4, 1) := gdX5_settle_58.2.2.2.2.2.1
theorem dX5_settle_68 : decode cX5_settle 68 = .ok (.if_icmp .ne 7, 3) := gdX5_settle_58.2.2.2.2.2.2.1
theorem dX5_settle_71 : decode cX5_settle 71 = .ok (.iconst 1, 1) := gdX5_settle_58.2.2.2.2.2.2.2.1
theorem dX5_settle_72 : decode cX5_settle 72 = .ok (.goto 4, 3) := gdX5_settle_58.2.2.2.2.2.2.2.2.1
theorem dX5_settle_75 : decode cX5_settle 75 = .ok (.iconst 0, 1) := gdX5_settle_58.2.2.2.2.2.2.2.2.2.1
theorem dX5_settle_76 : decode cX5_settle 76 = .ok (.isub, 1) := gdX5_settle_58.2.2.2.2.2.2.2.2.2.2.1
theorem dX5_settle_77 : decode cX5_settle 77 = .ok (.putfield 32, 3) := gdX5_settle_58.2.2.2.2.2.2.2.2.2.2.2.1
theorem dX5_settle_80 : decode cX5_settle 80 = .ok (.goto (-80), 3) := gdX5_settle_58.2.2.2.2.2.2.2.2.2.2.2.2.1
theorem dX5_settle_83 : decode cX5_settle 83 = .ok (.return_, 1) := gdX5_settle_58.2.2.2.2.2.2.2.2.2.2.2.2.2
theorem gdX5_takeReckoning_0 : (decode cX5_takeReckoning 0 = .ok (.aload_n 0, 1)) ∧ (decode cX5_takeReckoning 1 = .ok (.getfield 35, 3)) ∧ (decode cX5_takeReckoning 4 = .ok (.bipush 43, 2)) ∧ (decode cX5_takeReckoning 6 = .ok (.invokevirtual 55, 3)) ∧ (decode cX5_takeReckoning 9 = .ok (.ifCond .eq 6, 3)) ∧ (decode cX5_takeReckoning 12 = .ok (.bipush 7, 2)) ∧ (decode cX5_takeReckoning 14 = .ok (.ireturn, 1)) ∧ (decode cX5_takeReckoning 15 = .ok (.aload_n 0, 1)) ∧ (decode cX5_takeReckoning 16 = .ok (.getfield 35, 3)) ∧ (decode cX5_takeReckoning 19 = .ok (.bipush 45, 2)) ∧ (decode cX5_takeReckoning 21 = .ok (.invokevirtual 55, 3)) ∧ (decode cX5_takeReckoning 24 = .ok (.ifCond .eq 6, 3)) ∧ (decode cX5_takeReckoning 27 = .ok (.bipush 8, 2)) ∧ (decode cX5_takeReckoning 29 = .ok (.ireturn, 1)) ∧ (decode cX5_takeReckoning 30 = .ok (.aload_n 0, 1)) ∧ (decode cX5_takeReckoning 31 = .ok (.getfield 35, 3)) := by decide +kernel
theorem dX5_takeReckoning_0 : decode cX5_takeReckoning 0 = .ok (.aload_n 0, 1) := gdX5_takeReckoning_0.1
theorem dX5_takeReckoning_1 : decode cX5_takeReckoning 1 = .ok (.getfield 35, 3) := gdX5_takeReckoning_0.2.1
theorem dX5_takeReckoning_4 : decode cX5_takeReckoning 4 = .ok (.bipush 43, 2) := gdX5_takeReckoning_0.2.2.1
theorem dX5_takeReckoning_6 : decode cX5_takeReckoning 6 = .ok (.invokevirtual 55, 3) := gdX5_takeReckoning_0.2.2.2.1
theorem dX5_takeReckoning_9 : decode cX5_takeReckoning 9 = .ok (.ifCond .eq 6, 3) := gdX5_takeReckoning_0.2.2.2.2.1
theorem dX5_takeReckoning_12 : decode cX5_takeReckoning 12 = .ok (.bipush 7, 2) := gdX5_takeReckoning_0.2.2.2.2.2.1
theorem dX5_takeReckoning_14 : decode cX5_takeReckoning 14 = .ok (.ireturn, 1) := gdX5_takeReckoning_0.2.2.2.2.2.2.1
theorem dX5_takeReckoning_15 : decode cX5_takeReckoning 15 = .ok (.aload_n 0, 1) := gdX5_takeReckoning_0.2.2.2.2.2.2.2.1
theorem dX5_takeReckoning_16 : decode cX5_takeReckoning 16 = .ok (.getfield 35, 3) := gdX5_takeReckoning_0.2.2.2.2.2.2.2.2.1
theorem dX5_takeReckoning_19 : decode cX5_takeReckoning 19 = .ok (.bipush 45, 2) := gdX5_takeReckoning_0.2.2.2.2.2.2.2.2.2.1
theorem dX5_takeReckoning_21 : decode cX5_takeReckoning 21 = .ok (.invokevirtual 55, 3) := gdX5_takeReckoning_0.2.2.2.2.2.2.2.2.2.2.1
theorem dX5_takeReckoning_24 : decode cX5_takeReckoning 24 = .ok (.ifCond .eq 6, 3) := gdX5_takeReckoning_0.2.2.2.2.2.2.2.2.2.2.2.1
theorem dX5_takeReckoning_27 : decode cX5_takeReckoning 27 = .ok (.bipush 8, 2) := gdX5_takeReckoning_0.2.2.2.2.2.2.2.2.2.2.2.2.1
theorem dX5_takeReckoning_29 : decode cX5_takeReckoning 29 = .ok (.ireturn, 1) := gdX5_takeReckoning_0.2.2.2.2.2.2.2.2.2.2.2.2.2.1
theorem dX5_takeReckoning_30 : decode cX5_takeReckoning 30 = .ok (.aload_n 0, 1) := gdX5_takeReckoning_0.2.2.2.2.2.2.2.2.2.2.2.2.2.2.1
theorem dX5_takeReckoning_31 : decode cX5_takeReckoning 31 = .ok (.getfield 35, 3) := gdX5_takeReckoning_0.2.2.2.2.2.2.2.2.2.2.2.2.2.2.2
theorem gdX5_takeReckoning_34 : (decode cX5_takeReckoning 34 = .ok (.bipush 42, 2)) ∧ (decode cX5_takeReckoning 36 = .ok (.invokevirtual 55, 3)) ∧ (decode cX5_takeReckoning 39 = .ok (.ifCond .eq 6, 3)) ∧ (decode cX5_takeReckoning 42 = .ok (.bipush 9, 2)) ∧ (decode cX5_takeReckoning 44 = .ok (.ireturn, 1)) ∧ (decode cX5_takeReckoning 45 = .ok (.aload_n 0, 1)) ∧ (decode cX5_takeReckoning 46 = .ok (.getfield 35, 3)) ∧ (decode cX5_takeReckoning 49 = .ok (.bipush 47, 2)) ∧ (decode cX5_takeReckoning 51 = .ok (.invokevirtual 55, 3)) ∧ (decode cX5_takeReckoning 54 = .ok (.ifCond .eq 8, 3)) ∧ (decode cX5_takeReckoning 57 = .ok (.bipush 10, 2)) ∧ (decode cX5_takeReckoning 59 = .ok (.goto 4, 3)) ∧ (decode cX5_takeReckoning 62 = .ok (.iconst (-1), 1)) ∧ (decode cX5_takeReckoning 63 = .ok (.ireturn, 1)) := by decide +kernel
theorem dX5_takeReckoning_34 : decode cX5_takeReckoning 34 = .ok (.bipush 42, 2) := gdX5_takeReckoning_34.1
theorem dX5_takeReckoning_36 : decode cX5_takeReckoning 36 = .ok (.invokevirtual 55, 3) := gdX5_takeReckoning_34.2.1
theorem dX5_takeReckoning_39 : decode cX5_takeReckoning 39 = .ok (.ifCond .eq 6, 3) := gdX5_takeReckoning_34.2.2.1
theorem dX5_takeReckoning_42 : decode cX5_takeReckoning 42 = .ok (.bipush 9, 2) := gdX5_takeReckoning_34.2.2.2.1
theorem dX5_takeReckoning_44 : decode cX5_takeReckoning 44 = .ok (.ireturn, 1) := gdX5_takeReckoning_34.2.2.2.2.1
theorem dX5_takeReckoning_45 : decode cX5_takeReckoning 45 = .ok (.aload_n 0, 1) := gdX5_takeReckoning_34.2.2.2.2.2.1
theorem dX5_takeReckoning_46 : decode cX5_takeReckoning 46 = .ok (.getfield 35, 3) := gdX5_takeReckoning_34.2.2.2.2.2.2.1
theorem dX5_takeReckoning_49 : decode cX5_takeReckoning 49 = .ok (.bipush 47, 2) := gdX5_takeReckoning_34.2.2.2.2.2.2.2.1
theorem dX5_takeReckoning_51 : decode cX5_takeReckoning 51 = .ok (.invokevirtual 55, 3) := gdX5_takeReckoning_34.2.2.2.2.2.2.2.2.1
theorem dX5_takeReckoning_54 : decode cX5_takeReckoning 54 = .ok (.ifCond .eq 8, 3) := gdX5_takeReckoning_34.2.2.2.2.2.2.2.2.2.1
theorem dX5_takeReckoning_57 : decode cX5_takeReckoning 57 = .ok (.bipush 10, 2) := gdX5_takeReckoning_34.2.2.2.2.2.2.2.2.2.2.1
theorem dX5_takeReckoning_59 : decode cX5_takeReckoning 59 = .ok (.goto 4, 3) := gdX5_takeReckoning_34.2.2.2.2.2.2.2.2.2.2.2.1
theorem dX5_takeReckoning_62 : decode cX5_takeReckoning 62 = .ok (.iconst (-1), 1) := gdX5_takeReckoning_34.2.2.2.2.2.2.2.2.2.2.2.2.1
theorem dX5_takeReckoning_63 : decode cX5_takeReckoning 63 = .ok (.ireturn, 1) := gdX5_takeReckoning_34.2.2.2.2.2.2.2.2.2.2.2.2.2
theorem gdX5_takeJoining_0 : (decode cX5_takeJoining 0 = .ok (.aload_n 0, 1)) ∧ (decode cX5_takeJoining 1 = .ok (.getfield 35, 3)) ∧ (decode cX5_takeJoining 4 = .ok (.ldc 130, 2)) ∧ (decode cX5_takeJoining 6 = .ok (.invokevirtual 68, 3)) ∧ (decode cX5_takeJoining 9 = .ok (.ifCond .eq 5, 3)) ∧ (decode cX5_takeJoining 12 = .ok (.iconst 5, 1)) ∧ (decode cX5_takeJoining 13 = .ok (.ireturn, 1)) ∧ (decode cX5_takeJoining 14 = .ok (.aload_n 0, 1)) ∧ (decode cX5_takeJoining 15 = .ok (.getfield 35, 3)) ∧ (decode cX5_takeJoining 18 = .ok (.ldc 132, 2)) ∧ (decode cX5_takeJoining 20 = .ok (.invokevirtual 68, 3)) ∧ (decode cX5_takeJoining 23 = .ok (.ifCond .eq 8, 3)) ∧ (decode cX5_takeJoining 26 = .ok (.bipush 6, 2)) ∧ (decode cX5_takeJoining 28 = .ok (.goto 4, 3)) ∧ (decode cX5_takeJoining 31 = .ok (.iconst (-1), 1)) ∧ (decode cX5_takeJoining 32 = .ok (.ireturn, 1)) := by decide +kernel
theorem dX5_takeJoining_0 : decode cX5_takeJoining 0 = .ok (.aload_n 0, 1) := gdX5_takeJoining_0.1
theorem dX5_takeJoining_1 : decode cX5_takeJoining 1 = .ok (.getfield 35, 3) := gdX5_takeJoining_0.2.1
theorem dX5_takeJoining_4 : decode cX5_takeJoining 4 = .ok (.ldc 130, 2) := gdX5_takeJoining_0.2.2.1
theorem dX5_takeJoining_6 : decode cX5_takeJoining 6 = .ok (.invokevirtual 68, 3) := gdX5_takeJoining_0.2.2.2.1
theorem dX5_takeJoining_9 : decode cX5_takeJoining 9 = .ok (.ifCond .eq 5, 3) := gdX5_takeJoining_0.2.2.2.2.1
theorem dX5_takeJoining_12 : decode cX5_takeJoining 12 = .ok (.iconst 5, 1) := gdX5_takeJoining_0.2.2.2.2.2.1
theorem dX5_takeJoining_13 : decode cX5_takeJoining 13 = .ok (.ireturn, 1) := gdX5_takeJoining_0.2.2.2.2.2.2.1
theorem dX5_takeJoining_14 : decode cX5_takeJoining 14 = .ok (.aload_n 0, 1) := gdX5_takeJoining_0.2.2.2.2.2.2.2.1
theorem dX5_takeJoining_15 : decode cX5_takeJoining 15 = .ok (.getfield 35, 3) := gdX5_takeJoining_0.2.2.2.2.2.2.2.2.1
theorem dX5_takeJoining_18 : decode cX5_takeJoining 18 = .ok (.ldc 132, 2) := gdX5_takeJoining_0.2.2.2.2.2.2.2.2.2.1
theorem dX5_takeJoining_20 : decode cX5_takeJoining 20 = .ok (.invokevirtual 68, 3) := gdX5_takeJoining_0.2.2.2.2.2.2.2.2.2.2.1
theorem dX5_takeJoining_23 : decode cX5_takeJoining 23 = .ok (.ifCond .eq 8, 3) := gdX5_takeJoining_0.2.2.2.2.2.2.2.2.2.2.2.1
theorem dX5_takeJoining_26 : decode cX5_takeJoining 26 = .ok (.bipush 6, 2) := gdX5_takeJoining_0.2.2.2.2.2.2.2.2.2.2.2.2.1
theorem dX5_takeJoining_28 : decode cX5_takeJoining 28 = .ok (.goto 4, 3) := gdX5_takeJoining_0.2.2.2.2.2.2.2.2.2.2.2.2.2.1
theorem dX5_takeJoining_31 : decode cX5_takeJoining 31 = .ok (.iconst (-1), 1) := gdX5_takeJoining_0.2.2.2.2.2.2.2.2.2.2.2.2.2.2.1
theorem dX5_takeJoining_32 : decode cX5_takeJoining 32 = .ok (.ireturn, 1) := gdX5_takeJoining_0.2.2.2.2.2.2.2.2.2.2.2.2.2.2.2
theorem gdX5_takeComparing_0 : (decode cX5_takeComparing 0 = .ok (.aload_n 0, 1)) ∧ (decode cX5_takeComparing 1 = .ok (.getfield 35, 3)) ∧ (decode cX5_takeComparing 4 = .ok (.bipush 61, 2)) ∧ (decode cX5_takeComparing 6 = .ok (.invokevirtual 55, 3)) ∧ (decode cX5_takeComparing 9 = .ok (.ifCond .eq 6, 3)) ∧ (decode cX5_takeComparing 12 = .ok (.bipush 13, 2)) ∧ (decode cX5_takeComparing 14 = .ok (.ireturn, 1)) ∧ (decode cX5_takeComparing 15 = .ok (.aload_n 0, 1)) ∧ (decode cX5_takeComparing 16 = .ok (.getfield 35, 3)) ∧ (decode cX5_takeComparing 19 = .ok (.bipush 60, 2)) ∧ (decode cX5_takeComparing 21 = .ok (.invokevirtual 55, 3)) ∧ (decode cX5_takeComparing 24 = .ok (.istore_n 1, 1)) ∧ (decode cX5_takeComparing 25 = .ok (.iload_n 1, 1)) ∧ (decode cX5_takeComparing 26 = .ok (.ifCond .ne 17, 3)) ∧ (decode cX5_takeComparing 29 = .ok (.aload_n 0, 1)) ∧ (decode cX5_takeComparing 30 = .ok (.getfield 35, 3)) := by decide +kernel
theorem dX5_takeComparing_0 : decode cX5_takeComparing 0 = .ok (.aload_n 0, 1) := gdX5_takeComparing_0.1
theorem dX5_takeComparing_1 : decode cX5_takeComparing 1 = .ok (.getfield 35, 3) := gdX5_takeComparing_0.2.1
theorem dX5_takeComparing_4 : decode cX5_takeComparing 4 = .ok (.bipush 61, 2) := gdX5_takeComparing_0.2.2.1
theorem dX5_takeComparing_6 : decode cX5_takeComparing 6 = .ok (.invokevirtual 55, 3) := gdX5_takeComparing_0.2.2.2.1
theorem dX5_takeComparing_9 : decode cX5_takeComparing 9 = .ok (.ifCond .eq 6, 3) := gdX5_takeComparing_0.2.2.2.2.1
theorem dX5_takeComparing_12 : decode cX5_takeComparing 12 = .ok (.bipush 13, 2) := gdX5_takeComparing_0.2.2.2.2.2.1
theorem dX5_takeComparing_14 : decode cX5_takeComparing 14 = .ok (.ireturn, 1) := gdX5_takeComparing_0.2.2.2.2.2.2.1
theorem dX5_takeComparing_15 : decode cX5_takeComparing 15 = .ok (.aload_n 0, 1) := gdX5_takeComparing_0.2.2.2.2.2.2.2.1
theorem dX5_takeComparing_16 : decode cX5_takeComparing 16 = .ok (.getfield 35, 3) := gdX5_takeComparing_0.2.2.2.2.2.2.2.2.1
theorem dX5_takeComparing_19 : decode cX5_takeComparing 19 = .ok (.bipush 60, 2) := gdX5_takeComparing_0.2.2.2.2.2.2.2.2.2.1
theorem dX5_takeComparing_21 : decode cX5_takeComparing 21 = .ok (.invokevirtual 55, 3) := gdX5_takeComparing_0.2.2.2.2.2.2.2.2.2.2.1
theorem dX5_takeComparing_24 : decode cX5_takeComparing 24 = .ok (.istore_n 1, 1) := gdX5_takeComparing_0.2.2.2.2.2.2.2.2.2.2.2.1
theorem dX5_takeComparing_25 : decode cX5_takeComparing 25 = .ok (.iload_n 1, 1) := gdX5_takeComparing_0.2.2.2.2.2.2.2.2.2.2.2.2.1
theorem dX5_takeComparing_26 : decode cX5_takeComparing 26 = .ok (.ifCond .ne 17, 3) := gdX5_takeComparing_0.2.2.2.2.2.2.2.2.2.2.2.2.2.1
theorem dX5_takeComparing_29 : decode cX5_takeComparing 29 = .ok (.aload_n 0, 1) := gdX5_takeComparing_0.2.2.2.2.2.2.2.2.2.2.2.2.2.2.1
theorem dX5_takeComparing_30 : decode cX5_takeComparing 30 = .ok (.getfield 35, 3) := gdX5_takeComparing_0.2.2.2.2.2.2.2.2.2.2.2.2.2.2.2
theorem gdX5_takeComparing_33 : (decode cX5_takeComparing 33 = .ok (.bipush 62, 2)) ∧ (decode cX5_takeComparing 35 = .ok (.invokevirtual 55, 3)) ∧ (decode cX5_takeComparing 38 = .ok (.ifCond .ne 5, 3)) ∧ (decode cX5_takeComparing 41 = .ok (.iconst (-1), 1)) ∧ (decode cX5_takeComparing 42 = .ok (.ireturn, 1)) ∧ (decode cX5_takeComparing 43 = .ok (.aload_n 0, 1)) ∧ (decode cX5_takeComparing 44 = .ok (.getfield 35, 3)) ∧ (decode cX5_takeComparing 47 = .ok (.aload_n 0, 1)) ∧ (decode cX5_takeComparing 48 = .ok (.getfield 35, 3)) ∧ (decode cX5_takeComparing 51 = .ok (.getfield 59, 3)) ∧ (decode cX5_takeComparing 54 = .ok (.invokevirtual 134, 3)) ∧ (decode cX5_takeComparing 57 = .ok (.bipush 61, 2)) ∧ (decode cX5_takeComparing 59 = .ok (.if_icmp .eq 15, 3)) ∧ (decode cX5_takeComparing 62 = .ok (.iload_n 1, 1)) ∧ (decode cX5_takeComparing 63 = .ok (.ifCond .eq 8, 3)) ∧ (decode cX5_takeComparing 66 = .ok (.bipush 11, 2)) := by decide +kernel
theorem dX5_takeComparing_33 : decode cX5_takeComparing 33 = .ok (.bipush 62, 2) := gdX5_takeComparing_33.1
theorem dX5_takeComparing_35 : decode cX5_takeComparing 35 = .ok (.invokevirtual 55, 3) := gdX5_takeComparing_33.2.1
theorem dX5_takeComparing_38 : decode cX5_takeComparing 38 = .ok (.ifCond .ne 5, 3) := gdX5_takeComparing_33.2.2.1
theorem dX5_takeComparing_41 : decode cX5_takeComparing 41 = .ok (.iconst (-1), 1) := gdX5_takeComparing_33.2.2.2.1
theorem dX5_takeComparing_42 : decode cX5_takeComparing 42 = .ok (.ireturn, 1) := gdX5_takeComparing_33.2.2.2.2.1
theorem dX5_takeComparing_43 : decode cX5_takeComparing 43 = .ok (.aload_n 0, 1) := gdX5_takeComparing_33.2.2.2.2.2.1
theorem dX5_takeComparing_44 : decode cX5_takeComparing 44 = .ok (.getfield 35, 3) := gdX5_takeComparing_33.2.2.2.2.2.2.1
theorem dX5_takeComparing_47 : decode cX5_takeComparing 47 = .ok (.aload_n 0, 1) := gdX5_takeComparing_33.2.2.2.2.2.2.2.1
theorem dX5_takeComparing_48 : decode cX5_takeComparing 48 = .ok (.getfield 35, 3) := gdX5_takeComparing_33.2.2.2.2.2.2.2.2.1
theorem dX5_takeComparing_51 : decode cX5_takeComparing 51 = .ok (.getfield 59, 3) := gdX5_takeComparing_33.2.2.2.2.2.2.2.2.2.1
theorem dX5_takeComparing_54 : decode cX5_takeComparing 54 = .ok (.invokevirtual 134, 3) := gdX5_takeComparing_33.2.2.2.2.2.2.2.2.2.2.1
theorem dX5_takeComparing_57 : decode cX5_takeComparing 57 = .ok (.bipush 61, 2) := gdX5_takeComparing_33.2.2.2.2.2.2.2.2.2.2.2.1
theorem dX5_takeComparing_59 : decode cX5_takeComparing 59 = .ok (.if_icmp .eq 15, 3) := gdX5_takeComparing_33.2.2.2.2.2.2.2.2.2.2.2.2.1
theorem dX5_takeComparing_62 : decode cX5_takeComparing 62 = .ok (.iload_n 1, 1) := gdX5_takeComparing_33.2.2.2.2.2.2.2.2.2.2.2.2.2.1
theorem dX5_takeComparing_63 : decode cX5_takeComparing 63 = .ok (.ifCond .eq 8, 3) := gdX5_takeComparing_33.2.2.2.2.2.2.2.2.2.2.2.2.2.2.1
theorem dX5_takeComparing_66 : decode cX5_takeComparing 66 = .ok (.bipush 11, 2) := gdX5_takeComparing_33.2.2.2.2.2.2.2.2.2.2.2.2.2.2.2
theorem gdX5_takeComparing_68 : (decode cX5_takeComparing 68 = .ok (.goto 5, 3)) ∧ (decode cX5_takeComparing 71 = .ok (.bipush 15, 2)) ∧ (decode cX5_takeComparing 73 = .ok (.ireturn, 1)) ∧ (decode cX5_takeComparing 74 = .ok (.aload_n 0, 1)) ∧ (decode cX5_takeComparing 75 = .ok (.getfield 35, 3)) ∧ (decode cX5_takeComparing 78 = .ok (.dup, 1)) ∧ (decode cX5_takeComparing 79 = .ok (.getfield 59, 3)) ∧ (decode cX5_takeComparing 82 = .ok (.iconst 1, 1)) ∧ (decode cX5_takeComparing 83 = .ok (.iadd, 1)) ∧ (decode cX5_takeComparing 84 = .ok (.putfield 59, 3)) ∧ (decode cX5_takeComparing 87 = .ok (.iload_n 1, 1)) ∧ (decode cX5_takeComparing 88 = .ok (.ifCond .eq 8, 3)) ∧ (decode cX5_takeComparing 91 = .ok (.bipush 12, 2)) ∧ (decode cX5_takeComparing 93 = .ok (.goto 5, 3)) ∧ (decode cX5_takeComparing 96 = .ok (.bipush 14, 2)) ∧ (decode cX5_takeComparing 98 = .ok (.ireturn, 1)) := by decide +kernel
theorem dX5_takeComparing_68 : decode cX5_takeComparing 68 = .ok (.goto 5, 3) := gdX5_takeComparing_68.1
theorem dX5_takeComparing_71 : decode cX5_takeComparing 71 = .ok (.bipush 15, 2) := gdX5_takeComparing_68.2.1
theorem dX5_takeComparing_73 : decode cX5_takeComparing 73 = .ok (.ireturn, 1) := gdX5_takeComparing_68.2.2.1
theorem dX5_takeComparing_74 : decode cX5_takeComparing 74 = .ok (.aload_n 0, 1) := gdX5_takeComparing_68.2.2.2.1
theorem dX5_takeComparing_75 : decode cX5_takeComparing 75 = .ok (.getfield 35, 3) := gdX5_takeComparing_68.2.2.2.2.1
theorem dX5_takeComparing_78 : decode cX5_takeComparing 78 = .ok (.dup, 1) := gdX5_takeComparing_68.2.2.2.2.2.1
theorem dX5_takeComparing_79 : decode cX5_takeComparing 79 = .ok (.getfield 59, 3) := gdX5_takeComparing_68.2.2.2.2.2.2.1
theorem dX5_takeComparing_82 : decode cX5_takeComparing 82 = .ok (.iconst 1, 1) := gdX5_takeComparing_68.2.2.2.2.2.2.2.1
theorem dX5_takeComparing_83 : decode cX5_takeComparing 83 = .ok (.iadd, 1) := gdX5_takeComparing_68.2.2.2.2.2.2.2.2.1
theorem dX5_takeComparing_84 : decode cX5_takeComparing 84 = .ok (.putfield 59, 3) := gdX5_takeComparing_68.2.2.2.2.2.2.2.2.2.1
theorem dX5_takeComparing_87 : decode cX5_takeComparing 87 = .ok (.iload_n 1, 1) := gdX5_takeComparing_68.2.2.2.2.2.2.2.2.2.2.1
theorem dX5_takeComparing_88 : decode cX5_takeComparing 88 = .ok (.ifCond .eq 8, 3) := gdX5_takeComparing_68.2.2.2.2.2.2.2.2.2.2.2.1
theorem dX5_takeComparing_91 : decode cX5_takeComparing 91 = .ok (.bipush 12, 2) := gdX5_takeComparing_68.2.2.2.2.2.2.2.2.2.2.2.2.1
theorem dX5_takeComparing_93 : decode cX5_takeComparing 93 = .ok (.goto 5, 3) := gdX5_takeComparing_68.2.2.2.2.2.2.2.2.2.2.2.2.2.1
theorem dX5_takeComparing_96 : decode cX5_takeComparing 96 = .ok (.bipush 14, 2) := gdX5_takeComparing_68.2.2.2.2.2.2.2.2.2.2.2.2.2.2.1
theorem dX5_takeComparing_98 : decode cX5_takeComparing 98 = .ok (.ireturn, 1) := gdX5_takeComparing_68.2.2.2.2.2.2.2.2.2.2.2.2.2.2.2
theorem gdX5_readValue_0 : (decode cX5_readValue 0 = .ok (.aload_n 0, 1)) ∧ (decode cX5_readValue 1 = .ok (.getfield 35, 3)) ∧ (decode cX5_readValue 4 = .ok (.invokevirtual 138, 3)) ∧ (decode cX5_readValue 7 = .ok (.aload_n 0, 1)) ∧ (decode cX5_readValue 8 = .ok (.getfield 35, 3)) ∧ (decode cX5_readValue 11 = .ok (.aload_n 0, 1)) ∧ (decode cX5_readValue 12 = .ok (.getfield 35, 3)) ∧ (decode cX5_readValue 15 = .ok (.getfield 59, 3)) ∧ (decode cX5_readValue 18 = .ok (.invokevirtual 141, 3)) ∧ (decode cX5_readValue 21 = .ok (.istore_n 1, 1)) ∧ (decode cX5_readValue 22 = .ok (.iload_n 1, 1)) ∧ (decode cX5_readValue 23 = .ok (.ifCond .eq 16, 3)) ∧ (decode cX5_readValue 26 = .ok (.aload_n 0, 1)) ∧ (decode cX5_readValue 27 = .ok (.getfield 35, 3)) ∧ (decode cX5_readValue 30 = .ok (.iconst 0, 1)) ∧ (decode cX5_readValue 31 = .ok (.ldc 144, 2)) := by decide +kernel
theorem dX5_readValue_0 : decode cX5_readValue 0 = .ok (.aload_n 0, 1) := gdX5_readValue_0.1
theorem dX5_readValue_1 : decode cX5_readValue 1 = .ok (.getfield 35, 3) := gdX5_readValue_0.2.1
theorem dX5_readValue_4 : decode cX5_readValue 4 = .ok (.invokevirtual 138, 3) := gdX5_readValue_0.2.2.1
theorem dX5_readValue_7 : decode cX5_readValue 7 = .ok (.aload_n 0, 1) := gdX5_readValue_0.2.2.2.1
theorem dX5_readValue_8 : decode cX5_readValue 8 = .ok (.getfield 35, 3) := gdX5_readValue_0.2.2.2.2.1
theorem dX5_readValue_11 : decode cX5_readValue 11 = .ok (.aload_n 0, 1) := gdX5_readValue_0.2.2.2.2.2.1
theorem dX5_readValue_12 : decode cX5_readValue 12 = .ok (.getfield 35, 3) := gdX5_readValue_0.2.2.2.2.2.2.1
theorem dX5_readValue_15 : decode cX5_readValue 15 = .ok (.getfield 59, 3) := gdX5_readValue_0.2.2.2.2.2.2.2.1
theorem dX5_readValue_18 : decode cX5_readValue 18 = .ok (.invokevirtual 141, 3) := gdX5_readValue_0.2.2.2.2.2.2.2.2.1
theorem dX5_readValue_21 : decode cX5_readValue 21 = .ok (.istore_n 1, 1) := gdX5_readValue_0.2.2.2.2.2.2.2.2.2.1
theorem dX5_readValue_22 : decode cX5_readValue 22 = .ok (.iload_n 1, 1) := gdX5_readValue_0.2.2.2.2.2.2.2.2.2.2.1
theorem dX5_readValue_23 : decode cX5_readValue 23 = .ok (.ifCond .eq 16, 3) := gdX5_readValue_0.2.2.2.2.2.2.2.2.2.2.2.1
theorem dX5_readValue_26 : decode cX5_readValue 26 = .ok (.aload_n 0, 1) := gdX5_readValue_0.2.2.2.2.2.2.2.2.2.2.2.2.1
theorem dX5_readValue_27 : decode cX5_readValue 27 = .ok (.getfield 35, 3) := gdX5_readValue_0.2.2.2.2.2.2.2.2.2.2.2.2.2.1
theorem dX5_readValue_30 : decode cX5_readValue 30 = .ok (.iconst 0, 1) := gdX5_readValue_0.2.2.2.2.2.2.2.2.2.2.2.2.2.2.1
theorem dX5_readValue_31 : decode cX5_readValue 31 = .ok (.ldc 144, 2) := gdX5_readValue_0.2.2.2.2.2.2.2.2.2.2.2.2.2.2.2
theorem gdX5_readValue_33 : (decode cX5_readValue 33 = .ok (.invokevirtual 75, 3)) ∧ (decode cX5_readValue 36 = .ok (.goto 7, 3)) ∧ (decode cX5_readValue 39 = .ok (.aload_n 0, 1)) ∧ (decode cX5_readValue 40 = .ok (.invokevirtual 145, 3)) ∧ (decode cX5_readValue 43 = .ok (.istore_n 2, 1)) ∧ (decode cX5_readValue 44 = .ok (.iload_n 2, 1)) ∧ (decode cX5_readValue 45 = .ok (.ifCond .ge 23, 3)) ∧ (decode cX5_readValue 48 = .ok (.iload_n 1, 1)) ∧ (decode cX5_readValue 49 = .ok (.ifCond .ne 19, 3)) ∧ (decode cX5_readValue 52 = .ok (.aload_n 0, 1)) ∧ (decode cX5_readValue 53 = .ok (.getfield 35, 3)) ∧ (decode cX5_readValue 56 = .ok (.aload_n 0, 1)) ∧ (decode cX5_readValue 57 = .ok (.getfield 35, 3)) ∧ (decode cX5_readValue 60 = .ok (.getfield 59, 3)) ∧ (decode cX5_readValue 63 = .ok (.iconst 0, 1)) ∧ (decode cX5_readValue 64 = .ok (.invokevirtual 62, 3)) := by decide +kernel
theorem dX5_readValue_33 : decode cX5_readValue 33 = .ok (.invokevirtual 75, 3) := gdX5_readValue_33.1
theorem dX5_readValue_36 : decode cX5_readValue 36 = .ok (.goto 7, 3) := gdX5_readValue_33.2.1
theorem dX5_readValue_39 : decode cX5_readValue 39 = .ok (.aload_n 0, 1) := gdX5_readValue_33.2.2.1
theorem dX5_readValue_40 : decode cX5_readValue 40 = .ok (.invokevirtual 145, 3) := gdX5_readValue_33.2.2.2.1
theorem dX5_readValue_43 : decode cX5_readValue 43 = .ok (.istore_n 2, 1) := gdX5_readValue_33.2.2.2.2.1
theorem dX5_readValue_44 : decode cX5_readValue 44 = .ok (.iload_n 2, 1) := gdX5_readValue_33.2.2.2.2.2.1
theorem dX5_readValue_45 : decode cX5_readValue 45 = .ok (.ifCond .ge 23, 3) := gdX5_readValue_33.2.2.2.2.2.2.1
theorem dX5_readValue_48 : decode cX5_readValue 48 = .ok (.iload_n 1, 1) := gdX5_readValue_33.2.2.2.2.2.2.2.1
theorem dX5_readValue_49 : decode cX5_readValue 49 = .ok (.ifCond .ne 19, 3) := gdX5_readValue_33.2.2.2.2.2.2.2.2.1
theorem dX5_readValue_52 : decode cX5_readValue 52 = .ok (.aload_n 0, 1) := gdX5_readValue_33.2.2.2.2.2.2.2.2.2.1
theorem dX5_readValue_53 : decode cX5_readValue 53 = .ok (.getfield 35, 3) := gdX5_readValue_33.2.2.2.2.2.2.2.2.2.2.1
theorem dX5_readValue_56 : decode cX5_readValue 56 = .ok (.aload_n 0, 1) := gdX5_readValue_33.2.2.2.2.2.2.2.2.2.2.2.1
theorem dX5_readValue_57 : decode cX5_readValue 57 = .ok (.getfield 35, 3) := gdX5_readValue_33.2.2.2.2.2.2.2.2.2.2.2.2.1
theorem dX5_readValue_60 : decode cX5_readValue 60 = .ok (.getfield 59, 3) := gdX5_readValue_33.2.2.2.2.2.2.2.2.2.2.2.2.2.1
theorem dX5_readValue_63 : decode cX5_readValue 63 = .ok (.iconst 0, 1) := gdX5_readValue_33.2.2.2.2.2.2.2.2.2.2.2.2.2.2.1
theorem dX5_readValue_64 : decode cX5_readValue 64 = .ok (.invokevirtual 62, 3) := gdX5_readValue_33.2.2.2.2.2.2.2.2.2.2.2.2.2.2.2
theorem gdX5_readValue_67 : (decode cX5_readValue 67 = .ok (.ireturn, 1)) ∧ (decode cX5_readValue 68 = .ok (.iload_n 2, 1)) ∧ (decode cX5_readValue 69 = .ok (.ifCond .ge 5, 3)) ∧ (decode cX5_readValue 72 = .ok (.iconst 0, 1)) ∧ (decode cX5_readValue 73 = .ok (.ireturn, 1)) ∧ (decode cX5_readValue 74 = .ok (.aload_n 0, 1)) ∧ (decode cX5_readValue 75 = .ok (.invokevirtual 110, 3)) ∧ (decode cX5_readValue 78 = .ok (.ifCond .ne 5, 3)) ∧ (decode cX5_readValue 81 = .ok (.iconst 0, 1)) ∧ (decode cX5_readValue 82 = .ok (.ireturn, 1)) ∧ (decode cX5_readValue 83 = .ok (.aload_n 0, 1)) ∧ (decode cX5_readValue 84 = .ok (.getfield 18, 3)) ∧ (decode cX5_readValue 87 = .ok (.iload_n 1, 1)) ∧ (decode cX5_readValue 88 = .ok (.ifCond .eq 7, 3)) ∧ (decode cX5_readValue 91 = .ok (.iconst 2, 1)) ∧ (decode cX5_readValue 92 = .ok (.goto 4, 3)) := by decide +kernel
theorem dX5_readValue_67 : decode cX5_readValue 67 = .ok (.ireturn, 1) := gdX5_readValue_67.1
theorem dX5_readValue_68 : decode cX5_readValue 68 = .ok (.iload_n 2, 1) := gdX5_readValue_67.2.1
theorem dX5_readValue_69 : decode cX5_readValue 69 = .ok (.ifCond .ge 5, 3) := gdX5_readValue_67.2.2.1
theorem dX5_readValue_72 : decode cX5_readValue 72 = .ok (.iconst 0, 1) := gdX5_readValue_67.2.2.2.1
theorem dX5_readValue_73 : decode cX5_readValue 73 = .ok (.ireturn, 1) := gdX5_readValue_67.2.2.2.2.1
theorem dX5_readValue_74 : decode cX5_readValue 74 = .ok (.aload_n 0, 1) := gdX5_readValue_67.2.2.2.2.2.1
theorem dX5_readValue_75 : decode cX5_readValue 75 = .ok (.invokevirtual 110, 3) := gdX5_readValue_67.2.2.2.2.2.2.1
theorem dX5_readValue_78 : decode cX5_readValue 78 = .ok (.ifCond .ne 5, 3) := gdX5_readValue_67.2.2.2.2.2.2.2.1
theorem dX5_readValue_81 : decode cX5_readValue 81 = .ok (.iconst 0, 1) := gdX5_readValue_67.2.2.2.2.2.2.2.2.1
theorem dX5_readValue_82 : decode cX5_readValue 82 = .ok (.ireturn, 1) := gdX5_readValue_67.2.2.2.2.2.2.2.2.2.1
theorem dX5_readValue_83 : decode cX5_readValue 83 = .ok (.aload_n 0, 1) := gdX5_readValue_67.2.2.2.2.2.2.2.2.2.2.1
theorem dX5_readValue_84 : decode cX5_readValue 84 = .ok (.getfield 18, 3) := gdX5_readValue_67.2.2.2.2.2.2.2.2.2.2.2.1
theorem dX5_readValue_87 : decode cX5_readValue 87 = .ok (.iload_n 1, 1) := gdX5_readValue_67.2.2.2.2.2.2.2.2.2.2.2.2.1
theorem dX5_readValue_88 : decode cX5_readValue 88 = .ok (.ifCond .eq 7, 3) := gdX5_readValue_67.2.2.2.2.2.2.2.2.2.2.2.2.2.1
theorem dX5_readValue_91 : decode cX5_readValue 91 = .ok (.iconst 2, 1) := gdX5_readValue_67.2.2.2.2.2.2.2.2.2.2.2.2.2.2.1
theorem dX5_readValue_92 : decode cX5_readValue 92 = .ok (.goto 4, 3) := gdX5_readValue_67.2.2.2.2.2.2.2.2.2.2.2.2.2.2.2
theorem gdX5_readValue_95 : (decode cX5_readValue 95 = .ok (.iconst 3, 1)) ∧ (decode cX5_readValue 96 = .ok (.iload_n 2, 1)) ∧ (decode cX5_readValue 97 = .ok (.invokevirtual 84, 3)) ∧ (decode cX5_readValue 100 = .ok (.iconst 1, 1)) ∧ (decode cX5_readValue 101 = .ok (.ireturn, 1)) := by decide +kernel
theorem dX5_readValue_95 : decode cX5_readValue 95 = .ok (.iconst 3, 1) := gdX5_readValue_95.1
theorem dX5_readValue_96 : decode cX5_readValue 96 = .ok (.iload_n 2, 1) := gdX5_readValue_95.2.1
theorem dX5_readValue_97 : decode cX5_readValue 97 = .ok (.invokevirtual 84, 3) := gdX5_readValue_95.2.2.1
theorem dX5_readValue_100 : decode cX5_readValue 100 = .ok (.iconst 1, 1) := gdX5_readValue_95.2.2.2.1
theorem dX5_readValue_101 : decode cX5_readValue 101 = .ok (.ireturn, 1) := gdX5_readValue_95.2.2.2.2
theorem gdX5_takeName_0 : (decode cX5_takeName 0 = .ok (.aload_n 0, 1)) ∧ (decode cX5_takeName 1 = .ok (.getfield 35, 3)) ∧ (decode cX5_takeName 4 = .ok (.ldc 148, 2)) ∧ (decode cX5_takeName 6 = .ok (.invokevirtual 68, 3)) ∧ (decode cX5_takeName 9 = .ok (.ifCond .eq 5, 3)) ∧ (decode cX5_takeName 12 = .ok (.iconst 0, 1)) ∧ (decode cX5_takeName 13 = .ok (.ireturn, 1)) ∧ (decode cX5_takeName 14 = .ok (.aload_n 0, 1)) ∧ (decode cX5_takeName 15 = .ok (.getfield 35, 3)) ∧ (decode cX5_takeName 18 = .ok (.ldc 150, 2)) ∧ (decode cX5_takeName 20 = .ok (.invokevirtual 68, 3)) ∧ (decode cX5_takeName 23 = .ok (.ifCond .eq 5, 3)) ∧ (decode cX5_takeName 26 = .ok (.iconst 1, 1)) ∧ (decode cX5_takeName 27 = .ok (.ireturn, 1)) ∧ (decode cX5_takeName 28 = .ok (.aload_n 0, 1)) ∧ (decode cX5_takeName 29 = .ok (.getfield 35, 3)) := by decide +kernel
theorem dX5_takeName_0 : decode cX5_takeName 0 = .ok (.aload_n 0, 1) := gdX5_takeName_0.1
theorem dX5_takeName_1 : decode cX5_takeName 1 = .ok (.getfield 35, 3) := gdX5_takeName_0.2.1
theorem dX5_takeName_4 : decode cX5_takeName 4 = .ok (.ldc 148, 2) := gdX5_takeName_0.2.2.1
theorem dX5_takeName_6 : decode cX5_takeName 6 = .ok (.invokevirtual 68, 3) := gdX5_takeName_0.2.2.2.1
theorem dX5_takeName_9 : decode cX5_takeName 9 = .ok (.ifCond .eq 5, 3) := gdX5_takeName_0.2.2.2.2.1
theorem dX5_takeName_12 : decode cX5_takeName 12 = .ok (.iconst 0, 1) := gdX5_takeName_0.2.2.2.2.2.1
theorem dX5_takeName_13 : decode cX5_takeName 13 = .ok (.ireturn, 1) := gdX5_takeName_0.2.2.2.2.2.2.1
theorem dX5_takeName_14 : decode cX5_takeName 14 = .ok (.aload_n 0, 1) := gdX5_takeName_0.2.2.2.2.2.2.2.1
theorem dX5_takeName_15 : decode cX5_takeName 15 = .ok (.getfield 35, 3) := gdX5_takeName_0.2.2.2.2.2.2.2.2.1
theorem dX5_takeName_18 : decode cX5_takeName 18 = .ok (.ldc 150, 2) := gdX5_takeName_0.2.2.2.2.2.2.2.2.2.1
theorem dX5_takeName_20 : decode cX5_takeName 20 = .ok (.invokevirtual 68, 3) := gdX5_takeName_0.2.2.2.2.2.2.2.2.2.2.1
theorem dX5_takeName_23 : decode cX5_takeName 23 = .ok (.ifCond .eq 5, 3) := gdX5_takeName_0.2.2.2.2.2.2.2.2.2.2.2.1
theorem dX5_takeName_26 : decode cX5_takeName 26 = .ok (.iconst 1, 1) := gdX5_takeName_0.2.2.2.2.2.2.2.2.2.2.2.2.1
theorem dX5_takeName_27 : decode cX5_takeName 27 = .ok (.ireturn, 1) := gdX5_takeName_0.2.2.2.2.2.2.2.2.2.2.2.2.2.1
theorem dX5_takeName_28 : decode cX5_takeName 28 = .ok (.aload_n 0, 1) := gdX5_takeName_0.2.2.2.2.2.2.2.2.2.2.2.2.2.2.1
theorem dX5_takeName_29 : decode cX5_takeName 29 = .ok (.getfield 35, 3) := gdX5_takeName_0.2.2.2.2.2.2.2.2.2.2.2.2.2.2.2
theorem gdX5_takeName_32 : (decode cX5_takeName 32 = .ok (.ldc 152, 2)) ∧ (decode cX5_takeName 34 = .ok (.invokevirtual 68, 3)) ∧ (decode cX5_takeName 37 = .ok (.ifCond .eq 5, 3)) ∧ (decode cX5_takeName 40 = .ok (.iconst 2, 1)) ∧ (decode cX5_takeName 41 = .ok (.ireturn, 1)) ∧ (decode cX5_takeName 42 = .ok (.aload_n 0, 1)) ∧ (decode cX5_takeName 43 = .ok (.getfield 35, 3)) ∧ (decode cX5_takeName 46 = .ok (.ldc 154, 2)) ∧ (decode cX5_takeName 48 = .ok (.invokevirtual 68, 3)) ∧ (decode cX5_takeName 51 = .ok (.ifCond .eq 5, 3)) ∧ (decode cX5_takeName 54 = .ok (.iconst 3, 1)) ∧ (decode cX5_takeName 55 = .ok (.ireturn, 1)) ∧ (decode cX5_takeName 56 = .ok (.aload_n 0, 1)) ∧ (decode cX5_takeName 57 = .ok (.getfield 35, 3)) ∧ (decode cX5_takeName 60 = .ok (.ldc 156, 2)) ∧ (decode cX5_takeName 62 = .ok (.invokevirtual 68, 3)) := by decide +kernel
theorem dX5_takeName_32 : decode cX5_takeName 32 = .ok (.ldc 152, 2) := gdX5_takeName_32.1
theorem dX5_takeName_34 : decode cX5_takeName 34 = .ok (.invokevirtual 68, 3) := gdX5_takeName_32.2.1
theorem dX5_takeName_37 : decode cX5_takeName 37 = .ok (.ifCond .eq 5, 3) := gdX5_takeName_32.2.2.1
theorem dX5_takeName_40 : decode cX5_takeName 40 = .ok (.iconst 2, 1) := gdX5_takeName_32.2.2.2.1
theorem dX5_takeName_41 : decode cX5_takeName 41 = .ok (.ireturn, 1) := gdX5_takeName_32.2.2.2.2.1
theorem dX5_takeName_42 : decode cX5_takeName 42 = .ok (.aload_n 0, 1) := gdX5_takeName_32.2.2.2.2.2.1
theorem dX5_takeName_43 : decode cX5_takeName 43 = .ok (.getfield 35, 3) := gdX5_takeName_32.2.2.2.2.2.2.1
theorem dX5_takeName_46 : decode cX5_takeName 46 = .ok (.ldc 154, 2) := gdX5_takeName_32.2.2.2.2.2.2.2.1
theorem dX5_takeName_48 : decode cX5_takeName 48 = .ok (.invokevirtual 68, 3) := gdX5_takeName_32.2.2.2.2.2.2.2.2.1
theorem dX5_takeName_51 : decode cX5_takeName 51 = .ok (.ifCond .eq 5, 3) := gdX5_takeName_32.2.2.2.2.2.2.2.2.2.1
theorem dX5_takeName_54 : decode cX5_takeName 54 = .ok (.iconst 3, 1) := gdX5_takeName_32.2.2.2.2.2.2.2.2.2.2.1
theorem dX5_takeName_55 : decode cX5_takeName 55 = .ok (.ireturn, 1) := gdX5_takeName_32.2.2.2.2.2.2.2.2.2.2.2.1
theorem dX5_takeName_56 : decode cX5_takeName 56 = .ok (.aload_n 0, 1) := gdX5_takeName_32.2.2.2.2.2.2.2.2.2.2.2.2.1
theorem dX5_takeName_57 : decode cX5_takeName 57 = .ok (.getfield 35, 3) := gdX5_takeName_32.2.2.2.2.2.2.2.2.2.2.2.2.2.1
theorem dX5_takeName_60 : decode cX5_takeName 60 = .ok (.ldc 156, 2) := gdX5_takeName_32.2.2.2.2.2.2.2.2.2.2.2.2.2.2.1
theorem dX5_takeName_62 : decode cX5_takeName 62 = .ok (.invokevirtual 68, 3) := gdX5_takeName_32.2.2.2.2.2.2.2.2.2.2.2.2.2.2.2
theorem gdX5_takeName_65 : (decode cX5_takeName 65 = .ok (.ifCond .eq 5, 3)) ∧ (decode cX5_takeName 68 = .ok (.iconst 4, 1)) ∧ (decode cX5_takeName 69 = .ok (.ireturn, 1)) ∧ (decode cX5_takeName 70 = .ok (.aload_n 0, 1)) ∧ (decode cX5_takeName 71 = .ok (.getfield 35, 3)) ∧ (decode cX5_takeName 74 = .ok (.ldc 158, 2)) ∧ (decode cX5_takeName 76 = .ok (.invokevirtual 68, 3)) ∧ (decode cX5_takeName 79 = .ok (.ifCond .eq 5, 3)) ∧ (decode cX5_takeName 82 = .ok (.iconst 5, 1)) ∧ (decode cX5_takeName 83 = .ok (.ireturn, 1)) ∧ (decode cX5_takeName 84 = .ok (.aload_n 0, 1)) ∧ (decode cX5_takeName 85 = .ok (.getfield 35, 3)) ∧ (decode cX5_takeName 88 = .ok (.ldc 160, 2)) ∧ (decode cX5_takeName 90 = .ok (.invokevirtual 68, 3)) ∧ (decode cX5_takeName 93 = .ok (.ifCond .eq 6, 3)) ∧ (decode cX5_takeName 96 = .ok (.bipush 6, 2)) := by decide +kernel
theorem dX5_takeName_65 : decode cX5_takeName 65 = .ok (.ifCond .eq 5, 3) := gdX5_takeName_65.1
theorem dX5_takeName_68 : decode cX5_takeName 68 = .ok (.iconst 4, 1) := gdX5_takeName_65.2.1
theorem dX5_takeName_69 : decode cX5_takeName 69 = .ok (.ireturn, 1) := gdX5_takeName_65.2.2.1
theorem dX5_takeName_70 : decode cX5_takeName 70 = .ok (.aload_n 0, 1) := gdX5_takeName_65.2.2.2.1
theorem dX5_takeName_71 : decode cX5_takeName 71 = .ok (.getfield 35, 3) := gdX5_takeName_65.2.2.2.2.1
theorem dX5_takeName_74 : decode cX5_takeName 74 = .ok (.ldc 158, 2) := gdX5_takeName_65.2.2.2.2.2.1
theorem dX5_takeName_76 : decode cX5_takeName 76 = .ok (.invokevirtual 68, 3) := gdX5_takeName_65.2.2.2.2.2.2.1
theorem dX5_takeName_79 : decode cX5_takeName 79 = .ok (.ifCond .eq 5, 3) := gdX5_takeName_65.2.2.2.2.2.2.2.1
theorem dX5_takeName_82 : decode cX5_takeName 82 = .ok (.iconst 5, 1) := gdX5_takeName_65.2.2.2.2.2.2.2.2.1
theorem dX5_takeName_83 : decode cX5_takeName 83 = .ok (.ireturn, 1) := gdX5_takeName_65.2.2.2.2.2.2.2.2.2.1
theorem dX5_takeName_84 : decode cX5_takeName 84 = .ok (.aload_n 0, 1) := gdX5_takeName_65.2.2.2.2.2.2.2.2.2.2.1
theorem dX5_takeName_85 : decode cX5_takeName 85 = .ok (.getfield 35, 3) := gdX5_takeName_65.2.2.2.2.2.2.2.2.2.2.2.1
theorem dX5_takeName_88 : decode cX5_takeName 88 = .ok (.ldc 160, 2) := gdX5_takeName_65.2.2.2.2.2.2.2.2.2.2.2.2.1
theorem dX5_takeName_90 : decode cX5_takeName 90 = .ok (.invokevirtual 68, 3) := gdX5_takeName_65.2.2.2.2.2.2.2.2.2.2.2.2.2.1
theorem dX5_takeName_93 : decode cX5_takeName 93 = .ok (.ifCond .eq 6, 3) := gdX5_takeName_65.2.2.2.2.2.2.2.2.2.2.2.2.2.2.1
theorem dX5_takeName_96 : decode cX5_takeName 96 = .ok (.bipush 6, 2) := gdX5_takeName_65.2.2.2.2.2.2.2.2.2.2.2.2.2.2.2
theorem gdX5_takeName_98 : (decode cX5_takeName 98 = .ok (.ireturn, 1)) ∧ (decode cX5_takeName 99 = .ok (.aload_n 0, 1)) ∧ (decode cX5_takeName 100 = .ok (.getfield 35, 3)) ∧ (decode cX5_takeName 103 = .ok (.ldc 162, 2)) ∧ (decode cX5_takeName 105 = .ok (.invokevirtual 68, 3)) ∧ (decode cX5_takeName 108 = .ok (.ifCond .eq 8, 3)) ∧ (decode cX5_takeName 111 = .ok (.bipush 7, 2)) ∧ (decode cX5_takeName 113 = .ok (.goto 4, 3)) ∧ (decode cX5_takeName 116 = .ok (.iconst (-1), 1)) ∧ (decode cX5_takeName 117 = .ok (.ireturn, 1)) := by decide +kernel
theorem dX5_takeName_98 : decode cX5_takeName 98 = .ok (.ireturn, 1) := gdX5_takeName_98.1
theorem dX5_takeName_99 : decode cX5_takeName 99 = .ok (.aload_n 0, 1) := gdX5_takeName_98.2.1
theorem dX5_takeName_100 : decode cX5_takeName 100 = .ok (.getfield 35, 3) := gdX5_takeName_98.2.2.1
theorem dX5_takeName_103 : decode cX5_takeName 103 = .ok (.ldc 162, 2) := gdX5_takeName_98.2.2.2.1
theorem dX5_takeName_105 : decode cX5_takeName 105 = .ok (.invokevirtual 68, 3) := gdX5_takeName_98.2.2.2.2.1
theorem dX5_takeName_108 : decode cX5_takeName 108 = .ok (.ifCond .eq 8, 3) := gdX5_takeName_98.2.2.2.2.2.1
theorem dX5_takeName_111 : decode cX5_takeName 111 = .ok (.bipush 7, 2) := gdX5_takeName_98.2.2.2.2.2.2.1
theorem dX5_takeName_113 : decode cX5_takeName 113 = .ok (.goto 4, 3) := gdX5_takeName_98.2.2.2.2.2.2.2.1
theorem dX5_takeName_116 : decode cX5_takeName 116 = .ok (.iconst (-1), 1) := gdX5_takeName_98.2.2.2.2.2.2.2.2.1
theorem dX5_takeName_117 : decode cX5_takeName 117 = .ok (.ireturn, 1) := gdX5_takeName_98.2.2.2.2.2.2.2.2.2
theorem gdX5_isRoomForOne_0 : (decode cX5_isRoomForOne 0 = .ok (.aload_n 0, 1)) ∧ (decode cX5_isRoomForOne 1 = .ok (.getfield 22, 3)) ∧ (decode cX5_isRoomForOne 4 = .ok (.bipush 60, 2)) ∧ (decode cX5_isRoomForOne 6 = .ok (.if_icmp .lt 19, 3)) ∧ (decode cX5_isRoomForOne 9 = .ok (.aload_n 0, 1)) ∧ (decode cX5_isRoomForOne 10 = .ok (.getfield 35, 3)) ∧ (decode cX5_isRoomForOne 13 = .ok (.aload_n 0, 1)) ∧ (decode cX5_isRoomForOne 14 = .ok (.getfield 35, 3)) ∧ (decode cX5_isRoomForOne 17 = .ok (.getfield 72, 3)) ∧ (decode cX5_isRoomForOne 20 = .ok (.iconst 3, 1)) ∧ (decode cX5_isRoomForOne 21 = .ok (.invokevirtual 62, 3)) ∧ (decode cX5_isRoomForOne 24 = .ok (.ireturn, 1)) ∧ (decode cX5_isRoomForOne 25 = .ok (.aload_n 0, 1)) ∧ (decode cX5_isRoomForOne 26 = .ok (.dup, 1)) ∧ (decode cX5_isRoomForOne 27 = .ok (.getfield 22, 3)) ∧ (decode cX5_isRoomForOne 30 = .ok (.iconst 1, 1)) := by decide +kernel
theorem dX5_isRoomForOne_0 : decode cX5_isRoomForOne 0 = .ok (.aload_n 0, 1) := gdX5_isRoomForOne_0.1
theorem dX5_isRoomForOne_1 : decode cX5_isRoomForOne 1 = .ok (.getfield 22, 3) := gdX5_isRoomForOne_0.2.1
theorem dX5_isRoomForOne_4 : decode cX5_isRoomForOne 4 = .ok (.bipush 60, 2) := gdX5_isRoomForOne_0.2.2.1
theorem dX5_isRoomForOne_6 : decode cX5_isRoomForOne 6 = .ok (.if_icmp .lt 19, 3) := gdX5_isRoomForOne_0.2.2.2.1
theorem dX5_isRoomForOne_9 : decode cX5_isRoomForOne 9 = .ok (.aload_n 0, 1) := gdX5_isRoomForOne_0.2.2.2.2.1
theorem dX5_isRoomForOne_10 : decode cX5_isRoomForOne 10 = .ok (.getfield 35, 3) := gdX5_isRoomForOne_0.2.2.2.2.2.1
theorem dX5_isRoomForOne_13 : decode cX5_isRoomForOne 13 = .ok (.aload_n 0, 1) := gdX5_isRoomForOne_0.2.2.2.2.2.2.1
theorem dX5_isRoomForOne_14 : decode cX5_isRoomForOne 14 = .ok (.getfield 35, 3) := gdX5_isRoomForOne_0.2.2.2.2.2.2.2.1
theorem dX5_isRoomForOne_17 : decode cX5_isRoomForOne 17 = .ok (.getfield 72, 3) := gdX5_isRoomForOne_0.2.2.2.2.2.2.2.2.1
theorem dX5_isRoomForOne_20 : decode cX5_isRoomForOne 20 = .ok (.iconst 3, 1) := gdX5_isRoomForOne_0.2.2.2.2.2.2.2.2.2.1
theorem dX5_isRoomForOne_21 : decode cX5_isRoomForOne 21 = .ok (.invokevirtual 62, 3) := gdX5_isRoomForOne_0.2.2.2.2.2.2.2.2.2.2.1
theorem dX5_isRoomForOne_24 : decode cX5_isRoomForOne 24 = .ok (.ireturn, 1) := gdX5_isRoomForOne_0.2.2.2.2.2.2.2.2.2.2.2.1
theorem dX5_isRoomForOne_25 : decode cX5_isRoomForOne 25 = .ok (.aload_n 0, 1) := gdX5_isRoomForOne_0.2.2.2.2.2.2.2.2.2.2.2.2.1
theorem dX5_isRoomForOne_26 : decode cX5_isRoomForOne 26 = .ok (.dup, 1) := gdX5_isRoomForOne_0.2.2.2.2.2.2.2.2.2.2.2.2.2.1
theorem dX5_isRoomForOne_27 : decode cX5_isRoomForOne 27 = .ok (.getfield 22, 3) := gdX5_isRoomForOne_0.2.2.2.2.2.2.2.2.2.2.2.2.2.2.1
theorem dX5_isRoomForOne_30 : decode cX5_isRoomForOne 30 = .ok (.iconst 1, 1) := gdX5_isRoomForOne_0.2.2.2.2.2.2.2.2.2.2.2.2.2.2.2
theorem gdX5_isRoomForOne_31 : (decode cX5_isRoomForOne 31 = .ok (.iadd, 1)) ∧ (decode cX5_isRoomForOne 32 = .ok (.putfield 22, 3)) ∧ (decode cX5_isRoomForOne 35 = .ok (.iconst 1, 1)) ∧ (decode cX5_isRoomForOne 36 = .ok (.ireturn, 1)) := by decide +kernel
theorem dX5_isRoomForOne_31 : decode cX5_isRoomForOne 31 = .ok (.iadd, 1) := gdX5_isRoomForOne_31.1
theorem dX5_isRoomForOne_32 : decode cX5_isRoomForOne 32 = .ok (.putfield 22, 3) := gdX5_isRoomForOne_31.2.1
theorem dX5_isRoomForOne_35 : decode cX5_isRoomForOne 35 = .ok (.iconst 1, 1) := gdX5_isRoomForOne_31.2.2.1
theorem dX5_isRoomForOne_36 : decode cX5_isRoomForOne 36 = .ok (.ireturn, 1) := gdX5_isRoomForOne_31.2.2.2
theorem gdX6_init_0 : (decode cX6_init 0 = .ok (.aload_n 0, 1)) ∧ (decode cX6_init 1 = .ok (.invokespecial 1, 3)) ∧ (decode cX6_init 4 = .ok (.aload_n 0, 1)) ∧ (decode cX6_init 5 = .ok (.new 7, 3)) ∧ (decode cX6_init 8 = .ok (.dup, 1)) ∧ (decode cX6_init 9 = .ok (.invokespecial 9, 3)) ∧ (decode cX6_init 12 = .ok (.putfield 10, 3)) ∧ (decode cX6_init 15 = .ok (.aload_n 0, 1)) ∧ (decode cX6_init 16 = .ok (.new 16, 3)) ∧ (decode cX6_init 19 = .ok (.dup, 1)) ∧ (decode cX6_init 20 = .ok (.invokespecial 18, 3)) ∧ (decode cX6_init 23 = .ok (.putfield 19, 3)) ∧ (decode cX6_init 26 = .ok (.aload_n 0, 1)) ∧ (decode cX6_init 27 = .ok (.new 23, 3)) ∧ (decode cX6_init 30 = .ok (.dup, 1)) ∧ (decode cX6_init 31 = .ok (.invokespecial 25, 3)) := by decide +kernel
theorem dX6_init_0 : decode cX6_init 0 = .ok (.aload_n 0, 1) := gdX6_init_0.1
theorem dX6_init_1 : decode cX6_init 1 = .ok (.invokespecial 1, 3) := gdX6_init_0.2.1
theorem dX6_init_4 : decode cX6_init 4 = .ok (.aload_n 0, 1) := gdX6_init_0.2.2.1
theorem dX6_init_5 : decode cX6_init 5 = .ok (.new 7, 3) := gdX6_init_0.2.2.2.1
theorem dX6_init_8 : decode cX6_init 8 = .ok (.dup, 1) := gdX6_init_0.2.2.2.2.1
theorem dX6_init_9 : decode cX6_init 9 = .ok (.invokespecial 9, 3) := gdX6_init_0.2.2.2.2.2.1
theorem dX6_init_12 : decode cX6_init 12 = .ok (.putfield 10, 3) := gdX6_init_0.2.2.2.2.2.2.1
theorem dX6_init_15 : decode cX6_init 15 = .ok (.aload_n 0, 1) := gdX6_init_0.2.2.2.2.2.2.2.1
theorem dX6_init_16 : decode cX6_init 16 = .ok (.new 16, 3) := gdX6_init_0.2.2.2.2.2.2.2.2.1
theorem dX6_init_19 : decode cX6_init 19 = .ok (.dup, 1) := gdX6_init_0.2.2.2.2.2.2.2.2.2.1
theorem dX6_init_20 : decode cX6_init 20 = .ok (.invokespecial 18, 3) := gdX6_init_0.2.2.2.2.2.2.2.2.2.2.1
theorem dX6_init_23 : decode cX6_init 23 = .ok (.putfield 19, 3) := gdX6_init_0.2.2.2.2.2.2.2.2.2.2.2.1
theorem dX6_init_26 : decode cX6_init 26 = .ok (.aload_n 0, 1) := gdX6_init_0.2.2.2.2.2.2.2.2.2.2.2.2.1
theorem dX6_init_27 : decode cX6_init 27 = .ok (.new 23, 3) := gdX6_init_0.2.2.2.2.2.2.2.2.2.2.2.2.2.1
theorem dX6_init_30 : decode cX6_init 30 = .ok (.dup, 1) := gdX6_init_0.2.2.2.2.2.2.2.2.2.2.2.2.2.2.1
theorem dX6_init_31 : decode cX6_init 31 = .ok (.invokespecial 25, 3) := gdX6_init_0.2.2.2.2.2.2.2.2.2.2.2.2.2.2.2
theorem gdX6_init_34 : (decode cX6_init 34 = .ok (.putfield 26, 3)) ∧ (decode cX6_init 37 = .ok (.aload_n 0, 1)) ∧ (decode cX6_init 38 = .ok (.iconst 0, 1)) ∧ (decode cX6_init 39 = .ok (.putfield 30, 3)) ∧ (decode cX6_init 42 = .ok (.aload_n 0, 1)) ∧ (decode cX6_init 43 = .ok (.iconst 0, 1)) ∧ (decode cX6_init 44 = .ok (.putfield 34, 3)) ∧ (decode cX6_init 47 = .ok (.return_, 1)) := by decide +kernel
theorem dX6_init_34 : decode cX6_init 34 = .ok (.putfield 26, 3) := gdX6_init_34.1
theorem dX6_init_37 : decode cX6_init 37 = .ok (.aload_n 0, 1) := gdX6_init_34.2.1
theorem dX6_init_38 : decode cX6_init 38 = .ok (.iconst 0, 1) := gdX6_init_34.2.2.1
theorem dX6_init_39 : decode cX6_init 39 = .ok (.putfield 30, 3) := gdX6_init_34.2.2.2.1
theorem dX6_init_42 : decode cX6_init 42 = .ok (.aload_n 0, 1) := gdX6_init_34.2.2.2.2.1
theorem dX6_init_43 : decode cX6_init 43 = .ok (.iconst 0, 1) := gdX6_init_34.2.2.2.2.2.1
theorem dX6_init_44 : decode cX6_init 44 = .ok (.putfield 34, 3) := gdX6_init_34.2.2.2.2.2.2.1
theorem dX6_init_47 : decode cX6_init 47 = .ok (.return_, 1) := gdX6_init_34.2.2.2.2.2.2.2
theorem gdX6_copyFrom_0 : (decode cX6_copyFrom 0 = .ok (.aload_n 0, 1)) ∧ (decode cX6_copyFrom 1 = .ok (.getfield 10, 3)) ∧ (decode cX6_copyFrom 4 = .ok (.aload_n 1, 1)) ∧ (decode cX6_copyFrom 5 = .ok (.getfield 10, 3)) ∧ (decode cX6_copyFrom 8 = .ok (.invokevirtual 38, 3)) ∧ (decode cX6_copyFrom 11 = .ok (.aload_n 0, 1)) ∧ (decode cX6_copyFrom 12 = .ok (.getfield 19, 3)) ∧ (decode cX6_copyFrom 15 = .ok (.aload_n 1, 1)) ∧ (decode cX6_copyFrom 16 = .ok (.getfield 19, 3)) ∧ (decode cX6_copyFrom 19 = .ok (.invokevirtual 42, 3)) ∧ (decode cX6_copyFrom 22 = .ok (.aload_n 0, 1)) ∧ (decode cX6_copyFrom 23 = .ok (.getfield 26, 3)) ∧ (decode cX6_copyFrom 26 = .ok (.aload_n 1, 1)) ∧ (decode cX6_copyFrom 27 = .ok (.getfield 26, 3)) ∧ (decode cX6_copyFrom 30 = .ok (.invokevirtual 45, 3)) ∧ (decode cX6_copyFrom 33 = .ok (.aload_n 0, 1)) := by decide +kernel
theorem dX6_copyFrom_0 : decode cX6_copyFrom 0 = .ok (.aload_n 0, 1) := gdX6_copyFrom_0.1
theorem dX6_copyFrom_1 : decode cX6_copyFrom 1 = .ok (.getfield 10, 3) := gdX6_copyFrom_0.2.1
theorem dX6_copyFrom_4 : decode cX6_copyFrom 4 = .ok (.aload_n 1, 1) := gdX6_copyFrom_0.2.2.1
theorem dX6_copyFrom_5 : decode cX6_copyFrom 5 = .ok (.getfield 10, 3) := gdX6_copyFrom_0.2.2.2.1
theorem dX6_copyFrom_8 : decode cX6_copyFrom 8 = .ok (.invokevirtual 38, 3) := gdX6_copyFrom_0.2.2.2.2.1
theorem dX6_copyFrom_11 : decode cX6_copyFrom 11 = .ok (.aload_n 0, 1) := gdX6_copyFrom_0.2.2.2.2.2.1
theorem dX6_copyFrom_12 : decode cX6_copyFrom 12 = .ok (.getfield 19, 3) := gdX6_copyFrom_0.2.2.2.2.2.2.1
theorem dX6_copyFrom_15 : decode cX6_copyFrom 15 = .ok (.aload_n 1, 1) := gdX6_copyFrom_0.2.2.2.2.2.2.2.1
theorem dX6_copyFrom_16 : decode cX6_copyFrom 16 = .ok (.getfield 19, 3) := gdX6_copyFrom_0.2.2.2.2.2.2.2.2.1
theorem dX6_copyFrom_19 : decode cX6_copyFrom 19 = .ok (.invokevirtual 42, 3) := gdX6_copyFrom_0.2.2.2.2.2.2.2.2.2.1
theorem dX6_copyFrom_22 : decode cX6_copyFrom 22 = .ok (.aload_n 0, 1) := gdX6_copyFrom_0.2.2.2.2.2.2.2.2.2.2.1
theorem dX6_copyFrom_23 : decode cX6_copyFrom 23 = .ok (.getfield 26, 3) := gdX6_copyFrom_0.2.2.2.2.2.2.2.2.2.2.2.1
theorem dX6_copyFrom_26 : decode cX6_copyFrom 26 = .ok (.aload_n 1, 1) := gdX6_copyFrom_0.2.2.2.2.2.2.2.2.2.2.2.2.1
theorem dX6_copyFrom_27 : decode cX6_copyFrom 27 = .ok (.getfield 26, 3) := gdX6_copyFrom_0.2.2.2.2.2.2.2.2.2.2.2.2.2.1
theorem dX6_copyFrom_30 : decode cX6_copyFrom 30 = .ok (.invokevirtual 45, 3) := gdX6_copyFrom_0.2.2.2.2.2.2.2.2.2.2.2.2.2.2.1
theorem dX6_copyFrom_33 : decode cX6_copyFrom 33 = .ok (.aload_n 0, 1) := gdX6_copyFrom_0.2.2.2.2.2.2.2.2.2.2.2.2.2.2.2
theorem gdX6_copyFrom_34 : (decode cX6_copyFrom 34 = .ok (.aload_n 1, 1)) ∧ (decode cX6_copyFrom 35 = .ok (.getfield 30, 3)) ∧ (decode cX6_copyFrom 38 = .ok (.putfield 30, 3)) ∧ (decode cX6_copyFrom 41 = .ok (.return_, 1)) := by decide +kernel
theorem dX6_copyFrom_34 : decode cX6_copyFrom 34 = .ok (.aload_n 1, 1) := gdX6_copyFrom_34.1
theorem dX6_copyFrom_35 : decode cX6_copyFrom 35 = .ok (.getfield 30, 3) := gdX6_copyFrom_34.2.1
theorem dX6_copyFrom_38 : decode cX6_copyFrom 38 = .ok (.putfield 30, 3) := gdX6_copyFrom_34.2.2.1
theorem dX6_copyFrom_41 : decode cX6_copyFrom 41 = .ok (.return_, 1) := gdX6_copyFrom_34.2.2.2
theorem gdX6_draw_0 : (decode cX6_draw 0 = .ok (.aload_n 0, 1)) ∧ (decode cX6_draw 1 = .ok (.aload_n 0, 1)) ∧ (decode cX6_draw 2 = .ok (.getfield 30, 3)) ∧ (decode cX6_draw 5 = .ok (.i2l, 1)) ∧ (decode cX6_draw 6 = .ok (.ldc2_w 48, 3)) ∧ (decode cX6_draw 9 = .ok (.lmul, 1)) ∧ (decode cX6_draw 10 = .ok (.ldc2_w 50, 3)) ∧ (decode cX6_draw 13 = .ok (.ladd, 1)) ∧ (decode cX6_draw 14 = .ok (.ldc2_w 52, 3)) ∧ (decode cX6_draw 17 = .ok (.land, 1)) ∧ (decode cX6_draw 18 = .ok (.l2i, 1)) ∧ (decode cX6_draw 19 = .ok (.putfield 30, 3)) ∧ (decode cX6_draw 22 = .ok (.aload_n 0, 1)) ∧ (decode cX6_draw 23 = .ok (.getfield 30, 3)) ∧ (decode cX6_draw 26 = .ok (.ldc 54, 2)) ∧ (decode cX6_draw 28 = .ok (.idiv, 1)) := by decide +kernel
theorem dX6_draw_0 : decode cX6_draw 0 = .ok (.aload_n 0, 1) := gdX6_draw_0.1
theorem dX6_draw_1 : decode cX6_draw 1 = .ok (.aload_n 0, 1) := gdX6_draw_0.2.1
theorem dX6_draw_2 : decode cX6_draw 2 = .ok (.getfield 30, 3) := gdX6_draw_0.2.2.1
theorem dX6_draw_5 : decode cX6_draw 5 = .ok (.i2l, 1) := gdX6_draw_0.2.2.2.1
theorem dX6_draw_6 : decode cX6_draw 6 = .ok (.ldc2_w 48, 3) := gdX6_draw_0.2.2.2.2.1
theorem dX6_draw_9 : decode cX6_draw 9 = .ok (.lmul, 1) := gdX6_draw_0.2.2.2.2.2.1
theorem dX6_draw_10 : decode cX6_draw 10 = .ok (.ldc2_w 50, 3) := gdX6_draw_0.2.2.2.2.2.2.1
theorem dX6_draw_13 : decode cX6_draw 13 = .ok (.ladd, 1) := gdX6_draw_0.2.2.2.2.2.2.2.1
theorem dX6_draw_14 : decode cX6_draw 14 = .ok (.ldc2_w 52, 3) := gdX6_draw_0.2.2.2.2.2.2.2.2.1
theorem dX6_draw_17 : decode cX6_draw 17 = .ok (.land, 1) := gdX6_draw_0.2.2.2.2.2.2.2.2.2.1
theorem dX6_draw_18 : decode cX6_draw 18 = .ok (.l2i, 1) := gdX6_draw_0.2.2.2.2.2.2.2.2.2.2.1
theorem dX6_draw_19 : decode cX6_draw 19 = .ok (.putfield 30, 3) := gdX6_draw_0.2.2.2.2.2.2.2.2.2.2.2.1
theorem dX6_draw_22 : decode cX6_draw 22 = .ok (.aload_n 0, 1) := gdX6_draw_0.2.2.2.2.2.2.2.2.2.2.2.2.1
theorem dX6_draw_23 : decode cX6_draw 23 = .ok (.getfield 30, 3) := gdX6_draw_0.2.2.2.2.2.2.2.2.2.2.2.2.2.1
theorem dX6_draw_26 : decode cX6_draw 26 = .ok (.ldc 54, 2) := gdX6_draw_0.2.2.2.2.2.2.2.2.2.2.2.2.2.2.1
theorem dX6_draw_28 : decode cX6_draw 28 = .ok (.idiv, 1) := gdX6_draw_0.2.2.2.2.2.2.2.2.2.2.2.2.2.2.2
theorem dX6_draw_29 : decode cX6_draw 29 = .ok (.ireturn, 1) := by decide +kernel
theorem gdX7_init_0 : (decode cX7_init 0 = .ok (.aload_n 0, 1)) ∧ (decode cX7_init 1 = .ok (.invokespecial 3, 3)) ∧ (decode cX7_init 4 = .ok (.aload_n 0, 1)) ∧ (decode cX7_init 5 = .ok (.sipush 400, 3)) ∧ (decode cX7_init 8 = .ok (.newarray .byte, 2)) ∧ (decode cX7_init 10 = .ok (.putfield 9, 3)) ∧ (decode cX7_init 13 = .ok (.aload_n 0, 1)) ∧ (decode cX7_init 14 = .ok (.iconst 0, 1)) ∧ (decode cX7_init 15 = .ok (.putfield 15, 3)) ∧ (decode cX7_init 18 = .ok (.aload_n 0, 1)) ∧ (decode cX7_init 19 = .ok (.iconst 0, 1)) ∧ (decode cX7_init 20 = .ok (.putfield 19, 3)) ∧ (decode cX7_init 23 = .ok (.aload_n 0, 1)) ∧ (decode cX7_init 24 = .ok (.iconst 0, 1)) ∧ (decode cX7_init 25 = .ok (.putfield 22, 3)) ∧ (decode cX7_init 28 = .ok (.aload_n 0, 1)) := by decide +kernel
theorem dX7_init_0 : decode cX7_init 0 = .ok (.aload_n 0, 1) := gdX7_init_0.1
theorem dX7_init_1 : decode cX7_init 1 = .ok (.invokespecial 3, 3) := gdX7_init_0.2.1
theorem dX7_init_4 : decode cX7_init 4 = .ok (.aload_n 0, 1) := gdX7_init_0.2.2.1
theorem dX7_init_5 : decode cX7_init 5 = .ok (.sipush 400, 3) := gdX7_init_0.2.2.2.1
theorem dX7_init_8 : decode cX7_init 8 = .ok (.newarray .byte, 2) := gdX7_init_0.2.2.2.2.1
theorem dX7_init_10 : decode cX7_init 10 = .ok (.putfield 9, 3) := gdX7_init_0.2.2.2.2.2.1
theorem dX7_init_13 : decode cX7_init 13 = .ok (.aload_n 0, 1) := gdX7_init_0.2.2.2.2.2.2.1
theorem dX7_init_14 : decode cX7_init 14 = .ok (.iconst 0, 1) := gdX7_init_0.2.2.2.2.2.2.2.1
theorem dX7_init_15 : decode cX7_init 15 = .ok (.putfield 15, 3) := gdX7_init_0.2.2.2.2.2.2.2.2.1
theorem dX7_init_18 : decode cX7_init 18 = .ok (.aload_n 0, 1) := gdX7_init_0.2.2.2.2.2.2.2.2.2.1
theorem dX7_init_19 : decode cX7_init 19 = .ok (.iconst 0, 1) := gdX7_init_0.2.2.2.2.2.2.2.2.2.2.1
theorem dX7_init_20 : decode cX7_init 20 = .ok (.putfield 19, 3) := gdX7_init_0.2.2.2.2.2.2.2.2.2.2.2.1
theorem dX7_init_23 : decode cX7_init 23 = .ok (.aload_n 0, 1) := gdX7_init_0.2.2.2.2.2.2.2.2.2.2.2.2.1
theorem dX7_init_24 : decode cX7_init 24 = .ok (.iconst 0, 1) := gdX7_init_0.2.2.2.2.2.2.2.2.2.2.2.2.2.1
theorem dX7_init_25 : decode cX7_init 25 = .ok (.putfield 22, 3) := gdX7_init_0.2.2.2.2.2.2.2.2.2.2.2.2.2.2.1
theorem dX7_init_28 : decode cX7_init 28 = .ok (.aload_n 0, 1) := gdX7_init_0.2.2.2.2.2.2.2.2.2.2.2.2.2.2.2
theorem gdX7_init_29 : (decode cX7_init 29 = .ok (.iconst 0, 1)) ∧ (decode cX7_init 30 = .ok (.putfield 25, 3)) ∧ (decode cX7_init 33 = .ok (.return_, 1)) := by decide +kernel
theorem dX7_init_29 : decode cX7_init 29 = .ok (.iconst 0, 1) := gdX7_init_29.1
theorem dX7_init_30 : decode cX7_init 30 = .ok (.putfield 25, 3) := gdX7_init_29.2.1
theorem dX7_init_33 : decode cX7_init 33 = .ok (.return_, 1) := gdX7_init_29.2.2
theorem gdX7_put_0 : (decode cX7_put 0 = .ok (.bipush 24, 2)) ∧ (decode cX7_put 2 = .ok (.istore_n 2, 1)) ∧ (decode cX7_put 3 = .ok (.iload_n 2, 1)) ∧ (decode cX7_put 4 = .ok (.ifCond .lt 42, 3)) ∧ (decode cX7_put 7 = .ok (.aload_n 0, 1)) ∧ (decode cX7_put 8 = .ok (.getfield 15, 3)) ∧ (decode cX7_put 11 = .ok (.sipush 400, 3)) ∧ (decode cX7_put 14 = .ok (.if_icmp .ge 26, 3)) ∧ (decode cX7_put 17 = .ok (.aload_n 0, 1)) ∧ (decode cX7_put 18 = .ok (.getfield 9, 3)) ∧ (decode cX7_put 21 = .ok (.aload_n 0, 1)) ∧ (decode cX7_put 22 = .ok (.getfield 15, 3)) ∧ (decode cX7_put 25 = .ok (.iload_n 1, 1)) ∧ (decode cX7_put 26 = .ok (.iload_n 2, 1)) ∧ (decode cX7_put 27 = .ok (.ishr, 1)) ∧ (decode cX7_put 28 = .ok (.i2b, 1)) := by decide +kernel
theorem dX7_put_0 : decode cX7_put 0 = .ok (.bipush 24, 2) := gdX7_put_0.1
theorem dX7_put_2 : decode cX7_put 2 = .ok (.istore_n 2, 1) := gdX7_put_0.2.1
theorem dX7_put_3 : decode cX7_put 3 = .ok (.iload_n 2, 1) := gdX7_put_0.2.2.1
theorem dX7_put_4 : decode cX7_put 4 = .ok (.ifCond .lt 42, 3) := gdX7_put_0.2.2.2.1
theorem dX7_put_7 : decode cX7_put 7 = .ok (.aload_n 0, 1) := gdX7_put_0.2.2.2.2.1
theorem dX7_put_8 : decode cX7_put 8 = .ok (.getfield 15, 3) := gdX7_put_0.2.2.2.2.2.1
theorem dX7_put_11 : decode cX7_put 11 = .ok (.sipush 400, 3) := gdX7_put_0.2.2.2.2.2.2.1
theorem dX7_put_14 : decode cX7_put 14 = .ok (.if_icmp .ge 26, 3) := gdX7_put_0.2.2.2.2.2.2.2.1
theorem dX7_put_17 : decode cX7_put 17 = .ok (.aload_n 0, 1) := gdX7_put_0.2.2.2.2.2.2.2.2.1
theorem dX7_put_18 : decode cX7_put 18 = .ok (.getfield 9, 3) := gdX7_put_0.2.2.2.2.2.2.2.2.2.1
theorem dX7_put_21 : decode cX7_put 21 = .ok (.aload_n 0, 1) := gdX7_put_0.2.2.2.2.2.2.2.2.2.2.1
theorem dX7_put_22 : decode cX7_put 22 = .ok (.getfield 15, 3) := gdX7_put_0.2.2.2.2.2.2.2.2.2.2.2.1
theorem dX7_put_25 : decode cX7_put 25 = .ok (.iload_n 1, 1) := gdX7_put_0.2.2.2.2.2.2.2.2.2.2.2.2.1
theorem dX7_put_26 : decode cX7_put 26 = .ok (.iload_n 2, 1) := gdX7_put_0.2.2.2.2.2.2.2.2.2.2.2.2.2.1
theorem dX7_put_27 : decode cX7_put 27 = .ok (.ishr, 1) := gdX7_put_0.2.2.2.2.2.2.2.2.2.2.2.2.2.2.1
theorem dX7_put_28 : decode cX7_put 28 = .ok (.i2b, 1) := gdX7_put_0.2.2.2.2.2.2.2.2.2.2.2.2.2.2.2
theorem gdX7_put_29 : (decode cX7_put 29 = .ok (.bastore, 1)) ∧ (decode cX7_put 30 = .ok (.aload_n 0, 1)) ∧ (decode cX7_put 31 = .ok (.dup, 1)) ∧ (decode cX7_put 32 = .ok (.getfield 15, 3)) ∧ (decode cX7_put 35 = .ok (.iconst 1, 1)) ∧ (decode cX7_put 36 = .ok (.iadd, 1)) ∧ (decode cX7_put 37 = .ok (.putfield 15, 3)) ∧ (decode cX7_put 40 = .ok (.iinc 2 (-8), 3)) ∧ (decode cX7_put 43 = .ok (.goto (-40), 3)) ∧ (decode cX7_put 46 = .ok (.return_, 1)) := by decide +kernel
theorem dX7_put_29 : decode cX7_put 29 = .ok (.bastore, 1) := gdX7_put_29.1
theorem dX7_put_30 : decode cX7_put 30 = .ok (.aload_n 0, 1) := gdX7_put_29.2.1
theorem dX7_put_31 : decode cX7_put 31 = .ok (.dup, 1) := gdX7_put_29.2.2.1
theorem dX7_put_32 : decode cX7_put 32 = .ok (.getfield 15, 3) := gdX7_put_29.2.2.2.1
theorem dX7_put_35 : decode cX7_put 35 = .ok (.iconst 1, 1) := gdX7_put_29.2.2.2.2.1
theorem dX7_put_36 : decode cX7_put 36 = .ok (.iadd, 1) := gdX7_put_29.2.2.2.2.2.1
theorem dX7_put_37 : decode cX7_put 37 = .ok (.putfield 15, 3) := gdX7_put_29.2.2.2.2.2.2.1
theorem dX7_put_40 : decode cX7_put 40 = .ok (.iinc 2 (-8), 3) := gdX7_put_29.2.2.2.2.2.2.2.1
theorem dX7_put_43 : decode cX7_put 43 = .ok (.goto (-40), 3) := gdX7_put_29.2.2.2.2.2.2.2.2.1
theorem dX7_put_46 : decode cX7_put 46 = .ok (.return_, 1) := gdX7_put_29.2.2.2.2.2.2.2.2.2
theorem gdX7_rewind_0 : (decode cX7_rewind 0 = .ok (.aload_n 0, 1)) ∧ (decode cX7_rewind 1 = .ok (.iconst 0, 1)) ∧ (decode cX7_rewind 2 = .ok (.putfield 19, 3)) ∧ (decode cX7_rewind 5 = .ok (.aload_n 0, 1)) ∧ (decode cX7_rewind 6 = .ok (.iconst 0, 1)) ∧ (decode cX7_rewind 7 = .ok (.putfield 22, 3)) ∧ (decode cX7_rewind 10 = .ok (.aload_n 0, 1)) ∧ (decode cX7_rewind 11 = .ok (.iconst 0, 1)) ∧ (decode cX7_rewind 12 = .ok (.putfield 25, 3)) ∧ (decode cX7_rewind 15 = .ok (.return_, 1)) := by decide +kernel
theorem dX7_rewind_0 : decode cX7_rewind 0 = .ok (.aload_n 0, 1) := gdX7_rewind_0.1
theorem dX7_rewind_1 : decode cX7_rewind 1 = .ok (.iconst 0, 1) := gdX7_rewind_0.2.1
theorem dX7_rewind_2 : decode cX7_rewind 2 = .ok (.putfield 19, 3) := gdX7_rewind_0.2.2.1
theorem dX7_rewind_5 : decode cX7_rewind 5 = .ok (.aload_n 0, 1) := gdX7_rewind_0.2.2.2.1
theorem dX7_rewind_6 : decode cX7_rewind 6 = .ok (.iconst 0, 1) := gdX7_rewind_0.2.2.2.2.1
theorem dX7_rewind_7 : decode cX7_rewind 7 = .ok (.putfield 22, 3) := gdX7_rewind_0.2.2.2.2.2.1
theorem dX7_rewind_10 : decode cX7_rewind 10 = .ok (.aload_n 0, 1) := gdX7_rewind_0.2.2.2.2.2.2.1
theorem dX7_rewind_11 : decode cX7_rewind 11 = .ok (.iconst 0, 1) := gdX7_rewind_0.2.2.2.2.2.2.2.1
theorem dX7_rewind_12 : decode cX7_rewind 12 = .ok (.putfield 25, 3) := gdX7_rewind_0.2.2.2.2.2.2.2.2.1
theorem dX7_rewind_15 : decode cX7_rewind 15 = .ok (.return_, 1) := gdX7_rewind_0.2.2.2.2.2.2.2.2.2
theorem gdX7_fail_0 : (decode cX7_fail 0 = .ok (.aload_n 0, 1)) ∧ (decode cX7_fail 1 = .ok (.iconst 1, 1)) ∧ (decode cX7_fail 2 = .ok (.bipush 8, 2)) ∧ (decode cX7_fail 4 = .ok (.iload_n 1, 1)) ∧ (decode cX7_fail 5 = .ok (.imul, 1)) ∧ (decode cX7_fail 6 = .ok (.iadd, 1)) ∧ (decode cX7_fail 7 = .ok (.iload_n 2, 1)) ∧ (decode cX7_fail 8 = .ok (.iadd, 1)) ∧ (decode cX7_fail 9 = .ok (.putfield 25, 3)) ∧ (decode cX7_fail 12 = .ok (.iconst 0, 1)) ∧ (decode cX7_fail 13 = .ok (.ireturn, 1)) := by decide +kernel
theorem dX7_fail_0 : decode cX7_fail 0 = .ok (.aload_n 0, 1) := gdX7_fail_0.1
theorem dX7_fail_1 : decode cX7_fail 1 = .ok (.iconst 1, 1) := gdX7_fail_0.2.1
theorem dX7_fail_2 : decode cX7_fail 2 = .ok (.bipush 8, 2) := gdX7_fail_0.2.2.1
theorem dX7_fail_4 : decode cX7_fail 4 = .ok (.iload_n 1, 1) := gdX7_fail_0.2.2.2.1
theorem dX7_fail_5 : decode cX7_fail 5 = .ok (.imul, 1) := gdX7_fail_0.2.2.2.2.1
theorem dX7_fail_6 : decode cX7_fail 6 = .ok (.iadd, 1) := gdX7_fail_0.2.2.2.2.2.1
theorem dX7_fail_7 : decode cX7_fail 7 = .ok (.iload_n 2, 1) := gdX7_fail_0.2.2.2.2.2.2.1
theorem dX7_fail_8 : decode cX7_fail 8 = .ok (.iadd, 1) := gdX7_fail_0.2.2.2.2.2.2.2.1
theorem dX7_fail_9 : decode cX7_fail 9 = .ok (.putfield 25, 3) := gdX7_fail_0.2.2.2.2.2.2.2.2.1
theorem dX7_fail_12 : decode cX7_fail 12 = .ok (.iconst 0, 1) := gdX7_fail_0.2.2.2.2.2.2.2.2.2.1
theorem dX7_fail_13 : decode cX7_fail 13 = .ok (.ireturn, 1) := gdX7_fail_0.2.2.2.2.2.2.2.2.2.2
theorem gdX7_byteAt_0 : (decode cX7_byteAt 0 = .ok (.iload_n 1, 1)) ∧ (decode cX7_byteAt 1 = .ok (.ifCond .lt 27, 3)) ∧ (decode cX7_byteAt 4 = .ok (.iload_n 1, 1)) ∧ (decode cX7_byteAt 5 = .ok (.aload_n 0, 1)) ∧ (decode cX7_byteAt 6 = .ok (.getfield 15, 3)) ∧ (decode cX7_byteAt 9 = .ok (.if_icmp .ge 19, 3)) ∧ (decode cX7_byteAt 12 = .ok (.iload_n 1, 1)) ∧ (decode cX7_byteAt 13 = .ok (.sipush 400, 3)) ∧ (decode cX7_byteAt 16 = .ok (.if_icmp .ge 12, 3)) ∧ (decode cX7_byteAt 19 = .ok (.aload_n 0, 1)) ∧ (decode cX7_byteAt 20 = .ok (.getfield 9, 3)) ∧ (decode cX7_byteAt 23 = .ok (.iload_n 1, 1)) ∧ (decode cX7_byteAt 24 = .ok (.baload, 1)) ∧ (decode cX7_byteAt 25 = .ok (.goto 4, 3)) ∧ (decode cX7_byteAt 28 = .ok (.iconst (-1), 1)) ∧ (decode cX7_byteAt 29 = .ok (.ireturn, 1)) := by decide +kernel
theorem dX7_byteAt_0 : decode cX7_byteAt 0 = .ok (.iload_n 1, 1) := gdX7_byteAt_0.1
theorem dX7_byteAt_1 : decode cX7_byteAt 1 = .ok (.ifCond .lt 27, 3) := gdX7_byteAt_0.2.1
theorem dX7_byteAt_4 : decode cX7_byteAt 4 = .ok (.iload_n 1, 1) := gdX7_byteAt_0.2.2.1
theorem dX7_byteAt_5 : decode cX7_byteAt 5 = .ok (.aload_n 0, 1) := gdX7_byteAt_0.2.2.2.1
theorem dX7_byteAt_6 : decode cX7_byteAt 6 = .ok (.getfield 15, 3) := gdX7_byteAt_0.2.2.2.2.1
theorem dX7_byteAt_9 : decode cX7_byteAt 9 = .ok (.if_icmp .ge 19, 3) := gdX7_byteAt_0.2.2.2.2.2.1
theorem dX7_byteAt_12 : decode cX7_byteAt 12 = .ok (.iload_n 1, 1) := gdX7_byteAt_0.2.2.2.2.2.2.1
theorem dX7_byteAt_13 : decode cX7_byteAt 13 = .ok (.sipush 400, 3) := gdX7_byteAt_0.2.2.2.2.2.2.2.1
theorem dX7_byteAt_16 : decode cX7_byteAt 16 = .ok (.if_icmp .ge 12, 3) := gdX7_byteAt_0.2.2.2.2.2.2.2.2.1
theorem dX7_byteAt_19 : decode cX7_byteAt 19 = .ok (.aload_n 0, 1) := gdX7_byteAt_0.2.2.2.2.2.2.2.2.2.1
theorem dX7_byteAt_20 : decode cX7_byteAt 20 = .ok (.getfield 9, 3) := gdX7_byteAt_0.2.2.2.2.2.2.2.2.2.2.1
theorem dX7_byteAt_23 : decode cX7_byteAt 23 = .ok (.iload_n 1, 1) := gdX7_byteAt_0.2.2.2.2.2.2.2.2.2.2.2.1
theorem dX7_byteAt_24 : decode cX7_byteAt 24 = .ok (.baload, 1) := gdX7_byteAt_0.2.2.2.2.2.2.2.2.2.2.2.2.1
theorem dX7_byteAt_25 : decode cX7_byteAt 25 = .ok (.goto 4, 3) := gdX7_byteAt_0.2.2.2.2.2.2.2.2.2.2.2.2.2.1
theorem dX7_byteAt_28 : decode cX7_byteAt 28 = .ok (.iconst (-1), 1) := gdX7_byteAt_0.2.2.2.2.2.2.2.2.2.2.2.2.2.2.1
theorem dX7_byteAt_29 : decode cX7_byteAt 29 = .ok (.ireturn, 1) := gdX7_byteAt_0.2.2.2.2.2.2.2.2.2.2.2.2.2.2.2
theorem gdX7_isDigitAt_0 : (decode cX7_isDigitAt 0 = .ok (.aload_n 0, 1)) ∧ (decode cX7_isDigitAt 1 = .ok (.iload_n 1, 1)) ∧ (decode cX7_isDigitAt 2 = .ok (.invokevirtual 28, 3)) ∧ (decode cX7_isDigitAt 5 = .ok (.istore_n 2, 1)) ∧ (decode cX7_isDigitAt 6 = .ok (.iload_n 2, 1)) ∧ (decode cX7_isDigitAt 7 = .ok (.bipush 48, 2)) ∧ (decode cX7_isDigitAt 9 = .ok (.if_icmp .lt 13, 3)) ∧ (decode cX7_isDigitAt 12 = .ok (.iload_n 2, 1)) ∧ (decode cX7_isDigitAt 13 = .ok (.bipush 57, 2)) ∧ (decode cX7_isDigitAt 15 = .ok (.if_icmp .gt 7, 3)) ∧ (decode cX7_isDigitAt 18 = .ok (.iconst 1, 1)) ∧ (decode cX7_isDigitAt 19 = .ok (.goto 4, 3)) ∧ (decode cX7_isDigitAt 22 = .ok (.iconst 0, 1)) ∧ (decode cX7_isDigitAt 23 = .ok (.ireturn, 1)) := by decide +kernel
theorem dX7_isDigitAt_0 : decode cX7_isDigitAt 0 = .ok (.aload_n 0, 1) := gdX7_isDigitAt_0.1
theorem dX7_isDigitAt_1 : decode cX7_isDigitAt 1 = .ok (.iload_n 1, 1) := gdX7_isDigitAt_0.2.1
theorem dX7_isDigitAt_2 : decode cX7_isDigitAt 2 = .ok (.invokevirtual 28, 3) := gdX7_isDigitAt_0.2.2.1
theorem dX7_isDigitAt_5 : decode cX7_isDigitAt 5 = .ok (.istore_n 2, 1) := gdX7_isDigitAt_0.2.2.2.1
theorem dX7_isDigitAt_6 : decode cX7_isDigitAt 6 = .ok (.iload_n 2, 1) := gdX7_isDigitAt_0.2.2.2.2.1
theorem dX7_isDigitAt_7 : decode cX7_isDigitAt 7 = .ok (.bipush 48, 2) := gdX7_isDigitAt_0.2.2.2.2.2.1
theorem dX7_isDigitAt_9 : decode cX7_isDigitAt 9 = .ok (.if_icmp .lt 13, 3) := gdX7_isDigitAt_0.2.2.2.2.2.2.1
theorem dX7_isDigitAt_12 : decode cX7_isDigitAt 12 = .ok (.iload_n 2, 1) := gdX7_isDigitAt_0.2.2.2.2.2.2.2.1
theorem dX7_isDigitAt_13 : decode cX7_isDigitAt 13 = .ok (.bipush 57, 2) := gdX7_isDigitAt_0.2.2.2.2.2.2.2.2.1
theorem dX7_isDigitAt_15 : decode cX7_isDigitAt 15 = .ok (.if_icmp .gt 7, 3) := gdX7_isDigitAt_0.2.2.2.2.2.2.2.2.2.1
theorem dX7_isDigitAt_18 : decode cX7_isDigitAt 18 = .ok (.iconst 1, 1) := gdX7_isDigitAt_0.2.2.2.2.2.2.2.2.2.2.1
theorem dX7_isDigitAt_19 : decode cX7_isDigitAt 19 = .ok (.goto 4, 3) := gdX7_isDigitAt_0.2.2.2.2.2.2.2.2.2.2.2.1
theorem dX7_isDigitAt_22 : decode cX7_isDigitAt 22 = .ok (.iconst 0, 1) := gdX7_isDigitAt_0.2.2.2.2.2.2.2.2.2.2.2.2.1
theorem dX7_isDigitAt_23 : decode cX7_isDigitAt 23 = .ok (.ireturn, 1) := gdX7_isDigitAt_0.2.2.2.2.2.2.2.2.2.2.2.2.2
theorem gdX7_skipBlanks_0 : (decode cX7_skipBlanks 0 = .ok (.aload_n 0, 1)) ∧ (decode cX7_skipBlanks 1 = .ok (.getfield 19, 3)) ∧ (decode cX7_skipBlanks 4 = .ok (.aload_n 0, 1)) ∧ (decode cX7_skipBlanks 5 = .ok (.getfield 15, 3)) ∧ (decode cX7_skipBlanks 8 = .ok (.if_icmp .ge 40, 3)) ∧ (decode cX7_skipBlanks 11 = .ok (.aload_n 0, 1)) ∧ (decode cX7_skipBlanks 12 = .ok (.getfield 19, 3)) ∧ (decode cX7_skipBlanks 15 = .ok (.sipush 400, 3)) ∧ (decode cX7_skipBlanks 18 = .ok (.if_icmp .ge 30, 3)) ∧ (decode cX7_skipBlanks 21 = .ok (.aload_n 0, 1)) ∧ (decode cX7_skipBlanks 22 = .ok (.getfield 9, 3)) ∧ (decode cX7_skipBlanks 25 = .ok (.aload_n 0, 1)) ∧ (decode cX7_skipBlanks 26 = .ok (.getfield 19, 3)) ∧ (decode cX7_skipBlanks 29 = .ok (.baload, 1)) ∧ (decode cX7_skipBlanks 30 = .ok (.bipush 32, 2)) ∧ (decode cX7_skipBlanks 32 = .ok (.if_icmp .ne 16, 3)) := by decide +kernel
theorem dX7_skipBlanks_0 : decode cX7_skipBlanks 0 = .ok (.aload_n 0, 1) := gdX7_skipBlanks_0.1
theorem dX7_skipBlanks_1 : decode cX7_skipBlanks 1 = .ok (.getfield 19, 3) := gdX7_skipBlanks_0.2.1
theorem dX7_skipBlanks_4 : decode cX7_skipBlanks 4 = .ok (.aload_n 0, 1) := gdX7_skipBlanks_0.2.2.1
theorem dX7_skipBlanks_5 : decode cX7_skipBlanks 5 = .ok (.getfield 15, 3) := gdX7_skipBlanks_0.2.2.2.1
theorem dX7_skipBlanks_8 : decode cX7_skipBlanks 8 = .ok (.if_icmp .ge 40, 3) := gdX7_skipBlanks_0.2.2.2.2.1
theorem dX7_skipBlanks_11 : decode cX7_skipBlanks 11 = .ok (.aload_n 0, 1) := gdX7_skipBlanks_0.2.2.2.2.2.1
theorem dX7_skipBlanks_12 : decode cX7_skipBlanks 12 = .ok (.getfield 19, 3) := gdX7_skipBlanks_0.2.2.2.2.2.2.1
theorem dX7_skipBlanks_15 : decode cX7_skipBlanks 15 = .ok (.sipush 400, 3) := gdX7_skipBlanks_0.2.2.2.2.2.2.2.1
theorem dX7_skipBlanks_18 : decode cX7_skipBlanks 18 = .ok (.if_icmp .ge 30, 3) := gdX7_skipBlanks_0.2.2.2.2.2.2.2.2.1
theorem dX7_skipBlanks_21 : decode cX7_skipBlanks 21 = .ok (.aload_n 0, 1) := gdX7_skipBlanks_0.2.2.2.2.2.2.2.2.2.1
theorem dX7_skipBlanks_22 : decode cX7_skipBlanks 22 = .ok (.getfield 9, 3) := gdX7_skipBlanks_0.2.2.2.2.2.2.2.2.2.2.1
theorem dX7_skipBlanks_25 : decode cX7_skipBlanks 25 = .ok (.aload_n 0, 1) := gdX7_skipBlanks_0.2.2.2.2.2.2.2.2.2.2.2.1
theorem dX7_skipBlanks_26 : decode cX7_skipBlanks 26 = .ok (.getfield 19, 3) := gdX7_skipBlanks_0.2.2.2.2.2.2.2.2.2.2.2.2.1
theorem dX7_skipBlanks_29 : decode cX7_skipBlanks 29 = .ok (.baload, 1) := gdX7_skipBlanks_0.2.2.2.2.2.2.2.2.2.2.2.2.2.1
theorem dX7_skipBlanks_30 : decode cX7_skipBlanks 30 = .ok (.bipush 32, 2) := gdX7_skipBlanks_0.2.2.2.2.2.2.2.2.2.2.2.2.2.2.1
theorem dX7_skipBlanks_32 : decode cX7_skipBlanks 32 = .ok (.if_icmp .ne 16, 3) := gdX7_skipBlanks_0.2.2.2.2.2.2.2.2.2.2.2.2.2.2.2
theorem gdX7_skipBlanks_35 : (decode cX7_skipBlanks 35 = .ok (.aload_n 0, 1)) ∧ (decode cX7_skipBlanks 36 = .ok (.dup, 1)) ∧ (decode cX7_skipBlanks 37 = .ok (.getfield 19, 3)) ∧ (decode cX7_skipBlanks 40 = .ok (.iconst 1, 1)) ∧ (decode cX7_skipBlanks 41 = .ok (.iadd, 1)) ∧ (decode cX7_skipBlanks 42 = .ok (.putfield 19, 3)) ∧ (decode cX7_skipBlanks 45 = .ok (.goto (-45), 3)) ∧ (decode cX7_skipBlanks 48 = .ok (.return_, 1)) := by decide +kernel
theorem dX7_skipBlanks_35 : decode cX7_skipBlanks 35 = .ok (.aload_n 0, 1) := gdX7_skipBlanks_35.1
theorem dX7_skipBlanks_36 : decode cX7_skipBlanks 36 = .ok (.dup, 1) := gdX7_skipBlanks_35.2.1
theorem dX7_skipBlanks_37 : decode cX7_skipBlanks 37 = .ok (.getfield 19, 3) := gdX7_skipBlanks_35.2.2.1
theorem dX7_skipBlanks_40 : decode cX7_skipBlanks 40 = .ok (.iconst 1, 1) := gdX7_skipBlanks_35.2.2.2.1
theorem dX7_skipBlanks_41 : decode cX7_skipBlanks 41 = .ok (.iadd, 1) := gdX7_skipBlanks_35.2.2.2.2.1
theorem dX7_skipBlanks_42 : decode cX7_skipBlanks 42 = .ok (.putfield 19, 3) := gdX7_skipBlanks_35.2.2.2.2.2.1
theorem dX7_skipBlanks_45 : decode cX7_skipBlanks 45 = .ok (.goto (-45), 3) := gdX7_skipBlanks_35.2.2.2.2.2.2.1
theorem dX7_skipBlanks_48 : decode cX7_skipBlanks 48 = .ok (.return_, 1) := gdX7_skipBlanks_35.2.2.2.2.2.2.2
theorem gdX7_isAtEnd_0 : (decode cX7_isAtEnd 0 = .ok (.aload_n 0, 1)) ∧ (decode cX7_isAtEnd 1 = .ok (.invokevirtual 32, 3)) ∧ (decode cX7_isAtEnd 4 = .ok (.aload_n 0, 1)) ∧ (decode cX7_isAtEnd 5 = .ok (.getfield 19, 3)) ∧ (decode cX7_isAtEnd 8 = .ok (.aload_n 0, 1)) ∧ (decode cX7_isAtEnd 9 = .ok (.getfield 15, 3)) ∧ (decode cX7_isAtEnd 12 = .ok (.if_icmp .lt 7, 3)) ∧ (decode cX7_isAtEnd 15 = .ok (.iconst 1, 1)) ∧ (decode cX7_isAtEnd 16 = .ok (.goto 4, 3)) ∧ (decode cX7_isAtEnd 19 = .ok (.iconst 0, 1)) ∧ (decode cX7_isAtEnd 20 = .ok (.ireturn, 1)) := by decide +kernel
theorem dX7_isAtEnd_0 : decode cX7_isAtEnd 0 = .ok (.aload_n 0, 1) := gdX7_isAtEnd_0.1
theorem dX7_isAtEnd_1 : decode cX7_isAtEnd 1 = .ok (.invokevirtual 32, 3) := gdX7_isAtEnd_0.2.1
theorem dX7_isAtEnd_4 : decode cX7_isAtEnd 4 = .ok (.aload_n 0, 1) := gdX7_isAtEnd_0.2.2.1
theorem dX7_isAtEnd_5 : decode cX7_isAtEnd 5 = .ok (.getfield 19, 3) := gdX7_isAtEnd_0.2.2.2.1
theorem dX7_isAtEnd_8 : decode cX7_isAtEnd 8 = .ok (.aload_n 0, 1) := gdX7_isAtEnd_0.2.2.2.2.1
theorem dX7_isAtEnd_9 : decode cX7_isAtEnd 9 = .ok (.getfield 15, 3) := gdX7_isAtEnd_0.2.2.2.2.2.1
theorem dX7_isAtEnd_12 : decode cX7_isAtEnd 12 = .ok (.if_icmp .lt 7, 3) := gdX7_isAtEnd_0.2.2.2.2.2.2.1
theorem dX7_isAtEnd_15 : decode cX7_isAtEnd 15 = .ok (.iconst 1, 1) := gdX7_isAtEnd_0.2.2.2.2.2.2.2.1
theorem dX7_isAtEnd_16 : decode cX7_isAtEnd 16 = .ok (.goto 4, 3) := gdX7_isAtEnd_0.2.2.2.2.2.2.2.2.1
theorem dX7_isAtEnd_19 : decode cX7_isAtEnd 19 = .ok (.iconst 0, 1) := gdX7_isAtEnd_0.2.2.2.2.2.2.2.2.2.1
theorem dX7_isAtEnd_20 : decode cX7_isAtEnd 20 = .ok (.ireturn, 1) := gdX7_isAtEnd_0.2.2.2.2.2.2.2.2.2.2
theorem gdX7_takeSign_0 : (decode cX7_takeSign 0 = .ok (.aload_n 0, 1)) ∧ (decode cX7_takeSign 1 = .ok (.invokevirtual 32, 3)) ∧ (decode cX7_takeSign 4 = .ok (.aload_n 0, 1)) ∧ (decode cX7_takeSign 5 = .ok (.aload_n 0, 1)) ∧ (decode cX7_takeSign 6 = .ok (.getfield 19, 3)) ∧ (decode cX7_takeSign 9 = .ok (.invokevirtual 28, 3)) ∧ (decode cX7_takeSign 12 = .ok (.iload_n 1, 1)) ∧ (decode cX7_takeSign 13 = .ok (.if_icmp .eq 5, 3)) ∧ (decode cX7_takeSign 16 = .ok (.iconst 0, 1)) ∧ (decode cX7_takeSign 17 = .ok (.ireturn, 1)) ∧ (decode cX7_takeSign 18 = .ok (.aload_n 0, 1)) ∧ (decode cX7_takeSign 19 = .ok (.aload_n 0, 1)) ∧ (decode cX7_takeSign 20 = .ok (.getfield 19, 3)) ∧ (decode cX7_takeSign 23 = .ok (.putfield 22, 3)) ∧ (decode cX7_takeSign 26 = .ok (.aload_n 0, 1)) ∧ (decode cX7_takeSign 27 = .ok (.dup, 1)) := by decide +kernel
theorem dX7_takeSign_0 : decode cX7_takeSign 0 = .ok (.aload_n 0, 1) := gdX7_takeSign_0.1
theorem dX7_takeSign_1 : decode cX7_takeSign 1 = .ok (.invokevirtual 32, 3) := gdX7_takeSign_0.2.1
theorem dX7_takeSign_4 : decode cX7_takeSign 4 = .ok (.aload_n 0, 1) := gdX7_takeSign_0.2.2.1
theorem dX7_takeSign_5 : decode cX7_takeSign 5 = .ok (.aload_n 0, 1) := gdX7_takeSign_0.2.2.2.1
theorem dX7_takeSign_6 : decode cX7_takeSign 6 = .ok (.getfield 19, 3) := gdX7_takeSign_0.2.2.2.2.1
theorem dX7_takeSign_9 : decode cX7_takeSign 9 = .ok (.invokevirtual 28, 3) := gdX7_takeSign_0.2.2.2.2.2.1
theorem dX7_takeSign_12 : decode cX7_takeSign 12 = .ok (.iload_n 1, 1) := gdX7_takeSign_0.2.2.2.2.2.2.1
theorem dX7_takeSign_13 : decode cX7_takeSign 13 = .ok (.if_icmp .eq 5, 3) := gdX7_takeSign_0.2.2.2.2.2.2.2.1
theorem dX7_takeSign_16 : decode cX7_takeSign 16 = .ok (.iconst 0, 1) := gdX7_takeSign_0.2.2.2.2.2.2.2.2.1
theorem dX7_takeSign_17 : decode cX7_takeSign 17 = .ok (.ireturn, 1) := gdX7_takeSign_0.2.2.2.2.2.2.2.2.2.1
theorem dX7_takeSign_18 : decode cX7_takeSign 18 = .ok (.aload_n 0, 1) := gdX7_takeSign_0.2.2.2.2.2.2.2.2.2.2.1
theorem dX7_takeSign_19 : decode cX7_takeSign 19 = .ok (.aload_n 0, 1) := gdX7_takeSign_0.2.2.2.2.2.2.2.2.2.2.2.1
theorem dX7_takeSign_20 : decode cX7_takeSign 20 = .ok (.getfield 19, 3) := gdX7_takeSign_0.2.2.2.2.2.2.2.2.2.2.2.2.1
theorem dX7_takeSign_23 : decode cX7_takeSign 23 = .ok (.putfield 22, 3) := gdX7_takeSign_0.2.2.2.2.2.2.2.2.2.2.2.2.2.1
theorem dX7_takeSign_26 : decode cX7_takeSign 26 = .ok (.aload_n 0, 1) := gdX7_takeSign_0.2.2.2.2.2.2.2.2.2.2.2.2.2.2.1
theorem dX7_takeSign_27 : decode cX7_takeSign 27 = .ok (.dup, 1) := gdX7_takeSign_0.2.2.2.2.2.2.2.2.2.2.2.2.2.2.2
theorem gdX7_takeSign_28 : (decode cX7_takeSign 28 = .ok (.getfield 19, 3)) ∧ (decode cX7_takeSign 31 = .ok (.iconst 1, 1)) ∧ (decode cX7_takeSign 32 = .ok (.iadd, 1)) ∧ (decode cX7_takeSign 33 = .ok (.putfield 19, 3)) ∧ (decode cX7_takeSign 36 = .ok (.iconst 1, 1)) ∧ (decode cX7_takeSign 37 = .ok (.ireturn, 1)) := by decide +kernel
theorem dX7_takeSign_28 : decode cX7_takeSign 28 = .ok (.getfield 19, 3) := gdX7_takeSign_28.1
theorem dX7_takeSign_31 : decode cX7_takeSign 31 = .ok (.iconst 1, 1) := gdX7_takeSign_28.2.1
theorem dX7_takeSign_32 : decode cX7_takeSign 32 = .ok (.iadd, 1) := gdX7_takeSign_28.2.2.1
theorem dX7_takeSign_33 : decode cX7_takeSign 33 = .ok (.putfield 19, 3) := gdX7_takeSign_28.2.2.2.1
theorem dX7_takeSign_36 : decode cX7_takeSign 36 = .ok (.iconst 1, 1) := gdX7_takeSign_28.2.2.2.2.1
theorem dX7_takeSign_37 : decode cX7_takeSign 37 = .ok (.ireturn, 1) := gdX7_takeSign_28.2.2.2.2.2
theorem gdX7_takeWord_0 : (decode cX7_takeWord 0 = .ok (.aload_n 0, 1)) ∧ (decode cX7_takeWord 1 = .ok (.invokevirtual 32, 3)) ∧ (decode cX7_takeWord 4 = .ok (.aload_n 1, 1)) ∧ (decode cX7_takeWord 5 = .ok (.invokevirtual 35, 3)) ∧ (decode cX7_takeWord 8 = .ok (.istore_n 2, 1)) ∧ (decode cX7_takeWord 9 = .ok (.iconst 0, 1)) ∧ (decode cX7_takeWord 10 = .ok (.istore_n 3, 1)) ∧ (decode cX7_takeWord 11 = .ok (.iload_n 3, 1)) ∧ (decode cX7_takeWord 12 = .ok (.iload_n 2, 1)) ∧ (decode cX7_takeWord 13 = .ok (.if_icmp .ge 29, 3)) ∧ (decode cX7_takeWord 16 = .ok (.aload_n 0, 1)) ∧ (decode cX7_takeWord 17 = .ok (.aload_n 0, 1)) ∧ (decode cX7_takeWord 18 = .ok (.getfield 19, 3)) ∧ (decode cX7_takeWord 21 = .ok (.iload_n 3, 1)) ∧ (decode cX7_takeWord 22 = .ok (.iadd, 1)) ∧ (decode cX7_takeWord 23 = .ok (.invokevirtual 28, 3)) := by decide +kernel
theorem dX7_takeWord_0 : decode cX7_takeWord 0 = .ok (.aload_n 0, 1) := gdX7_takeWord_0.1
theorem dX7_takeWord_1 : decode cX7_takeWord 1 = .ok (.invokevirtual 32, 3) := gdX7_takeWord_0.2.1
theorem dX7_takeWord_4 : decode cX7_takeWord 4 = .ok (.aload_n 1, 1) := gdX7_takeWord_0.2.2.1
theorem dX7_takeWord_5 : decode cX7_takeWord 5 = .ok (.invokevirtual 35, 3) := gdX7_takeWord_0.2.2.2.1
theorem dX7_takeWord_8 : decode cX7_takeWord 8 = .ok (.istore_n 2, 1) := gdX7_takeWord_0.2.2.2.2.1
theorem dX7_takeWord_9 : decode cX7_takeWord 9 = .ok (.iconst 0, 1) := gdX7_takeWord_0.2.2.2.2.2.1
theorem dX7_takeWord_10 : decode cX7_takeWord 10 = .ok (.istore_n 3, 1) := gdX7_takeWord_0.2.2.2.2.2.2.1
theorem dX7_takeWord_11 : decode cX7_takeWord 11 = .ok (.iload_n 3, 1) := gdX7_takeWord_0.2.2.2.2.2.2.2.1
theorem dX7_takeWord_12 : decode cX7_takeWord 12 = .ok (.iload_n 2, 1) := gdX7_takeWord_0.2.2.2.2.2.2.2.2.1
theorem dX7_takeWord_13 : decode cX7_takeWord 13 = .ok (.if_icmp .ge 29, 3) := gdX7_takeWord_0.2.2.2.2.2.2.2.2.2.1
theorem dX7_takeWord_16 : decode cX7_takeWord 16 = .ok (.aload_n 0, 1) := gdX7_takeWord_0.2.2.2.2.2.2.2.2.2.2.1
theorem dX7_takeWord_17 : decode cX7_takeWord 17 = .ok (.aload_n 0, 1) := gdX7_takeWord_0.2.2.2.2.2.2.2.2.2.2.2.1
theorem dX7_takeWord_18 : decode cX7_takeWord 18 = .ok (.getfield 19, 3) := gdX7_takeWord_0.2.2.2.2.2.2.2.2.2.2.2.2.1
theorem dX7_takeWord_21 : decode cX7_takeWord 21 = .ok (.iload_n 3, 1) := gdX7_takeWord_0.2.2.2.2.2.2.2.2.2.2.2.2.2.1
theorem dX7_takeWord_22 : decode cX7_takeWord 22 = .ok (.iadd, 1) := gdX7_takeWord_0.2.2.2.2.2.2.2.2.2.2.2.2.2.2.1
theorem dX7_takeWord_23 : decode cX7_takeWord 23 = .ok (.invokevirtual 28, 3) := gdX7_takeWord_0.2.2.2.2.2.2.2.2.2.2.2.2.2.2.2
theorem gdX7_takeWord_26 : (decode cX7_takeWord 26 = .ok (.aload_n 1, 1)) ∧ (decode cX7_takeWord 27 = .ok (.iload_n 3, 1)) ∧ (decode cX7_takeWord 28 = .ok (.invokevirtual 41, 3)) ∧ (decode cX7_takeWord 31 = .ok (.if_icmp .eq 5, 3)) ∧ (decode cX7_takeWord 34 = .ok (.iconst 0, 1)) ∧ (decode cX7_takeWord 35 = .ok (.ireturn, 1)) ∧ (decode cX7_takeWord 36 = .ok (.iinc 3 1, 3)) ∧ (decode cX7_takeWord 39 = .ok (.goto (-28), 3)) ∧ (decode cX7_takeWord 42 = .ok (.aload_n 0, 1)) ∧ (decode cX7_takeWord 43 = .ok (.aload_n 0, 1)) ∧ (decode cX7_takeWord 44 = .ok (.getfield 19, 3)) ∧ (decode cX7_takeWord 47 = .ok (.iload_n 2, 1)) ∧ (decode cX7_takeWord 48 = .ok (.iadd, 1)) ∧ (decode cX7_takeWord 49 = .ok (.invokevirtual 28, 3)) ∧ (decode cX7_takeWord 52 = .ok (.istore_n 3, 1)) ∧ (decode cX7_takeWord 53 = .ok (.iload_n 3, 1)) := by decide +kernel
theorem dX7_takeWord_26 : decode cX7_takeWord 26 = .ok (.aload_n 1, 1) := gdX7_takeWord_26.1
theorem dX7_takeWord_27 : decode cX7_takeWord 27 = .ok (.iload_n 3, 1) := gdX7_takeWord_26.2.1
theorem dX7_takeWord_28 : decode cX7_takeWord 28 = .ok (.invokevirtual 41, 3) := gdX7_takeWord_26.2.2.1
theorem dX7_takeWord_31 : decode cX7_takeWord 31 = .ok (.if_icmp .eq 5, 3) := gdX7_takeWord_26.2.2.2.1
theorem dX7_takeWord_34 : decode cX7_takeWord 34 = .ok (.iconst 0, 1) := gdX7_takeWord_26.2.2.2.2.1
theorem dX7_takeWord_35 : decode cX7_takeWord 35 = .ok (.ireturn, 1) := gdX7_takeWord_26.2.2.2.2.2.1
theorem dX7_takeWord_36 : decode cX7_takeWord 36 = .ok (.iinc 3 1, 3) := gdX7_takeWord_26.2.2.2.2.2.2.1
theorem dX7_takeWord_39 : decode cX7_takeWord 39 = .ok (.goto (-28), 3) := gdX7_takeWord_26.2.2.2.2.2.2.2.1
theorem dX7_takeWord_42 : decode cX7_takeWord 42 = .ok (.aload_n 0, 1) := gdX7_takeWord_26.2.2.2.2.2.2.2.2.1
theorem dX7_takeWord_43 : decode cX7_takeWord 43 = .ok (.aload_n 0, 1) := gdX7_takeWord_26.2.2.2.2.2.2.2.2.2.1
theorem dX7_takeWord_44 : decode cX7_takeWord 44 = .ok (.getfield 19, 3) := gdX7_takeWord_26.2.2.2.2.2.2.2.2.2.2.1
theorem dX7_takeWord_47 : decode cX7_takeWord 47 = .ok (.iload_n 2, 1) := gdX7_takeWord_26.2.2.2.2.2.2.2.2.2.2.2.1
theorem dX7_takeWord_48 : decode cX7_takeWord 48 = .ok (.iadd, 1) := gdX7_takeWord_26.2.2.2.2.2.2.2.2.2.2.2.2.1
theorem dX7_takeWord_49 : decode cX7_takeWord 49 = .ok (.invokevirtual 28, 3) := gdX7_takeWord_26.2.2.2.2.2.2.2.2.2.2.2.2.2.1
theorem dX7_takeWord_52 : decode cX7_takeWord 52 = .ok (.istore_n 3, 1) := gdX7_takeWord_26.2.2.2.2.2.2.2.2.2.2.2.2.2.2.1
theorem dX7_takeWord_53 : decode cX7_takeWord 53 = .ok (.iload_n 3, 1) := gdX7_takeWord_26.2.2.2.2.2.2.2.2.2.2.2.2.2.2.2
theorem gdX7_takeWord_54 : (decode cX7_takeWord 54 = .ok (.bipush 97, 2)) ∧ (decode cX7_takeWord 56 = .ok (.if_icmp .lt 11, 3)) ∧ (decode cX7_takeWord 59 = .ok (.iload_n 3, 1)) ∧ (decode cX7_takeWord 60 = .ok (.bipush 122, 2)) ∧ (decode cX7_takeWord 62 = .ok (.if_icmp .gt 5, 3)) ∧ (decode cX7_takeWord 65 = .ok (.iconst 0, 1)) ∧ (decode cX7_takeWord 66 = .ok (.ireturn, 1)) ∧ (decode cX7_takeWord 67 = .ok (.aload_n 0, 1)) ∧ (decode cX7_takeWord 68 = .ok (.aload_n 0, 1)) ∧ (decode cX7_takeWord 69 = .ok (.getfield 19, 3)) ∧ (decode cX7_takeWord 72 = .ok (.putfield 22, 3)) ∧ (decode cX7_takeWord 75 = .ok (.aload_n 0, 1)) ∧ (decode cX7_takeWord 76 = .ok (.dup, 1)) ∧ (decode cX7_takeWord 77 = .ok (.getfield 19, 3)) ∧ (decode cX7_takeWord 80 = .ok (.iload_n 2, 1)) ∧ (decode cX7_takeWord 81 = .ok (.iadd, 1)) := by decide +kernel
theorem dX7_takeWord_54 : decode cX7_takeWord 54 = .ok (.bipush 97, 2) := gdX7_takeWord_54.1
theorem dX7_takeWord_56 : decode cX7_takeWord 56 = .ok (.if_icmp .lt 11, 3) := gdX7_takeWord_54.2.1
theorem dX7_takeWord_59 : decode cX7_takeWord 59 = .ok (.iload_n 3, 1) := gdX7_takeWord_54.2.2.1
theorem dX7_takeWord_60 : decode cX7_takeWord 60 = .ok (.bipush 122, 2) := gdX7_takeWord_54.2.2.2.1
theorem dX7_takeWord_62 : decode cX7_takeWord 62 = .ok (.if_icmp .gt 5, 3) := gdX7_takeWord_54.2.2.2.2.1
theorem dX7_takeWord_65 : decode cX7_takeWord 65 = .ok (.iconst 0, 1) := gdX7_takeWord_54.2.2.2.2.2.1
theorem dX7_takeWord_66 : decode cX7_takeWord 66 = .ok (.ireturn, 1) := gdX7_takeWord_54.2.2.2.2.2.2.1
theorem dX7_takeWord_67 : decode cX7_takeWord 67 = .ok (.aload_n 0, 1) := gdX7_takeWord_54.2.2.2.2.2.2.2.1
theorem dX7_takeWord_68 : decode cX7_takeWord 68 = .ok (.aload_n 0, 1) := gdX7_takeWord_54.2.2.2.2.2.2.2.2.1
theorem dX7_takeWord_69 : decode cX7_takeWord 69 = .ok (.getfield 19, 3) := gdX7_takeWord_54.2.2.2.2.2.2.2.2.2.1
theorem dX7_takeWord_72 : decode cX7_takeWord 72 = .ok (.putfield 22, 3) := gdX7_takeWord_54.2.2.2.2.2.2.2.2.2.2.1
theorem dX7_takeWord_75 : decode cX7_takeWord 75 = .ok (.aload_n 0, 1) := gdX7_takeWord_54.2.2.2.2.2.2.2.2.2.2.2.1
theorem dX7_takeWord_76 : decode cX7_takeWord 76 = .ok (.dup, 1) := gdX7_takeWord_54.2.2.2.2.2.2.2.2.2.2.2.2.1
theorem dX7_takeWord_77 : decode cX7_takeWord 77 = .ok (.getfield 19, 3) := gdX7_takeWord_54.2.2.2.2.2.2.2.2.2.2.2.2.2.1
theorem dX7_takeWord_80 : decode cX7_takeWord 80 = .ok (.iload_n 2, 1) := gdX7_takeWord_54.2.2.2.2.2.2.2.2.2.2.2.2.2.2.1
theorem dX7_takeWord_81 : decode cX7_takeWord 81 = .ok (.iadd, 1) := gdX7_takeWord_54.2.2.2.2.2.2.2.2.2.2.2.2.2.2.2
theorem gdX7_takeWord_82 : (decode cX7_takeWord 82 = .ok (.putfield 19, 3)) ∧ (decode cX7_takeWord 85 = .ok (.iconst 1, 1)) ∧ (decode cX7_takeWord 86 = .ok (.ireturn, 1)) := by decide +kernel
theorem dX7_takeWord_82 : decode cX7_takeWord 82 = .ok (.putfield 19, 3) := gdX7_takeWord_82.1
theorem dX7_takeWord_85 : decode cX7_takeWord 85 = .ok (.iconst 1, 1) := gdX7_takeWord_82.2.1
theorem dX7_takeWord_86 : decode cX7_takeWord 86 = .ok (.ireturn, 1) := gdX7_takeWord_82.2.2
theorem gdX7_takeNumber_0 : (decode cX7_takeNumber 0 = .ok (.aload_n 0, 1)) ∧ (decode cX7_takeNumber 1 = .ok (.invokevirtual 32, 3)) ∧ (decode cX7_takeNumber 4 = .ok (.aload_n 0, 1)) ∧ (decode cX7_takeNumber 5 = .ok (.aload_n 0, 1)) ∧ (decode cX7_takeNumber 6 = .ok (.getfield 19, 3)) ∧ (decode cX7_takeNumber 9 = .ok (.putfield 22, 3)) ∧ (decode cX7_takeNumber 12 = .ok (.iconst 0, 1)) ∧ (decode cX7_takeNumber 13 = .ok (.istore_n 3, 1)) ∧ (decode cX7_takeNumber 14 = .ok (.aload_n 0, 1)) ∧ (decode cX7_takeNumber 15 = .ok (.getfield 19, 3)) ∧ (decode cX7_takeNumber 18 = .ok (.aload_n 0, 1)) ∧ (decode cX7_takeNumber 19 = .ok (.getfield 15, 3)) ∧ (decode cX7_takeNumber 22 = .ok (.if_icmp .ge 57, 3)) ∧ (decode cX7_takeNumber 25 = .ok (.aload_n 0, 1)) ∧ (decode cX7_takeNumber 26 = .ok (.aload_n 0, 1)) ∧ (decode cX7_takeNumber 27 = .ok (.getfield 19, 3)) := by decide +kernel
theorem dX7_takeNumber_0 : decode cX7_takeNumber 0 = .ok (.aload_n 0, 1) := gdX7_takeNumber_0.1
theorem dX7_takeNumber_1 : decode cX7_takeNumber 1 = .ok (.invokevirtual 32, 3) := gdX7_takeNumber_0.2.1
theorem dX7_takeNumber_4 : decode cX7_takeNumber 4 = .ok (.aload_n 0, 1) := gdX7_takeNumber_0.2.2.1
theorem dX7_takeNumber_5 : decode cX7_takeNumber 5 = .ok (.aload_n 0, 1) := gdX7_takeNumber_0.2.2.2.1
theorem dX7_takeNumber_6 : decode cX7_takeNumber 6 = .ok (.getfield 19, 3) := gdX7_takeNumber_0.2.2.2.2.1
theorem dX7_takeNumber_9 : decode cX7_takeNumber 9 = .ok (.putfield 22, 3) := gdX7_takeNumber_0.2.2.2.2.2.1
theorem dX7_takeNumber_12 : decode cX7_takeNumber 12 = .ok (.iconst 0, 1) := gdX7_takeNumber_0.2.2.2.2.2.2.1
theorem dX7_takeNumber_13 : decode cX7_takeNumber 13 = .ok (.istore_n 3, 1) := gdX7_takeNumber_0.2.2.2.2.2.2.2.1
theorem dX7_takeNumber_14 : decode cX7_takeNumber 14 = .ok (.aload_n 0, 1) := gdX7_takeNumber_0.2.2.2.2.2.2.2.2.1
theorem dX7_takeNumber_15 : decode cX7_takeNumber 15 = .ok (.getfield 19, 3) := gdX7_takeNumber_0.2.2.2.2.2.2.2.2.2.1
theorem dX7_takeNumber_18 : decode cX7_takeNumber 18 = .ok (.aload_n 0, 1) := gdX7_takeNumber_0.2.2.2.2.2.2.2.2.2.2.1
theorem dX7_takeNumber_19 : decode cX7_takeNumber 19 = .ok (.getfield 15, 3) := gdX7_takeNumber_0.2.2.2.2.2.2.2.2.2.2.2.1
theorem dX7_takeNumber_22 : decode cX7_takeNumber 22 = .ok (.if_icmp .ge 57, 3) := gdX7_takeNumber_0.2.2.2.2.2.2.2.2.2.2.2.2.1
theorem dX7_takeNumber_25 : decode cX7_takeNumber 25 = .ok (.aload_n 0, 1) := gdX7_takeNumber_0.2.2.2.2.2.2.2.2.2.2.2.2.2.1
theorem dX7_takeNumber_26 : decode cX7_takeNumber 26 = .ok (.aload_n 0, 1) := gdX7_takeNumber_0.2.2.2.2.2.2.2.2.2.2.2.2.2.2.1
theorem dX7_takeNumber_27 : decode cX7_takeNumber 27 = .ok (.getfield 19, 3) := gdX7_takeNumber_0.2.2.2.2.2.2.2.2.2.2.2.2.2.2.2
theorem gdX7_takeNumber_30 : (decode cX7_takeNumber 30 = .ok (.invokevirtual 45, 3)) ∧ (decode cX7_takeNumber 33 = .ok (.ifCond .eq 46, 3)) ∧ (decode cX7_takeNumber 36 = .ok (.aload_n 0, 1)) ∧ (decode cX7_takeNumber 37 = .ok (.getfield 19, 3)) ∧ (decode cX7_takeNumber 40 = .ok (.aload_n 0, 1)) ∧ (decode cX7_takeNumber 41 = .ok (.getfield 22, 3)) ∧ (decode cX7_takeNumber 44 = .ok (.isub, 1)) ∧ (decode cX7_takeNumber 45 = .ok (.iconst 5, 1)) ∧ (decode cX7_takeNumber 46 = .ok (.if_icmp .ge 20, 3)) ∧ (decode cX7_takeNumber 49 = .ok (.iload_n 3, 1)) ∧ (decode cX7_takeNumber 50 = .ok (.bipush 10, 2)) ∧ (decode cX7_takeNumber 52 = .ok (.imul, 1)) ∧ (decode cX7_takeNumber 53 = .ok (.aload_n 0, 1)) ∧ (decode cX7_takeNumber 54 = .ok (.aload_n 0, 1)) ∧ (decode cX7_takeNumber 55 = .ok (.getfield 19, 3)) ∧ (decode cX7_takeNumber 58 = .ok (.invokevirtual 28, 3)) := by decide +kernel
theorem dX7_takeNumber_30 : decode cX7_takeNumber 30 = .ok (.invokevirtual 45, 3) := gdX7_takeNumber_30.1
theorem dX7_takeNumber_33 : decode cX7_takeNumber 33 = .ok (.ifCond .eq 46, 3) := gdX7_takeNumber_30.2.1
theorem dX7_takeNumber_36 : decode cX7_takeNumber 36 = .ok (.aload_n 0, 1) := gdX7_takeNumber_30.2.2.1
theorem dX7_takeNumber_37 : decode cX7_takeNumber 37 = .ok (.getfield 19, 3) := gdX7_takeNumber_30.2.2.2.1
theorem dX7_takeNumber_40 : decode cX7_takeNumber 40 = .ok (.aload_n 0, 1) := gdX7_takeNumber_30.2.2.2.2.1
theorem dX7_takeNumber_41 : decode cX7_takeNumber 41 = .ok (.getfield 22, 3) := gdX7_takeNumber_30.2.2.2.2.2.1
theorem dX7_takeNumber_44 : decode cX7_takeNumber 44 = .ok (.isub, 1) := gdX7_takeNumber_30.2.2.2.2.2.2.1
theorem dX7_takeNumber_45 : decode cX7_takeNumber 45 = .ok (.iconst 5, 1) := gdX7_takeNumber_30.2.2.2.2.2.2.2.1
theorem dX7_takeNumber_46 : decode cX7_takeNumber 46 = .ok (.if_icmp .ge 20, 3) := gdX7_takeNumber_30.2.2.2.2.2.2.2.2.1
theorem dX7_takeNumber_49 : decode cX7_takeNumber 49 = .ok (.iload_n 3, 1) := gdX7_takeNumber_30.2.2.2.2.2.2.2.2.2.1
theorem dX7_takeNumber_50 : decode cX7_takeNumber 50 = .ok (.bipush 10, 2) := gdX7_takeNumber_30.2.2.2.2.2.2.2.2.2.2.1
theorem dX7_takeNumber_52 : decode cX7_takeNumber 52 = .ok (.imul, 1) := gdX7_takeNumber_30.2.2.2.2.2.2.2.2.2.2.2.1
theorem dX7_takeNumber_53 : decode cX7_takeNumber 53 = .ok (.aload_n 0, 1) := gdX7_takeNumber_30.2.2.2.2.2.2.2.2.2.2.2.2.1
theorem dX7_takeNumber_54 : decode cX7_takeNumber 54 = .ok (.aload_n 0, 1) := gdX7_takeNumber_30.2.2.2.2.2.2.2.2.2.2.2.2.2.1
theorem dX7_takeNumber_55 : decode cX7_takeNumber 55 = .ok (.getfield 19, 3) := gdX7_takeNumber_30.2.2.2.2.2.2.2.2.2.2.2.2.2.2.1
theorem dX7_takeNumber_58 : decode cX7_takeNumber 58 = .ok (.invokevirtual 28, 3) := gdX7_takeNumber_30.2.2.2.2.2.2.2.2.2.2.2.2.2.2.2
theorem gdX7_takeNumber_61 : (decode cX7_takeNumber 61 = .ok (.iadd, 1)) ∧ (decode cX7_takeNumber 62 = .ok (.bipush 48, 2)) ∧ (decode cX7_takeNumber 64 = .ok (.isub, 1)) ∧ (decode cX7_takeNumber 65 = .ok (.istore_n 3, 1)) ∧ (decode cX7_takeNumber 66 = .ok (.aload_n 0, 1)) ∧ (decode cX7_takeNumber 67 = .ok (.dup, 1)) ∧ (decode cX7_takeNumber 68 = .ok (.getfield 19, 3)) ∧ (decode cX7_takeNumber 71 = .ok (.iconst 1, 1)) ∧ (decode cX7_takeNumber 72 = .ok (.iadd, 1)) ∧ (decode cX7_takeNumber 73 = .ok (.putfield 19, 3)) ∧ (decode cX7_takeNumber 76 = .ok (.goto (-62), 3)) ∧ (decode cX7_takeNumber 79 = .ok (.aload_n 0, 1)) ∧ (decode cX7_takeNumber 80 = .ok (.getfield 19, 3)) ∧ (decode cX7_takeNumber 83 = .ok (.aload_n 0, 1)) ∧ (decode cX7_takeNumber 84 = .ok (.getfield 22, 3)) ∧ (decode cX7_takeNumber 87 = .ok (.if_icmp .ne 15, 3)) := by decide +kernel
theorem dX7_takeNumber_61 : decode cX7_takeNumber 61 = .ok (.iadd, 1) := gdX7_takeNumber_61.1
theorem dX7_takeNumber_62 : decode cX7_takeNumber 62 = .ok (.bipush 48, 2) := gdX7_takeNumber_61.2.1
theorem dX7_takeNumber_64 : decode cX7_takeNumber 64 = .ok (.isub, 1) := gdX7_takeNumber_61.2.2.1
theorem dX7_takeNumber_65 : decode cX7_takeNumber 65 = .ok (.istore_n 3, 1) := gdX7_takeNumber_61.2.2.2.1
theorem dX7_takeNumber_66 : decode cX7_takeNumber 66 = .ok (.aload_n 0, 1) := gdX7_takeNumber_61.2.2.2.2.1
theorem dX7_takeNumber_67 : decode cX7_takeNumber 67 = .ok (.dup, 1) := gdX7_takeNumber_61.2.2.2.2.2.1
theorem dX7_takeNumber_68 : decode cX7_takeNumber 68 = .ok (.getfield 19, 3) := gdX7_takeNumber_61.2.2.2.2.2.2.1
theorem dX7_takeNumber_71 : decode cX7_takeNumber 71 = .ok (.iconst 1, 1) := gdX7_takeNumber_61.2.2.2.2.2.2.2.1
theorem dX7_takeNumber_72 : decode cX7_takeNumber 72 = .ok (.iadd, 1) := gdX7_takeNumber_61.2.2.2.2.2.2.2.2.1
theorem dX7_takeNumber_73 : decode cX7_takeNumber 73 = .ok (.putfield 19, 3) := gdX7_takeNumber_61.2.2.2.2.2.2.2.2.2.1
theorem dX7_takeNumber_76 : decode cX7_takeNumber 76 = .ok (.goto (-62), 3) := gdX7_takeNumber_61.2.2.2.2.2.2.2.2.2.2.1
theorem dX7_takeNumber_79 : decode cX7_takeNumber 79 = .ok (.aload_n 0, 1) := gdX7_takeNumber_61.2.2.2.2.2.2.2.2.2.2.2.1
theorem dX7_takeNumber_80 : decode cX7_takeNumber 80 = .ok (.getfield 19, 3) := gdX7_takeNumber_61.2.2.2.2.2.2.2.2.2.2.2.2.1
theorem dX7_takeNumber_83 : decode cX7_takeNumber 83 = .ok (.aload_n 0, 1) := gdX7_takeNumber_61.2.2.2.2.2.2.2.2.2.2.2.2.2.1
theorem dX7_takeNumber_84 : decode cX7_takeNumber 84 = .ok (.getfield 22, 3) := gdX7_takeNumber_61.2.2.2.2.2.2.2.2.2.2.2.2.2.2.1
theorem dX7_takeNumber_87 : decode cX7_takeNumber 87 = .ok (.if_icmp .ne 15, 3) := gdX7_takeNumber_61.2.2.2.2.2.2.2.2.2.2.2.2.2.2.2
theorem gdX7_takeNumber_90 : (decode cX7_takeNumber 90 = .ok (.aload_n 0, 1)) ∧ (decode cX7_takeNumber 91 = .ok (.aload_n 0, 1)) ∧ (decode cX7_takeNumber 92 = .ok (.getfield 22, 3)) ∧ (decode cX7_takeNumber 95 = .ok (.iconst 0, 1)) ∧ (decode cX7_takeNumber 96 = .ok (.invokevirtual 49, 3)) ∧ (decode cX7_takeNumber 99 = .ok (.pop, 1)) ∧ (decode cX7_takeNumber 100 = .ok (.iconst (-1), 1)) ∧ (decode cX7_takeNumber 101 = .ok (.ireturn, 1)) ∧ (decode cX7_takeNumber 102 = .ok (.aload_n 0, 1)) ∧ (decode cX7_takeNumber 103 = .ok (.getfield 19, 3)) ∧ (decode cX7_takeNumber 106 = .ok (.aload_n 0, 1)) ∧ (decode cX7_takeNumber 107 = .ok (.getfield 22, 3)) ∧ (decode cX7_takeNumber 110 = .ok (.isub, 1)) ∧ (decode cX7_takeNumber 111 = .ok (.iconst 5, 1)) ∧ (decode cX7_takeNumber 112 = .ok (.if_icmp .gt 12, 3)) ∧ (decode cX7_takeNumber 115 = .ok (.iload_n 3, 1)) := by decide +kernel
theorem dX7_takeNumber_90 : decode cX7_takeNumber 90 = .ok (.aload_n 0, 1) := gdX7_takeNumber_90.1
theorem dX7_takeNumber_91 : decode cX7_takeNumber 91 = .ok (.aload_n 0, 1) := gdX7_takeNumber_90.2.1
theorem dX7_takeNumber_92 : decode cX7_takeNumber 92 = .ok (.getfield 22, 3) := gdX7_takeNumber_90.2.2.1
theorem dX7_takeNumber_95 : decode cX7_takeNumber 95 = .ok (.iconst 0, 1) := gdX7_takeNumber_90.2.2.2.1
theorem dX7_takeNumber_96 : decode cX7_takeNumber 96 = .ok (.invokevirtual 49, 3) := gdX7_takeNumber_90.2.2.2.2.1
theorem dX7_takeNumber_99 : decode cX7_takeNumber 99 = .ok (.pop, 1) := gdX7_takeNumber_90.2.2.2.2.2.1
theorem dX7_takeNumber_100 : decode cX7_takeNumber 100 = .ok (.iconst (-1), 1) := gdX7_takeNumber_90.2.2.2.2.2.2.1
theorem dX7_takeNumber_101 : decode cX7_takeNumber 101 = .ok (.ireturn, 1) := gdX7_takeNumber_90.2.2.2.2.2.2.2.1
theorem dX7_takeNumber_102 : decode cX7_takeNumber 102 = .ok (.aload_n 0, 1) := gdX7_takeNumber_90.2.2.2.2.2.2.2.2.1
theorem dX7_takeNumber_103 : decode cX7_takeNumber 103 = .ok (.getfield 19, 3) := gdX7_takeNumber_90.2.2.2.2.2.2.2.2.2.1
theorem dX7_takeNumber_106 : decode cX7_takeNumber 106 = .ok (.aload_n 0, 1) := gdX7_takeNumber_90.2.2.2.2.2.2.2.2.2.2.1
theorem dX7_takeNumber_107 : decode cX7_takeNumber 107 = .ok (.getfield 22, 3) := gdX7_takeNumber_90.2.2.2.2.2.2.2.2.2.2.2.1
theorem dX7_takeNumber_110 : decode cX7_takeNumber 110 = .ok (.isub, 1) := gdX7_takeNumber_90.2.2.2.2.2.2.2.2.2.2.2.2.1
theorem dX7_takeNumber_111 : decode cX7_takeNumber 111 = .ok (.iconst 5, 1) := gdX7_takeNumber_90.2.2.2.2.2.2.2.2.2.2.2.2.2.1
theorem dX7_takeNumber_112 : decode cX7_takeNumber 112 = .ok (.if_icmp .gt 12, 3) := gdX7_takeNumber_90.2.2.2.2.2.2.2.2.2.2.2.2.2.2.1
theorem dX7_takeNumber_115 : decode cX7_takeNumber 115 = .ok (.iload_n 3, 1) := gdX7_takeNumber_90.2.2.2.2.2.2.2.2.2.2.2.2.2.2.2
theorem gdX7_takeNumber_116 : (decode cX7_takeNumber 116 = .ok (.iload_n 1, 1)) ∧ (decode cX7_takeNumber 117 = .ok (.iload_n 2, 1)) ∧ (decode cX7_takeNumber 118 = .ok (.invokestatic 53, 3)) ∧ (decode cX7_takeNumber 121 = .ok (.ifCond .ne 15, 3)) ∧ (decode cX7_takeNumber 124 = .ok (.aload_n 0, 1)) ∧ (decode cX7_takeNumber 125 = .ok (.aload_n 0, 1)) ∧ (decode cX7_takeNumber 126 = .ok (.getfield 22, 3)) ∧ (decode cX7_takeNumber 129 = .ok (.iconst 1, 1)) ∧ (decode cX7_takeNumber 130 = .ok (.invokevirtual 49, 3)) ∧ (decode cX7_takeNumber 133 = .ok (.pop, 1)) ∧ (decode cX7_takeNumber 134 = .ok (.iconst (-1), 1)) ∧ (decode cX7_takeNumber 135 = .ok (.ireturn, 1)) ∧ (decode cX7_takeNumber 136 = .ok (.iload_n 3, 1)) ∧ (decode cX7_takeNumber 137 = .ok (.ireturn, 1)) := by decide +kernel
theorem dX7_takeNumber_116 : decode cX7_takeNumber 116 = .ok (.iload_n 1, 1) := gdX7_takeNumber_116.1
theorem dX7_takeNumber_117 : decode cX7_takeNumber 117 = .ok (.iload_n 2, 1) := gdX7_takeNumber_116.2.1
theorem dX7_takeNumber_118 : decode cX7_takeNumber 118 = .ok (.invokestatic 53, 3) := gdX7_takeNumber_116.2.2.1
theorem dX7_takeNumber_121 : decode cX7_takeNumber 121 = .ok (.ifCond .ne 15, 3) := gdX7_takeNumber_116.2.2.2.1
theorem dX7_takeNumber_124 : decode cX7_takeNumber 124 = .ok (.aload_n 0, 1) := gdX7_takeNumber_116.2.2.2.2.1
theorem dX7_takeNumber_125 : decode cX7_takeNumber 125 = .ok (.aload_n 0, 1) := gdX7_takeNumber_116.2.2.2.2.2.1
theorem dX7_takeNumber_126 : decode cX7_takeNumber 126 = .ok (.getfield 22, 3) := gdX7_takeNumber_116.2.2.2.2.2.2.1
theorem dX7_takeNumber_129 : decode cX7_takeNumber 129 = .ok (.iconst 1, 1) := gdX7_takeNumber_116.2.2.2.2.2.2.2.1
theorem dX7_takeNumber_130 : decode cX7_takeNumber 130 = .ok (.invokevirtual 49, 3) := gdX7_takeNumber_116.2.2.2.2.2.2.2.2.1
theorem dX7_takeNumber_133 : decode cX7_takeNumber 133 = .ok (.pop, 1) := gdX7_takeNumber_116.2.2.2.2.2.2.2.2.2.1
theorem dX7_takeNumber_134 : decode cX7_takeNumber 134 = .ok (.iconst (-1), 1) := gdX7_takeNumber_116.2.2.2.2.2.2.2.2.2.2.1
theorem dX7_takeNumber_135 : decode cX7_takeNumber 135 = .ok (.ireturn, 1) := gdX7_takeNumber_116.2.2.2.2.2.2.2.2.2.2.2.1
theorem dX7_takeNumber_136 : decode cX7_takeNumber 136 = .ok (.iload_n 3, 1) := gdX7_takeNumber_116.2.2.2.2.2.2.2.2.2.2.2.2.1
theorem dX7_takeNumber_137 : decode cX7_takeNumber 137 = .ok (.ireturn, 1) := gdX7_takeNumber_116.2.2.2.2.2.2.2.2.2.2.2.2.2
theorem gdX8_init_0 : (decode cX8_init 0 = .ok (.aload_n 0, 1)) ∧ (decode cX8_init 1 = .ok (.invokespecial 3, 3)) ∧ (decode cX8_init 4 = .ok (.aload_n 0, 1)) ∧ (decode cX8_init 5 = .ok (.bipush 10, 2)) ∧ (decode cX8_init 7 = .ok (.newarray .long, 2)) ∧ (decode cX8_init 9 = .ok (.putfield 9, 3)) ∧ (decode cX8_init 12 = .ok (.aload_n 0, 1)) ∧ (decode cX8_init 13 = .ok (.bipush 12, 2)) ∧ (decode cX8_init 15 = .ok (.newarray .int, 2)) ∧ (decode cX8_init 17 = .ok (.putfield 15, 3)) ∧ (decode cX8_init 20 = .ok (.aload_n 0, 1)) ∧ (decode cX8_init 21 = .ok (.bipush 12, 2)) ∧ (decode cX8_init 23 = .ok (.newarray .int, 2)) ∧ (decode cX8_init 25 = .ok (.putfield 19, 3)) ∧ (decode cX8_init 28 = .ok (.aload_n 0, 1)) ∧ (decode cX8_init 29 = .ok (.bipush 12, 2)) := by decide +kernel
theorem dX8_init_0 : decode cX8_init 0 = .ok (.aload_n 0, 1) := gdX8_init_0.1
theorem dX8_init_1 : decode cX8_init 1 = .ok (.invokespecial 3, 3) := gdX8_init_0.2.1
theorem dX8_init_4 : decode cX8_init 4 = .ok (.aload_n 0, 1) := gdX8_init_0.2.2.1
theorem dX8_init_5 : decode cX8_init 5 = .ok (.bipush 10, 2) := gdX8_init_0.2.2.2.1
theorem dX8_init_7 : decode cX8_init 7 = .ok (.newarray .long, 2) := gdX8_init_0.2.2.2.2.1
theorem dX8_init_9 : decode cX8_init 9 = .ok (.putfield 9, 3) := gdX8_init_0.2.2.2.2.2.1
theorem dX8_init_12 : decode cX8_init 12 = .ok (.aload_n 0, 1) := gdX8_init_0.2.2.2.2.2.2.1
theorem dX8_init_13 : decode cX8_init 13 = .ok (.bipush 12, 2) := gdX8_init_0.2.2.2.2.2.2.2.1
theorem dX8_init_15 : decode cX8_init 15 = .ok (.newarray .int, 2) := gdX8_init_0.2.2.2.2.2.2.2.2.1
theorem dX8_init_17 : decode cX8_init 17 = .ok (.putfield 15, 3) := gdX8_init_0.2.2.2.2.2.2.2.2.2.1
theorem dX8_init_20 : decode cX8_init 20 = .ok (.aload_n 0, 1) := gdX8_init_0.2.2.2.2.2.2.2.2.2.2.1
theorem dX8_init_21 : decode cX8_init 21 = .ok (.bipush 12, 2) := gdX8_init_0.2.2.2.2.2.2.2.2.2.2.2.1
theorem dX8_init_23 : decode cX8_init 23 = .ok (.newarray .int, 2) := gdX8_init_0.2.2.2.2.2.2.2.2.2.2.2.2.1
theorem dX8_init_25 : decode cX8_init 25 = .ok (.putfield 19, 3) := gdX8_init_0.2.2.2.2.2.2.2.2.2.2.2.2.2.1
theorem dX8_init_28 : decode cX8_init 28 = .ok (.aload_n 0, 1) := gdX8_init_0.2.2.2.2.2.2.2.2.2.2.2.2.2.2.1
theorem dX8_init_29 : decode cX8_init 29 = .ok (.bipush 12, 2) := gdX8_init_0.2.2.2.2.2.2.2.2.2.2.2.2.2.2.2
theorem gdX8_init_31 : (decode cX8_init 31 = .ok (.newarray .int, 2)) ∧ (decode cX8_init 33 = .ok (.putfield 22, 3)) ∧ (decode cX8_init 36 = .ok (.aload_n 0, 1)) ∧ (decode cX8_init 37 = .ok (.bipush 12, 2)) ∧ (decode cX8_init 39 = .ok (.newarray .long, 2)) ∧ (decode cX8_init 41 = .ok (.putfield 25, 3)) ∧ (decode cX8_init 44 = .ok (.aload_n 0, 1)) ∧ (decode cX8_init 45 = .ok (.bipush 100, 2)) ∧ (decode cX8_init 47 = .ok (.newarray .int, 2)) ∧ (decode cX8_init 49 = .ok (.putfield 28, 3)) ∧ (decode cX8_init 52 = .ok (.aload_n 0, 1)) ∧ (decode cX8_init 53 = .ok (.iconst 0, 1)) ∧ (decode cX8_init 54 = .ok (.putfield 31, 3)) ∧ (decode cX8_init 57 = .ok (.aload_n 0, 1)) ∧ (decode cX8_init 58 = .ok (.iconst 0, 1)) ∧ (decode cX8_init 59 = .ok (.putfield 35, 3)) := by decide +kernel
theorem dX8_init_31 : decode cX8_init 31 = .ok (.newarray .int, 2) := gdX8_init_31.1
theorem dX8_init_33 : decode cX8_init 33 = .ok (.putfield 22, 3) := gdX8_init_31.2.1
theorem dX8_init_36 : decode cX8_init 36 = .ok (.aload_n 0, 1) := gdX8_init_31.2.2.1
theorem dX8_init_37 : decode cX8_init 37 = .ok (.bipush 12, 2) := gdX8_init_31.2.2.2.1
theorem dX8_init_39 : decode cX8_init 39 = .ok (.newarray .long, 2) := gdX8_init_31.2.2.2.2.1
theorem dX8_init_41 : decode cX8_init 41 = .ok (.putfield 25, 3) := gdX8_init_31.2.2.2.2.2.1
theorem dX8_init_44 : decode cX8_init 44 = .ok (.aload_n 0, 1) := gdX8_init_31.2.2.2.2.2.2.1
theorem dX8_init_45 : decode cX8_init 45 = .ok (.bipush 100, 2) := gdX8_init_31.2.2.2.2.2.2.2.1
theorem dX8_init_47 : decode cX8_init 47 = .ok (.newarray .int, 2) := gdX8_init_31.2.2.2.2.2.2.2.2.1
theorem dX8_init_49 : decode cX8_init 49 = .ok (.putfield 28, 3) := gdX8_init_31.2.2.2.2.2.2.2.2.2.1
theorem dX8_init_52 : decode cX8_init 52 = .ok (.aload_n 0, 1) := gdX8_init_31.2.2.2.2.2.2.2.2.2.2.1
theorem dX8_init_53 : decode cX8_init 53 = .ok (.iconst 0, 1) := gdX8_init_31.2.2.2.2.2.2.2.2.2.2.2.1
theorem dX8_init_54 : decode cX8_init 54 = .ok (.putfield 31, 3) := gdX8_init_31.2.2.2.2.2.2.2.2.2.2.2.2.1
theorem dX8_init_57 : decode cX8_init 57 = .ok (.aload_n 0, 1) := gdX8_init_31.2.2.2.2.2.2.2.2.2.2.2.2.2.1
theorem dX8_init_58 : decode cX8_init 58 = .ok (.iconst 0, 1) := gdX8_init_31.2.2.2.2.2.2.2.2.2.2.2.2.2.2.1
theorem dX8_init_59 : decode cX8_init 59 = .ok (.putfield 35, 3) := gdX8_init_31.2.2.2.2.2.2.2.2.2.2.2.2.2.2.2
theorem dX8_init_62 : decode cX8_init 62 = .ok (.return_, 1) := by decide +kernel
theorem gdX8_copyFrom_0 : (decode cX8_copyFrom 0 = .ok (.aload_n 1, 1)) ∧ (decode cX8_copyFrom 1 = .ok (.getfield 9, 3)) ∧ (decode cX8_copyFrom 4 = .ok (.iconst 0, 1)) ∧ (decode cX8_copyFrom 5 = .ok (.aload_n 0, 1)) ∧ (decode cX8_copyFrom 6 = .ok (.getfield 9, 3)) ∧ (decode cX8_copyFrom 9 = .ok (.iconst 0, 1)) ∧ (decode cX8_copyFrom 10 = .ok (.bipush 10, 2)) ∧ (decode cX8_copyFrom 12 = .ok (.invokestatic 38, 3)) ∧ (decode cX8_copyFrom 15 = .ok (.aload_n 1, 1)) ∧ (decode cX8_copyFrom 16 = .ok (.getfield 15, 3)) ∧ (decode cX8_copyFrom 19 = .ok (.iconst 0, 1)) ∧ (decode cX8_copyFrom 20 = .ok (.aload_n 0, 1)) ∧ (decode cX8_copyFrom 21 = .ok (.getfield 15, 3)) ∧ (decode cX8_copyFrom 24 = .ok (.iconst 0, 1)) ∧ (decode cX8_copyFrom 25 = .ok (.bipush 12, 2)) ∧ (decode cX8_copyFrom 27 = .ok (.invokestatic 38, 3)) := by decide +kernel
theorem dX8_copyFrom_0 : decode cX8_copyFrom 0 = .ok (.aload_n 1, 1) := gdX8_copyFrom_0.1
theorem dX8_copyFrom_1 : decode cX8_copyFrom 1 = .ok (.getfield 9, 3) := gdX8_copyFrom_0.2.1
theorem dX8_copyFrom_4 : decode cX8_copyFrom 4 = .ok (.iconst 0, 1) := gdX8_copyFrom_0.2.2.1
theorem dX8_copyFrom_5 : decode cX8_copyFrom 5 = .ok (.aload_n 0, 1) := gdX8_copyFrom_0.2.2.2.1
theorem dX8_copyFrom_6 : decode cX8_copyFrom 6 = .ok (.getfield 9, 3) := gdX8_copyFrom_0.2.2.2.2.1
theorem dX8_copyFrom_9 : decode cX8_copyFrom 9 = .ok (.iconst 0, 1) := gdX8_copyFrom_0.2.2.2.2.2.1
theorem dX8_copyFrom_10 : decode cX8_copyFrom 10 = .ok (.bipush 10, 2) := gdX8_copyFrom_0.2.2.2.2.2.2.1
theorem dX8_copyFrom_12 : decode cX8_copyFrom 12 = .ok (.invokestatic 38, 3) := gdX8_copyFrom_0.2.2.2.2.2.2.2.1
theorem dX8_copyFrom_15 : decode cX8_copyFrom 15 = .ok (.aload_n 1, 1) := gdX8_copyFrom_0.2.2.2.2.2.2.2.2.1
theorem dX8_copyFrom_16 : decode cX8_copyFrom 16 = .ok (.getfield 15, 3) := gdX8_copyFrom_0.2.2.2.2.2.2.2.2.2.1
theorem dX8_copyFrom_19 : decode cX8_copyFrom 19 = .ok (.iconst 0, 1) := gdX8_copyFrom_0.2.2.2.2.2.2.2.2.2.2.1
theorem dX8_copyFrom_20 : decode cX8_copyFrom 20 = .ok (.aload_n 0, 1) := gdX8_copyFrom_0.2.2.2.2.2.2.2.2.2.2.2.1
theorem dX8_copyFrom_21 : decode cX8_copyFrom 21 = .ok (.getfield 15, 3) := gdX8_copyFrom_0.2.2.2.2.2.2.2.2.2.2.2.2.1
theorem dX8_copyFrom_24 : decode cX8_copyFrom 24 = .ok (.iconst 0, 1) := gdX8_copyFrom_0.2.2.2.2.2.2.2.2.2.2.2.2.2.1
theorem dX8_copyFrom_25 : decode cX8_copyFrom 25 = .ok (.bipush 12, 2) := gdX8_copyFrom_0.2.2.2.2.2.2.2.2.2.2.2.2.2.2.1
theorem dX8_copyFrom_27 : decode cX8_copyFrom 27 = .ok (.invokestatic 38, 3) := gdX8_copyFrom_0.2.2.2.2.2.2.2.2.2.2.2.2.2.2.2
theorem gdX8_copyFrom_30 : (decode cX8_copyFrom 30 = .ok (.aload_n 1, 1)) ∧ (decode cX8_copyFrom 31 = .ok (.getfield 19, 3)) ∧ (decode cX8_copyFrom 34 = .ok (.iconst 0, 1)) ∧ (decode cX8_copyFrom 35 = .ok (.aload_n 0, 1)) ∧ (decode cX8_copyFrom 36 = .ok (.getfield 19, 3)) ∧ (decode cX8_copyFrom 39 = .ok (.iconst 0, 1)) ∧ (decode cX8_copyFrom 40 = .ok (.bipush 12, 2)) ∧ (decode cX8_copyFrom 42 = .ok (.invokestatic 38, 3)) ∧ (decode cX8_copyFrom 45 = .ok (.aload_n 1, 1)) ∧ (decode cX8_copyFrom 46 = .ok (.getfield 22, 3)) ∧ (decode cX8_copyFrom 49 = .ok (.iconst 0, 1)) ∧ (decode cX8_copyFrom 50 = .ok (.aload_n 0, 1)) ∧ (decode cX8_copyFrom 51 = .ok (.getfield 22, 3)) ∧ (decode cX8_copyFrom 54 = .ok (.iconst 0, 1)) ∧ (decode cX8_copyFrom 55 = .ok (.bipush 12, 2)) ∧ (decode cX8_copyFrom 57 = .ok (.invokestatic 38, 3)) := by decide +kernel
theorem dX8_copyFrom_30 : decode cX8_copyFrom 30 = .ok (.aload_n 1, 1) := gdX8_copyFrom_30.1
theorem dX8_copyFrom_31 : decode cX8_copyFrom 31 = .ok (.getfield 19, 3) := gdX8_copyFrom_30.2.1
theorem dX8_copyFrom_34 : decode cX8_copyFrom 34 = .ok (.iconst 0, 1) := gdX8_copyFrom_30.2.2.1
theorem dX8_copyFrom_35 : decode cX8_copyFrom 35 = .ok (.aload_n 0, 1) := gdX8_copyFrom_30.2.2.2.1
theorem dX8_copyFrom_36 : decode cX8_copyFrom 36 = .ok (.getfield 19, 3) := gdX8_copyFrom_30.2.2.2.2.1
theorem dX8_copyFrom_39 : decode cX8_copyFrom 39 = .ok (.iconst 0, 1) := gdX8_copyFrom_30.2.2.2.2.2.1
theorem dX8_copyFrom_40 : decode cX8_copyFrom 40 = .ok (.bipush 12, 2) := gdX8_copyFrom_30.2.2.2.2.2.2.1
theorem dX8_copyFrom_42 : decode cX8_copyFrom 42 = .ok (.invokestatic 38, 3) := gdX8_copyFrom_30.2.2.2.2.2.2.2.1
theorem dX8_copyFrom_45 : decode cX8_copyFrom 45 = .ok (.aload_n 1, 1) := gdX8_copyFrom_30.2.2.2.2.2.2.2.2.1
theorem dX8_copyFrom_46 : decode cX8_copyFrom 46 = .ok (.getfield 22, 3) := gdX8_copyFrom_30.2.2.2.2.2.2.2.2.2.1
theorem dX8_copyFrom_49 : decode cX8_copyFrom 49 = .ok (.iconst 0, 1) := gdX8_copyFrom_30.2.2.2.2.2.2.2.2.2.2.1
theorem dX8_copyFrom_50 : decode cX8_copyFrom 50 = .ok (.aload_n 0, 1) := gdX8_copyFrom_30.2.2.2.2.2.2.2.2.2.2.2.1
theorem dX8_copyFrom_51 : decode cX8_copyFrom 51 = .ok (.getfield 22, 3) := gdX8_copyFrom_30.2.2.2.2.2.2.2.2.2.2.2.2.1
theorem dX8_copyFrom_54 : decode cX8_copyFrom 54 = .ok (.iconst 0, 1) := gdX8_copyFrom_30.2.2.2.2.2.2.2.2.2.2.2.2.2.1
theorem dX8_copyFrom_55 : decode cX8_copyFrom 55 = .ok (.bipush 12, 2) := gdX8_copyFrom_30.2.2.2.2.2.2.2.2.2.2.2.2.2.2.1
theorem dX8_copyFrom_57 : decode cX8_copyFrom 57 = .ok (.invokestatic 38, 3) := gdX8_copyFrom_30.2.2.2.2.2.2.2.2.2.2.2.2.2.2.2
theorem gdX8_copyFrom_60 : (decode cX8_copyFrom 60 = .ok (.aload_n 1, 1)) ∧ (decode cX8_copyFrom 61 = .ok (.getfield 25, 3)) ∧ (decode cX8_copyFrom 64 = .ok (.iconst 0, 1)) ∧ (decode cX8_copyFrom 65 = .ok (.aload_n 0, 1)) ∧ (decode cX8_copyFrom 66 = .ok (.getfield 25, 3)) ∧ (decode cX8_copyFrom 69 = .ok (.iconst 0, 1)) ∧ (decode cX8_copyFrom 70 = .ok (.bipush 12, 2)) ∧ (decode cX8_copyFrom 72 = .ok (.invokestatic 38, 3)) ∧ (decode cX8_copyFrom 75 = .ok (.aload_n 1, 1)) ∧ (decode cX8_copyFrom 76 = .ok (.getfield 28, 3)) ∧ (decode cX8_copyFrom 79 = .ok (.iconst 0, 1)) ∧ (decode cX8_copyFrom 80 = .ok (.aload_n 0, 1)) ∧ (decode cX8_copyFrom 81 = .ok (.getfield 28, 3)) ∧ (decode cX8_copyFrom 84 = .ok (.iconst 0, 1)) ∧ (decode cX8_copyFrom 85 = .ok (.bipush 100, 2)) ∧ (decode cX8_copyFrom 87 = .ok (.invokestatic 38, 3)) := by decide +kernel
theorem dX8_copyFrom_60 : decode cX8_copyFrom 60 = .ok (.aload_n 1, 1) := gdX8_copyFrom_60.1
theorem dX8_copyFrom_61 : decode cX8_copyFrom 61 = .ok (.getfield 25, 3) := gdX8_copyFrom_60.2.1
theorem dX8_copyFrom_64 : decode cX8_copyFrom 64 = .ok (.iconst 0, 1) := gdX8_copyFrom_60.2.2.1
theorem dX8_copyFrom_65 : decode cX8_copyFrom 65 = .ok (.aload_n 0, 1) := gdX8_copyFrom_60.2.2.2.1
theorem dX8_copyFrom_66 : decode cX8_copyFrom 66 = .ok (.getfield 25, 3) := gdX8_copyFrom_60.2.2.2.2.1
theorem dX8_copyFrom_69 : decode cX8_copyFrom 69 = .ok (.iconst 0, 1) := gdX8_copyFrom_60.2.2.2.2.2.1
theorem dX8_copyFrom_70 : decode cX8_copyFrom 70 = .ok (.bipush 12, 2) := gdX8_copyFrom_60.2.2.2.2.2.2.1
theorem dX8_copyFrom_72 : decode cX8_copyFrom 72 = .ok (.invokestatic 38, 3) := gdX8_copyFrom_60.2.2.2.2.2.2.2.1
theorem dX8_copyFrom_75 : decode cX8_copyFrom 75 = .ok (.aload_n 1, 1) := gdX8_copyFrom_60.2.2.2.2.2.2.2.2.1
theorem dX8_copyFrom_76 : decode cX8_copyFrom 76 = .ok (.getfield 28, 3) := gdX8_copyFrom_60.2.2.2.2.2.2.2.2.2.1
theorem dX8_copyFrom_79 : decode cX8_copyFrom 79 = .ok (.iconst 0, 1) := gdX8_copyFrom_60.2.2.2.2.2.2.2.2.2.2.1
theorem dX8_copyFrom_80 : decode cX8_copyFrom 80 = .ok (.aload_n 0, 1) := gdX8_copyFrom_60.2.2.2.2.2.2.2.2.2.2.2.1
theorem dX8_copyFrom_81 : decode cX8_copyFrom 81 = .ok (.getfield 28, 3) := gdX8_copyFrom_60.2.2.2.2.2.2.2.2.2.2.2.2.1
theorem dX8_copyFrom_84 : decode cX8_copyFrom 84 = .ok (.iconst 0, 1) := gdX8_copyFrom_60.2.2.2.2.2.2.2.2.2.2.2.2.2.1
theorem dX8_copyFrom_85 : decode cX8_copyFrom 85 = .ok (.bipush 100, 2) := gdX8_copyFrom_60.2.2.2.2.2.2.2.2.2.2.2.2.2.2.1
theorem dX8_copyFrom_87 : decode cX8_copyFrom 87 = .ok (.invokestatic 38, 3) := gdX8_copyFrom_60.2.2.2.2.2.2.2.2.2.2.2.2.2.2.2
theorem gdX8_copyFrom_90 : (decode cX8_copyFrom 90 = .ok (.aload_n 0, 1)) ∧ (decode cX8_copyFrom 91 = .ok (.aload_n 1, 1)) ∧ (decode cX8_copyFrom 92 = .ok (.getfield 31, 3)) ∧ (decode cX8_copyFrom 95 = .ok (.putfield 31, 3)) ∧ (decode cX8_copyFrom 98 = .ok (.aload_n 0, 1)) ∧ (decode cX8_copyFrom 99 = .ok (.aload_n 1, 1)) ∧ (decode cX8_copyFrom 100 = .ok (.getfield 35, 3)) ∧ (decode cX8_copyFrom 103 = .ok (.putfield 35, 3)) ∧ (decode cX8_copyFrom 106 = .ok (.return_, 1)) := by decide +kernel
theorem dX8_copyFrom_90 : decode cX8_copyFrom 90 = .ok (.aload_n 0, 1) := gdX8_copyFrom_90.1
theorem dX8_copyFrom_91 : decode cX8_copyFrom 91 = .ok (.aload_n 1, 1) := gdX8_copyFrom_90.2.1
theorem dX8_copyFrom_92 : decode cX8_copyFrom 92 = .ok (.getfield 31, 3) := gdX8_copyFrom_90.2.2.1
theorem dX8_copyFrom_95 : decode cX8_copyFrom 95 = .ok (.putfield 31, 3) := gdX8_copyFrom_90.2.2.2.1
theorem dX8_copyFrom_98 : decode cX8_copyFrom 98 = .ok (.aload_n 0, 1) := gdX8_copyFrom_90.2.2.2.2.1
theorem dX8_copyFrom_99 : decode cX8_copyFrom 99 = .ok (.aload_n 1, 1) := gdX8_copyFrom_90.2.2.2.2.2.1
theorem dX8_copyFrom_100 : decode cX8_copyFrom 100 = .ok (.getfield 35, 3) := gdX8_copyFrom_90.2.2.2.2.2.2.1
theorem dX8_copyFrom_103 : decode cX8_copyFrom 103 = .ok (.putfield 35, 3) := gdX8_copyFrom_90.2.2.2.2.2.2.2.1
theorem dX8_copyFrom_106 : decode cX8_copyFrom 106 = .ok (.return_, 1) := gdX8_copyFrom_90.2.2.2.2.2.2.2.2
theorem gdX8_addStair_0 : (decode cX8_addStair 0 = .ok (.aload_n 0, 1)) ∧ (decode cX8_addStair 1 = .ok (.getfield 35, 3)) ∧ (decode cX8_addStair 4 = .ok (.bipush 12, 2)) ∧ (decode cX8_addStair 6 = .ok (.if_icmp .ge 54, 3)) ∧ (decode cX8_addStair 9 = .ok (.aload_n 0, 1)) ∧ (decode cX8_addStair 10 = .ok (.getfield 15, 3)) ∧ (decode cX8_addStair 13 = .ok (.aload_n 0, 1)) ∧ (decode cX8_addStair 14 = .ok (.getfield 35, 3)) ∧ (decode cX8_addStair 17 = .ok (.iload_n 1, 1)) ∧ (decode cX8_addStair 18 = .ok (.iastore, 1)) ∧ (decode cX8_addStair 19 = .ok (.aload_n 0, 1)) ∧ (decode cX8_addStair 20 = .ok (.getfield 19, 3)) ∧ (decode cX8_addStair 23 = .ok (.aload_n 0, 1)) ∧ (decode cX8_addStair 24 = .ok (.getfield 35, 3)) ∧ (decode cX8_addStair 27 = .ok (.iload_n 2, 1)) ∧ (decode cX8_addStair 28 = .ok (.iastore, 1)) := by decide +kernel
theorem dX8_addStair_0 : decode cX8_addStair 0 = .ok (.aload_n 0, 1) := gdX8_addStair_0.1
theorem dX8_addStair_1 : decode cX8_addStair 1 = .ok (.getfield 35, 3) := gdX8_addStair_0.2.1
theorem dX8_addStair_4 : decode cX8_addStair 4 = .ok (.bipush 12, 2) := gdX8_addStair_0.2.2.1
theorem dX8_addStair_6 : decode cX8_addStair 6 = .ok (.if_icmp .ge 54, 3) := gdX8_addStair_0.2.2.2.1
theorem dX8_addStair_9 : decode cX8_addStair 9 = .ok (.aload_n 0, 1) := gdX8_addStair_0.2.2.2.2.1
theorem dX8_addStair_10 : decode cX8_addStair 10 = .ok (.getfield 15, 3) := gdX8_addStair_0.2.2.2.2.2.1
theorem dX8_addStair_13 : decode cX8_addStair 13 = .ok (.aload_n 0, 1) := gdX8_addStair_0.2.2.2.2.2.2.1
theorem dX8_addStair_14 : decode cX8_addStair 14 = .ok (.getfield 35, 3) := gdX8_addStair_0.2.2.2.2.2.2.2.1
theorem dX8_addStair_17 : decode cX8_addStair 17 = .ok (.iload_n 1, 1) := gdX8_addStair_0.2.2.2.2.2.2.2.2.1
theorem dX8_addStair_18 : decode cX8_addStair 18 = .ok (.iastore, 1) := gdX8_addStair_0.2.2.2.2.2.2.2.2.2.1
theorem dX8_addStair_19 : decode cX8_addStair 19 = .ok (.aload_n 0, 1) := gdX8_addStair_0.2.2.2.2.2.2.2.2.2.2.1
theorem dX8_addStair_20 : decode cX8_addStair 20 = .ok (.getfield 19, 3) := gdX8_addStair_0.2.2.2.2.2.2.2.2.2.2.2.1
theorem dX8_addStair_23 : decode cX8_addStair 23 = .ok (.aload_n 0, 1) := gdX8_addStair_0.2.2.2.2.2.2.2.2.2.2.2.2.1
theorem dX8_addStair_24 : decode cX8_addStair 24 = .ok (.getfield 35, 3) := gdX8_addStair_0.2.2.2.2.2.2.2.2.2.2.2.2.2.1
theorem dX8_addStair_27 : decode cX8_addStair 27 = .ok (.iload_n 2, 1) := gdX8_addStair_0.2.2.2.2.2.2.2.2.2.2.2.2.2.2.1
theorem dX8_addStair_28 : decode cX8_addStair 28 = .ok (.iastore, 1) := gdX8_addStair_0.2.2.2.2.2.2.2.2.2.2.2.2.2.2.2
theorem gdX8_addStair_29 : (decode cX8_addStair 29 = .ok (.aload_n 0, 1)) ∧ (decode cX8_addStair 30 = .ok (.getfield 22, 3)) ∧ (decode cX8_addStair 33 = .ok (.aload_n 0, 1)) ∧ (decode cX8_addStair 34 = .ok (.getfield 35, 3)) ∧ (decode cX8_addStair 37 = .ok (.iload_n 3, 1)) ∧ (decode cX8_addStair 38 = .ok (.iastore, 1)) ∧ (decode cX8_addStair 39 = .ok (.aload_n 0, 1)) ∧ (decode cX8_addStair 40 = .ok (.getfield 25, 3)) ∧ (decode cX8_addStair 43 = .ok (.aload_n 0, 1)) ∧ (decode cX8_addStair 44 = .ok (.getfield 35, 3)) ∧ (decode cX8_addStair 47 = .ok (.lload 4, 2)) ∧ (decode cX8_addStair 49 = .ok (.lastore, 1)) ∧ (decode cX8_addStair 50 = .ok (.aload_n 0, 1)) ∧ (decode cX8_addStair 51 = .ok (.dup, 1)) ∧ (decode cX8_addStair 52 = .ok (.getfield 35, 3)) ∧ (decode cX8_addStair 55 = .ok (.iconst 1, 1)) := by decide +kernel
theorem dX8_addStair_29 : decode cX8_addStair 29 = .ok (.aload_n 0, 1) := gdX8_addStair_29.1
theorem dX8_addStair_30 : decode cX8_addStair 30 = .ok (.getfield 22, 3) := gdX8_addStair_29.2.1
theorem dX8_addStair_33 : decode cX8_addStair 33 = .ok (.aload_n 0, 1) := gdX8_addStair_29.2.2.1
theorem dX8_addStair_34 : decode cX8_addStair 34 = .ok (.getfield 35, 3) := gdX8_addStair_29.2.2.2.1
theorem dX8_addStair_37 : decode cX8_addStair 37 = .ok (.iload_n 3, 1) := gdX8_addStair_29.2.2.2.2.1
theorem dX8_addStair_38 : decode cX8_addStair 38 = .ok (.iastore, 1) := gdX8_addStair_29.2.2.2.2.2.1
theorem dX8_addStair_39 : decode cX8_addStair 39 = .ok (.aload_n 0, 1) := gdX8_addStair_29.2.2.2.2.2.2.1
theorem dX8_addStair_40 : decode cX8_addStair 40 = .ok (.getfield 25, 3) := gdX8_addStair_29.2.2.2.2.2.2.2.1
theorem dX8_addStair_43 : decode cX8_addStair 43 = .ok (.aload_n 0, 1) := gdX8_addStair_29.2.2.2.2.2.2.2.2.1
theorem dX8_addStair_44 : decode cX8_addStair 44 = .ok (.getfield 35, 3) := gdX8_addStair_29.2.2.2.2.2.2.2.2.2.1
theorem dX8_addStair_47 : decode cX8_addStair 47 = .ok (.lload 4, 2) := gdX8_addStair_29.2.2.2.2.2.2.2.2.2.2.1
theorem dX8_addStair_49 : decode cX8_addStair 49 = .ok (.lastore, 1) := gdX8_addStair_29.2.2.2.2.2.2.2.2.2.2.2.1
theorem dX8_addStair_50 : decode cX8_addStair 50 = .ok (.aload_n 0, 1) := gdX8_addStair_29.2.2.2.2.2.2.2.2.2.2.2.2.1
theorem dX8_addStair_51 : decode cX8_addStair 51 = .ok (.dup, 1) := gdX8_addStair_29.2.2.2.2.2.2.2.2.2.2.2.2.2.1
theorem dX8_addStair_52 : decode cX8_addStair 52 = .ok (.getfield 35, 3) := gdX8_addStair_29.2.2.2.2.2.2.2.2.2.2.2.2.2.2.1
theorem dX8_addStair_55 : decode cX8_addStair 55 = .ok (.iconst 1, 1) := gdX8_addStair_29.2.2.2.2.2.2.2.2.2.2.2.2.2.2.2
theorem gdX8_addStair_56 : (decode cX8_addStair 56 = .ok (.iadd, 1)) ∧ (decode cX8_addStair 57 = .ok (.putfield 35, 3)) ∧ (decode cX8_addStair 60 = .ok (.return_, 1)) := by decide +kernel
theorem dX8_addStair_56 : decode cX8_addStair 56 = .ok (.iadd, 1) := gdX8_addStair_56.1
theorem dX8_addStair_57 : decode cX8_addStair 57 = .ok (.putfield 35, 3) := gdX8_addStair_56.2.1
theorem dX8_addStair_60 : decode cX8_addStair 60 = .ok (.return_, 1) := gdX8_addStair_56.2.2
theorem gdX8_measureWays_0 : (decode cX8_measureWays 0 = .ok (.iconst 0, 1)) ∧ (decode cX8_measureWays 1 = .ok (.istore_n 1, 1)) ∧ (decode cX8_measureWays 2 = .ok (.iload_n 1, 1)) ∧ (decode cX8_measureWays 3 = .ok (.bipush 100, 2)) ∧ (decode cX8_measureWays 5 = .ok (.if_icmp .ge 31, 3)) ∧ (decode cX8_measureWays 8 = .ok (.aload_n 0, 1)) ∧ (decode cX8_measureWays 9 = .ok (.getfield 28, 3)) ∧ (decode cX8_measureWays 12 = .ok (.iload_n 1, 1)) ∧ (decode cX8_measureWays 13 = .ok (.iload_n 1, 1)) ∧ (decode cX8_measureWays 14 = .ok (.bipush 10, 2)) ∧ (decode cX8_measureWays 16 = .ok (.idiv, 1)) ∧ (decode cX8_measureWays 17 = .ok (.iload_n 1, 1)) ∧ (decode cX8_measureWays 18 = .ok (.bipush 10, 2)) ∧ (decode cX8_measureWays 20 = .ok (.irem, 1)) ∧ (decode cX8_measureWays 21 = .ok (.if_icmp .ne 7, 3)) ∧ (decode cX8_measureWays 24 = .ok (.iconst 0, 1)) := by decide +kernel
theorem dX8_measureWays_0 : decode cX8_measureWays 0 = .ok (.iconst 0, 1) := gdX8_measureWays_0.1
theorem dX8_measureWays_1 : decode cX8_measureWays 1 = .ok (.istore_n 1, 1) := gdX8_measureWays_0.2.1
theorem dX8_measureWays_2 : decode cX8_measureWays 2 = .ok (.iload_n 1, 1) := gdX8_measureWays_0.2.2.1
theorem dX8_measureWays_3 : decode cX8_measureWays 3 = .ok (.bipush 100, 2) := gdX8_measureWays_0.2.2.2.1
theorem dX8_measureWays_5 : decode cX8_measureWays 5 = .ok (.if_icmp .ge 31, 3) := gdX8_measureWays_0.2.2.2.2.1
theorem dX8_measureWays_8 : decode cX8_measureWays 8 = .ok (.aload_n 0, 1) := gdX8_measureWays_0.2.2.2.2.2.1
theorem dX8_measureWays_9 : decode cX8_measureWays 9 = .ok (.getfield 28, 3) := gdX8_measureWays_0.2.2.2.2.2.2.1
theorem dX8_measureWays_12 : decode cX8_measureWays 12 = .ok (.iload_n 1, 1) := gdX8_measureWays_0.2.2.2.2.2.2.2.1
theorem dX8_measureWays_13 : decode cX8_measureWays 13 = .ok (.iload_n 1, 1) := gdX8_measureWays_0.2.2.2.2.2.2.2.2.1
theorem dX8_measureWays_14 : decode cX8_measureWays 14 = .ok (.bipush 10, 2) := gdX8_measureWays_0.2.2.2.2.2.2.2.2.2.1
theorem dX8_measureWays_16 : decode cX8_measureWays 16 = .ok (.idiv, 1) := gdX8_measureWays_0.2.2.2.2.2.2.2.2.2.2.1
theorem dX8_measureWays_17 : decode cX8_measureWays 17 = .ok (.iload_n 1, 1) := gdX8_measureWays_0.2.2.2.2.2.2.2.2.2.2.2.1
theorem dX8_measureWays_18 : decode cX8_measureWays 18 = .ok (.bipush 10, 2) := gdX8_measureWays_0.2.2.2.2.2.2.2.2.2.2.2.2.1
theorem dX8_measureWays_20 : decode cX8_measureWays 20 = .ok (.irem, 1) := gdX8_measureWays_0.2.2.2.2.2.2.2.2.2.2.2.2.2.1
theorem dX8_measureWays_21 : decode cX8_measureWays 21 = .ok (.if_icmp .ne 7, 3) := gdX8_measureWays_0.2.2.2.2.2.2.2.2.2.2.2.2.2.2.1
theorem dX8_measureWays_24 : decode cX8_measureWays 24 = .ok (.iconst 0, 1) := gdX8_measureWays_0.2.2.2.2.2.2.2.2.2.2.2.2.2.2.2
theorem gdX8_measureWays_25 : (decode cX8_measureWays 25 = .ok (.goto 4, 3)) ∧ (decode cX8_measureWays 28 = .ok (.iconst (-1), 1)) ∧ (decode cX8_measureWays 29 = .ok (.iastore, 1)) ∧ (decode cX8_measureWays 30 = .ok (.iinc 1 1, 3)) ∧ (decode cX8_measureWays 33 = .ok (.goto (-31), 3)) ∧ (decode cX8_measureWays 36 = .ok (.iconst 0, 1)) ∧ (decode cX8_measureWays 37 = .ok (.istore_n 1, 1)) ∧ (decode cX8_measureWays 38 = .ok (.iload_n 1, 1)) ∧ (decode cX8_measureWays 39 = .ok (.aload_n 0, 1)) ∧ (decode cX8_measureWays 40 = .ok (.getfield 35, 3)) ∧ (decode cX8_measureWays 43 = .ok (.if_icmp .ge 53, 3)) ∧ (decode cX8_measureWays 46 = .ok (.aload_n 0, 1)) ∧ (decode cX8_measureWays 47 = .ok (.aload_n 0, 1)) ∧ (decode cX8_measureWays 48 = .ok (.getfield 15, 3)) ∧ (decode cX8_measureWays 51 = .ok (.iload_n 1, 1)) ∧ (decode cX8_measureWays 52 = .ok (.iaload, 1)) := by decide +kernel
theorem dX8_measureWays_25 : decode cX8_measureWays 25 = .ok (.goto 4, 3) := gdX8_measureWays_25.1
theorem dX8_measureWays_28 : decode cX8_measureWays 28 = .ok (.iconst (-1), 1) := gdX8_measureWays_25.2.1
theorem dX8_measureWays_29 : decode cX8_measureWays 29 = .ok (.iastore, 1) := gdX8_measureWays_25.2.2.1
theorem dX8_measureWays_30 : decode cX8_measureWays 30 = .ok (.iinc 1 1, 3) := gdX8_measureWays_25.2.2.2.1
theorem dX8_measureWays_33 : decode cX8_measureWays 33 = .ok (.goto (-31), 3) := gdX8_measureWays_25.2.2.2.2.1
theorem dX8_measureWays_36 : decode cX8_measureWays 36 = .ok (.iconst 0, 1) := gdX8_measureWays_25.2.2.2.2.2.1
theorem dX8_measureWays_37 : decode cX8_measureWays 37 = .ok (.istore_n 1, 1) := gdX8_measureWays_25.2.2.2.2.2.2.1
theorem dX8_measureWays_38 : decode cX8_measureWays 38 = .ok (.iload_n 1, 1) := gdX8_measureWays_25.2.2.2.2.2.2.2.1
theorem dX8_measureWays_39 : decode cX8_measureWays 39 = .ok (.aload_n 0, 1) := gdX8_measureWays_25.2.2.2.2.2.2.2.2.1
theorem dX8_measureWays_40 : decode cX8_measureWays 40 = .ok (.getfield 35, 3) := gdX8_measureWays_25.2.2.2.2.2.2.2.2.2.1
theorem dX8_measureWays_43 : decode cX8_measureWays 43 = .ok (.if_icmp .ge 53, 3) := gdX8_measureWays_25.2.2.2.2.2.2.2.2.2.2.1
theorem dX8_measureWays_46 : decode cX8_measureWays 46 = .ok (.aload_n 0, 1) := gdX8_measureWays_25.2.2.2.2.2.2.2.2.2.2.2.1
theorem dX8_measureWays_47 : decode cX8_measureWays 47 = .ok (.aload_n 0, 1) := gdX8_measureWays_25.2.2.2.2.2.2.2.2.2.2.2.2.1
theorem dX8_measureWays_48 : decode cX8_measureWays 48 = .ok (.getfield 15, 3) := gdX8_measureWays_25.2.2.2.2.2.2.2.2.2.2.2.2.2.1
theorem dX8_measureWays_51 : decode cX8_measureWays 51 = .ok (.iload_n 1, 1) := gdX8_measureWays_25.2.2.2.2.2.2.2.2.2.2.2.2.2.2.1
theorem dX8_measureWays_52 : decode cX8_measureWays 52 = .ok (.iaload, 1) := gdX8_measureWays_25.2.2.2.2.2.2.2.2.2.2.2.2.2.2.2
theorem gdX8_measureWays_53 : (decode cX8_measureWays 53 = .ok (.aload_n 0, 1)) ∧ (decode cX8_measureWays 54 = .ok (.getfield 19, 3)) ∧ (decode cX8_measureWays 57 = .ok (.iload_n 1, 1)) ∧ (decode cX8_measureWays 58 = .ok (.iaload, 1)) ∧ (decode cX8_measureWays 59 = .ok (.aload_n 0, 1)) ∧ (decode cX8_measureWays 60 = .ok (.getfield 22, 3)) ∧ (decode cX8_measureWays 63 = .ok (.iload_n 1, 1)) ∧ (decode cX8_measureWays 64 = .ok (.iaload, 1)) ∧ (decode cX8_measureWays 65 = .ok (.invokevirtual 44, 3)) ∧ (decode cX8_measureWays 68 = .ok (.aload_n 0, 1)) ∧ (decode cX8_measureWays 69 = .ok (.aload_n 0, 1)) ∧ (decode cX8_measureWays 70 = .ok (.getfield 19, 3)) ∧ (decode cX8_measureWays 73 = .ok (.iload_n 1, 1)) ∧ (decode cX8_measureWays 74 = .ok (.iaload, 1)) ∧ (decode cX8_measureWays 75 = .ok (.aload_n 0, 1)) ∧ (decode cX8_measureWays 76 = .ok (.getfield 15, 3)) := by decide +kernel
theorem dX8_measureWays_53 : decode cX8_measureWays 53 = .ok (.aload_n 0, 1) := gdX8_measureWays_53.1
theorem dX8_measureWays_54 : decode cX8_measureWays 54 = .ok (.getfield 19, 3) := gdX8_measureWays_53.2.1
theorem dX8_measureWays_57 : decode cX8_measureWays 57 = .ok (.iload_n 1, 1) := gdX8_measureWays_53.2.2.1
theorem dX8_measureWays_58 : decode cX8_measureWays 58 = .ok (.iaload, 1) := gdX8_measureWays_53.2.2.2.1
theorem dX8_measureWays_59 : decode cX8_measureWays 59 = .ok (.aload_n 0, 1) := gdX8_measureWays_53.2.2.2.2.1
theorem dX8_measureWays_60 : decode cX8_measureWays 60 = .ok (.getfield 22, 3) := gdX8_measureWays_53.2.2.2.2.2.1
theorem dX8_measureWays_63 : decode cX8_measureWays 63 = .ok (.iload_n 1, 1) := gdX8_measureWays_53.2.2.2.2.2.2.1
theorem dX8_measureWays_64 : decode cX8_measureWays 64 = .ok (.iaload, 1) := gdX8_measureWays_53.2.2.2.2.2.2.2.1
theorem dX8_measureWays_65 : decode cX8_measureWays 65 = .ok (.invokevirtual 44, 3) := gdX8_measureWays_53.2.2.2.2.2.2.2.2.1
theorem dX8_measureWays_68 : decode cX8_measureWays 68 = .ok (.aload_n 0, 1) := gdX8_measureWays_53.2.2.2.2.2.2.2.2.2.1
theorem dX8_measureWays_69 : decode cX8_measureWays 69 = .ok (.aload_n 0, 1) := gdX8_measureWays_53.2.2.2.2.2.2.2.2.2.2.1
theorem dX8_measureWays_70 : decode cX8_measureWays 70 = .ok (.getfield 19, 3) := gdX8_measureWays_53.2.2.2.2.2.2.2.2.2.2.2.1
theorem dX8_measureWays_73 : decode cX8_measureWays 73 = .ok (.iload_n 1, 1) := gdX8_measureWays_53.2.2.2.2.2.2.2.2.2.2.2.2.1
theorem dX8_measureWays_74 : decode cX8_measureWays 74 = .ok (.iaload, 1) := gdX8_measureWays_53.2.2.2.2.2.2.2.2.2.2.2.2.2.1
theorem dX8_measureWays_75 : decode cX8_measureWays 75 = .ok (.aload_n 0, 1) := gdX8_measureWays_53.2.2.2.2.2.2.2.2.2.2.2.2.2.2.1
theorem dX8_measureWays_76 : decode cX8_measureWays 76 = .ok (.getfield 15, 3) := gdX8_measureWays_53.2.2.2.2.2.2.2.2.2.2.2.2.2.2.2
theorem gdX8_measureWays_79 : (decode cX8_measureWays 79 = .ok (.iload_n 1, 1)) ∧ (decode cX8_measureWays 80 = .ok (.iaload, 1)) ∧ (decode cX8_measureWays 81 = .ok (.aload_n 0, 1)) ∧ (decode cX8_measureWays 82 = .ok (.getfield 22, 3)) ∧ (decode cX8_measureWays 85 = .ok (.iload_n 1, 1)) ∧ (decode cX8_measureWays 86 = .ok (.iaload, 1)) ∧ (decode cX8_measureWays 87 = .ok (.invokevirtual 44, 3)) ∧ (decode cX8_measureWays 90 = .ok (.iinc 1 1, 3)) ∧ (decode cX8_measureWays 93 = .ok (.goto (-55), 3)) ∧ (decode cX8_measureWays 96 = .ok (.iconst 0, 1)) ∧ (decode cX8_measureWays 97 = .ok (.istore_n 1, 1)) ∧ (decode cX8_measureWays 98 = .ok (.iload_n 1, 1)) ∧ (decode cX8_measureWays 99 = .ok (.aload_n 0, 1)) ∧ (decode cX8_measureWays 100 = .ok (.getfield 31, 3)) ∧ (decode cX8_measureWays 103 = .ok (.if_icmp .ge 78, 3)) ∧ (decode cX8_measureWays 106 = .ok (.iconst 0, 1)) := by decide +kernel
theorem dX8_measureWays_79 : decode cX8_measureWays 79 = .ok (.iload_n 1, 1) := gdX8_measureWays_79.1
theorem dX8_measureWays_80 : decode cX8_measureWays 80 = .ok (.iaload, 1) := gdX8_measureWays_79.2.1
theorem dX8_measureWays_81 : decode cX8_measureWays 81 = .ok (.aload_n 0, 1) := gdX8_measureWays_79.2.2.1
theorem dX8_measureWays_82 : decode cX8_measureWays 82 = .ok (.getfield 22, 3) := gdX8_measureWays_79.2.2.2.1
theorem dX8_measureWays_85 : decode cX8_measureWays 85 = .ok (.iload_n 1, 1) := gdX8_measureWays_79.2.2.2.2.1
theorem dX8_measureWays_86 : decode cX8_measureWays 86 = .ok (.iaload, 1) := gdX8_measureWays_79.2.2.2.2.2.1
theorem dX8_measureWays_87 : decode cX8_measureWays 87 = .ok (.invokevirtual 44, 3) := gdX8_measureWays_79.2.2.2.2.2.2.1
theorem dX8_measureWays_90 : decode cX8_measureWays 90 = .ok (.iinc 1 1, 3) := gdX8_measureWays_79.2.2.2.2.2.2.2.1
theorem dX8_measureWays_93 : decode cX8_measureWays 93 = .ok (.goto (-55), 3) := gdX8_measureWays_79.2.2.2.2.2.2.2.2.1
theorem dX8_measureWays_96 : decode cX8_measureWays 96 = .ok (.iconst 0, 1) := gdX8_measureWays_79.2.2.2.2.2.2.2.2.2.1
theorem dX8_measureWays_97 : decode cX8_measureWays 97 = .ok (.istore_n 1, 1) := gdX8_measureWays_79.2.2.2.2.2.2.2.2.2.2.1
theorem dX8_measureWays_98 : decode cX8_measureWays 98 = .ok (.iload_n 1, 1) := gdX8_measureWays_79.2.2.2.2.2.2.2.2.2.2.2.1
theorem dX8_measureWays_99 : decode cX8_measureWays 99 = .ok (.aload_n 0, 1) := gdX8_measureWays_79.2.2.2.2.2.2.2.2.2.2.2.2.1
theorem dX8_measureWays_100 : decode cX8_measureWays 100 = .ok (.getfield 31, 3) := gdX8_measureWays_79.2.2.2.2.2.2.2.2.2.2.2.2.2.1
theorem dX8_measureWays_103 : decode cX8_measureWays 103 = .ok (.if_icmp .ge 78, 3) := gdX8_measureWays_79.2.2.2.2.2.2.2.2.2.2.2.2.2.2.1
theorem dX8_measureWays_106 : decode cX8_measureWays 106 = .ok (.iconst 0, 1) := gdX8_measureWays_79.2.2.2.2.2.2.2.2.2.2.2.2.2.2.2
theorem gdX8_measureWays_107 : (decode cX8_measureWays 107 = .ok (.istore_n 2, 1)) ∧ (decode cX8_measureWays 108 = .ok (.iload_n 2, 1)) ∧ (decode cX8_measureWays 109 = .ok (.aload_n 0, 1)) ∧ (decode cX8_measureWays 110 = .ok (.getfield 31, 3)) ∧ (decode cX8_measureWays 113 = .ok (.if_icmp .ge 62, 3)) ∧ (decode cX8_measureWays 116 = .ok (.iconst 0, 1)) ∧ (decode cX8_measureWays 117 = .ok (.istore_n 3, 1)) ∧ (decode cX8_measureWays 118 = .ok (.iload_n 3, 1)) ∧ (decode cX8_measureWays 119 = .ok (.aload_n 0, 1)) ∧ (decode cX8_measureWays 120 = .ok (.getfield 31, 3)) ∧ (decode cX8_measureWays 123 = .ok (.if_icmp .ge 46, 3)) ∧ (decode cX8_measureWays 126 = .ok (.aload_n 0, 1)) ∧ (decode cX8_measureWays 127 = .ok (.iload_n 2, 1)) ∧ (decode cX8_measureWays 128 = .ok (.iload_n 1, 1)) ∧ (decode cX8_measureWays 129 = .ok (.invokevirtual 48, 3)) ∧ (decode cX8_measureWays 132 = .ok (.istore 4, 2)) := by decide +kernel
theorem dX8_measureWays_107 : decode cX8_measureWays 107 = .ok (.istore_n 2, 1) := gdX8_measureWays_107.1
theorem dX8_measureWays_108 : decode cX8_measureWays 108 = .ok (.iload_n 2, 1) := gdX8_measureWays_107.2.1
theorem dX8_measureWays_109 : decode cX8_measureWays 109 = .ok (.aload_n 0, 1) := gdX8_measureWays_107.2.2.1
theorem dX8_measureWays_110 : decode cX8_measureWays 110 = .ok (.getfield 31, 3) := gdX8_measureWays_107.2.2.2.1
theorem dX8_measureWays_113 : decode cX8_measureWays 113 = .ok (.if_icmp .ge 62, 3) := gdX8_measureWays_107.2.2.2.2.1
theorem dX8_measureWays_116 : decode cX8_measureWays 116 = .ok (.iconst 0, 1) := gdX8_measureWays_107.2.2.2.2.2.1
theorem dX8_measureWays_117 : decode cX8_measureWays 117 = .ok (.istore_n 3, 1) := gdX8_measureWays_107.2.2.2.2.2.2.1
theorem dX8_measureWays_118 : decode cX8_measureWays 118 = .ok (.iload_n 3, 1) := gdX8_measureWays_107.2.2.2.2.2.2.2.1
theorem dX8_measureWays_119 : decode cX8_measureWays 119 = .ok (.aload_n 0, 1) := gdX8_measureWays_107.2.2.2.2.2.2.2.2.1
theorem dX8_measureWays_120 : decode cX8_measureWays 120 = .ok (.getfield 31, 3) := gdX8_measureWays_107.2.2.2.2.2.2.2.2.2.1
theorem dX8_measureWays_123 : decode cX8_measureWays 123 = .ok (.if_icmp .ge 46, 3) := gdX8_measureWays_107.2.2.2.2.2.2.2.2.2.2.1
theorem dX8_measureWays_126 : decode cX8_measureWays 126 = .ok (.aload_n 0, 1) := gdX8_measureWays_107.2.2.2.2.2.2.2.2.2.2.2.1
theorem dX8_measureWays_127 : decode cX8_measureWays 127 = .ok (.iload_n 2, 1) := gdX8_measureWays_107.2.2.2.2.2.2.2.2.2.2.2.2.1
theorem dX8_measureWays_128 : decode cX8_measureWays 128 = .ok (.iload_n 1, 1) := gdX8_measureWays_107.2.2.2.2.2.2.2.2.2.2.2.2.2.1
theorem dX8_measureWays_129 : decode cX8_measureWays 129 = .ok (.invokevirtual 48, 3) := gdX8_measureWays_107.2.2.2.2.2.2.2.2.2.2.2.2.2.2.1
theorem dX8_measureWays_132 : decode cX8_measureWays 132 = .ok (.istore 4, 2) := gdX8_measureWays_107.2.2.2.2.2.2.2.2.2.2.2.2.2.2.2
theorem gdX8_measureWays_134 : (decode cX8_measureWays 134 = .ok (.aload_n 0, 1)) ∧ (decode cX8_measureWays 135 = .ok (.iload_n 1, 1)) ∧ (decode cX8_measureWays 136 = .ok (.iload_n 3, 1)) ∧ (decode cX8_measureWays 137 = .ok (.invokevirtual 48, 3)) ∧ (decode cX8_measureWays 140 = .ok (.istore 5, 2)) ∧ (decode cX8_measureWays 142 = .ok (.iload 4, 2)) ∧ (decode cX8_measureWays 144 = .ok (.ifCond .lt 19, 3)) ∧ (decode cX8_measureWays 147 = .ok (.iload 5, 2)) ∧ (decode cX8_measureWays 149 = .ok (.ifCond .lt 14, 3)) ∧ (decode cX8_measureWays 152 = .ok (.aload_n 0, 1)) ∧ (decode cX8_measureWays 153 = .ok (.iload_n 2, 1)) ∧ (decode cX8_measureWays 154 = .ok (.iload_n 3, 1)) ∧ (decode cX8_measureWays 155 = .ok (.iload 4, 2)) ∧ (decode cX8_measureWays 157 = .ok (.iload 5, 2)) ∧ (decode cX8_measureWays 159 = .ok (.iadd, 1)) ∧ (decode cX8_measureWays 160 = .ok (.invokevirtual 44, 3)) := by decide +kernel
theorem dX8_measureWays_134 : decode cX8_measureWays 134 = .ok (.aload_n 0, 1) := gdX8_measureWays_134.1
theorem dX8_measureWays_135 : decode cX8_measureWays 135 = .ok (.iload_n 1, 1) := gdX8_measureWays_134.2.1
theorem dX8_measureWays_136 : decode cX8_measureWays 136 = .ok (.iload_n 3, 1) := gdX8_measureWays_134.2.2.1
theorem dX8_measureWays_137 : decode cX8_measureWays 137 = .ok (.invokevirtual 48, 3) := gdX8_measureWays_134.2.2.2.1
theorem dX8_measureWays_140 : decode cX8_measureWays 140 = .ok (.istore 5, 2) := gdX8_measureWays_134.2.2.2.2.1
theorem dX8_measureWays_142 : decode cX8_measureWays 142 = .ok (.iload 4, 2) := gdX8_measureWays_134.2.2.2.2.2.1
theorem dX8_measureWays_144 : decode cX8_measureWays 144 = .ok (.ifCond .lt 19, 3) := gdX8_measureWays_134.2.2.2.2.2.2.1
theorem dX8_measureWays_147 : decode cX8_measureWays 147 = .ok (.iload 5, 2) := gdX8_measureWays_134.2.2.2.2.2.2.2.1
theorem dX8_measureWays_149 : decode cX8_measureWays 149 = .ok (.ifCond .lt 14, 3) := gdX8_measureWays_134.2.2.2.2.2.2.2.2.1
theorem dX8_measureWays_152 : decode cX8_measureWays 152 = .ok (.aload_n 0, 1) := gdX8_measureWays_134.2.2.2.2.2.2.2.2.2.1
theorem dX8_measureWays_153 : decode cX8_measureWays 153 = .ok (.iload_n 2, 1) := gdX8_measureWays_134.2.2.2.2.2.2.2.2.2.2.1
theorem dX8_measureWays_154 : decode cX8_measureWays 154 = .ok (.iload_n 3, 1) := gdX8_measureWays_134.2.2.2.2.2.2.2.2.2.2.2.1
theorem dX8_measureWays_155 : decode cX8_measureWays 155 = .ok (.iload 4, 2) := gdX8_measureWays_134.2.2.2.2.2.2.2.2.2.2.2.2.1
theorem dX8_measureWays_157 : decode cX8_measureWays 157 = .ok (.iload 5, 2) := gdX8_measureWays_134.2.2.2.2.2.2.2.2.2.2.2.2.2.1
theorem dX8_measureWays_159 : decode cX8_measureWays 159 = .ok (.iadd, 1) := gdX8_measureWays_134.2.2.2.2.2.2.2.2.2.2.2.2.2.2.1
theorem dX8_measureWays_160 : decode cX8_measureWays 160 = .ok (.invokevirtual 44, 3) := gdX8_measureWays_134.2.2.2.2.2.2.2.2.2.2.2.2.2.2.2
theorem gdX8_measureWays_163 : (decode cX8_measureWays 163 = .ok (.iinc 3 1, 3)) ∧ (decode cX8_measureWays 166 = .ok (.goto (-48), 3)) ∧ (decode cX8_measureWays 169 = .ok (.iinc 2 1, 3)) ∧ (decode cX8_measureWays 172 = .ok (.goto (-64), 3)) ∧ (decode cX8_measureWays 175 = .ok (.iinc 1 1, 3)) ∧ (decode cX8_measureWays 178 = .ok (.goto (-80), 3)) ∧ (decode cX8_measureWays 181 = .ok (.return_, 1)) := by decide +kernel
theorem dX8_measureWays_163 : decode cX8_measureWays 163 = .ok (.iinc 3 1, 3) := gdX8_measureWays_163.1
theorem dX8_measureWays_166 : decode cX8_measureWays 166 = .ok (.goto (-48), 3) := gdX8_measureWays_163.2.1
theorem dX8_measureWays_169 : decode cX8_measureWays 169 = .ok (.iinc 2 1, 3) := gdX8_measureWays_163.2.2.1
theorem dX8_measureWays_172 : decode cX8_measureWays 172 = .ok (.goto (-64), 3) := gdX8_measureWays_163.2.2.2.1
theorem dX8_measureWays_175 : decode cX8_measureWays 175 = .ok (.iinc 1 1, 3) := gdX8_measureWays_163.2.2.2.2.1
theorem dX8_measureWays_178 : decode cX8_measureWays 178 = .ok (.goto (-80), 3) := gdX8_measureWays_163.2.2.2.2.2.1
theorem dX8_measureWays_181 : decode cX8_measureWays 181 = .ok (.return_, 1) := gdX8_measureWays_163.2.2.2.2.2.2
theorem gdX8_shorten_0 : (decode cX8_shorten 0 = .ok (.aload_n 0, 1)) ∧ (decode cX8_shorten 1 = .ok (.iload_n 1, 1)) ∧ (decode cX8_shorten 2 = .ok (.iload_n 2, 1)) ∧ (decode cX8_shorten 3 = .ok (.invokevirtual 48, 3)) ∧ (decode cX8_shorten 6 = .ok (.istore 4, 2)) ∧ (decode cX8_shorten 8 = .ok (.iload 4, 2)) ∧ (decode cX8_shorten 10 = .ok (.ifCond .lt 9, 3)) ∧ (decode cX8_shorten 13 = .ok (.iload_n 3, 1)) ∧ (decode cX8_shorten 14 = .ok (.iload 4, 2)) ∧ (decode cX8_shorten 16 = .ok (.if_icmp .ge 15, 3)) ∧ (decode cX8_shorten 19 = .ok (.aload_n 0, 1)) ∧ (decode cX8_shorten 20 = .ok (.getfield 28, 3)) ∧ (decode cX8_shorten 23 = .ok (.iload_n 1, 1)) ∧ (decode cX8_shorten 24 = .ok (.bipush 10, 2)) ∧ (decode cX8_shorten 26 = .ok (.imul, 1)) ∧ (decode cX8_shorten 27 = .ok (.iload_n 2, 1)) := by decide +kernel
theorem dX8_shorten_0 : decode cX8_shorten 0 = .ok (.aload_n 0, 1) := gdX8_shorten_0.1
theorem dX8_shorten_1 : decode cX8_shorten 1 = .ok (.iload_n 1, 1) := gdX8_shorten_0.2.1
theorem dX8_shorten_2 : decode cX8_shorten 2 = .ok (.iload_n 2, 1) := gdX8_shorten_0.2.2.1
theorem dX8_shorten_3 : decode cX8_shorten 3 = .ok (.invokevirtual 48, 3) := gdX8_shorten_0.2.2.2.1
theorem dX8_shorten_6 : decode cX8_shorten 6 = .ok (.istore 4, 2) := gdX8_shorten_0.2.2.2.2.1
theorem dX8_shorten_8 : decode cX8_shorten 8 = .ok (.iload 4, 2) := gdX8_shorten_0.2.2.2.2.2.1
theorem dX8_shorten_10 : decode cX8_shorten 10 = .ok (.ifCond .lt 9, 3) := gdX8_shorten_0.2.2.2.2.2.2.1
theorem dX8_shorten_13 : decode cX8_shorten 13 = .ok (.iload_n 3, 1) := gdX8_shorten_0.2.2.2.2.2.2.2.1
theorem dX8_shorten_14 : decode cX8_shorten 14 = .ok (.iload 4, 2) := gdX8_shorten_0.2.2.2.2.2.2.2.2.1
theorem dX8_shorten_16 : decode cX8_shorten 16 = .ok (.if_icmp .ge 15, 3) := gdX8_shorten_0.2.2.2.2.2.2.2.2.2.1
theorem dX8_shorten_19 : decode cX8_shorten 19 = .ok (.aload_n 0, 1) := gdX8_shorten_0.2.2.2.2.2.2.2.2.2.2.1
theorem dX8_shorten_20 : decode cX8_shorten 20 = .ok (.getfield 28, 3) := gdX8_shorten_0.2.2.2.2.2.2.2.2.2.2.2.1
theorem dX8_shorten_23 : decode cX8_shorten 23 = .ok (.iload_n 1, 1) := gdX8_shorten_0.2.2.2.2.2.2.2.2.2.2.2.2.1
theorem dX8_shorten_24 : decode cX8_shorten 24 = .ok (.bipush 10, 2) := gdX8_shorten_0.2.2.2.2.2.2.2.2.2.2.2.2.2.1
theorem dX8_shorten_26 : decode cX8_shorten 26 = .ok (.imul, 1) := gdX8_shorten_0.2.2.2.2.2.2.2.2.2.2.2.2.2.2.1
theorem dX8_shorten_27 : decode cX8_shorten 27 = .ok (.iload_n 2, 1) := gdX8_shorten_0.2.2.2.2.2.2.2.2.2.2.2.2.2.2.2
theorem gdX8_shorten_28 : (decode cX8_shorten 28 = .ok (.iadd, 1)) ∧ (decode cX8_shorten 29 = .ok (.iload_n 3, 1)) ∧ (decode cX8_shorten 30 = .ok (.iastore, 1)) ∧ (decode cX8_shorten 31 = .ok (.return_, 1)) := by decide +kernel
theorem dX8_shorten_28 : decode cX8_shorten 28 = .ok (.iadd, 1) := gdX8_shorten_28.1
theorem dX8_shorten_29 : decode cX8_shorten 29 = .ok (.iload_n 3, 1) := gdX8_shorten_28.2.1
theorem dX8_shorten_30 : decode cX8_shorten 30 = .ok (.iastore, 1) := gdX8_shorten_28.2.2.1
theorem dX8_shorten_31 : decode cX8_shorten 31 = .ok (.return_, 1) := gdX8_shorten_28.2.2.2
theorem gdX8_hoursBetween_0 : (decode cX8_hoursBetween 0 = .ok (.aload_n 0, 1)) ∧ (decode cX8_hoursBetween 1 = .ok (.getfield 28, 3)) ∧ (decode cX8_hoursBetween 4 = .ok (.iload_n 1, 1)) ∧ (decode cX8_hoursBetween 5 = .ok (.bipush 10, 2)) ∧ (decode cX8_hoursBetween 7 = .ok (.imul, 1)) ∧ (decode cX8_hoursBetween 8 = .ok (.iload_n 2, 1)) ∧ (decode cX8_hoursBetween 9 = .ok (.iadd, 1)) ∧ (decode cX8_hoursBetween 10 = .ok (.iaload, 1)) ∧ (decode cX8_hoursBetween 11 = .ok (.ireturn, 1)) := by decide +kernel
theorem dX8_hoursBetween_0 : decode cX8_hoursBetween 0 = .ok (.aload_n 0, 1) := gdX8_hoursBetween_0.1
theorem dX8_hoursBetween_1 : decode cX8_hoursBetween 1 = .ok (.getfield 28, 3) := gdX8_hoursBetween_0.2.1
theorem dX8_hoursBetween_4 : decode cX8_hoursBetween 4 = .ok (.iload_n 1, 1) := gdX8_hoursBetween_0.2.2.1
theorem dX8_hoursBetween_5 : decode cX8_hoursBetween 5 = .ok (.bipush 10, 2) := gdX8_hoursBetween_0.2.2.2.1
theorem dX8_hoursBetween_7 : decode cX8_hoursBetween 7 = .ok (.imul, 1) := gdX8_hoursBetween_0.2.2.2.2.1
theorem dX8_hoursBetween_8 : decode cX8_hoursBetween 8 = .ok (.iload_n 2, 1) := gdX8_hoursBetween_0.2.2.2.2.2.1
theorem dX8_hoursBetween_9 : decode cX8_hoursBetween 9 = .ok (.iadd, 1) := gdX8_hoursBetween_0.2.2.2.2.2.2.1
theorem dX8_hoursBetween_10 : decode cX8_hoursBetween 10 = .ok (.iaload, 1) := gdX8_hoursBetween_0.2.2.2.2.2.2.2.1
theorem dX8_hoursBetween_11 : decode cX8_hoursBetween 11 = .ok (.ireturn, 1) := gdX8_hoursBetween_0.2.2.2.2.2.2.2.2
theorem gdX8_otherEnd_0 : (decode cX8_otherEnd 0 = .ok (.aload_n 0, 1)) ∧ (decode cX8_otherEnd 1 = .ok (.getfield 15, 3)) ∧ (decode cX8_otherEnd 4 = .ok (.iload_n 1, 1)) ∧ (decode cX8_otherEnd 5 = .ok (.iaload, 1)) ∧ (decode cX8_otherEnd 6 = .ok (.iload_n 2, 1)) ∧ (decode cX8_otherEnd 7 = .ok (.if_icmp .ne 10, 3)) ∧ (decode cX8_otherEnd 10 = .ok (.aload_n 0, 1)) ∧ (decode cX8_otherEnd 11 = .ok (.getfield 19, 3)) ∧ (decode cX8_otherEnd 14 = .ok (.iload_n 1, 1)) ∧ (decode cX8_otherEnd 15 = .ok (.iaload, 1)) ∧ (decode cX8_otherEnd 16 = .ok (.ireturn, 1)) ∧ (decode cX8_otherEnd 17 = .ok (.aload_n 0, 1)) ∧ (decode cX8_otherEnd 18 = .ok (.getfield 19, 3)) ∧ (decode cX8_otherEnd 21 = .ok (.iload_n 1, 1)) ∧ (decode cX8_otherEnd 22 = .ok (.iaload, 1)) ∧ (decode cX8_otherEnd 23 = .ok (.iload_n 2, 1)) := by decide +kernel
theorem dX8_otherEnd_0 : decode cX8_otherEnd 0 = .ok (.aload_n 0, 1) := gdX8_otherEnd_0.1
theorem dX8_otherEnd_1 : decode cX8_otherEnd 1 = .ok (.getfield 15, 3) := gdX8_otherEnd_0.2.1
theorem dX8_otherEnd_4 : decode cX8_otherEnd 4 = .ok (.iload_n 1, 1) := gdX8_otherEnd_0.2.2.1
theorem dX8_otherEnd_5 : decode cX8_otherEnd 5 = .ok (.iaload, 1) := gdX8_otherEnd_0.2.2.2.1
theorem dX8_otherEnd_6 : decode cX8_otherEnd 6 = .ok (.iload_n 2, 1) := gdX8_otherEnd_0.2.2.2.2.1
theorem dX8_otherEnd_7 : decode cX8_otherEnd 7 = .ok (.if_icmp .ne 10, 3) := gdX8_otherEnd_0.2.2.2.2.2.1
theorem dX8_otherEnd_10 : decode cX8_otherEnd 10 = .ok (.aload_n 0, 1) := gdX8_otherEnd_0.2.2.2.2.2.2.1
theorem dX8_otherEnd_11 : decode cX8_otherEnd 11 = .ok (.getfield 19, 3) := gdX8_otherEnd_0.2.2.2.2.2.2.2.1
theorem dX8_otherEnd_14 : decode cX8_otherEnd 14 = .ok (.iload_n 1, 1) := gdX8_otherEnd_0.2.2.2.2.2.2.2.2.1
theorem dX8_otherEnd_15 : decode cX8_otherEnd 15 = .ok (.iaload, 1) := gdX8_otherEnd_0.2.2.2.2.2.2.2.2.2.1
theorem dX8_otherEnd_16 : decode cX8_otherEnd 16 = .ok (.ireturn, 1) := gdX8_otherEnd_0.2.2.2.2.2.2.2.2.2.2.1
theorem dX8_otherEnd_17 : decode cX8_otherEnd 17 = .ok (.aload_n 0, 1) := gdX8_otherEnd_0.2.2.2.2.2.2.2.2.2.2.2.1
theorem dX8_otherEnd_18 : decode cX8_otherEnd 18 = .ok (.getfield 19, 3) := gdX8_otherEnd_0.2.2.2.2.2.2.2.2.2.2.2.2.1
theorem dX8_otherEnd_21 : decode cX8_otherEnd 21 = .ok (.iload_n 1, 1) := gdX8_otherEnd_0.2.2.2.2.2.2.2.2.2.2.2.2.2.1
theorem dX8_otherEnd_22 : decode cX8_otherEnd 22 = .ok (.iaload, 1) := gdX8_otherEnd_0.2.2.2.2.2.2.2.2.2.2.2.2.2.2.1
theorem dX8_otherEnd_23 : decode cX8_otherEnd 23 = .ok (.iload_n 2, 1) := gdX8_otherEnd_0.2.2.2.2.2.2.2.2.2.2.2.2.2.2.2
