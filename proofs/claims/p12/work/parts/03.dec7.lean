theorem gdX11_image_54 : (decode cX11_image 54 = .ok (.iconst 0, 1)) ∧ (decode cX11_image 55 = .ok (.istore_n 2, 1)) ∧ (decode cX11_image 56 = .ok (.iload_n 2, 1)) ∧ (decode cX11_image 57 = .ok (.bipush 8, 2)) ∧ (decode cX11_image 59 = .ok (.if_icmp .ge 26, 3)) ∧ (decode cX11_image 62 = .ok (.aload_n 0, 1)) ∧ (decode cX11_image 63 = .ok (.getfield 82, 3)) ∧ (decode cX11_image 66 = .ok (.bipush 8, 2)) ∧ (decode cX11_image 68 = .ok (.iload_n 1, 1)) ∧ (decode cX11_image 69 = .ok (.imul, 1)) ∧ (decode cX11_image 70 = .ok (.iload_n 2, 1)) ∧ (decode cX11_image 71 = .ok (.iadd, 1)) ∧ (decode cX11_image 72 = .ok (.aload_n 0, 1)) ∧ (decode cX11_image 73 = .ok (.getfield 48, 3)) ∧ (decode cX11_image 76 = .ok (.iload_n 2, 1)) ∧ (decode cX11_image 77 = .ok (.laload, 1)) := by decide +kernel
theorem dX11_image_54 : decode cX11_image 54 = .ok (.iconst 0, 1) := gdX11_image_54.1
theorem dX11_image_55 : decode cX11_image 55 = .ok (.istore_n 2, 1) := gdX11_image_54.2.1
theorem dX11_image_56 : decode cX11_image 56 = .ok (.iload_n 2, 1) := gdX11_image_54.2.2.1
theorem dX11_image_57 : decode cX11_image 57 = .ok (.bipush 8, 2) := gdX11_image_54.2.2.2.1
theorem dX11_image_59 : decode cX11_image 59 = .ok (.if_icmp .ge 26, 3) := gdX11_image_54.2.2.2.2.1
theorem dX11_image_62 : decode cX11_image 62 = .ok (.aload_n 0, 1) := gdX11_image_54.2.2.2.2.2.1
theorem dX11_image_63 : decode cX11_image 63 = .ok (.getfield 82, 3) := gdX11_image_54.2.2.2.2.2.2.1
theorem dX11_image_66 : decode cX11_image 66 = .ok (.bipush 8, 2) := gdX11_image_54.2.2.2.2.2.2.2.1
theorem dX11_image_68 : decode cX11_image 68 = .ok (.iload_n 1, 1) := gdX11_image_54.2.2.2.2.2.2.2.2.1
theorem dX11_image_69 : decode cX11_image 69 = .ok (.imul, 1) := gdX11_image_54.2.2.2.2.2.2.2.2.2.1
theorem dX11_image_70 : decode cX11_image 70 = .ok (.iload_n 2, 1) := gdX11_image_54.2.2.2.2.2.2.2.2.2.2.1
theorem dX11_image_71 : decode cX11_image 71 = .ok (.iadd, 1) := gdX11_image_54.2.2.2.2.2.2.2.2.2.2.2.1
theorem dX11_image_72 : decode cX11_image 72 = .ok (.aload_n 0, 1) := gdX11_image_54.2.2.2.2.2.2.2.2.2.2.2.2.1
theorem dX11_image_73 : decode cX11_image 73 = .ok (.getfield 48, 3) := gdX11_image_54.2.2.2.2.2.2.2.2.2.2.2.2.2.1
theorem dX11_image_76 : decode cX11_image 76 = .ok (.iload_n 2, 1) := gdX11_image_54.2.2.2.2.2.2.2.2.2.2.2.2.2.2.1
theorem dX11_image_77 : decode cX11_image 77 = .ok (.laload, 1) := gdX11_image_54.2.2.2.2.2.2.2.2.2.2.2.2.2.2.2
theorem gdX11_image_78 : (decode cX11_image 78 = .ok (.lastore, 1)) ∧ (decode cX11_image 79 = .ok (.iinc 2 1, 3)) ∧ (decode cX11_image 82 = .ok (.goto (-26), 3)) ∧ (decode cX11_image 85 = .ok (.aload_n 0, 1)) ∧ (decode cX11_image 86 = .ok (.getfield 45, 3)) ∧ (decode cX11_image 89 = .ok (.iconst 3, 1)) ∧ (decode cX11_image 90 = .ok (.iaload, 1)) ∧ (decode cX11_image 91 = .ok (.ireturn, 1)) := by decide +kernel
theorem dX11_image_78 : decode cX11_image 78 = .ok (.lastore, 1) := gdX11_image_78.1
theorem dX11_image_79 : decode cX11_image 79 = .ok (.iinc 2 1, 3) := gdX11_image_78.2.1
theorem dX11_image_82 : decode cX11_image 82 = .ok (.goto (-26), 3) := gdX11_image_78.2.2.1
theorem dX11_image_85 : decode cX11_image 85 = .ok (.aload_n 0, 1) := gdX11_image_78.2.2.2.1
theorem dX11_image_86 : decode cX11_image 86 = .ok (.getfield 45, 3) := gdX11_image_78.2.2.2.2.1
theorem dX11_image_89 : decode cX11_image 89 = .ok (.iconst 3, 1) := gdX11_image_78.2.2.2.2.2.1
theorem dX11_image_90 : decode cX11_image 90 = .ok (.iaload, 1) := gdX11_image_78.2.2.2.2.2.2.1
theorem dX11_image_91 : decode cX11_image 91 = .ok (.ireturn, 1) := gdX11_image_78.2.2.2.2.2.2.2
theorem gdX11_back_0 : (decode cX11_back 0 = .ok (.iload_n 1, 1)) ∧ (decode cX11_back 1 = .ok (.i2l, 1)) ∧ (decode cX11_back 2 = .ok (.lconst 0, 1)) ∧ (decode cX11_back 3 = .ok (.ldc2_w 319, 3)) ∧ (decode cX11_back 6 = .ok (.invokestatic 131, 3)) ∧ (decode cX11_back 9 = .ok (.ifCond .eq 12, 3)) ∧ (decode cX11_back 12 = .ok (.aload_n 0, 1)) ∧ (decode cX11_back 13 = .ok (.getfield 85, 3)) ∧ (decode cX11_back 16 = .ok (.iload_n 1, 1)) ∧ (decode cX11_back 17 = .ok (.baload, 1)) ∧ (decode cX11_back 18 = .ok (.ifCond .ne 5, 3)) ∧ (decode cX11_back 21 = .ok (.iconst (-1), 1)) ∧ (decode cX11_back 22 = .ok (.ireturn, 1)) ∧ (decode cX11_back 23 = .ok (.iconst 0, 1)) ∧ (decode cX11_back 24 = .ok (.istore_n 2, 1)) ∧ (decode cX11_back 25 = .ok (.iload_n 2, 1)) := by decide +kernel
theorem dX11_back_0 : decode cX11_back 0 = .ok (.iload_n 1, 1) := gdX11_back_0.1
theorem dX11_back_1 : decode cX11_back 1 = .ok (.i2l, 1) := gdX11_back_0.2.1
theorem dX11_back_2 : decode cX11_back 2 = .ok (.lconst 0, 1) := gdX11_back_0.2.2.1
theorem dX11_back_3 : decode cX11_back 3 = .ok (.ldc2_w 319, 3) := gdX11_back_0.2.2.2.1
theorem dX11_back_6 : decode cX11_back 6 = .ok (.invokestatic 131, 3) := gdX11_back_0.2.2.2.2.1
theorem dX11_back_9 : decode cX11_back 9 = .ok (.ifCond .eq 12, 3) := gdX11_back_0.2.2.2.2.2.1
theorem dX11_back_12 : decode cX11_back 12 = .ok (.aload_n 0, 1) := gdX11_back_0.2.2.2.2.2.2.1
theorem dX11_back_13 : decode cX11_back 13 = .ok (.getfield 85, 3) := gdX11_back_0.2.2.2.2.2.2.2.1
theorem dX11_back_16 : decode cX11_back 16 = .ok (.iload_n 1, 1) := gdX11_back_0.2.2.2.2.2.2.2.2.1
theorem dX11_back_17 : decode cX11_back 17 = .ok (.baload, 1) := gdX11_back_0.2.2.2.2.2.2.2.2.2.1
theorem dX11_back_18 : decode cX11_back 18 = .ok (.ifCond .ne 5, 3) := gdX11_back_0.2.2.2.2.2.2.2.2.2.2.1
theorem dX11_back_21 : decode cX11_back 21 = .ok (.iconst (-1), 1) := gdX11_back_0.2.2.2.2.2.2.2.2.2.2.2.1
theorem dX11_back_22 : decode cX11_back 22 = .ok (.ireturn, 1) := gdX11_back_0.2.2.2.2.2.2.2.2.2.2.2.2.1
theorem dX11_back_23 : decode cX11_back 23 = .ok (.iconst 0, 1) := gdX11_back_0.2.2.2.2.2.2.2.2.2.2.2.2.2.1
theorem dX11_back_24 : decode cX11_back 24 = .ok (.istore_n 2, 1) := gdX11_back_0.2.2.2.2.2.2.2.2.2.2.2.2.2.2.1
theorem dX11_back_25 : decode cX11_back 25 = .ok (.iload_n 2, 1) := gdX11_back_0.2.2.2.2.2.2.2.2.2.2.2.2.2.2.2
theorem gdX11_back_26 : (decode cX11_back 26 = .ok (.sipush 158, 3)) ∧ (decode cX11_back 29 = .ok (.if_icmp .ge 27, 3)) ∧ (decode cX11_back 32 = .ok (.aload_n 0, 1)) ∧ (decode cX11_back 33 = .ok (.getfield 45, 3)) ∧ (decode cX11_back 36 = .ok (.iload_n 2, 1)) ∧ (decode cX11_back 37 = .ok (.aload_n 0, 1)) ∧ (decode cX11_back 38 = .ok (.getfield 79, 3)) ∧ (decode cX11_back 41 = .ok (.sipush 158, 3)) ∧ (decode cX11_back 44 = .ok (.iload_n 1, 1)) ∧ (decode cX11_back 45 = .ok (.imul, 1)) ∧ (decode cX11_back 46 = .ok (.iload_n 2, 1)) ∧ (decode cX11_back 47 = .ok (.iadd, 1)) ∧ (decode cX11_back 48 = .ok (.iaload, 1)) ∧ (decode cX11_back 49 = .ok (.iastore, 1)) ∧ (decode cX11_back 50 = .ok (.iinc 2 1, 3)) ∧ (decode cX11_back 53 = .ok (.goto (-28), 3)) := by decide +kernel
theorem dX11_back_26 : decode cX11_back 26 = .ok (.sipush 158, 3) := gdX11_back_26.1
theorem dX11_back_29 : decode cX11_back 29 = .ok (.if_icmp .ge 27, 3) := gdX11_back_26.2.1
theorem dX11_back_32 : decode cX11_back 32 = .ok (.aload_n 0, 1) := gdX11_back_26.2.2.1
theorem dX11_back_33 : decode cX11_back 33 = .ok (.getfield 45, 3) := gdX11_back_26.2.2.2.1
theorem dX11_back_36 : decode cX11_back 36 = .ok (.iload_n 2, 1) := gdX11_back_26.2.2.2.2.1
theorem dX11_back_37 : decode cX11_back 37 = .ok (.aload_n 0, 1) := gdX11_back_26.2.2.2.2.2.1
theorem dX11_back_38 : decode cX11_back 38 = .ok (.getfield 79, 3) := gdX11_back_26.2.2.2.2.2.2.1
theorem dX11_back_41 : decode cX11_back 41 = .ok (.sipush 158, 3) := gdX11_back_26.2.2.2.2.2.2.2.1
theorem dX11_back_44 : decode cX11_back 44 = .ok (.iload_n 1, 1) := gdX11_back_26.2.2.2.2.2.2.2.2.1
theorem dX11_back_45 : decode cX11_back 45 = .ok (.imul, 1) := gdX11_back_26.2.2.2.2.2.2.2.2.2.1
theorem dX11_back_46 : decode cX11_back 46 = .ok (.iload_n 2, 1) := gdX11_back_26.2.2.2.2.2.2.2.2.2.2.1
theorem dX11_back_47 : decode cX11_back 47 = .ok (.iadd, 1) := gdX11_back_26.2.2.2.2.2.2.2.2.2.2.2.1
theorem dX11_back_48 : decode cX11_back 48 = .ok (.iaload, 1) := gdX11_back_26.2.2.2.2.2.2.2.2.2.2.2.2.1
theorem dX11_back_49 : decode cX11_back 49 = .ok (.iastore, 1) := gdX11_back_26.2.2.2.2.2.2.2.2.2.2.2.2.2.1
theorem dX11_back_50 : decode cX11_back 50 = .ok (.iinc 2 1, 3) := gdX11_back_26.2.2.2.2.2.2.2.2.2.2.2.2.2.2.1
theorem dX11_back_53 : decode cX11_back 53 = .ok (.goto (-28), 3) := gdX11_back_26.2.2.2.2.2.2.2.2.2.2.2.2.2.2.2
theorem gdX11_back_56 : (decode cX11_back 56 = .ok (.iconst 0, 1)) ∧ (decode cX11_back 57 = .ok (.istore_n 2, 1)) ∧ (decode cX11_back 58 = .ok (.iload_n 2, 1)) ∧ (decode cX11_back 59 = .ok (.bipush 8, 2)) ∧ (decode cX11_back 61 = .ok (.if_icmp .ge 26, 3)) ∧ (decode cX11_back 64 = .ok (.aload_n 0, 1)) ∧ (decode cX11_back 65 = .ok (.getfield 48, 3)) ∧ (decode cX11_back 68 = .ok (.iload_n 2, 1)) ∧ (decode cX11_back 69 = .ok (.aload_n 0, 1)) ∧ (decode cX11_back 70 = .ok (.getfield 82, 3)) ∧ (decode cX11_back 73 = .ok (.bipush 8, 2)) ∧ (decode cX11_back 75 = .ok (.iload_n 1, 1)) ∧ (decode cX11_back 76 = .ok (.imul, 1)) ∧ (decode cX11_back 77 = .ok (.iload_n 2, 1)) ∧ (decode cX11_back 78 = .ok (.iadd, 1)) ∧ (decode cX11_back 79 = .ok (.laload, 1)) := by decide +kernel
theorem dX11_back_56 : decode cX11_back 56 = .ok (.iconst 0, 1) := gdX11_back_56.1
theorem dX11_back_57 : decode cX11_back 57 = .ok (.istore_n 2, 1) := gdX11_back_56.2.1
theorem dX11_back_58 : decode cX11_back 58 = .ok (.iload_n 2, 1) := gdX11_back_56.2.2.1
theorem dX11_back_59 : decode cX11_back 59 = .ok (.bipush 8, 2) := gdX11_back_56.2.2.2.1
theorem dX11_back_61 : decode cX11_back 61 = .ok (.if_icmp .ge 26, 3) := gdX11_back_56.2.2.2.2.1
theorem dX11_back_64 : decode cX11_back 64 = .ok (.aload_n 0, 1) := gdX11_back_56.2.2.2.2.2.1
theorem dX11_back_65 : decode cX11_back 65 = .ok (.getfield 48, 3) := gdX11_back_56.2.2.2.2.2.2.1
theorem dX11_back_68 : decode cX11_back 68 = .ok (.iload_n 2, 1) := gdX11_back_56.2.2.2.2.2.2.2.1
theorem dX11_back_69 : decode cX11_back 69 = .ok (.aload_n 0, 1) := gdX11_back_56.2.2.2.2.2.2.2.2.1
theorem dX11_back_70 : decode cX11_back 70 = .ok (.getfield 82, 3) := gdX11_back_56.2.2.2.2.2.2.2.2.2.1
theorem dX11_back_73 : decode cX11_back 73 = .ok (.bipush 8, 2) := gdX11_back_56.2.2.2.2.2.2.2.2.2.2.1
theorem dX11_back_75 : decode cX11_back 75 = .ok (.iload_n 1, 1) := gdX11_back_56.2.2.2.2.2.2.2.2.2.2.2.1
theorem dX11_back_76 : decode cX11_back 76 = .ok (.imul, 1) := gdX11_back_56.2.2.2.2.2.2.2.2.2.2.2.2.1
theorem dX11_back_77 : decode cX11_back 77 = .ok (.iload_n 2, 1) := gdX11_back_56.2.2.2.2.2.2.2.2.2.2.2.2.2.1
theorem dX11_back_78 : decode cX11_back 78 = .ok (.iadd, 1) := gdX11_back_56.2.2.2.2.2.2.2.2.2.2.2.2.2.2.1
theorem dX11_back_79 : decode cX11_back 79 = .ok (.laload, 1) := gdX11_back_56.2.2.2.2.2.2.2.2.2.2.2.2.2.2.2
theorem gdX11_back_80 : (decode cX11_back 80 = .ok (.lastore, 1)) ∧ (decode cX11_back 81 = .ok (.iinc 2 1, 3)) ∧ (decode cX11_back 84 = .ok (.goto (-26), 3)) ∧ (decode cX11_back 87 = .ok (.aload_n 0, 1)) ∧ (decode cX11_back 88 = .ok (.invokevirtual 263, 3)) ∧ (decode cX11_back 91 = .ok (.aload_n 0, 1)) ∧ (decode cX11_back 92 = .ok (.getfield 45, 3)) ∧ (decode cX11_back 95 = .ok (.iconst 3, 1)) ∧ (decode cX11_back 96 = .ok (.iaload, 1)) ∧ (decode cX11_back 97 = .ok (.ireturn, 1)) := by decide +kernel
theorem dX11_back_80 : decode cX11_back 80 = .ok (.lastore, 1) := gdX11_back_80.1
theorem dX11_back_81 : decode cX11_back 81 = .ok (.iinc 2 1, 3) := gdX11_back_80.2.1
theorem dX11_back_84 : decode cX11_back 84 = .ok (.goto (-26), 3) := gdX11_back_80.2.2.1
theorem dX11_back_87 : decode cX11_back 87 = .ok (.aload_n 0, 1) := gdX11_back_80.2.2.2.1
theorem dX11_back_88 : decode cX11_back 88 = .ok (.invokevirtual 263, 3) := gdX11_back_80.2.2.2.2.1
theorem dX11_back_91 : decode cX11_back 91 = .ok (.aload_n 0, 1) := gdX11_back_80.2.2.2.2.2.1
theorem dX11_back_92 : decode cX11_back 92 = .ok (.getfield 45, 3) := gdX11_back_80.2.2.2.2.2.2.1
theorem dX11_back_95 : decode cX11_back 95 = .ok (.iconst 3, 1) := gdX11_back_80.2.2.2.2.2.2.2.1
theorem dX11_back_96 : decode cX11_back 96 = .ok (.iaload, 1) := gdX11_back_80.2.2.2.2.2.2.2.2.1
theorem dX11_back_97 : decode cX11_back 97 = .ok (.ireturn, 1) := gdX11_back_80.2.2.2.2.2.2.2.2.2
theorem gdJ9_abs_067f4_0 : (decode cJ9_abs_067f4 0 = .ok (.lload_n 0, 1)) ∧ (decode cJ9_abs_067f4 1 = .ok (.lconst 0, 1)) ∧ (decode cJ9_abs_067f4 2 = .ok (.lcmp, 1)) ∧ (decode cJ9_abs_067f4 3 = .ok (.ifCond .ge 8, 3)) ∧ (decode cJ9_abs_067f4 6 = .ok (.lload_n 0, 1)) ∧ (decode cJ9_abs_067f4 7 = .ok (.lneg, 1)) ∧ (decode cJ9_abs_067f4 8 = .ok (.goto 4, 3)) ∧ (decode cJ9_abs_067f4 11 = .ok (.lload_n 0, 1)) ∧ (decode cJ9_abs_067f4 12 = .ok (.lreturn, 1)) := by decide +kernel
theorem dJ9_abs_067f4_0 : decode cJ9_abs_067f4 0 = .ok (.lload_n 0, 1) := gdJ9_abs_067f4_0.1
theorem dJ9_abs_067f4_1 : decode cJ9_abs_067f4 1 = .ok (.lconst 0, 1) := gdJ9_abs_067f4_0.2.1
theorem dJ9_abs_067f4_2 : decode cJ9_abs_067f4 2 = .ok (.lcmp, 1) := gdJ9_abs_067f4_0.2.2.1
theorem dJ9_abs_067f4_3 : decode cJ9_abs_067f4 3 = .ok (.ifCond .ge 8, 3) := gdJ9_abs_067f4_0.2.2.2.1
theorem dJ9_abs_067f4_6 : decode cJ9_abs_067f4 6 = .ok (.lload_n 0, 1) := gdJ9_abs_067f4_0.2.2.2.2.1
theorem dJ9_abs_067f4_7 : decode cJ9_abs_067f4 7 = .ok (.lneg, 1) := gdJ9_abs_067f4_0.2.2.2.2.2.1
theorem dJ9_abs_067f4_8 : decode cJ9_abs_067f4 8 = .ok (.goto 4, 3) := gdJ9_abs_067f4_0.2.2.2.2.2.2.1
theorem dJ9_abs_067f4_11 : decode cJ9_abs_067f4 11 = .ok (.lload_n 0, 1) := gdJ9_abs_067f4_0.2.2.2.2.2.2.2.1
theorem dJ9_abs_067f4_12 : decode cJ9_abs_067f4 12 = .ok (.lreturn, 1) := gdJ9_abs_067f4_0.2.2.2.2.2.2.2.2
theorem gdJ9_max_7cf53_0 : (decode cJ9_max_7cf53 0 = .ok (.iload_n 0, 1)) ∧ (decode cJ9_max_7cf53 1 = .ok (.iload_n 1, 1)) ∧ (decode cJ9_max_7cf53 2 = .ok (.if_icmp .lt 7, 3)) ∧ (decode cJ9_max_7cf53 5 = .ok (.iload_n 0, 1)) ∧ (decode cJ9_max_7cf53 6 = .ok (.goto 4, 3)) ∧ (decode cJ9_max_7cf53 9 = .ok (.iload_n 1, 1)) ∧ (decode cJ9_max_7cf53 10 = .ok (.ireturn, 1)) := by decide +kernel
theorem dJ9_max_7cf53_0 : decode cJ9_max_7cf53 0 = .ok (.iload_n 0, 1) := gdJ9_max_7cf53_0.1
theorem dJ9_max_7cf53_1 : decode cJ9_max_7cf53 1 = .ok (.iload_n 1, 1) := gdJ9_max_7cf53_0.2.1
theorem dJ9_max_7cf53_2 : decode cJ9_max_7cf53 2 = .ok (.if_icmp .lt 7, 3) := gdJ9_max_7cf53_0.2.2.1
theorem dJ9_max_7cf53_5 : decode cJ9_max_7cf53 5 = .ok (.iload_n 0, 1) := gdJ9_max_7cf53_0.2.2.2.1
theorem dJ9_max_7cf53_6 : decode cJ9_max_7cf53 6 = .ok (.goto 4, 3) := gdJ9_max_7cf53_0.2.2.2.2.1
theorem dJ9_max_7cf53_9 : decode cJ9_max_7cf53 9 = .ok (.iload_n 1, 1) := gdJ9_max_7cf53_0.2.2.2.2.2.1
theorem dJ9_max_7cf53_10 : decode cJ9_max_7cf53 10 = .ok (.ireturn, 1) := gdJ9_max_7cf53_0.2.2.2.2.2.2
theorem gdJ0_length_8abf5_0 : (decode cJ0_length_8abf5 0 = .ok (.aload_n 0, 1)) ∧ (decode cJ0_length_8abf5 1 = .ok (.getfield 9, 3)) ∧ (decode cJ0_length_8abf5 4 = .ok (.arraylength, 1)) ∧ (decode cJ0_length_8abf5 5 = .ok (.aload_n 0, 1)) ∧ (decode cJ0_length_8abf5 6 = .ok (.invokevirtual 335, 3)) ∧ (decode cJ0_length_8abf5 9 = .ok (.ishr, 1)) ∧ (decode cJ0_length_8abf5 10 = .ok (.ireturn, 1)) := by decide +kernel
theorem dJ0_length_8abf5_0 : decode cJ0_length_8abf5 0 = .ok (.aload_n 0, 1) := gdJ0_length_8abf5_0.1
theorem dJ0_length_8abf5_1 : decode cJ0_length_8abf5 1 = .ok (.getfield 9, 3) := gdJ0_length_8abf5_0.2.1
theorem dJ0_length_8abf5_4 : decode cJ0_length_8abf5 4 = .ok (.arraylength, 1) := gdJ0_length_8abf5_0.2.2.1
theorem dJ0_length_8abf5_5 : decode cJ0_length_8abf5 5 = .ok (.aload_n 0, 1) := gdJ0_length_8abf5_0.2.2.2.1
theorem dJ0_length_8abf5_6 : decode cJ0_length_8abf5 6 = .ok (.invokevirtual 335, 3) := gdJ0_length_8abf5_0.2.2.2.2.1
theorem dJ0_length_8abf5_9 : decode cJ0_length_8abf5 9 = .ok (.ishr, 1) := gdJ0_length_8abf5_0.2.2.2.2.2.1
theorem dJ0_length_8abf5_10 : decode cJ0_length_8abf5 10 = .ok (.ireturn, 1) := gdJ0_length_8abf5_0.2.2.2.2.2.2
theorem gdJ0_charAt_5068e_0 : (decode cJ0_charAt_5068e 0 = .ok (.aload_n 0, 1)) ∧ (decode cJ0_charAt_5068e 1 = .ok (.invokevirtual 492, 3)) ∧ (decode cJ0_charAt_5068e 4 = .ok (.ifCond .eq 12, 3)) ∧ (decode cJ0_charAt_5068e 7 = .ok (.aload_n 0, 1)) ∧ (decode cJ0_charAt_5068e 8 = .ok (.getfield 9, 3)) ∧ (decode cJ0_charAt_5068e 11 = .ok (.iload_n 1, 1)) ∧ (decode cJ0_charAt_5068e 12 = .ok (.invokestatic 495, 3)) ∧ (decode cJ0_charAt_5068e 15 = .ok (.ireturn, 1)) ∧ (decode cJ0_charAt_5068e 16 = .ok (.aload_n 0, 1)) ∧ (decode cJ0_charAt_5068e 17 = .ok (.getfield 9, 3)) ∧ (decode cJ0_charAt_5068e 20 = .ok (.iload_n 1, 1)) ∧ (decode cJ0_charAt_5068e 21 = .ok (.invokestatic 498, 3)) ∧ (decode cJ0_charAt_5068e 24 = .ok (.ireturn, 1)) := by decide +kernel
theorem dJ0_charAt_5068e_0 : decode cJ0_charAt_5068e 0 = .ok (.aload_n 0, 1) := gdJ0_charAt_5068e_0.1
theorem dJ0_charAt_5068e_1 : decode cJ0_charAt_5068e 1 = .ok (.invokevirtual 492, 3) := gdJ0_charAt_5068e_0.2.1
theorem dJ0_charAt_5068e_4 : decode cJ0_charAt_5068e 4 = .ok (.ifCond .eq 12, 3) := gdJ0_charAt_5068e_0.2.2.1
theorem dJ0_charAt_5068e_7 : decode cJ0_charAt_5068e 7 = .ok (.aload_n 0, 1) := gdJ0_charAt_5068e_0.2.2.2.1
theorem dJ0_charAt_5068e_8 : decode cJ0_charAt_5068e 8 = .ok (.getfield 9, 3) := gdJ0_charAt_5068e_0.2.2.2.2.1
theorem dJ0_charAt_5068e_11 : decode cJ0_charAt_5068e 11 = .ok (.iload_n 1, 1) := gdJ0_charAt_5068e_0.2.2.2.2.2.1
theorem dJ0_charAt_5068e_12 : decode cJ0_charAt_5068e 12 = .ok (.invokestatic 495, 3) := gdJ0_charAt_5068e_0.2.2.2.2.2.2.1
theorem dJ0_charAt_5068e_15 : decode cJ0_charAt_5068e 15 = .ok (.ireturn, 1) := gdJ0_charAt_5068e_0.2.2.2.2.2.2.2.1
theorem dJ0_charAt_5068e_16 : decode cJ0_charAt_5068e 16 = .ok (.aload_n 0, 1) := gdJ0_charAt_5068e_0.2.2.2.2.2.2.2.2.1
theorem dJ0_charAt_5068e_17 : decode cJ0_charAt_5068e 17 = .ok (.getfield 9, 3) := gdJ0_charAt_5068e_0.2.2.2.2.2.2.2.2.2.1
theorem dJ0_charAt_5068e_20 : decode cJ0_charAt_5068e 20 = .ok (.iload_n 1, 1) := gdJ0_charAt_5068e_0.2.2.2.2.2.2.2.2.2.2.1
theorem dJ0_charAt_5068e_21 : decode cJ0_charAt_5068e 21 = .ok (.invokestatic 498, 3) := gdJ0_charAt_5068e_0.2.2.2.2.2.2.2.2.2.2.2.1
theorem dJ0_charAt_5068e_24 : decode cJ0_charAt_5068e 24 = .ok (.ireturn, 1) := gdJ0_charAt_5068e_0.2.2.2.2.2.2.2.2.2.2.2.2
theorem gdJ0_coder_7d493_0 : (decode cJ0_coder_7d493 0 = .ok (.getstatic 38, 3)) ∧ (decode cJ0_coder_7d493 3 = .ok (.ifCond .eq 10, 3)) ∧ (decode cJ0_coder_7d493 6 = .ok (.aload_n 0, 1)) ∧ (decode cJ0_coder_7d493 7 = .ok (.getfield 15, 3)) ∧ (decode cJ0_coder_7d493 10 = .ok (.goto 4, 3)) ∧ (decode cJ0_coder_7d493 13 = .ok (.iconst 1, 1)) ∧ (decode cJ0_coder_7d493 14 = .ok (.ireturn, 1)) := by decide +kernel
theorem dJ0_coder_7d493_0 : decode cJ0_coder_7d493 0 = .ok (.getstatic 38, 3) := gdJ0_coder_7d493_0.1
theorem dJ0_coder_7d493_3 : decode cJ0_coder_7d493 3 = .ok (.ifCond .eq 10, 3) := gdJ0_coder_7d493_0.2.1
theorem dJ0_coder_7d493_6 : decode cJ0_coder_7d493 6 = .ok (.aload_n 0, 1) := gdJ0_coder_7d493_0.2.2.1
theorem dJ0_coder_7d493_7 : decode cJ0_coder_7d493 7 = .ok (.getfield 15, 3) := gdJ0_coder_7d493_0.2.2.2.1
theorem dJ0_coder_7d493_10 : decode cJ0_coder_7d493 10 = .ok (.goto 4, 3) := gdJ0_coder_7d493_0.2.2.2.2.1
theorem dJ0_coder_7d493_13 : decode cJ0_coder_7d493 13 = .ok (.iconst 1, 1) := gdJ0_coder_7d493_0.2.2.2.2.2.1
theorem dJ0_coder_7d493_14 : decode cJ0_coder_7d493 14 = .ok (.ireturn, 1) := gdJ0_coder_7d493_0.2.2.2.2.2.2
theorem gdJ0_isLatin1_aae02_0 : (decode cJ0_isLatin1_aae02 0 = .ok (.getstatic 38, 3)) ∧ (decode cJ0_isLatin1_aae02 3 = .ok (.ifCond .eq 14, 3)) ∧ (decode cJ0_isLatin1_aae02 6 = .ok (.aload_n 0, 1)) ∧ (decode cJ0_isLatin1_aae02 7 = .ok (.getfield 15, 3)) ∧ (decode cJ0_isLatin1_aae02 10 = .ok (.ifCond .ne 7, 3)) ∧ (decode cJ0_isLatin1_aae02 13 = .ok (.iconst 1, 1)) ∧ (decode cJ0_isLatin1_aae02 14 = .ok (.goto 4, 3)) ∧ (decode cJ0_isLatin1_aae02 17 = .ok (.iconst 0, 1)) ∧ (decode cJ0_isLatin1_aae02 18 = .ok (.ireturn, 1)) := by decide +kernel
theorem dJ0_isLatin1_aae02_0 : decode cJ0_isLatin1_aae02 0 = .ok (.getstatic 38, 3) := gdJ0_isLatin1_aae02_0.1
theorem dJ0_isLatin1_aae02_3 : decode cJ0_isLatin1_aae02 3 = .ok (.ifCond .eq 14, 3) := gdJ0_isLatin1_aae02_0.2.1
theorem dJ0_isLatin1_aae02_6 : decode cJ0_isLatin1_aae02 6 = .ok (.aload_n 0, 1) := gdJ0_isLatin1_aae02_0.2.2.1
theorem dJ0_isLatin1_aae02_7 : decode cJ0_isLatin1_aae02 7 = .ok (.getfield 15, 3) := gdJ0_isLatin1_aae02_0.2.2.2.1
theorem dJ0_isLatin1_aae02_10 : decode cJ0_isLatin1_aae02 10 = .ok (.ifCond .ne 7, 3) := gdJ0_isLatin1_aae02_0.2.2.2.2.1
theorem dJ0_isLatin1_aae02_13 : decode cJ0_isLatin1_aae02 13 = .ok (.iconst 1, 1) := gdJ0_isLatin1_aae02_0.2.2.2.2.2.1
theorem dJ0_isLatin1_aae02_14 : decode cJ0_isLatin1_aae02 14 = .ok (.goto 4, 3) := gdJ0_isLatin1_aae02_0.2.2.2.2.2.2.1
theorem dJ0_isLatin1_aae02_17 : decode cJ0_isLatin1_aae02 17 = .ok (.iconst 0, 1) := gdJ0_isLatin1_aae02_0.2.2.2.2.2.2.2.1
theorem dJ0_isLatin1_aae02_18 : decode cJ0_isLatin1_aae02 18 = .ok (.ireturn, 1) := gdJ0_isLatin1_aae02_0.2.2.2.2.2.2.2.2
theorem gdJ0_checkIndex_df160_0 : (decode cJ0_checkIndex_df160 0 = .ok (.iload_n 0, 1)) ∧ (decode cJ0_checkIndex_df160 1 = .ok (.iload_n 1, 1)) ∧ (decode cJ0_checkIndex_df160 2 = .ok (.getstatic 1053, 3)) ∧ (decode cJ0_checkIndex_df160 5 = .ok (.invokestatic 1059, 3)) ∧ (decode cJ0_checkIndex_df160 8 = .ok (.pop, 1)) ∧ (decode cJ0_checkIndex_df160 9 = .ok (.return_, 1)) := by decide +kernel
theorem dJ0_checkIndex_df160_0 : decode cJ0_checkIndex_df160 0 = .ok (.iload_n 0, 1) := gdJ0_checkIndex_df160_0.1
theorem dJ0_checkIndex_df160_1 : decode cJ0_checkIndex_df160 1 = .ok (.iload_n 1, 1) := gdJ0_checkIndex_df160_0.2.1
theorem dJ0_checkIndex_df160_2 : decode cJ0_checkIndex_df160 2 = .ok (.getstatic 1053, 3) := gdJ0_checkIndex_df160_0.2.2.1
theorem dJ0_checkIndex_df160_5 : decode cJ0_checkIndex_df160 5 = .ok (.invokestatic 1059, 3) := gdJ0_checkIndex_df160_0.2.2.2.1
theorem dJ0_checkIndex_df160_8 : decode cJ0_checkIndex_df160 8 = .ok (.pop, 1) := gdJ0_checkIndex_df160_0.2.2.2.2.1
theorem dJ0_checkIndex_df160_9 : decode cJ0_checkIndex_df160 9 = .ok (.return_, 1) := gdJ0_checkIndex_df160_0.2.2.2.2.2
theorem gdJ1_charAt_3b067_0 : (decode cJ1_charAt_3b067 0 = .ok (.iload_n 1, 1)) ∧ (decode cJ1_charAt_3b067 1 = .ok (.aload_n 0, 1)) ∧ (decode cJ1_charAt_3b067 2 = .ok (.arraylength, 1)) ∧ (decode cJ1_charAt_3b067 3 = .ok (.invokestatic 9, 3)) ∧ (decode cJ1_charAt_3b067 6 = .ok (.aload_n 0, 1)) ∧ (decode cJ1_charAt_3b067 7 = .ok (.iload_n 1, 1)) ∧ (decode cJ1_charAt_3b067 8 = .ok (.baload, 1)) ∧ (decode cJ1_charAt_3b067 9 = .ok (.sipush 255, 3)) ∧ (decode cJ1_charAt_3b067 12 = .ok (.iand, 1)) ∧ (decode cJ1_charAt_3b067 13 = .ok (.i2c, 1)) ∧ (decode cJ1_charAt_3b067 14 = .ok (.ireturn, 1)) := by decide +kernel
theorem dJ1_charAt_3b067_0 : decode cJ1_charAt_3b067 0 = .ok (.iload_n 1, 1) := gdJ1_charAt_3b067_0.1
theorem dJ1_charAt_3b067_1 : decode cJ1_charAt_3b067 1 = .ok (.aload_n 0, 1) := gdJ1_charAt_3b067_0.2.1
theorem dJ1_charAt_3b067_2 : decode cJ1_charAt_3b067 2 = .ok (.arraylength, 1) := gdJ1_charAt_3b067_0.2.2.1
theorem dJ1_charAt_3b067_3 : decode cJ1_charAt_3b067 3 = .ok (.invokestatic 9, 3) := gdJ1_charAt_3b067_0.2.2.2.1
theorem dJ1_charAt_3b067_6 : decode cJ1_charAt_3b067 6 = .ok (.aload_n 0, 1) := gdJ1_charAt_3b067_0.2.2.2.2.1
theorem dJ1_charAt_3b067_7 : decode cJ1_charAt_3b067 7 = .ok (.iload_n 1, 1) := gdJ1_charAt_3b067_0.2.2.2.2.2.1
theorem dJ1_charAt_3b067_8 : decode cJ1_charAt_3b067 8 = .ok (.baload, 1) := gdJ1_charAt_3b067_0.2.2.2.2.2.2.1
theorem dJ1_charAt_3b067_9 : decode cJ1_charAt_3b067 9 = .ok (.sipush 255, 3) := gdJ1_charAt_3b067_0.2.2.2.2.2.2.2.1
theorem dJ1_charAt_3b067_12 : decode cJ1_charAt_3b067 12 = .ok (.iand, 1) := gdJ1_charAt_3b067_0.2.2.2.2.2.2.2.2.1
theorem dJ1_charAt_3b067_13 : decode cJ1_charAt_3b067 13 = .ok (.i2c, 1) := gdJ1_charAt_3b067_0.2.2.2.2.2.2.2.2.2.1
theorem dJ1_charAt_3b067_14 : decode cJ1_charAt_3b067 14 = .ok (.ireturn, 1) := gdJ1_charAt_3b067_0.2.2.2.2.2.2.2.2.2.2
theorem gdJ2_getChar_3b067_0 : (decode cJ2_getChar_3b067 0 = .ok (.getstatic 44, 3)) ∧ (decode cJ2_getChar_3b067 3 = .ok (.ifCond .ne 25, 3)) ∧ (decode cJ2_getChar_3b067 6 = .ok (.iload_n 1, 1)) ∧ (decode cJ2_getChar_3b067 7 = .ok (.ifCond .lt 11, 3)) ∧ (decode cJ2_getChar_3b067 10 = .ok (.iload_n 1, 1)) ∧ (decode cJ2_getChar_3b067 11 = .ok (.aload_n 0, 1)) ∧ (decode cJ2_getChar_3b067 12 = .ok (.invokestatic 48, 3)) ∧ (decode cJ2_getChar_3b067 15 = .ok (.if_icmp .lt 13, 3)) ∧ (decode cJ2_getChar_3b067 18 = .ok (.new 52, 3)) ∧ (decode cJ2_getChar_3b067 21 = .ok (.dup, 1)) ∧ (decode cJ2_getChar_3b067 22 = .ok (.ldc 54, 2)) ∧ (decode cJ2_getChar_3b067 24 = .ok (.invokespecial 56, 3)) ∧ (decode cJ2_getChar_3b067 27 = .ok (.athrow, 1)) ∧ (decode cJ2_getChar_3b067 28 = .ok (.iload_n 1, 1)) ∧ (decode cJ2_getChar_3b067 29 = .ok (.iconst 1, 1)) ∧ (decode cJ2_getChar_3b067 30 = .ok (.ishl, 1)) := by decide +kernel
theorem dJ2_getChar_3b067_0 : decode cJ2_getChar_3b067 0 = .ok (.getstatic 44, 3) := gdJ2_getChar_3b067_0.1
theorem dJ2_getChar_3b067_3 : decode cJ2_getChar_3b067 3 = .ok (.ifCond .ne 25, 3) := gdJ2_getChar_3b067_0.2.1
theorem dJ2_getChar_3b067_6 : decode cJ2_getChar_3b067 6 = .ok (.iload_n 1, 1) := gdJ2_getChar_3b067_0.2.2.1
theorem dJ2_getChar_3b067_7 : decode cJ2_getChar_3b067 7 = .ok (.ifCond .lt 11, 3) := gdJ2_getChar_3b067_0.2.2.2.1
theorem dJ2_getChar_3b067_10 : decode cJ2_getChar_3b067 10 = .ok (.iload_n 1, 1) := gdJ2_getChar_3b067_0.2.2.2.2.1
theorem dJ2_getChar_3b067_11 : decode cJ2_getChar_3b067 11 = .ok (.aload_n 0, 1) := gdJ2_getChar_3b067_0.2.2.2.2.2.1
theorem dJ2_getChar_3b067_12 : decode cJ2_getChar_3b067 12 = .ok (.invokestatic 48, 3) := gdJ2_getChar_3b067_0.2.2.2.2.2.2.1
theorem dJ2_getChar_3b067_15 : decode cJ2_getChar_3b067 15 = .ok (.if_icmp .lt 13, 3) := gdJ2_getChar_3b067_0.2.2.2.2.2.2.2.1
theorem dJ2_getChar_3b067_18 : decode cJ2_getChar_3b067 18 = .ok (.new 52, 3) := gdJ2_getChar_3b067_0.2.2.2.2.2.2.2.2.1
theorem dJ2_getChar_3b067_21 : decode cJ2_getChar_3b067 21 = .ok (.dup, 1) := gdJ2_getChar_3b067_0.2.2.2.2.2.2.2.2.2.1
theorem dJ2_getChar_3b067_22 : decode cJ2_getChar_3b067 22 = .ok (.ldc 54, 2) := gdJ2_getChar_3b067_0.2.2.2.2.2.2.2.2.2.2.1
theorem dJ2_getChar_3b067_24 : decode cJ2_getChar_3b067 24 = .ok (.invokespecial 56, 3) := gdJ2_getChar_3b067_0.2.2.2.2.2.2.2.2.2.2.2.1
theorem dJ2_getChar_3b067_27 : decode cJ2_getChar_3b067 27 = .ok (.athrow, 1) := gdJ2_getChar_3b067_0.2.2.2.2.2.2.2.2.2.2.2.2.1
theorem dJ2_getChar_3b067_28 : decode cJ2_getChar_3b067 28 = .ok (.iload_n 1, 1) := gdJ2_getChar_3b067_0.2.2.2.2.2.2.2.2.2.2.2.2.2.1
theorem dJ2_getChar_3b067_29 : decode cJ2_getChar_3b067 29 = .ok (.iconst 1, 1) := gdJ2_getChar_3b067_0.2.2.2.2.2.2.2.2.2.2.2.2.2.2.1
theorem dJ2_getChar_3b067_30 : decode cJ2_getChar_3b067 30 = .ok (.ishl, 1) := gdJ2_getChar_3b067_0.2.2.2.2.2.2.2.2.2.2.2.2.2.2.2
theorem gdJ2_getChar_3b067_31 : (decode cJ2_getChar_3b067 31 = .ok (.istore_n 1, 1)) ∧ (decode cJ2_getChar_3b067 32 = .ok (.aload_n 0, 1)) ∧ (decode cJ2_getChar_3b067 33 = .ok (.iload_n 1, 1)) ∧ (decode cJ2_getChar_3b067 34 = .ok (.iinc 1 1, 3)) ∧ (decode cJ2_getChar_3b067 37 = .ok (.baload, 1)) ∧ (decode cJ2_getChar_3b067 38 = .ok (.sipush 255, 3)) ∧ (decode cJ2_getChar_3b067 41 = .ok (.iand, 1)) ∧ (decode cJ2_getChar_3b067 42 = .ok (.getstatic 59, 3)) ∧ (decode cJ2_getChar_3b067 45 = .ok (.ishl, 1)) ∧ (decode cJ2_getChar_3b067 46 = .ok (.aload_n 0, 1)) ∧ (decode cJ2_getChar_3b067 47 = .ok (.iload_n 1, 1)) ∧ (decode cJ2_getChar_3b067 48 = .ok (.baload, 1)) ∧ (decode cJ2_getChar_3b067 49 = .ok (.sipush 255, 3)) ∧ (decode cJ2_getChar_3b067 52 = .ok (.iand, 1)) ∧ (decode cJ2_getChar_3b067 53 = .ok (.getstatic 63, 3)) ∧ (decode cJ2_getChar_3b067 56 = .ok (.ishl, 1)) := by decide +kernel
theorem dJ2_getChar_3b067_31 : decode cJ2_getChar_3b067 31 = .ok (.istore_n 1, 1) := gdJ2_getChar_3b067_31.1
theorem dJ2_getChar_3b067_32 : decode cJ2_getChar_3b067 32 = .ok (.aload_n 0, 1) := gdJ2_getChar_3b067_31.2.1
theorem dJ2_getChar_3b067_33 : decode cJ2_getChar_3b067 33 = .ok (.iload_n 1, 1) := gdJ2_getChar_3b067_31.2.2.1
theorem dJ2_getChar_3b067_34 : decode cJ2_getChar_3b067 34 = .ok (.iinc 1 1, 3) := gdJ2_getChar_3b067_31.2.2.2.1
theorem dJ2_getChar_3b067_37 : decode cJ2_getChar_3b067 37 = .ok (.baload, 1) := gdJ2_getChar_3b067_31.2.2.2.2.1
theorem dJ2_getChar_3b067_38 : decode cJ2_getChar_3b067 38 = .ok (.sipush 255, 3) := gdJ2_getChar_3b067_31.2.2.2.2.2.1
theorem dJ2_getChar_3b067_41 : decode cJ2_getChar_3b067 41 = .ok (.iand, 1) := gdJ2_getChar_3b067_31.2.2.2.2.2.2.1
theorem dJ2_getChar_3b067_42 : decode cJ2_getChar_3b067 42 = .ok (.getstatic 59, 3) := gdJ2_getChar_3b067_31.2.2.2.2.2.2.2.1
theorem dJ2_getChar_3b067_45 : decode cJ2_getChar_3b067 45 = .ok (.ishl, 1) := gdJ2_getChar_3b067_31.2.2.2.2.2.2.2.2.1
theorem dJ2_getChar_3b067_46 : decode cJ2_getChar_3b067 46 = .ok (.aload_n 0, 1) := gdJ2_getChar_3b067_31.2.2.2.2.2.2.2.2.2.1
theorem dJ2_getChar_3b067_47 : decode cJ2_getChar_3b067 47 = .ok (.iload_n 1, 1) := gdJ2_getChar_3b067_31.2.2.2.2.2.2.2.2.2.2.1
theorem dJ2_getChar_3b067_48 : decode cJ2_getChar_3b067 48 = .ok (.baload, 1) := gdJ2_getChar_3b067_31.2.2.2.2.2.2.2.2.2.2.2.1
theorem dJ2_getChar_3b067_49 : decode cJ2_getChar_3b067 49 = .ok (.sipush 255, 3) := gdJ2_getChar_3b067_31.2.2.2.2.2.2.2.2.2.2.2.2.1
theorem dJ2_getChar_3b067_52 : decode cJ2_getChar_3b067 52 = .ok (.iand, 1) := gdJ2_getChar_3b067_31.2.2.2.2.2.2.2.2.2.2.2.2.2.1
theorem dJ2_getChar_3b067_53 : decode cJ2_getChar_3b067 53 = .ok (.getstatic 63, 3) := gdJ2_getChar_3b067_31.2.2.2.2.2.2.2.2.2.2.2.2.2.2.1
theorem dJ2_getChar_3b067_56 : decode cJ2_getChar_3b067 56 = .ok (.ishl, 1) := gdJ2_getChar_3b067_31.2.2.2.2.2.2.2.2.2.2.2.2.2.2.2
theorem gdJ2_getChar_3b067_57 : (decode cJ2_getChar_3b067 57 = .ok (.ior, 1)) ∧ (decode cJ2_getChar_3b067 58 = .ok (.i2c, 1)) ∧ (decode cJ2_getChar_3b067 59 = .ok (.ireturn, 1)) := by decide +kernel
theorem dJ2_getChar_3b067_57 : decode cJ2_getChar_3b067 57 = .ok (.ior, 1) := gdJ2_getChar_3b067_57.1
theorem dJ2_getChar_3b067_58 : decode cJ2_getChar_3b067 58 = .ok (.i2c, 1) := gdJ2_getChar_3b067_57.2.1
theorem dJ2_getChar_3b067_59 : decode cJ2_getChar_3b067 59 = .ok (.ireturn, 1) := gdJ2_getChar_3b067_57.2.2
theorem gdJ2_length_9d52b_0 : (decode cJ2_length_9d52b 0 = .ok (.aload_n 0, 1)) ∧ (decode cJ2_length_9d52b 1 = .ok (.arraylength, 1)) ∧ (decode cJ2_length_9d52b 2 = .ok (.iconst 1, 1)) ∧ (decode cJ2_length_9d52b 3 = .ok (.ishr, 1)) ∧ (decode cJ2_length_9d52b 4 = .ok (.ireturn, 1)) := by decide +kernel
theorem dJ2_length_9d52b_0 : decode cJ2_length_9d52b 0 = .ok (.aload_n 0, 1) := gdJ2_length_9d52b_0.1
theorem dJ2_length_9d52b_1 : decode cJ2_length_9d52b 1 = .ok (.arraylength, 1) := gdJ2_length_9d52b_0.2.1
theorem dJ2_length_9d52b_2 : decode cJ2_length_9d52b 2 = .ok (.iconst 1, 1) := gdJ2_length_9d52b_0.2.2.1
theorem dJ2_length_9d52b_3 : decode cJ2_length_9d52b 3 = .ok (.ishr, 1) := gdJ2_length_9d52b_0.2.2.2.1
theorem dJ2_length_9d52b_4 : decode cJ2_length_9d52b 4 = .ok (.ireturn, 1) := gdJ2_length_9d52b_0.2.2.2.2
theorem gdJ2_charAt_3b067_0 : (decode cJ2_charAt_3b067 0 = .ok (.iload_n 1, 1)) ∧ (decode cJ2_charAt_3b067 1 = .ok (.aload_n 0, 1)) ∧ (decode cJ2_charAt_3b067 2 = .ok (.invokestatic 67, 3)) ∧ (decode cJ2_charAt_3b067 5 = .ok (.aload_n 0, 1)) ∧ (decode cJ2_charAt_3b067 6 = .ok (.iload_n 1, 1)) ∧ (decode cJ2_charAt_3b067 7 = .ok (.invokestatic 71, 3)) ∧ (decode cJ2_charAt_3b067 10 = .ok (.ireturn, 1)) := by decide +kernel
theorem dJ2_charAt_3b067_0 : decode cJ2_charAt_3b067 0 = .ok (.iload_n 1, 1) := gdJ2_charAt_3b067_0.1
theorem dJ2_charAt_3b067_1 : decode cJ2_charAt_3b067 1 = .ok (.aload_n 0, 1) := gdJ2_charAt_3b067_0.2.1
theorem dJ2_charAt_3b067_2 : decode cJ2_charAt_3b067 2 = .ok (.invokestatic 67, 3) := gdJ2_charAt_3b067_0.2.2.1
theorem dJ2_charAt_3b067_5 : decode cJ2_charAt_3b067 5 = .ok (.aload_n 0, 1) := gdJ2_charAt_3b067_0.2.2.2.1
theorem dJ2_charAt_3b067_6 : decode cJ2_charAt_3b067 6 = .ok (.iload_n 1, 1) := gdJ2_charAt_3b067_0.2.2.2.2.1
theorem dJ2_charAt_3b067_7 : decode cJ2_charAt_3b067 7 = .ok (.invokestatic 71, 3) := gdJ2_charAt_3b067_0.2.2.2.2.2.1
theorem dJ2_charAt_3b067_10 : decode cJ2_charAt_3b067 10 = .ok (.ireturn, 1) := gdJ2_charAt_3b067_0.2.2.2.2.2.2
theorem gdJ2_checkIndex_2214a_0 : (decode cJ2_checkIndex_2214a 0 = .ok (.iload_n 0, 1)) ∧ (decode cJ2_checkIndex_2214a 1 = .ok (.aload_n 1, 1)) ∧ (decode cJ2_checkIndex_2214a 2 = .ok (.invokestatic 48, 3)) ∧ (decode cJ2_checkIndex_2214a 5 = .ok (.invokestatic 414, 3)) ∧ (decode cJ2_checkIndex_2214a 8 = .ok (.return_, 1)) := by decide +kernel
theorem dJ2_checkIndex_2214a_0 : decode cJ2_checkIndex_2214a 0 = .ok (.iload_n 0, 1) := gdJ2_checkIndex_2214a_0.1
theorem dJ2_checkIndex_2214a_1 : decode cJ2_checkIndex_2214a 1 = .ok (.aload_n 1, 1) := gdJ2_checkIndex_2214a_0.2.1
theorem dJ2_checkIndex_2214a_2 : decode cJ2_checkIndex_2214a 2 = .ok (.invokestatic 48, 3) := gdJ2_checkIndex_2214a_0.2.2.1
theorem dJ2_checkIndex_2214a_5 : decode cJ2_checkIndex_2214a 5 = .ok (.invokestatic 414, 3) := gdJ2_checkIndex_2214a_0.2.2.2.1
theorem dJ2_checkIndex_2214a_8 : decode cJ2_checkIndex_2214a 8 = .ok (.return_, 1) := gdJ2_checkIndex_2214a_0.2.2.2.2
theorem gdJ3_checkIndex_8e157_0 : (decode cJ3_checkIndex_8e157 0 = .ok (.iload_n 0, 1)) ∧ (decode cJ3_checkIndex_8e157 1 = .ok (.ifCond .lt 8, 3)) ∧ (decode cJ3_checkIndex_8e157 4 = .ok (.iload_n 0, 1)) ∧ (decode cJ3_checkIndex_8e157 5 = .ok (.iload_n 1, 1)) ∧ (decode cJ3_checkIndex_8e157 6 = .ok (.if_icmp .lt 10, 3)) ∧ (decode cJ3_checkIndex_8e157 9 = .ok (.aload_n 2, 1)) ∧ (decode cJ3_checkIndex_8e157 10 = .ok (.iload_n 0, 1)) ∧ (decode cJ3_checkIndex_8e157 11 = .ok (.iload_n 1, 1)) ∧ (decode cJ3_checkIndex_8e157 12 = .ok (.invokestatic 95, 3)) ∧ (decode cJ3_checkIndex_8e157 15 = .ok (.athrow, 1)) ∧ (decode cJ3_checkIndex_8e157 16 = .ok (.iload_n 0, 1)) ∧ (decode cJ3_checkIndex_8e157 17 = .ok (.ireturn, 1)) := by decide +kernel
theorem dJ3_checkIndex_8e157_0 : decode cJ3_checkIndex_8e157 0 = .ok (.iload_n 0, 1) := gdJ3_checkIndex_8e157_0.1
theorem dJ3_checkIndex_8e157_1 : decode cJ3_checkIndex_8e157 1 = .ok (.ifCond .lt 8, 3) := gdJ3_checkIndex_8e157_0.2.1
theorem dJ3_checkIndex_8e157_4 : decode cJ3_checkIndex_8e157 4 = .ok (.iload_n 0, 1) := gdJ3_checkIndex_8e157_0.2.2.1
theorem dJ3_checkIndex_8e157_5 : decode cJ3_checkIndex_8e157 5 = .ok (.iload_n 1, 1) := gdJ3_checkIndex_8e157_0.2.2.2.1
theorem dJ3_checkIndex_8e157_6 : decode cJ3_checkIndex_8e157 6 = .ok (.if_icmp .lt 10, 3) := gdJ3_checkIndex_8e157_0.2.2.2.2.1
theorem dJ3_checkIndex_8e157_9 : decode cJ3_checkIndex_8e157 9 = .ok (.aload_n 2, 1) := gdJ3_checkIndex_8e157_0.2.2.2.2.2.1
theorem dJ3_checkIndex_8e157_10 : decode cJ3_checkIndex_8e157 10 = .ok (.iload_n 0, 1) := gdJ3_checkIndex_8e157_0.2.2.2.2.2.2.1
theorem dJ3_checkIndex_8e157_11 : decode cJ3_checkIndex_8e157 11 = .ok (.iload_n 1, 1) := gdJ3_checkIndex_8e157_0.2.2.2.2.2.2.2.1
theorem dJ3_checkIndex_8e157_12 : decode cJ3_checkIndex_8e157 12 = .ok (.invokestatic 95, 3) := gdJ3_checkIndex_8e157_0.2.2.2.2.2.2.2.2.1
theorem dJ3_checkIndex_8e157_15 : decode cJ3_checkIndex_8e157 15 = .ok (.athrow, 1) := gdJ3_checkIndex_8e157_0.2.2.2.2.2.2.2.2.2.1
theorem dJ3_checkIndex_8e157_16 : decode cJ3_checkIndex_8e157 16 = .ok (.iload_n 0, 1) := gdJ3_checkIndex_8e157_0.2.2.2.2.2.2.2.2.2.2.1
theorem dJ3_checkIndex_8e157_17 : decode cJ3_checkIndex_8e157 17 = .ok (.ireturn, 1) := gdJ3_checkIndex_8e157_0.2.2.2.2.2.2.2.2.2.2.2
theorem gdL_law_0 : (decode cL_law 0 = .ok (.new 7, 3)) ∧ (decode cL_law 3 = .ok (.dup, 1)) ∧ (decode cL_law 4 = .ok (.invokespecial 9, 3)) ∧ (decode cL_law 7 = .ok (.astore_n 1, 1)) ∧ (decode cL_law 8 = .ok (.new 10, 3)) ∧ (decode cL_law 11 = .ok (.dup, 1)) ∧ (decode cL_law 12 = .ok (.invokespecial 12, 3)) ∧ (decode cL_law 15 = .ok (.astore_n 2, 1)) ∧ (decode cL_law 16 = .ok (.iconst 0, 1)) ∧ (decode cL_law 17 = .ok (.istore_n 3, 1)) ∧ (decode cL_law 18 = .ok (.iload_n 3, 1)) ∧ (decode cL_law 19 = .ok (.aload_n 0, 1)) ∧ (decode cL_law 20 = .ok (.arraylength, 1)) ∧ (decode cL_law 21 = .ok (.bipush 6, 2)) ∧ (decode cL_law 23 = .ok (.isub, 1)) ∧ (decode cL_law 24 = .ok (.if_icmp .gt 1601, 3)) := by decide +kernel
theorem dL_law_0 : decode cL_law 0 = .ok (.new 7, 3) := gdL_law_0.1
theorem dL_law_3 : decode cL_law 3 = .ok (.dup, 1) := gdL_law_0.2.1
theorem dL_law_4 : decode cL_law 4 = .ok (.invokespecial 9, 3) := gdL_law_0.2.2.1
theorem dL_law_7 : decode cL_law 7 = .ok (.astore_n 1, 1) := gdL_law_0.2.2.2.1
theorem dL_law_8 : decode cL_law 8 = .ok (.new 10, 3) := gdL_law_0.2.2.2.2.1
theorem dL_law_11 : decode cL_law 11 = .ok (.dup, 1) := gdL_law_0.2.2.2.2.2.1
theorem dL_law_12 : decode cL_law 12 = .ok (.invokespecial 12, 3) := gdL_law_0.2.2.2.2.2.2.1
theorem dL_law_15 : decode cL_law 15 = .ok (.astore_n 2, 1) := gdL_law_0.2.2.2.2.2.2.2.1
theorem dL_law_16 : decode cL_law 16 = .ok (.iconst 0, 1) := gdL_law_0.2.2.2.2.2.2.2.2.1
theorem dL_law_17 : decode cL_law 17 = .ok (.istore_n 3, 1) := gdL_law_0.2.2.2.2.2.2.2.2.2.1
theorem dL_law_18 : decode cL_law 18 = .ok (.iload_n 3, 1) := gdL_law_0.2.2.2.2.2.2.2.2.2.2.1
theorem dL_law_19 : decode cL_law 19 = .ok (.aload_n 0, 1) := gdL_law_0.2.2.2.2.2.2.2.2.2.2.2.1
theorem dL_law_20 : decode cL_law 20 = .ok (.arraylength, 1) := gdL_law_0.2.2.2.2.2.2.2.2.2.2.2.2.1
theorem dL_law_21 : decode cL_law 21 = .ok (.bipush 6, 2) := gdL_law_0.2.2.2.2.2.2.2.2.2.2.2.2.2.1
theorem dL_law_23 : decode cL_law 23 = .ok (.isub, 1) := gdL_law_0.2.2.2.2.2.2.2.2.2.2.2.2.2.2.1
theorem dL_law_24 : decode cL_law 24 = .ok (.if_icmp .gt 1601, 3) := gdL_law_0.2.2.2.2.2.2.2.2.2.2.2.2.2.2.2
theorem gdL_law_27 : (decode cL_law 27 = .ok (.aload_n 0, 1)) ∧ (decode cL_law 28 = .ok (.iload_n 3, 1)) ∧ (decode cL_law 29 = .ok (.iaload, 1)) ∧ (decode cL_law 30 = .ok (.bipush 63, 2)) ∧ (decode cL_law 32 = .ok (.iand, 1)) ∧ (decode cL_law 33 = .ok (.tableswitch 1586 0 36 #[163, 226, 249, 262, 275, 308, 341, 374, 407, 440, 473, 506, 559, 592, 625, 668, 711, 790, 853, 916, 979, 1032, 1091, 1144, 1187, 1230, 1263, 1276, 1319, 1362, 1395, 1408, 1431, 1454, 1517, 1540, 1563], 163)) ∧ (decode cL_law 196 = .ok (.aload_n 1, 1)) ∧ (decode cL_law 197 = .ok (.aload_n 0, 1)) ∧ (decode cL_law 198 = .ok (.iload_n 3, 1)) ∧ (decode cL_law 199 = .ok (.iconst 1, 1)) ∧ (decode cL_law 200 = .ok (.iadd, 1)) ∧ (decode cL_law 201 = .ok (.iaload, 1)) ∧ (decode cL_law 202 = .ok (.aload_n 0, 1)) ∧ (decode cL_law 203 = .ok (.iload_n 3, 1)) ∧ (decode cL_law 204 = .ok (.iconst 2, 1)) ∧ (decode cL_law 205 = .ok (.iadd, 1)) := by decide +kernel
theorem dL_law_27 : decode cL_law 27 = .ok (.aload_n 0, 1) := gdL_law_27.1
theorem dL_law_28 : decode cL_law 28 = .ok (.iload_n 3, 1) := gdL_law_27.2.1
theorem dL_law_29 : decode cL_law 29 = .ok (.iaload, 1) := gdL_law_27.2.2.1
theorem dL_law_30 : decode cL_law 30 = .ok (.bipush 63, 2) := gdL_law_27.2.2.2.1
theorem dL_law_32 : decode cL_law 32 = .ok (.iand, 1) := gdL_law_27.2.2.2.2.1
theorem dL_law_33 : decode cL_law 33 = .ok (.tableswitch 1586 0 36 #[163, 226, 249, 262, 275, 308, 341, 374, 407, 440, 473, 506, 559, 592, 625, 668, 711, 790, 853, 916, 979, 1032, 1091, 1144, 1187, 1230, 1263, 1276, 1319, 1362, 1395, 1408, 1431, 1454, 1517, 1540, 1563], 163) := gdL_law_27.2.2.2.2.2.1
theorem dL_law_196 : decode cL_law 196 = .ok (.aload_n 1, 1) := gdL_law_27.2.2.2.2.2.2.1
theorem dL_law_197 : decode cL_law 197 = .ok (.aload_n 0, 1) := gdL_law_27.2.2.2.2.2.2.2.1
theorem dL_law_198 : decode cL_law 198 = .ok (.iload_n 3, 1) := gdL_law_27.2.2.2.2.2.2.2.2.1
theorem dL_law_199 : decode cL_law 199 = .ok (.iconst 1, 1) := gdL_law_27.2.2.2.2.2.2.2.2.2.1
theorem dL_law_200 : decode cL_law 200 = .ok (.iadd, 1) := gdL_law_27.2.2.2.2.2.2.2.2.2.2.1
theorem dL_law_201 : decode cL_law 201 = .ok (.iaload, 1) := gdL_law_27.2.2.2.2.2.2.2.2.2.2.2.1
theorem dL_law_202 : decode cL_law 202 = .ok (.aload_n 0, 1) := gdL_law_27.2.2.2.2.2.2.2.2.2.2.2.2.1
theorem dL_law_203 : decode cL_law 203 = .ok (.iload_n 3, 1) := gdL_law_27.2.2.2.2.2.2.2.2.2.2.2.2.2.1
theorem dL_law_204 : decode cL_law 204 = .ok (.iconst 2, 1) := gdL_law_27.2.2.2.2.2.2.2.2.2.2.2.2.2.2.1
theorem dL_law_205 : decode cL_law 205 = .ok (.iadd, 1) := gdL_law_27.2.2.2.2.2.2.2.2.2.2.2.2.2.2.2
theorem gdL_law_206 : (decode cL_law 206 = .ok (.iaload, 1)) ∧ (decode cL_law 207 = .ok (.aload_n 0, 1)) ∧ (decode cL_law 208 = .ok (.iload_n 3, 1)) ∧ (decode cL_law 209 = .ok (.iconst 3, 1)) ∧ (decode cL_law 210 = .ok (.iadd, 1)) ∧ (decode cL_law 211 = .ok (.iaload, 1)) ∧ (decode cL_law 212 = .ok (.aload_n 0, 1)) ∧ (decode cL_law 213 = .ok (.iload_n 3, 1)) ∧ (decode cL_law 214 = .ok (.iconst 4, 1)) ∧ (decode cL_law 215 = .ok (.iadd, 1)) ∧ (decode cL_law 216 = .ok (.iaload, 1)) ∧ (decode cL_law 217 = .ok (.aload_n 0, 1)) ∧ (decode cL_law 218 = .ok (.iload_n 3, 1)) ∧ (decode cL_law 219 = .ok (.iconst 5, 1)) ∧ (decode cL_law 220 = .ok (.iadd, 1)) ∧ (decode cL_law 221 = .ok (.iaload, 1)) := by decide +kernel
theorem dL_law_206 : decode cL_law 206 = .ok (.iaload, 1) := gdL_law_206.1
theorem dL_law_207 : decode cL_law 207 = .ok (.aload_n 0, 1) := gdL_law_206.2.1
theorem dL_law_208 : decode cL_law 208 = .ok (.iload_n 3, 1) := gdL_law_206.2.2.1
theorem dL_law_209 : decode cL_law 209 = .ok (.iconst 3, 1) := gdL_law_206.2.2.2.1
theorem dL_law_210 : decode cL_law 210 = .ok (.iadd, 1) := gdL_law_206.2.2.2.2.1
theorem dL_law_211 : decode cL_law 211 = .ok (.iaload, 1) := gdL_law_206.2.2.2.2.2.1
theorem dL_law_212 : decode cL_law 212 = .ok (.aload_n 0, 1) := gdL_law_206.2.2.2.2.2.2.1
theorem dL_law_213 : decode cL_law 213 = .ok (.iload_n 3, 1) := gdL_law_206.2.2.2.2.2.2.2.1
theorem dL_law_214 : decode cL_law 214 = .ok (.iconst 4, 1) := gdL_law_206.2.2.2.2.2.2.2.2.1
theorem dL_law_215 : decode cL_law 215 = .ok (.iadd, 1) := gdL_law_206.2.2.2.2.2.2.2.2.2.1
theorem dL_law_216 : decode cL_law 216 = .ok (.iaload, 1) := gdL_law_206.2.2.2.2.2.2.2.2.2.2.1
theorem dL_law_217 : decode cL_law 217 = .ok (.aload_n 0, 1) := gdL_law_206.2.2.2.2.2.2.2.2.2.2.2.1
theorem dL_law_218 : decode cL_law 218 = .ok (.iload_n 3, 1) := gdL_law_206.2.2.2.2.2.2.2.2.2.2.2.2.1
theorem dL_law_219 : decode cL_law 219 = .ok (.iconst 5, 1) := gdL_law_206.2.2.2.2.2.2.2.2.2.2.2.2.2.1
theorem dL_law_220 : decode cL_law 220 = .ok (.iadd, 1) := gdL_law_206.2.2.2.2.2.2.2.2.2.2.2.2.2.2.1
theorem dL_law_221 : decode cL_law 221 = .ok (.iaload, 1) := gdL_law_206.2.2.2.2.2.2.2.2.2.2.2.2.2.2.2
theorem gdL_law_222 : (decode cL_law 222 = .ok (.invokevirtual 13, 3)) ∧ (decode cL_law 225 = .ok (.pop, 1)) ∧ (decode cL_law 226 = .ok (.aload_n 2, 1)) ∧ (decode cL_law 227 = .ok (.aload_n 0, 1)) ∧ (decode cL_law 228 = .ok (.iload_n 3, 1)) ∧ (decode cL_law 229 = .ok (.iconst 1, 1)) ∧ (decode cL_law 230 = .ok (.iadd, 1)) ∧ (decode cL_law 231 = .ok (.iaload, 1)) ∧ (decode cL_law 232 = .ok (.aload_n 0, 1)) ∧ (decode cL_law 233 = .ok (.iload_n 3, 1)) ∧ (decode cL_law 234 = .ok (.iconst 2, 1)) ∧ (decode cL_law 235 = .ok (.iadd, 1)) ∧ (decode cL_law 236 = .ok (.iaload, 1)) ∧ (decode cL_law 237 = .ok (.aload_n 0, 1)) ∧ (decode cL_law 238 = .ok (.iload_n 3, 1)) ∧ (decode cL_law 239 = .ok (.iconst 3, 1)) := by decide +kernel
theorem dL_law_222 : decode cL_law 222 = .ok (.invokevirtual 13, 3) := gdL_law_222.1
theorem dL_law_225 : decode cL_law 225 = .ok (.pop, 1) := gdL_law_222.2.1
theorem dL_law_226 : decode cL_law 226 = .ok (.aload_n 2, 1) := gdL_law_222.2.2.1
theorem dL_law_227 : decode cL_law 227 = .ok (.aload_n 0, 1) := gdL_law_222.2.2.2.1
theorem dL_law_228 : decode cL_law 228 = .ok (.iload_n 3, 1) := gdL_law_222.2.2.2.2.1
theorem dL_law_229 : decode cL_law 229 = .ok (.iconst 1, 1) := gdL_law_222.2.2.2.2.2.1
theorem dL_law_230 : decode cL_law 230 = .ok (.iadd, 1) := gdL_law_222.2.2.2.2.2.2.1
theorem dL_law_231 : decode cL_law 231 = .ok (.iaload, 1) := gdL_law_222.2.2.2.2.2.2.2.1
theorem dL_law_232 : decode cL_law 232 = .ok (.aload_n 0, 1) := gdL_law_222.2.2.2.2.2.2.2.2.1
theorem dL_law_233 : decode cL_law 233 = .ok (.iload_n 3, 1) := gdL_law_222.2.2.2.2.2.2.2.2.2.1
theorem dL_law_234 : decode cL_law 234 = .ok (.iconst 2, 1) := gdL_law_222.2.2.2.2.2.2.2.2.2.2.1
theorem dL_law_235 : decode cL_law 235 = .ok (.iadd, 1) := gdL_law_222.2.2.2.2.2.2.2.2.2.2.2.1
theorem dL_law_236 : decode cL_law 236 = .ok (.iaload, 1) := gdL_law_222.2.2.2.2.2.2.2.2.2.2.2.2.1
theorem dL_law_237 : decode cL_law 237 = .ok (.aload_n 0, 1) := gdL_law_222.2.2.2.2.2.2.2.2.2.2.2.2.2.1
theorem dL_law_238 : decode cL_law 238 = .ok (.iload_n 3, 1) := gdL_law_222.2.2.2.2.2.2.2.2.2.2.2.2.2.2.1
theorem dL_law_239 : decode cL_law 239 = .ok (.iconst 3, 1) := gdL_law_222.2.2.2.2.2.2.2.2.2.2.2.2.2.2.2
theorem gdL_law_240 : (decode cL_law 240 = .ok (.iadd, 1)) ∧ (decode cL_law 241 = .ok (.iaload, 1)) ∧ (decode cL_law 242 = .ok (.aload_n 0, 1)) ∧ (decode cL_law 243 = .ok (.iload_n 3, 1)) ∧ (decode cL_law 244 = .ok (.iconst 4, 1)) ∧ (decode cL_law 245 = .ok (.iadd, 1)) ∧ (decode cL_law 246 = .ok (.iaload, 1)) ∧ (decode cL_law 247 = .ok (.aload_n 0, 1)) ∧ (decode cL_law 248 = .ok (.iload_n 3, 1)) ∧ (decode cL_law 249 = .ok (.iconst 5, 1)) ∧ (decode cL_law 250 = .ok (.iadd, 1)) ∧ (decode cL_law 251 = .ok (.iaload, 1)) ∧ (decode cL_law 252 = .ok (.invokevirtual 17, 3)) ∧ (decode cL_law 255 = .ok (.pop, 1)) ∧ (decode cL_law 256 = .ok (.goto 1363, 3)) ∧ (decode cL_law 259 = .ok (.aload_n 1, 1)) := by decide +kernel
theorem dL_law_240 : decode cL_law 240 = .ok (.iadd, 1) := gdL_law_240.1
theorem dL_law_241 : decode cL_law 241 = .ok (.iaload, 1) := gdL_law_240.2.1
theorem dL_law_242 : decode cL_law 242 = .ok (.aload_n 0, 1) := gdL_law_240.2.2.1
theorem dL_law_243 : decode cL_law 243 = .ok (.iload_n 3, 1) := gdL_law_240.2.2.2.1
theorem dL_law_244 : decode cL_law 244 = .ok (.iconst 4, 1) := gdL_law_240.2.2.2.2.1
theorem dL_law_245 : decode cL_law 245 = .ok (.iadd, 1) := gdL_law_240.2.2.2.2.2.1
theorem dL_law_246 : decode cL_law 246 = .ok (.iaload, 1) := gdL_law_240.2.2.2.2.2.2.1
theorem dL_law_247 : decode cL_law 247 = .ok (.aload_n 0, 1) := gdL_law_240.2.2.2.2.2.2.2.1
theorem dL_law_248 : decode cL_law 248 = .ok (.iload_n 3, 1) := gdL_law_240.2.2.2.2.2.2.2.2.1
theorem dL_law_249 : decode cL_law 249 = .ok (.iconst 5, 1) := gdL_law_240.2.2.2.2.2.2.2.2.2.1
theorem dL_law_250 : decode cL_law 250 = .ok (.iadd, 1) := gdL_law_240.2.2.2.2.2.2.2.2.2.2.1
theorem dL_law_251 : decode cL_law 251 = .ok (.iaload, 1) := gdL_law_240.2.2.2.2.2.2.2.2.2.2.2.1
theorem dL_law_252 : decode cL_law 252 = .ok (.invokevirtual 17, 3) := gdL_law_240.2.2.2.2.2.2.2.2.2.2.2.2.1
theorem dL_law_255 : decode cL_law 255 = .ok (.pop, 1) := gdL_law_240.2.2.2.2.2.2.2.2.2.2.2.2.2.1
theorem dL_law_256 : decode cL_law 256 = .ok (.goto 1363, 3) := gdL_law_240.2.2.2.2.2.2.2.2.2.2.2.2.2.2.1
theorem dL_law_259 : decode cL_law 259 = .ok (.aload_n 1, 1) := gdL_law_240.2.2.2.2.2.2.2.2.2.2.2.2.2.2.2
theorem gdL_law_260 : (decode cL_law 260 = .ok (.aload_n 0, 1)) ∧ (decode cL_law 261 = .ok (.iload_n 3, 1)) ∧ (decode cL_law 262 = .ok (.iconst 1, 1)) ∧ (decode cL_law 263 = .ok (.iadd, 1)) ∧ (decode cL_law 264 = .ok (.iaload, 1)) ∧ (decode cL_law 265 = .ok (.invokevirtual 18, 3)) ∧ (decode cL_law 268 = .ok (.pop, 1)) ∧ (decode cL_law 269 = .ok (.aload_n 2, 1)) ∧ (decode cL_law 270 = .ok (.aload_n 0, 1)) ∧ (decode cL_law 271 = .ok (.iload_n 3, 1)) ∧ (decode cL_law 272 = .ok (.iconst 1, 1)) ∧ (decode cL_law 273 = .ok (.iadd, 1)) ∧ (decode cL_law 274 = .ok (.iaload, 1)) ∧ (decode cL_law 275 = .ok (.invokevirtual 22, 3)) ∧ (decode cL_law 278 = .ok (.pop, 1)) ∧ (decode cL_law 279 = .ok (.goto 1340, 3)) := by decide +kernel
theorem dL_law_260 : decode cL_law 260 = .ok (.aload_n 0, 1) := gdL_law_260.1
theorem dL_law_261 : decode cL_law 261 = .ok (.iload_n 3, 1) := gdL_law_260.2.1
theorem dL_law_262 : decode cL_law 262 = .ok (.iconst 1, 1) := gdL_law_260.2.2.1
theorem dL_law_263 : decode cL_law 263 = .ok (.iadd, 1) := gdL_law_260.2.2.2.1
theorem dL_law_264 : decode cL_law 264 = .ok (.iaload, 1) := gdL_law_260.2.2.2.2.1
theorem dL_law_265 : decode cL_law 265 = .ok (.invokevirtual 18, 3) := gdL_law_260.2.2.2.2.2.1
theorem dL_law_268 : decode cL_law 268 = .ok (.pop, 1) := gdL_law_260.2.2.2.2.2.2.1
theorem dL_law_269 : decode cL_law 269 = .ok (.aload_n 2, 1) := gdL_law_260.2.2.2.2.2.2.2.1
theorem dL_law_270 : decode cL_law 270 = .ok (.aload_n 0, 1) := gdL_law_260.2.2.2.2.2.2.2.2.1
theorem dL_law_271 : decode cL_law 271 = .ok (.iload_n 3, 1) := gdL_law_260.2.2.2.2.2.2.2.2.2.1
theorem dL_law_272 : decode cL_law 272 = .ok (.iconst 1, 1) := gdL_law_260.2.2.2.2.2.2.2.2.2.2.1
theorem dL_law_273 : decode cL_law 273 = .ok (.iadd, 1) := gdL_law_260.2.2.2.2.2.2.2.2.2.2.2.1
theorem dL_law_274 : decode cL_law 274 = .ok (.iaload, 1) := gdL_law_260.2.2.2.2.2.2.2.2.2.2.2.2.1
theorem dL_law_275 : decode cL_law 275 = .ok (.invokevirtual 22, 3) := gdL_law_260.2.2.2.2.2.2.2.2.2.2.2.2.2.1
theorem dL_law_278 : decode cL_law 278 = .ok (.pop, 1) := gdL_law_260.2.2.2.2.2.2.2.2.2.2.2.2.2.2.1
theorem dL_law_279 : decode cL_law 279 = .ok (.goto 1340, 3) := gdL_law_260.2.2.2.2.2.2.2.2.2.2.2.2.2.2.2
theorem gdL_law_282 : (decode cL_law 282 = .ok (.aload_n 1, 1)) ∧ (decode cL_law 283 = .ok (.invokevirtual 23, 3)) ∧ (decode cL_law 286 = .ok (.pop, 1)) ∧ (decode cL_law 287 = .ok (.aload_n 2, 1)) ∧ (decode cL_law 288 = .ok (.invokevirtual 27, 3)) ∧ (decode cL_law 291 = .ok (.pop, 1)) ∧ (decode cL_law 292 = .ok (.goto 1327, 3)) ∧ (decode cL_law 295 = .ok (.aload_n 1, 1)) ∧ (decode cL_law 296 = .ok (.invokevirtual 28, 3)) ∧ (decode cL_law 299 = .ok (.pop, 1)) ∧ (decode cL_law 300 = .ok (.aload_n 2, 1)) ∧ (decode cL_law 301 = .ok (.invokevirtual 31, 3)) ∧ (decode cL_law 304 = .ok (.pop, 1)) ∧ (decode cL_law 305 = .ok (.goto 1314, 3)) ∧ (decode cL_law 308 = .ok (.aload_n 1, 1)) ∧ (decode cL_law 309 = .ok (.aload_n 0, 1)) := by decide +kernel
theorem dL_law_282 : decode cL_law 282 = .ok (.aload_n 1, 1) := gdL_law_282.1
theorem dL_law_283 : decode cL_law 283 = .ok (.invokevirtual 23, 3) := gdL_law_282.2.1
theorem dL_law_286 : decode cL_law 286 = .ok (.pop, 1) := gdL_law_282.2.2.1
theorem dL_law_287 : decode cL_law 287 = .ok (.aload_n 2, 1) := gdL_law_282.2.2.2.1
theorem dL_law_288 : decode cL_law 288 = .ok (.invokevirtual 27, 3) := gdL_law_282.2.2.2.2.1
theorem dL_law_291 : decode cL_law 291 = .ok (.pop, 1) := gdL_law_282.2.2.2.2.2.1
theorem dL_law_292 : decode cL_law 292 = .ok (.goto 1327, 3) := gdL_law_282.2.2.2.2.2.2.1
theorem dL_law_295 : decode cL_law 295 = .ok (.aload_n 1, 1) := gdL_law_282.2.2.2.2.2.2.2.1
theorem dL_law_296 : decode cL_law 296 = .ok (.invokevirtual 28, 3) := gdL_law_282.2.2.2.2.2.2.2.2.1
theorem dL_law_299 : decode cL_law 299 = .ok (.pop, 1) := gdL_law_282.2.2.2.2.2.2.2.2.2.1
theorem dL_law_300 : decode cL_law 300 = .ok (.aload_n 2, 1) := gdL_law_282.2.2.2.2.2.2.2.2.2.2.1
theorem dL_law_301 : decode cL_law 301 = .ok (.invokevirtual 31, 3) := gdL_law_282.2.2.2.2.2.2.2.2.2.2.2.1
theorem dL_law_304 : decode cL_law 304 = .ok (.pop, 1) := gdL_law_282.2.2.2.2.2.2.2.2.2.2.2.2.1
theorem dL_law_305 : decode cL_law 305 = .ok (.goto 1314, 3) := gdL_law_282.2.2.2.2.2.2.2.2.2.2.2.2.2.1
theorem dL_law_308 : decode cL_law 308 = .ok (.aload_n 1, 1) := gdL_law_282.2.2.2.2.2.2.2.2.2.2.2.2.2.2.1
theorem dL_law_309 : decode cL_law 309 = .ok (.aload_n 0, 1) := gdL_law_282.2.2.2.2.2.2.2.2.2.2.2.2.2.2.2
theorem gdL_law_310 : (decode cL_law 310 = .ok (.iload_n 3, 1)) ∧ (decode cL_law 311 = .ok (.iconst 1, 1)) ∧ (decode cL_law 312 = .ok (.iadd, 1)) ∧ (decode cL_law 313 = .ok (.iaload, 1)) ∧ (decode cL_law 314 = .ok (.aload_n 0, 1)) ∧ (decode cL_law 315 = .ok (.iload_n 3, 1)) ∧ (decode cL_law 316 = .ok (.iconst 2, 1)) ∧ (decode cL_law 317 = .ok (.iadd, 1)) ∧ (decode cL_law 318 = .ok (.iaload, 1)) ∧ (decode cL_law 319 = .ok (.invokevirtual 32, 3)) ∧ (decode cL_law 322 = .ok (.pop, 1)) ∧ (decode cL_law 323 = .ok (.aload_n 2, 1)) ∧ (decode cL_law 324 = .ok (.aload_n 0, 1)) ∧ (decode cL_law 325 = .ok (.iload_n 3, 1)) ∧ (decode cL_law 326 = .ok (.iconst 1, 1)) ∧ (decode cL_law 327 = .ok (.iadd, 1)) := by decide +kernel
theorem dL_law_310 : decode cL_law 310 = .ok (.iload_n 3, 1) := gdL_law_310.1
theorem dL_law_311 : decode cL_law 311 = .ok (.iconst 1, 1) := gdL_law_310.2.1
theorem dL_law_312 : decode cL_law 312 = .ok (.iadd, 1) := gdL_law_310.2.2.1
theorem dL_law_313 : decode cL_law 313 = .ok (.iaload, 1) := gdL_law_310.2.2.2.1
theorem dL_law_314 : decode cL_law 314 = .ok (.aload_n 0, 1) := gdL_law_310.2.2.2.2.1
theorem dL_law_315 : decode cL_law 315 = .ok (.iload_n 3, 1) := gdL_law_310.2.2.2.2.2.1
theorem dL_law_316 : decode cL_law 316 = .ok (.iconst 2, 1) := gdL_law_310.2.2.2.2.2.2.1
theorem dL_law_317 : decode cL_law 317 = .ok (.iadd, 1) := gdL_law_310.2.2.2.2.2.2.2.1
theorem dL_law_318 : decode cL_law 318 = .ok (.iaload, 1) := gdL_law_310.2.2.2.2.2.2.2.2.1
theorem dL_law_319 : decode cL_law 319 = .ok (.invokevirtual 32, 3) := gdL_law_310.2.2.2.2.2.2.2.2.2.1
theorem dL_law_322 : decode cL_law 322 = .ok (.pop, 1) := gdL_law_310.2.2.2.2.2.2.2.2.2.2.1
theorem dL_law_323 : decode cL_law 323 = .ok (.aload_n 2, 1) := gdL_law_310.2.2.2.2.2.2.2.2.2.2.2.1
theorem dL_law_324 : decode cL_law 324 = .ok (.aload_n 0, 1) := gdL_law_310.2.2.2.2.2.2.2.2.2.2.2.2.1
theorem dL_law_325 : decode cL_law 325 = .ok (.iload_n 3, 1) := gdL_law_310.2.2.2.2.2.2.2.2.2.2.2.2.2.1
theorem dL_law_326 : decode cL_law 326 = .ok (.iconst 1, 1) := gdL_law_310.2.2.2.2.2.2.2.2.2.2.2.2.2.2.1
theorem dL_law_327 : decode cL_law 327 = .ok (.iadd, 1) := gdL_law_310.2.2.2.2.2.2.2.2.2.2.2.2.2.2.2
theorem gdL_law_328 : (decode cL_law 328 = .ok (.iaload, 1)) ∧ (decode cL_law 329 = .ok (.aload_n 0, 1)) ∧ (decode cL_law 330 = .ok (.iload_n 3, 1)) ∧ (decode cL_law 331 = .ok (.iconst 2, 1)) ∧ (decode cL_law 332 = .ok (.iadd, 1)) ∧ (decode cL_law 333 = .ok (.iaload, 1)) ∧ (decode cL_law 334 = .ok (.invokevirtual 36, 3)) ∧ (decode cL_law 337 = .ok (.pop, 1)) ∧ (decode cL_law 338 = .ok (.goto 1281, 3)) ∧ (decode cL_law 341 = .ok (.aload_n 1, 1)) ∧ (decode cL_law 342 = .ok (.aload_n 0, 1)) ∧ (decode cL_law 343 = .ok (.iload_n 3, 1)) ∧ (decode cL_law 344 = .ok (.iconst 1, 1)) ∧ (decode cL_law 345 = .ok (.iadd, 1)) ∧ (decode cL_law 346 = .ok (.iaload, 1)) ∧ (decode cL_law 347 = .ok (.aload_n 0, 1)) := by decide +kernel
theorem dL_law_328 : decode cL_law 328 = .ok (.iaload, 1) := gdL_law_328.1
theorem dL_law_329 : decode cL_law 329 = .ok (.aload_n 0, 1) := gdL_law_328.2.1
theorem dL_law_330 : decode cL_law 330 = .ok (.iload_n 3, 1) := gdL_law_328.2.2.1
theorem dL_law_331 : decode cL_law 331 = .ok (.iconst 2, 1) := gdL_law_328.2.2.2.1
theorem dL_law_332 : decode cL_law 332 = .ok (.iadd, 1) := gdL_law_328.2.2.2.2.1
theorem dL_law_333 : decode cL_law 333 = .ok (.iaload, 1) := gdL_law_328.2.2.2.2.2.1
theorem dL_law_334 : decode cL_law 334 = .ok (.invokevirtual 36, 3) := gdL_law_328.2.2.2.2.2.2.1
theorem dL_law_337 : decode cL_law 337 = .ok (.pop, 1) := gdL_law_328.2.2.2.2.2.2.2.1
theorem dL_law_338 : decode cL_law 338 = .ok (.goto 1281, 3) := gdL_law_328.2.2.2.2.2.2.2.2.1
theorem dL_law_341 : decode cL_law 341 = .ok (.aload_n 1, 1) := gdL_law_328.2.2.2.2.2.2.2.2.2.1
theorem dL_law_342 : decode cL_law 342 = .ok (.aload_n 0, 1) := gdL_law_328.2.2.2.2.2.2.2.2.2.2.1
theorem dL_law_343 : decode cL_law 343 = .ok (.iload_n 3, 1) := gdL_law_328.2.2.2.2.2.2.2.2.2.2.2.1
theorem dL_law_344 : decode cL_law 344 = .ok (.iconst 1, 1) := gdL_law_328.2.2.2.2.2.2.2.2.2.2.2.2.1
theorem dL_law_345 : decode cL_law 345 = .ok (.iadd, 1) := gdL_law_328.2.2.2.2.2.2.2.2.2.2.2.2.2.1
theorem dL_law_346 : decode cL_law 346 = .ok (.iaload, 1) := gdL_law_328.2.2.2.2.2.2.2.2.2.2.2.2.2.2.1
theorem dL_law_347 : decode cL_law 347 = .ok (.aload_n 0, 1) := gdL_law_328.2.2.2.2.2.2.2.2.2.2.2.2.2.2.2
theorem gdL_law_348 : (decode cL_law 348 = .ok (.iload_n 3, 1)) ∧ (decode cL_law 349 = .ok (.iconst 2, 1)) ∧ (decode cL_law 350 = .ok (.iadd, 1)) ∧ (decode cL_law 351 = .ok (.iaload, 1)) ∧ (decode cL_law 352 = .ok (.invokevirtual 37, 3)) ∧ (decode cL_law 355 = .ok (.pop, 1)) ∧ (decode cL_law 356 = .ok (.aload_n 2, 1)) ∧ (decode cL_law 357 = .ok (.aload_n 0, 1)) ∧ (decode cL_law 358 = .ok (.iload_n 3, 1)) ∧ (decode cL_law 359 = .ok (.iconst 1, 1)) ∧ (decode cL_law 360 = .ok (.iadd, 1)) ∧ (decode cL_law 361 = .ok (.iaload, 1)) ∧ (decode cL_law 362 = .ok (.aload_n 0, 1)) ∧ (decode cL_law 363 = .ok (.iload_n 3, 1)) ∧ (decode cL_law 364 = .ok (.iconst 2, 1)) ∧ (decode cL_law 365 = .ok (.iadd, 1)) := by decide +kernel
theorem dL_law_348 : decode cL_law 348 = .ok (.iload_n 3, 1) := gdL_law_348.1
theorem dL_law_349 : decode cL_law 349 = .ok (.iconst 2, 1) := gdL_law_348.2.1
theorem dL_law_350 : decode cL_law 350 = .ok (.iadd, 1) := gdL_law_348.2.2.1
theorem dL_law_351 : decode cL_law 351 = .ok (.iaload, 1) := gdL_law_348.2.2.2.1
theorem dL_law_352 : decode cL_law 352 = .ok (.invokevirtual 37, 3) := gdL_law_348.2.2.2.2.1
theorem dL_law_355 : decode cL_law 355 = .ok (.pop, 1) := gdL_law_348.2.2.2.2.2.1
theorem dL_law_356 : decode cL_law 356 = .ok (.aload_n 2, 1) := gdL_law_348.2.2.2.2.2.2.1
theorem dL_law_357 : decode cL_law 357 = .ok (.aload_n 0, 1) := gdL_law_348.2.2.2.2.2.2.2.1
theorem dL_law_358 : decode cL_law 358 = .ok (.iload_n 3, 1) := gdL_law_348.2.2.2.2.2.2.2.2.1
theorem dL_law_359 : decode cL_law 359 = .ok (.iconst 1, 1) := gdL_law_348.2.2.2.2.2.2.2.2.2.1
theorem dL_law_360 : decode cL_law 360 = .ok (.iadd, 1) := gdL_law_348.2.2.2.2.2.2.2.2.2.2.1
theorem dL_law_361 : decode cL_law 361 = .ok (.iaload, 1) := gdL_law_348.2.2.2.2.2.2.2.2.2.2.2.1
theorem dL_law_362 : decode cL_law 362 = .ok (.aload_n 0, 1) := gdL_law_348.2.2.2.2.2.2.2.2.2.2.2.2.1
theorem dL_law_363 : decode cL_law 363 = .ok (.iload_n 3, 1) := gdL_law_348.2.2.2.2.2.2.2.2.2.2.2.2.2.1
theorem dL_law_364 : decode cL_law 364 = .ok (.iconst 2, 1) := gdL_law_348.2.2.2.2.2.2.2.2.2.2.2.2.2.2.1
theorem dL_law_365 : decode cL_law 365 = .ok (.iadd, 1) := gdL_law_348.2.2.2.2.2.2.2.2.2.2.2.2.2.2.2
theorem gdL_law_366 : (decode cL_law 366 = .ok (.iaload, 1)) ∧ (decode cL_law 367 = .ok (.invokevirtual 40, 3)) ∧ (decode cL_law 370 = .ok (.pop, 1)) ∧ (decode cL_law 371 = .ok (.goto 1248, 3)) ∧ (decode cL_law 374 = .ok (.aload_n 1, 1)) ∧ (decode cL_law 375 = .ok (.aload_n 0, 1)) ∧ (decode cL_law 376 = .ok (.iload_n 3, 1)) ∧ (decode cL_law 377 = .ok (.iconst 1, 1)) ∧ (decode cL_law 378 = .ok (.iadd, 1)) ∧ (decode cL_law 379 = .ok (.iaload, 1)) ∧ (decode cL_law 380 = .ok (.aload_n 0, 1)) ∧ (decode cL_law 381 = .ok (.iload_n 3, 1)) ∧ (decode cL_law 382 = .ok (.iconst 2, 1)) ∧ (decode cL_law 383 = .ok (.iadd, 1)) ∧ (decode cL_law 384 = .ok (.iaload, 1)) ∧ (decode cL_law 385 = .ok (.invokevirtual 41, 3)) := by decide +kernel
theorem dL_law_366 : decode cL_law 366 = .ok (.iaload, 1) := gdL_law_366.1
theorem dL_law_367 : decode cL_law 367 = .ok (.invokevirtual 40, 3) := gdL_law_366.2.1
theorem dL_law_370 : decode cL_law 370 = .ok (.pop, 1) := gdL_law_366.2.2.1
theorem dL_law_371 : decode cL_law 371 = .ok (.goto 1248, 3) := gdL_law_366.2.2.2.1
theorem dL_law_374 : decode cL_law 374 = .ok (.aload_n 1, 1) := gdL_law_366.2.2.2.2.1
theorem dL_law_375 : decode cL_law 375 = .ok (.aload_n 0, 1) := gdL_law_366.2.2.2.2.2.1
theorem dL_law_376 : decode cL_law 376 = .ok (.iload_n 3, 1) := gdL_law_366.2.2.2.2.2.2.1
theorem dL_law_377 : decode cL_law 377 = .ok (.iconst 1, 1) := gdL_law_366.2.2.2.2.2.2.2.1
theorem dL_law_378 : decode cL_law 378 = .ok (.iadd, 1) := gdL_law_366.2.2.2.2.2.2.2.2.1
theorem dL_law_379 : decode cL_law 379 = .ok (.iaload, 1) := gdL_law_366.2.2.2.2.2.2.2.2.2.1
theorem dL_law_380 : decode cL_law 380 = .ok (.aload_n 0, 1) := gdL_law_366.2.2.2.2.2.2.2.2.2.2.1
theorem dL_law_381 : decode cL_law 381 = .ok (.iload_n 3, 1) := gdL_law_366.2.2.2.2.2.2.2.2.2.2.2.1
theorem dL_law_382 : decode cL_law 382 = .ok (.iconst 2, 1) := gdL_law_366.2.2.2.2.2.2.2.2.2.2.2.2.1
theorem dL_law_383 : decode cL_law 383 = .ok (.iadd, 1) := gdL_law_366.2.2.2.2.2.2.2.2.2.2.2.2.2.1
theorem dL_law_384 : decode cL_law 384 = .ok (.iaload, 1) := gdL_law_366.2.2.2.2.2.2.2.2.2.2.2.2.2.2.1
theorem dL_law_385 : decode cL_law 385 = .ok (.invokevirtual 41, 3) := gdL_law_366.2.2.2.2.2.2.2.2.2.2.2.2.2.2.2
theorem gdL_law_388 : (decode cL_law 388 = .ok (.pop, 1)) ∧ (decode cL_law 389 = .ok (.aload_n 2, 1)) ∧ (decode cL_law 390 = .ok (.aload_n 0, 1)) ∧ (decode cL_law 391 = .ok (.iload_n 3, 1)) ∧ (decode cL_law 392 = .ok (.iconst 1, 1)) ∧ (decode cL_law 393 = .ok (.iadd, 1)) ∧ (decode cL_law 394 = .ok (.iaload, 1)) ∧ (decode cL_law 395 = .ok (.aload_n 0, 1)) ∧ (decode cL_law 396 = .ok (.iload_n 3, 1)) ∧ (decode cL_law 397 = .ok (.iconst 2, 1)) ∧ (decode cL_law 398 = .ok (.iadd, 1)) ∧ (decode cL_law 399 = .ok (.iaload, 1)) ∧ (decode cL_law 400 = .ok (.invokevirtual 44, 3)) ∧ (decode cL_law 403 = .ok (.pop, 1)) ∧ (decode cL_law 404 = .ok (.goto 1215, 3)) ∧ (decode cL_law 407 = .ok (.aload_n 1, 1)) := by decide +kernel
theorem dL_law_388 : decode cL_law 388 = .ok (.pop, 1) := gdL_law_388.1
theorem dL_law_389 : decode cL_law 389 = .ok (.aload_n 2, 1) := gdL_law_388.2.1
theorem dL_law_390 : decode cL_law 390 = .ok (.aload_n 0, 1) := gdL_law_388.2.2.1
theorem dL_law_391 : decode cL_law 391 = .ok (.iload_n 3, 1) := gdL_law_388.2.2.2.1
theorem dL_law_392 : decode cL_law 392 = .ok (.iconst 1, 1) := gdL_law_388.2.2.2.2.1
theorem dL_law_393 : decode cL_law 393 = .ok (.iadd, 1) := gdL_law_388.2.2.2.2.2.1
theorem dL_law_394 : decode cL_law 394 = .ok (.iaload, 1) := gdL_law_388.2.2.2.2.2.2.1
theorem dL_law_395 : decode cL_law 395 = .ok (.aload_n 0, 1) := gdL_law_388.2.2.2.2.2.2.2.1
theorem dL_law_396 : decode cL_law 396 = .ok (.iload_n 3, 1) := gdL_law_388.2.2.2.2.2.2.2.2.1
theorem dL_law_397 : decode cL_law 397 = .ok (.iconst 2, 1) := gdL_law_388.2.2.2.2.2.2.2.2.2.1
theorem dL_law_398 : decode cL_law 398 = .ok (.iadd, 1) := gdL_law_388.2.2.2.2.2.2.2.2.2.2.1
theorem dL_law_399 : decode cL_law 399 = .ok (.iaload, 1) := gdL_law_388.2.2.2.2.2.2.2.2.2.2.2.1
theorem dL_law_400 : decode cL_law 400 = .ok (.invokevirtual 44, 3) := gdL_law_388.2.2.2.2.2.2.2.2.2.2.2.2.1
theorem dL_law_403 : decode cL_law 403 = .ok (.pop, 1) := gdL_law_388.2.2.2.2.2.2.2.2.2.2.2.2.2.1
theorem dL_law_404 : decode cL_law 404 = .ok (.goto 1215, 3) := gdL_law_388.2.2.2.2.2.2.2.2.2.2.2.2.2.2.1
theorem dL_law_407 : decode cL_law 407 = .ok (.aload_n 1, 1) := gdL_law_388.2.2.2.2.2.2.2.2.2.2.2.2.2.2.2
theorem gdL_law_408 : (decode cL_law 408 = .ok (.aload_n 0, 1)) ∧ (decode cL_law 409 = .ok (.iload_n 3, 1)) ∧ (decode cL_law 410 = .ok (.iconst 1, 1)) ∧ (decode cL_law 411 = .ok (.iadd, 1)) ∧ (decode cL_law 412 = .ok (.iaload, 1)) ∧ (decode cL_law 413 = .ok (.aload_n 0, 1)) ∧ (decode cL_law 414 = .ok (.iload_n 3, 1)) ∧ (decode cL_law 415 = .ok (.iconst 2, 1)) ∧ (decode cL_law 416 = .ok (.iadd, 1)) ∧ (decode cL_law 417 = .ok (.iaload, 1)) ∧ (decode cL_law 418 = .ok (.invokevirtual 45, 3)) ∧ (decode cL_law 421 = .ok (.pop2, 1)) ∧ (decode cL_law 422 = .ok (.aload_n 2, 1)) ∧ (decode cL_law 423 = .ok (.aload_n 0, 1)) ∧ (decode cL_law 424 = .ok (.iload_n 3, 1)) ∧ (decode cL_law 425 = .ok (.iconst 1, 1)) := by decide +kernel
theorem dL_law_408 : decode cL_law 408 = .ok (.aload_n 0, 1) := gdL_law_408.1
theorem dL_law_409 : decode cL_law 409 = .ok (.iload_n 3, 1) := gdL_law_408.2.1
theorem dL_law_410 : decode cL_law 410 = .ok (.iconst 1, 1) := gdL_law_408.2.2.1
theorem dL_law_411 : decode cL_law 411 = .ok (.iadd, 1) := gdL_law_408.2.2.2.1
theorem dL_law_412 : decode cL_law 412 = .ok (.iaload, 1) := gdL_law_408.2.2.2.2.1
theorem dL_law_413 : decode cL_law 413 = .ok (.aload_n 0, 1) := gdL_law_408.2.2.2.2.2.1
theorem dL_law_414 : decode cL_law 414 = .ok (.iload_n 3, 1) := gdL_law_408.2.2.2.2.2.2.1
theorem dL_law_415 : decode cL_law 415 = .ok (.iconst 2, 1) := gdL_law_408.2.2.2.2.2.2.2.1
theorem dL_law_416 : decode cL_law 416 = .ok (.iadd, 1) := gdL_law_408.2.2.2.2.2.2.2.2.1
theorem dL_law_417 : decode cL_law 417 = .ok (.iaload, 1) := gdL_law_408.2.2.2.2.2.2.2.2.2.1
theorem dL_law_418 : decode cL_law 418 = .ok (.invokevirtual 45, 3) := gdL_law_408.2.2.2.2.2.2.2.2.2.2.1
theorem dL_law_421 : decode cL_law 421 = .ok (.pop2, 1) := gdL_law_408.2.2.2.2.2.2.2.2.2.2.2.1
theorem dL_law_422 : decode cL_law 422 = .ok (.aload_n 2, 1) := gdL_law_408.2.2.2.2.2.2.2.2.2.2.2.2.1
theorem dL_law_423 : decode cL_law 423 = .ok (.aload_n 0, 1) := gdL_law_408.2.2.2.2.2.2.2.2.2.2.2.2.2.1
theorem dL_law_424 : decode cL_law 424 = .ok (.iload_n 3, 1) := gdL_law_408.2.2.2.2.2.2.2.2.2.2.2.2.2.2.1
theorem dL_law_425 : decode cL_law 425 = .ok (.iconst 1, 1) := gdL_law_408.2.2.2.2.2.2.2.2.2.2.2.2.2.2.2
theorem gdL_law_426 : (decode cL_law 426 = .ok (.iadd, 1)) ∧ (decode cL_law 427 = .ok (.iaload, 1)) ∧ (decode cL_law 428 = .ok (.aload_n 0, 1)) ∧ (decode cL_law 429 = .ok (.iload_n 3, 1)) ∧ (decode cL_law 430 = .ok (.iconst 2, 1)) ∧ (decode cL_law 431 = .ok (.iadd, 1)) ∧ (decode cL_law 432 = .ok (.iaload, 1)) ∧ (decode cL_law 433 = .ok (.invokevirtual 49, 3)) ∧ (decode cL_law 436 = .ok (.pop2, 1)) ∧ (decode cL_law 437 = .ok (.goto 1182, 3)) ∧ (decode cL_law 440 = .ok (.aload_n 1, 1)) ∧ (decode cL_law 441 = .ok (.aload_n 0, 1)) ∧ (decode cL_law 442 = .ok (.iload_n 3, 1)) ∧ (decode cL_law 443 = .ok (.iconst 1, 1)) ∧ (decode cL_law 444 = .ok (.iadd, 1)) ∧ (decode cL_law 445 = .ok (.iaload, 1)) := by decide +kernel
theorem dL_law_426 : decode cL_law 426 = .ok (.iadd, 1) := gdL_law_426.1
theorem dL_law_427 : decode cL_law 427 = .ok (.iaload, 1) := gdL_law_426.2.1
theorem dL_law_428 : decode cL_law 428 = .ok (.aload_n 0, 1) := gdL_law_426.2.2.1
theorem dL_law_429 : decode cL_law 429 = .ok (.iload_n 3, 1) := gdL_law_426.2.2.2.1
theorem dL_law_430 : decode cL_law 430 = .ok (.iconst 2, 1) := gdL_law_426.2.2.2.2.1
theorem dL_law_431 : decode cL_law 431 = .ok (.iadd, 1) := gdL_law_426.2.2.2.2.2.1
theorem dL_law_432 : decode cL_law 432 = .ok (.iaload, 1) := gdL_law_426.2.2.2.2.2.2.1
theorem dL_law_433 : decode cL_law 433 = .ok (.invokevirtual 49, 3) := gdL_law_426.2.2.2.2.2.2.2.1
theorem dL_law_436 : decode cL_law 436 = .ok (.pop2, 1) := gdL_law_426.2.2.2.2.2.2.2.2.1
theorem dL_law_437 : decode cL_law 437 = .ok (.goto 1182, 3) := gdL_law_426.2.2.2.2.2.2.2.2.2.1
theorem dL_law_440 : decode cL_law 440 = .ok (.aload_n 1, 1) := gdL_law_426.2.2.2.2.2.2.2.2.2.2.1
theorem dL_law_441 : decode cL_law 441 = .ok (.aload_n 0, 1) := gdL_law_426.2.2.2.2.2.2.2.2.2.2.2.1
theorem dL_law_442 : decode cL_law 442 = .ok (.iload_n 3, 1) := gdL_law_426.2.2.2.2.2.2.2.2.2.2.2.2.1
theorem dL_law_443 : decode cL_law 443 = .ok (.iconst 1, 1) := gdL_law_426.2.2.2.2.2.2.2.2.2.2.2.2.2.1
theorem dL_law_444 : decode cL_law 444 = .ok (.iadd, 1) := gdL_law_426.2.2.2.2.2.2.2.2.2.2.2.2.2.2.1
theorem dL_law_445 : decode cL_law 445 = .ok (.iaload, 1) := gdL_law_426.2.2.2.2.2.2.2.2.2.2.2.2.2.2.2
theorem gdL_law_446 : (decode cL_law 446 = .ok (.aload_n 0, 1)) ∧ (decode cL_law 447 = .ok (.iload_n 3, 1)) ∧ (decode cL_law 448 = .ok (.iconst 2, 1)) ∧ (decode cL_law 449 = .ok (.iadd, 1)) ∧ (decode cL_law 450 = .ok (.iaload, 1)) ∧ (decode cL_law 451 = .ok (.invokevirtual 50, 3)) ∧ (decode cL_law 454 = .ok (.pop, 1)) ∧ (decode cL_law 455 = .ok (.aload_n 2, 1)) ∧ (decode cL_law 456 = .ok (.aload_n 0, 1)) ∧ (decode cL_law 457 = .ok (.iload_n 3, 1)) ∧ (decode cL_law 458 = .ok (.iconst 1, 1)) ∧ (decode cL_law 459 = .ok (.iadd, 1)) ∧ (decode cL_law 460 = .ok (.iaload, 1)) ∧ (decode cL_law 461 = .ok (.aload_n 0, 1)) ∧ (decode cL_law 462 = .ok (.iload_n 3, 1)) ∧ (decode cL_law 463 = .ok (.iconst 2, 1)) := by decide +kernel
theorem dL_law_446 : decode cL_law 446 = .ok (.aload_n 0, 1) := gdL_law_446.1
theorem dL_law_447 : decode cL_law 447 = .ok (.iload_n 3, 1) := gdL_law_446.2.1
theorem dL_law_448 : decode cL_law 448 = .ok (.iconst 2, 1) := gdL_law_446.2.2.1
theorem dL_law_449 : decode cL_law 449 = .ok (.iadd, 1) := gdL_law_446.2.2.2.1
theorem dL_law_450 : decode cL_law 450 = .ok (.iaload, 1) := gdL_law_446.2.2.2.2.1
theorem dL_law_451 : decode cL_law 451 = .ok (.invokevirtual 50, 3) := gdL_law_446.2.2.2.2.2.1
theorem dL_law_454 : decode cL_law 454 = .ok (.pop, 1) := gdL_law_446.2.2.2.2.2.2.1
theorem dL_law_455 : decode cL_law 455 = .ok (.aload_n 2, 1) := gdL_law_446.2.2.2.2.2.2.2.1
theorem dL_law_456 : decode cL_law 456 = .ok (.aload_n 0, 1) := gdL_law_446.2.2.2.2.2.2.2.2.1
theorem dL_law_457 : decode cL_law 457 = .ok (.iload_n 3, 1) := gdL_law_446.2.2.2.2.2.2.2.2.2.1
theorem dL_law_458 : decode cL_law 458 = .ok (.iconst 1, 1) := gdL_law_446.2.2.2.2.2.2.2.2.2.2.1
theorem dL_law_459 : decode cL_law 459 = .ok (.iadd, 1) := gdL_law_446.2.2.2.2.2.2.2.2.2.2.2.1
theorem dL_law_460 : decode cL_law 460 = .ok (.iaload, 1) := gdL_law_446.2.2.2.2.2.2.2.2.2.2.2.2.1
theorem dL_law_461 : decode cL_law 461 = .ok (.aload_n 0, 1) := gdL_law_446.2.2.2.2.2.2.2.2.2.2.2.2.2.1
theorem dL_law_462 : decode cL_law 462 = .ok (.iload_n 3, 1) := gdL_law_446.2.2.2.2.2.2.2.2.2.2.2.2.2.2.1
theorem dL_law_463 : decode cL_law 463 = .ok (.iconst 2, 1) := gdL_law_446.2.2.2.2.2.2.2.2.2.2.2.2.2.2.2
theorem gdL_law_464 : (decode cL_law 464 = .ok (.iadd, 1)) ∧ (decode cL_law 465 = .ok (.iaload, 1)) ∧ (decode cL_law 466 = .ok (.invokevirtual 53, 3)) ∧ (decode cL_law 469 = .ok (.pop, 1)) ∧ (decode cL_law 470 = .ok (.goto 1149, 3)) ∧ (decode cL_law 473 = .ok (.aload_n 1, 1)) ∧ (decode cL_law 474 = .ok (.aload_n 0, 1)) ∧ (decode cL_law 475 = .ok (.iload_n 3, 1)) ∧ (decode cL_law 476 = .ok (.iconst 1, 1)) ∧ (decode cL_law 477 = .ok (.iadd, 1)) ∧ (decode cL_law 478 = .ok (.iaload, 1)) ∧ (decode cL_law 479 = .ok (.aload_n 0, 1)) ∧ (decode cL_law 480 = .ok (.iload_n 3, 1)) ∧ (decode cL_law 481 = .ok (.iconst 2, 1)) ∧ (decode cL_law 482 = .ok (.iadd, 1)) ∧ (decode cL_law 483 = .ok (.iaload, 1)) := by decide +kernel
theorem dL_law_464 : decode cL_law 464 = .ok (.iadd, 1) := gdL_law_464.1
theorem dL_law_465 : decode cL_law 465 = .ok (.iaload, 1) := gdL_law_464.2.1
theorem dL_law_466 : decode cL_law 466 = .ok (.invokevirtual 53, 3) := gdL_law_464.2.2.1
theorem dL_law_469 : decode cL_law 469 = .ok (.pop, 1) := gdL_law_464.2.2.2.1
theorem dL_law_470 : decode cL_law 470 = .ok (.goto 1149, 3) := gdL_law_464.2.2.2.2.1
theorem dL_law_473 : decode cL_law 473 = .ok (.aload_n 1, 1) := gdL_law_464.2.2.2.2.2.1
theorem dL_law_474 : decode cL_law 474 = .ok (.aload_n 0, 1) := gdL_law_464.2.2.2.2.2.2.1
theorem dL_law_475 : decode cL_law 475 = .ok (.iload_n 3, 1) := gdL_law_464.2.2.2.2.2.2.2.1
theorem dL_law_476 : decode cL_law 476 = .ok (.iconst 1, 1) := gdL_law_464.2.2.2.2.2.2.2.2.1
theorem dL_law_477 : decode cL_law 477 = .ok (.iadd, 1) := gdL_law_464.2.2.2.2.2.2.2.2.2.1
theorem dL_law_478 : decode cL_law 478 = .ok (.iaload, 1) := gdL_law_464.2.2.2.2.2.2.2.2.2.2.1
theorem dL_law_479 : decode cL_law 479 = .ok (.aload_n 0, 1) := gdL_law_464.2.2.2.2.2.2.2.2.2.2.2.1
theorem dL_law_480 : decode cL_law 480 = .ok (.iload_n 3, 1) := gdL_law_464.2.2.2.2.2.2.2.2.2.2.2.2.1
theorem dL_law_481 : decode cL_law 481 = .ok (.iconst 2, 1) := gdL_law_464.2.2.2.2.2.2.2.2.2.2.2.2.2.1
theorem dL_law_482 : decode cL_law 482 = .ok (.iadd, 1) := gdL_law_464.2.2.2.2.2.2.2.2.2.2.2.2.2.2.1
theorem dL_law_483 : decode cL_law 483 = .ok (.iaload, 1) := gdL_law_464.2.2.2.2.2.2.2.2.2.2.2.2.2.2.2
theorem gdL_law_484 : (decode cL_law 484 = .ok (.invokevirtual 54, 3)) ∧ (decode cL_law 487 = .ok (.pop, 1)) ∧ (decode cL_law 488 = .ok (.aload_n 2, 1)) ∧ (decode cL_law 489 = .ok (.aload_n 0, 1)) ∧ (decode cL_law 490 = .ok (.iload_n 3, 1)) ∧ (decode cL_law 491 = .ok (.iconst 1, 1)) ∧ (decode cL_law 492 = .ok (.iadd, 1)) ∧ (decode cL_law 493 = .ok (.iaload, 1)) ∧ (decode cL_law 494 = .ok (.aload_n 0, 1)) ∧ (decode cL_law 495 = .ok (.iload_n 3, 1)) ∧ (decode cL_law 496 = .ok (.iconst 2, 1)) ∧ (decode cL_law 497 = .ok (.iadd, 1)) ∧ (decode cL_law 498 = .ok (.iaload, 1)) ∧ (decode cL_law 499 = .ok (.invokevirtual 58, 3)) ∧ (decode cL_law 502 = .ok (.pop, 1)) ∧ (decode cL_law 503 = .ok (.goto 1116, 3)) := by decide +kernel
theorem dL_law_484 : decode cL_law 484 = .ok (.invokevirtual 54, 3) := gdL_law_484.1
theorem dL_law_487 : decode cL_law 487 = .ok (.pop, 1) := gdL_law_484.2.1
theorem dL_law_488 : decode cL_law 488 = .ok (.aload_n 2, 1) := gdL_law_484.2.2.1
theorem dL_law_489 : decode cL_law 489 = .ok (.aload_n 0, 1) := gdL_law_484.2.2.2.1
theorem dL_law_490 : decode cL_law 490 = .ok (.iload_n 3, 1) := gdL_law_484.2.2.2.2.1
theorem dL_law_491 : decode cL_law 491 = .ok (.iconst 1, 1) := gdL_law_484.2.2.2.2.2.1
theorem dL_law_492 : decode cL_law 492 = .ok (.iadd, 1) := gdL_law_484.2.2.2.2.2.2.1
theorem dL_law_493 : decode cL_law 493 = .ok (.iaload, 1) := gdL_law_484.2.2.2.2.2.2.2.1
theorem dL_law_494 : decode cL_law 494 = .ok (.aload_n 0, 1) := gdL_law_484.2.2.2.2.2.2.2.2.1
theorem dL_law_495 : decode cL_law 495 = .ok (.iload_n 3, 1) := gdL_law_484.2.2.2.2.2.2.2.2.2.1
theorem dL_law_496 : decode cL_law 496 = .ok (.iconst 2, 1) := gdL_law_484.2.2.2.2.2.2.2.2.2.2.1
theorem dL_law_497 : decode cL_law 497 = .ok (.iadd, 1) := gdL_law_484.2.2.2.2.2.2.2.2.2.2.2.1
theorem dL_law_498 : decode cL_law 498 = .ok (.iaload, 1) := gdL_law_484.2.2.2.2.2.2.2.2.2.2.2.2.1
theorem dL_law_499 : decode cL_law 499 = .ok (.invokevirtual 58, 3) := gdL_law_484.2.2.2.2.2.2.2.2.2.2.2.2.2.1
theorem dL_law_502 : decode cL_law 502 = .ok (.pop, 1) := gdL_law_484.2.2.2.2.2.2.2.2.2.2.2.2.2.2.1
theorem dL_law_503 : decode cL_law 503 = .ok (.goto 1116, 3) := gdL_law_484.2.2.2.2.2.2.2.2.2.2.2.2.2.2.2
theorem gdL_law_506 : (decode cL_law 506 = .ok (.aload_n 1, 1)) ∧ (decode cL_law 507 = .ok (.aload_n 0, 1)) ∧ (decode cL_law 508 = .ok (.iload_n 3, 1)) ∧ (decode cL_law 509 = .ok (.iconst 1, 1)) ∧ (decode cL_law 510 = .ok (.iadd, 1)) ∧ (decode cL_law 511 = .ok (.iaload, 1)) ∧ (decode cL_law 512 = .ok (.aload_n 0, 1)) ∧ (decode cL_law 513 = .ok (.iload_n 3, 1)) ∧ (decode cL_law 514 = .ok (.iconst 2, 1)) ∧ (decode cL_law 515 = .ok (.iadd, 1)) ∧ (decode cL_law 516 = .ok (.iaload, 1)) ∧ (decode cL_law 517 = .ok (.invokevirtual 59, 3)) ∧ (decode cL_law 520 = .ok (.aload_n 2, 1)) ∧ (decode cL_law 521 = .ok (.aload_n 0, 1)) ∧ (decode cL_law 522 = .ok (.iload_n 3, 1)) ∧ (decode cL_law 523 = .ok (.iconst 1, 1)) := by decide +kernel
theorem dL_law_506 : decode cL_law 506 = .ok (.aload_n 1, 1) := gdL_law_506.1
theorem dL_law_507 : decode cL_law 507 = .ok (.aload_n 0, 1) := gdL_law_506.2.1
theorem dL_law_508 : decode cL_law 508 = .ok (.iload_n 3, 1) := gdL_law_506.2.2.1
theorem dL_law_509 : decode cL_law 509 = .ok (.iconst 1, 1) := gdL_law_506.2.2.2.1
theorem dL_law_510 : decode cL_law 510 = .ok (.iadd, 1) := gdL_law_506.2.2.2.2.1
theorem dL_law_511 : decode cL_law 511 = .ok (.iaload, 1) := gdL_law_506.2.2.2.2.2.1
theorem dL_law_512 : decode cL_law 512 = .ok (.aload_n 0, 1) := gdL_law_506.2.2.2.2.2.2.1
theorem dL_law_513 : decode cL_law 513 = .ok (.iload_n 3, 1) := gdL_law_506.2.2.2.2.2.2.2.1
theorem dL_law_514 : decode cL_law 514 = .ok (.iconst 2, 1) := gdL_law_506.2.2.2.2.2.2.2.2.1
theorem dL_law_515 : decode cL_law 515 = .ok (.iadd, 1) := gdL_law_506.2.2.2.2.2.2.2.2.2.1
theorem dL_law_516 : decode cL_law 516 = .ok (.iaload, 1) := gdL_law_506.2.2.2.2.2.2.2.2.2.2.1
theorem dL_law_517 : decode cL_law 517 = .ok (.invokevirtual 59, 3) := gdL_law_506.2.2.2.2.2.2.2.2.2.2.2.1
theorem dL_law_520 : decode cL_law 520 = .ok (.aload_n 2, 1) := gdL_law_506.2.2.2.2.2.2.2.2.2.2.2.2.1
theorem dL_law_521 : decode cL_law 521 = .ok (.aload_n 0, 1) := gdL_law_506.2.2.2.2.2.2.2.2.2.2.2.2.2.1
theorem dL_law_522 : decode cL_law 522 = .ok (.iload_n 3, 1) := gdL_law_506.2.2.2.2.2.2.2.2.2.2.2.2.2.2.1
theorem dL_law_523 : decode cL_law 523 = .ok (.iconst 1, 1) := gdL_law_506.2.2.2.2.2.2.2.2.2.2.2.2.2.2.2
theorem gdL_law_524 : (decode cL_law 524 = .ok (.iadd, 1)) ∧ (decode cL_law 525 = .ok (.iaload, 1)) ∧ (decode cL_law 526 = .ok (.aload_n 0, 1)) ∧ (decode cL_law 527 = .ok (.iload_n 3, 1)) ∧ (decode cL_law 528 = .ok (.iconst 2, 1)) ∧ (decode cL_law 529 = .ok (.iadd, 1)) ∧ (decode cL_law 530 = .ok (.iaload, 1)) ∧ (decode cL_law 531 = .ok (.invokevirtual 62, 3)) ∧ (decode cL_law 534 = .ok (.if_icmp .eq 1085, 3)) ∧ (decode cL_law 537 = .ok (.iconst 0, 1)) ∧ (decode cL_law 538 = .ok (.ireturn, 1)) ∧ (decode cL_law 539 = .ok (.aload_n 1, 1)) ∧ (decode cL_law 540 = .ok (.aload_n 0, 1)) ∧ (decode cL_law 541 = .ok (.iload_n 3, 1)) ∧ (decode cL_law 542 = .ok (.iconst 1, 1)) ∧ (decode cL_law 543 = .ok (.iadd, 1)) := by decide +kernel
theorem dL_law_524 : decode cL_law 524 = .ok (.iadd, 1) := gdL_law_524.1
theorem dL_law_525 : decode cL_law 525 = .ok (.iaload, 1) := gdL_law_524.2.1
theorem dL_law_526 : decode cL_law 526 = .ok (.aload_n 0, 1) := gdL_law_524.2.2.1
theorem dL_law_527 : decode cL_law 527 = .ok (.iload_n 3, 1) := gdL_law_524.2.2.2.1
theorem dL_law_528 : decode cL_law 528 = .ok (.iconst 2, 1) := gdL_law_524.2.2.2.2.1
theorem dL_law_529 : decode cL_law 529 = .ok (.iadd, 1) := gdL_law_524.2.2.2.2.2.1
theorem dL_law_530 : decode cL_law 530 = .ok (.iaload, 1) := gdL_law_524.2.2.2.2.2.2.1
theorem dL_law_531 : decode cL_law 531 = .ok (.invokevirtual 62, 3) := gdL_law_524.2.2.2.2.2.2.2.1
theorem dL_law_534 : decode cL_law 534 = .ok (.if_icmp .eq 1085, 3) := gdL_law_524.2.2.2.2.2.2.2.2.1
theorem dL_law_537 : decode cL_law 537 = .ok (.iconst 0, 1) := gdL_law_524.2.2.2.2.2.2.2.2.2.1
theorem dL_law_538 : decode cL_law 538 = .ok (.ireturn, 1) := gdL_law_524.2.2.2.2.2.2.2.2.2.2.1
theorem dL_law_539 : decode cL_law 539 = .ok (.aload_n 1, 1) := gdL_law_524.2.2.2.2.2.2.2.2.2.2.2.1
theorem dL_law_540 : decode cL_law 540 = .ok (.aload_n 0, 1) := gdL_law_524.2.2.2.2.2.2.2.2.2.2.2.2.1
theorem dL_law_541 : decode cL_law 541 = .ok (.iload_n 3, 1) := gdL_law_524.2.2.2.2.2.2.2.2.2.2.2.2.2.1
theorem dL_law_542 : decode cL_law 542 = .ok (.iconst 1, 1) := gdL_law_524.2.2.2.2.2.2.2.2.2.2.2.2.2.2.1
theorem dL_law_543 : decode cL_law 543 = .ok (.iadd, 1) := gdL_law_524.2.2.2.2.2.2.2.2.2.2.2.2.2.2.2
theorem gdL_law_544 : (decode cL_law 544 = .ok (.iaload, 1)) ∧ (decode cL_law 545 = .ok (.aload_n 0, 1)) ∧ (decode cL_law 546 = .ok (.iload_n 3, 1)) ∧ (decode cL_law 547 = .ok (.iconst 2, 1)) ∧ (decode cL_law 548 = .ok (.iadd, 1)) ∧ (decode cL_law 549 = .ok (.iaload, 1)) ∧ (decode cL_law 550 = .ok (.aload_n 0, 1)) ∧ (decode cL_law 551 = .ok (.iload_n 3, 1)) ∧ (decode cL_law 552 = .ok (.iconst 3, 1)) ∧ (decode cL_law 553 = .ok (.iadd, 1)) ∧ (decode cL_law 554 = .ok (.iaload, 1)) ∧ (decode cL_law 555 = .ok (.aload_n 0, 1)) ∧ (decode cL_law 556 = .ok (.iload_n 3, 1)) ∧ (decode cL_law 557 = .ok (.iconst 4, 1)) ∧ (decode cL_law 558 = .ok (.iadd, 1)) ∧ (decode cL_law 559 = .ok (.iaload, 1)) := by decide +kernel
theorem dL_law_544 : decode cL_law 544 = .ok (.iaload, 1) := gdL_law_544.1
theorem dL_law_545 : decode cL_law 545 = .ok (.aload_n 0, 1) := gdL_law_544.2.1
theorem dL_law_546 : decode cL_law 546 = .ok (.iload_n 3, 1) := gdL_law_544.2.2.1
theorem dL_law_547 : decode cL_law 547 = .ok (.iconst 2, 1) := gdL_law_544.2.2.2.1
theorem dL_law_548 : decode cL_law 548 = .ok (.iadd, 1) := gdL_law_544.2.2.2.2.1
theorem dL_law_549 : decode cL_law 549 = .ok (.iaload, 1) := gdL_law_544.2.2.2.2.2.1
theorem dL_law_550 : decode cL_law 550 = .ok (.aload_n 0, 1) := gdL_law_544.2.2.2.2.2.2.1
theorem dL_law_551 : decode cL_law 551 = .ok (.iload_n 3, 1) := gdL_law_544.2.2.2.2.2.2.2.1
theorem dL_law_552 : decode cL_law 552 = .ok (.iconst 3, 1) := gdL_law_544.2.2.2.2.2.2.2.2.1
theorem dL_law_553 : decode cL_law 553 = .ok (.iadd, 1) := gdL_law_544.2.2.2.2.2.2.2.2.2.1
theorem dL_law_554 : decode cL_law 554 = .ok (.iaload, 1) := gdL_law_544.2.2.2.2.2.2.2.2.2.2.1
theorem dL_law_555 : decode cL_law 555 = .ok (.aload_n 0, 1) := gdL_law_544.2.2.2.2.2.2.2.2.2.2.2.1
theorem dL_law_556 : decode cL_law 556 = .ok (.iload_n 3, 1) := gdL_law_544.2.2.2.2.2.2.2.2.2.2.2.2.1
theorem dL_law_557 : decode cL_law 557 = .ok (.iconst 4, 1) := gdL_law_544.2.2.2.2.2.2.2.2.2.2.2.2.2.1
theorem dL_law_558 : decode cL_law 558 = .ok (.iadd, 1) := gdL_law_544.2.2.2.2.2.2.2.2.2.2.2.2.2.2.1
theorem dL_law_559 : decode cL_law 559 = .ok (.iaload, 1) := gdL_law_544.2.2.2.2.2.2.2.2.2.2.2.2.2.2.2
theorem gdL_law_560 : (decode cL_law 560 = .ok (.invokevirtual 63, 3)) ∧ (decode cL_law 563 = .ok (.pop2, 1)) ∧ (decode cL_law 564 = .ok (.aload_n 2, 1)) ∧ (decode cL_law 565 = .ok (.aload_n 0, 1)) ∧ (decode cL_law 566 = .ok (.iload_n 3, 1)) ∧ (decode cL_law 567 = .ok (.iconst 1, 1)) ∧ (decode cL_law 568 = .ok (.iadd, 1)) ∧ (decode cL_law 569 = .ok (.iaload, 1)) ∧ (decode cL_law 570 = .ok (.aload_n 0, 1)) ∧ (decode cL_law 571 = .ok (.iload_n 3, 1)) ∧ (decode cL_law 572 = .ok (.iconst 2, 1)) ∧ (decode cL_law 573 = .ok (.iadd, 1)) ∧ (decode cL_law 574 = .ok (.iaload, 1)) ∧ (decode cL_law 575 = .ok (.aload_n 0, 1)) ∧ (decode cL_law 576 = .ok (.iload_n 3, 1)) ∧ (decode cL_law 577 = .ok (.iconst 3, 1)) := by decide +kernel
theorem dL_law_560 : decode cL_law 560 = .ok (.invokevirtual 63, 3) := gdL_law_560.1
theorem dL_law_563 : decode cL_law 563 = .ok (.pop2, 1) := gdL_law_560.2.1
theorem dL_law_564 : decode cL_law 564 = .ok (.aload_n 2, 1) := gdL_law_560.2.2.1
theorem dL_law_565 : decode cL_law 565 = .ok (.aload_n 0, 1) := gdL_law_560.2.2.2.1
theorem dL_law_566 : decode cL_law 566 = .ok (.iload_n 3, 1) := gdL_law_560.2.2.2.2.1
theorem dL_law_567 : decode cL_law 567 = .ok (.iconst 1, 1) := gdL_law_560.2.2.2.2.2.1
theorem dL_law_568 : decode cL_law 568 = .ok (.iadd, 1) := gdL_law_560.2.2.2.2.2.2.1
theorem dL_law_569 : decode cL_law 569 = .ok (.iaload, 1) := gdL_law_560.2.2.2.2.2.2.2.1
theorem dL_law_570 : decode cL_law 570 = .ok (.aload_n 0, 1) := gdL_law_560.2.2.2.2.2.2.2.2.1
theorem dL_law_571 : decode cL_law 571 = .ok (.iload_n 3, 1) := gdL_law_560.2.2.2.2.2.2.2.2.2.1
theorem dL_law_572 : decode cL_law 572 = .ok (.iconst 2, 1) := gdL_law_560.2.2.2.2.2.2.2.2.2.2.1
theorem dL_law_573 : decode cL_law 573 = .ok (.iadd, 1) := gdL_law_560.2.2.2.2.2.2.2.2.2.2.2.1
theorem dL_law_574 : decode cL_law 574 = .ok (.iaload, 1) := gdL_law_560.2.2.2.2.2.2.2.2.2.2.2.2.1
theorem dL_law_575 : decode cL_law 575 = .ok (.aload_n 0, 1) := gdL_law_560.2.2.2.2.2.2.2.2.2.2.2.2.2.1
theorem dL_law_576 : decode cL_law 576 = .ok (.iload_n 3, 1) := gdL_law_560.2.2.2.2.2.2.2.2.2.2.2.2.2.2.1
theorem dL_law_577 : decode cL_law 577 = .ok (.iconst 3, 1) := gdL_law_560.2.2.2.2.2.2.2.2.2.2.2.2.2.2.2
theorem gdL_law_578 : (decode cL_law 578 = .ok (.iadd, 1)) ∧ (decode cL_law 579 = .ok (.iaload, 1)) ∧ (decode cL_law 580 = .ok (.aload_n 0, 1)) ∧ (decode cL_law 581 = .ok (.iload_n 3, 1)) ∧ (decode cL_law 582 = .ok (.iconst 4, 1)) ∧ (decode cL_law 583 = .ok (.iadd, 1)) ∧ (decode cL_law 584 = .ok (.iaload, 1)) ∧ (decode cL_law 585 = .ok (.invokevirtual 67, 3)) ∧ (decode cL_law 588 = .ok (.pop2, 1)) ∧ (decode cL_law 589 = .ok (.goto 1030, 3)) ∧ (decode cL_law 592 = .ok (.aload_n 1, 1)) ∧ (decode cL_law 593 = .ok (.aload_n 0, 1)) ∧ (decode cL_law 594 = .ok (.iload_n 3, 1)) ∧ (decode cL_law 595 = .ok (.iconst 1, 1)) ∧ (decode cL_law 596 = .ok (.iadd, 1)) ∧ (decode cL_law 597 = .ok (.iaload, 1)) := by decide +kernel
theorem dL_law_578 : decode cL_law 578 = .ok (.iadd, 1) := gdL_law_578.1
theorem dL_law_579 : decode cL_law 579 = .ok (.iaload, 1) := gdL_law_578.2.1
theorem dL_law_580 : decode cL_law 580 = .ok (.aload_n 0, 1) := gdL_law_578.2.2.1
theorem dL_law_581 : decode cL_law 581 = .ok (.iload_n 3, 1) := gdL_law_578.2.2.2.1
theorem dL_law_582 : decode cL_law 582 = .ok (.iconst 4, 1) := gdL_law_578.2.2.2.2.1
theorem dL_law_583 : decode cL_law 583 = .ok (.iadd, 1) := gdL_law_578.2.2.2.2.2.1
theorem dL_law_584 : decode cL_law 584 = .ok (.iaload, 1) := gdL_law_578.2.2.2.2.2.2.1
theorem dL_law_585 : decode cL_law 585 = .ok (.invokevirtual 67, 3) := gdL_law_578.2.2.2.2.2.2.2.1
theorem dL_law_588 : decode cL_law 588 = .ok (.pop2, 1) := gdL_law_578.2.2.2.2.2.2.2.2.1
theorem dL_law_589 : decode cL_law 589 = .ok (.goto 1030, 3) := gdL_law_578.2.2.2.2.2.2.2.2.2.1
theorem dL_law_592 : decode cL_law 592 = .ok (.aload_n 1, 1) := gdL_law_578.2.2.2.2.2.2.2.2.2.2.1
theorem dL_law_593 : decode cL_law 593 = .ok (.aload_n 0, 1) := gdL_law_578.2.2.2.2.2.2.2.2.2.2.2.1
theorem dL_law_594 : decode cL_law 594 = .ok (.iload_n 3, 1) := gdL_law_578.2.2.2.2.2.2.2.2.2.2.2.2.1
theorem dL_law_595 : decode cL_law 595 = .ok (.iconst 1, 1) := gdL_law_578.2.2.2.2.2.2.2.2.2.2.2.2.2.1
theorem dL_law_596 : decode cL_law 596 = .ok (.iadd, 1) := gdL_law_578.2.2.2.2.2.2.2.2.2.2.2.2.2.2.1
theorem dL_law_597 : decode cL_law 597 = .ok (.iaload, 1) := gdL_law_578.2.2.2.2.2.2.2.2.2.2.2.2.2.2.2
theorem gdL_law_598 : (decode cL_law 598 = .ok (.aload_n 0, 1)) ∧ (decode cL_law 599 = .ok (.iload_n 3, 1)) ∧ (decode cL_law 600 = .ok (.iconst 2, 1)) ∧ (decode cL_law 601 = .ok (.iadd, 1)) ∧ (decode cL_law 602 = .ok (.iaload, 1)) ∧ (decode cL_law 603 = .ok (.invokevirtual 68, 3)) ∧ (decode cL_law 606 = .ok (.pop, 1)) ∧ (decode cL_law 607 = .ok (.aload_n 2, 1)) ∧ (decode cL_law 608 = .ok (.aload_n 0, 1)) ∧ (decode cL_law 609 = .ok (.iload_n 3, 1)) ∧ (decode cL_law 610 = .ok (.iconst 1, 1)) ∧ (decode cL_law 611 = .ok (.iadd, 1)) ∧ (decode cL_law 612 = .ok (.iaload, 1)) ∧ (decode cL_law 613 = .ok (.aload_n 0, 1)) ∧ (decode cL_law 614 = .ok (.iload_n 3, 1)) ∧ (decode cL_law 615 = .ok (.iconst 2, 1)) := by decide +kernel
theorem dL_law_598 : decode cL_law 598 = .ok (.aload_n 0, 1) := gdL_law_598.1
theorem dL_law_599 : decode cL_law 599 = .ok (.iload_n 3, 1) := gdL_law_598.2.1
theorem dL_law_600 : decode cL_law 600 = .ok (.iconst 2, 1) := gdL_law_598.2.2.1
theorem dL_law_601 : decode cL_law 601 = .ok (.iadd, 1) := gdL_law_598.2.2.2.1
theorem dL_law_602 : decode cL_law 602 = .ok (.iaload, 1) := gdL_law_598.2.2.2.2.1
theorem dL_law_603 : decode cL_law 603 = .ok (.invokevirtual 68, 3) := gdL_law_598.2.2.2.2.2.1
theorem dL_law_606 : decode cL_law 606 = .ok (.pop, 1) := gdL_law_598.2.2.2.2.2.2.1
theorem dL_law_607 : decode cL_law 607 = .ok (.aload_n 2, 1) := gdL_law_598.2.2.2.2.2.2.2.1
theorem dL_law_608 : decode cL_law 608 = .ok (.aload_n 0, 1) := gdL_law_598.2.2.2.2.2.2.2.2.1
theorem dL_law_609 : decode cL_law 609 = .ok (.iload_n 3, 1) := gdL_law_598.2.2.2.2.2.2.2.2.2.1
theorem dL_law_610 : decode cL_law 610 = .ok (.iconst 1, 1) := gdL_law_598.2.2.2.2.2.2.2.2.2.2.1
theorem dL_law_611 : decode cL_law 611 = .ok (.iadd, 1) := gdL_law_598.2.2.2.2.2.2.2.2.2.2.2.1
theorem dL_law_612 : decode cL_law 612 = .ok (.iaload, 1) := gdL_law_598.2.2.2.2.2.2.2.2.2.2.2.2.1
theorem dL_law_613 : decode cL_law 613 = .ok (.aload_n 0, 1) := gdL_law_598.2.2.2.2.2.2.2.2.2.2.2.2.2.1
theorem dL_law_614 : decode cL_law 614 = .ok (.iload_n 3, 1) := gdL_law_598.2.2.2.2.2.2.2.2.2.2.2.2.2.2.1
theorem dL_law_615 : decode cL_law 615 = .ok (.iconst 2, 1) := gdL_law_598.2.2.2.2.2.2.2.2.2.2.2.2.2.2.2
theorem gdL_law_616 : (decode cL_law 616 = .ok (.iadd, 1)) ∧ (decode cL_law 617 = .ok (.iaload, 1)) ∧ (decode cL_law 618 = .ok (.invokevirtual 71, 3)) ∧ (decode cL_law 621 = .ok (.pop, 1)) ∧ (decode cL_law 622 = .ok (.goto 997, 3)) ∧ (decode cL_law 625 = .ok (.aload_n 1, 1)) ∧ (decode cL_law 626 = .ok (.aload_n 0, 1)) ∧ (decode cL_law 627 = .ok (.iload_n 3, 1)) ∧ (decode cL_law 628 = .ok (.iconst 1, 1)) ∧ (decode cL_law 629 = .ok (.iadd, 1)) ∧ (decode cL_law 630 = .ok (.iaload, 1)) ∧ (decode cL_law 631 = .ok (.aload_n 0, 1)) ∧ (decode cL_law 632 = .ok (.iload_n 3, 1)) ∧ (decode cL_law 633 = .ok (.iconst 2, 1)) ∧ (decode cL_law 634 = .ok (.iadd, 1)) ∧ (decode cL_law 635 = .ok (.iaload, 1)) := by decide +kernel
theorem dL_law_616 : decode cL_law 616 = .ok (.iadd, 1) := gdL_law_616.1
theorem dL_law_617 : decode cL_law 617 = .ok (.iaload, 1) := gdL_law_616.2.1
theorem dL_law_618 : decode cL_law 618 = .ok (.invokevirtual 71, 3) := gdL_law_616.2.2.1
theorem dL_law_621 : decode cL_law 621 = .ok (.pop, 1) := gdL_law_616.2.2.2.1
theorem dL_law_622 : decode cL_law 622 = .ok (.goto 997, 3) := gdL_law_616.2.2.2.2.1
theorem dL_law_625 : decode cL_law 625 = .ok (.aload_n 1, 1) := gdL_law_616.2.2.2.2.2.1
theorem dL_law_626 : decode cL_law 626 = .ok (.aload_n 0, 1) := gdL_law_616.2.2.2.2.2.2.1
theorem dL_law_627 : decode cL_law 627 = .ok (.iload_n 3, 1) := gdL_law_616.2.2.2.2.2.2.2.1
theorem dL_law_628 : decode cL_law 628 = .ok (.iconst 1, 1) := gdL_law_616.2.2.2.2.2.2.2.2.1
theorem dL_law_629 : decode cL_law 629 = .ok (.iadd, 1) := gdL_law_616.2.2.2.2.2.2.2.2.2.1
theorem dL_law_630 : decode cL_law 630 = .ok (.iaload, 1) := gdL_law_616.2.2.2.2.2.2.2.2.2.2.1
theorem dL_law_631 : decode cL_law 631 = .ok (.aload_n 0, 1) := gdL_law_616.2.2.2.2.2.2.2.2.2.2.2.1
theorem dL_law_632 : decode cL_law 632 = .ok (.iload_n 3, 1) := gdL_law_616.2.2.2.2.2.2.2.2.2.2.2.2.1
theorem dL_law_633 : decode cL_law 633 = .ok (.iconst 2, 1) := gdL_law_616.2.2.2.2.2.2.2.2.2.2.2.2.2.1
theorem dL_law_634 : decode cL_law 634 = .ok (.iadd, 1) := gdL_law_616.2.2.2.2.2.2.2.2.2.2.2.2.2.2.1
theorem dL_law_635 : decode cL_law 635 = .ok (.iaload, 1) := gdL_law_616.2.2.2.2.2.2.2.2.2.2.2.2.2.2.2
theorem gdL_law_636 : (decode cL_law 636 = .ok (.invokevirtual 72, 3)) ∧ (decode cL_law 639 = .ok (.pop, 1)) ∧ (decode cL_law 640 = .ok (.aload_n 2, 1)) ∧ (decode cL_law 641 = .ok (.aload_n 0, 1)) ∧ (decode cL_law 642 = .ok (.iload_n 3, 1)) ∧ (decode cL_law 643 = .ok (.iconst 1, 1)) ∧ (decode cL_law 644 = .ok (.iadd, 1)) ∧ (decode cL_law 645 = .ok (.iaload, 1)) ∧ (decode cL_law 646 = .ok (.aload_n 0, 1)) ∧ (decode cL_law 647 = .ok (.iload_n 3, 1)) ∧ (decode cL_law 648 = .ok (.iconst 2, 1)) ∧ (decode cL_law 649 = .ok (.iadd, 1)) ∧ (decode cL_law 650 = .ok (.iaload, 1)) ∧ (decode cL_law 651 = .ok (.invokevirtual 75, 3)) ∧ (decode cL_law 654 = .ok (.pop, 1)) ∧ (decode cL_law 655 = .ok (.goto 964, 3)) := by decide +kernel
theorem dL_law_636 : decode cL_law 636 = .ok (.invokevirtual 72, 3) := gdL_law_636.1
theorem dL_law_639 : decode cL_law 639 = .ok (.pop, 1) := gdL_law_636.2.1
theorem dL_law_640 : decode cL_law 640 = .ok (.aload_n 2, 1) := gdL_law_636.2.2.1
theorem dL_law_641 : decode cL_law 641 = .ok (.aload_n 0, 1) := gdL_law_636.2.2.2.1
theorem dL_law_642 : decode cL_law 642 = .ok (.iload_n 3, 1) := gdL_law_636.2.2.2.2.1
theorem dL_law_643 : decode cL_law 643 = .ok (.iconst 1, 1) := gdL_law_636.2.2.2.2.2.1
theorem dL_law_644 : decode cL_law 644 = .ok (.iadd, 1) := gdL_law_636.2.2.2.2.2.2.1
theorem dL_law_645 : decode cL_law 645 = .ok (.iaload, 1) := gdL_law_636.2.2.2.2.2.2.2.1
theorem dL_law_646 : decode cL_law 646 = .ok (.aload_n 0, 1) := gdL_law_636.2.2.2.2.2.2.2.2.1
theorem dL_law_647 : decode cL_law 647 = .ok (.iload_n 3, 1) := gdL_law_636.2.2.2.2.2.2.2.2.2.1
theorem dL_law_648 : decode cL_law 648 = .ok (.iconst 2, 1) := gdL_law_636.2.2.2.2.2.2.2.2.2.2.1
theorem dL_law_649 : decode cL_law 649 = .ok (.iadd, 1) := gdL_law_636.2.2.2.2.2.2.2.2.2.2.2.1
theorem dL_law_650 : decode cL_law 650 = .ok (.iaload, 1) := gdL_law_636.2.2.2.2.2.2.2.2.2.2.2.2.1
theorem dL_law_651 : decode cL_law 651 = .ok (.invokevirtual 75, 3) := gdL_law_636.2.2.2.2.2.2.2.2.2.2.2.2.2.1
theorem dL_law_654 : decode cL_law 654 = .ok (.pop, 1) := gdL_law_636.2.2.2.2.2.2.2.2.2.2.2.2.2.2.1
theorem dL_law_655 : decode cL_law 655 = .ok (.goto 964, 3) := gdL_law_636.2.2.2.2.2.2.2.2.2.2.2.2.2.2.2
theorem gdL_law_658 : (decode cL_law 658 = .ok (.aload_n 1, 1)) ∧ (decode cL_law 659 = .ok (.aload_n 0, 1)) ∧ (decode cL_law 660 = .ok (.iload_n 3, 1)) ∧ (decode cL_law 661 = .ok (.iconst 1, 1)) ∧ (decode cL_law 662 = .ok (.iadd, 1)) ∧ (decode cL_law 663 = .ok (.iaload, 1)) ∧ (decode cL_law 664 = .ok (.aload_n 0, 1)) ∧ (decode cL_law 665 = .ok (.iload_n 3, 1)) ∧ (decode cL_law 666 = .ok (.iconst 2, 1)) ∧ (decode cL_law 667 = .ok (.iadd, 1)) ∧ (decode cL_law 668 = .ok (.iaload, 1)) ∧ (decode cL_law 669 = .ok (.aload_n 0, 1)) ∧ (decode cL_law 670 = .ok (.iload_n 3, 1)) ∧ (decode cL_law 671 = .ok (.iconst 3, 1)) ∧ (decode cL_law 672 = .ok (.iadd, 1)) ∧ (decode cL_law 673 = .ok (.iaload, 1)) := by decide +kernel
theorem dL_law_658 : decode cL_law 658 = .ok (.aload_n 1, 1) := gdL_law_658.1
theorem dL_law_659 : decode cL_law 659 = .ok (.aload_n 0, 1) := gdL_law_658.2.1
theorem dL_law_660 : decode cL_law 660 = .ok (.iload_n 3, 1) := gdL_law_658.2.2.1
theorem dL_law_661 : decode cL_law 661 = .ok (.iconst 1, 1) := gdL_law_658.2.2.2.1
theorem dL_law_662 : decode cL_law 662 = .ok (.iadd, 1) := gdL_law_658.2.2.2.2.1
theorem dL_law_663 : decode cL_law 663 = .ok (.iaload, 1) := gdL_law_658.2.2.2.2.2.1
theorem dL_law_664 : decode cL_law 664 = .ok (.aload_n 0, 1) := gdL_law_658.2.2.2.2.2.2.1
theorem dL_law_665 : decode cL_law 665 = .ok (.iload_n 3, 1) := gdL_law_658.2.2.2.2.2.2.2.1
theorem dL_law_666 : decode cL_law 666 = .ok (.iconst 2, 1) := gdL_law_658.2.2.2.2.2.2.2.2.1
theorem dL_law_667 : decode cL_law 667 = .ok (.iadd, 1) := gdL_law_658.2.2.2.2.2.2.2.2.2.1
theorem dL_law_668 : decode cL_law 668 = .ok (.iaload, 1) := gdL_law_658.2.2.2.2.2.2.2.2.2.2.1
theorem dL_law_669 : decode cL_law 669 = .ok (.aload_n 0, 1) := gdL_law_658.2.2.2.2.2.2.2.2.2.2.2.1
theorem dL_law_670 : decode cL_law 670 = .ok (.iload_n 3, 1) := gdL_law_658.2.2.2.2.2.2.2.2.2.2.2.2.1
theorem dL_law_671 : decode cL_law 671 = .ok (.iconst 3, 1) := gdL_law_658.2.2.2.2.2.2.2.2.2.2.2.2.2.1
theorem dL_law_672 : decode cL_law 672 = .ok (.iadd, 1) := gdL_law_658.2.2.2.2.2.2.2.2.2.2.2.2.2.2.1
theorem dL_law_673 : decode cL_law 673 = .ok (.iaload, 1) := gdL_law_658.2.2.2.2.2.2.2.2.2.2.2.2.2.2.2
theorem gdL_law_674 : (decode cL_law 674 = .ok (.invokevirtual 76, 3)) ∧ (decode cL_law 677 = .ok (.pop2, 1)) ∧ (decode cL_law 678 = .ok (.aload_n 2, 1)) ∧ (decode cL_law 679 = .ok (.aload_n 0, 1)) ∧ (decode cL_law 680 = .ok (.iload_n 3, 1)) ∧ (decode cL_law 681 = .ok (.iconst 1, 1)) ∧ (decode cL_law 682 = .ok (.iadd, 1)) ∧ (decode cL_law 683 = .ok (.iaload, 1)) ∧ (decode cL_law 684 = .ok (.aload_n 0, 1)) ∧ (decode cL_law 685 = .ok (.iload_n 3, 1)) ∧ (decode cL_law 686 = .ok (.iconst 2, 1)) ∧ (decode cL_law 687 = .ok (.iadd, 1)) ∧ (decode cL_law 688 = .ok (.iaload, 1)) ∧ (decode cL_law 689 = .ok (.aload_n 0, 1)) ∧ (decode cL_law 690 = .ok (.iload_n 3, 1)) ∧ (decode cL_law 691 = .ok (.iconst 3, 1)) := by decide +kernel
theorem dL_law_674 : decode cL_law 674 = .ok (.invokevirtual 76, 3) := gdL_law_674.1
theorem dL_law_677 : decode cL_law 677 = .ok (.pop2, 1) := gdL_law_674.2.1
theorem dL_law_678 : decode cL_law 678 = .ok (.aload_n 2, 1) := gdL_law_674.2.2.1
theorem dL_law_679 : decode cL_law 679 = .ok (.aload_n 0, 1) := gdL_law_674.2.2.2.1
theorem dL_law_680 : decode cL_law 680 = .ok (.iload_n 3, 1) := gdL_law_674.2.2.2.2.1
theorem dL_law_681 : decode cL_law 681 = .ok (.iconst 1, 1) := gdL_law_674.2.2.2.2.2.1
theorem dL_law_682 : decode cL_law 682 = .ok (.iadd, 1) := gdL_law_674.2.2.2.2.2.2.1
theorem dL_law_683 : decode cL_law 683 = .ok (.iaload, 1) := gdL_law_674.2.2.2.2.2.2.2.1
theorem dL_law_684 : decode cL_law 684 = .ok (.aload_n 0, 1) := gdL_law_674.2.2.2.2.2.2.2.2.1
theorem dL_law_685 : decode cL_law 685 = .ok (.iload_n 3, 1) := gdL_law_674.2.2.2.2.2.2.2.2.2.1
theorem dL_law_686 : decode cL_law 686 = .ok (.iconst 2, 1) := gdL_law_674.2.2.2.2.2.2.2.2.2.2.1
theorem dL_law_687 : decode cL_law 687 = .ok (.iadd, 1) := gdL_law_674.2.2.2.2.2.2.2.2.2.2.2.1
theorem dL_law_688 : decode cL_law 688 = .ok (.iaload, 1) := gdL_law_674.2.2.2.2.2.2.2.2.2.2.2.2.1
theorem dL_law_689 : decode cL_law 689 = .ok (.aload_n 0, 1) := gdL_law_674.2.2.2.2.2.2.2.2.2.2.2.2.2.1
theorem dL_law_690 : decode cL_law 690 = .ok (.iload_n 3, 1) := gdL_law_674.2.2.2.2.2.2.2.2.2.2.2.2.2.2.1
theorem dL_law_691 : decode cL_law 691 = .ok (.iconst 3, 1) := gdL_law_674.2.2.2.2.2.2.2.2.2.2.2.2.2.2.2
theorem gdL_law_692 : (decode cL_law 692 = .ok (.iadd, 1)) ∧ (decode cL_law 693 = .ok (.iaload, 1)) ∧ (decode cL_law 694 = .ok (.invokevirtual 80, 3)) ∧ (decode cL_law 697 = .ok (.pop2, 1)) ∧ (decode cL_law 698 = .ok (.goto 921, 3)) ∧ (decode cL_law 701 = .ok (.aload_n 1, 1)) ∧ (decode cL_law 702 = .ok (.aload_n 0, 1)) ∧ (decode cL_law 703 = .ok (.iload_n 3, 1)) ∧ (decode cL_law 704 = .ok (.iconst 1, 1)) ∧ (decode cL_law 705 = .ok (.iadd, 1)) ∧ (decode cL_law 706 = .ok (.iaload, 1)) ∧ (decode cL_law 707 = .ok (.aload_n 0, 1)) ∧ (decode cL_law 708 = .ok (.iload_n 3, 1)) ∧ (decode cL_law 709 = .ok (.iconst 2, 1)) ∧ (decode cL_law 710 = .ok (.iadd, 1)) ∧ (decode cL_law 711 = .ok (.iaload, 1)) := by decide +kernel
theorem dL_law_692 : decode cL_law 692 = .ok (.iadd, 1) := gdL_law_692.1
theorem dL_law_693 : decode cL_law 693 = .ok (.iaload, 1) := gdL_law_692.2.1
theorem dL_law_694 : decode cL_law 694 = .ok (.invokevirtual 80, 3) := gdL_law_692.2.2.1
theorem dL_law_697 : decode cL_law 697 = .ok (.pop2, 1) := gdL_law_692.2.2.2.1
theorem dL_law_698 : decode cL_law 698 = .ok (.goto 921, 3) := gdL_law_692.2.2.2.2.1
theorem dL_law_701 : decode cL_law 701 = .ok (.aload_n 1, 1) := gdL_law_692.2.2.2.2.2.1
theorem dL_law_702 : decode cL_law 702 = .ok (.aload_n 0, 1) := gdL_law_692.2.2.2.2.2.2.1
theorem dL_law_703 : decode cL_law 703 = .ok (.iload_n 3, 1) := gdL_law_692.2.2.2.2.2.2.2.1
theorem dL_law_704 : decode cL_law 704 = .ok (.iconst 1, 1) := gdL_law_692.2.2.2.2.2.2.2.2.1
theorem dL_law_705 : decode cL_law 705 = .ok (.iadd, 1) := gdL_law_692.2.2.2.2.2.2.2.2.2.1
theorem dL_law_706 : decode cL_law 706 = .ok (.iaload, 1) := gdL_law_692.2.2.2.2.2.2.2.2.2.2.1
theorem dL_law_707 : decode cL_law 707 = .ok (.aload_n 0, 1) := gdL_law_692.2.2.2.2.2.2.2.2.2.2.2.1
theorem dL_law_708 : decode cL_law 708 = .ok (.iload_n 3, 1) := gdL_law_692.2.2.2.2.2.2.2.2.2.2.2.2.1
theorem dL_law_709 : decode cL_law 709 = .ok (.iconst 2, 1) := gdL_law_692.2.2.2.2.2.2.2.2.2.2.2.2.2.1
theorem dL_law_710 : decode cL_law 710 = .ok (.iadd, 1) := gdL_law_692.2.2.2.2.2.2.2.2.2.2.2.2.2.2.1
theorem dL_law_711 : decode cL_law 711 = .ok (.iaload, 1) := gdL_law_692.2.2.2.2.2.2.2.2.2.2.2.2.2.2.2
theorem gdL_law_712 : (decode cL_law 712 = .ok (.aload_n 0, 1)) ∧ (decode cL_law 713 = .ok (.iload_n 3, 1)) ∧ (decode cL_law 714 = .ok (.iconst 3, 1)) ∧ (decode cL_law 715 = .ok (.iadd, 1)) ∧ (decode cL_law 716 = .ok (.iaload, 1)) ∧ (decode cL_law 717 = .ok (.invokevirtual 81, 3)) ∧ (decode cL_law 720 = .ok (.pop2, 1)) ∧ (decode cL_law 721 = .ok (.aload_n 2, 1)) ∧ (decode cL_law 722 = .ok (.aload_n 0, 1)) ∧ (decode cL_law 723 = .ok (.iload_n 3, 1)) ∧ (decode cL_law 724 = .ok (.iconst 1, 1)) ∧ (decode cL_law 725 = .ok (.iadd, 1)) ∧ (decode cL_law 726 = .ok (.iaload, 1)) ∧ (decode cL_law 727 = .ok (.aload_n 0, 1)) ∧ (decode cL_law 728 = .ok (.iload_n 3, 1)) ∧ (decode cL_law 729 = .ok (.iconst 2, 1)) := by decide +kernel
theorem dL_law_712 : decode cL_law 712 = .ok (.aload_n 0, 1) := gdL_law_712.1
theorem dL_law_713 : decode cL_law 713 = .ok (.iload_n 3, 1) := gdL_law_712.2.1
theorem dL_law_714 : decode cL_law 714 = .ok (.iconst 3, 1) := gdL_law_712.2.2.1
theorem dL_law_715 : decode cL_law 715 = .ok (.iadd, 1) := gdL_law_712.2.2.2.1
theorem dL_law_716 : decode cL_law 716 = .ok (.iaload, 1) := gdL_law_712.2.2.2.2.1
theorem dL_law_717 : decode cL_law 717 = .ok (.invokevirtual 81, 3) := gdL_law_712.2.2.2.2.2.1
theorem dL_law_720 : decode cL_law 720 = .ok (.pop2, 1) := gdL_law_712.2.2.2.2.2.2.1
theorem dL_law_721 : decode cL_law 721 = .ok (.aload_n 2, 1) := gdL_law_712.2.2.2.2.2.2.2.1
theorem dL_law_722 : decode cL_law 722 = .ok (.aload_n 0, 1) := gdL_law_712.2.2.2.2.2.2.2.2.1
theorem dL_law_723 : decode cL_law 723 = .ok (.iload_n 3, 1) := gdL_law_712.2.2.2.2.2.2.2.2.2.1
theorem dL_law_724 : decode cL_law 724 = .ok (.iconst 1, 1) := gdL_law_712.2.2.2.2.2.2.2.2.2.2.1
theorem dL_law_725 : decode cL_law 725 = .ok (.iadd, 1) := gdL_law_712.2.2.2.2.2.2.2.2.2.2.2.1
theorem dL_law_726 : decode cL_law 726 = .ok (.iaload, 1) := gdL_law_712.2.2.2.2.2.2.2.2.2.2.2.2.1
theorem dL_law_727 : decode cL_law 727 = .ok (.aload_n 0, 1) := gdL_law_712.2.2.2.2.2.2.2.2.2.2.2.2.2.1
theorem dL_law_728 : decode cL_law 728 = .ok (.iload_n 3, 1) := gdL_law_712.2.2.2.2.2.2.2.2.2.2.2.2.2.2.1
theorem dL_law_729 : decode cL_law 729 = .ok (.iconst 2, 1) := gdL_law_712.2.2.2.2.2.2.2.2.2.2.2.2.2.2.2
theorem gdL_law_730 : (decode cL_law 730 = .ok (.iadd, 1)) ∧ (decode cL_law 731 = .ok (.iaload, 1)) ∧ (decode cL_law 732 = .ok (.aload_n 0, 1)) ∧ (decode cL_law 733 = .ok (.iload_n 3, 1)) ∧ (decode cL_law 734 = .ok (.iconst 3, 1)) ∧ (decode cL_law 735 = .ok (.iadd, 1)) ∧ (decode cL_law 736 = .ok (.iaload, 1)) ∧ (decode cL_law 737 = .ok (.invokevirtual 84, 3)) ∧ (decode cL_law 740 = .ok (.pop2, 1)) ∧ (decode cL_law 741 = .ok (.goto 878, 3)) ∧ (decode cL_law 744 = .ok (.aload_n 1, 1)) ∧ (decode cL_law 745 = .ok (.aload_n 0, 1)) ∧ (decode cL_law 746 = .ok (.iload_n 3, 1)) ∧ (decode cL_law 747 = .ok (.iconst 1, 1)) ∧ (decode cL_law 748 = .ok (.iadd, 1)) ∧ (decode cL_law 749 = .ok (.iaload, 1)) := by decide +kernel
theorem dL_law_730 : decode cL_law 730 = .ok (.iadd, 1) := gdL_law_730.1
theorem dL_law_731 : decode cL_law 731 = .ok (.iaload, 1) := gdL_law_730.2.1
theorem dL_law_732 : decode cL_law 732 = .ok (.aload_n 0, 1) := gdL_law_730.2.2.1
theorem dL_law_733 : decode cL_law 733 = .ok (.iload_n 3, 1) := gdL_law_730.2.2.2.1
theorem dL_law_734 : decode cL_law 734 = .ok (.iconst 3, 1) := gdL_law_730.2.2.2.2.1
theorem dL_law_735 : decode cL_law 735 = .ok (.iadd, 1) := gdL_law_730.2.2.2.2.2.1
theorem dL_law_736 : decode cL_law 736 = .ok (.iaload, 1) := gdL_law_730.2.2.2.2.2.2.1
theorem dL_law_737 : decode cL_law 737 = .ok (.invokevirtual 84, 3) := gdL_law_730.2.2.2.2.2.2.2.1
theorem dL_law_740 : decode cL_law 740 = .ok (.pop2, 1) := gdL_law_730.2.2.2.2.2.2.2.2.1
theorem dL_law_741 : decode cL_law 741 = .ok (.goto 878, 3) := gdL_law_730.2.2.2.2.2.2.2.2.2.1
theorem dL_law_744 : decode cL_law 744 = .ok (.aload_n 1, 1) := gdL_law_730.2.2.2.2.2.2.2.2.2.2.1
theorem dL_law_745 : decode cL_law 745 = .ok (.aload_n 0, 1) := gdL_law_730.2.2.2.2.2.2.2.2.2.2.2.1
theorem dL_law_746 : decode cL_law 746 = .ok (.iload_n 3, 1) := gdL_law_730.2.2.2.2.2.2.2.2.2.2.2.2.1
theorem dL_law_747 : decode cL_law 747 = .ok (.iconst 1, 1) := gdL_law_730.2.2.2.2.2.2.2.2.2.2.2.2.2.1
theorem dL_law_748 : decode cL_law 748 = .ok (.iadd, 1) := gdL_law_730.2.2.2.2.2.2.2.2.2.2.2.2.2.2.1
theorem dL_law_749 : decode cL_law 749 = .ok (.iaload, 1) := gdL_law_730.2.2.2.2.2.2.2.2.2.2.2.2.2.2.2
theorem gdL_law_750 : (decode cL_law 750 = .ok (.aload_n 0, 1)) ∧ (decode cL_law 751 = .ok (.iload_n 3, 1)) ∧ (decode cL_law 752 = .ok (.iconst 2, 1)) ∧ (decode cL_law 753 = .ok (.iadd, 1)) ∧ (decode cL_law 754 = .ok (.iaload, 1)) ∧ (decode cL_law 755 = .ok (.aload_n 0, 1)) ∧ (decode cL_law 756 = .ok (.iload_n 3, 1)) ∧ (decode cL_law 757 = .ok (.iconst 3, 1)) ∧ (decode cL_law 758 = .ok (.iadd, 1)) ∧ (decode cL_law 759 = .ok (.iaload, 1)) ∧ (decode cL_law 760 = .ok (.aload_n 0, 1)) ∧ (decode cL_law 761 = .ok (.iload_n 3, 1)) ∧ (decode cL_law 762 = .ok (.iconst 4, 1)) ∧ (decode cL_law 763 = .ok (.iadd, 1)) ∧ (decode cL_law 764 = .ok (.iaload, 1)) ∧ (decode cL_law 765 = .ok (.ifCond .eq 7, 3)) := by decide +kernel
theorem dL_law_750 : decode cL_law 750 = .ok (.aload_n 0, 1) := gdL_law_750.1
theorem dL_law_751 : decode cL_law 751 = .ok (.iload_n 3, 1) := gdL_law_750.2.1
theorem dL_law_752 : decode cL_law 752 = .ok (.iconst 2, 1) := gdL_law_750.2.2.1
theorem dL_law_753 : decode cL_law 753 = .ok (.iadd, 1) := gdL_law_750.2.2.2.1
theorem dL_law_754 : decode cL_law 754 = .ok (.iaload, 1) := gdL_law_750.2.2.2.2.1
theorem dL_law_755 : decode cL_law 755 = .ok (.aload_n 0, 1) := gdL_law_750.2.2.2.2.2.1
theorem dL_law_756 : decode cL_law 756 = .ok (.iload_n 3, 1) := gdL_law_750.2.2.2.2.2.2.1
theorem dL_law_757 : decode cL_law 757 = .ok (.iconst 3, 1) := gdL_law_750.2.2.2.2.2.2.2.1
theorem dL_law_758 : decode cL_law 758 = .ok (.iadd, 1) := gdL_law_750.2.2.2.2.2.2.2.2.1
theorem dL_law_759 : decode cL_law 759 = .ok (.iaload, 1) := gdL_law_750.2.2.2.2.2.2.2.2.2.1
theorem dL_law_760 : decode cL_law 760 = .ok (.aload_n 0, 1) := gdL_law_750.2.2.2.2.2.2.2.2.2.2.1
theorem dL_law_761 : decode cL_law 761 = .ok (.iload_n 3, 1) := gdL_law_750.2.2.2.2.2.2.2.2.2.2.2.1
theorem dL_law_762 : decode cL_law 762 = .ok (.iconst 4, 1) := gdL_law_750.2.2.2.2.2.2.2.2.2.2.2.2.1
theorem dL_law_763 : decode cL_law 763 = .ok (.iadd, 1) := gdL_law_750.2.2.2.2.2.2.2.2.2.2.2.2.2.1
theorem dL_law_764 : decode cL_law 764 = .ok (.iaload, 1) := gdL_law_750.2.2.2.2.2.2.2.2.2.2.2.2.2.2.1
theorem dL_law_765 : decode cL_law 765 = .ok (.ifCond .eq 7, 3) := gdL_law_750.2.2.2.2.2.2.2.2.2.2.2.2.2.2.2
theorem gdL_law_768 : (decode cL_law 768 = .ok (.iconst 1, 1)) ∧ (decode cL_law 769 = .ok (.goto 4, 3)) ∧ (decode cL_law 772 = .ok (.iconst 0, 1)) ∧ (decode cL_law 773 = .ok (.aload_n 0, 1)) ∧ (decode cL_law 774 = .ok (.iload_n 3, 1)) ∧ (decode cL_law 775 = .ok (.iconst 5, 1)) ∧ (decode cL_law 776 = .ok (.iadd, 1)) ∧ (decode cL_law 777 = .ok (.iaload, 1)) ∧ (decode cL_law 778 = .ok (.invokevirtual 85, 3)) ∧ (decode cL_law 781 = .ok (.pop2, 1)) ∧ (decode cL_law 782 = .ok (.aload_n 2, 1)) ∧ (decode cL_law 783 = .ok (.aload_n 0, 1)) ∧ (decode cL_law 784 = .ok (.iload_n 3, 1)) ∧ (decode cL_law 785 = .ok (.iconst 1, 1)) ∧ (decode cL_law 786 = .ok (.iadd, 1)) ∧ (decode cL_law 787 = .ok (.iaload, 1)) := by decide +kernel
theorem dL_law_768 : decode cL_law 768 = .ok (.iconst 1, 1) := gdL_law_768.1
theorem dL_law_769 : decode cL_law 769 = .ok (.goto 4, 3) := gdL_law_768.2.1
theorem dL_law_772 : decode cL_law 772 = .ok (.iconst 0, 1) := gdL_law_768.2.2.1
theorem dL_law_773 : decode cL_law 773 = .ok (.aload_n 0, 1) := gdL_law_768.2.2.2.1
theorem dL_law_774 : decode cL_law 774 = .ok (.iload_n 3, 1) := gdL_law_768.2.2.2.2.1
theorem dL_law_775 : decode cL_law 775 = .ok (.iconst 5, 1) := gdL_law_768.2.2.2.2.2.1
theorem dL_law_776 : decode cL_law 776 = .ok (.iadd, 1) := gdL_law_768.2.2.2.2.2.2.1
theorem dL_law_777 : decode cL_law 777 = .ok (.iaload, 1) := gdL_law_768.2.2.2.2.2.2.2.1
theorem dL_law_778 : decode cL_law 778 = .ok (.invokevirtual 85, 3) := gdL_law_768.2.2.2.2.2.2.2.2.1
theorem dL_law_781 : decode cL_law 781 = .ok (.pop2, 1) := gdL_law_768.2.2.2.2.2.2.2.2.2.1
theorem dL_law_782 : decode cL_law 782 = .ok (.aload_n 2, 1) := gdL_law_768.2.2.2.2.2.2.2.2.2.2.1
theorem dL_law_783 : decode cL_law 783 = .ok (.aload_n 0, 1) := gdL_law_768.2.2.2.2.2.2.2.2.2.2.2.1
theorem dL_law_784 : decode cL_law 784 = .ok (.iload_n 3, 1) := gdL_law_768.2.2.2.2.2.2.2.2.2.2.2.2.1
theorem dL_law_785 : decode cL_law 785 = .ok (.iconst 1, 1) := gdL_law_768.2.2.2.2.2.2.2.2.2.2.2.2.2.1
theorem dL_law_786 : decode cL_law 786 = .ok (.iadd, 1) := gdL_law_768.2.2.2.2.2.2.2.2.2.2.2.2.2.2.1
theorem dL_law_787 : decode cL_law 787 = .ok (.iaload, 1) := gdL_law_768.2.2.2.2.2.2.2.2.2.2.2.2.2.2.2
theorem gdL_law_788 : (decode cL_law 788 = .ok (.aload_n 0, 1)) ∧ (decode cL_law 789 = .ok (.iload_n 3, 1)) ∧ (decode cL_law 790 = .ok (.iconst 2, 1)) ∧ (decode cL_law 791 = .ok (.iadd, 1)) ∧ (decode cL_law 792 = .ok (.iaload, 1)) ∧ (decode cL_law 793 = .ok (.aload_n 0, 1)) ∧ (decode cL_law 794 = .ok (.iload_n 3, 1)) ∧ (decode cL_law 795 = .ok (.iconst 3, 1)) ∧ (decode cL_law 796 = .ok (.iadd, 1)) ∧ (decode cL_law 797 = .ok (.iaload, 1)) ∧ (decode cL_law 798 = .ok (.aload_n 0, 1)) ∧ (decode cL_law 799 = .ok (.iload_n 3, 1)) ∧ (decode cL_law 800 = .ok (.iconst 4, 1)) ∧ (decode cL_law 801 = .ok (.iadd, 1)) ∧ (decode cL_law 802 = .ok (.iaload, 1)) ∧ (decode cL_law 803 = .ok (.ifCond .eq 7, 3)) := by decide +kernel
theorem dL_law_788 : decode cL_law 788 = .ok (.aload_n 0, 1) := gdL_law_788.1
theorem dL_law_789 : decode cL_law 789 = .ok (.iload_n 3, 1) := gdL_law_788.2.1
theorem dL_law_790 : decode cL_law 790 = .ok (.iconst 2, 1) := gdL_law_788.2.2.1
theorem dL_law_791 : decode cL_law 791 = .ok (.iadd, 1) := gdL_law_788.2.2.2.1
theorem dL_law_792 : decode cL_law 792 = .ok (.iaload, 1) := gdL_law_788.2.2.2.2.1
theorem dL_law_793 : decode cL_law 793 = .ok (.aload_n 0, 1) := gdL_law_788.2.2.2.2.2.1
theorem dL_law_794 : decode cL_law 794 = .ok (.iload_n 3, 1) := gdL_law_788.2.2.2.2.2.2.1
theorem dL_law_795 : decode cL_law 795 = .ok (.iconst 3, 1) := gdL_law_788.2.2.2.2.2.2.2.1
theorem dL_law_796 : decode cL_law 796 = .ok (.iadd, 1) := gdL_law_788.2.2.2.2.2.2.2.2.1
theorem dL_law_797 : decode cL_law 797 = .ok (.iaload, 1) := gdL_law_788.2.2.2.2.2.2.2.2.2.1
theorem dL_law_798 : decode cL_law 798 = .ok (.aload_n 0, 1) := gdL_law_788.2.2.2.2.2.2.2.2.2.2.1
theorem dL_law_799 : decode cL_law 799 = .ok (.iload_n 3, 1) := gdL_law_788.2.2.2.2.2.2.2.2.2.2.2.1
theorem dL_law_800 : decode cL_law 800 = .ok (.iconst 4, 1) := gdL_law_788.2.2.2.2.2.2.2.2.2.2.2.2.1
theorem dL_law_801 : decode cL_law 801 = .ok (.iadd, 1) := gdL_law_788.2.2.2.2.2.2.2.2.2.2.2.2.2.1
theorem dL_law_802 : decode cL_law 802 = .ok (.iaload, 1) := gdL_law_788.2.2.2.2.2.2.2.2.2.2.2.2.2.2.1
theorem dL_law_803 : decode cL_law 803 = .ok (.ifCond .eq 7, 3) := gdL_law_788.2.2.2.2.2.2.2.2.2.2.2.2.2.2.2
theorem gdL_law_806 : (decode cL_law 806 = .ok (.iconst 1, 1)) ∧ (decode cL_law 807 = .ok (.goto 4, 3)) ∧ (decode cL_law 810 = .ok (.iconst 0, 1)) ∧ (decode cL_law 811 = .ok (.aload_n 0, 1)) ∧ (decode cL_law 812 = .ok (.iload_n 3, 1)) ∧ (decode cL_law 813 = .ok (.iconst 5, 1)) ∧ (decode cL_law 814 = .ok (.iadd, 1)) ∧ (decode cL_law 815 = .ok (.iaload, 1)) ∧ (decode cL_law 816 = .ok (.invokevirtual 89, 3)) ∧ (decode cL_law 819 = .ok (.pop2, 1)) ∧ (decode cL_law 820 = .ok (.goto 799, 3)) ∧ (decode cL_law 823 = .ok (.aload_n 1, 1)) ∧ (decode cL_law 824 = .ok (.aload_n 0, 1)) ∧ (decode cL_law 825 = .ok (.iload_n 3, 1)) ∧ (decode cL_law 826 = .ok (.iconst 1, 1)) ∧ (decode cL_law 827 = .ok (.iadd, 1)) := by decide +kernel
theorem dL_law_806 : decode cL_law 806 = .ok (.iconst 1, 1) := gdL_law_806.1
theorem dL_law_807 : decode cL_law 807 = .ok (.goto 4, 3) := gdL_law_806.2.1
theorem dL_law_810 : decode cL_law 810 = .ok (.iconst 0, 1) := gdL_law_806.2.2.1
theorem dL_law_811 : decode cL_law 811 = .ok (.aload_n 0, 1) := gdL_law_806.2.2.2.1
theorem dL_law_812 : decode cL_law 812 = .ok (.iload_n 3, 1) := gdL_law_806.2.2.2.2.1
theorem dL_law_813 : decode cL_law 813 = .ok (.iconst 5, 1) := gdL_law_806.2.2.2.2.2.1
theorem dL_law_814 : decode cL_law 814 = .ok (.iadd, 1) := gdL_law_806.2.2.2.2.2.2.1
theorem dL_law_815 : decode cL_law 815 = .ok (.iaload, 1) := gdL_law_806.2.2.2.2.2.2.2.1
theorem dL_law_816 : decode cL_law 816 = .ok (.invokevirtual 89, 3) := gdL_law_806.2.2.2.2.2.2.2.2.1
theorem dL_law_819 : decode cL_law 819 = .ok (.pop2, 1) := gdL_law_806.2.2.2.2.2.2.2.2.2.1
theorem dL_law_820 : decode cL_law 820 = .ok (.goto 799, 3) := gdL_law_806.2.2.2.2.2.2.2.2.2.2.1
theorem dL_law_823 : decode cL_law 823 = .ok (.aload_n 1, 1) := gdL_law_806.2.2.2.2.2.2.2.2.2.2.2.1
theorem dL_law_824 : decode cL_law 824 = .ok (.aload_n 0, 1) := gdL_law_806.2.2.2.2.2.2.2.2.2.2.2.2.1
theorem dL_law_825 : decode cL_law 825 = .ok (.iload_n 3, 1) := gdL_law_806.2.2.2.2.2.2.2.2.2.2.2.2.2.1
theorem dL_law_826 : decode cL_law 826 = .ok (.iconst 1, 1) := gdL_law_806.2.2.2.2.2.2.2.2.2.2.2.2.2.2.1
theorem dL_law_827 : decode cL_law 827 = .ok (.iadd, 1) := gdL_law_806.2.2.2.2.2.2.2.2.2.2.2.2.2.2.2
theorem gdL_law_828 : (decode cL_law 828 = .ok (.iaload, 1)) ∧ (decode cL_law 829 = .ok (.aload_n 0, 1)) ∧ (decode cL_law 830 = .ok (.iload_n 3, 1)) ∧ (decode cL_law 831 = .ok (.iconst 2, 1)) ∧ (decode cL_law 832 = .ok (.iadd, 1)) ∧ (decode cL_law 833 = .ok (.iaload, 1)) ∧ (decode cL_law 834 = .ok (.aload_n 0, 1)) ∧ (decode cL_law 835 = .ok (.iload_n 3, 1)) ∧ (decode cL_law 836 = .ok (.iconst 3, 1)) ∧ (decode cL_law 837 = .ok (.iadd, 1)) ∧ (decode cL_law 838 = .ok (.iaload, 1)) ∧ (decode cL_law 839 = .ok (.aload_n 0, 1)) ∧ (decode cL_law 840 = .ok (.iload_n 3, 1)) ∧ (decode cL_law 841 = .ok (.iconst 4, 1)) ∧ (decode cL_law 842 = .ok (.iadd, 1)) ∧ (decode cL_law 843 = .ok (.iaload, 1)) := by decide +kernel
theorem dL_law_828 : decode cL_law 828 = .ok (.iaload, 1) := gdL_law_828.1
theorem dL_law_829 : decode cL_law 829 = .ok (.aload_n 0, 1) := gdL_law_828.2.1
theorem dL_law_830 : decode cL_law 830 = .ok (.iload_n 3, 1) := gdL_law_828.2.2.1
theorem dL_law_831 : decode cL_law 831 = .ok (.iconst 2, 1) := gdL_law_828.2.2.2.1
theorem dL_law_832 : decode cL_law 832 = .ok (.iadd, 1) := gdL_law_828.2.2.2.2.1
theorem dL_law_833 : decode cL_law 833 = .ok (.iaload, 1) := gdL_law_828.2.2.2.2.2.1
theorem dL_law_834 : decode cL_law 834 = .ok (.aload_n 0, 1) := gdL_law_828.2.2.2.2.2.2.1
theorem dL_law_835 : decode cL_law 835 = .ok (.iload_n 3, 1) := gdL_law_828.2.2.2.2.2.2.2.1
theorem dL_law_836 : decode cL_law 836 = .ok (.iconst 3, 1) := gdL_law_828.2.2.2.2.2.2.2.2.1
theorem dL_law_837 : decode cL_law 837 = .ok (.iadd, 1) := gdL_law_828.2.2.2.2.2.2.2.2.2.1
theorem dL_law_838 : decode cL_law 838 = .ok (.iaload, 1) := gdL_law_828.2.2.2.2.2.2.2.2.2.2.1
theorem dL_law_839 : decode cL_law 839 = .ok (.aload_n 0, 1) := gdL_law_828.2.2.2.2.2.2.2.2.2.2.2.1
theorem dL_law_840 : decode cL_law 840 = .ok (.iload_n 3, 1) := gdL_law_828.2.2.2.2.2.2.2.2.2.2.2.2.1
theorem dL_law_841 : decode cL_law 841 = .ok (.iconst 4, 1) := gdL_law_828.2.2.2.2.2.2.2.2.2.2.2.2.2.1
theorem dL_law_842 : decode cL_law 842 = .ok (.iadd, 1) := gdL_law_828.2.2.2.2.2.2.2.2.2.2.2.2.2.2.1
theorem dL_law_843 : decode cL_law 843 = .ok (.iaload, 1) := gdL_law_828.2.2.2.2.2.2.2.2.2.2.2.2.2.2.2
theorem gdL_law_844 : (decode cL_law 844 = .ok (.aload_n 0, 1)) ∧ (decode cL_law 845 = .ok (.iload_n 3, 1)) ∧ (decode cL_law 846 = .ok (.iconst 5, 1)) ∧ (decode cL_law 847 = .ok (.iadd, 1)) ∧ (decode cL_law 848 = .ok (.iaload, 1)) ∧ (decode cL_law 849 = .ok (.invokevirtual 90, 3)) ∧ (decode cL_law 852 = .ok (.pop2, 1)) ∧ (decode cL_law 853 = .ok (.aload_n 2, 1)) ∧ (decode cL_law 854 = .ok (.aload_n 0, 1)) ∧ (decode cL_law 855 = .ok (.iload_n 3, 1)) ∧ (decode cL_law 856 = .ok (.iconst 1, 1)) ∧ (decode cL_law 857 = .ok (.iadd, 1)) ∧ (decode cL_law 858 = .ok (.iaload, 1)) ∧ (decode cL_law 859 = .ok (.aload_n 0, 1)) ∧ (decode cL_law 860 = .ok (.iload_n 3, 1)) ∧ (decode cL_law 861 = .ok (.iconst 2, 1)) := by decide +kernel
theorem dL_law_844 : decode cL_law 844 = .ok (.aload_n 0, 1) := gdL_law_844.1
theorem dL_law_845 : decode cL_law 845 = .ok (.iload_n 3, 1) := gdL_law_844.2.1
theorem dL_law_846 : decode cL_law 846 = .ok (.iconst 5, 1) := gdL_law_844.2.2.1
theorem dL_law_847 : decode cL_law 847 = .ok (.iadd, 1) := gdL_law_844.2.2.2.1
theorem dL_law_848 : decode cL_law 848 = .ok (.iaload, 1) := gdL_law_844.2.2.2.2.1
theorem dL_law_849 : decode cL_law 849 = .ok (.invokevirtual 90, 3) := gdL_law_844.2.2.2.2.2.1
theorem dL_law_852 : decode cL_law 852 = .ok (.pop2, 1) := gdL_law_844.2.2.2.2.2.2.1
theorem dL_law_853 : decode cL_law 853 = .ok (.aload_n 2, 1) := gdL_law_844.2.2.2.2.2.2.2.1
theorem dL_law_854 : decode cL_law 854 = .ok (.aload_n 0, 1) := gdL_law_844.2.2.2.2.2.2.2.2.1
theorem dL_law_855 : decode cL_law 855 = .ok (.iload_n 3, 1) := gdL_law_844.2.2.2.2.2.2.2.2.2.1
theorem dL_law_856 : decode cL_law 856 = .ok (.iconst 1, 1) := gdL_law_844.2.2.2.2.2.2.2.2.2.2.1
theorem dL_law_857 : decode cL_law 857 = .ok (.iadd, 1) := gdL_law_844.2.2.2.2.2.2.2.2.2.2.2.1
theorem dL_law_858 : decode cL_law 858 = .ok (.iaload, 1) := gdL_law_844.2.2.2.2.2.2.2.2.2.2.2.2.1
theorem dL_law_859 : decode cL_law 859 = .ok (.aload_n 0, 1) := gdL_law_844.2.2.2.2.2.2.2.2.2.2.2.2.2.1
theorem dL_law_860 : decode cL_law 860 = .ok (.iload_n 3, 1) := gdL_law_844.2.2.2.2.2.2.2.2.2.2.2.2.2.2.1
theorem dL_law_861 : decode cL_law 861 = .ok (.iconst 2, 1) := gdL_law_844.2.2.2.2.2.2.2.2.2.2.2.2.2.2.2
theorem gdL_law_862 : (decode cL_law 862 = .ok (.iadd, 1)) ∧ (decode cL_law 863 = .ok (.iaload, 1)) ∧ (decode cL_law 864 = .ok (.aload_n 0, 1)) ∧ (decode cL_law 865 = .ok (.iload_n 3, 1)) ∧ (decode cL_law 866 = .ok (.iconst 3, 1)) ∧ (decode cL_law 867 = .ok (.iadd, 1)) ∧ (decode cL_law 868 = .ok (.iaload, 1)) ∧ (decode cL_law 869 = .ok (.aload_n 0, 1)) ∧ (decode cL_law 870 = .ok (.iload_n 3, 1)) ∧ (decode cL_law 871 = .ok (.iconst 4, 1)) ∧ (decode cL_law 872 = .ok (.iadd, 1)) ∧ (decode cL_law 873 = .ok (.iaload, 1)) ∧ (decode cL_law 874 = .ok (.aload_n 0, 1)) ∧ (decode cL_law 875 = .ok (.iload_n 3, 1)) ∧ (decode cL_law 876 = .ok (.iconst 5, 1)) ∧ (decode cL_law 877 = .ok (.iadd, 1)) := by decide +kernel
theorem dL_law_862 : decode cL_law 862 = .ok (.iadd, 1) := gdL_law_862.1
theorem dL_law_863 : decode cL_law 863 = .ok (.iaload, 1) := gdL_law_862.2.1
theorem dL_law_864 : decode cL_law 864 = .ok (.aload_n 0, 1) := gdL_law_862.2.2.1
theorem dL_law_865 : decode cL_law 865 = .ok (.iload_n 3, 1) := gdL_law_862.2.2.2.1
theorem dL_law_866 : decode cL_law 866 = .ok (.iconst 3, 1) := gdL_law_862.2.2.2.2.1
theorem dL_law_867 : decode cL_law 867 = .ok (.iadd, 1) := gdL_law_862.2.2.2.2.2.1
theorem dL_law_868 : decode cL_law 868 = .ok (.iaload, 1) := gdL_law_862.2.2.2.2.2.2.1
theorem dL_law_869 : decode cL_law 869 = .ok (.aload_n 0, 1) := gdL_law_862.2.2.2.2.2.2.2.1
theorem dL_law_870 : decode cL_law 870 = .ok (.iload_n 3, 1) := gdL_law_862.2.2.2.2.2.2.2.2.1
theorem dL_law_871 : decode cL_law 871 = .ok (.iconst 4, 1) := gdL_law_862.2.2.2.2.2.2.2.2.2.1
theorem dL_law_872 : decode cL_law 872 = .ok (.iadd, 1) := gdL_law_862.2.2.2.2.2.2.2.2.2.2.1
theorem dL_law_873 : decode cL_law 873 = .ok (.iaload, 1) := gdL_law_862.2.2.2.2.2.2.2.2.2.2.2.1
theorem dL_law_874 : decode cL_law 874 = .ok (.aload_n 0, 1) := gdL_law_862.2.2.2.2.2.2.2.2.2.2.2.2.1
theorem dL_law_875 : decode cL_law 875 = .ok (.iload_n 3, 1) := gdL_law_862.2.2.2.2.2.2.2.2.2.2.2.2.2.1
theorem dL_law_876 : decode cL_law 876 = .ok (.iconst 5, 1) := gdL_law_862.2.2.2.2.2.2.2.2.2.2.2.2.2.2.1
theorem dL_law_877 : decode cL_law 877 = .ok (.iadd, 1) := gdL_law_862.2.2.2.2.2.2.2.2.2.2.2.2.2.2.2
theorem gdL_law_878 : (decode cL_law 878 = .ok (.iaload, 1)) ∧ (decode cL_law 879 = .ok (.invokevirtual 94, 3)) ∧ (decode cL_law 882 = .ok (.pop2, 1)) ∧ (decode cL_law 883 = .ok (.goto 736, 3)) ∧ (decode cL_law 886 = .ok (.aload_n 1, 1)) ∧ (decode cL_law 887 = .ok (.aload_n 0, 1)) ∧ (decode cL_law 888 = .ok (.iload_n 3, 1)) ∧ (decode cL_law 889 = .ok (.iconst 1, 1)) ∧ (decode cL_law 890 = .ok (.iadd, 1)) ∧ (decode cL_law 891 = .ok (.iaload, 1)) ∧ (decode cL_law 892 = .ok (.aload_n 0, 1)) ∧ (decode cL_law 893 = .ok (.iload_n 3, 1)) ∧ (decode cL_law 894 = .ok (.iconst 2, 1)) ∧ (decode cL_law 895 = .ok (.iadd, 1)) ∧ (decode cL_law 896 = .ok (.iaload, 1)) ∧ (decode cL_law 897 = .ok (.aload_n 0, 1)) := by decide +kernel
theorem dL_law_878 : decode cL_law 878 = .ok (.iaload, 1) := gdL_law_878.1
theorem dL_law_879 : decode cL_law 879 = .ok (.invokevirtual 94, 3) := gdL_law_878.2.1
theorem dL_law_882 : decode cL_law 882 = .ok (.pop2, 1) := gdL_law_878.2.2.1
theorem dL_law_883 : decode cL_law 883 = .ok (.goto 736, 3) := gdL_law_878.2.2.2.1
theorem dL_law_886 : decode cL_law 886 = .ok (.aload_n 1, 1) := gdL_law_878.2.2.2.2.1
theorem dL_law_887 : decode cL_law 887 = .ok (.aload_n 0, 1) := gdL_law_878.2.2.2.2.2.1
theorem dL_law_888 : decode cL_law 888 = .ok (.iload_n 3, 1) := gdL_law_878.2.2.2.2.2.2.1
theorem dL_law_889 : decode cL_law 889 = .ok (.iconst 1, 1) := gdL_law_878.2.2.2.2.2.2.2.1
theorem dL_law_890 : decode cL_law 890 = .ok (.iadd, 1) := gdL_law_878.2.2.2.2.2.2.2.2.1
theorem dL_law_891 : decode cL_law 891 = .ok (.iaload, 1) := gdL_law_878.2.2.2.2.2.2.2.2.2.1
theorem dL_law_892 : decode cL_law 892 = .ok (.aload_n 0, 1) := gdL_law_878.2.2.2.2.2.2.2.2.2.2.1
theorem dL_law_893 : decode cL_law 893 = .ok (.iload_n 3, 1) := gdL_law_878.2.2.2.2.2.2.2.2.2.2.2.1
theorem dL_law_894 : decode cL_law 894 = .ok (.iconst 2, 1) := gdL_law_878.2.2.2.2.2.2.2.2.2.2.2.2.1
theorem dL_law_895 : decode cL_law 895 = .ok (.iadd, 1) := gdL_law_878.2.2.2.2.2.2.2.2.2.2.2.2.2.1
theorem dL_law_896 : decode cL_law 896 = .ok (.iaload, 1) := gdL_law_878.2.2.2.2.2.2.2.2.2.2.2.2.2.2.1
theorem dL_law_897 : decode cL_law 897 = .ok (.aload_n 0, 1) := gdL_law_878.2.2.2.2.2.2.2.2.2.2.2.2.2.2.2
theorem gdL_law_898 : (decode cL_law 898 = .ok (.iload_n 3, 1)) ∧ (decode cL_law 899 = .ok (.iconst 3, 1)) ∧ (decode cL_law 900 = .ok (.iadd, 1)) ∧ (decode cL_law 901 = .ok (.iaload, 1)) ∧ (decode cL_law 902 = .ok (.aload_n 0, 1)) ∧ (decode cL_law 903 = .ok (.iload_n 3, 1)) ∧ (decode cL_law 904 = .ok (.iconst 4, 1)) ∧ (decode cL_law 905 = .ok (.iadd, 1)) ∧ (decode cL_law 906 = .ok (.iaload, 1)) ∧ (decode cL_law 907 = .ok (.aload_n 0, 1)) ∧ (decode cL_law 908 = .ok (.iload_n 3, 1)) ∧ (decode cL_law 909 = .ok (.iconst 5, 1)) ∧ (decode cL_law 910 = .ok (.iadd, 1)) ∧ (decode cL_law 911 = .ok (.iaload, 1)) ∧ (decode cL_law 912 = .ok (.invokevirtual 95, 3)) ∧ (decode cL_law 915 = .ok (.pop, 1)) := by decide +kernel
theorem dL_law_898 : decode cL_law 898 = .ok (.iload_n 3, 1) := gdL_law_898.1
theorem dL_law_899 : decode cL_law 899 = .ok (.iconst 3, 1) := gdL_law_898.2.1
theorem dL_law_900 : decode cL_law 900 = .ok (.iadd, 1) := gdL_law_898.2.2.1
theorem dL_law_901 : decode cL_law 901 = .ok (.iaload, 1) := gdL_law_898.2.2.2.1
theorem dL_law_902 : decode cL_law 902 = .ok (.aload_n 0, 1) := gdL_law_898.2.2.2.2.1
theorem dL_law_903 : decode cL_law 903 = .ok (.iload_n 3, 1) := gdL_law_898.2.2.2.2.2.1
theorem dL_law_904 : decode cL_law 904 = .ok (.iconst 4, 1) := gdL_law_898.2.2.2.2.2.2.1
theorem dL_law_905 : decode cL_law 905 = .ok (.iadd, 1) := gdL_law_898.2.2.2.2.2.2.2.1
theorem dL_law_906 : decode cL_law 906 = .ok (.iaload, 1) := gdL_law_898.2.2.2.2.2.2.2.2.1
theorem dL_law_907 : decode cL_law 907 = .ok (.aload_n 0, 1) := gdL_law_898.2.2.2.2.2.2.2.2.2.1
theorem dL_law_908 : decode cL_law 908 = .ok (.iload_n 3, 1) := gdL_law_898.2.2.2.2.2.2.2.2.2.2.1
theorem dL_law_909 : decode cL_law 909 = .ok (.iconst 5, 1) := gdL_law_898.2.2.2.2.2.2.2.2.2.2.2.1
theorem dL_law_910 : decode cL_law 910 = .ok (.iadd, 1) := gdL_law_898.2.2.2.2.2.2.2.2.2.2.2.2.1
theorem dL_law_911 : decode cL_law 911 = .ok (.iaload, 1) := gdL_law_898.2.2.2.2.2.2.2.2.2.2.2.2.2.1
theorem dL_law_912 : decode cL_law 912 = .ok (.invokevirtual 95, 3) := gdL_law_898.2.2.2.2.2.2.2.2.2.2.2.2.2.2.1
theorem dL_law_915 : decode cL_law 915 = .ok (.pop, 1) := gdL_law_898.2.2.2.2.2.2.2.2.2.2.2.2.2.2.2
theorem gdL_law_916 : (decode cL_law 916 = .ok (.aload_n 2, 1)) ∧ (decode cL_law 917 = .ok (.aload_n 0, 1)) ∧ (decode cL_law 918 = .ok (.iload_n 3, 1)) ∧ (decode cL_law 919 = .ok (.iconst 1, 1)) ∧ (decode cL_law 920 = .ok (.iadd, 1)) ∧ (decode cL_law 921 = .ok (.iaload, 1)) ∧ (decode cL_law 922 = .ok (.aload_n 0, 1)) ∧ (decode cL_law 923 = .ok (.iload_n 3, 1)) ∧ (decode cL_law 924 = .ok (.iconst 2, 1)) ∧ (decode cL_law 925 = .ok (.iadd, 1)) ∧ (decode cL_law 926 = .ok (.iaload, 1)) ∧ (decode cL_law 927 = .ok (.aload_n 0, 1)) ∧ (decode cL_law 928 = .ok (.iload_n 3, 1)) ∧ (decode cL_law 929 = .ok (.iconst 3, 1)) ∧ (decode cL_law 930 = .ok (.iadd, 1)) ∧ (decode cL_law 931 = .ok (.iaload, 1)) := by decide +kernel
theorem dL_law_916 : decode cL_law 916 = .ok (.aload_n 2, 1) := gdL_law_916.1
theorem dL_law_917 : decode cL_law 917 = .ok (.aload_n 0, 1) := gdL_law_916.2.1
theorem dL_law_918 : decode cL_law 918 = .ok (.iload_n 3, 1) := gdL_law_916.2.2.1
theorem dL_law_919 : decode cL_law 919 = .ok (.iconst 1, 1) := gdL_law_916.2.2.2.1
theorem dL_law_920 : decode cL_law 920 = .ok (.iadd, 1) := gdL_law_916.2.2.2.2.1
theorem dL_law_921 : decode cL_law 921 = .ok (.iaload, 1) := gdL_law_916.2.2.2.2.2.1
theorem dL_law_922 : decode cL_law 922 = .ok (.aload_n 0, 1) := gdL_law_916.2.2.2.2.2.2.1
theorem dL_law_923 : decode cL_law 923 = .ok (.iload_n 3, 1) := gdL_law_916.2.2.2.2.2.2.2.1
theorem dL_law_924 : decode cL_law 924 = .ok (.iconst 2, 1) := gdL_law_916.2.2.2.2.2.2.2.2.1
theorem dL_law_925 : decode cL_law 925 = .ok (.iadd, 1) := gdL_law_916.2.2.2.2.2.2.2.2.2.1
theorem dL_law_926 : decode cL_law 926 = .ok (.iaload, 1) := gdL_law_916.2.2.2.2.2.2.2.2.2.2.1
theorem dL_law_927 : decode cL_law 927 = .ok (.aload_n 0, 1) := gdL_law_916.2.2.2.2.2.2.2.2.2.2.2.1
theorem dL_law_928 : decode cL_law 928 = .ok (.iload_n 3, 1) := gdL_law_916.2.2.2.2.2.2.2.2.2.2.2.2.1
theorem dL_law_929 : decode cL_law 929 = .ok (.iconst 3, 1) := gdL_law_916.2.2.2.2.2.2.2.2.2.2.2.2.2.1
theorem dL_law_930 : decode cL_law 930 = .ok (.iadd, 1) := gdL_law_916.2.2.2.2.2.2.2.2.2.2.2.2.2.2.1
theorem dL_law_931 : decode cL_law 931 = .ok (.iaload, 1) := gdL_law_916.2.2.2.2.2.2.2.2.2.2.2.2.2.2.2
theorem gdL_law_932 : (decode cL_law 932 = .ok (.aload_n 0, 1)) ∧ (decode cL_law 933 = .ok (.iload_n 3, 1)) ∧ (decode cL_law 934 = .ok (.iconst 4, 1)) ∧ (decode cL_law 935 = .ok (.iadd, 1)) ∧ (decode cL_law 936 = .ok (.iaload, 1)) ∧ (decode cL_law 937 = .ok (.aload_n 0, 1)) ∧ (decode cL_law 938 = .ok (.iload_n 3, 1)) ∧ (decode cL_law 939 = .ok (.iconst 5, 1)) ∧ (decode cL_law 940 = .ok (.iadd, 1)) ∧ (decode cL_law 941 = .ok (.iaload, 1)) ∧ (decode cL_law 942 = .ok (.invokevirtual 98, 3)) ∧ (decode cL_law 945 = .ok (.pop, 1)) ∧ (decode cL_law 946 = .ok (.goto 673, 3)) ∧ (decode cL_law 949 = .ok (.aload_n 1, 1)) ∧ (decode cL_law 950 = .ok (.aload_n 0, 1)) ∧ (decode cL_law 951 = .ok (.iload_n 3, 1)) := by decide +kernel
theorem dL_law_932 : decode cL_law 932 = .ok (.aload_n 0, 1) := gdL_law_932.1
theorem dL_law_933 : decode cL_law 933 = .ok (.iload_n 3, 1) := gdL_law_932.2.1
theorem dL_law_934 : decode cL_law 934 = .ok (.iconst 4, 1) := gdL_law_932.2.2.1
theorem dL_law_935 : decode cL_law 935 = .ok (.iadd, 1) := gdL_law_932.2.2.2.1
theorem dL_law_936 : decode cL_law 936 = .ok (.iaload, 1) := gdL_law_932.2.2.2.2.1
theorem dL_law_937 : decode cL_law 937 = .ok (.aload_n 0, 1) := gdL_law_932.2.2.2.2.2.1
theorem dL_law_938 : decode cL_law 938 = .ok (.iload_n 3, 1) := gdL_law_932.2.2.2.2.2.2.1
theorem dL_law_939 : decode cL_law 939 = .ok (.iconst 5, 1) := gdL_law_932.2.2.2.2.2.2.2.1
theorem dL_law_940 : decode cL_law 940 = .ok (.iadd, 1) := gdL_law_932.2.2.2.2.2.2.2.2.1
theorem dL_law_941 : decode cL_law 941 = .ok (.iaload, 1) := gdL_law_932.2.2.2.2.2.2.2.2.2.1
theorem dL_law_942 : decode cL_law 942 = .ok (.invokevirtual 98, 3) := gdL_law_932.2.2.2.2.2.2.2.2.2.2.1
theorem dL_law_945 : decode cL_law 945 = .ok (.pop, 1) := gdL_law_932.2.2.2.2.2.2.2.2.2.2.2.1
theorem dL_law_946 : decode cL_law 946 = .ok (.goto 673, 3) := gdL_law_932.2.2.2.2.2.2.2.2.2.2.2.2.1
theorem dL_law_949 : decode cL_law 949 = .ok (.aload_n 1, 1) := gdL_law_932.2.2.2.2.2.2.2.2.2.2.2.2.2.1
theorem dL_law_950 : decode cL_law 950 = .ok (.aload_n 0, 1) := gdL_law_932.2.2.2.2.2.2.2.2.2.2.2.2.2.2.1
theorem dL_law_951 : decode cL_law 951 = .ok (.iload_n 3, 1) := gdL_law_932.2.2.2.2.2.2.2.2.2.2.2.2.2.2.2
theorem gdL_law_952 : (decode cL_law 952 = .ok (.iconst 1, 1)) ∧ (decode cL_law 953 = .ok (.iadd, 1)) ∧ (decode cL_law 954 = .ok (.iaload, 1)) ∧ (decode cL_law 955 = .ok (.aload_n 0, 1)) ∧ (decode cL_law 956 = .ok (.iload_n 3, 1)) ∧ (decode cL_law 957 = .ok (.iconst 2, 1)) ∧ (decode cL_law 958 = .ok (.iadd, 1)) ∧ (decode cL_law 959 = .ok (.iaload, 1)) ∧ (decode cL_law 960 = .ok (.aload_n 0, 1)) ∧ (decode cL_law 961 = .ok (.iload_n 3, 1)) ∧ (decode cL_law 962 = .ok (.iconst 3, 1)) ∧ (decode cL_law 963 = .ok (.iadd, 1)) ∧ (decode cL_law 964 = .ok (.iaload, 1)) ∧ (decode cL_law 965 = .ok (.aload_n 0, 1)) ∧ (decode cL_law 966 = .ok (.iload_n 3, 1)) ∧ (decode cL_law 967 = .ok (.iconst 4, 1)) := by decide +kernel
theorem dL_law_952 : decode cL_law 952 = .ok (.iconst 1, 1) := gdL_law_952.1
theorem dL_law_953 : decode cL_law 953 = .ok (.iadd, 1) := gdL_law_952.2.1
theorem dL_law_954 : decode cL_law 954 = .ok (.iaload, 1) := gdL_law_952.2.2.1
theorem dL_law_955 : decode cL_law 955 = .ok (.aload_n 0, 1) := gdL_law_952.2.2.2.1
theorem dL_law_956 : decode cL_law 956 = .ok (.iload_n 3, 1) := gdL_law_952.2.2.2.2.1
theorem dL_law_957 : decode cL_law 957 = .ok (.iconst 2, 1) := gdL_law_952.2.2.2.2.2.1
theorem dL_law_958 : decode cL_law 958 = .ok (.iadd, 1) := gdL_law_952.2.2.2.2.2.2.1
theorem dL_law_959 : decode cL_law 959 = .ok (.iaload, 1) := gdL_law_952.2.2.2.2.2.2.2.1
theorem dL_law_960 : decode cL_law 960 = .ok (.aload_n 0, 1) := gdL_law_952.2.2.2.2.2.2.2.2.1
theorem dL_law_961 : decode cL_law 961 = .ok (.iload_n 3, 1) := gdL_law_952.2.2.2.2.2.2.2.2.2.1
theorem dL_law_962 : decode cL_law 962 = .ok (.iconst 3, 1) := gdL_law_952.2.2.2.2.2.2.2.2.2.2.1
theorem dL_law_963 : decode cL_law 963 = .ok (.iadd, 1) := gdL_law_952.2.2.2.2.2.2.2.2.2.2.2.1
theorem dL_law_964 : decode cL_law 964 = .ok (.iaload, 1) := gdL_law_952.2.2.2.2.2.2.2.2.2.2.2.2.1
theorem dL_law_965 : decode cL_law 965 = .ok (.aload_n 0, 1) := gdL_law_952.2.2.2.2.2.2.2.2.2.2.2.2.2.1
theorem dL_law_966 : decode cL_law 966 = .ok (.iload_n 3, 1) := gdL_law_952.2.2.2.2.2.2.2.2.2.2.2.2.2.2.1
theorem dL_law_967 : decode cL_law 967 = .ok (.iconst 4, 1) := gdL_law_952.2.2.2.2.2.2.2.2.2.2.2.2.2.2.2
theorem gdL_law_968 : (decode cL_law 968 = .ok (.iadd, 1)) ∧ (decode cL_law 969 = .ok (.iaload, 1)) ∧ (decode cL_law 970 = .ok (.aload_n 0, 1)) ∧ (decode cL_law 971 = .ok (.iload_n 3, 1)) ∧ (decode cL_law 972 = .ok (.iconst 5, 1)) ∧ (decode cL_law 973 = .ok (.iadd, 1)) ∧ (decode cL_law 974 = .ok (.iaload, 1)) ∧ (decode cL_law 975 = .ok (.invokevirtual 99, 3)) ∧ (decode cL_law 978 = .ok (.pop2, 1)) ∧ (decode cL_law 979 = .ok (.aload_n 2, 1)) ∧ (decode cL_law 980 = .ok (.aload_n 0, 1)) ∧ (decode cL_law 981 = .ok (.iload_n 3, 1)) ∧ (decode cL_law 982 = .ok (.iconst 1, 1)) ∧ (decode cL_law 983 = .ok (.iadd, 1)) ∧ (decode cL_law 984 = .ok (.iaload, 1)) ∧ (decode cL_law 985 = .ok (.aload_n 0, 1)) := by decide +kernel
theorem dL_law_968 : decode cL_law 968 = .ok (.iadd, 1) := gdL_law_968.1
theorem dL_law_969 : decode cL_law 969 = .ok (.iaload, 1) := gdL_law_968.2.1
theorem dL_law_970 : decode cL_law 970 = .ok (.aload_n 0, 1) := gdL_law_968.2.2.1
theorem dL_law_971 : decode cL_law 971 = .ok (.iload_n 3, 1) := gdL_law_968.2.2.2.1
theorem dL_law_972 : decode cL_law 972 = .ok (.iconst 5, 1) := gdL_law_968.2.2.2.2.1
theorem dL_law_973 : decode cL_law 973 = .ok (.iadd, 1) := gdL_law_968.2.2.2.2.2.1
theorem dL_law_974 : decode cL_law 974 = .ok (.iaload, 1) := gdL_law_968.2.2.2.2.2.2.1
theorem dL_law_975 : decode cL_law 975 = .ok (.invokevirtual 99, 3) := gdL_law_968.2.2.2.2.2.2.2.1
theorem dL_law_978 : decode cL_law 978 = .ok (.pop2, 1) := gdL_law_968.2.2.2.2.2.2.2.2.1
theorem dL_law_979 : decode cL_law 979 = .ok (.aload_n 2, 1) := gdL_law_968.2.2.2.2.2.2.2.2.2.1
theorem dL_law_980 : decode cL_law 980 = .ok (.aload_n 0, 1) := gdL_law_968.2.2.2.2.2.2.2.2.2.2.1
theorem dL_law_981 : decode cL_law 981 = .ok (.iload_n 3, 1) := gdL_law_968.2.2.2.2.2.2.2.2.2.2.2.1
theorem dL_law_982 : decode cL_law 982 = .ok (.iconst 1, 1) := gdL_law_968.2.2.2.2.2.2.2.2.2.2.2.2.1
theorem dL_law_983 : decode cL_law 983 = .ok (.iadd, 1) := gdL_law_968.2.2.2.2.2.2.2.2.2.2.2.2.2.1
theorem dL_law_984 : decode cL_law 984 = .ok (.iaload, 1) := gdL_law_968.2.2.2.2.2.2.2.2.2.2.2.2.2.2.1
theorem dL_law_985 : decode cL_law 985 = .ok (.aload_n 0, 1) := gdL_law_968.2.2.2.2.2.2.2.2.2.2.2.2.2.2.2
theorem gdL_law_986 : (decode cL_law 986 = .ok (.iload_n 3, 1)) ∧ (decode cL_law 987 = .ok (.iconst 2, 1)) ∧ (decode cL_law 988 = .ok (.iadd, 1)) ∧ (decode cL_law 989 = .ok (.iaload, 1)) ∧ (decode cL_law 990 = .ok (.aload_n 0, 1)) ∧ (decode cL_law 991 = .ok (.iload_n 3, 1)) ∧ (decode cL_law 992 = .ok (.iconst 3, 1)) ∧ (decode cL_law 993 = .ok (.iadd, 1)) ∧ (decode cL_law 994 = .ok (.iaload, 1)) ∧ (decode cL_law 995 = .ok (.aload_n 0, 1)) ∧ (decode cL_law 996 = .ok (.iload_n 3, 1)) ∧ (decode cL_law 997 = .ok (.iconst 4, 1)) ∧ (decode cL_law 998 = .ok (.iadd, 1)) ∧ (decode cL_law 999 = .ok (.iaload, 1)) ∧ (decode cL_law 1000 = .ok (.aload_n 0, 1)) ∧ (decode cL_law 1001 = .ok (.iload_n 3, 1)) := by decide +kernel
theorem dL_law_986 : decode cL_law 986 = .ok (.iload_n 3, 1) := gdL_law_986.1
theorem dL_law_987 : decode cL_law 987 = .ok (.iconst 2, 1) := gdL_law_986.2.1
theorem dL_law_988 : decode cL_law 988 = .ok (.iadd, 1) := gdL_law_986.2.2.1
theorem dL_law_989 : decode cL_law 989 = .ok (.iaload, 1) := gdL_law_986.2.2.2.1
theorem dL_law_990 : decode cL_law 990 = .ok (.aload_n 0, 1) := gdL_law_986.2.2.2.2.1
theorem dL_law_991 : decode cL_law 991 = .ok (.iload_n 3, 1) := gdL_law_986.2.2.2.2.2.1
theorem dL_law_992 : decode cL_law 992 = .ok (.iconst 3, 1) := gdL_law_986.2.2.2.2.2.2.1
theorem dL_law_993 : decode cL_law 993 = .ok (.iadd, 1) := gdL_law_986.2.2.2.2.2.2.2.1
theorem dL_law_994 : decode cL_law 994 = .ok (.iaload, 1) := gdL_law_986.2.2.2.2.2.2.2.2.1
theorem dL_law_995 : decode cL_law 995 = .ok (.aload_n 0, 1) := gdL_law_986.2.2.2.2.2.2.2.2.2.1
theorem dL_law_996 : decode cL_law 996 = .ok (.iload_n 3, 1) := gdL_law_986.2.2.2.2.2.2.2.2.2.2.1
theorem dL_law_997 : decode cL_law 997 = .ok (.iconst 4, 1) := gdL_law_986.2.2.2.2.2.2.2.2.2.2.2.1
theorem dL_law_998 : decode cL_law 998 = .ok (.iadd, 1) := gdL_law_986.2.2.2.2.2.2.2.2.2.2.2.2.1
theorem dL_law_999 : decode cL_law 999 = .ok (.iaload, 1) := gdL_law_986.2.2.2.2.2.2.2.2.2.2.2.2.2.1
theorem dL_law_1000 : decode cL_law 1000 = .ok (.aload_n 0, 1) := gdL_law_986.2.2.2.2.2.2.2.2.2.2.2.2.2.2.1
theorem dL_law_1001 : decode cL_law 1001 = .ok (.iload_n 3, 1) := gdL_law_986.2.2.2.2.2.2.2.2.2.2.2.2.2.2.2
theorem gdL_law_1002 : (decode cL_law 1002 = .ok (.iconst 5, 1)) ∧ (decode cL_law 1003 = .ok (.iadd, 1)) ∧ (decode cL_law 1004 = .ok (.iaload, 1)) ∧ (decode cL_law 1005 = .ok (.invokevirtual 102, 3)) ∧ (decode cL_law 1008 = .ok (.pop2, 1)) ∧ (decode cL_law 1009 = .ok (.goto 610, 3)) ∧ (decode cL_law 1012 = .ok (.aload_n 1, 1)) ∧ (decode cL_law 1013 = .ok (.aload_n 0, 1)) ∧ (decode cL_law 1014 = .ok (.iload_n 3, 1)) ∧ (decode cL_law 1015 = .ok (.iconst 1, 1)) ∧ (decode cL_law 1016 = .ok (.iadd, 1)) ∧ (decode cL_law 1017 = .ok (.iaload, 1)) ∧ (decode cL_law 1018 = .ok (.aload_n 0, 1)) ∧ (decode cL_law 1019 = .ok (.iload_n 3, 1)) ∧ (decode cL_law 1020 = .ok (.iconst 2, 1)) ∧ (decode cL_law 1021 = .ok (.iadd, 1)) := by decide +kernel
theorem dL_law_1002 : decode cL_law 1002 = .ok (.iconst 5, 1) := gdL_law_1002.1
theorem dL_law_1003 : decode cL_law 1003 = .ok (.iadd, 1) := gdL_law_1002.2.1
theorem dL_law_1004 : decode cL_law 1004 = .ok (.iaload, 1) := gdL_law_1002.2.2.1
theorem dL_law_1005 : decode cL_law 1005 = .ok (.invokevirtual 102, 3) := gdL_law_1002.2.2.2.1
theorem dL_law_1008 : decode cL_law 1008 = .ok (.pop2, 1) := gdL_law_1002.2.2.2.2.1
theorem dL_law_1009 : decode cL_law 1009 = .ok (.goto 610, 3) := gdL_law_1002.2.2.2.2.2.1
theorem dL_law_1012 : decode cL_law 1012 = .ok (.aload_n 1, 1) := gdL_law_1002.2.2.2.2.2.2.1
theorem dL_law_1013 : decode cL_law 1013 = .ok (.aload_n 0, 1) := gdL_law_1002.2.2.2.2.2.2.2.1
theorem dL_law_1014 : decode cL_law 1014 = .ok (.iload_n 3, 1) := gdL_law_1002.2.2.2.2.2.2.2.2.1
theorem dL_law_1015 : decode cL_law 1015 = .ok (.iconst 1, 1) := gdL_law_1002.2.2.2.2.2.2.2.2.2.1
theorem dL_law_1016 : decode cL_law 1016 = .ok (.iadd, 1) := gdL_law_1002.2.2.2.2.2.2.2.2.2.2.1
theorem dL_law_1017 : decode cL_law 1017 = .ok (.iaload, 1) := gdL_law_1002.2.2.2.2.2.2.2.2.2.2.2.1
theorem dL_law_1018 : decode cL_law 1018 = .ok (.aload_n 0, 1) := gdL_law_1002.2.2.2.2.2.2.2.2.2.2.2.2.1
theorem dL_law_1019 : decode cL_law 1019 = .ok (.iload_n 3, 1) := gdL_law_1002.2.2.2.2.2.2.2.2.2.2.2.2.2.1
theorem dL_law_1020 : decode cL_law 1020 = .ok (.iconst 2, 1) := gdL_law_1002.2.2.2.2.2.2.2.2.2.2.2.2.2.2.1
theorem dL_law_1021 : decode cL_law 1021 = .ok (.iadd, 1) := gdL_law_1002.2.2.2.2.2.2.2.2.2.2.2.2.2.2.2
theorem gdL_law_1022 : (decode cL_law 1022 = .ok (.iaload, 1)) ∧ (decode cL_law 1023 = .ok (.aload_n 0, 1)) ∧ (decode cL_law 1024 = .ok (.iload_n 3, 1)) ∧ (decode cL_law 1025 = .ok (.iconst 3, 1)) ∧ (decode cL_law 1026 = .ok (.iadd, 1)) ∧ (decode cL_law 1027 = .ok (.iaload, 1)) ∧ (decode cL_law 1028 = .ok (.aload_n 0, 1)) ∧ (decode cL_law 1029 = .ok (.iload_n 3, 1)) ∧ (decode cL_law 1030 = .ok (.iconst 4, 1)) ∧ (decode cL_law 1031 = .ok (.iadd, 1)) ∧ (decode cL_law 1032 = .ok (.iaload, 1)) ∧ (decode cL_law 1033 = .ok (.invokevirtual 103, 3)) ∧ (decode cL_law 1036 = .ok (.pop, 1)) ∧ (decode cL_law 1037 = .ok (.aload_n 2, 1)) ∧ (decode cL_law 1038 = .ok (.aload_n 0, 1)) ∧ (decode cL_law 1039 = .ok (.iload_n 3, 1)) := by decide +kernel
theorem dL_law_1022 : decode cL_law 1022 = .ok (.iaload, 1) := gdL_law_1022.1
theorem dL_law_1023 : decode cL_law 1023 = .ok (.aload_n 0, 1) := gdL_law_1022.2.1
theorem dL_law_1024 : decode cL_law 1024 = .ok (.iload_n 3, 1) := gdL_law_1022.2.2.1
theorem dL_law_1025 : decode cL_law 1025 = .ok (.iconst 3, 1) := gdL_law_1022.2.2.2.1
theorem dL_law_1026 : decode cL_law 1026 = .ok (.iadd, 1) := gdL_law_1022.2.2.2.2.1
theorem dL_law_1027 : decode cL_law 1027 = .ok (.iaload, 1) := gdL_law_1022.2.2.2.2.2.1
theorem dL_law_1028 : decode cL_law 1028 = .ok (.aload_n 0, 1) := gdL_law_1022.2.2.2.2.2.2.1
theorem dL_law_1029 : decode cL_law 1029 = .ok (.iload_n 3, 1) := gdL_law_1022.2.2.2.2.2.2.2.1
theorem dL_law_1030 : decode cL_law 1030 = .ok (.iconst 4, 1) := gdL_law_1022.2.2.2.2.2.2.2.2.1
theorem dL_law_1031 : decode cL_law 1031 = .ok (.iadd, 1) := gdL_law_1022.2.2.2.2.2.2.2.2.2.1
theorem dL_law_1032 : decode cL_law 1032 = .ok (.iaload, 1) := gdL_law_1022.2.2.2.2.2.2.2.2.2.2.1
theorem dL_law_1033 : decode cL_law 1033 = .ok (.invokevirtual 103, 3) := gdL_law_1022.2.2.2.2.2.2.2.2.2.2.2.1
theorem dL_law_1036 : decode cL_law 1036 = .ok (.pop, 1) := gdL_law_1022.2.2.2.2.2.2.2.2.2.2.2.2.1
theorem dL_law_1037 : decode cL_law 1037 = .ok (.aload_n 2, 1) := gdL_law_1022.2.2.2.2.2.2.2.2.2.2.2.2.2.1
theorem dL_law_1038 : decode cL_law 1038 = .ok (.aload_n 0, 1) := gdL_law_1022.2.2.2.2.2.2.2.2.2.2.2.2.2.2.1
theorem dL_law_1039 : decode cL_law 1039 = .ok (.iload_n 3, 1) := gdL_law_1022.2.2.2.2.2.2.2.2.2.2.2.2.2.2.2
theorem gdL_law_1040 : (decode cL_law 1040 = .ok (.iconst 1, 1)) ∧ (decode cL_law 1041 = .ok (.iadd, 1)) ∧ (decode cL_law 1042 = .ok (.iaload, 1)) ∧ (decode cL_law 1043 = .ok (.aload_n 0, 1)) ∧ (decode cL_law 1044 = .ok (.iload_n 3, 1)) ∧ (decode cL_law 1045 = .ok (.iconst 2, 1)) ∧ (decode cL_law 1046 = .ok (.iadd, 1)) ∧ (decode cL_law 1047 = .ok (.iaload, 1)) ∧ (decode cL_law 1048 = .ok (.aload_n 0, 1)) ∧ (decode cL_law 1049 = .ok (.iload_n 3, 1)) ∧ (decode cL_law 1050 = .ok (.iconst 3, 1)) ∧ (decode cL_law 1051 = .ok (.iadd, 1)) ∧ (decode cL_law 1052 = .ok (.iaload, 1)) ∧ (decode cL_law 1053 = .ok (.aload_n 0, 1)) ∧ (decode cL_law 1054 = .ok (.iload_n 3, 1)) ∧ (decode cL_law 1055 = .ok (.iconst 4, 1)) := by decide +kernel
theorem dL_law_1040 : decode cL_law 1040 = .ok (.iconst 1, 1) := gdL_law_1040.1
theorem dL_law_1041 : decode cL_law 1041 = .ok (.iadd, 1) := gdL_law_1040.2.1
theorem dL_law_1042 : decode cL_law 1042 = .ok (.iaload, 1) := gdL_law_1040.2.2.1
theorem dL_law_1043 : decode cL_law 1043 = .ok (.aload_n 0, 1) := gdL_law_1040.2.2.2.1
theorem dL_law_1044 : decode cL_law 1044 = .ok (.iload_n 3, 1) := gdL_law_1040.2.2.2.2.1
theorem dL_law_1045 : decode cL_law 1045 = .ok (.iconst 2, 1) := gdL_law_1040.2.2.2.2.2.1
theorem dL_law_1046 : decode cL_law 1046 = .ok (.iadd, 1) := gdL_law_1040.2.2.2.2.2.2.1
theorem dL_law_1047 : decode cL_law 1047 = .ok (.iaload, 1) := gdL_law_1040.2.2.2.2.2.2.2.1
theorem dL_law_1048 : decode cL_law 1048 = .ok (.aload_n 0, 1) := gdL_law_1040.2.2.2.2.2.2.2.2.1
theorem dL_law_1049 : decode cL_law 1049 = .ok (.iload_n 3, 1) := gdL_law_1040.2.2.2.2.2.2.2.2.2.1
theorem dL_law_1050 : decode cL_law 1050 = .ok (.iconst 3, 1) := gdL_law_1040.2.2.2.2.2.2.2.2.2.2.1
theorem dL_law_1051 : decode cL_law 1051 = .ok (.iadd, 1) := gdL_law_1040.2.2.2.2.2.2.2.2.2.2.2.1
theorem dL_law_1052 : decode cL_law 1052 = .ok (.iaload, 1) := gdL_law_1040.2.2.2.2.2.2.2.2.2.2.2.2.1
theorem dL_law_1053 : decode cL_law 1053 = .ok (.aload_n 0, 1) := gdL_law_1040.2.2.2.2.2.2.2.2.2.2.2.2.2.1
theorem dL_law_1054 : decode cL_law 1054 = .ok (.iload_n 3, 1) := gdL_law_1040.2.2.2.2.2.2.2.2.2.2.2.2.2.2.1
theorem dL_law_1055 : decode cL_law 1055 = .ok (.iconst 4, 1) := gdL_law_1040.2.2.2.2.2.2.2.2.2.2.2.2.2.2.2
theorem gdL_law_1056 : (decode cL_law 1056 = .ok (.iadd, 1)) ∧ (decode cL_law 1057 = .ok (.iaload, 1)) ∧ (decode cL_law 1058 = .ok (.invokevirtual 107, 3)) ∧ (decode cL_law 1061 = .ok (.pop, 1)) ∧ (decode cL_law 1062 = .ok (.goto 557, 3)) ∧ (decode cL_law 1065 = .ok (.aload_n 1, 1)) ∧ (decode cL_law 1066 = .ok (.aload_n 0, 1)) ∧ (decode cL_law 1067 = .ok (.iload_n 3, 1)) ∧ (decode cL_law 1068 = .ok (.iconst 1, 1)) ∧ (decode cL_law 1069 = .ok (.iadd, 1)) ∧ (decode cL_law 1070 = .ok (.iaload, 1)) ∧ (decode cL_law 1071 = .ok (.aload_n 0, 1)) ∧ (decode cL_law 1072 = .ok (.iload_n 3, 1)) ∧ (decode cL_law 1073 = .ok (.iconst 2, 1)) ∧ (decode cL_law 1074 = .ok (.iadd, 1)) ∧ (decode cL_law 1075 = .ok (.iaload, 1)) := by decide +kernel
theorem dL_law_1056 : decode cL_law 1056 = .ok (.iadd, 1) := gdL_law_1056.1
theorem dL_law_1057 : decode cL_law 1057 = .ok (.iaload, 1) := gdL_law_1056.2.1
theorem dL_law_1058 : decode cL_law 1058 = .ok (.invokevirtual 107, 3) := gdL_law_1056.2.2.1
theorem dL_law_1061 : decode cL_law 1061 = .ok (.pop, 1) := gdL_law_1056.2.2.2.1
theorem dL_law_1062 : decode cL_law 1062 = .ok (.goto 557, 3) := gdL_law_1056.2.2.2.2.1
theorem dL_law_1065 : decode cL_law 1065 = .ok (.aload_n 1, 1) := gdL_law_1056.2.2.2.2.2.1
theorem dL_law_1066 : decode cL_law 1066 = .ok (.aload_n 0, 1) := gdL_law_1056.2.2.2.2.2.2.1
theorem dL_law_1067 : decode cL_law 1067 = .ok (.iload_n 3, 1) := gdL_law_1056.2.2.2.2.2.2.2.1
theorem dL_law_1068 : decode cL_law 1068 = .ok (.iconst 1, 1) := gdL_law_1056.2.2.2.2.2.2.2.2.1
theorem dL_law_1069 : decode cL_law 1069 = .ok (.iadd, 1) := gdL_law_1056.2.2.2.2.2.2.2.2.2.1
theorem dL_law_1070 : decode cL_law 1070 = .ok (.iaload, 1) := gdL_law_1056.2.2.2.2.2.2.2.2.2.2.1
theorem dL_law_1071 : decode cL_law 1071 = .ok (.aload_n 0, 1) := gdL_law_1056.2.2.2.2.2.2.2.2.2.2.2.1
theorem dL_law_1072 : decode cL_law 1072 = .ok (.iload_n 3, 1) := gdL_law_1056.2.2.2.2.2.2.2.2.2.2.2.2.1
theorem dL_law_1073 : decode cL_law 1073 = .ok (.iconst 2, 1) := gdL_law_1056.2.2.2.2.2.2.2.2.2.2.2.2.2.1
theorem dL_law_1074 : decode cL_law 1074 = .ok (.iadd, 1) := gdL_law_1056.2.2.2.2.2.2.2.2.2.2.2.2.2.2.1
theorem dL_law_1075 : decode cL_law 1075 = .ok (.iaload, 1) := gdL_law_1056.2.2.2.2.2.2.2.2.2.2.2.2.2.2.2
theorem gdL_law_1076 : (decode cL_law 1076 = .ok (.aload_n 0, 1)) ∧ (decode cL_law 1077 = .ok (.iload_n 3, 1)) ∧ (decode cL_law 1078 = .ok (.iconst 3, 1)) ∧ (decode cL_law 1079 = .ok (.iadd, 1)) ∧ (decode cL_law 1080 = .ok (.iaload, 1)) ∧ (decode cL_law 1081 = .ok (.ifCond .eq 7, 3)) ∧ (decode cL_law 1084 = .ok (.iconst 1, 1)) ∧ (decode cL_law 1085 = .ok (.goto 4, 3)) ∧ (decode cL_law 1088 = .ok (.iconst 0, 1)) ∧ (decode cL_law 1089 = .ok (.invokevirtual 108, 3)) ∧ (decode cL_law 1092 = .ok (.pop, 1)) ∧ (decode cL_law 1093 = .ok (.aload_n 2, 1)) ∧ (decode cL_law 1094 = .ok (.aload_n 0, 1)) ∧ (decode cL_law 1095 = .ok (.iload_n 3, 1)) ∧ (decode cL_law 1096 = .ok (.iconst 1, 1)) ∧ (decode cL_law 1097 = .ok (.iadd, 1)) := by decide +kernel
theorem dL_law_1076 : decode cL_law 1076 = .ok (.aload_n 0, 1) := gdL_law_1076.1
theorem dL_law_1077 : decode cL_law 1077 = .ok (.iload_n 3, 1) := gdL_law_1076.2.1
theorem dL_law_1078 : decode cL_law 1078 = .ok (.iconst 3, 1) := gdL_law_1076.2.2.1
theorem dL_law_1079 : decode cL_law 1079 = .ok (.iadd, 1) := gdL_law_1076.2.2.2.1
theorem dL_law_1080 : decode cL_law 1080 = .ok (.iaload, 1) := gdL_law_1076.2.2.2.2.1
theorem dL_law_1081 : decode cL_law 1081 = .ok (.ifCond .eq 7, 3) := gdL_law_1076.2.2.2.2.2.1
theorem dL_law_1084 : decode cL_law 1084 = .ok (.iconst 1, 1) := gdL_law_1076.2.2.2.2.2.2.1
theorem dL_law_1085 : decode cL_law 1085 = .ok (.goto 4, 3) := gdL_law_1076.2.2.2.2.2.2.2.1
theorem dL_law_1088 : decode cL_law 1088 = .ok (.iconst 0, 1) := gdL_law_1076.2.2.2.2.2.2.2.2.1
theorem dL_law_1089 : decode cL_law 1089 = .ok (.invokevirtual 108, 3) := gdL_law_1076.2.2.2.2.2.2.2.2.2.1
theorem dL_law_1092 : decode cL_law 1092 = .ok (.pop, 1) := gdL_law_1076.2.2.2.2.2.2.2.2.2.2.1
theorem dL_law_1093 : decode cL_law 1093 = .ok (.aload_n 2, 1) := gdL_law_1076.2.2.2.2.2.2.2.2.2.2.2.1
theorem dL_law_1094 : decode cL_law 1094 = .ok (.aload_n 0, 1) := gdL_law_1076.2.2.2.2.2.2.2.2.2.2.2.2.1
theorem dL_law_1095 : decode cL_law 1095 = .ok (.iload_n 3, 1) := gdL_law_1076.2.2.2.2.2.2.2.2.2.2.2.2.2.1
theorem dL_law_1096 : decode cL_law 1096 = .ok (.iconst 1, 1) := gdL_law_1076.2.2.2.2.2.2.2.2.2.2.2.2.2.2.1
theorem dL_law_1097 : decode cL_law 1097 = .ok (.iadd, 1) := gdL_law_1076.2.2.2.2.2.2.2.2.2.2.2.2.2.2.2
theorem gdL_law_1098 : (decode cL_law 1098 = .ok (.iaload, 1)) ∧ (decode cL_law 1099 = .ok (.aload_n 0, 1)) ∧ (decode cL_law 1100 = .ok (.iload_n 3, 1)) ∧ (decode cL_law 1101 = .ok (.iconst 2, 1)) ∧ (decode cL_law 1102 = .ok (.iadd, 1)) ∧ (decode cL_law 1103 = .ok (.iaload, 1)) ∧ (decode cL_law 1104 = .ok (.aload_n 0, 1)) ∧ (decode cL_law 1105 = .ok (.iload_n 3, 1)) ∧ (decode cL_law 1106 = .ok (.iconst 3, 1)) ∧ (decode cL_law 1107 = .ok (.iadd, 1)) ∧ (decode cL_law 1108 = .ok (.iaload, 1)) ∧ (decode cL_law 1109 = .ok (.ifCond .eq 7, 3)) ∧ (decode cL_law 1112 = .ok (.iconst 1, 1)) ∧ (decode cL_law 1113 = .ok (.goto 4, 3)) ∧ (decode cL_law 1116 = .ok (.iconst 0, 1)) ∧ (decode cL_law 1117 = .ok (.invokevirtual 112, 3)) := by decide +kernel
theorem dL_law_1098 : decode cL_law 1098 = .ok (.iaload, 1) := gdL_law_1098.1
theorem dL_law_1099 : decode cL_law 1099 = .ok (.aload_n 0, 1) := gdL_law_1098.2.1
theorem dL_law_1100 : decode cL_law 1100 = .ok (.iload_n 3, 1) := gdL_law_1098.2.2.1
theorem dL_law_1101 : decode cL_law 1101 = .ok (.iconst 2, 1) := gdL_law_1098.2.2.2.1
theorem dL_law_1102 : decode cL_law 1102 = .ok (.iadd, 1) := gdL_law_1098.2.2.2.2.1
theorem dL_law_1103 : decode cL_law 1103 = .ok (.iaload, 1) := gdL_law_1098.2.2.2.2.2.1
theorem dL_law_1104 : decode cL_law 1104 = .ok (.aload_n 0, 1) := gdL_law_1098.2.2.2.2.2.2.1
theorem dL_law_1105 : decode cL_law 1105 = .ok (.iload_n 3, 1) := gdL_law_1098.2.2.2.2.2.2.2.1
theorem dL_law_1106 : decode cL_law 1106 = .ok (.iconst 3, 1) := gdL_law_1098.2.2.2.2.2.2.2.2.1
theorem dL_law_1107 : decode cL_law 1107 = .ok (.iadd, 1) := gdL_law_1098.2.2.2.2.2.2.2.2.2.1
theorem dL_law_1108 : decode cL_law 1108 = .ok (.iaload, 1) := gdL_law_1098.2.2.2.2.2.2.2.2.2.2.1
theorem dL_law_1109 : decode cL_law 1109 = .ok (.ifCond .eq 7, 3) := gdL_law_1098.2.2.2.2.2.2.2.2.2.2.2.1
theorem dL_law_1112 : decode cL_law 1112 = .ok (.iconst 1, 1) := gdL_law_1098.2.2.2.2.2.2.2.2.2.2.2.2.1
theorem dL_law_1113 : decode cL_law 1113 = .ok (.goto 4, 3) := gdL_law_1098.2.2.2.2.2.2.2.2.2.2.2.2.2.1
theorem dL_law_1116 : decode cL_law 1116 = .ok (.iconst 0, 1) := gdL_law_1098.2.2.2.2.2.2.2.2.2.2.2.2.2.2.1
theorem dL_law_1117 : decode cL_law 1117 = .ok (.invokevirtual 112, 3) := gdL_law_1098.2.2.2.2.2.2.2.2.2.2.2.2.2.2.2
theorem gdL_law_1120 : (decode cL_law 1120 = .ok (.pop, 1)) ∧ (decode cL_law 1121 = .ok (.goto 498, 3)) ∧ (decode cL_law 1124 = .ok (.aload_n 1, 1)) ∧ (decode cL_law 1125 = .ok (.aload_n 0, 1)) ∧ (decode cL_law 1126 = .ok (.iload_n 3, 1)) ∧ (decode cL_law 1127 = .ok (.iconst 1, 1)) ∧ (decode cL_law 1128 = .ok (.iadd, 1)) ∧ (decode cL_law 1129 = .ok (.iaload, 1)) ∧ (decode cL_law 1130 = .ok (.aload_n 0, 1)) ∧ (decode cL_law 1131 = .ok (.iload_n 3, 1)) ∧ (decode cL_law 1132 = .ok (.iconst 2, 1)) ∧ (decode cL_law 1133 = .ok (.iadd, 1)) ∧ (decode cL_law 1134 = .ok (.iaload, 1)) ∧ (decode cL_law 1135 = .ok (.aload_n 0, 1)) ∧ (decode cL_law 1136 = .ok (.iload_n 3, 1)) ∧ (decode cL_law 1137 = .ok (.iconst 3, 1)) := by decide +kernel
theorem dL_law_1120 : decode cL_law 1120 = .ok (.pop, 1) := gdL_law_1120.1
theorem dL_law_1121 : decode cL_law 1121 = .ok (.goto 498, 3) := gdL_law_1120.2.1
theorem dL_law_1124 : decode cL_law 1124 = .ok (.aload_n 1, 1) := gdL_law_1120.2.2.1
theorem dL_law_1125 : decode cL_law 1125 = .ok (.aload_n 0, 1) := gdL_law_1120.2.2.2.1
theorem dL_law_1126 : decode cL_law 1126 = .ok (.iload_n 3, 1) := gdL_law_1120.2.2.2.2.1
theorem dL_law_1127 : decode cL_law 1127 = .ok (.iconst 1, 1) := gdL_law_1120.2.2.2.2.2.1
theorem dL_law_1128 : decode cL_law 1128 = .ok (.iadd, 1) := gdL_law_1120.2.2.2.2.2.2.1
theorem dL_law_1129 : decode cL_law 1129 = .ok (.iaload, 1) := gdL_law_1120.2.2.2.2.2.2.2.1
theorem dL_law_1130 : decode cL_law 1130 = .ok (.aload_n 0, 1) := gdL_law_1120.2.2.2.2.2.2.2.2.1
theorem dL_law_1131 : decode cL_law 1131 = .ok (.iload_n 3, 1) := gdL_law_1120.2.2.2.2.2.2.2.2.2.1
theorem dL_law_1132 : decode cL_law 1132 = .ok (.iconst 2, 1) := gdL_law_1120.2.2.2.2.2.2.2.2.2.2.1
theorem dL_law_1133 : decode cL_law 1133 = .ok (.iadd, 1) := gdL_law_1120.2.2.2.2.2.2.2.2.2.2.2.1
theorem dL_law_1134 : decode cL_law 1134 = .ok (.iaload, 1) := gdL_law_1120.2.2.2.2.2.2.2.2.2.2.2.2.1
theorem dL_law_1135 : decode cL_law 1135 = .ok (.aload_n 0, 1) := gdL_law_1120.2.2.2.2.2.2.2.2.2.2.2.2.2.1
theorem dL_law_1136 : decode cL_law 1136 = .ok (.iload_n 3, 1) := gdL_law_1120.2.2.2.2.2.2.2.2.2.2.2.2.2.2.1
theorem dL_law_1137 : decode cL_law 1137 = .ok (.iconst 3, 1) := gdL_law_1120.2.2.2.2.2.2.2.2.2.2.2.2.2.2.2
theorem gdL_law_1138 : (decode cL_law 1138 = .ok (.iadd, 1)) ∧ (decode cL_law 1139 = .ok (.iaload, 1)) ∧ (decode cL_law 1140 = .ok (.aload_n 0, 1)) ∧ (decode cL_law 1141 = .ok (.iload_n 3, 1)) ∧ (decode cL_law 1142 = .ok (.iconst 4, 1)) ∧ (decode cL_law 1143 = .ok (.iadd, 1)) ∧ (decode cL_law 1144 = .ok (.iaload, 1)) ∧ (decode cL_law 1145 = .ok (.invokevirtual 113, 3)) ∧ (decode cL_law 1148 = .ok (.pop2, 1)) ∧ (decode cL_law 1149 = .ok (.aload_n 2, 1)) ∧ (decode cL_law 1150 = .ok (.aload_n 0, 1)) ∧ (decode cL_law 1151 = .ok (.iload_n 3, 1)) ∧ (decode cL_law 1152 = .ok (.iconst 1, 1)) ∧ (decode cL_law 1153 = .ok (.iadd, 1)) ∧ (decode cL_law 1154 = .ok (.iaload, 1)) ∧ (decode cL_law 1155 = .ok (.aload_n 0, 1)) := by decide +kernel
theorem dL_law_1138 : decode cL_law 1138 = .ok (.iadd, 1) := gdL_law_1138.1
theorem dL_law_1139 : decode cL_law 1139 = .ok (.iaload, 1) := gdL_law_1138.2.1
theorem dL_law_1140 : decode cL_law 1140 = .ok (.aload_n 0, 1) := gdL_law_1138.2.2.1
theorem dL_law_1141 : decode cL_law 1141 = .ok (.iload_n 3, 1) := gdL_law_1138.2.2.2.1
theorem dL_law_1142 : decode cL_law 1142 = .ok (.iconst 4, 1) := gdL_law_1138.2.2.2.2.1
theorem dL_law_1143 : decode cL_law 1143 = .ok (.iadd, 1) := gdL_law_1138.2.2.2.2.2.1
theorem dL_law_1144 : decode cL_law 1144 = .ok (.iaload, 1) := gdL_law_1138.2.2.2.2.2.2.1
theorem dL_law_1145 : decode cL_law 1145 = .ok (.invokevirtual 113, 3) := gdL_law_1138.2.2.2.2.2.2.2.1
theorem dL_law_1148 : decode cL_law 1148 = .ok (.pop2, 1) := gdL_law_1138.2.2.2.2.2.2.2.2.1
theorem dL_law_1149 : decode cL_law 1149 = .ok (.aload_n 2, 1) := gdL_law_1138.2.2.2.2.2.2.2.2.2.1
theorem dL_law_1150 : decode cL_law 1150 = .ok (.aload_n 0, 1) := gdL_law_1138.2.2.2.2.2.2.2.2.2.2.1
theorem dL_law_1151 : decode cL_law 1151 = .ok (.iload_n 3, 1) := gdL_law_1138.2.2.2.2.2.2.2.2.2.2.2.1
theorem dL_law_1152 : decode cL_law 1152 = .ok (.iconst 1, 1) := gdL_law_1138.2.2.2.2.2.2.2.2.2.2.2.2.1
theorem dL_law_1153 : decode cL_law 1153 = .ok (.iadd, 1) := gdL_law_1138.2.2.2.2.2.2.2.2.2.2.2.2.2.1
theorem dL_law_1154 : decode cL_law 1154 = .ok (.iaload, 1) := gdL_law_1138.2.2.2.2.2.2.2.2.2.2.2.2.2.2.1
theorem dL_law_1155 : decode cL_law 1155 = .ok (.aload_n 0, 1) := gdL_law_1138.2.2.2.2.2.2.2.2.2.2.2.2.2.2.2
theorem gdL_law_1156 : (decode cL_law 1156 = .ok (.iload_n 3, 1)) ∧ (decode cL_law 1157 = .ok (.iconst 2, 1)) ∧ (decode cL_law 1158 = .ok (.iadd, 1)) ∧ (decode cL_law 1159 = .ok (.iaload, 1)) ∧ (decode cL_law 1160 = .ok (.aload_n 0, 1)) ∧ (decode cL_law 1161 = .ok (.iload_n 3, 1)) ∧ (decode cL_law 1162 = .ok (.iconst 3, 1)) ∧ (decode cL_law 1163 = .ok (.iadd, 1)) ∧ (decode cL_law 1164 = .ok (.iaload, 1)) ∧ (decode cL_law 1165 = .ok (.aload_n 0, 1)) ∧ (decode cL_law 1166 = .ok (.iload_n 3, 1)) ∧ (decode cL_law 1167 = .ok (.iconst 4, 1)) ∧ (decode cL_law 1168 = .ok (.iadd, 1)) ∧ (decode cL_law 1169 = .ok (.iaload, 1)) ∧ (decode cL_law 1170 = .ok (.invokevirtual 116, 3)) ∧ (decode cL_law 1173 = .ok (.pop2, 1)) := by decide +kernel
theorem dL_law_1156 : decode cL_law 1156 = .ok (.iload_n 3, 1) := gdL_law_1156.1
theorem dL_law_1157 : decode cL_law 1157 = .ok (.iconst 2, 1) := gdL_law_1156.2.1
theorem dL_law_1158 : decode cL_law 1158 = .ok (.iadd, 1) := gdL_law_1156.2.2.1
theorem dL_law_1159 : decode cL_law 1159 = .ok (.iaload, 1) := gdL_law_1156.2.2.2.1
theorem dL_law_1160 : decode cL_law 1160 = .ok (.aload_n 0, 1) := gdL_law_1156.2.2.2.2.1
theorem dL_law_1161 : decode cL_law 1161 = .ok (.iload_n 3, 1) := gdL_law_1156.2.2.2.2.2.1
theorem dL_law_1162 : decode cL_law 1162 = .ok (.iconst 3, 1) := gdL_law_1156.2.2.2.2.2.2.1
theorem dL_law_1163 : decode cL_law 1163 = .ok (.iadd, 1) := gdL_law_1156.2.2.2.2.2.2.2.1
theorem dL_law_1164 : decode cL_law 1164 = .ok (.iaload, 1) := gdL_law_1156.2.2.2.2.2.2.2.2.1
theorem dL_law_1165 : decode cL_law 1165 = .ok (.aload_n 0, 1) := gdL_law_1156.2.2.2.2.2.2.2.2.2.1
theorem dL_law_1166 : decode cL_law 1166 = .ok (.iload_n 3, 1) := gdL_law_1156.2.2.2.2.2.2.2.2.2.2.1
theorem dL_law_1167 : decode cL_law 1167 = .ok (.iconst 4, 1) := gdL_law_1156.2.2.2.2.2.2.2.2.2.2.2.1
theorem dL_law_1168 : decode cL_law 1168 = .ok (.iadd, 1) := gdL_law_1156.2.2.2.2.2.2.2.2.2.2.2.2.1
theorem dL_law_1169 : decode cL_law 1169 = .ok (.iaload, 1) := gdL_law_1156.2.2.2.2.2.2.2.2.2.2.2.2.2.1
theorem dL_law_1170 : decode cL_law 1170 = .ok (.invokevirtual 116, 3) := gdL_law_1156.2.2.2.2.2.2.2.2.2.2.2.2.2.2.1
theorem dL_law_1173 : decode cL_law 1173 = .ok (.pop2, 1) := gdL_law_1156.2.2.2.2.2.2.2.2.2.2.2.2.2.2.2
theorem gdL_law_1174 : (decode cL_law 1174 = .ok (.goto 445, 3)) ∧ (decode cL_law 1177 = .ok (.aload_n 1, 1)) ∧ (decode cL_law 1178 = .ok (.aload_n 0, 1)) ∧ (decode cL_law 1179 = .ok (.iload_n 3, 1)) ∧ (decode cL_law 1180 = .ok (.iconst 1, 1)) ∧ (decode cL_law 1181 = .ok (.iadd, 1)) ∧ (decode cL_law 1182 = .ok (.iaload, 1)) ∧ (decode cL_law 1183 = .ok (.aload_n 0, 1)) ∧ (decode cL_law 1184 = .ok (.iload_n 3, 1)) ∧ (decode cL_law 1185 = .ok (.iconst 2, 1)) ∧ (decode cL_law 1186 = .ok (.iadd, 1)) ∧ (decode cL_law 1187 = .ok (.iaload, 1)) ∧ (decode cL_law 1188 = .ok (.aload_n 0, 1)) ∧ (decode cL_law 1189 = .ok (.iload_n 3, 1)) ∧ (decode cL_law 1190 = .ok (.iconst 3, 1)) ∧ (decode cL_law 1191 = .ok (.iadd, 1)) := by decide +kernel
theorem dL_law_1174 : decode cL_law 1174 = .ok (.goto 445, 3) := gdL_law_1174.1
theorem dL_law_1177 : decode cL_law 1177 = .ok (.aload_n 1, 1) := gdL_law_1174.2.1
theorem dL_law_1178 : decode cL_law 1178 = .ok (.aload_n 0, 1) := gdL_law_1174.2.2.1
theorem dL_law_1179 : decode cL_law 1179 = .ok (.iload_n 3, 1) := gdL_law_1174.2.2.2.1
theorem dL_law_1180 : decode cL_law 1180 = .ok (.iconst 1, 1) := gdL_law_1174.2.2.2.2.1
theorem dL_law_1181 : decode cL_law 1181 = .ok (.iadd, 1) := gdL_law_1174.2.2.2.2.2.1
theorem dL_law_1182 : decode cL_law 1182 = .ok (.iaload, 1) := gdL_law_1174.2.2.2.2.2.2.1
theorem dL_law_1183 : decode cL_law 1183 = .ok (.aload_n 0, 1) := gdL_law_1174.2.2.2.2.2.2.2.1
theorem dL_law_1184 : decode cL_law 1184 = .ok (.iload_n 3, 1) := gdL_law_1174.2.2.2.2.2.2.2.2.1
theorem dL_law_1185 : decode cL_law 1185 = .ok (.iconst 2, 1) := gdL_law_1174.2.2.2.2.2.2.2.2.2.1
theorem dL_law_1186 : decode cL_law 1186 = .ok (.iadd, 1) := gdL_law_1174.2.2.2.2.2.2.2.2.2.2.1
theorem dL_law_1187 : decode cL_law 1187 = .ok (.iaload, 1) := gdL_law_1174.2.2.2.2.2.2.2.2.2.2.2.1
theorem dL_law_1188 : decode cL_law 1188 = .ok (.aload_n 0, 1) := gdL_law_1174.2.2.2.2.2.2.2.2.2.2.2.2.1
theorem dL_law_1189 : decode cL_law 1189 = .ok (.iload_n 3, 1) := gdL_law_1174.2.2.2.2.2.2.2.2.2.2.2.2.2.1
theorem dL_law_1190 : decode cL_law 1190 = .ok (.iconst 3, 1) := gdL_law_1174.2.2.2.2.2.2.2.2.2.2.2.2.2.2.1
theorem dL_law_1191 : decode cL_law 1191 = .ok (.iadd, 1) := gdL_law_1174.2.2.2.2.2.2.2.2.2.2.2.2.2.2.2
theorem gdL_law_1192 : (decode cL_law 1192 = .ok (.iaload, 1)) ∧ (decode cL_law 1193 = .ok (.invokevirtual 117, 3)) ∧ (decode cL_law 1196 = .ok (.pop, 1)) ∧ (decode cL_law 1197 = .ok (.aload_n 2, 1)) ∧ (decode cL_law 1198 = .ok (.aload_n 0, 1)) ∧ (decode cL_law 1199 = .ok (.iload_n 3, 1)) ∧ (decode cL_law 1200 = .ok (.iconst 1, 1)) ∧ (decode cL_law 1201 = .ok (.iadd, 1)) ∧ (decode cL_law 1202 = .ok (.iaload, 1)) ∧ (decode cL_law 1203 = .ok (.aload_n 0, 1)) ∧ (decode cL_law 1204 = .ok (.iload_n 3, 1)) ∧ (decode cL_law 1205 = .ok (.iconst 2, 1)) ∧ (decode cL_law 1206 = .ok (.iadd, 1)) ∧ (decode cL_law 1207 = .ok (.iaload, 1)) ∧ (decode cL_law 1208 = .ok (.aload_n 0, 1)) ∧ (decode cL_law 1209 = .ok (.iload_n 3, 1)) := by decide +kernel
theorem dL_law_1192 : decode cL_law 1192 = .ok (.iaload, 1) := gdL_law_1192.1
theorem dL_law_1193 : decode cL_law 1193 = .ok (.invokevirtual 117, 3) := gdL_law_1192.2.1
theorem dL_law_1196 : decode cL_law 1196 = .ok (.pop, 1) := gdL_law_1192.2.2.1
theorem dL_law_1197 : decode cL_law 1197 = .ok (.aload_n 2, 1) := gdL_law_1192.2.2.2.1
theorem dL_law_1198 : decode cL_law 1198 = .ok (.aload_n 0, 1) := gdL_law_1192.2.2.2.2.1
theorem dL_law_1199 : decode cL_law 1199 = .ok (.iload_n 3, 1) := gdL_law_1192.2.2.2.2.2.1
theorem dL_law_1200 : decode cL_law 1200 = .ok (.iconst 1, 1) := gdL_law_1192.2.2.2.2.2.2.1
theorem dL_law_1201 : decode cL_law 1201 = .ok (.iadd, 1) := gdL_law_1192.2.2.2.2.2.2.2.1
theorem dL_law_1202 : decode cL_law 1202 = .ok (.iaload, 1) := gdL_law_1192.2.2.2.2.2.2.2.2.1
theorem dL_law_1203 : decode cL_law 1203 = .ok (.aload_n 0, 1) := gdL_law_1192.2.2.2.2.2.2.2.2.2.1
theorem dL_law_1204 : decode cL_law 1204 = .ok (.iload_n 3, 1) := gdL_law_1192.2.2.2.2.2.2.2.2.2.2.1
theorem dL_law_1205 : decode cL_law 1205 = .ok (.iconst 2, 1) := gdL_law_1192.2.2.2.2.2.2.2.2.2.2.2.1
theorem dL_law_1206 : decode cL_law 1206 = .ok (.iadd, 1) := gdL_law_1192.2.2.2.2.2.2.2.2.2.2.2.2.1
theorem dL_law_1207 : decode cL_law 1207 = .ok (.iaload, 1) := gdL_law_1192.2.2.2.2.2.2.2.2.2.2.2.2.2.1
theorem dL_law_1208 : decode cL_law 1208 = .ok (.aload_n 0, 1) := gdL_law_1192.2.2.2.2.2.2.2.2.2.2.2.2.2.2.1
theorem dL_law_1209 : decode cL_law 1209 = .ok (.iload_n 3, 1) := gdL_law_1192.2.2.2.2.2.2.2.2.2.2.2.2.2.2.2
theorem gdL_law_1210 : (decode cL_law 1210 = .ok (.iconst 3, 1)) ∧ (decode cL_law 1211 = .ok (.iadd, 1)) ∧ (decode cL_law 1212 = .ok (.iaload, 1)) ∧ (decode cL_law 1213 = .ok (.invokevirtual 121, 3)) ∧ (decode cL_law 1216 = .ok (.pop, 1)) ∧ (decode cL_law 1217 = .ok (.goto 402, 3)) ∧ (decode cL_law 1220 = .ok (.aload_n 1, 1)) ∧ (decode cL_law 1221 = .ok (.aload_n 0, 1)) ∧ (decode cL_law 1222 = .ok (.iload_n 3, 1)) ∧ (decode cL_law 1223 = .ok (.iconst 1, 1)) ∧ (decode cL_law 1224 = .ok (.iadd, 1)) ∧ (decode cL_law 1225 = .ok (.iaload, 1)) ∧ (decode cL_law 1226 = .ok (.aload_n 0, 1)) ∧ (decode cL_law 1227 = .ok (.iload_n 3, 1)) ∧ (decode cL_law 1228 = .ok (.iconst 2, 1)) ∧ (decode cL_law 1229 = .ok (.iadd, 1)) := by decide +kernel
theorem dL_law_1210 : decode cL_law 1210 = .ok (.iconst 3, 1) := gdL_law_1210.1
theorem dL_law_1211 : decode cL_law 1211 = .ok (.iadd, 1) := gdL_law_1210.2.1
theorem dL_law_1212 : decode cL_law 1212 = .ok (.iaload, 1) := gdL_law_1210.2.2.1
theorem dL_law_1213 : decode cL_law 1213 = .ok (.invokevirtual 121, 3) := gdL_law_1210.2.2.2.1
theorem dL_law_1216 : decode cL_law 1216 = .ok (.pop, 1) := gdL_law_1210.2.2.2.2.1
theorem dL_law_1217 : decode cL_law 1217 = .ok (.goto 402, 3) := gdL_law_1210.2.2.2.2.2.1
theorem dL_law_1220 : decode cL_law 1220 = .ok (.aload_n 1, 1) := gdL_law_1210.2.2.2.2.2.2.1
theorem dL_law_1221 : decode cL_law 1221 = .ok (.aload_n 0, 1) := gdL_law_1210.2.2.2.2.2.2.2.1
theorem dL_law_1222 : decode cL_law 1222 = .ok (.iload_n 3, 1) := gdL_law_1210.2.2.2.2.2.2.2.2.1
theorem dL_law_1223 : decode cL_law 1223 = .ok (.iconst 1, 1) := gdL_law_1210.2.2.2.2.2.2.2.2.2.1
theorem dL_law_1224 : decode cL_law 1224 = .ok (.iadd, 1) := gdL_law_1210.2.2.2.2.2.2.2.2.2.2.1
theorem dL_law_1225 : decode cL_law 1225 = .ok (.iaload, 1) := gdL_law_1210.2.2.2.2.2.2.2.2.2.2.2.1
theorem dL_law_1226 : decode cL_law 1226 = .ok (.aload_n 0, 1) := gdL_law_1210.2.2.2.2.2.2.2.2.2.2.2.2.1
theorem dL_law_1227 : decode cL_law 1227 = .ok (.iload_n 3, 1) := gdL_law_1210.2.2.2.2.2.2.2.2.2.2.2.2.2.1
theorem dL_law_1228 : decode cL_law 1228 = .ok (.iconst 2, 1) := gdL_law_1210.2.2.2.2.2.2.2.2.2.2.2.2.2.2.1
theorem dL_law_1229 : decode cL_law 1229 = .ok (.iadd, 1) := gdL_law_1210.2.2.2.2.2.2.2.2.2.2.2.2.2.2.2
theorem gdL_law_1230 : (decode cL_law 1230 = .ok (.iaload, 1)) ∧ (decode cL_law 1231 = .ok (.aload_n 0, 1)) ∧ (decode cL_law 1232 = .ok (.iload_n 3, 1)) ∧ (decode cL_law 1233 = .ok (.iconst 3, 1)) ∧ (decode cL_law 1234 = .ok (.iadd, 1)) ∧ (decode cL_law 1235 = .ok (.iaload, 1)) ∧ (decode cL_law 1236 = .ok (.invokevirtual 122, 3)) ∧ (decode cL_law 1239 = .ok (.pop, 1)) ∧ (decode cL_law 1240 = .ok (.aload_n 2, 1)) ∧ (decode cL_law 1241 = .ok (.aload_n 0, 1)) ∧ (decode cL_law 1242 = .ok (.iload_n 3, 1)) ∧ (decode cL_law 1243 = .ok (.iconst 1, 1)) ∧ (decode cL_law 1244 = .ok (.iadd, 1)) ∧ (decode cL_law 1245 = .ok (.iaload, 1)) ∧ (decode cL_law 1246 = .ok (.aload_n 0, 1)) ∧ (decode cL_law 1247 = .ok (.iload_n 3, 1)) := by decide +kernel
theorem dL_law_1230 : decode cL_law 1230 = .ok (.iaload, 1) := gdL_law_1230.1
theorem dL_law_1231 : decode cL_law 1231 = .ok (.aload_n 0, 1) := gdL_law_1230.2.1
theorem dL_law_1232 : decode cL_law 1232 = .ok (.iload_n 3, 1) := gdL_law_1230.2.2.1
theorem dL_law_1233 : decode cL_law 1233 = .ok (.iconst 3, 1) := gdL_law_1230.2.2.2.1
theorem dL_law_1234 : decode cL_law 1234 = .ok (.iadd, 1) := gdL_law_1230.2.2.2.2.1
theorem dL_law_1235 : decode cL_law 1235 = .ok (.iaload, 1) := gdL_law_1230.2.2.2.2.2.1
theorem dL_law_1236 : decode cL_law 1236 = .ok (.invokevirtual 122, 3) := gdL_law_1230.2.2.2.2.2.2.1
theorem dL_law_1239 : decode cL_law 1239 = .ok (.pop, 1) := gdL_law_1230.2.2.2.2.2.2.2.1
theorem dL_law_1240 : decode cL_law 1240 = .ok (.aload_n 2, 1) := gdL_law_1230.2.2.2.2.2.2.2.2.1
theorem dL_law_1241 : decode cL_law 1241 = .ok (.aload_n 0, 1) := gdL_law_1230.2.2.2.2.2.2.2.2.2.1
theorem dL_law_1242 : decode cL_law 1242 = .ok (.iload_n 3, 1) := gdL_law_1230.2.2.2.2.2.2.2.2.2.2.1
theorem dL_law_1243 : decode cL_law 1243 = .ok (.iconst 1, 1) := gdL_law_1230.2.2.2.2.2.2.2.2.2.2.2.1
theorem dL_law_1244 : decode cL_law 1244 = .ok (.iadd, 1) := gdL_law_1230.2.2.2.2.2.2.2.2.2.2.2.2.1
theorem dL_law_1245 : decode cL_law 1245 = .ok (.iaload, 1) := gdL_law_1230.2.2.2.2.2.2.2.2.2.2.2.2.2.1
theorem dL_law_1246 : decode cL_law 1246 = .ok (.aload_n 0, 1) := gdL_law_1230.2.2.2.2.2.2.2.2.2.2.2.2.2.2.1
theorem dL_law_1247 : decode cL_law 1247 = .ok (.iload_n 3, 1) := gdL_law_1230.2.2.2.2.2.2.2.2.2.2.2.2.2.2.2
theorem gdL_law_1248 : (decode cL_law 1248 = .ok (.iconst 2, 1)) ∧ (decode cL_law 1249 = .ok (.iadd, 1)) ∧ (decode cL_law 1250 = .ok (.iaload, 1)) ∧ (decode cL_law 1251 = .ok (.aload_n 0, 1)) ∧ (decode cL_law 1252 = .ok (.iload_n 3, 1)) ∧ (decode cL_law 1253 = .ok (.iconst 3, 1)) ∧ (decode cL_law 1254 = .ok (.iadd, 1)) ∧ (decode cL_law 1255 = .ok (.iaload, 1)) ∧ (decode cL_law 1256 = .ok (.invokevirtual 125, 3)) ∧ (decode cL_law 1259 = .ok (.pop, 1)) ∧ (decode cL_law 1260 = .ok (.goto 359, 3)) ∧ (decode cL_law 1263 = .ok (.aload_n 1, 1)) ∧ (decode cL_law 1264 = .ok (.aload_n 0, 1)) ∧ (decode cL_law 1265 = .ok (.iload_n 3, 1)) ∧ (decode cL_law 1266 = .ok (.iconst 1, 1)) ∧ (decode cL_law 1267 = .ok (.iadd, 1)) := by decide +kernel
theorem dL_law_1248 : decode cL_law 1248 = .ok (.iconst 2, 1) := gdL_law_1248.1
theorem dL_law_1249 : decode cL_law 1249 = .ok (.iadd, 1) := gdL_law_1248.2.1
theorem dL_law_1250 : decode cL_law 1250 = .ok (.iaload, 1) := gdL_law_1248.2.2.1
theorem dL_law_1251 : decode cL_law 1251 = .ok (.aload_n 0, 1) := gdL_law_1248.2.2.2.1
theorem dL_law_1252 : decode cL_law 1252 = .ok (.iload_n 3, 1) := gdL_law_1248.2.2.2.2.1
theorem dL_law_1253 : decode cL_law 1253 = .ok (.iconst 3, 1) := gdL_law_1248.2.2.2.2.2.1
theorem dL_law_1254 : decode cL_law 1254 = .ok (.iadd, 1) := gdL_law_1248.2.2.2.2.2.2.1
theorem dL_law_1255 : decode cL_law 1255 = .ok (.iaload, 1) := gdL_law_1248.2.2.2.2.2.2.2.1
theorem dL_law_1256 : decode cL_law 1256 = .ok (.invokevirtual 125, 3) := gdL_law_1248.2.2.2.2.2.2.2.2.1
theorem dL_law_1259 : decode cL_law 1259 = .ok (.pop, 1) := gdL_law_1248.2.2.2.2.2.2.2.2.2.1
theorem dL_law_1260 : decode cL_law 1260 = .ok (.goto 359, 3) := gdL_law_1248.2.2.2.2.2.2.2.2.2.2.1
theorem dL_law_1263 : decode cL_law 1263 = .ok (.aload_n 1, 1) := gdL_law_1248.2.2.2.2.2.2.2.2.2.2.2.1
theorem dL_law_1264 : decode cL_law 1264 = .ok (.aload_n 0, 1) := gdL_law_1248.2.2.2.2.2.2.2.2.2.2.2.2.1
theorem dL_law_1265 : decode cL_law 1265 = .ok (.iload_n 3, 1) := gdL_law_1248.2.2.2.2.2.2.2.2.2.2.2.2.2.1
theorem dL_law_1266 : decode cL_law 1266 = .ok (.iconst 1, 1) := gdL_law_1248.2.2.2.2.2.2.2.2.2.2.2.2.2.2.1
theorem dL_law_1267 : decode cL_law 1267 = .ok (.iadd, 1) := gdL_law_1248.2.2.2.2.2.2.2.2.2.2.2.2.2.2.2
theorem gdL_law_1268 : (decode cL_law 1268 = .ok (.iaload, 1)) ∧ (decode cL_law 1269 = .ok (.aload_n 0, 1)) ∧ (decode cL_law 1270 = .ok (.iload_n 3, 1)) ∧ (decode cL_law 1271 = .ok (.iconst 2, 1)) ∧ (decode cL_law 1272 = .ok (.iadd, 1)) ∧ (decode cL_law 1273 = .ok (.iaload, 1)) ∧ (decode cL_law 1274 = .ok (.invokevirtual 126, 3)) ∧ (decode cL_law 1277 = .ok (.pop, 1)) ∧ (decode cL_law 1278 = .ok (.aload_n 2, 1)) ∧ (decode cL_law 1279 = .ok (.aload_n 0, 1)) ∧ (decode cL_law 1280 = .ok (.iload_n 3, 1)) ∧ (decode cL_law 1281 = .ok (.iconst 1, 1)) ∧ (decode cL_law 1282 = .ok (.iadd, 1)) ∧ (decode cL_law 1283 = .ok (.iaload, 1)) ∧ (decode cL_law 1284 = .ok (.aload_n 0, 1)) ∧ (decode cL_law 1285 = .ok (.iload_n 3, 1)) := by decide +kernel
theorem dL_law_1268 : decode cL_law 1268 = .ok (.iaload, 1) := gdL_law_1268.1
theorem dL_law_1269 : decode cL_law 1269 = .ok (.aload_n 0, 1) := gdL_law_1268.2.1
theorem dL_law_1270 : decode cL_law 1270 = .ok (.iload_n 3, 1) := gdL_law_1268.2.2.1
theorem dL_law_1271 : decode cL_law 1271 = .ok (.iconst 2, 1) := gdL_law_1268.2.2.2.1
theorem dL_law_1272 : decode cL_law 1272 = .ok (.iadd, 1) := gdL_law_1268.2.2.2.2.1
theorem dL_law_1273 : decode cL_law 1273 = .ok (.iaload, 1) := gdL_law_1268.2.2.2.2.2.1
theorem dL_law_1274 : decode cL_law 1274 = .ok (.invokevirtual 126, 3) := gdL_law_1268.2.2.2.2.2.2.1
theorem dL_law_1277 : decode cL_law 1277 = .ok (.pop, 1) := gdL_law_1268.2.2.2.2.2.2.2.1
theorem dL_law_1278 : decode cL_law 1278 = .ok (.aload_n 2, 1) := gdL_law_1268.2.2.2.2.2.2.2.2.1
theorem dL_law_1279 : decode cL_law 1279 = .ok (.aload_n 0, 1) := gdL_law_1268.2.2.2.2.2.2.2.2.2.1
theorem dL_law_1280 : decode cL_law 1280 = .ok (.iload_n 3, 1) := gdL_law_1268.2.2.2.2.2.2.2.2.2.2.1
theorem dL_law_1281 : decode cL_law 1281 = .ok (.iconst 1, 1) := gdL_law_1268.2.2.2.2.2.2.2.2.2.2.2.1
theorem dL_law_1282 : decode cL_law 1282 = .ok (.iadd, 1) := gdL_law_1268.2.2.2.2.2.2.2.2.2.2.2.2.1
theorem dL_law_1283 : decode cL_law 1283 = .ok (.iaload, 1) := gdL_law_1268.2.2.2.2.2.2.2.2.2.2.2.2.2.1
theorem dL_law_1284 : decode cL_law 1284 = .ok (.aload_n 0, 1) := gdL_law_1268.2.2.2.2.2.2.2.2.2.2.2.2.2.2.1
theorem dL_law_1285 : decode cL_law 1285 = .ok (.iload_n 3, 1) := gdL_law_1268.2.2.2.2.2.2.2.2.2.2.2.2.2.2.2
theorem gdL_law_1286 : (decode cL_law 1286 = .ok (.iconst 2, 1)) ∧ (decode cL_law 1287 = .ok (.iadd, 1)) ∧ (decode cL_law 1288 = .ok (.iaload, 1)) ∧ (decode cL_law 1289 = .ok (.invokevirtual 129, 3)) ∧ (decode cL_law 1292 = .ok (.pop, 1)) ∧ (decode cL_law 1293 = .ok (.goto 326, 3)) ∧ (decode cL_law 1296 = .ok (.aload_n 1, 1)) ∧ (decode cL_law 1297 = .ok (.invokevirtual 130, 3)) ∧ (decode cL_law 1300 = .ok (.pop, 1)) ∧ (decode cL_law 1301 = .ok (.aload_n 2, 1)) ∧ (decode cL_law 1302 = .ok (.invokevirtual 133, 3)) ∧ (decode cL_law 1305 = .ok (.pop, 1)) ∧ (decode cL_law 1306 = .ok (.goto 313, 3)) ∧ (decode cL_law 1309 = .ok (.aload_n 1, 1)) ∧ (decode cL_law 1310 = .ok (.aload_n 0, 1)) ∧ (decode cL_law 1311 = .ok (.iload_n 3, 1)) := by decide +kernel
theorem dL_law_1286 : decode cL_law 1286 = .ok (.iconst 2, 1) := gdL_law_1286.1
theorem dL_law_1287 : decode cL_law 1287 = .ok (.iadd, 1) := gdL_law_1286.2.1
theorem dL_law_1288 : decode cL_law 1288 = .ok (.iaload, 1) := gdL_law_1286.2.2.1
theorem dL_law_1289 : decode cL_law 1289 = .ok (.invokevirtual 129, 3) := gdL_law_1286.2.2.2.1
theorem dL_law_1292 : decode cL_law 1292 = .ok (.pop, 1) := gdL_law_1286.2.2.2.2.1
theorem dL_law_1293 : decode cL_law 1293 = .ok (.goto 326, 3) := gdL_law_1286.2.2.2.2.2.1
theorem dL_law_1296 : decode cL_law 1296 = .ok (.aload_n 1, 1) := gdL_law_1286.2.2.2.2.2.2.1
theorem dL_law_1297 : decode cL_law 1297 = .ok (.invokevirtual 130, 3) := gdL_law_1286.2.2.2.2.2.2.2.1
theorem dL_law_1300 : decode cL_law 1300 = .ok (.pop, 1) := gdL_law_1286.2.2.2.2.2.2.2.2.1
theorem dL_law_1301 : decode cL_law 1301 = .ok (.aload_n 2, 1) := gdL_law_1286.2.2.2.2.2.2.2.2.2.1
theorem dL_law_1302 : decode cL_law 1302 = .ok (.invokevirtual 133, 3) := gdL_law_1286.2.2.2.2.2.2.2.2.2.2.1
theorem dL_law_1305 : decode cL_law 1305 = .ok (.pop, 1) := gdL_law_1286.2.2.2.2.2.2.2.2.2.2.2.1
theorem dL_law_1306 : decode cL_law 1306 = .ok (.goto 313, 3) := gdL_law_1286.2.2.2.2.2.2.2.2.2.2.2.2.1
theorem dL_law_1309 : decode cL_law 1309 = .ok (.aload_n 1, 1) := gdL_law_1286.2.2.2.2.2.2.2.2.2.2.2.2.2.1
theorem dL_law_1310 : decode cL_law 1310 = .ok (.aload_n 0, 1) := gdL_law_1286.2.2.2.2.2.2.2.2.2.2.2.2.2.2.1
theorem dL_law_1311 : decode cL_law 1311 = .ok (.iload_n 3, 1) := gdL_law_1286.2.2.2.2.2.2.2.2.2.2.2.2.2.2.2
theorem gdL_law_1312 : (decode cL_law 1312 = .ok (.iconst 1, 1)) ∧ (decode cL_law 1313 = .ok (.iadd, 1)) ∧ (decode cL_law 1314 = .ok (.iaload, 1)) ∧ (decode cL_law 1315 = .ok (.aload_n 0, 1)) ∧ (decode cL_law 1316 = .ok (.iload_n 3, 1)) ∧ (decode cL_law 1317 = .ok (.iconst 2, 1)) ∧ (decode cL_law 1318 = .ok (.iadd, 1)) ∧ (decode cL_law 1319 = .ok (.iaload, 1)) ∧ (decode cL_law 1320 = .ok (.aload_n 0, 1)) ∧ (decode cL_law 1321 = .ok (.iload_n 3, 1)) ∧ (decode cL_law 1322 = .ok (.iconst 3, 1)) ∧ (decode cL_law 1323 = .ok (.iadd, 1)) ∧ (decode cL_law 1324 = .ok (.iaload, 1)) ∧ (decode cL_law 1325 = .ok (.invokevirtual 134, 3)) ∧ (decode cL_law 1328 = .ok (.pop2, 1)) ∧ (decode cL_law 1329 = .ok (.aload_n 2, 1)) := by decide +kernel
theorem dL_law_1312 : decode cL_law 1312 = .ok (.iconst 1, 1) := gdL_law_1312.1
theorem dL_law_1313 : decode cL_law 1313 = .ok (.iadd, 1) := gdL_law_1312.2.1
theorem dL_law_1314 : decode cL_law 1314 = .ok (.iaload, 1) := gdL_law_1312.2.2.1
theorem dL_law_1315 : decode cL_law 1315 = .ok (.aload_n 0, 1) := gdL_law_1312.2.2.2.1
theorem dL_law_1316 : decode cL_law 1316 = .ok (.iload_n 3, 1) := gdL_law_1312.2.2.2.2.1
theorem dL_law_1317 : decode cL_law 1317 = .ok (.iconst 2, 1) := gdL_law_1312.2.2.2.2.2.1
theorem dL_law_1318 : decode cL_law 1318 = .ok (.iadd, 1) := gdL_law_1312.2.2.2.2.2.2.1
theorem dL_law_1319 : decode cL_law 1319 = .ok (.iaload, 1) := gdL_law_1312.2.2.2.2.2.2.2.1
theorem dL_law_1320 : decode cL_law 1320 = .ok (.aload_n 0, 1) := gdL_law_1312.2.2.2.2.2.2.2.2.1
theorem dL_law_1321 : decode cL_law 1321 = .ok (.iload_n 3, 1) := gdL_law_1312.2.2.2.2.2.2.2.2.2.1
theorem dL_law_1322 : decode cL_law 1322 = .ok (.iconst 3, 1) := gdL_law_1312.2.2.2.2.2.2.2.2.2.2.1
theorem dL_law_1323 : decode cL_law 1323 = .ok (.iadd, 1) := gdL_law_1312.2.2.2.2.2.2.2.2.2.2.2.1
theorem dL_law_1324 : decode cL_law 1324 = .ok (.iaload, 1) := gdL_law_1312.2.2.2.2.2.2.2.2.2.2.2.2.1
theorem dL_law_1325 : decode cL_law 1325 = .ok (.invokevirtual 134, 3) := gdL_law_1312.2.2.2.2.2.2.2.2.2.2.2.2.2.1
theorem dL_law_1328 : decode cL_law 1328 = .ok (.pop2, 1) := gdL_law_1312.2.2.2.2.2.2.2.2.2.2.2.2.2.2.1
theorem dL_law_1329 : decode cL_law 1329 = .ok (.aload_n 2, 1) := gdL_law_1312.2.2.2.2.2.2.2.2.2.2.2.2.2.2.2
theorem gdL_law_1330 : (decode cL_law 1330 = .ok (.aload_n 0, 1)) ∧ (decode cL_law 1331 = .ok (.iload_n 3, 1)) ∧ (decode cL_law 1332 = .ok (.iconst 1, 1)) ∧ (decode cL_law 1333 = .ok (.iadd, 1)) ∧ (decode cL_law 1334 = .ok (.iaload, 1)) ∧ (decode cL_law 1335 = .ok (.aload_n 0, 1)) ∧ (decode cL_law 1336 = .ok (.iload_n 3, 1)) ∧ (decode cL_law 1337 = .ok (.iconst 2, 1)) ∧ (decode cL_law 1338 = .ok (.iadd, 1)) ∧ (decode cL_law 1339 = .ok (.iaload, 1)) ∧ (decode cL_law 1340 = .ok (.aload_n 0, 1)) ∧ (decode cL_law 1341 = .ok (.iload_n 3, 1)) ∧ (decode cL_law 1342 = .ok (.iconst 3, 1)) ∧ (decode cL_law 1343 = .ok (.iadd, 1)) ∧ (decode cL_law 1344 = .ok (.iaload, 1)) ∧ (decode cL_law 1345 = .ok (.invokevirtual 137, 3)) := by decide +kernel
theorem dL_law_1330 : decode cL_law 1330 = .ok (.aload_n 0, 1) := gdL_law_1330.1
theorem dL_law_1331 : decode cL_law 1331 = .ok (.iload_n 3, 1) := gdL_law_1330.2.1
theorem dL_law_1332 : decode cL_law 1332 = .ok (.iconst 1, 1) := gdL_law_1330.2.2.1
theorem dL_law_1333 : decode cL_law 1333 = .ok (.iadd, 1) := gdL_law_1330.2.2.2.1
theorem dL_law_1334 : decode cL_law 1334 = .ok (.iaload, 1) := gdL_law_1330.2.2.2.2.1
theorem dL_law_1335 : decode cL_law 1335 = .ok (.aload_n 0, 1) := gdL_law_1330.2.2.2.2.2.1
theorem dL_law_1336 : decode cL_law 1336 = .ok (.iload_n 3, 1) := gdL_law_1330.2.2.2.2.2.2.1
theorem dL_law_1337 : decode cL_law 1337 = .ok (.iconst 2, 1) := gdL_law_1330.2.2.2.2.2.2.2.1
theorem dL_law_1338 : decode cL_law 1338 = .ok (.iadd, 1) := gdL_law_1330.2.2.2.2.2.2.2.2.1
theorem dL_law_1339 : decode cL_law 1339 = .ok (.iaload, 1) := gdL_law_1330.2.2.2.2.2.2.2.2.2.1
theorem dL_law_1340 : decode cL_law 1340 = .ok (.aload_n 0, 1) := gdL_law_1330.2.2.2.2.2.2.2.2.2.2.1
theorem dL_law_1341 : decode cL_law 1341 = .ok (.iload_n 3, 1) := gdL_law_1330.2.2.2.2.2.2.2.2.2.2.2.1
theorem dL_law_1342 : decode cL_law 1342 = .ok (.iconst 3, 1) := gdL_law_1330.2.2.2.2.2.2.2.2.2.2.2.2.1
theorem dL_law_1343 : decode cL_law 1343 = .ok (.iadd, 1) := gdL_law_1330.2.2.2.2.2.2.2.2.2.2.2.2.2.1
theorem dL_law_1344 : decode cL_law 1344 = .ok (.iaload, 1) := gdL_law_1330.2.2.2.2.2.2.2.2.2.2.2.2.2.2.1
theorem dL_law_1345 : decode cL_law 1345 = .ok (.invokevirtual 137, 3) := gdL_law_1330.2.2.2.2.2.2.2.2.2.2.2.2.2.2.2
theorem gdL_law_1348 : (decode cL_law 1348 = .ok (.pop2, 1)) ∧ (decode cL_law 1349 = .ok (.goto 270, 3)) ∧ (decode cL_law 1352 = .ok (.aload_n 1, 1)) ∧ (decode cL_law 1353 = .ok (.aload_n 0, 1)) ∧ (decode cL_law 1354 = .ok (.iload_n 3, 1)) ∧ (decode cL_law 1355 = .ok (.iconst 1, 1)) ∧ (decode cL_law 1356 = .ok (.iadd, 1)) ∧ (decode cL_law 1357 = .ok (.iaload, 1)) ∧ (decode cL_law 1358 = .ok (.aload_n 0, 1)) ∧ (decode cL_law 1359 = .ok (.iload_n 3, 1)) ∧ (decode cL_law 1360 = .ok (.iconst 2, 1)) ∧ (decode cL_law 1361 = .ok (.iadd, 1)) ∧ (decode cL_law 1362 = .ok (.iaload, 1)) ∧ (decode cL_law 1363 = .ok (.aload_n 0, 1)) ∧ (decode cL_law 1364 = .ok (.iload_n 3, 1)) ∧ (decode cL_law 1365 = .ok (.iconst 3, 1)) := by decide +kernel
theorem dL_law_1348 : decode cL_law 1348 = .ok (.pop2, 1) := gdL_law_1348.1
theorem dL_law_1349 : decode cL_law 1349 = .ok (.goto 270, 3) := gdL_law_1348.2.1
theorem dL_law_1352 : decode cL_law 1352 = .ok (.aload_n 1, 1) := gdL_law_1348.2.2.1
theorem dL_law_1353 : decode cL_law 1353 = .ok (.aload_n 0, 1) := gdL_law_1348.2.2.2.1
theorem dL_law_1354 : decode cL_law 1354 = .ok (.iload_n 3, 1) := gdL_law_1348.2.2.2.2.1
theorem dL_law_1355 : decode cL_law 1355 = .ok (.iconst 1, 1) := gdL_law_1348.2.2.2.2.2.1
theorem dL_law_1356 : decode cL_law 1356 = .ok (.iadd, 1) := gdL_law_1348.2.2.2.2.2.2.1
theorem dL_law_1357 : decode cL_law 1357 = .ok (.iaload, 1) := gdL_law_1348.2.2.2.2.2.2.2.1
theorem dL_law_1358 : decode cL_law 1358 = .ok (.aload_n 0, 1) := gdL_law_1348.2.2.2.2.2.2.2.2.1
theorem dL_law_1359 : decode cL_law 1359 = .ok (.iload_n 3, 1) := gdL_law_1348.2.2.2.2.2.2.2.2.2.1
theorem dL_law_1360 : decode cL_law 1360 = .ok (.iconst 2, 1) := gdL_law_1348.2.2.2.2.2.2.2.2.2.2.1
theorem dL_law_1361 : decode cL_law 1361 = .ok (.iadd, 1) := gdL_law_1348.2.2.2.2.2.2.2.2.2.2.2.1
theorem dL_law_1362 : decode cL_law 1362 = .ok (.iaload, 1) := gdL_law_1348.2.2.2.2.2.2.2.2.2.2.2.2.1
theorem dL_law_1363 : decode cL_law 1363 = .ok (.aload_n 0, 1) := gdL_law_1348.2.2.2.2.2.2.2.2.2.2.2.2.2.1
theorem dL_law_1364 : decode cL_law 1364 = .ok (.iload_n 3, 1) := gdL_law_1348.2.2.2.2.2.2.2.2.2.2.2.2.2.2.1
theorem dL_law_1365 : decode cL_law 1365 = .ok (.iconst 3, 1) := gdL_law_1348.2.2.2.2.2.2.2.2.2.2.2.2.2.2.2
theorem gdL_law_1366 : (decode cL_law 1366 = .ok (.iadd, 1)) ∧ (decode cL_law 1367 = .ok (.iaload, 1)) ∧ (decode cL_law 1368 = .ok (.invokevirtual 138, 3)) ∧ (decode cL_law 1371 = .ok (.pop, 1)) ∧ (decode cL_law 1372 = .ok (.aload_n 2, 1)) ∧ (decode cL_law 1373 = .ok (.aload_n 0, 1)) ∧ (decode cL_law 1374 = .ok (.iload_n 3, 1)) ∧ (decode cL_law 1375 = .ok (.iconst 1, 1)) ∧ (decode cL_law 1376 = .ok (.iadd, 1)) ∧ (decode cL_law 1377 = .ok (.iaload, 1)) ∧ (decode cL_law 1378 = .ok (.aload_n 0, 1)) ∧ (decode cL_law 1379 = .ok (.iload_n 3, 1)) ∧ (decode cL_law 1380 = .ok (.iconst 2, 1)) ∧ (decode cL_law 1381 = .ok (.iadd, 1)) ∧ (decode cL_law 1382 = .ok (.iaload, 1)) ∧ (decode cL_law 1383 = .ok (.aload_n 0, 1)) := by decide +kernel
theorem dL_law_1366 : decode cL_law 1366 = .ok (.iadd, 1) := gdL_law_1366.1
theorem dL_law_1367 : decode cL_law 1367 = .ok (.iaload, 1) := gdL_law_1366.2.1
theorem dL_law_1368 : decode cL_law 1368 = .ok (.invokevirtual 138, 3) := gdL_law_1366.2.2.1
theorem dL_law_1371 : decode cL_law 1371 = .ok (.pop, 1) := gdL_law_1366.2.2.2.1
theorem dL_law_1372 : decode cL_law 1372 = .ok (.aload_n 2, 1) := gdL_law_1366.2.2.2.2.1
theorem dL_law_1373 : decode cL_law 1373 = .ok (.aload_n 0, 1) := gdL_law_1366.2.2.2.2.2.1
theorem dL_law_1374 : decode cL_law 1374 = .ok (.iload_n 3, 1) := gdL_law_1366.2.2.2.2.2.2.1
theorem dL_law_1375 : decode cL_law 1375 = .ok (.iconst 1, 1) := gdL_law_1366.2.2.2.2.2.2.2.1
theorem dL_law_1376 : decode cL_law 1376 = .ok (.iadd, 1) := gdL_law_1366.2.2.2.2.2.2.2.2.1
theorem dL_law_1377 : decode cL_law 1377 = .ok (.iaload, 1) := gdL_law_1366.2.2.2.2.2.2.2.2.2.1
theorem dL_law_1378 : decode cL_law 1378 = .ok (.aload_n 0, 1) := gdL_law_1366.2.2.2.2.2.2.2.2.2.2.1
theorem dL_law_1379 : decode cL_law 1379 = .ok (.iload_n 3, 1) := gdL_law_1366.2.2.2.2.2.2.2.2.2.2.2.1
theorem dL_law_1380 : decode cL_law 1380 = .ok (.iconst 2, 1) := gdL_law_1366.2.2.2.2.2.2.2.2.2.2.2.2.1
theorem dL_law_1381 : decode cL_law 1381 = .ok (.iadd, 1) := gdL_law_1366.2.2.2.2.2.2.2.2.2.2.2.2.2.1
theorem dL_law_1382 : decode cL_law 1382 = .ok (.iaload, 1) := gdL_law_1366.2.2.2.2.2.2.2.2.2.2.2.2.2.2.1
theorem dL_law_1383 : decode cL_law 1383 = .ok (.aload_n 0, 1) := gdL_law_1366.2.2.2.2.2.2.2.2.2.2.2.2.2.2.2
theorem gdL_law_1384 : (decode cL_law 1384 = .ok (.iload_n 3, 1)) ∧ (decode cL_law 1385 = .ok (.iconst 3, 1)) ∧ (decode cL_law 1386 = .ok (.iadd, 1)) ∧ (decode cL_law 1387 = .ok (.iaload, 1)) ∧ (decode cL_law 1388 = .ok (.invokevirtual 141, 3)) ∧ (decode cL_law 1391 = .ok (.pop, 1)) ∧ (decode cL_law 1392 = .ok (.goto 227, 3)) ∧ (decode cL_law 1395 = .ok (.aload_n 1, 1)) ∧ (decode cL_law 1396 = .ok (.aload_n 0, 1)) ∧ (decode cL_law 1397 = .ok (.iload_n 3, 1)) ∧ (decode cL_law 1398 = .ok (.iconst 1, 1)) ∧ (decode cL_law 1399 = .ok (.iadd, 1)) ∧ (decode cL_law 1400 = .ok (.iaload, 1)) ∧ (decode cL_law 1401 = .ok (.aload_n 0, 1)) ∧ (decode cL_law 1402 = .ok (.iload_n 3, 1)) ∧ (decode cL_law 1403 = .ok (.iconst 2, 1)) := by decide +kernel
theorem dL_law_1384 : decode cL_law 1384 = .ok (.iload_n 3, 1) := gdL_law_1384.1
theorem dL_law_1385 : decode cL_law 1385 = .ok (.iconst 3, 1) := gdL_law_1384.2.1
theorem dL_law_1386 : decode cL_law 1386 = .ok (.iadd, 1) := gdL_law_1384.2.2.1
theorem dL_law_1387 : decode cL_law 1387 = .ok (.iaload, 1) := gdL_law_1384.2.2.2.1
theorem dL_law_1388 : decode cL_law 1388 = .ok (.invokevirtual 141, 3) := gdL_law_1384.2.2.2.2.1
theorem dL_law_1391 : decode cL_law 1391 = .ok (.pop, 1) := gdL_law_1384.2.2.2.2.2.1
theorem dL_law_1392 : decode cL_law 1392 = .ok (.goto 227, 3) := gdL_law_1384.2.2.2.2.2.2.1
theorem dL_law_1395 : decode cL_law 1395 = .ok (.aload_n 1, 1) := gdL_law_1384.2.2.2.2.2.2.2.1
theorem dL_law_1396 : decode cL_law 1396 = .ok (.aload_n 0, 1) := gdL_law_1384.2.2.2.2.2.2.2.2.1
theorem dL_law_1397 : decode cL_law 1397 = .ok (.iload_n 3, 1) := gdL_law_1384.2.2.2.2.2.2.2.2.2.1
theorem dL_law_1398 : decode cL_law 1398 = .ok (.iconst 1, 1) := gdL_law_1384.2.2.2.2.2.2.2.2.2.2.1
theorem dL_law_1399 : decode cL_law 1399 = .ok (.iadd, 1) := gdL_law_1384.2.2.2.2.2.2.2.2.2.2.2.1
theorem dL_law_1400 : decode cL_law 1400 = .ok (.iaload, 1) := gdL_law_1384.2.2.2.2.2.2.2.2.2.2.2.2.1
theorem dL_law_1401 : decode cL_law 1401 = .ok (.aload_n 0, 1) := gdL_law_1384.2.2.2.2.2.2.2.2.2.2.2.2.2.1
theorem dL_law_1402 : decode cL_law 1402 = .ok (.iload_n 3, 1) := gdL_law_1384.2.2.2.2.2.2.2.2.2.2.2.2.2.2.1
theorem dL_law_1403 : decode cL_law 1403 = .ok (.iconst 2, 1) := gdL_law_1384.2.2.2.2.2.2.2.2.2.2.2.2.2.2.2
theorem gdL_law_1404 : (decode cL_law 1404 = .ok (.iadd, 1)) ∧ (decode cL_law 1405 = .ok (.iaload, 1)) ∧ (decode cL_law 1406 = .ok (.invokevirtual 142, 3)) ∧ (decode cL_law 1409 = .ok (.pop, 1)) ∧ (decode cL_law 1410 = .ok (.aload_n 2, 1)) ∧ (decode cL_law 1411 = .ok (.aload_n 0, 1)) ∧ (decode cL_law 1412 = .ok (.iload_n 3, 1)) ∧ (decode cL_law 1413 = .ok (.iconst 1, 1)) ∧ (decode cL_law 1414 = .ok (.iadd, 1)) ∧ (decode cL_law 1415 = .ok (.iaload, 1)) ∧ (decode cL_law 1416 = .ok (.aload_n 0, 1)) ∧ (decode cL_law 1417 = .ok (.iload_n 3, 1)) ∧ (decode cL_law 1418 = .ok (.iconst 2, 1)) ∧ (decode cL_law 1419 = .ok (.iadd, 1)) ∧ (decode cL_law 1420 = .ok (.iaload, 1)) ∧ (decode cL_law 1421 = .ok (.invokevirtual 145, 3)) := by decide +kernel
theorem dL_law_1404 : decode cL_law 1404 = .ok (.iadd, 1) := gdL_law_1404.1
theorem dL_law_1405 : decode cL_law 1405 = .ok (.iaload, 1) := gdL_law_1404.2.1
theorem dL_law_1406 : decode cL_law 1406 = .ok (.invokevirtual 142, 3) := gdL_law_1404.2.2.1
theorem dL_law_1409 : decode cL_law 1409 = .ok (.pop, 1) := gdL_law_1404.2.2.2.1
theorem dL_law_1410 : decode cL_law 1410 = .ok (.aload_n 2, 1) := gdL_law_1404.2.2.2.2.1
theorem dL_law_1411 : decode cL_law 1411 = .ok (.aload_n 0, 1) := gdL_law_1404.2.2.2.2.2.1
theorem dL_law_1412 : decode cL_law 1412 = .ok (.iload_n 3, 1) := gdL_law_1404.2.2.2.2.2.2.1
theorem dL_law_1413 : decode cL_law 1413 = .ok (.iconst 1, 1) := gdL_law_1404.2.2.2.2.2.2.2.1
theorem dL_law_1414 : decode cL_law 1414 = .ok (.iadd, 1) := gdL_law_1404.2.2.2.2.2.2.2.2.1
theorem dL_law_1415 : decode cL_law 1415 = .ok (.iaload, 1) := gdL_law_1404.2.2.2.2.2.2.2.2.2.1
theorem dL_law_1416 : decode cL_law 1416 = .ok (.aload_n 0, 1) := gdL_law_1404.2.2.2.2.2.2.2.2.2.2.1
theorem dL_law_1417 : decode cL_law 1417 = .ok (.iload_n 3, 1) := gdL_law_1404.2.2.2.2.2.2.2.2.2.2.2.1
theorem dL_law_1418 : decode cL_law 1418 = .ok (.iconst 2, 1) := gdL_law_1404.2.2.2.2.2.2.2.2.2.2.2.2.1
theorem dL_law_1419 : decode cL_law 1419 = .ok (.iadd, 1) := gdL_law_1404.2.2.2.2.2.2.2.2.2.2.2.2.2.1
theorem dL_law_1420 : decode cL_law 1420 = .ok (.iaload, 1) := gdL_law_1404.2.2.2.2.2.2.2.2.2.2.2.2.2.2.1
theorem dL_law_1421 : decode cL_law 1421 = .ok (.invokevirtual 145, 3) := gdL_law_1404.2.2.2.2.2.2.2.2.2.2.2.2.2.2.2
theorem gdL_law_1424 : (decode cL_law 1424 = .ok (.pop, 1)) ∧ (decode cL_law 1425 = .ok (.goto 194, 3)) ∧ (decode cL_law 1428 = .ok (.aload_n 1, 1)) ∧ (decode cL_law 1429 = .ok (.invokevirtual 146, 3)) ∧ (decode cL_law 1432 = .ok (.pop, 1)) ∧ (decode cL_law 1433 = .ok (.aload_n 2, 1)) ∧ (decode cL_law 1434 = .ok (.invokevirtual 149, 3)) ∧ (decode cL_law 1437 = .ok (.pop, 1)) ∧ (decode cL_law 1438 = .ok (.goto 181, 3)) ∧ (decode cL_law 1441 = .ok (.aload_n 1, 1)) ∧ (decode cL_law 1442 = .ok (.aload_n 0, 1)) ∧ (decode cL_law 1443 = .ok (.iload_n 3, 1)) ∧ (decode cL_law 1444 = .ok (.iconst 1, 1)) ∧ (decode cL_law 1445 = .ok (.iadd, 1)) ∧ (decode cL_law 1446 = .ok (.iaload, 1)) ∧ (decode cL_law 1447 = .ok (.invokevirtual 150, 3)) := by decide +kernel
theorem dL_law_1424 : decode cL_law 1424 = .ok (.pop, 1) := gdL_law_1424.1
theorem dL_law_1425 : decode cL_law 1425 = .ok (.goto 194, 3) := gdL_law_1424.2.1
theorem dL_law_1428 : decode cL_law 1428 = .ok (.aload_n 1, 1) := gdL_law_1424.2.2.1
theorem dL_law_1429 : decode cL_law 1429 = .ok (.invokevirtual 146, 3) := gdL_law_1424.2.2.2.1
theorem dL_law_1432 : decode cL_law 1432 = .ok (.pop, 1) := gdL_law_1424.2.2.2.2.1
theorem dL_law_1433 : decode cL_law 1433 = .ok (.aload_n 2, 1) := gdL_law_1424.2.2.2.2.2.1
theorem dL_law_1434 : decode cL_law 1434 = .ok (.invokevirtual 149, 3) := gdL_law_1424.2.2.2.2.2.2.1
theorem dL_law_1437 : decode cL_law 1437 = .ok (.pop, 1) := gdL_law_1424.2.2.2.2.2.2.2.1
theorem dL_law_1438 : decode cL_law 1438 = .ok (.goto 181, 3) := gdL_law_1424.2.2.2.2.2.2.2.2.1
theorem dL_law_1441 : decode cL_law 1441 = .ok (.aload_n 1, 1) := gdL_law_1424.2.2.2.2.2.2.2.2.2.1
theorem dL_law_1442 : decode cL_law 1442 = .ok (.aload_n 0, 1) := gdL_law_1424.2.2.2.2.2.2.2.2.2.2.1
theorem dL_law_1443 : decode cL_law 1443 = .ok (.iload_n 3, 1) := gdL_law_1424.2.2.2.2.2.2.2.2.2.2.2.1
theorem dL_law_1444 : decode cL_law 1444 = .ok (.iconst 1, 1) := gdL_law_1424.2.2.2.2.2.2.2.2.2.2.2.2.1
theorem dL_law_1445 : decode cL_law 1445 = .ok (.iadd, 1) := gdL_law_1424.2.2.2.2.2.2.2.2.2.2.2.2.2.1
theorem dL_law_1446 : decode cL_law 1446 = .ok (.iaload, 1) := gdL_law_1424.2.2.2.2.2.2.2.2.2.2.2.2.2.2.1
theorem dL_law_1447 : decode cL_law 1447 = .ok (.invokevirtual 150, 3) := gdL_law_1424.2.2.2.2.2.2.2.2.2.2.2.2.2.2.2
theorem gdL_law_1450 : (decode cL_law 1450 = .ok (.pop, 1)) ∧ (decode cL_law 1451 = .ok (.aload_n 2, 1)) ∧ (decode cL_law 1452 = .ok (.aload_n 0, 1)) ∧ (decode cL_law 1453 = .ok (.iload_n 3, 1)) ∧ (decode cL_law 1454 = .ok (.iconst 1, 1)) ∧ (decode cL_law 1455 = .ok (.iadd, 1)) ∧ (decode cL_law 1456 = .ok (.iaload, 1)) ∧ (decode cL_law 1457 = .ok (.invokevirtual 153, 3)) ∧ (decode cL_law 1460 = .ok (.pop, 1)) ∧ (decode cL_law 1461 = .ok (.goto 158, 3)) ∧ (decode cL_law 1464 = .ok (.aload_n 1, 1)) ∧ (decode cL_law 1465 = .ok (.aload_n 0, 1)) ∧ (decode cL_law 1466 = .ok (.iload_n 3, 1)) ∧ (decode cL_law 1467 = .ok (.iconst 1, 1)) ∧ (decode cL_law 1468 = .ok (.iadd, 1)) ∧ (decode cL_law 1469 = .ok (.iaload, 1)) := by decide +kernel
theorem dL_law_1450 : decode cL_law 1450 = .ok (.pop, 1) := gdL_law_1450.1
theorem dL_law_1451 : decode cL_law 1451 = .ok (.aload_n 2, 1) := gdL_law_1450.2.1
theorem dL_law_1452 : decode cL_law 1452 = .ok (.aload_n 0, 1) := gdL_law_1450.2.2.1
theorem dL_law_1453 : decode cL_law 1453 = .ok (.iload_n 3, 1) := gdL_law_1450.2.2.2.1
theorem dL_law_1454 : decode cL_law 1454 = .ok (.iconst 1, 1) := gdL_law_1450.2.2.2.2.1
theorem dL_law_1455 : decode cL_law 1455 = .ok (.iadd, 1) := gdL_law_1450.2.2.2.2.2.1
theorem dL_law_1456 : decode cL_law 1456 = .ok (.iaload, 1) := gdL_law_1450.2.2.2.2.2.2.1
theorem dL_law_1457 : decode cL_law 1457 = .ok (.invokevirtual 153, 3) := gdL_law_1450.2.2.2.2.2.2.2.1
theorem dL_law_1460 : decode cL_law 1460 = .ok (.pop, 1) := gdL_law_1450.2.2.2.2.2.2.2.2.1
theorem dL_law_1461 : decode cL_law 1461 = .ok (.goto 158, 3) := gdL_law_1450.2.2.2.2.2.2.2.2.2.1
theorem dL_law_1464 : decode cL_law 1464 = .ok (.aload_n 1, 1) := gdL_law_1450.2.2.2.2.2.2.2.2.2.2.1
theorem dL_law_1465 : decode cL_law 1465 = .ok (.aload_n 0, 1) := gdL_law_1450.2.2.2.2.2.2.2.2.2.2.2.1
theorem dL_law_1466 : decode cL_law 1466 = .ok (.iload_n 3, 1) := gdL_law_1450.2.2.2.2.2.2.2.2.2.2.2.2.1
theorem dL_law_1467 : decode cL_law 1467 = .ok (.iconst 1, 1) := gdL_law_1450.2.2.2.2.2.2.2.2.2.2.2.2.2.1
theorem dL_law_1468 : decode cL_law 1468 = .ok (.iadd, 1) := gdL_law_1450.2.2.2.2.2.2.2.2.2.2.2.2.2.2.1
theorem dL_law_1469 : decode cL_law 1469 = .ok (.iaload, 1) := gdL_law_1450.2.2.2.2.2.2.2.2.2.2.2.2.2.2.2
theorem gdL_law_1470 : (decode cL_law 1470 = .ok (.invokevirtual 154, 3)) ∧ (decode cL_law 1473 = .ok (.pop, 1)) ∧ (decode cL_law 1474 = .ok (.aload_n 2, 1)) ∧ (decode cL_law 1475 = .ok (.aload_n 0, 1)) ∧ (decode cL_law 1476 = .ok (.iload_n 3, 1)) ∧ (decode cL_law 1477 = .ok (.iconst 1, 1)) ∧ (decode cL_law 1478 = .ok (.iadd, 1)) ∧ (decode cL_law 1479 = .ok (.iaload, 1)) ∧ (decode cL_law 1480 = .ok (.invokevirtual 157, 3)) ∧ (decode cL_law 1483 = .ok (.pop, 1)) ∧ (decode cL_law 1484 = .ok (.goto 135, 3)) ∧ (decode cL_law 1487 = .ok (.aload_n 1, 1)) ∧ (decode cL_law 1488 = .ok (.aload_n 0, 1)) ∧ (decode cL_law 1489 = .ok (.iload_n 3, 1)) ∧ (decode cL_law 1490 = .ok (.iconst 1, 1)) ∧ (decode cL_law 1491 = .ok (.iadd, 1)) := by decide +kernel
theorem dL_law_1470 : decode cL_law 1470 = .ok (.invokevirtual 154, 3) := gdL_law_1470.1
theorem dL_law_1473 : decode cL_law 1473 = .ok (.pop, 1) := gdL_law_1470.2.1
theorem dL_law_1474 : decode cL_law 1474 = .ok (.aload_n 2, 1) := gdL_law_1470.2.2.1
theorem dL_law_1475 : decode cL_law 1475 = .ok (.aload_n 0, 1) := gdL_law_1470.2.2.2.1
theorem dL_law_1476 : decode cL_law 1476 = .ok (.iload_n 3, 1) := gdL_law_1470.2.2.2.2.1
theorem dL_law_1477 : decode cL_law 1477 = .ok (.iconst 1, 1) := gdL_law_1470.2.2.2.2.2.1
theorem dL_law_1478 : decode cL_law 1478 = .ok (.iadd, 1) := gdL_law_1470.2.2.2.2.2.2.1
theorem dL_law_1479 : decode cL_law 1479 = .ok (.iaload, 1) := gdL_law_1470.2.2.2.2.2.2.2.1
theorem dL_law_1480 : decode cL_law 1480 = .ok (.invokevirtual 157, 3) := gdL_law_1470.2.2.2.2.2.2.2.2.1
theorem dL_law_1483 : decode cL_law 1483 = .ok (.pop, 1) := gdL_law_1470.2.2.2.2.2.2.2.2.2.1
theorem dL_law_1484 : decode cL_law 1484 = .ok (.goto 135, 3) := gdL_law_1470.2.2.2.2.2.2.2.2.2.2.1
theorem dL_law_1487 : decode cL_law 1487 = .ok (.aload_n 1, 1) := gdL_law_1470.2.2.2.2.2.2.2.2.2.2.2.1
theorem dL_law_1488 : decode cL_law 1488 = .ok (.aload_n 0, 1) := gdL_law_1470.2.2.2.2.2.2.2.2.2.2.2.2.1
theorem dL_law_1489 : decode cL_law 1489 = .ok (.iload_n 3, 1) := gdL_law_1470.2.2.2.2.2.2.2.2.2.2.2.2.2.1
theorem dL_law_1490 : decode cL_law 1490 = .ok (.iconst 1, 1) := gdL_law_1470.2.2.2.2.2.2.2.2.2.2.2.2.2.2.1
theorem dL_law_1491 : decode cL_law 1491 = .ok (.iadd, 1) := gdL_law_1470.2.2.2.2.2.2.2.2.2.2.2.2.2.2.2
theorem gdL_law_1492 : (decode cL_law 1492 = .ok (.iaload, 1)) ∧ (decode cL_law 1493 = .ok (.aload_n 0, 1)) ∧ (decode cL_law 1494 = .ok (.iload_n 3, 1)) ∧ (decode cL_law 1495 = .ok (.iconst 2, 1)) ∧ (decode cL_law 1496 = .ok (.iadd, 1)) ∧ (decode cL_law 1497 = .ok (.iaload, 1)) ∧ (decode cL_law 1498 = .ok (.aload_n 0, 1)) ∧ (decode cL_law 1499 = .ok (.iload_n 3, 1)) ∧ (decode cL_law 1500 = .ok (.iconst 3, 1)) ∧ (decode cL_law 1501 = .ok (.iadd, 1)) ∧ (decode cL_law 1502 = .ok (.iaload, 1)) ∧ (decode cL_law 1503 = .ok (.aload_n 0, 1)) ∧ (decode cL_law 1504 = .ok (.iload_n 3, 1)) ∧ (decode cL_law 1505 = .ok (.iconst 4, 1)) ∧ (decode cL_law 1506 = .ok (.iadd, 1)) ∧ (decode cL_law 1507 = .ok (.iaload, 1)) := by decide +kernel
theorem dL_law_1492 : decode cL_law 1492 = .ok (.iaload, 1) := gdL_law_1492.1
theorem dL_law_1493 : decode cL_law 1493 = .ok (.aload_n 0, 1) := gdL_law_1492.2.1
theorem dL_law_1494 : decode cL_law 1494 = .ok (.iload_n 3, 1) := gdL_law_1492.2.2.1
theorem dL_law_1495 : decode cL_law 1495 = .ok (.iconst 2, 1) := gdL_law_1492.2.2.2.1
theorem dL_law_1496 : decode cL_law 1496 = .ok (.iadd, 1) := gdL_law_1492.2.2.2.2.1
theorem dL_law_1497 : decode cL_law 1497 = .ok (.iaload, 1) := gdL_law_1492.2.2.2.2.2.1
theorem dL_law_1498 : decode cL_law 1498 = .ok (.aload_n 0, 1) := gdL_law_1492.2.2.2.2.2.2.1
theorem dL_law_1499 : decode cL_law 1499 = .ok (.iload_n 3, 1) := gdL_law_1492.2.2.2.2.2.2.2.1
theorem dL_law_1500 : decode cL_law 1500 = .ok (.iconst 3, 1) := gdL_law_1492.2.2.2.2.2.2.2.2.1
theorem dL_law_1501 : decode cL_law 1501 = .ok (.iadd, 1) := gdL_law_1492.2.2.2.2.2.2.2.2.2.1
theorem dL_law_1502 : decode cL_law 1502 = .ok (.iaload, 1) := gdL_law_1492.2.2.2.2.2.2.2.2.2.2.1
theorem dL_law_1503 : decode cL_law 1503 = .ok (.aload_n 0, 1) := gdL_law_1492.2.2.2.2.2.2.2.2.2.2.2.1
theorem dL_law_1504 : decode cL_law 1504 = .ok (.iload_n 3, 1) := gdL_law_1492.2.2.2.2.2.2.2.2.2.2.2.2.1
theorem dL_law_1505 : decode cL_law 1505 = .ok (.iconst 4, 1) := gdL_law_1492.2.2.2.2.2.2.2.2.2.2.2.2.2.1
theorem dL_law_1506 : decode cL_law 1506 = .ok (.iadd, 1) := gdL_law_1492.2.2.2.2.2.2.2.2.2.2.2.2.2.2.1
theorem dL_law_1507 : decode cL_law 1507 = .ok (.iaload, 1) := gdL_law_1492.2.2.2.2.2.2.2.2.2.2.2.2.2.2.2
theorem gdL_law_1508 : (decode cL_law 1508 = .ok (.aload_n 0, 1)) ∧ (decode cL_law 1509 = .ok (.iload_n 3, 1)) ∧ (decode cL_law 1510 = .ok (.iconst 5, 1)) ∧ (decode cL_law 1511 = .ok (.iadd, 1)) ∧ (decode cL_law 1512 = .ok (.iaload, 1)) ∧ (decode cL_law 1513 = .ok (.invokevirtual 158, 3)) ∧ (decode cL_law 1516 = .ok (.pop, 1)) ∧ (decode cL_law 1517 = .ok (.aload_n 2, 1)) ∧ (decode cL_law 1518 = .ok (.aload_n 0, 1)) ∧ (decode cL_law 1519 = .ok (.iload_n 3, 1)) ∧ (decode cL_law 1520 = .ok (.iconst 1, 1)) ∧ (decode cL_law 1521 = .ok (.iadd, 1)) ∧ (decode cL_law 1522 = .ok (.iaload, 1)) ∧ (decode cL_law 1523 = .ok (.aload_n 0, 1)) ∧ (decode cL_law 1524 = .ok (.iload_n 3, 1)) ∧ (decode cL_law 1525 = .ok (.iconst 2, 1)) := by decide +kernel
theorem dL_law_1508 : decode cL_law 1508 = .ok (.aload_n 0, 1) := gdL_law_1508.1
theorem dL_law_1509 : decode cL_law 1509 = .ok (.iload_n 3, 1) := gdL_law_1508.2.1
theorem dL_law_1510 : decode cL_law 1510 = .ok (.iconst 5, 1) := gdL_law_1508.2.2.1
theorem dL_law_1511 : decode cL_law 1511 = .ok (.iadd, 1) := gdL_law_1508.2.2.2.1
theorem dL_law_1512 : decode cL_law 1512 = .ok (.iaload, 1) := gdL_law_1508.2.2.2.2.1
theorem dL_law_1513 : decode cL_law 1513 = .ok (.invokevirtual 158, 3) := gdL_law_1508.2.2.2.2.2.1
theorem dL_law_1516 : decode cL_law 1516 = .ok (.pop, 1) := gdL_law_1508.2.2.2.2.2.2.1
theorem dL_law_1517 : decode cL_law 1517 = .ok (.aload_n 2, 1) := gdL_law_1508.2.2.2.2.2.2.2.1
theorem dL_law_1518 : decode cL_law 1518 = .ok (.aload_n 0, 1) := gdL_law_1508.2.2.2.2.2.2.2.2.1
theorem dL_law_1519 : decode cL_law 1519 = .ok (.iload_n 3, 1) := gdL_law_1508.2.2.2.2.2.2.2.2.2.1
theorem dL_law_1520 : decode cL_law 1520 = .ok (.iconst 1, 1) := gdL_law_1508.2.2.2.2.2.2.2.2.2.2.1
theorem dL_law_1521 : decode cL_law 1521 = .ok (.iadd, 1) := gdL_law_1508.2.2.2.2.2.2.2.2.2.2.2.1
theorem dL_law_1522 : decode cL_law 1522 = .ok (.iaload, 1) := gdL_law_1508.2.2.2.2.2.2.2.2.2.2.2.2.1
theorem dL_law_1523 : decode cL_law 1523 = .ok (.aload_n 0, 1) := gdL_law_1508.2.2.2.2.2.2.2.2.2.2.2.2.2.1
theorem dL_law_1524 : decode cL_law 1524 = .ok (.iload_n 3, 1) := gdL_law_1508.2.2.2.2.2.2.2.2.2.2.2.2.2.2.1
theorem dL_law_1525 : decode cL_law 1525 = .ok (.iconst 2, 1) := gdL_law_1508.2.2.2.2.2.2.2.2.2.2.2.2.2.2.2
theorem gdL_law_1526 : (decode cL_law 1526 = .ok (.iadd, 1)) ∧ (decode cL_law 1527 = .ok (.iaload, 1)) ∧ (decode cL_law 1528 = .ok (.aload_n 0, 1)) ∧ (decode cL_law 1529 = .ok (.iload_n 3, 1)) ∧ (decode cL_law 1530 = .ok (.iconst 3, 1)) ∧ (decode cL_law 1531 = .ok (.iadd, 1)) ∧ (decode cL_law 1532 = .ok (.iaload, 1)) ∧ (decode cL_law 1533 = .ok (.aload_n 0, 1)) ∧ (decode cL_law 1534 = .ok (.iload_n 3, 1)) ∧ (decode cL_law 1535 = .ok (.iconst 4, 1)) ∧ (decode cL_law 1536 = .ok (.iadd, 1)) ∧ (decode cL_law 1537 = .ok (.iaload, 1)) ∧ (decode cL_law 1538 = .ok (.aload_n 0, 1)) ∧ (decode cL_law 1539 = .ok (.iload_n 3, 1)) ∧ (decode cL_law 1540 = .ok (.iconst 5, 1)) ∧ (decode cL_law 1541 = .ok (.iadd, 1)) := by decide +kernel
theorem dL_law_1526 : decode cL_law 1526 = .ok (.iadd, 1) := gdL_law_1526.1
theorem dL_law_1527 : decode cL_law 1527 = .ok (.iaload, 1) := gdL_law_1526.2.1
theorem dL_law_1528 : decode cL_law 1528 = .ok (.aload_n 0, 1) := gdL_law_1526.2.2.1
theorem dL_law_1529 : decode cL_law 1529 = .ok (.iload_n 3, 1) := gdL_law_1526.2.2.2.1
theorem dL_law_1530 : decode cL_law 1530 = .ok (.iconst 3, 1) := gdL_law_1526.2.2.2.2.1
theorem dL_law_1531 : decode cL_law 1531 = .ok (.iadd, 1) := gdL_law_1526.2.2.2.2.2.1
theorem dL_law_1532 : decode cL_law 1532 = .ok (.iaload, 1) := gdL_law_1526.2.2.2.2.2.2.1
theorem dL_law_1533 : decode cL_law 1533 = .ok (.aload_n 0, 1) := gdL_law_1526.2.2.2.2.2.2.2.1
theorem dL_law_1534 : decode cL_law 1534 = .ok (.iload_n 3, 1) := gdL_law_1526.2.2.2.2.2.2.2.2.1
theorem dL_law_1535 : decode cL_law 1535 = .ok (.iconst 4, 1) := gdL_law_1526.2.2.2.2.2.2.2.2.2.1
theorem dL_law_1536 : decode cL_law 1536 = .ok (.iadd, 1) := gdL_law_1526.2.2.2.2.2.2.2.2.2.2.1
theorem dL_law_1537 : decode cL_law 1537 = .ok (.iaload, 1) := gdL_law_1526.2.2.2.2.2.2.2.2.2.2.2.1
theorem dL_law_1538 : decode cL_law 1538 = .ok (.aload_n 0, 1) := gdL_law_1526.2.2.2.2.2.2.2.2.2.2.2.2.1
theorem dL_law_1539 : decode cL_law 1539 = .ok (.iload_n 3, 1) := gdL_law_1526.2.2.2.2.2.2.2.2.2.2.2.2.2.1
theorem dL_law_1540 : decode cL_law 1540 = .ok (.iconst 5, 1) := gdL_law_1526.2.2.2.2.2.2.2.2.2.2.2.2.2.2.1
theorem dL_law_1541 : decode cL_law 1541 = .ok (.iadd, 1) := gdL_law_1526.2.2.2.2.2.2.2.2.2.2.2.2.2.2.2
theorem gdL_law_1542 : (decode cL_law 1542 = .ok (.iaload, 1)) ∧ (decode cL_law 1543 = .ok (.invokevirtual 161, 3)) ∧ (decode cL_law 1546 = .ok (.pop, 1)) ∧ (decode cL_law 1547 = .ok (.goto 72, 3)) ∧ (decode cL_law 1550 = .ok (.aload_n 1, 1)) ∧ (decode cL_law 1551 = .ok (.aload_n 0, 1)) ∧ (decode cL_law 1552 = .ok (.iload_n 3, 1)) ∧ (decode cL_law 1553 = .ok (.iconst 1, 1)) ∧ (decode cL_law 1554 = .ok (.iadd, 1)) ∧ (decode cL_law 1555 = .ok (.iaload, 1)) ∧ (decode cL_law 1556 = .ok (.invokevirtual 162, 3)) ∧ (decode cL_law 1559 = .ok (.pop, 1)) ∧ (decode cL_law 1560 = .ok (.aload_n 2, 1)) ∧ (decode cL_law 1561 = .ok (.aload_n 0, 1)) ∧ (decode cL_law 1562 = .ok (.iload_n 3, 1)) ∧ (decode cL_law 1563 = .ok (.iconst 1, 1)) := by decide +kernel
theorem dL_law_1542 : decode cL_law 1542 = .ok (.iaload, 1) := gdL_law_1542.1
theorem dL_law_1543 : decode cL_law 1543 = .ok (.invokevirtual 161, 3) := gdL_law_1542.2.1
theorem dL_law_1546 : decode cL_law 1546 = .ok (.pop, 1) := gdL_law_1542.2.2.1
theorem dL_law_1547 : decode cL_law 1547 = .ok (.goto 72, 3) := gdL_law_1542.2.2.2.1
theorem dL_law_1550 : decode cL_law 1550 = .ok (.aload_n 1, 1) := gdL_law_1542.2.2.2.2.1
theorem dL_law_1551 : decode cL_law 1551 = .ok (.aload_n 0, 1) := gdL_law_1542.2.2.2.2.2.1
theorem dL_law_1552 : decode cL_law 1552 = .ok (.iload_n 3, 1) := gdL_law_1542.2.2.2.2.2.2.1
theorem dL_law_1553 : decode cL_law 1553 = .ok (.iconst 1, 1) := gdL_law_1542.2.2.2.2.2.2.2.1
theorem dL_law_1554 : decode cL_law 1554 = .ok (.iadd, 1) := gdL_law_1542.2.2.2.2.2.2.2.2.1
theorem dL_law_1555 : decode cL_law 1555 = .ok (.iaload, 1) := gdL_law_1542.2.2.2.2.2.2.2.2.2.1
theorem dL_law_1556 : decode cL_law 1556 = .ok (.invokevirtual 162, 3) := gdL_law_1542.2.2.2.2.2.2.2.2.2.2.1
theorem dL_law_1559 : decode cL_law 1559 = .ok (.pop, 1) := gdL_law_1542.2.2.2.2.2.2.2.2.2.2.2.1
theorem dL_law_1560 : decode cL_law 1560 = .ok (.aload_n 2, 1) := gdL_law_1542.2.2.2.2.2.2.2.2.2.2.2.2.1
theorem dL_law_1561 : decode cL_law 1561 = .ok (.aload_n 0, 1) := gdL_law_1542.2.2.2.2.2.2.2.2.2.2.2.2.2.1
theorem dL_law_1562 : decode cL_law 1562 = .ok (.iload_n 3, 1) := gdL_law_1542.2.2.2.2.2.2.2.2.2.2.2.2.2.2.1
theorem dL_law_1563 : decode cL_law 1563 = .ok (.iconst 1, 1) := gdL_law_1542.2.2.2.2.2.2.2.2.2.2.2.2.2.2.2
theorem gdL_law_1564 : (decode cL_law 1564 = .ok (.iadd, 1)) ∧ (decode cL_law 1565 = .ok (.iaload, 1)) ∧ (decode cL_law 1566 = .ok (.invokevirtual 165, 3)) ∧ (decode cL_law 1569 = .ok (.pop, 1)) ∧ (decode cL_law 1570 = .ok (.goto 49, 3)) ∧ (decode cL_law 1573 = .ok (.aload_n 1, 1)) ∧ (decode cL_law 1574 = .ok (.aload_n 0, 1)) ∧ (decode cL_law 1575 = .ok (.iload_n 3, 1)) ∧ (decode cL_law 1576 = .ok (.iconst 1, 1)) ∧ (decode cL_law 1577 = .ok (.iadd, 1)) ∧ (decode cL_law 1578 = .ok (.iaload, 1)) ∧ (decode cL_law 1579 = .ok (.invokevirtual 166, 3)) ∧ (decode cL_law 1582 = .ok (.pop, 1)) ∧ (decode cL_law 1583 = .ok (.aload_n 2, 1)) ∧ (decode cL_law 1584 = .ok (.aload_n 0, 1)) ∧ (decode cL_law 1585 = .ok (.iload_n 3, 1)) := by decide +kernel
theorem dL_law_1564 : decode cL_law 1564 = .ok (.iadd, 1) := gdL_law_1564.1
theorem dL_law_1565 : decode cL_law 1565 = .ok (.iaload, 1) := gdL_law_1564.2.1
theorem dL_law_1566 : decode cL_law 1566 = .ok (.invokevirtual 165, 3) := gdL_law_1564.2.2.1
theorem dL_law_1569 : decode cL_law 1569 = .ok (.pop, 1) := gdL_law_1564.2.2.2.1
theorem dL_law_1570 : decode cL_law 1570 = .ok (.goto 49, 3) := gdL_law_1564.2.2.2.2.1
theorem dL_law_1573 : decode cL_law 1573 = .ok (.aload_n 1, 1) := gdL_law_1564.2.2.2.2.2.1
theorem dL_law_1574 : decode cL_law 1574 = .ok (.aload_n 0, 1) := gdL_law_1564.2.2.2.2.2.2.1
theorem dL_law_1575 : decode cL_law 1575 = .ok (.iload_n 3, 1) := gdL_law_1564.2.2.2.2.2.2.2.1
theorem dL_law_1576 : decode cL_law 1576 = .ok (.iconst 1, 1) := gdL_law_1564.2.2.2.2.2.2.2.2.1
theorem dL_law_1577 : decode cL_law 1577 = .ok (.iadd, 1) := gdL_law_1564.2.2.2.2.2.2.2.2.2.1
theorem dL_law_1578 : decode cL_law 1578 = .ok (.iaload, 1) := gdL_law_1564.2.2.2.2.2.2.2.2.2.2.1
theorem dL_law_1579 : decode cL_law 1579 = .ok (.invokevirtual 166, 3) := gdL_law_1564.2.2.2.2.2.2.2.2.2.2.2.1
theorem dL_law_1582 : decode cL_law 1582 = .ok (.pop, 1) := gdL_law_1564.2.2.2.2.2.2.2.2.2.2.2.2.1
theorem dL_law_1583 : decode cL_law 1583 = .ok (.aload_n 2, 1) := gdL_law_1564.2.2.2.2.2.2.2.2.2.2.2.2.2.1
theorem dL_law_1584 : decode cL_law 1584 = .ok (.aload_n 0, 1) := gdL_law_1564.2.2.2.2.2.2.2.2.2.2.2.2.2.2.1
theorem dL_law_1585 : decode cL_law 1585 = .ok (.iload_n 3, 1) := gdL_law_1564.2.2.2.2.2.2.2.2.2.2.2.2.2.2.2
theorem gdL_law_1586 : (decode cL_law 1586 = .ok (.iconst 1, 1)) ∧ (decode cL_law 1587 = .ok (.iadd, 1)) ∧ (decode cL_law 1588 = .ok (.iaload, 1)) ∧ (decode cL_law 1589 = .ok (.invokevirtual 169, 3)) ∧ (decode cL_law 1592 = .ok (.pop, 1)) ∧ (decode cL_law 1593 = .ok (.goto 26, 3)) ∧ (decode cL_law 1596 = .ok (.aload_n 1, 1)) ∧ (decode cL_law 1597 = .ok (.aload_n 0, 1)) ∧ (decode cL_law 1598 = .ok (.iload_n 3, 1)) ∧ (decode cL_law 1599 = .ok (.iconst 1, 1)) ∧ (decode cL_law 1600 = .ok (.iadd, 1)) ∧ (decode cL_law 1601 = .ok (.iaload, 1)) ∧ (decode cL_law 1602 = .ok (.invokevirtual 170, 3)) ∧ (decode cL_law 1605 = .ok (.pop, 1)) ∧ (decode cL_law 1606 = .ok (.aload_n 2, 1)) ∧ (decode cL_law 1607 = .ok (.aload_n 0, 1)) := by decide +kernel
theorem dL_law_1586 : decode cL_law 1586 = .ok (.iconst 1, 1) := gdL_law_1586.1
theorem dL_law_1587 : decode cL_law 1587 = .ok (.iadd, 1) := gdL_law_1586.2.1
theorem dL_law_1588 : decode cL_law 1588 = .ok (.iaload, 1) := gdL_law_1586.2.2.1
theorem dL_law_1589 : decode cL_law 1589 = .ok (.invokevirtual 169, 3) := gdL_law_1586.2.2.2.1
theorem dL_law_1592 : decode cL_law 1592 = .ok (.pop, 1) := gdL_law_1586.2.2.2.2.1
theorem dL_law_1593 : decode cL_law 1593 = .ok (.goto 26, 3) := gdL_law_1586.2.2.2.2.2.1
theorem dL_law_1596 : decode cL_law 1596 = .ok (.aload_n 1, 1) := gdL_law_1586.2.2.2.2.2.2.1
theorem dL_law_1597 : decode cL_law 1597 = .ok (.aload_n 0, 1) := gdL_law_1586.2.2.2.2.2.2.2.1
theorem dL_law_1598 : decode cL_law 1598 = .ok (.iload_n 3, 1) := gdL_law_1586.2.2.2.2.2.2.2.2.1
theorem dL_law_1599 : decode cL_law 1599 = .ok (.iconst 1, 1) := gdL_law_1586.2.2.2.2.2.2.2.2.2.1
theorem dL_law_1600 : decode cL_law 1600 = .ok (.iadd, 1) := gdL_law_1586.2.2.2.2.2.2.2.2.2.2.1
theorem dL_law_1601 : decode cL_law 1601 = .ok (.iaload, 1) := gdL_law_1586.2.2.2.2.2.2.2.2.2.2.2.1
theorem dL_law_1602 : decode cL_law 1602 = .ok (.invokevirtual 170, 3) := gdL_law_1586.2.2.2.2.2.2.2.2.2.2.2.2.1
theorem dL_law_1605 : decode cL_law 1605 = .ok (.pop, 1) := gdL_law_1586.2.2.2.2.2.2.2.2.2.2.2.2.2.1
theorem dL_law_1606 : decode cL_law 1606 = .ok (.aload_n 2, 1) := gdL_law_1586.2.2.2.2.2.2.2.2.2.2.2.2.2.2.1
theorem dL_law_1607 : decode cL_law 1607 = .ok (.aload_n 0, 1) := gdL_law_1586.2.2.2.2.2.2.2.2.2.2.2.2.2.2.2
theorem gdL_law_1608 : (decode cL_law 1608 = .ok (.iload_n 3, 1)) ∧ (decode cL_law 1609 = .ok (.iconst 1, 1)) ∧ (decode cL_law 1610 = .ok (.iadd, 1)) ∧ (decode cL_law 1611 = .ok (.iaload, 1)) ∧ (decode cL_law 1612 = .ok (.invokevirtual 173, 3)) ∧ (decode cL_law 1615 = .ok (.pop, 1)) ∧ (decode cL_law 1616 = .ok (.goto 3, 3)) ∧ (decode cL_law 1619 = .ok (.iinc 3 6, 3)) ∧ (decode cL_law 1622 = .ok (.goto (-1604), 3)) ∧ (decode cL_law 1625 = .ok (.iconst 1, 1)) ∧ (decode cL_law 1626 = .ok (.ireturn, 1)) := by decide +kernel
theorem dL_law_1608 : decode cL_law 1608 = .ok (.iload_n 3, 1) := gdL_law_1608.1
theorem dL_law_1609 : decode cL_law 1609 = .ok (.iconst 1, 1) := gdL_law_1608.2.1
theorem dL_law_1610 : decode cL_law 1610 = .ok (.iadd, 1) := gdL_law_1608.2.2.1
theorem dL_law_1611 : decode cL_law 1611 = .ok (.iaload, 1) := gdL_law_1608.2.2.2.1
theorem dL_law_1612 : decode cL_law 1612 = .ok (.invokevirtual 173, 3) := gdL_law_1608.2.2.2.2.1
theorem dL_law_1615 : decode cL_law 1615 = .ok (.pop, 1) := gdL_law_1608.2.2.2.2.2.1
theorem dL_law_1616 : decode cL_law 1616 = .ok (.goto 3, 3) := gdL_law_1608.2.2.2.2.2.2.1
theorem dL_law_1619 : decode cL_law 1619 = .ok (.iinc 3 6, 3) := gdL_law_1608.2.2.2.2.2.2.2.1
theorem dL_law_1622 : decode cL_law 1622 = .ok (.goto (-1604), 3) := gdL_law_1608.2.2.2.2.2.2.2.2.1
theorem dL_law_1625 : decode cL_law 1625 = .ok (.iconst 1, 1) := gdL_law_1608.2.2.2.2.2.2.2.2.2.1
theorem dL_law_1626 : decode cL_law 1626 = .ok (.ireturn, 1) := gdL_law_1608.2.2.2.2.2.2.2.2.2.2
