theorem gdX11_when_72 : ∀ e ∈ ([(72, .lcmp, 1), (73, .ifCond .ne 9, 3), (76, .iload 4, 2), (78, .i2l, 1), (79, .goto 15, 3), (82, .lload 5, 2), (84, .aload_n 0, 1), (85, .iload_n 2, 1), (86, .invokevirtual 333, 3), (89, .iload 4, 2)] : List (Nat × Instr × Nat)), decode cX11_when e.1 = .ok e.2 := wn_all _ 72 (by decide +kernel)
theorem dX11_when_72 : decode cX11_when 72 = .ok (.lcmp, 1) := wn_at gdX11_when_72 0 rfl
theorem dX11_when_73 : decode cX11_when 73 = .ok (.ifCond .ne 9, 3) := wn_at gdX11_when_72 1 rfl
theorem dX11_when_76 : decode cX11_when 76 = .ok (.iload 4, 2) := wn_at gdX11_when_72 2 rfl
theorem dX11_when_78 : decode cX11_when 78 = .ok (.i2l, 1) := wn_at gdX11_when_72 3 rfl
theorem dX11_when_79 : decode cX11_when 79 = .ok (.goto 15, 3) := wn_at gdX11_when_72 4 rfl
theorem dX11_when_82 : decode cX11_when 82 = .ok (.lload 5, 2) := wn_at gdX11_when_72 5 rfl
theorem dX11_when_84 : decode cX11_when 84 = .ok (.aload_n 0, 1) := wn_at gdX11_when_72 6 rfl
theorem dX11_when_85 : decode cX11_when 85 = .ok (.iload_n 2, 1) := wn_at gdX11_when_72 7 rfl
theorem dX11_when_86 : decode cX11_when 86 = .ok (.invokevirtual 333, 3) := wn_at gdX11_when_72 8 rfl
theorem dX11_when_89 : decode cX11_when 89 = .ok (.iload 4, 2) := wn_at gdX11_when_72 9 rfl
theorem gdX11_when_91 : ∀ e ∈ ([(91, .invokestatic 307, 3), (94, .lreturn, 1)] : List (Nat × Instr × Nat)), decode cX11_when e.1 = .ok e.2 := wn_all _ 91 (by decide +kernel)
theorem dX11_when_91 : decode cX11_when 91 = .ok (.invokestatic 307, 3) := wn_at gdX11_when_91 0 rfl
theorem dX11_when_94 : decode cX11_when 94 = .ok (.lreturn, 1) := wn_at gdX11_when_91 1 rfl
theorem gdX11_shown_0 : ∀ e ∈ ([(0, .aload_n 0, 1), (1, .iload_n 1, 1), (2, .invokevirtual 299, 3), (5, .ifCond .eq 25, 3), (8, .iload_n 2, 1), (9, .i2l, 1), (10, .lconst 0, 1), (11, .ldc2_w 365, 3), (14, .invokestatic 131, 3), (17, .ifCond .eq 13, 3)] : List (Nat × Instr × Nat)), decode cX11_shown e.1 = .ok e.2 := wn_all _ 0 (by decide +kernel)
theorem dX11_shown_0 : decode cX11_shown 0 = .ok (.aload_n 0, 1) := wn_at gdX11_shown_0 0 rfl
theorem dX11_shown_1 : decode cX11_shown 1 = .ok (.iload_n 1, 1) := wn_at gdX11_shown_0 1 rfl
theorem dX11_shown_2 : decode cX11_shown 2 = .ok (.invokevirtual 299, 3) := wn_at gdX11_shown_0 2 rfl
theorem dX11_shown_5 : decode cX11_shown 5 = .ok (.ifCond .eq 25, 3) := wn_at gdX11_shown_0 3 rfl
theorem dX11_shown_8 : decode cX11_shown 8 = .ok (.iload_n 2, 1) := wn_at gdX11_shown_0 4 rfl
theorem dX11_shown_9 : decode cX11_shown 9 = .ok (.i2l, 1) := wn_at gdX11_shown_0 5 rfl
theorem dX11_shown_10 : decode cX11_shown 10 = .ok (.lconst 0, 1) := wn_at gdX11_shown_0 6 rfl
theorem dX11_shown_11 : decode cX11_shown 11 = .ok (.ldc2_w 365, 3) := wn_at gdX11_shown_0 7 rfl
theorem dX11_shown_14 : decode cX11_shown 14 = .ok (.invokestatic 131, 3) := wn_at gdX11_shown_0 8 rfl
theorem dX11_shown_17 : decode cX11_shown 17 = .ok (.ifCond .eq 13, 3) := wn_at gdX11_shown_0 9 rfl
theorem gdX11_shown_20 : ∀ e ∈ ([(20, .iload_n 3, 1), (21, .i2l, 1), (22, .lconst 0, 1), (23, .lconst 1, 1), (24, .invokestatic 131, 3), (27, .ifCond .ne 5, 3), (30, .iconst (-1), 1), (31, .ireturn, 1), (32, .iload_n 2, 1), (33, .aload_n 0, 1)] : List (Nat × Instr × Nat)), decode cX11_shown e.1 = .ok e.2 := wn_all _ 20 (by decide +kernel)
theorem dX11_shown_20 : decode cX11_shown 20 = .ok (.iload_n 3, 1) := wn_at gdX11_shown_20 0 rfl
theorem dX11_shown_21 : decode cX11_shown 21 = .ok (.i2l, 1) := wn_at gdX11_shown_20 1 rfl
theorem dX11_shown_22 : decode cX11_shown 22 = .ok (.lconst 0, 1) := wn_at gdX11_shown_20 2 rfl
theorem dX11_shown_23 : decode cX11_shown 23 = .ok (.lconst 1, 1) := wn_at gdX11_shown_20 3 rfl
theorem dX11_shown_24 : decode cX11_shown 24 = .ok (.invokestatic 131, 3) := wn_at gdX11_shown_20 4 rfl
theorem dX11_shown_27 : decode cX11_shown 27 = .ok (.ifCond .ne 5, 3) := wn_at gdX11_shown_20 5 rfl
theorem dX11_shown_30 : decode cX11_shown 30 = .ok (.iconst (-1), 1) := wn_at gdX11_shown_20 6 rfl
theorem dX11_shown_31 : decode cX11_shown 31 = .ok (.ireturn, 1) := wn_at gdX11_shown_20 7 rfl
theorem dX11_shown_32 : decode cX11_shown 32 = .ok (.iload_n 2, 1) := wn_at gdX11_shown_20 8 rfl
theorem dX11_shown_33 : decode cX11_shown 33 = .ok (.aload_n 0, 1) := wn_at gdX11_shown_20 9 rfl
theorem gdX11_shown_34 : ∀ e ∈ ([(34, .getfield 45, 3), (37, .bipush 10, 2), (39, .iconst 2, 1), (40, .iload_n 1, 1), (41, .imul, 1), (42, .iadd, 1), (43, .iaload, 1), (44, .imul, 1), (45, .aload_n 0, 1), (46, .getfield 45, 3)] : List (Nat × Instr × Nat)), decode cX11_shown e.1 = .ok e.2 := wn_all _ 34 (by decide +kernel)
theorem dX11_shown_34 : decode cX11_shown 34 = .ok (.getfield 45, 3) := wn_at gdX11_shown_34 0 rfl
theorem dX11_shown_37 : decode cX11_shown 37 = .ok (.bipush 10, 2) := wn_at gdX11_shown_34 1 rfl
theorem dX11_shown_39 : decode cX11_shown 39 = .ok (.iconst 2, 1) := wn_at gdX11_shown_34 2 rfl
theorem dX11_shown_40 : decode cX11_shown 40 = .ok (.iload_n 1, 1) := wn_at gdX11_shown_34 3 rfl
theorem dX11_shown_41 : decode cX11_shown 41 = .ok (.imul, 1) := wn_at gdX11_shown_34 4 rfl
theorem dX11_shown_42 : decode cX11_shown 42 = .ok (.iadd, 1) := wn_at gdX11_shown_34 5 rfl
theorem dX11_shown_43 : decode cX11_shown 43 = .ok (.iaload, 1) := wn_at gdX11_shown_34 6 rfl
theorem dX11_shown_44 : decode cX11_shown 44 = .ok (.imul, 1) := wn_at gdX11_shown_34 7 rfl
theorem dX11_shown_45 : decode cX11_shown 45 = .ok (.aload_n 0, 1) := wn_at gdX11_shown_34 8 rfl
theorem dX11_shown_46 : decode cX11_shown 46 = .ok (.getfield 45, 3) := wn_at gdX11_shown_34 9 rfl
theorem gdX11_shown_49 : ∀ e ∈ ([(49, .bipush 10, 2), (51, .iconst 2, 1), (52, .iload_n 1, 1), (53, .imul, 1), (54, .iadd, 1), (55, .iconst 1, 1), (56, .iadd, 1), (57, .iaload, 1), (58, .idiv, 1), (59, .istore 4, 2)] : List (Nat × Instr × Nat)), decode cX11_shown e.1 = .ok e.2 := wn_all _ 49 (by decide +kernel)
theorem dX11_shown_49 : decode cX11_shown 49 = .ok (.bipush 10, 2) := wn_at gdX11_shown_49 0 rfl
theorem dX11_shown_51 : decode cX11_shown 51 = .ok (.iconst 2, 1) := wn_at gdX11_shown_49 1 rfl
theorem dX11_shown_52 : decode cX11_shown 52 = .ok (.iload_n 1, 1) := wn_at gdX11_shown_49 2 rfl
theorem dX11_shown_53 : decode cX11_shown 53 = .ok (.imul, 1) := wn_at gdX11_shown_49 3 rfl
theorem dX11_shown_54 : decode cX11_shown 54 = .ok (.iadd, 1) := wn_at gdX11_shown_49 4 rfl
theorem dX11_shown_55 : decode cX11_shown 55 = .ok (.iconst 1, 1) := wn_at gdX11_shown_49 5 rfl
theorem dX11_shown_56 : decode cX11_shown 56 = .ok (.iadd, 1) := wn_at gdX11_shown_49 6 rfl
theorem dX11_shown_57 : decode cX11_shown 57 = .ok (.iaload, 1) := wn_at gdX11_shown_49 7 rfl
theorem dX11_shown_58 : decode cX11_shown 58 = .ok (.idiv, 1) := wn_at gdX11_shown_49 8 rfl
theorem dX11_shown_59 : decode cX11_shown 59 = .ok (.istore 4, 2) := wn_at gdX11_shown_49 9 rfl
theorem gdX11_shown_61 : ∀ e ∈ ([(61, .iload_n 3, 1), (62, .ifCond .ne 11, 3), (65, .iload 4, 2), (67, .bipush 24, 2), (69, .idiv, 1), (70, .goto 8, 3), (73, .iload 4, 2), (75, .bipush 24, 2), (77, .irem, 1), (78, .ireturn, 1)] : List (Nat × Instr × Nat)), decode cX11_shown e.1 = .ok e.2 := wn_all _ 61 (by decide +kernel)
theorem dX11_shown_61 : decode cX11_shown 61 = .ok (.iload_n 3, 1) := wn_at gdX11_shown_61 0 rfl
theorem dX11_shown_62 : decode cX11_shown 62 = .ok (.ifCond .ne 11, 3) := wn_at gdX11_shown_61 1 rfl
theorem dX11_shown_65 : decode cX11_shown 65 = .ok (.iload 4, 2) := wn_at gdX11_shown_61 2 rfl
theorem dX11_shown_67 : decode cX11_shown 67 = .ok (.bipush 24, 2) := wn_at gdX11_shown_61 3 rfl
theorem dX11_shown_69 : decode cX11_shown 69 = .ok (.idiv, 1) := wn_at gdX11_shown_61 4 rfl
theorem dX11_shown_70 : decode cX11_shown 70 = .ok (.goto 8, 3) := wn_at gdX11_shown_61 5 rfl
theorem dX11_shown_73 : decode cX11_shown 73 = .ok (.iload 4, 2) := wn_at gdX11_shown_61 6 rfl
theorem dX11_shown_75 : decode cX11_shown 75 = .ok (.bipush 24, 2) := wn_at gdX11_shown_61 7 rfl
theorem dX11_shown_77 : decode cX11_shown 77 = .ok (.irem, 1) := wn_at gdX11_shown_61 8 rfl
theorem dX11_shown_78 : decode cX11_shown 78 = .ok (.ireturn, 1) := wn_at gdX11_shown_61 9 rfl
theorem gdX11_noonsTill_0 : ∀ e ∈ ([(0, .iload_n 0, 1), (1, .bipush 12, 2), (3, .iload_n 1, 1), (4, .imul, 1), (5, .if_icmp .ge 7, 3), (8, .iconst 0, 1), (9, .goto 16, 3), (12, .iload_n 0, 1), (13, .bipush 12, 2), (15, .iload_n 1, 1)] : List (Nat × Instr × Nat)), decode cX11_noonsTill e.1 = .ok e.2 := wn_all _ 0 (by decide +kernel)
theorem dX11_noonsTill_0 : decode cX11_noonsTill 0 = .ok (.iload_n 0, 1) := wn_at gdX11_noonsTill_0 0 rfl
theorem dX11_noonsTill_1 : decode cX11_noonsTill 1 = .ok (.bipush 12, 2) := wn_at gdX11_noonsTill_0 1 rfl
theorem dX11_noonsTill_3 : decode cX11_noonsTill 3 = .ok (.iload_n 1, 1) := wn_at gdX11_noonsTill_0 2 rfl
theorem dX11_noonsTill_4 : decode cX11_noonsTill 4 = .ok (.imul, 1) := wn_at gdX11_noonsTill_0 3 rfl
theorem dX11_noonsTill_5 : decode cX11_noonsTill 5 = .ok (.if_icmp .ge 7, 3) := wn_at gdX11_noonsTill_0 4 rfl
theorem dX11_noonsTill_8 : decode cX11_noonsTill 8 = .ok (.iconst 0, 1) := wn_at gdX11_noonsTill_0 5 rfl
theorem dX11_noonsTill_9 : decode cX11_noonsTill 9 = .ok (.goto 16, 3) := wn_at gdX11_noonsTill_0 6 rfl
theorem dX11_noonsTill_12 : decode cX11_noonsTill 12 = .ok (.iload_n 0, 1) := wn_at gdX11_noonsTill_0 7 rfl
theorem dX11_noonsTill_13 : decode cX11_noonsTill 13 = .ok (.bipush 12, 2) := wn_at gdX11_noonsTill_0 8 rfl
theorem dX11_noonsTill_15 : decode cX11_noonsTill 15 = .ok (.iload_n 1, 1) := wn_at gdX11_noonsTill_0 9 rfl
theorem gdX11_noonsTill_16 : ∀ e ∈ ([(16, .imul, 1), (17, .isub, 1), (18, .bipush 24, 2), (20, .iload_n 1, 1), (21, .imul, 1), (22, .idiv, 1), (23, .iconst 1, 1), (24, .iadd, 1), (25, .ireturn, 1)] : List (Nat × Instr × Nat)), decode cX11_noonsTill e.1 = .ok e.2 := wn_all _ 16 (by decide +kernel)
theorem dX11_noonsTill_16 : decode cX11_noonsTill 16 = .ok (.imul, 1) := wn_at gdX11_noonsTill_16 0 rfl
theorem dX11_noonsTill_17 : decode cX11_noonsTill 17 = .ok (.isub, 1) := wn_at gdX11_noonsTill_16 1 rfl
theorem dX11_noonsTill_18 : decode cX11_noonsTill 18 = .ok (.bipush 24, 2) := wn_at gdX11_noonsTill_16 2 rfl
theorem dX11_noonsTill_20 : decode cX11_noonsTill 20 = .ok (.iload_n 1, 1) := wn_at gdX11_noonsTill_16 3 rfl
theorem dX11_noonsTill_21 : decode cX11_noonsTill 21 = .ok (.imul, 1) := wn_at gdX11_noonsTill_16 4 rfl
theorem dX11_noonsTill_22 : decode cX11_noonsTill 22 = .ok (.idiv, 1) := wn_at gdX11_noonsTill_16 5 rfl
theorem dX11_noonsTill_23 : decode cX11_noonsTill 23 = .ok (.iconst 1, 1) := wn_at gdX11_noonsTill_16 6 rfl
theorem dX11_noonsTill_24 : decode cX11_noonsTill 24 = .ok (.iadd, 1) := wn_at gdX11_noonsTill_16 7 rfl
theorem dX11_noonsTill_25 : decode cX11_noonsTill 25 = .ok (.ireturn, 1) := wn_at gdX11_noonsTill_16 8 rfl
theorem gdX11_noonsIn_0 : ∀ e ∈ ([(0, .aload_n 0, 1), (1, .iload_n 1, 1), (2, .invokevirtual 299, 3), (5, .ifCond .eq 28, 3), (8, .iload_n 2, 1), (9, .i2l, 1), (10, .lconst 0, 1), (11, .ldc2_w 365, 3), (14, .invokestatic 131, 3), (17, .ifCond .eq 16, 3)] : List (Nat × Instr × Nat)), decode cX11_noonsIn e.1 = .ok e.2 := wn_all _ 0 (by decide +kernel)
theorem dX11_noonsIn_0 : decode cX11_noonsIn 0 = .ok (.aload_n 0, 1) := wn_at gdX11_noonsIn_0 0 rfl
theorem dX11_noonsIn_1 : decode cX11_noonsIn 1 = .ok (.iload_n 1, 1) := wn_at gdX11_noonsIn_0 1 rfl
theorem dX11_noonsIn_2 : decode cX11_noonsIn 2 = .ok (.invokevirtual 299, 3) := wn_at gdX11_noonsIn_0 2 rfl
theorem dX11_noonsIn_5 : decode cX11_noonsIn 5 = .ok (.ifCond .eq 28, 3) := wn_at gdX11_noonsIn_0 3 rfl
theorem dX11_noonsIn_8 : decode cX11_noonsIn 8 = .ok (.iload_n 2, 1) := wn_at gdX11_noonsIn_0 4 rfl
theorem dX11_noonsIn_9 : decode cX11_noonsIn 9 = .ok (.i2l, 1) := wn_at gdX11_noonsIn_0 5 rfl
theorem dX11_noonsIn_10 : decode cX11_noonsIn 10 = .ok (.lconst 0, 1) := wn_at gdX11_noonsIn_0 6 rfl
theorem dX11_noonsIn_11 : decode cX11_noonsIn 11 = .ok (.ldc2_w 365, 3) := wn_at gdX11_noonsIn_0 7 rfl
theorem dX11_noonsIn_14 : decode cX11_noonsIn 14 = .ok (.invokestatic 131, 3) := wn_at gdX11_noonsIn_0 8 rfl
theorem dX11_noonsIn_17 : decode cX11_noonsIn 17 = .ok (.ifCond .eq 16, 3) := wn_at gdX11_noonsIn_0 9 rfl
theorem gdX11_noonsIn_20 : ∀ e ∈ ([(20, .iload_n 3, 1), (21, .i2l, 1), (22, .iload_n 2, 1), (23, .i2l, 1), (24, .ldc2_w 365, 3), (27, .invokestatic 131, 3), (30, .ifCond .ne 5, 3), (33, .iconst (-1), 1), (34, .ireturn, 1), (35, .aload_n 0, 1)] : List (Nat × Instr × Nat)), decode cX11_noonsIn e.1 = .ok e.2 := wn_all _ 20 (by decide +kernel)
theorem dX11_noonsIn_20 : decode cX11_noonsIn 20 = .ok (.iload_n 3, 1) := wn_at gdX11_noonsIn_20 0 rfl
theorem dX11_noonsIn_21 : decode cX11_noonsIn 21 = .ok (.i2l, 1) := wn_at gdX11_noonsIn_20 1 rfl
theorem dX11_noonsIn_22 : decode cX11_noonsIn 22 = .ok (.iload_n 2, 1) := wn_at gdX11_noonsIn_20 2 rfl
theorem dX11_noonsIn_23 : decode cX11_noonsIn 23 = .ok (.i2l, 1) := wn_at gdX11_noonsIn_20 3 rfl
theorem dX11_noonsIn_24 : decode cX11_noonsIn 24 = .ok (.ldc2_w 365, 3) := wn_at gdX11_noonsIn_20 4 rfl
theorem dX11_noonsIn_27 : decode cX11_noonsIn 27 = .ok (.invokestatic 131, 3) := wn_at gdX11_noonsIn_20 5 rfl
theorem dX11_noonsIn_30 : decode cX11_noonsIn 30 = .ok (.ifCond .ne 5, 3) := wn_at gdX11_noonsIn_20 6 rfl
theorem dX11_noonsIn_33 : decode cX11_noonsIn 33 = .ok (.iconst (-1), 1) := wn_at gdX11_noonsIn_20 7 rfl
theorem dX11_noonsIn_34 : decode cX11_noonsIn 34 = .ok (.ireturn, 1) := wn_at gdX11_noonsIn_20 8 rfl
theorem dX11_noonsIn_35 : decode cX11_noonsIn 35 = .ok (.aload_n 0, 1) := wn_at gdX11_noonsIn_20 9 rfl
theorem gdX11_noonsIn_36 : ∀ e ∈ ([(36, .getfield 45, 3), (39, .bipush 10, 2), (41, .iconst 2, 1), (42, .iload_n 1, 1), (43, .imul, 1), (44, .iadd, 1), (45, .iaload, 1), (46, .istore 4, 2), (48, .aload_n 0, 1), (49, .getfield 45, 3)] : List (Nat × Instr × Nat)), decode cX11_noonsIn e.1 = .ok e.2 := wn_all _ 36 (by decide +kernel)
theorem dX11_noonsIn_36 : decode cX11_noonsIn 36 = .ok (.getfield 45, 3) := wn_at gdX11_noonsIn_36 0 rfl
theorem dX11_noonsIn_39 : decode cX11_noonsIn 39 = .ok (.bipush 10, 2) := wn_at gdX11_noonsIn_36 1 rfl
theorem dX11_noonsIn_41 : decode cX11_noonsIn 41 = .ok (.iconst 2, 1) := wn_at gdX11_noonsIn_36 2 rfl
theorem dX11_noonsIn_42 : decode cX11_noonsIn 42 = .ok (.iload_n 1, 1) := wn_at gdX11_noonsIn_36 3 rfl
theorem dX11_noonsIn_43 : decode cX11_noonsIn 43 = .ok (.imul, 1) := wn_at gdX11_noonsIn_36 4 rfl
theorem dX11_noonsIn_44 : decode cX11_noonsIn 44 = .ok (.iadd, 1) := wn_at gdX11_noonsIn_36 5 rfl
theorem dX11_noonsIn_45 : decode cX11_noonsIn 45 = .ok (.iaload, 1) := wn_at gdX11_noonsIn_36 6 rfl
theorem dX11_noonsIn_46 : decode cX11_noonsIn 46 = .ok (.istore 4, 2) := wn_at gdX11_noonsIn_36 7 rfl
theorem dX11_noonsIn_48 : decode cX11_noonsIn 48 = .ok (.aload_n 0, 1) := wn_at gdX11_noonsIn_36 8 rfl
theorem dX11_noonsIn_49 : decode cX11_noonsIn 49 = .ok (.getfield 45, 3) := wn_at gdX11_noonsIn_36 9 rfl
theorem gdX11_noonsIn_52 : ∀ e ∈ ([(52, .bipush 10, 2), (54, .iconst 2, 1), (55, .iload_n 1, 1), (56, .imul, 1), (57, .iadd, 1), (58, .iconst 1, 1), (59, .iadd, 1), (60, .iaload, 1), (61, .istore 5, 2), (63, .iload_n 3, 1)] : List (Nat × Instr × Nat)), decode cX11_noonsIn e.1 = .ok e.2 := wn_all _ 52 (by decide +kernel)
theorem dX11_noonsIn_52 : decode cX11_noonsIn 52 = .ok (.bipush 10, 2) := wn_at gdX11_noonsIn_52 0 rfl
theorem dX11_noonsIn_54 : decode cX11_noonsIn 54 = .ok (.iconst 2, 1) := wn_at gdX11_noonsIn_52 1 rfl
theorem dX11_noonsIn_55 : decode cX11_noonsIn 55 = .ok (.iload_n 1, 1) := wn_at gdX11_noonsIn_52 2 rfl
theorem dX11_noonsIn_56 : decode cX11_noonsIn 56 = .ok (.imul, 1) := wn_at gdX11_noonsIn_52 3 rfl
theorem dX11_noonsIn_57 : decode cX11_noonsIn 57 = .ok (.iadd, 1) := wn_at gdX11_noonsIn_52 4 rfl
theorem dX11_noonsIn_58 : decode cX11_noonsIn 58 = .ok (.iconst 1, 1) := wn_at gdX11_noonsIn_52 5 rfl
theorem dX11_noonsIn_59 : decode cX11_noonsIn 59 = .ok (.iadd, 1) := wn_at gdX11_noonsIn_52 6 rfl
theorem dX11_noonsIn_60 : decode cX11_noonsIn 60 = .ok (.iaload, 1) := wn_at gdX11_noonsIn_52 7 rfl
theorem dX11_noonsIn_61 : decode cX11_noonsIn 61 = .ok (.istore 5, 2) := wn_at gdX11_noonsIn_52 8 rfl
theorem dX11_noonsIn_63 : decode cX11_noonsIn 63 = .ok (.iload_n 3, 1) := wn_at gdX11_noonsIn_52 9 rfl
theorem gdX11_noonsIn_64 : ∀ e ∈ ([(64, .iload 4, 2), (66, .imul, 1), (67, .iload 5, 2), (69, .invokestatic 387, 3), (72, .iload_n 2, 1), (73, .iload 4, 2), (75, .imul, 1), (76, .iconst 1, 1), (77, .isub, 1), (78, .iload 5, 2)] : List (Nat × Instr × Nat)), decode cX11_noonsIn e.1 = .ok e.2 := wn_all _ 64 (by decide +kernel)
theorem dX11_noonsIn_64 : decode cX11_noonsIn 64 = .ok (.iload 4, 2) := wn_at gdX11_noonsIn_64 0 rfl
theorem dX11_noonsIn_66 : decode cX11_noonsIn 66 = .ok (.imul, 1) := wn_at gdX11_noonsIn_64 1 rfl
theorem dX11_noonsIn_67 : decode cX11_noonsIn 67 = .ok (.iload 5, 2) := wn_at gdX11_noonsIn_64 2 rfl
theorem dX11_noonsIn_69 : decode cX11_noonsIn 69 = .ok (.invokestatic 387, 3) := wn_at gdX11_noonsIn_64 3 rfl
theorem dX11_noonsIn_72 : decode cX11_noonsIn 72 = .ok (.iload_n 2, 1) := wn_at gdX11_noonsIn_64 4 rfl
theorem dX11_noonsIn_73 : decode cX11_noonsIn 73 = .ok (.iload 4, 2) := wn_at gdX11_noonsIn_64 5 rfl
theorem dX11_noonsIn_75 : decode cX11_noonsIn 75 = .ok (.imul, 1) := wn_at gdX11_noonsIn_64 6 rfl
theorem dX11_noonsIn_76 : decode cX11_noonsIn 76 = .ok (.iconst 1, 1) := wn_at gdX11_noonsIn_64 7 rfl
theorem dX11_noonsIn_77 : decode cX11_noonsIn 77 = .ok (.isub, 1) := wn_at gdX11_noonsIn_64 8 rfl
theorem dX11_noonsIn_78 : decode cX11_noonsIn 78 = .ok (.iload 5, 2) := wn_at gdX11_noonsIn_64 9 rfl
theorem gdX11_noonsIn_80 : ∀ e ∈ ([(80, .invokestatic 387, 3), (83, .isub, 1), (84, .ireturn, 1)] : List (Nat × Instr × Nat)), decode cX11_noonsIn e.1 = .ok e.2 := wn_all _ 80 (by decide +kernel)
theorem dX11_noonsIn_80 : decode cX11_noonsIn 80 = .ok (.invokestatic 387, 3) := wn_at gdX11_noonsIn_80 0 rfl
theorem dX11_noonsIn_83 : decode cX11_noonsIn 83 = .ok (.isub, 1) := wn_at gdX11_noonsIn_80 1 rfl
theorem dX11_noonsIn_84 : decode cX11_noonsIn 84 = .ok (.ireturn, 1) := wn_at gdX11_noonsIn_80 2 rfl
theorem gdX11_due_0 : ∀ e ∈ ([(0, .aload_n 0, 1), (1, .iload_n 1, 1), (2, .invokevirtual 299, 3), (5, .ifCond .eq 15, 3), (8, .iload_n 2, 1), (9, .i2l, 1), (10, .lconst 0, 1), (11, .ldc2_w 365, 3), (14, .invokestatic 131, 3), (17, .ifCond .ne 5, 3)] : List (Nat × Instr × Nat)), decode cX11_due e.1 = .ok e.2 := wn_all _ 0 (by decide +kernel)
theorem dX11_due_0 : decode cX11_due 0 = .ok (.aload_n 0, 1) := wn_at gdX11_due_0 0 rfl
theorem dX11_due_1 : decode cX11_due 1 = .ok (.iload_n 1, 1) := wn_at gdX11_due_0 1 rfl
theorem dX11_due_2 : decode cX11_due 2 = .ok (.invokevirtual 299, 3) := wn_at gdX11_due_0 2 rfl
theorem dX11_due_5 : decode cX11_due 5 = .ok (.ifCond .eq 15, 3) := wn_at gdX11_due_0 3 rfl
theorem dX11_due_8 : decode cX11_due 8 = .ok (.iload_n 2, 1) := wn_at gdX11_due_0 4 rfl
theorem dX11_due_9 : decode cX11_due 9 = .ok (.i2l, 1) := wn_at gdX11_due_0 5 rfl
theorem dX11_due_10 : decode cX11_due 10 = .ok (.lconst 0, 1) := wn_at gdX11_due_0 6 rfl
theorem dX11_due_11 : decode cX11_due 11 = .ok (.ldc2_w 365, 3) := wn_at gdX11_due_0 7 rfl
theorem dX11_due_14 : decode cX11_due 14 = .ok (.invokestatic 131, 3) := wn_at gdX11_due_0 8 rfl
theorem dX11_due_17 : decode cX11_due 17 = .ok (.ifCond .ne 5, 3) := wn_at gdX11_due_0 9 rfl
theorem gdX11_due_20 : ∀ e ∈ ([(20, .iconst (-1), 1), (21, .ireturn, 1), (22, .aload_n 0, 1), (23, .getfield 45, 3), (26, .bipush 10, 2), (28, .iconst 2, 1), (29, .iload_n 1, 1), (30, .imul, 1), (31, .iadd, 1), (32, .iaload, 1)] : List (Nat × Instr × Nat)), decode cX11_due e.1 = .ok e.2 := wn_all _ 20 (by decide +kernel)
theorem dX11_due_20 : decode cX11_due 20 = .ok (.iconst (-1), 1) := wn_at gdX11_due_20 0 rfl
theorem dX11_due_21 : decode cX11_due 21 = .ok (.ireturn, 1) := wn_at gdX11_due_20 1 rfl
theorem dX11_due_22 : decode cX11_due 22 = .ok (.aload_n 0, 1) := wn_at gdX11_due_20 2 rfl
theorem dX11_due_23 : decode cX11_due 23 = .ok (.getfield 45, 3) := wn_at gdX11_due_20 3 rfl
theorem dX11_due_26 : decode cX11_due 26 = .ok (.bipush 10, 2) := wn_at gdX11_due_20 4 rfl
theorem dX11_due_28 : decode cX11_due 28 = .ok (.iconst 2, 1) := wn_at gdX11_due_20 5 rfl
theorem dX11_due_29 : decode cX11_due 29 = .ok (.iload_n 1, 1) := wn_at gdX11_due_20 6 rfl
theorem dX11_due_30 : decode cX11_due 30 = .ok (.imul, 1) := wn_at gdX11_due_20 7 rfl
theorem dX11_due_31 : decode cX11_due 31 = .ok (.iadd, 1) := wn_at gdX11_due_20 8 rfl
theorem dX11_due_32 : decode cX11_due 32 = .ok (.iaload, 1) := wn_at gdX11_due_20 9 rfl
theorem gdX11_due_33 : ∀ e ∈ ([(33, .istore_n 3, 1), (34, .bipush 24, 2), (36, .iload_n 2, 1), (37, .imul, 1), (38, .aload_n 0, 1), (39, .getfield 45, 3), (42, .bipush 10, 2), (44, .iconst 2, 1), (45, .iload_n 1, 1), (46, .imul, 1)] : List (Nat × Instr × Nat)), decode cX11_due e.1 = .ok e.2 := wn_all _ 33 (by decide +kernel)
theorem dX11_due_33 : decode cX11_due 33 = .ok (.istore_n 3, 1) := wn_at gdX11_due_33 0 rfl
theorem dX11_due_34 : decode cX11_due 34 = .ok (.bipush 24, 2) := wn_at gdX11_due_33 1 rfl
theorem dX11_due_36 : decode cX11_due 36 = .ok (.iload_n 2, 1) := wn_at gdX11_due_33 2 rfl
theorem dX11_due_37 : decode cX11_due 37 = .ok (.imul, 1) := wn_at gdX11_due_33 3 rfl
theorem dX11_due_38 : decode cX11_due 38 = .ok (.aload_n 0, 1) := wn_at gdX11_due_33 4 rfl
theorem dX11_due_39 : decode cX11_due 39 = .ok (.getfield 45, 3) := wn_at gdX11_due_33 5 rfl
theorem dX11_due_42 : decode cX11_due 42 = .ok (.bipush 10, 2) := wn_at gdX11_due_33 6 rfl
theorem dX11_due_44 : decode cX11_due 44 = .ok (.iconst 2, 1) := wn_at gdX11_due_33 7 rfl
theorem dX11_due_45 : decode cX11_due 45 = .ok (.iload_n 1, 1) := wn_at gdX11_due_33 8 rfl
theorem dX11_due_46 : decode cX11_due 46 = .ok (.imul, 1) := wn_at gdX11_due_33 9 rfl
theorem gdX11_due_47 : ∀ e ∈ ([(47, .iadd, 1), (48, .iconst 1, 1), (49, .iadd, 1), (50, .iaload, 1), (51, .imul, 1), (52, .iload_n 3, 1), (53, .iadd, 1), (54, .iconst 1, 1), (55, .isub, 1), (56, .iload_n 3, 1)] : List (Nat × Instr × Nat)), decode cX11_due e.1 = .ok e.2 := wn_all _ 47 (by decide +kernel)
theorem dX11_due_47 : decode cX11_due 47 = .ok (.iadd, 1) := wn_at gdX11_due_47 0 rfl
theorem dX11_due_48 : decode cX11_due 48 = .ok (.iconst 1, 1) := wn_at gdX11_due_47 1 rfl
theorem dX11_due_49 : decode cX11_due 49 = .ok (.iadd, 1) := wn_at gdX11_due_47 2 rfl
theorem dX11_due_50 : decode cX11_due 50 = .ok (.iaload, 1) := wn_at gdX11_due_47 3 rfl
theorem dX11_due_51 : decode cX11_due 51 = .ok (.imul, 1) := wn_at gdX11_due_47 4 rfl
theorem dX11_due_52 : decode cX11_due 52 = .ok (.iload_n 3, 1) := wn_at gdX11_due_47 5 rfl
theorem dX11_due_53 : decode cX11_due 53 = .ok (.iadd, 1) := wn_at gdX11_due_47 6 rfl
theorem dX11_due_54 : decode cX11_due 54 = .ok (.iconst 1, 1) := wn_at gdX11_due_47 7 rfl
theorem dX11_due_55 : decode cX11_due 55 = .ok (.isub, 1) := wn_at gdX11_due_47 8 rfl
theorem dX11_due_56 : decode cX11_due 56 = .ok (.iload_n 3, 1) := wn_at gdX11_due_47 9 rfl
theorem gdX11_due_57 : ∀ e ∈ ([(57, .idiv, 1), (58, .ireturn, 1)] : List (Nat × Instr × Nat)), decode cX11_due e.1 = .ok e.2 := wn_all _ 57 (by decide +kernel)
theorem dX11_due_57 : decode cX11_due 57 = .ok (.idiv, 1) := wn_at gdX11_due_57 0 rfl
theorem dX11_due_58 : decode cX11_due 58 = .ok (.ireturn, 1) := wn_at gdX11_due_57 1 rfl
theorem gdX11_isSpare_0 : ∀ e ∈ ([(0, .iconst 0, 1), (1, .istore_n 2, 1), (2, .iload_n 2, 1), (3, .bipush 10, 2), (5, .if_icmp .ge 30, 3), (8, .aload_n 0, 1), (9, .getfield 63, 3), (12, .iload_n 2, 1), (13, .iload_n 2, 1), (14, .aload_n 0, 1)] : List (Nat × Instr × Nat)), decode cX11_isSpare e.1 = .ok e.2 := wn_all _ 0 (by decide +kernel)
theorem dX11_isSpare_0 : decode cX11_isSpare 0 = .ok (.iconst 0, 1) := wn_at gdX11_isSpare_0 0 rfl
theorem dX11_isSpare_1 : decode cX11_isSpare 1 = .ok (.istore_n 2, 1) := wn_at gdX11_isSpare_0 1 rfl
theorem dX11_isSpare_2 : decode cX11_isSpare 2 = .ok (.iload_n 2, 1) := wn_at gdX11_isSpare_0 2 rfl
theorem dX11_isSpare_3 : decode cX11_isSpare 3 = .ok (.bipush 10, 2) := wn_at gdX11_isSpare_0 3 rfl
theorem dX11_isSpare_5 : decode cX11_isSpare 5 = .ok (.if_icmp .ge 30, 3) := wn_at gdX11_isSpare_0 4 rfl
theorem dX11_isSpare_8 : decode cX11_isSpare 8 = .ok (.aload_n 0, 1) := wn_at gdX11_isSpare_0 5 rfl
theorem dX11_isSpare_9 : decode cX11_isSpare 9 = .ok (.getfield 63, 3) := wn_at gdX11_isSpare_0 6 rfl
theorem dX11_isSpare_12 : decode cX11_isSpare 12 = .ok (.iload_n 2, 1) := wn_at gdX11_isSpare_0 7 rfl
theorem dX11_isSpare_13 : decode cX11_isSpare 13 = .ok (.iload_n 2, 1) := wn_at gdX11_isSpare_0 8 rfl
theorem dX11_isSpare_14 : decode cX11_isSpare 14 = .ok (.aload_n 0, 1) := wn_at gdX11_isSpare_0 9 rfl
theorem gdX11_isSpare_15 : ∀ e ∈ ([(15, .iload_n 1, 1), (16, .iconst 0, 1), (17, .invokevirtual 283, 3), (20, .if_icmp .ne 7, 3), (23, .iconst 1, 1), (24, .goto 4, 3), (27, .iconst 0, 1), (28, .bastore, 1), (29, .iinc 2 1, 3), (32, .goto (-30), 3)] : List (Nat × Instr × Nat)), decode cX11_isSpare e.1 = .ok e.2 := wn_all _ 15 (by decide +kernel)
theorem dX11_isSpare_15 : decode cX11_isSpare 15 = .ok (.iload_n 1, 1) := wn_at gdX11_isSpare_15 0 rfl
theorem dX11_isSpare_16 : decode cX11_isSpare 16 = .ok (.iconst 0, 1) := wn_at gdX11_isSpare_15 1 rfl
theorem dX11_isSpare_17 : decode cX11_isSpare 17 = .ok (.invokevirtual 283, 3) := wn_at gdX11_isSpare_15 2 rfl
theorem dX11_isSpare_20 : decode cX11_isSpare 20 = .ok (.if_icmp .ne 7, 3) := wn_at gdX11_isSpare_15 3 rfl
theorem dX11_isSpare_23 : decode cX11_isSpare 23 = .ok (.iconst 1, 1) := wn_at gdX11_isSpare_15 4 rfl
theorem dX11_isSpare_24 : decode cX11_isSpare 24 = .ok (.goto 4, 3) := wn_at gdX11_isSpare_15 5 rfl
theorem dX11_isSpare_27 : decode cX11_isSpare 27 = .ok (.iconst 0, 1) := wn_at gdX11_isSpare_15 6 rfl
theorem dX11_isSpare_28 : decode cX11_isSpare 28 = .ok (.bastore, 1) := wn_at gdX11_isSpare_15 7 rfl
theorem dX11_isSpare_29 : decode cX11_isSpare 29 = .ok (.iinc 2 1, 3) := wn_at gdX11_isSpare_15 8 rfl
theorem dX11_isSpare_32 : decode cX11_isSpare 32 = .ok (.goto (-30), 3) := wn_at gdX11_isSpare_15 9 rfl
theorem gdX11_isSpare_35 : ∀ e ∈ ([(35, .iconst 0, 1), (36, .istore_n 2, 1), (37, .iload_n 2, 1), (38, .bipush 10, 2), (40, .if_icmp .ge 87, 3), (43, .iconst 0, 1), (44, .istore_n 3, 1), (45, .iload_n 3, 1), (46, .aload_n 0, 1), (47, .getfield 45, 3)] : List (Nat × Instr × Nat)), decode cX11_isSpare e.1 = .ok e.2 := wn_all _ 35 (by decide +kernel)
theorem dX11_isSpare_35 : decode cX11_isSpare 35 = .ok (.iconst 0, 1) := wn_at gdX11_isSpare_35 0 rfl
theorem dX11_isSpare_36 : decode cX11_isSpare 36 = .ok (.istore_n 2, 1) := wn_at gdX11_isSpare_35 1 rfl
theorem dX11_isSpare_37 : decode cX11_isSpare 37 = .ok (.iload_n 2, 1) := wn_at gdX11_isSpare_35 2 rfl
theorem dX11_isSpare_38 : decode cX11_isSpare 38 = .ok (.bipush 10, 2) := wn_at gdX11_isSpare_35 3 rfl
theorem dX11_isSpare_40 : decode cX11_isSpare 40 = .ok (.if_icmp .ge 87, 3) := wn_at gdX11_isSpare_35 4 rfl
theorem dX11_isSpare_43 : decode cX11_isSpare 43 = .ok (.iconst 0, 1) := wn_at gdX11_isSpare_35 5 rfl
theorem dX11_isSpare_44 : decode cX11_isSpare 44 = .ok (.istore_n 3, 1) := wn_at gdX11_isSpare_35 6 rfl
theorem dX11_isSpare_45 : decode cX11_isSpare 45 = .ok (.iload_n 3, 1) := wn_at gdX11_isSpare_35 7 rfl
theorem dX11_isSpare_46 : decode cX11_isSpare 46 = .ok (.aload_n 0, 1) := wn_at gdX11_isSpare_35 8 rfl
theorem dX11_isSpare_47 : decode cX11_isSpare 47 = .ok (.getfield 45, 3) := wn_at gdX11_isSpare_35 9 rfl
theorem gdX11_isSpare_50 : ∀ e ∈ ([(50, .iconst 1, 1), (51, .iaload, 1), (52, .if_icmp .ge 69, 3), (55, .iload_n 3, 1), (56, .iload_n 1, 1), (57, .if_icmp .eq 58, 3), (60, .aload_n 0, 1), (61, .getfield 63, 3), (64, .aload_n 0, 1), (65, .iload_n 3, 1)] : List (Nat × Instr × Nat)), decode cX11_isSpare e.1 = .ok e.2 := wn_all _ 50 (by decide +kernel)
theorem dX11_isSpare_50 : decode cX11_isSpare 50 = .ok (.iconst 1, 1) := wn_at gdX11_isSpare_50 0 rfl
theorem dX11_isSpare_51 : decode cX11_isSpare 51 = .ok (.iaload, 1) := wn_at gdX11_isSpare_50 1 rfl
theorem dX11_isSpare_52 : decode cX11_isSpare 52 = .ok (.if_icmp .ge 69, 3) := wn_at gdX11_isSpare_50 2 rfl
theorem dX11_isSpare_55 : decode cX11_isSpare 55 = .ok (.iload_n 3, 1) := wn_at gdX11_isSpare_50 3 rfl
theorem dX11_isSpare_56 : decode cX11_isSpare 56 = .ok (.iload_n 1, 1) := wn_at gdX11_isSpare_50 4 rfl
theorem dX11_isSpare_57 : decode cX11_isSpare 57 = .ok (.if_icmp .eq 58, 3) := wn_at gdX11_isSpare_50 5 rfl
theorem dX11_isSpare_60 : decode cX11_isSpare 60 = .ok (.aload_n 0, 1) := wn_at gdX11_isSpare_50 6 rfl
theorem dX11_isSpare_61 : decode cX11_isSpare 61 = .ok (.getfield 63, 3) := wn_at gdX11_isSpare_50 7 rfl
theorem dX11_isSpare_64 : decode cX11_isSpare 64 = .ok (.aload_n 0, 1) := wn_at gdX11_isSpare_50 8 rfl
theorem dX11_isSpare_65 : decode cX11_isSpare 65 = .ok (.iload_n 3, 1) := wn_at gdX11_isSpare_50 9 rfl
theorem gdX11_isSpare_66 : ∀ e ∈ ([(66, .iconst 0, 1), (67, .invokevirtual 283, 3), (70, .baload, 1), (71, .ifCond .ne 20, 3), (74, .aload_n 0, 1), (75, .getfield 63, 3), (78, .aload_n 0, 1), (79, .iload_n 3, 1), (80, .iconst 1, 1), (81, .invokevirtual 283, 3)] : List (Nat × Instr × Nat)), decode cX11_isSpare e.1 = .ok e.2 := wn_all _ 66 (by decide +kernel)
theorem dX11_isSpare_66 : decode cX11_isSpare 66 = .ok (.iconst 0, 1) := wn_at gdX11_isSpare_66 0 rfl
theorem dX11_isSpare_67 : decode cX11_isSpare 67 = .ok (.invokevirtual 283, 3) := wn_at gdX11_isSpare_66 1 rfl
theorem dX11_isSpare_70 : decode cX11_isSpare 70 = .ok (.baload, 1) := wn_at gdX11_isSpare_66 2 rfl
theorem dX11_isSpare_71 : decode cX11_isSpare 71 = .ok (.ifCond .ne 20, 3) := wn_at gdX11_isSpare_66 3 rfl
theorem dX11_isSpare_74 : decode cX11_isSpare 74 = .ok (.aload_n 0, 1) := wn_at gdX11_isSpare_66 4 rfl
theorem dX11_isSpare_75 : decode cX11_isSpare 75 = .ok (.getfield 63, 3) := wn_at gdX11_isSpare_66 5 rfl
theorem dX11_isSpare_78 : decode cX11_isSpare 78 = .ok (.aload_n 0, 1) := wn_at gdX11_isSpare_66 6 rfl
theorem dX11_isSpare_79 : decode cX11_isSpare 79 = .ok (.iload_n 3, 1) := wn_at gdX11_isSpare_66 7 rfl
theorem dX11_isSpare_80 : decode cX11_isSpare 80 = .ok (.iconst 1, 1) := wn_at gdX11_isSpare_66 8 rfl
theorem dX11_isSpare_81 : decode cX11_isSpare 81 = .ok (.invokevirtual 283, 3) := wn_at gdX11_isSpare_66 9 rfl
theorem gdX11_isSpare_84 : ∀ e ∈ ([(84, .baload, 1), (85, .ifCond .ne 6, 3), (88, .goto 27, 3), (91, .aload_n 0, 1), (92, .getfield 63, 3), (95, .aload_n 0, 1), (96, .iload_n 3, 1), (97, .iconst 0, 1), (98, .invokevirtual 283, 3), (101, .iconst 1, 1)] : List (Nat × Instr × Nat)), decode cX11_isSpare e.1 = .ok e.2 := wn_all _ 84 (by decide +kernel)
theorem dX11_isSpare_84 : decode cX11_isSpare 84 = .ok (.baload, 1) := wn_at gdX11_isSpare_84 0 rfl
theorem dX11_isSpare_85 : decode cX11_isSpare 85 = .ok (.ifCond .ne 6, 3) := wn_at gdX11_isSpare_84 1 rfl
theorem dX11_isSpare_88 : decode cX11_isSpare 88 = .ok (.goto 27, 3) := wn_at gdX11_isSpare_84 2 rfl
theorem dX11_isSpare_91 : decode cX11_isSpare 91 = .ok (.aload_n 0, 1) := wn_at gdX11_isSpare_84 3 rfl
theorem dX11_isSpare_92 : decode cX11_isSpare 92 = .ok (.getfield 63, 3) := wn_at gdX11_isSpare_84 4 rfl
theorem dX11_isSpare_95 : decode cX11_isSpare 95 = .ok (.aload_n 0, 1) := wn_at gdX11_isSpare_84 5 rfl
theorem dX11_isSpare_96 : decode cX11_isSpare 96 = .ok (.iload_n 3, 1) := wn_at gdX11_isSpare_84 6 rfl
theorem dX11_isSpare_97 : decode cX11_isSpare 97 = .ok (.iconst 0, 1) := wn_at gdX11_isSpare_84 7 rfl
theorem dX11_isSpare_98 : decode cX11_isSpare 98 = .ok (.invokevirtual 283, 3) := wn_at gdX11_isSpare_84 8 rfl
theorem dX11_isSpare_101 : decode cX11_isSpare 101 = .ok (.iconst 1, 1) := wn_at gdX11_isSpare_84 9 rfl
theorem gdX11_isSpare_102 : ∀ e ∈ ([(102, .bastore, 1), (103, .aload_n 0, 1), (104, .getfield 63, 3), (107, .aload_n 0, 1), (108, .iload_n 3, 1), (109, .iconst 1, 1), (110, .invokevirtual 283, 3), (113, .iconst 1, 1), (114, .bastore, 1), (115, .iinc 3 1, 3)] : List (Nat × Instr × Nat)), decode cX11_isSpare e.1 = .ok e.2 := wn_all _ 102 (by decide +kernel)
theorem dX11_isSpare_102 : decode cX11_isSpare 102 = .ok (.bastore, 1) := wn_at gdX11_isSpare_102 0 rfl
theorem dX11_isSpare_103 : decode cX11_isSpare 103 = .ok (.aload_n 0, 1) := wn_at gdX11_isSpare_102 1 rfl
theorem dX11_isSpare_104 : decode cX11_isSpare 104 = .ok (.getfield 63, 3) := wn_at gdX11_isSpare_102 2 rfl
theorem dX11_isSpare_107 : decode cX11_isSpare 107 = .ok (.aload_n 0, 1) := wn_at gdX11_isSpare_102 3 rfl
theorem dX11_isSpare_108 : decode cX11_isSpare 108 = .ok (.iload_n 3, 1) := wn_at gdX11_isSpare_102 4 rfl
theorem dX11_isSpare_109 : decode cX11_isSpare 109 = .ok (.iconst 1, 1) := wn_at gdX11_isSpare_102 5 rfl
theorem dX11_isSpare_110 : decode cX11_isSpare 110 = .ok (.invokevirtual 283, 3) := wn_at gdX11_isSpare_102 6 rfl
theorem dX11_isSpare_113 : decode cX11_isSpare 113 = .ok (.iconst 1, 1) := wn_at gdX11_isSpare_102 7 rfl
theorem dX11_isSpare_114 : decode cX11_isSpare 114 = .ok (.bastore, 1) := wn_at gdX11_isSpare_102 8 rfl
theorem dX11_isSpare_115 : decode cX11_isSpare 115 = .ok (.iinc 3 1, 3) := wn_at gdX11_isSpare_102 9 rfl
theorem gdX11_isSpare_118 : ∀ e ∈ ([(118, .goto (-73), 3), (121, .iinc 2 1, 3), (124, .goto (-87), 3), (127, .aload_n 0, 1), (128, .getfield 63, 3), (131, .aload_n 0, 1), (132, .iload_n 1, 1), (133, .iconst 1, 1), (134, .invokevirtual 283, 3), (137, .baload, 1)] : List (Nat × Instr × Nat)), decode cX11_isSpare e.1 = .ok e.2 := wn_all _ 118 (by decide +kernel)
theorem dX11_isSpare_118 : decode cX11_isSpare 118 = .ok (.goto (-73), 3) := wn_at gdX11_isSpare_118 0 rfl
theorem dX11_isSpare_121 : decode cX11_isSpare 121 = .ok (.iinc 2 1, 3) := wn_at gdX11_isSpare_118 1 rfl
theorem dX11_isSpare_124 : decode cX11_isSpare 124 = .ok (.goto (-87), 3) := wn_at gdX11_isSpare_118 2 rfl
theorem dX11_isSpare_127 : decode cX11_isSpare 127 = .ok (.aload_n 0, 1) := wn_at gdX11_isSpare_118 3 rfl
theorem dX11_isSpare_128 : decode cX11_isSpare 128 = .ok (.getfield 63, 3) := wn_at gdX11_isSpare_118 4 rfl
theorem dX11_isSpare_131 : decode cX11_isSpare 131 = .ok (.aload_n 0, 1) := wn_at gdX11_isSpare_118 5 rfl
theorem dX11_isSpare_132 : decode cX11_isSpare 132 = .ok (.iload_n 1, 1) := wn_at gdX11_isSpare_118 6 rfl
theorem dX11_isSpare_133 : decode cX11_isSpare 133 = .ok (.iconst 1, 1) := wn_at gdX11_isSpare_118 7 rfl
theorem dX11_isSpare_134 : decode cX11_isSpare 134 = .ok (.invokevirtual 283, 3) := wn_at gdX11_isSpare_118 8 rfl
theorem dX11_isSpare_137 : decode cX11_isSpare 137 = .ok (.baload, 1) := wn_at gdX11_isSpare_118 9 rfl
theorem gdX11_isSpare_138 : ∀ e ∈ ([(138, .ireturn, 1)] : List (Nat × Instr × Nat)), decode cX11_isSpare e.1 = .ok e.2 := wn_all _ 138 (by decide +kernel)
theorem dX11_isSpare_138 : decode cX11_isSpare 138 = .ok (.ireturn, 1) := wn_at gdX11_isSpare_138 0 rfl
theorem gdX11_needed_0 : ∀ e ∈ ([(0, .iconst 0, 1), (1, .istore_n 1, 1), (2, .iconst 0, 1), (3, .istore_n 2, 1), (4, .iload_n 2, 1), (5, .aload_n 0, 1), (6, .getfield 45, 3), (9, .iconst 1, 1), (10, .iaload, 1), (11, .if_icmp .ge 27, 3)] : List (Nat × Instr × Nat)), decode cX11_needed e.1 = .ok e.2 := wn_all _ 0 (by decide +kernel)
theorem dX11_needed_0 : decode cX11_needed 0 = .ok (.iconst 0, 1) := wn_at gdX11_needed_0 0 rfl
theorem dX11_needed_1 : decode cX11_needed 1 = .ok (.istore_n 1, 1) := wn_at gdX11_needed_0 1 rfl
theorem dX11_needed_2 : decode cX11_needed 2 = .ok (.iconst 0, 1) := wn_at gdX11_needed_0 2 rfl
theorem dX11_needed_3 : decode cX11_needed 3 = .ok (.istore_n 2, 1) := wn_at gdX11_needed_0 3 rfl
theorem dX11_needed_4 : decode cX11_needed 4 = .ok (.iload_n 2, 1) := wn_at gdX11_needed_0 4 rfl
theorem dX11_needed_5 : decode cX11_needed 5 = .ok (.aload_n 0, 1) := wn_at gdX11_needed_0 5 rfl
theorem dX11_needed_6 : decode cX11_needed 6 = .ok (.getfield 45, 3) := wn_at gdX11_needed_0 6 rfl
theorem dX11_needed_9 : decode cX11_needed 9 = .ok (.iconst 1, 1) := wn_at gdX11_needed_0 7 rfl
theorem dX11_needed_10 : decode cX11_needed 10 = .ok (.iaload, 1) := wn_at gdX11_needed_0 8 rfl
theorem dX11_needed_11 : decode cX11_needed 11 = .ok (.if_icmp .ge 27, 3) := wn_at gdX11_needed_0 9 rfl
theorem gdX11_needed_14 : ∀ e ∈ ([(14, .iload_n 1, 1), (15, .aload_n 0, 1), (16, .iload_n 2, 1), (17, .invokevirtual 390, 3), (20, .ifCond .eq 7, 3), (23, .iconst 0, 1), (24, .goto 6, 3), (27, .iconst 1, 1), (28, .iload_n 2, 1), (29, .ishl, 1)] : List (Nat × Instr × Nat)), decode cX11_needed e.1 = .ok e.2 := wn_all _ 14 (by decide +kernel)
theorem dX11_needed_14 : decode cX11_needed 14 = .ok (.iload_n 1, 1) := wn_at gdX11_needed_14 0 rfl
theorem dX11_needed_15 : decode cX11_needed 15 = .ok (.aload_n 0, 1) := wn_at gdX11_needed_14 1 rfl
theorem dX11_needed_16 : decode cX11_needed 16 = .ok (.iload_n 2, 1) := wn_at gdX11_needed_14 2 rfl
theorem dX11_needed_17 : decode cX11_needed 17 = .ok (.invokevirtual 390, 3) := wn_at gdX11_needed_14 3 rfl
theorem dX11_needed_20 : decode cX11_needed 20 = .ok (.ifCond .eq 7, 3) := wn_at gdX11_needed_14 4 rfl
theorem dX11_needed_23 : decode cX11_needed 23 = .ok (.iconst 0, 1) := wn_at gdX11_needed_14 5 rfl
theorem dX11_needed_24 : decode cX11_needed 24 = .ok (.goto 6, 3) := wn_at gdX11_needed_14 6 rfl
theorem dX11_needed_27 : decode cX11_needed 27 = .ok (.iconst 1, 1) := wn_at gdX11_needed_14 7 rfl
theorem dX11_needed_28 : decode cX11_needed 28 = .ok (.iload_n 2, 1) := wn_at gdX11_needed_14 8 rfl
theorem dX11_needed_29 : decode cX11_needed 29 = .ok (.ishl, 1) := wn_at gdX11_needed_14 9 rfl
theorem gdX11_needed_30 : ∀ e ∈ ([(30, .ior, 1), (31, .istore_n 1, 1), (32, .iinc 2 1, 3), (35, .goto (-31), 3), (38, .iload_n 1, 1), (39, .ireturn, 1)] : List (Nat × Instr × Nat)), decode cX11_needed e.1 = .ok e.2 := wn_all _ 30 (by decide +kernel)
theorem dX11_needed_30 : decode cX11_needed 30 = .ok (.ior, 1) := wn_at gdX11_needed_30 0 rfl
theorem dX11_needed_31 : decode cX11_needed 31 = .ok (.istore_n 1, 1) := wn_at gdX11_needed_30 1 rfl
theorem dX11_needed_32 : decode cX11_needed 32 = .ok (.iinc 2 1, 3) := wn_at gdX11_needed_30 2 rfl
theorem dX11_needed_35 : decode cX11_needed 35 = .ok (.goto (-31), 3) := wn_at gdX11_needed_30 3 rfl
theorem dX11_needed_38 : decode cX11_needed 38 = .ok (.iload_n 1, 1) := wn_at gdX11_needed_30 4 rfl
theorem dX11_needed_39 : decode cX11_needed 39 = .ok (.ireturn, 1) := wn_at gdX11_needed_30 5 rfl
theorem gdX11_elder_0 : ∀ e ∈ ([(0, .iload_n 1, 1), (1, .iconst (-1), 1), (2, .if_icmp .eq 11, 3), (5, .aload_n 0, 1), (6, .iload_n 1, 1), (7, .invokevirtual 349, 3), (10, .ifCond .eq 36, 3), (13, .iload_n 2, 1), (14, .i2l, 1), (15, .lconst 0, 1)] : List (Nat × Instr × Nat)), decode cX11_elder e.1 = .ok e.2 := wn_all _ 0 (by decide +kernel)
theorem dX11_elder_0 : decode cX11_elder 0 = .ok (.iload_n 1, 1) := wn_at gdX11_elder_0 0 rfl
theorem dX11_elder_1 : decode cX11_elder 1 = .ok (.iconst (-1), 1) := wn_at gdX11_elder_0 1 rfl
theorem dX11_elder_2 : decode cX11_elder 2 = .ok (.if_icmp .eq 11, 3) := wn_at gdX11_elder_0 2 rfl
theorem dX11_elder_5 : decode cX11_elder 5 = .ok (.aload_n 0, 1) := wn_at gdX11_elder_0 3 rfl
theorem dX11_elder_6 : decode cX11_elder 6 = .ok (.iload_n 1, 1) := wn_at gdX11_elder_0 4 rfl
theorem dX11_elder_7 : decode cX11_elder 7 = .ok (.invokevirtual 349, 3) := wn_at gdX11_elder_0 5 rfl
theorem dX11_elder_10 : decode cX11_elder 10 = .ok (.ifCond .eq 36, 3) := wn_at gdX11_elder_0 6 rfl
theorem dX11_elder_13 : decode cX11_elder 13 = .ok (.iload_n 2, 1) := wn_at gdX11_elder_0 7 rfl
theorem dX11_elder_14 : decode cX11_elder 14 = .ok (.i2l, 1) := wn_at gdX11_elder_0 8 rfl
theorem dX11_elder_15 : decode cX11_elder 15 = .ok (.lconst 0, 1) := wn_at gdX11_elder_0 9 rfl
theorem gdX11_elder_16 : ∀ e ∈ ([(16, .ldc2_w 352, 3), (19, .invokestatic 131, 3), (22, .ifCond .eq 24, 3), (25, .iload_n 3, 1), (26, .i2l, 1), (27, .lconst 0, 1), (28, .ldc2_w 319, 3), (31, .invokestatic 131, 3), (34, .ifCond .eq 12, 3), (37, .aload_n 0, 1)] : List (Nat × Instr × Nat)), decode cX11_elder e.1 = .ok e.2 := wn_all _ 16 (by decide +kernel)
theorem dX11_elder_16 : decode cX11_elder 16 = .ok (.ldc2_w 352, 3) := wn_at gdX11_elder_16 0 rfl
theorem dX11_elder_19 : decode cX11_elder 19 = .ok (.invokestatic 131, 3) := wn_at gdX11_elder_16 1 rfl
theorem dX11_elder_22 : decode cX11_elder 22 = .ok (.ifCond .eq 24, 3) := wn_at gdX11_elder_16 2 rfl
theorem dX11_elder_25 : decode cX11_elder 25 = .ok (.iload_n 3, 1) := wn_at gdX11_elder_16 3 rfl
theorem dX11_elder_26 : decode cX11_elder 26 = .ok (.i2l, 1) := wn_at gdX11_elder_16 4 rfl
theorem dX11_elder_27 : decode cX11_elder 27 = .ok (.lconst 0, 1) := wn_at gdX11_elder_16 5 rfl
theorem dX11_elder_28 : decode cX11_elder 28 = .ok (.ldc2_w 319, 3) := wn_at gdX11_elder_16 6 rfl
theorem dX11_elder_31 : decode cX11_elder 31 = .ok (.invokestatic 131, 3) := wn_at gdX11_elder_16 7 rfl
theorem dX11_elder_34 : decode cX11_elder 34 = .ok (.ifCond .eq 12, 3) := wn_at gdX11_elder_16 8 rfl
theorem dX11_elder_37 : decode cX11_elder 37 = .ok (.aload_n 0, 1) := wn_at gdX11_elder_16 9 rfl
theorem gdX11_elder_38 : ∀ e ∈ ([(38, .getfield 45, 3), (41, .iconst 2, 1), (42, .iaload, 1), (43, .ifCond .ne 7, 3), (46, .ldc2_w 321, 3), (49, .lreturn, 1), (50, .aload_n 0, 1), (51, .invokevirtual 357, 3), (54, .iconst 0, 1), (55, .istore 4, 2)] : List (Nat × Instr × Nat)), decode cX11_elder e.1 = .ok e.2 := wn_all _ 38 (by decide +kernel)
theorem dX11_elder_38 : decode cX11_elder 38 = .ok (.getfield 45, 3) := wn_at gdX11_elder_38 0 rfl
theorem dX11_elder_41 : decode cX11_elder 41 = .ok (.iconst 2, 1) := wn_at gdX11_elder_38 1 rfl
theorem dX11_elder_42 : decode cX11_elder 42 = .ok (.iaload, 1) := wn_at gdX11_elder_38 2 rfl
theorem dX11_elder_43 : decode cX11_elder 43 = .ok (.ifCond .ne 7, 3) := wn_at gdX11_elder_38 3 rfl
theorem dX11_elder_46 : decode cX11_elder 46 = .ok (.ldc2_w 321, 3) := wn_at gdX11_elder_38 4 rfl
theorem dX11_elder_49 : decode cX11_elder 49 = .ok (.lreturn, 1) := wn_at gdX11_elder_38 5 rfl
theorem dX11_elder_50 : decode cX11_elder 50 = .ok (.aload_n 0, 1) := wn_at gdX11_elder_38 6 rfl
theorem dX11_elder_51 : decode cX11_elder 51 = .ok (.invokevirtual 357, 3) := wn_at gdX11_elder_38 7 rfl
theorem dX11_elder_54 : decode cX11_elder 54 = .ok (.iconst 0, 1) := wn_at gdX11_elder_38 8 rfl
theorem dX11_elder_55 : decode cX11_elder 55 = .ok (.istore 4, 2) := wn_at gdX11_elder_38 9 rfl
theorem gdX11_elder_57 : ∀ e ∈ ([(57, .iload 4, 2), (59, .iload_n 2, 1), (60, .if_icmp .ge 14, 3), (63, .aload_n 0, 1), (64, .iload_n 1, 1), (65, .invokevirtual 354, 3), (68, .iinc 4 1, 3), (71, .goto (-14), 3), (74, .iconst 0, 1), (75, .istore 4, 2)] : List (Nat × Instr × Nat)), decode cX11_elder e.1 = .ok e.2 := wn_all _ 57 (by decide +kernel)
theorem dX11_elder_57 : decode cX11_elder 57 = .ok (.iload 4, 2) := wn_at gdX11_elder_57 0 rfl
theorem dX11_elder_59 : decode cX11_elder 59 = .ok (.iload_n 2, 1) := wn_at gdX11_elder_57 1 rfl
theorem dX11_elder_60 : decode cX11_elder 60 = .ok (.if_icmp .ge 14, 3) := wn_at gdX11_elder_57 2 rfl
theorem dX11_elder_63 : decode cX11_elder 63 = .ok (.aload_n 0, 1) := wn_at gdX11_elder_57 3 rfl
theorem dX11_elder_64 : decode cX11_elder 64 = .ok (.iload_n 1, 1) := wn_at gdX11_elder_57 4 rfl
theorem dX11_elder_65 : decode cX11_elder 65 = .ok (.invokevirtual 354, 3) := wn_at gdX11_elder_57 5 rfl
theorem dX11_elder_68 : decode cX11_elder 68 = .ok (.iinc 4 1, 3) := wn_at gdX11_elder_57 6 rfl
theorem dX11_elder_71 : decode cX11_elder 71 = .ok (.goto (-14), 3) := wn_at gdX11_elder_57 7 rfl
theorem dX11_elder_74 : decode cX11_elder 74 = .ok (.iconst 0, 1) := wn_at gdX11_elder_57 8 rfl
theorem dX11_elder_75 : decode cX11_elder 75 = .ok (.istore 4, 2) := wn_at gdX11_elder_57 9 rfl
theorem gdX11_elder_77 : ∀ e ∈ ([(77, .iconst 0, 1), (78, .istore 5, 2), (80, .iconst 1, 1), (81, .istore 6, 2), (83, .iload 6, 2), (85, .aload_n 0, 1), (86, .getfield 45, 3), (89, .iconst 2, 1), (90, .iaload, 1), (91, .if_icmp .ge 63, 3)] : List (Nat × Instr × Nat)), decode cX11_elder e.1 = .ok e.2 := wn_all _ 77 (by decide +kernel)
theorem dX11_elder_77 : decode cX11_elder 77 = .ok (.iconst 0, 1) := wn_at gdX11_elder_77 0 rfl
theorem dX11_elder_78 : decode cX11_elder 78 = .ok (.istore 5, 2) := wn_at gdX11_elder_77 1 rfl
theorem dX11_elder_80 : decode cX11_elder 80 = .ok (.iconst 1, 1) := wn_at gdX11_elder_77 2 rfl
theorem dX11_elder_81 : decode cX11_elder 81 = .ok (.istore 6, 2) := wn_at gdX11_elder_77 3 rfl
theorem dX11_elder_83 : decode cX11_elder 83 = .ok (.iload 6, 2) := wn_at gdX11_elder_77 4 rfl
theorem dX11_elder_85 : decode cX11_elder 85 = .ok (.aload_n 0, 1) := wn_at gdX11_elder_77 5 rfl
theorem dX11_elder_86 : decode cX11_elder 86 = .ok (.getfield 45, 3) := wn_at gdX11_elder_77 6 rfl
theorem dX11_elder_89 : decode cX11_elder 89 = .ok (.iconst 2, 1) := wn_at gdX11_elder_77 7 rfl
theorem dX11_elder_90 : decode cX11_elder 90 = .ok (.iaload, 1) := wn_at gdX11_elder_77 8 rfl
theorem dX11_elder_91 : decode cX11_elder 91 = .ok (.if_icmp .ge 63, 3) := wn_at gdX11_elder_77 9 rfl
theorem gdX11_elder_94 : ∀ e ∈ ([(94, .aload_n 0, 1), (95, .getfield 48, 3), (98, .iload 6, 2), (100, .laload, 1), (101, .aload_n 0, 1), (102, .getfield 48, 3), (105, .iload 4, 2), (107, .laload, 1), (108, .lcmp, 1), (109, .ifCond .le 8, 3)] : List (Nat × Instr × Nat)), decode cX11_elder e.1 = .ok e.2 := wn_all _ 94 (by decide +kernel)
theorem dX11_elder_94 : decode cX11_elder 94 = .ok (.aload_n 0, 1) := wn_at gdX11_elder_94 0 rfl
theorem dX11_elder_95 : decode cX11_elder 95 = .ok (.getfield 48, 3) := wn_at gdX11_elder_94 1 rfl
theorem dX11_elder_98 : decode cX11_elder 98 = .ok (.iload 6, 2) := wn_at gdX11_elder_94 2 rfl
theorem dX11_elder_100 : decode cX11_elder 100 = .ok (.laload, 1) := wn_at gdX11_elder_94 3 rfl
theorem dX11_elder_101 : decode cX11_elder 101 = .ok (.aload_n 0, 1) := wn_at gdX11_elder_94 4 rfl
theorem dX11_elder_102 : decode cX11_elder 102 = .ok (.getfield 48, 3) := wn_at gdX11_elder_94 5 rfl
theorem dX11_elder_105 : decode cX11_elder 105 = .ok (.iload 4, 2) := wn_at gdX11_elder_94 6 rfl
theorem dX11_elder_107 : decode cX11_elder 107 = .ok (.laload, 1) := wn_at gdX11_elder_94 7 rfl
theorem dX11_elder_108 : decode cX11_elder 108 = .ok (.lcmp, 1) := wn_at gdX11_elder_94 8 rfl
theorem dX11_elder_109 : decode cX11_elder 109 = .ok (.ifCond .le 8, 3) := wn_at gdX11_elder_94 9 rfl
theorem gdX11_elder_112 : ∀ e ∈ ([(112, .iload 6, 2), (114, .goto 5, 3), (117, .iload 4, 2), (119, .istore 4, 2), (121, .aload_n 0, 1), (122, .getfield 48, 3), (125, .iload 6, 2), (127, .laload, 1), (128, .aload_n 0, 1), (129, .getfield 48, 3)] : List (Nat × Instr × Nat)), decode cX11_elder e.1 = .ok e.2 := wn_all _ 112 (by decide +kernel)
theorem dX11_elder_112 : decode cX11_elder 112 = .ok (.iload 6, 2) := wn_at gdX11_elder_112 0 rfl
theorem dX11_elder_114 : decode cX11_elder 114 = .ok (.goto 5, 3) := wn_at gdX11_elder_112 1 rfl
theorem dX11_elder_117 : decode cX11_elder 117 = .ok (.iload 4, 2) := wn_at gdX11_elder_112 2 rfl
theorem dX11_elder_119 : decode cX11_elder 119 = .ok (.istore 4, 2) := wn_at gdX11_elder_112 3 rfl
theorem dX11_elder_121 : decode cX11_elder 121 = .ok (.aload_n 0, 1) := wn_at gdX11_elder_112 4 rfl
theorem dX11_elder_122 : decode cX11_elder 122 = .ok (.getfield 48, 3) := wn_at gdX11_elder_112 5 rfl
theorem dX11_elder_125 : decode cX11_elder 125 = .ok (.iload 6, 2) := wn_at gdX11_elder_112 6 rfl
theorem dX11_elder_127 : decode cX11_elder 127 = .ok (.laload, 1) := wn_at gdX11_elder_112 7 rfl
theorem dX11_elder_128 : decode cX11_elder 128 = .ok (.aload_n 0, 1) := wn_at gdX11_elder_112 8 rfl
theorem dX11_elder_129 : decode cX11_elder 129 = .ok (.getfield 48, 3) := wn_at gdX11_elder_112 9 rfl
theorem gdX11_elder_132 : ∀ e ∈ ([(132, .iload 5, 2), (134, .laload, 1), (135, .lcmp, 1), (136, .ifCond .ge 8, 3), (139, .iload 6, 2), (141, .goto 5, 3), (144, .iload 5, 2), (146, .istore 5, 2), (148, .iinc 6 1, 3), (151, .goto (-68), 3)] : List (Nat × Instr × Nat)), decode cX11_elder e.1 = .ok e.2 := wn_all _ 132 (by decide +kernel)
theorem dX11_elder_132 : decode cX11_elder 132 = .ok (.iload 5, 2) := wn_at gdX11_elder_132 0 rfl
theorem dX11_elder_134 : decode cX11_elder 134 = .ok (.laload, 1) := wn_at gdX11_elder_132 1 rfl
theorem dX11_elder_135 : decode cX11_elder 135 = .ok (.lcmp, 1) := wn_at gdX11_elder_132 2 rfl
theorem dX11_elder_136 : decode cX11_elder 136 = .ok (.ifCond .ge 8, 3) := wn_at gdX11_elder_132 3 rfl
theorem dX11_elder_139 : decode cX11_elder 139 = .ok (.iload 6, 2) := wn_at gdX11_elder_132 4 rfl
theorem dX11_elder_141 : decode cX11_elder 141 = .ok (.goto 5, 3) := wn_at gdX11_elder_132 5 rfl
theorem dX11_elder_144 : decode cX11_elder 144 = .ok (.iload 5, 2) := wn_at gdX11_elder_132 6 rfl
theorem dX11_elder_146 : decode cX11_elder 146 = .ok (.istore 5, 2) := wn_at gdX11_elder_132 7 rfl
theorem dX11_elder_148 : decode cX11_elder 148 = .ok (.iinc 6 1, 3) := wn_at gdX11_elder_132 8 rfl
theorem dX11_elder_151 : decode cX11_elder 151 = .ok (.goto (-68), 3) := wn_at gdX11_elder_132 9 rfl
theorem gdX11_elder_154 : ∀ e ∈ ([(154, .iload_n 3, 1), (155, .ifCond .ne 9, 3), (158, .iload 4, 2), (160, .i2l, 1), (161, .goto 38, 3), (164, .iload_n 3, 1), (165, .iconst 1, 1), (166, .if_icmp .ne 9, 3), (169, .iload 5, 2), (171, .i2l, 1)] : List (Nat × Instr × Nat)), decode cX11_elder e.1 = .ok e.2 := wn_all _ 154 (by decide +kernel)
theorem dX11_elder_154 : decode cX11_elder 154 = .ok (.iload_n 3, 1) := wn_at gdX11_elder_154 0 rfl
theorem dX11_elder_155 : decode cX11_elder 155 = .ok (.ifCond .ne 9, 3) := wn_at gdX11_elder_154 1 rfl
theorem dX11_elder_158 : decode cX11_elder 158 = .ok (.iload 4, 2) := wn_at gdX11_elder_154 2 rfl
theorem dX11_elder_160 : decode cX11_elder 160 = .ok (.i2l, 1) := wn_at gdX11_elder_154 3 rfl
theorem dX11_elder_161 : decode cX11_elder 161 = .ok (.goto 38, 3) := wn_at gdX11_elder_154 4 rfl
theorem dX11_elder_164 : decode cX11_elder 164 = .ok (.iload_n 3, 1) := wn_at gdX11_elder_154 5 rfl
theorem dX11_elder_165 : decode cX11_elder 165 = .ok (.iconst 1, 1) := wn_at gdX11_elder_154 6 rfl
theorem dX11_elder_166 : decode cX11_elder 166 = .ok (.if_icmp .ne 9, 3) := wn_at gdX11_elder_154 7 rfl
theorem dX11_elder_169 : decode cX11_elder 169 = .ok (.iload 5, 2) := wn_at gdX11_elder_154 8 rfl
theorem dX11_elder_171 : decode cX11_elder 171 = .ok (.i2l, 1) := wn_at gdX11_elder_154 9 rfl
theorem gdX11_elder_172 : ∀ e ∈ ([(172, .goto 27, 3), (175, .aload_n 0, 1), (176, .getfield 48, 3), (179, .iload 4, 2), (181, .laload, 1), (182, .aload_n 0, 1), (183, .getfield 48, 3), (186, .iload 5, 2), (188, .laload, 1), (189, .lsub, 1)] : List (Nat × Instr × Nat)), decode cX11_elder e.1 = .ok e.2 := wn_all _ 172 (by decide +kernel)
theorem dX11_elder_172 : decode cX11_elder 172 = .ok (.goto 27, 3) := wn_at gdX11_elder_172 0 rfl
theorem dX11_elder_175 : decode cX11_elder 175 = .ok (.aload_n 0, 1) := wn_at gdX11_elder_172 1 rfl
theorem dX11_elder_176 : decode cX11_elder 176 = .ok (.getfield 48, 3) := wn_at gdX11_elder_172 2 rfl
theorem dX11_elder_179 : decode cX11_elder 179 = .ok (.iload 4, 2) := wn_at gdX11_elder_172 3 rfl
theorem dX11_elder_181 : decode cX11_elder 181 = .ok (.laload, 1) := wn_at gdX11_elder_172 4 rfl
theorem dX11_elder_182 : decode cX11_elder 182 = .ok (.aload_n 0, 1) := wn_at gdX11_elder_172 5 rfl
theorem dX11_elder_183 : decode cX11_elder 183 = .ok (.getfield 48, 3) := wn_at gdX11_elder_172 6 rfl
theorem dX11_elder_186 : decode cX11_elder 186 = .ok (.iload 5, 2) := wn_at gdX11_elder_172 7 rfl
theorem dX11_elder_188 : decode cX11_elder 188 = .ok (.laload, 1) := wn_at gdX11_elder_172 8 rfl
theorem dX11_elder_189 : decode cX11_elder 189 = .ok (.lsub, 1) := wn_at gdX11_elder_172 9 rfl
theorem gdX11_elder_190 : ∀ e ∈ ([(190, .ldc2_w 281, 3), (193, .iload_n 3, 1), (194, .iconst 2, 1), (195, .isub, 1), (196, .invokestatic 307, 3), (199, .lstore 6, 2), (201, .aload_n 0, 1), (202, .invokevirtual 362, 3), (205, .lload 6, 2), (207, .lreturn, 1)] : List (Nat × Instr × Nat)), decode cX11_elder e.1 = .ok e.2 := wn_all _ 190 (by decide +kernel)
theorem dX11_elder_190 : decode cX11_elder 190 = .ok (.ldc2_w 281, 3) := wn_at gdX11_elder_190 0 rfl
theorem dX11_elder_193 : decode cX11_elder 193 = .ok (.iload_n 3, 1) := wn_at gdX11_elder_190 1 rfl
theorem dX11_elder_194 : decode cX11_elder 194 = .ok (.iconst 2, 1) := wn_at gdX11_elder_190 2 rfl
theorem dX11_elder_195 : decode cX11_elder 195 = .ok (.isub, 1) := wn_at gdX11_elder_190 3 rfl
theorem dX11_elder_196 : decode cX11_elder 196 = .ok (.invokestatic 307, 3) := wn_at gdX11_elder_190 4 rfl
theorem dX11_elder_199 : decode cX11_elder 199 = .ok (.lstore 6, 2) := wn_at gdX11_elder_190 5 rfl
theorem dX11_elder_201 : decode cX11_elder 201 = .ok (.aload_n 0, 1) := wn_at gdX11_elder_190 6 rfl
theorem dX11_elder_202 : decode cX11_elder 202 = .ok (.invokevirtual 362, 3) := wn_at gdX11_elder_190 7 rfl
theorem dX11_elder_205 : decode cX11_elder 205 = .ok (.lload 6, 2) := wn_at gdX11_elder_190 8 rfl
theorem dX11_elder_207 : decode cX11_elder 207 = .ok (.lreturn, 1) := wn_at gdX11_elder_190 9 rfl
theorem gdX11_comes_0 : ∀ e ∈ ([(0, .iconst 0, 1), (1, .istore 6, 2), (3, .iload 6, 2), (5, .aload_n 0, 1), (6, .getfield 393, 3), (9, .if_icmp .ge 78, 3), (12, .aload_n 0, 1), (13, .getfield 67, 3), (16, .iload 6, 2), (18, .iaload, 1)] : List (Nat × Instr × Nat)), decode cX11_comes e.1 = .ok e.2 := wn_all _ 0 (by decide +kernel)
theorem dX11_comes_0 : decode cX11_comes 0 = .ok (.iconst 0, 1) := wn_at gdX11_comes_0 0 rfl
theorem dX11_comes_1 : decode cX11_comes 1 = .ok (.istore 6, 2) := wn_at gdX11_comes_0 1 rfl
theorem dX11_comes_3 : decode cX11_comes 3 = .ok (.iload 6, 2) := wn_at gdX11_comes_0 2 rfl
theorem dX11_comes_5 : decode cX11_comes 5 = .ok (.aload_n 0, 1) := wn_at gdX11_comes_0 3 rfl
theorem dX11_comes_6 : decode cX11_comes 6 = .ok (.getfield 393, 3) := wn_at gdX11_comes_0 4 rfl
theorem dX11_comes_9 : decode cX11_comes 9 = .ok (.if_icmp .ge 78, 3) := wn_at gdX11_comes_0 5 rfl
theorem dX11_comes_12 : decode cX11_comes 12 = .ok (.aload_n 0, 1) := wn_at gdX11_comes_0 6 rfl
theorem dX11_comes_13 : decode cX11_comes 13 = .ok (.getfield 67, 3) := wn_at gdX11_comes_0 7 rfl
theorem dX11_comes_16 : decode cX11_comes 16 = .ok (.iload 6, 2) := wn_at gdX11_comes_0 8 rfl
theorem dX11_comes_18 : decode cX11_comes 18 = .ok (.iaload, 1) := wn_at gdX11_comes_0 9 rfl
theorem gdX11_comes_19 : ∀ e ∈ ([(19, .iload_n 1, 1), (20, .if_icmp .ne 61, 3), (23, .aload_n 0, 1), (24, .getfield 70, 3), (27, .iload 6, 2), (29, .iaload, 1), (30, .iload_n 2, 1), (31, .if_icmp .ne 50, 3), (34, .aload_n 0, 1), (35, .getfield 73, 3)] : List (Nat × Instr × Nat)), decode cX11_comes e.1 = .ok e.2 := wn_all _ 19 (by decide +kernel)
theorem dX11_comes_19 : decode cX11_comes 19 = .ok (.iload_n 1, 1) := wn_at gdX11_comes_19 0 rfl
theorem dX11_comes_20 : decode cX11_comes 20 = .ok (.if_icmp .ne 61, 3) := wn_at gdX11_comes_19 1 rfl
theorem dX11_comes_23 : decode cX11_comes 23 = .ok (.aload_n 0, 1) := wn_at gdX11_comes_19 2 rfl
theorem dX11_comes_24 : decode cX11_comes 24 = .ok (.getfield 70, 3) := wn_at gdX11_comes_19 3 rfl
theorem dX11_comes_27 : decode cX11_comes 27 = .ok (.iload 6, 2) := wn_at gdX11_comes_19 4 rfl
theorem dX11_comes_29 : decode cX11_comes 29 = .ok (.iaload, 1) := wn_at gdX11_comes_19 5 rfl
theorem dX11_comes_30 : decode cX11_comes 30 = .ok (.iload_n 2, 1) := wn_at gdX11_comes_19 6 rfl
theorem dX11_comes_31 : decode cX11_comes 31 = .ok (.if_icmp .ne 50, 3) := wn_at gdX11_comes_19 7 rfl
theorem dX11_comes_34 : decode cX11_comes 34 = .ok (.aload_n 0, 1) := wn_at gdX11_comes_19 8 rfl
theorem dX11_comes_35 : decode cX11_comes 35 = .ok (.getfield 73, 3) := wn_at gdX11_comes_19 9 rfl
theorem gdX11_comes_38 : ∀ e ∈ ([(38, .iload 6, 2), (40, .laload, 1), (41, .lload_n 3, 1), (42, .lcmp, 1), (43, .ifCond .eq 6, 3), (46, .goto 35, 3), (49, .aload_n 0, 1), (50, .getfield 76, 3), (53, .iload 6, 2), (55, .iload 5, 2)] : List (Nat × Instr × Nat)), decode cX11_comes e.1 = .ok e.2 := wn_all _ 38 (by decide +kernel)
theorem dX11_comes_38 : decode cX11_comes 38 = .ok (.iload 6, 2) := wn_at gdX11_comes_38 0 rfl
theorem dX11_comes_40 : decode cX11_comes 40 = .ok (.laload, 1) := wn_at gdX11_comes_38 1 rfl
theorem dX11_comes_41 : decode cX11_comes 41 = .ok (.lload_n 3, 1) := wn_at gdX11_comes_38 2 rfl
theorem dX11_comes_42 : decode cX11_comes 42 = .ok (.lcmp, 1) := wn_at gdX11_comes_38 3 rfl
theorem dX11_comes_43 : decode cX11_comes 43 = .ok (.ifCond .eq 6, 3) := wn_at gdX11_comes_38 4 rfl
theorem dX11_comes_46 : decode cX11_comes 46 = .ok (.goto 35, 3) := wn_at gdX11_comes_38 5 rfl
theorem dX11_comes_49 : decode cX11_comes 49 = .ok (.aload_n 0, 1) := wn_at gdX11_comes_38 6 rfl
theorem dX11_comes_50 : decode cX11_comes 50 = .ok (.getfield 76, 3) := wn_at gdX11_comes_38 7 rfl
theorem dX11_comes_53 : decode cX11_comes 53 = .ok (.iload 6, 2) := wn_at gdX11_comes_38 8 rfl
theorem dX11_comes_55 : decode cX11_comes 55 = .ok (.iload 5, 2) := wn_at gdX11_comes_38 9 rfl
theorem gdX11_comes_57 : ∀ e ∈ ([(57, .aload_n 0, 1), (58, .getfield 76, 3), (61, .iload 6, 2), (63, .iaload, 1), (64, .if_icmp .ge 8, 3), (67, .iload 5, 2), (69, .goto 10, 3), (72, .aload_n 0, 1), (73, .getfield 76, 3), (76, .iload 6, 2)] : List (Nat × Instr × Nat)), decode cX11_comes e.1 = .ok e.2 := wn_all _ 57 (by decide +kernel)
theorem dX11_comes_57 : decode cX11_comes 57 = .ok (.aload_n 0, 1) := wn_at gdX11_comes_57 0 rfl
theorem dX11_comes_58 : decode cX11_comes 58 = .ok (.getfield 76, 3) := wn_at gdX11_comes_57 1 rfl
theorem dX11_comes_61 : decode cX11_comes 61 = .ok (.iload 6, 2) := wn_at gdX11_comes_57 2 rfl
theorem dX11_comes_63 : decode cX11_comes 63 = .ok (.iaload, 1) := wn_at gdX11_comes_57 3 rfl
theorem dX11_comes_64 : decode cX11_comes 64 = .ok (.if_icmp .ge 8, 3) := wn_at gdX11_comes_57 4 rfl
theorem dX11_comes_67 : decode cX11_comes 67 = .ok (.iload 5, 2) := wn_at gdX11_comes_57 5 rfl
theorem dX11_comes_69 : decode cX11_comes 69 = .ok (.goto 10, 3) := wn_at gdX11_comes_57 6 rfl
theorem dX11_comes_72 : decode cX11_comes 72 = .ok (.aload_n 0, 1) := wn_at gdX11_comes_57 7 rfl
theorem dX11_comes_73 : decode cX11_comes 73 = .ok (.getfield 76, 3) := wn_at gdX11_comes_57 8 rfl
theorem dX11_comes_76 : decode cX11_comes 76 = .ok (.iload 6, 2) := wn_at gdX11_comes_57 9 rfl
theorem gdX11_comes_78 : ∀ e ∈ ([(78, .iaload, 1), (79, .iastore, 1), (80, .return_, 1), (81, .iinc 6 1, 3), (84, .goto (-81), 3), (87, .aload_n 0, 1), (88, .getfield 393, 3), (91, .sipush 4000, 3), (94, .if_icmp .le 4, 3), (97, .return_, 1)] : List (Nat × Instr × Nat)), decode cX11_comes e.1 = .ok e.2 := wn_all _ 78 (by decide +kernel)
theorem dX11_comes_78 : decode cX11_comes 78 = .ok (.iaload, 1) := wn_at gdX11_comes_78 0 rfl
theorem dX11_comes_79 : decode cX11_comes 79 = .ok (.iastore, 1) := wn_at gdX11_comes_78 1 rfl
theorem dX11_comes_80 : decode cX11_comes 80 = .ok (.return_, 1) := wn_at gdX11_comes_78 2 rfl
theorem dX11_comes_81 : decode cX11_comes 81 = .ok (.iinc 6 1, 3) := wn_at gdX11_comes_78 3 rfl
theorem dX11_comes_84 : decode cX11_comes 84 = .ok (.goto (-81), 3) := wn_at gdX11_comes_78 4 rfl
theorem dX11_comes_87 : decode cX11_comes 87 = .ok (.aload_n 0, 1) := wn_at gdX11_comes_78 5 rfl
theorem dX11_comes_88 : decode cX11_comes 88 = .ok (.getfield 393, 3) := wn_at gdX11_comes_78 6 rfl
theorem dX11_comes_91 : decode cX11_comes 91 = .ok (.sipush 4000, 3) := wn_at gdX11_comes_78 7 rfl
theorem dX11_comes_94 : decode cX11_comes 94 = .ok (.if_icmp .le 4, 3) := wn_at gdX11_comes_78 8 rfl
theorem dX11_comes_97 : decode cX11_comes 97 = .ok (.return_, 1) := wn_at gdX11_comes_78 9 rfl
theorem gdX11_comes_98 : ∀ e ∈ ([(98, .aload_n 0, 1), (99, .getfield 67, 3), (102, .aload_n 0, 1), (103, .getfield 393, 3), (106, .iload_n 1, 1), (107, .iastore, 1), (108, .aload_n 0, 1), (109, .getfield 70, 3), (112, .aload_n 0, 1), (113, .getfield 393, 3)] : List (Nat × Instr × Nat)), decode cX11_comes e.1 = .ok e.2 := wn_all _ 98 (by decide +kernel)
theorem dX11_comes_98 : decode cX11_comes 98 = .ok (.aload_n 0, 1) := wn_at gdX11_comes_98 0 rfl
theorem dX11_comes_99 : decode cX11_comes 99 = .ok (.getfield 67, 3) := wn_at gdX11_comes_98 1 rfl
theorem dX11_comes_102 : decode cX11_comes 102 = .ok (.aload_n 0, 1) := wn_at gdX11_comes_98 2 rfl
theorem dX11_comes_103 : decode cX11_comes 103 = .ok (.getfield 393, 3) := wn_at gdX11_comes_98 3 rfl
theorem dX11_comes_106 : decode cX11_comes 106 = .ok (.iload_n 1, 1) := wn_at gdX11_comes_98 4 rfl
theorem dX11_comes_107 : decode cX11_comes 107 = .ok (.iastore, 1) := wn_at gdX11_comes_98 5 rfl
theorem dX11_comes_108 : decode cX11_comes 108 = .ok (.aload_n 0, 1) := wn_at gdX11_comes_98 6 rfl
theorem dX11_comes_109 : decode cX11_comes 109 = .ok (.getfield 70, 3) := wn_at gdX11_comes_98 7 rfl
theorem dX11_comes_112 : decode cX11_comes 112 = .ok (.aload_n 0, 1) := wn_at gdX11_comes_98 8 rfl
theorem dX11_comes_113 : decode cX11_comes 113 = .ok (.getfield 393, 3) := wn_at gdX11_comes_98 9 rfl
theorem gdX11_comes_116 : ∀ e ∈ ([(116, .iload_n 2, 1), (117, .iastore, 1), (118, .aload_n 0, 1), (119, .getfield 73, 3), (122, .aload_n 0, 1), (123, .getfield 393, 3), (126, .lload_n 3, 1), (127, .lastore, 1), (128, .aload_n 0, 1), (129, .getfield 76, 3)] : List (Nat × Instr × Nat)), decode cX11_comes e.1 = .ok e.2 := wn_all _ 116 (by decide +kernel)
theorem dX11_comes_116 : decode cX11_comes 116 = .ok (.iload_n 2, 1) := wn_at gdX11_comes_116 0 rfl
theorem dX11_comes_117 : decode cX11_comes 117 = .ok (.iastore, 1) := wn_at gdX11_comes_116 1 rfl
theorem dX11_comes_118 : decode cX11_comes 118 = .ok (.aload_n 0, 1) := wn_at gdX11_comes_116 2 rfl
theorem dX11_comes_119 : decode cX11_comes 119 = .ok (.getfield 73, 3) := wn_at gdX11_comes_116 3 rfl
theorem dX11_comes_122 : decode cX11_comes 122 = .ok (.aload_n 0, 1) := wn_at gdX11_comes_116 4 rfl
theorem dX11_comes_123 : decode cX11_comes 123 = .ok (.getfield 393, 3) := wn_at gdX11_comes_116 5 rfl
theorem dX11_comes_126 : decode cX11_comes 126 = .ok (.lload_n 3, 1) := wn_at gdX11_comes_116 6 rfl
theorem dX11_comes_127 : decode cX11_comes 127 = .ok (.lastore, 1) := wn_at gdX11_comes_116 7 rfl
theorem dX11_comes_128 : decode cX11_comes 128 = .ok (.aload_n 0, 1) := wn_at gdX11_comes_116 8 rfl
theorem dX11_comes_129 : decode cX11_comes 129 = .ok (.getfield 76, 3) := wn_at gdX11_comes_116 9 rfl
theorem gdX11_comes_132 : ∀ e ∈ ([(132, .aload_n 0, 1), (133, .getfield 393, 3), (136, .iload 5, 2), (138, .iastore, 1), (139, .aload_n 0, 1), (140, .dup, 1), (141, .getfield 393, 3), (144, .iconst 1, 1), (145, .iadd, 1), (146, .putfield 393, 3)] : List (Nat × Instr × Nat)), decode cX11_comes e.1 = .ok e.2 := wn_all _ 132 (by decide +kernel)
theorem dX11_comes_132 : decode cX11_comes 132 = .ok (.aload_n 0, 1) := wn_at gdX11_comes_132 0 rfl
theorem dX11_comes_133 : decode cX11_comes 133 = .ok (.getfield 393, 3) := wn_at gdX11_comes_132 1 rfl
theorem dX11_comes_136 : decode cX11_comes 136 = .ok (.iload 5, 2) := wn_at gdX11_comes_132 2 rfl
theorem dX11_comes_138 : decode cX11_comes 138 = .ok (.iastore, 1) := wn_at gdX11_comes_132 3 rfl
theorem dX11_comes_139 : decode cX11_comes 139 = .ok (.aload_n 0, 1) := wn_at gdX11_comes_132 4 rfl
theorem dX11_comes_140 : decode cX11_comes 140 = .ok (.dup, 1) := wn_at gdX11_comes_132 5 rfl
theorem dX11_comes_141 : decode cX11_comes 141 = .ok (.getfield 393, 3) := wn_at gdX11_comes_132 6 rfl
theorem dX11_comes_144 : decode cX11_comes 144 = .ok (.iconst 1, 1) := wn_at gdX11_comes_132 7 rfl
theorem dX11_comes_145 : decode cX11_comes 145 = .ok (.iadd, 1) := wn_at gdX11_comes_132 8 rfl
theorem dX11_comes_146 : decode cX11_comes 146 = .ok (.putfield 393, 3) := wn_at gdX11_comes_132 9 rfl
theorem gdX11_comes_149 : ∀ e ∈ ([(149, .return_, 1)] : List (Nat × Instr × Nat)), decode cX11_comes e.1 = .ok e.2 := wn_all _ 149 (by decide +kernel)
theorem dX11_comes_149 : decode cX11_comes 149 = .ok (.return_, 1) := wn_at gdX11_comes_149 0 rfl
theorem gdX11_goesOn_0 : ∀ e ∈ ([(0, .aload_n 0, 1), (1, .getfield 67, 3), (4, .iload_n 1, 1), (5, .iaload, 1), (6, .istore_n 3, 1), (7, .aload_n 0, 1), (8, .getfield 70, 3), (11, .iload_n 1, 1), (12, .iaload, 1), (13, .istore 4, 2)] : List (Nat × Instr × Nat)), decode cX11_goesOn e.1 = .ok e.2 := wn_all _ 0 (by decide +kernel)
theorem dX11_goesOn_0 : decode cX11_goesOn 0 = .ok (.aload_n 0, 1) := wn_at gdX11_goesOn_0 0 rfl
theorem dX11_goesOn_1 : decode cX11_goesOn 1 = .ok (.getfield 67, 3) := wn_at gdX11_goesOn_0 1 rfl
theorem dX11_goesOn_4 : decode cX11_goesOn 4 = .ok (.iload_n 1, 1) := wn_at gdX11_goesOn_0 2 rfl
theorem dX11_goesOn_5 : decode cX11_goesOn 5 = .ok (.iaload, 1) := wn_at gdX11_goesOn_0 3 rfl
theorem dX11_goesOn_6 : decode cX11_goesOn 6 = .ok (.istore_n 3, 1) := wn_at gdX11_goesOn_0 4 rfl
theorem dX11_goesOn_7 : decode cX11_goesOn 7 = .ok (.aload_n 0, 1) := wn_at gdX11_goesOn_0 5 rfl
theorem dX11_goesOn_8 : decode cX11_goesOn 8 = .ok (.getfield 70, 3) := wn_at gdX11_goesOn_0 6 rfl
theorem dX11_goesOn_11 : decode cX11_goesOn 11 = .ok (.iload_n 1, 1) := wn_at gdX11_goesOn_0 7 rfl
theorem dX11_goesOn_12 : decode cX11_goesOn 12 = .ok (.iaload, 1) := wn_at gdX11_goesOn_0 8 rfl
theorem dX11_goesOn_13 : decode cX11_goesOn 13 = .ok (.istore 4, 2) := wn_at gdX11_goesOn_0 9 rfl
theorem gdX11_goesOn_15 : ∀ e ∈ ([(15, .iload_n 3, 1), (16, .iload_n 2, 1), (17, .if_icmp .ge 31, 3), (20, .aload_n 0, 1), (21, .iload_n 3, 1), (22, .iconst 1, 1), (23, .iadd, 1), (24, .iload 4, 2), (26, .aload_n 0, 1), (27, .getfield 73, 3)] : List (Nat × Instr × Nat)), decode cX11_goesOn e.1 = .ok e.2 := wn_all _ 15 (by decide +kernel)
theorem dX11_goesOn_15 : decode cX11_goesOn 15 = .ok (.iload_n 3, 1) := wn_at gdX11_goesOn_15 0 rfl
theorem dX11_goesOn_16 : decode cX11_goesOn 16 = .ok (.iload_n 2, 1) := wn_at gdX11_goesOn_15 1 rfl
theorem dX11_goesOn_17 : decode cX11_goesOn 17 = .ok (.if_icmp .ge 31, 3) := wn_at gdX11_goesOn_15 2 rfl
theorem dX11_goesOn_20 : decode cX11_goesOn 20 = .ok (.aload_n 0, 1) := wn_at gdX11_goesOn_15 3 rfl
theorem dX11_goesOn_21 : decode cX11_goesOn 21 = .ok (.iload_n 3, 1) := wn_at gdX11_goesOn_15 4 rfl
theorem dX11_goesOn_22 : decode cX11_goesOn 22 = .ok (.iconst 1, 1) := wn_at gdX11_goesOn_15 5 rfl
theorem dX11_goesOn_23 : decode cX11_goesOn 23 = .ok (.iadd, 1) := wn_at gdX11_goesOn_15 6 rfl
theorem dX11_goesOn_24 : decode cX11_goesOn 24 = .ok (.iload 4, 2) := wn_at gdX11_goesOn_15 7 rfl
theorem dX11_goesOn_26 : decode cX11_goesOn 26 = .ok (.aload_n 0, 1) := wn_at gdX11_goesOn_15 8 rfl
theorem dX11_goesOn_27 : decode cX11_goesOn 27 = .ok (.getfield 73, 3) := wn_at gdX11_goesOn_15 9 rfl
theorem gdX11_goesOn_30 : ∀ e ∈ ([(30, .iload_n 1, 1), (31, .laload, 1), (32, .aload_n 0, 1), (33, .iload 4, 2), (35, .invokevirtual 333, 3), (38, .ladd, 1), (39, .aload_n 0, 1), (40, .getfield 76, 3), (43, .iload_n 1, 1), (44, .iaload, 1)] : List (Nat × Instr × Nat)), decode cX11_goesOn e.1 = .ok e.2 := wn_all _ 30 (by decide +kernel)
theorem dX11_goesOn_30 : decode cX11_goesOn 30 = .ok (.iload_n 1, 1) := wn_at gdX11_goesOn_30 0 rfl
theorem dX11_goesOn_31 : decode cX11_goesOn 31 = .ok (.laload, 1) := wn_at gdX11_goesOn_30 1 rfl
theorem dX11_goesOn_32 : decode cX11_goesOn 32 = .ok (.aload_n 0, 1) := wn_at gdX11_goesOn_30 2 rfl
theorem dX11_goesOn_33 : decode cX11_goesOn 33 = .ok (.iload 4, 2) := wn_at gdX11_goesOn_30 3 rfl
theorem dX11_goesOn_35 : decode cX11_goesOn 35 = .ok (.invokevirtual 333, 3) := wn_at gdX11_goesOn_30 4 rfl
theorem dX11_goesOn_38 : decode cX11_goesOn 38 = .ok (.ladd, 1) := wn_at gdX11_goesOn_30 5 rfl
theorem dX11_goesOn_39 : decode cX11_goesOn 39 = .ok (.aload_n 0, 1) := wn_at gdX11_goesOn_30 6 rfl
theorem dX11_goesOn_40 : decode cX11_goesOn 40 = .ok (.getfield 76, 3) := wn_at gdX11_goesOn_30 7 rfl
theorem dX11_goesOn_43 : decode cX11_goesOn 43 = .ok (.iload_n 1, 1) := wn_at gdX11_goesOn_30 8 rfl
theorem dX11_goesOn_44 : decode cX11_goesOn 44 = .ok (.iaload, 1) := wn_at gdX11_goesOn_30 9 rfl
theorem gdX11_goesOn_45 : ∀ e ∈ ([(45, .invokevirtual 396, 3), (48, .iconst 0, 1), (49, .istore 5, 2), (51, .iload 5, 2), (53, .aload_n 0, 1), (54, .getfield 45, 3), (57, .iconst 1, 1), (58, .iaload, 1), (59, .if_icmp .ge 79, 3), (62, .aload_n 0, 1)] : List (Nat × Instr × Nat)), decode cX11_goesOn e.1 = .ok e.2 := wn_all _ 45 (by decide +kernel)
theorem dX11_goesOn_45 : decode cX11_goesOn 45 = .ok (.invokevirtual 396, 3) := wn_at gdX11_goesOn_45 0 rfl
theorem dX11_goesOn_48 : decode cX11_goesOn 48 = .ok (.iconst 0, 1) := wn_at gdX11_goesOn_45 1 rfl
theorem dX11_goesOn_49 : decode cX11_goesOn 49 = .ok (.istore 5, 2) := wn_at gdX11_goesOn_45 2 rfl
theorem dX11_goesOn_51 : decode cX11_goesOn 51 = .ok (.iload 5, 2) := wn_at gdX11_goesOn_45 3 rfl
theorem dX11_goesOn_53 : decode cX11_goesOn 53 = .ok (.aload_n 0, 1) := wn_at gdX11_goesOn_45 4 rfl
theorem dX11_goesOn_54 : decode cX11_goesOn 54 = .ok (.getfield 45, 3) := wn_at gdX11_goesOn_45 5 rfl
theorem dX11_goesOn_57 : decode cX11_goesOn 57 = .ok (.iconst 1, 1) := wn_at gdX11_goesOn_45 6 rfl
theorem dX11_goesOn_58 : decode cX11_goesOn 58 = .ok (.iaload, 1) := wn_at gdX11_goesOn_45 7 rfl
theorem dX11_goesOn_59 : decode cX11_goesOn 59 = .ok (.if_icmp .ge 79, 3) := wn_at gdX11_goesOn_45 8 rfl
theorem dX11_goesOn_62 : decode cX11_goesOn 62 = .ok (.aload_n 0, 1) := wn_at gdX11_goesOn_45 9 rfl
theorem gdX11_goesOn_63 : ∀ e ∈ ([(63, .iload 5, 2), (65, .iconst 2, 1), (66, .invokevirtual 283, 3), (69, .istore 6, 2), (71, .aload_n 0, 1), (72, .iload 5, 2), (74, .iload 4, 2), (76, .invokevirtual 293, 3), (79, .ifCond .lt 53, 3), (82, .iload_n 3, 1)] : List (Nat × Instr × Nat)), decode cX11_goesOn e.1 = .ok e.2 := wn_all _ 63 (by decide +kernel)
theorem dX11_goesOn_63 : decode cX11_goesOn 63 = .ok (.iload 5, 2) := wn_at gdX11_goesOn_63 0 rfl
theorem dX11_goesOn_65 : decode cX11_goesOn 65 = .ok (.iconst 2, 1) := wn_at gdX11_goesOn_63 1 rfl
theorem dX11_goesOn_66 : decode cX11_goesOn 66 = .ok (.invokevirtual 283, 3) := wn_at gdX11_goesOn_63 2 rfl
theorem dX11_goesOn_69 : decode cX11_goesOn 69 = .ok (.istore 6, 2) := wn_at gdX11_goesOn_63 3 rfl
theorem dX11_goesOn_71 : decode cX11_goesOn 71 = .ok (.aload_n 0, 1) := wn_at gdX11_goesOn_63 4 rfl
theorem dX11_goesOn_72 : decode cX11_goesOn 72 = .ok (.iload 5, 2) := wn_at gdX11_goesOn_63 5 rfl
theorem dX11_goesOn_74 : decode cX11_goesOn 74 = .ok (.iload 4, 2) := wn_at gdX11_goesOn_63 6 rfl
theorem dX11_goesOn_76 : decode cX11_goesOn 76 = .ok (.invokevirtual 293, 3) := wn_at gdX11_goesOn_63 7 rfl
theorem dX11_goesOn_79 : decode cX11_goesOn 79 = .ok (.ifCond .lt 53, 3) := wn_at gdX11_goesOn_63 8 rfl
theorem dX11_goesOn_82 : decode cX11_goesOn 82 = .ok (.iload_n 3, 1) := wn_at gdX11_goesOn_63 9 rfl
theorem gdX11_goesOn_83 : ∀ e ∈ ([(83, .iload 6, 2), (85, .iadd, 1), (86, .iload_n 2, 1), (87, .if_icmp .gt 45, 3), (90, .aload_n 0, 1), (91, .iload_n 3, 1), (92, .iload 6, 2), (94, .iadd, 1), (95, .aload_n 0, 1), (96, .iload 5, 2)] : List (Nat × Instr × Nat)), decode cX11_goesOn e.1 = .ok e.2 := wn_all _ 83 (by decide +kernel)
theorem dX11_goesOn_83 : decode cX11_goesOn 83 = .ok (.iload 6, 2) := wn_at gdX11_goesOn_83 0 rfl
theorem dX11_goesOn_85 : decode cX11_goesOn 85 = .ok (.iadd, 1) := wn_at gdX11_goesOn_83 1 rfl
theorem dX11_goesOn_86 : decode cX11_goesOn 86 = .ok (.iload_n 2, 1) := wn_at gdX11_goesOn_83 2 rfl
theorem dX11_goesOn_87 : decode cX11_goesOn 87 = .ok (.if_icmp .gt 45, 3) := wn_at gdX11_goesOn_83 3 rfl
theorem dX11_goesOn_90 : decode cX11_goesOn 90 = .ok (.aload_n 0, 1) := wn_at gdX11_goesOn_83 4 rfl
theorem dX11_goesOn_91 : decode cX11_goesOn 91 = .ok (.iload_n 3, 1) := wn_at gdX11_goesOn_83 5 rfl
theorem dX11_goesOn_92 : decode cX11_goesOn 92 = .ok (.iload 6, 2) := wn_at gdX11_goesOn_83 6 rfl
theorem dX11_goesOn_94 : decode cX11_goesOn 94 = .ok (.iadd, 1) := wn_at gdX11_goesOn_83 7 rfl
theorem dX11_goesOn_95 : decode cX11_goesOn 95 = .ok (.aload_n 0, 1) := wn_at gdX11_goesOn_83 8 rfl
theorem dX11_goesOn_96 : decode cX11_goesOn 96 = .ok (.iload 5, 2) := wn_at gdX11_goesOn_83 9 rfl
theorem gdX11_goesOn_98 : ∀ e ∈ ([(98, .iload 4, 2), (100, .invokevirtual 293, 3), (103, .aload_n 0, 1), (104, .getfield 73, 3), (107, .iload_n 1, 1), (108, .laload, 1), (109, .iload 6, 2), (111, .i2l, 1), (112, .aload_n 0, 1), (113, .iload 5, 2)] : List (Nat × Instr × Nat)), decode cX11_goesOn e.1 = .ok e.2 := wn_all _ 98 (by decide +kernel)
theorem dX11_goesOn_98 : decode cX11_goesOn 98 = .ok (.iload 4, 2) := wn_at gdX11_goesOn_98 0 rfl
theorem dX11_goesOn_100 : decode cX11_goesOn 100 = .ok (.invokevirtual 293, 3) := wn_at gdX11_goesOn_98 1 rfl
theorem dX11_goesOn_103 : decode cX11_goesOn 103 = .ok (.aload_n 0, 1) := wn_at gdX11_goesOn_98 2 rfl
theorem dX11_goesOn_104 : decode cX11_goesOn 104 = .ok (.getfield 73, 3) := wn_at gdX11_goesOn_98 3 rfl
theorem dX11_goesOn_107 : decode cX11_goesOn 107 = .ok (.iload_n 1, 1) := wn_at gdX11_goesOn_98 4 rfl
theorem dX11_goesOn_108 : decode cX11_goesOn 108 = .ok (.laload, 1) := wn_at gdX11_goesOn_98 5 rfl
theorem dX11_goesOn_109 : decode cX11_goesOn 109 = .ok (.iload 6, 2) := wn_at gdX11_goesOn_98 6 rfl
theorem dX11_goesOn_111 : decode cX11_goesOn 111 = .ok (.i2l, 1) := wn_at gdX11_goesOn_98 7 rfl
theorem dX11_goesOn_112 : decode cX11_goesOn 112 = .ok (.aload_n 0, 1) := wn_at gdX11_goesOn_98 8 rfl
theorem dX11_goesOn_113 : decode cX11_goesOn 113 = .ok (.iload 5, 2) := wn_at gdX11_goesOn_98 9 rfl
theorem gdX11_goesOn_115 : ∀ e ∈ ([(115, .invokevirtual 337, 3), (118, .lmul, 1), (119, .ladd, 1), (120, .aload_n 0, 1), (121, .getfield 76, 3), (124, .iload_n 1, 1), (125, .iaload, 1), (126, .iload 6, 2), (128, .iadd, 1), (129, .invokevirtual 396, 3)] : List (Nat × Instr × Nat)), decode cX11_goesOn e.1 = .ok e.2 := wn_all _ 115 (by decide +kernel)
theorem dX11_goesOn_115 : decode cX11_goesOn 115 = .ok (.invokevirtual 337, 3) := wn_at gdX11_goesOn_115 0 rfl
theorem dX11_goesOn_118 : decode cX11_goesOn 118 = .ok (.lmul, 1) := wn_at gdX11_goesOn_115 1 rfl
theorem dX11_goesOn_119 : decode cX11_goesOn 119 = .ok (.ladd, 1) := wn_at gdX11_goesOn_115 2 rfl
theorem dX11_goesOn_120 : decode cX11_goesOn 120 = .ok (.aload_n 0, 1) := wn_at gdX11_goesOn_115 3 rfl
theorem dX11_goesOn_121 : decode cX11_goesOn 121 = .ok (.getfield 76, 3) := wn_at gdX11_goesOn_115 4 rfl
theorem dX11_goesOn_124 : decode cX11_goesOn 124 = .ok (.iload_n 1, 1) := wn_at gdX11_goesOn_115 5 rfl
theorem dX11_goesOn_125 : decode cX11_goesOn 125 = .ok (.iaload, 1) := wn_at gdX11_goesOn_115 6 rfl
theorem dX11_goesOn_126 : decode cX11_goesOn 126 = .ok (.iload 6, 2) := wn_at gdX11_goesOn_115 7 rfl
theorem dX11_goesOn_128 : decode cX11_goesOn 128 = .ok (.iadd, 1) := wn_at gdX11_goesOn_115 8 rfl
theorem dX11_goesOn_129 : decode cX11_goesOn 129 = .ok (.invokevirtual 396, 3) := wn_at gdX11_goesOn_115 9 rfl
theorem gdX11_goesOn_132 : ∀ e ∈ ([(132, .iinc 5 1, 3), (135, .goto (-84), 3), (138, .return_, 1)] : List (Nat × Instr × Nat)), decode cX11_goesOn e.1 = .ok e.2 := wn_all _ 132 (by decide +kernel)
theorem dX11_goesOn_132 : decode cX11_goesOn 132 = .ok (.iinc 5 1, 3) := wn_at gdX11_goesOn_132 0 rfl
theorem dX11_goesOn_135 : decode cX11_goesOn 135 = .ok (.goto (-84), 3) := wn_at gdX11_goesOn_132 1 rfl
theorem dX11_goesOn_138 : decode cX11_goesOn 138 = .ok (.return_, 1) := wn_at gdX11_goesOn_132 2 rfl
theorem gdX11_ripe_0 : ∀ e ∈ ([(0, .aload_n 0, 1), (1, .iload_n 1, 1), (2, .invokevirtual 299, 3), (5, .ifCond .eq 51, 3), (8, .aload_n 0, 1), (9, .iload_n 2, 1), (10, .invokevirtual 299, 3), (13, .ifCond .eq 43, 3), (16, .iload_n 3, 1), (17, .i2l, 1)] : List (Nat × Instr × Nat)), decode cX11_ripe e.1 = .ok e.2 := wn_all _ 0 (by decide +kernel)
theorem dX11_ripe_0 : decode cX11_ripe 0 = .ok (.aload_n 0, 1) := wn_at gdX11_ripe_0 0 rfl
theorem dX11_ripe_1 : decode cX11_ripe 1 = .ok (.iload_n 1, 1) := wn_at gdX11_ripe_0 1 rfl
theorem dX11_ripe_2 : decode cX11_ripe 2 = .ok (.invokevirtual 299, 3) := wn_at gdX11_ripe_0 2 rfl
theorem dX11_ripe_5 : decode cX11_ripe 5 = .ok (.ifCond .eq 51, 3) := wn_at gdX11_ripe_0 3 rfl
theorem dX11_ripe_8 : decode cX11_ripe 8 = .ok (.aload_n 0, 1) := wn_at gdX11_ripe_0 4 rfl
theorem dX11_ripe_9 : decode cX11_ripe 9 = .ok (.iload_n 2, 1) := wn_at gdX11_ripe_0 5 rfl
theorem dX11_ripe_10 : decode cX11_ripe 10 = .ok (.invokevirtual 299, 3) := wn_at gdX11_ripe_0 6 rfl
theorem dX11_ripe_13 : decode cX11_ripe 13 = .ok (.ifCond .eq 43, 3) := wn_at gdX11_ripe_0 7 rfl
theorem dX11_ripe_16 : decode cX11_ripe 16 = .ok (.iload_n 3, 1) := wn_at gdX11_ripe_0 8 rfl
theorem dX11_ripe_17 : decode cX11_ripe 17 = .ok (.i2l, 1) := wn_at gdX11_ripe_0 9 rfl
theorem gdX11_ripe_18 : ∀ e ∈ ([(18, .lconst 0, 1), (19, .ldc2_w 400, 3), (22, .invokestatic 131, 3), (25, .ifCond .eq 31, 3), (28, .iload 4, 2), (30, .i2l, 1), (31, .lconst 0, 1), (32, .ldc2_w 402, 3), (35, .invokestatic 131, 3), (38, .ifCond .eq 18, 3)] : List (Nat × Instr × Nat)), decode cX11_ripe e.1 = .ok e.2 := wn_all _ 18 (by decide +kernel)
theorem dX11_ripe_18 : decode cX11_ripe 18 = .ok (.lconst 0, 1) := wn_at gdX11_ripe_18 0 rfl
theorem dX11_ripe_19 : decode cX11_ripe 19 = .ok (.ldc2_w 400, 3) := wn_at gdX11_ripe_18 1 rfl
theorem dX11_ripe_22 : decode cX11_ripe 22 = .ok (.invokestatic 131, 3) := wn_at gdX11_ripe_18 2 rfl
theorem dX11_ripe_25 : decode cX11_ripe 25 = .ok (.ifCond .eq 31, 3) := wn_at gdX11_ripe_18 3 rfl
theorem dX11_ripe_28 : decode cX11_ripe 28 = .ok (.iload 4, 2) := wn_at gdX11_ripe_18 4 rfl
theorem dX11_ripe_30 : decode cX11_ripe 30 = .ok (.i2l, 1) := wn_at gdX11_ripe_18 5 rfl
theorem dX11_ripe_31 : decode cX11_ripe 31 = .ok (.lconst 0, 1) := wn_at gdX11_ripe_18 6 rfl
theorem dX11_ripe_32 : decode cX11_ripe 32 = .ok (.ldc2_w 402, 3) := wn_at gdX11_ripe_18 7 rfl
theorem dX11_ripe_35 : decode cX11_ripe 35 = .ok (.invokestatic 131, 3) := wn_at gdX11_ripe_18 8 rfl
theorem dX11_ripe_38 : decode cX11_ripe 38 = .ok (.ifCond .eq 18, 3) := wn_at gdX11_ripe_18 9 rfl
theorem gdX11_ripe_41 : ∀ e ∈ ([(41, .iload 5, 2), (43, .i2l, 1), (44, .iload 4, 2), (46, .i2l, 1), (47, .ldc2_w 402, 3), (50, .invokestatic 131, 3), (53, .ifCond .ne 5, 3), (56, .iconst (-1), 1), (57, .ireturn, 1), (58, .aload_n 0, 1)] : List (Nat × Instr × Nat)), decode cX11_ripe e.1 = .ok e.2 := wn_all _ 41 (by decide +kernel)
theorem dX11_ripe_41 : decode cX11_ripe 41 = .ok (.iload 5, 2) := wn_at gdX11_ripe_41 0 rfl
theorem dX11_ripe_43 : decode cX11_ripe 43 = .ok (.i2l, 1) := wn_at gdX11_ripe_41 1 rfl
theorem dX11_ripe_44 : decode cX11_ripe 44 = .ok (.iload 4, 2) := wn_at gdX11_ripe_41 2 rfl
theorem dX11_ripe_46 : decode cX11_ripe 46 = .ok (.i2l, 1) := wn_at gdX11_ripe_41 3 rfl
theorem dX11_ripe_47 : decode cX11_ripe 47 = .ok (.ldc2_w 402, 3) := wn_at gdX11_ripe_41 4 rfl
theorem dX11_ripe_50 : decode cX11_ripe 50 = .ok (.invokestatic 131, 3) := wn_at gdX11_ripe_41 5 rfl
theorem dX11_ripe_53 : decode cX11_ripe 53 = .ok (.ifCond .ne 5, 3) := wn_at gdX11_ripe_41 6 rfl
theorem dX11_ripe_56 : decode cX11_ripe 56 = .ok (.iconst (-1), 1) := wn_at gdX11_ripe_41 7 rfl
theorem dX11_ripe_57 : decode cX11_ripe 57 = .ok (.ireturn, 1) := wn_at gdX11_ripe_41 8 rfl
theorem dX11_ripe_58 : decode cX11_ripe 58 = .ok (.aload_n 0, 1) := wn_at gdX11_ripe_41 9 rfl
theorem gdX11_ripe_59 : ∀ e ∈ ([(59, .iconst 0, 1), (60, .putfield 393, 3), (63, .aload_n 0, 1), (64, .iconst 0, 1), (65, .iload_n 1, 1), (66, .lconst 0, 1), (67, .iconst 0, 1), (68, .invokevirtual 396, 3), (71, .iconst 0, 1), (72, .istore 6, 2)] : List (Nat × Instr × Nat)), decode cX11_ripe e.1 = .ok e.2 := wn_all _ 59 (by decide +kernel)
theorem dX11_ripe_59 : decode cX11_ripe 59 = .ok (.iconst 0, 1) := wn_at gdX11_ripe_59 0 rfl
theorem dX11_ripe_60 : decode cX11_ripe 60 = .ok (.putfield 393, 3) := wn_at gdX11_ripe_59 1 rfl
theorem dX11_ripe_63 : decode cX11_ripe 63 = .ok (.aload_n 0, 1) := wn_at gdX11_ripe_59 2 rfl
theorem dX11_ripe_64 : decode cX11_ripe 64 = .ok (.iconst 0, 1) := wn_at gdX11_ripe_59 3 rfl
theorem dX11_ripe_65 : decode cX11_ripe 65 = .ok (.iload_n 1, 1) := wn_at gdX11_ripe_59 4 rfl
theorem dX11_ripe_66 : decode cX11_ripe 66 = .ok (.lconst 0, 1) := wn_at gdX11_ripe_59 5 rfl
theorem dX11_ripe_67 : decode cX11_ripe 67 = .ok (.iconst 0, 1) := wn_at gdX11_ripe_59 6 rfl
theorem dX11_ripe_68 : decode cX11_ripe 68 = .ok (.invokevirtual 396, 3) := wn_at gdX11_ripe_59 7 rfl
theorem dX11_ripe_71 : decode cX11_ripe 71 = .ok (.iconst 0, 1) := wn_at gdX11_ripe_59 8 rfl
theorem dX11_ripe_72 : decode cX11_ripe 72 = .ok (.istore 6, 2) := wn_at gdX11_ripe_59 9 rfl
theorem gdX11_ripe_74 : ∀ e ∈ ([(74, .iload 6, 2), (76, .iload_n 3, 1), (77, .if_icmp .gt 66, 3), (80, .aload_n 0, 1), (81, .getfield 393, 3), (84, .sipush 4000, 3), (87, .if_icmp .gt 56, 3), (90, .iconst 0, 1), (91, .istore 7, 2), (93, .iload 7, 2)] : List (Nat × Instr × Nat)), decode cX11_ripe e.1 = .ok e.2 := wn_all _ 74 (by decide +kernel)
theorem dX11_ripe_74 : decode cX11_ripe 74 = .ok (.iload 6, 2) := wn_at gdX11_ripe_74 0 rfl
theorem dX11_ripe_76 : decode cX11_ripe 76 = .ok (.iload_n 3, 1) := wn_at gdX11_ripe_74 1 rfl
theorem dX11_ripe_77 : decode cX11_ripe 77 = .ok (.if_icmp .gt 66, 3) := wn_at gdX11_ripe_74 2 rfl
theorem dX11_ripe_80 : decode cX11_ripe 80 = .ok (.aload_n 0, 1) := wn_at gdX11_ripe_74 3 rfl
theorem dX11_ripe_81 : decode cX11_ripe 81 = .ok (.getfield 393, 3) := wn_at gdX11_ripe_74 4 rfl
theorem dX11_ripe_84 : decode cX11_ripe 84 = .ok (.sipush 4000, 3) := wn_at gdX11_ripe_74 5 rfl
theorem dX11_ripe_87 : decode cX11_ripe 87 = .ok (.if_icmp .gt 56, 3) := wn_at gdX11_ripe_74 6 rfl
theorem dX11_ripe_90 : decode cX11_ripe 90 = .ok (.iconst 0, 1) := wn_at gdX11_ripe_74 7 rfl
theorem dX11_ripe_91 : decode cX11_ripe 91 = .ok (.istore 7, 2) := wn_at gdX11_ripe_74 8 rfl
theorem dX11_ripe_93 : decode cX11_ripe 93 = .ok (.iload 7, 2) := wn_at gdX11_ripe_74 9 rfl
theorem gdX11_ripe_95 : ∀ e ∈ ([(95, .aload_n 0, 1), (96, .getfield 393, 3), (99, .if_icmp .ge 38, 3), (102, .aload_n 0, 1), (103, .getfield 393, 3), (106, .sipush 4000, 3), (109, .if_icmp .gt 28, 3), (112, .aload_n 0, 1), (113, .getfield 67, 3), (116, .iload 7, 2)] : List (Nat × Instr × Nat)), decode cX11_ripe e.1 = .ok e.2 := wn_all _ 95 (by decide +kernel)
theorem dX11_ripe_95 : decode cX11_ripe 95 = .ok (.aload_n 0, 1) := wn_at gdX11_ripe_95 0 rfl
theorem dX11_ripe_96 : decode cX11_ripe 96 = .ok (.getfield 393, 3) := wn_at gdX11_ripe_95 1 rfl
theorem dX11_ripe_99 : decode cX11_ripe 99 = .ok (.if_icmp .ge 38, 3) := wn_at gdX11_ripe_95 2 rfl
theorem dX11_ripe_102 : decode cX11_ripe 102 = .ok (.aload_n 0, 1) := wn_at gdX11_ripe_95 3 rfl
theorem dX11_ripe_103 : decode cX11_ripe 103 = .ok (.getfield 393, 3) := wn_at gdX11_ripe_95 4 rfl
theorem dX11_ripe_106 : decode cX11_ripe 106 = .ok (.sipush 4000, 3) := wn_at gdX11_ripe_95 5 rfl
theorem dX11_ripe_109 : decode cX11_ripe 109 = .ok (.if_icmp .gt 28, 3) := wn_at gdX11_ripe_95 6 rfl
theorem dX11_ripe_112 : decode cX11_ripe 112 = .ok (.aload_n 0, 1) := wn_at gdX11_ripe_95 7 rfl
theorem dX11_ripe_113 : decode cX11_ripe 113 = .ok (.getfield 67, 3) := wn_at gdX11_ripe_95 8 rfl
theorem dX11_ripe_116 : decode cX11_ripe 116 = .ok (.iload 7, 2) := wn_at gdX11_ripe_95 9 rfl
theorem gdX11_ripe_118 : ∀ e ∈ ([(118, .iaload, 1), (119, .iload 6, 2), (121, .if_icmp .ne 10, 3), (124, .aload_n 0, 1), (125, .iload 7, 2), (127, .iload_n 3, 1), (128, .invokevirtual 404, 3), (131, .iinc 7 1, 3), (134, .goto (-41), 3), (137, .iinc 6 1, 3)] : List (Nat × Instr × Nat)), decode cX11_ripe e.1 = .ok e.2 := wn_all _ 118 (by decide +kernel)
theorem dX11_ripe_118 : decode cX11_ripe 118 = .ok (.iaload, 1) := wn_at gdX11_ripe_118 0 rfl
theorem dX11_ripe_119 : decode cX11_ripe 119 = .ok (.iload 6, 2) := wn_at gdX11_ripe_118 1 rfl
theorem dX11_ripe_121 : decode cX11_ripe 121 = .ok (.if_icmp .ne 10, 3) := wn_at gdX11_ripe_118 2 rfl
theorem dX11_ripe_124 : decode cX11_ripe 124 = .ok (.aload_n 0, 1) := wn_at gdX11_ripe_118 3 rfl
theorem dX11_ripe_125 : decode cX11_ripe 125 = .ok (.iload 7, 2) := wn_at gdX11_ripe_118 4 rfl
theorem dX11_ripe_127 : decode cX11_ripe 127 = .ok (.iload_n 3, 1) := wn_at gdX11_ripe_118 5 rfl
theorem dX11_ripe_128 : decode cX11_ripe 128 = .ok (.invokevirtual 404, 3) := wn_at gdX11_ripe_118 6 rfl
theorem dX11_ripe_131 : decode cX11_ripe 131 = .ok (.iinc 7 1, 3) := wn_at gdX11_ripe_118 7 rfl
theorem dX11_ripe_134 : decode cX11_ripe 134 = .ok (.goto (-41), 3) := wn_at gdX11_ripe_118 8 rfl
theorem dX11_ripe_137 : decode cX11_ripe 137 = .ok (.iinc 6 1, 3) := wn_at gdX11_ripe_118 9 rfl
theorem gdX11_ripe_140 : ∀ e ∈ ([(140, .goto (-66), 3), (143, .aload_n 0, 1), (144, .getfield 393, 3), (147, .sipush 4000, 3), (150, .if_icmp .le 6, 3), (153, .bipush (-3), 2), (155, .ireturn, 1), (156, .bipush (-2), 2), (158, .istore 6, 2), (160, .iconst 0, 1)] : List (Nat × Instr × Nat)), decode cX11_ripe e.1 = .ok e.2 := wn_all _ 140 (by decide +kernel)
theorem dX11_ripe_140 : decode cX11_ripe 140 = .ok (.goto (-66), 3) := wn_at gdX11_ripe_140 0 rfl
theorem dX11_ripe_143 : decode cX11_ripe 143 = .ok (.aload_n 0, 1) := wn_at gdX11_ripe_140 1 rfl
theorem dX11_ripe_144 : decode cX11_ripe 144 = .ok (.getfield 393, 3) := wn_at gdX11_ripe_140 2 rfl
theorem dX11_ripe_147 : decode cX11_ripe 147 = .ok (.sipush 4000, 3) := wn_at gdX11_ripe_140 3 rfl
theorem dX11_ripe_150 : decode cX11_ripe 150 = .ok (.if_icmp .le 6, 3) := wn_at gdX11_ripe_140 4 rfl
theorem dX11_ripe_153 : decode cX11_ripe 153 = .ok (.bipush (-3), 2) := wn_at gdX11_ripe_140 5 rfl
theorem dX11_ripe_155 : decode cX11_ripe 155 = .ok (.ireturn, 1) := wn_at gdX11_ripe_140 6 rfl
theorem dX11_ripe_156 : decode cX11_ripe 156 = .ok (.bipush (-2), 2) := wn_at gdX11_ripe_140 7 rfl
theorem dX11_ripe_158 : decode cX11_ripe 158 = .ok (.istore 6, 2) := wn_at gdX11_ripe_140 8 rfl
theorem dX11_ripe_160 : decode cX11_ripe 160 = .ok (.iconst 0, 1) := wn_at gdX11_ripe_140 9 rfl
theorem gdX11_ripe_161 : ∀ e ∈ ([(161, .istore 7, 2), (163, .iload 7, 2), (165, .aload_n 0, 1), (166, .getfield 393, 3), (169, .if_icmp .ge 105, 3), (172, .aload_n 0, 1), (173, .getfield 67, 3), (176, .iload 7, 2), (178, .iaload, 1), (179, .iload_n 3, 1)] : List (Nat × Instr × Nat)), decode cX11_ripe e.1 = .ok e.2 := wn_all _ 161 (by decide +kernel)
theorem dX11_ripe_161 : decode cX11_ripe 161 = .ok (.istore 7, 2) := wn_at gdX11_ripe_161 0 rfl
theorem dX11_ripe_163 : decode cX11_ripe 163 = .ok (.iload 7, 2) := wn_at gdX11_ripe_161 1 rfl
theorem dX11_ripe_165 : decode cX11_ripe 165 = .ok (.aload_n 0, 1) := wn_at gdX11_ripe_161 2 rfl
theorem dX11_ripe_166 : decode cX11_ripe 166 = .ok (.getfield 393, 3) := wn_at gdX11_ripe_161 3 rfl
theorem dX11_ripe_169 : decode cX11_ripe 169 = .ok (.if_icmp .ge 105, 3) := wn_at gdX11_ripe_161 4 rfl
theorem dX11_ripe_172 : decode cX11_ripe 172 = .ok (.aload_n 0, 1) := wn_at gdX11_ripe_161 5 rfl
theorem dX11_ripe_173 : decode cX11_ripe 173 = .ok (.getfield 67, 3) := wn_at gdX11_ripe_161 6 rfl
theorem dX11_ripe_176 : decode cX11_ripe 176 = .ok (.iload 7, 2) := wn_at gdX11_ripe_161 7 rfl
theorem dX11_ripe_178 : decode cX11_ripe 178 = .ok (.iaload, 1) := wn_at gdX11_ripe_161 8 rfl
theorem dX11_ripe_179 : decode cX11_ripe 179 = .ok (.iload_n 3, 1) := wn_at gdX11_ripe_161 9 rfl
theorem gdX11_ripe_180 : ∀ e ∈ ([(180, .if_icmp .ne 54, 3), (183, .aload_n 0, 1), (184, .getfield 70, 3), (187, .iload 7, 2), (189, .iaload, 1), (190, .iload_n 2, 1), (191, .if_icmp .ne 43, 3), (194, .aload_n 0, 1), (195, .getfield 73, 3), (198, .iload 7, 2)] : List (Nat × Instr × Nat)), decode cX11_ripe e.1 = .ok e.2 := wn_all _ 180 (by decide +kernel)
theorem dX11_ripe_180 : decode cX11_ripe 180 = .ok (.if_icmp .ne 54, 3) := wn_at gdX11_ripe_180 0 rfl
theorem dX11_ripe_183 : decode cX11_ripe 183 = .ok (.aload_n 0, 1) := wn_at gdX11_ripe_180 1 rfl
theorem dX11_ripe_184 : decode cX11_ripe 184 = .ok (.getfield 70, 3) := wn_at gdX11_ripe_180 2 rfl
theorem dX11_ripe_187 : decode cX11_ripe 187 = .ok (.iload 7, 2) := wn_at gdX11_ripe_180 3 rfl
theorem dX11_ripe_189 : decode cX11_ripe 189 = .ok (.iaload, 1) := wn_at gdX11_ripe_180 4 rfl
theorem dX11_ripe_190 : decode cX11_ripe 190 = .ok (.iload_n 2, 1) := wn_at gdX11_ripe_180 5 rfl
theorem dX11_ripe_191 : decode cX11_ripe 191 = .ok (.if_icmp .ne 43, 3) := wn_at gdX11_ripe_180 6 rfl
theorem dX11_ripe_194 : decode cX11_ripe 194 = .ok (.aload_n 0, 1) := wn_at gdX11_ripe_180 7 rfl
theorem dX11_ripe_195 : decode cX11_ripe 195 = .ok (.getfield 73, 3) := wn_at gdX11_ripe_180 8 rfl
theorem dX11_ripe_198 : decode cX11_ripe 198 = .ok (.iload 7, 2) := wn_at gdX11_ripe_180 9 rfl
theorem gdX11_ripe_200 : ∀ e ∈ ([(200, .laload, 1), (201, .iload 4, 2), (203, .i2l, 1), (204, .ldc2_w 281, 3), (207, .lmul, 1), (208, .lcmp, 1), (209, .ifCond .lt 25, 3), (212, .aload_n 0, 1), (213, .getfield 73, 3), (216, .iload 7, 2)] : List (Nat × Instr × Nat)), decode cX11_ripe e.1 = .ok e.2 := wn_all _ 200 (by decide +kernel)
theorem dX11_ripe_200 : decode cX11_ripe 200 = .ok (.laload, 1) := wn_at gdX11_ripe_200 0 rfl
theorem dX11_ripe_201 : decode cX11_ripe 201 = .ok (.iload 4, 2) := wn_at gdX11_ripe_200 1 rfl
theorem dX11_ripe_203 : decode cX11_ripe 203 = .ok (.i2l, 1) := wn_at gdX11_ripe_200 2 rfl
theorem dX11_ripe_204 : decode cX11_ripe 204 = .ok (.ldc2_w 281, 3) := wn_at gdX11_ripe_200 3 rfl
theorem dX11_ripe_207 : decode cX11_ripe 207 = .ok (.lmul, 1) := wn_at gdX11_ripe_200 4 rfl
theorem dX11_ripe_208 : decode cX11_ripe 208 = .ok (.lcmp, 1) := wn_at gdX11_ripe_200 5 rfl
theorem dX11_ripe_209 : decode cX11_ripe 209 = .ok (.ifCond .lt 25, 3) := wn_at gdX11_ripe_200 6 rfl
theorem dX11_ripe_212 : decode cX11_ripe 212 = .ok (.aload_n 0, 1) := wn_at gdX11_ripe_200 7 rfl
theorem dX11_ripe_213 : decode cX11_ripe 213 = .ok (.getfield 73, 3) := wn_at gdX11_ripe_200 8 rfl
theorem dX11_ripe_216 : decode cX11_ripe 216 = .ok (.iload 7, 2) := wn_at gdX11_ripe_200 9 rfl
theorem gdX11_ripe_218 : ∀ e ∈ ([(218, .laload, 1), (219, .iload 5, 2), (221, .i2l, 1), (222, .ldc2_w 281, 3), (225, .lmul, 1), (226, .lcmp, 1), (227, .ifCond .gt 7, 3), (230, .iconst 1, 1), (231, .goto 4, 3), (234, .iconst 0, 1)] : List (Nat × Instr × Nat)), decode cX11_ripe e.1 = .ok e.2 := wn_all _ 218 (by decide +kernel)
theorem dX11_ripe_218 : decode cX11_ripe 218 = .ok (.laload, 1) := wn_at gdX11_ripe_218 0 rfl
theorem dX11_ripe_219 : decode cX11_ripe 219 = .ok (.iload 5, 2) := wn_at gdX11_ripe_218 1 rfl
theorem dX11_ripe_221 : decode cX11_ripe 221 = .ok (.i2l, 1) := wn_at gdX11_ripe_218 2 rfl
theorem dX11_ripe_222 : decode cX11_ripe 222 = .ok (.ldc2_w 281, 3) := wn_at gdX11_ripe_218 3 rfl
theorem dX11_ripe_225 : decode cX11_ripe 225 = .ok (.lmul, 1) := wn_at gdX11_ripe_218 4 rfl
theorem dX11_ripe_226 : decode cX11_ripe 226 = .ok (.lcmp, 1) := wn_at gdX11_ripe_218 5 rfl
theorem dX11_ripe_227 : decode cX11_ripe 227 = .ok (.ifCond .gt 7, 3) := wn_at gdX11_ripe_218 6 rfl
theorem dX11_ripe_230 : decode cX11_ripe 230 = .ok (.iconst 1, 1) := wn_at gdX11_ripe_218 7 rfl
theorem dX11_ripe_231 : decode cX11_ripe 231 = .ok (.goto 4, 3) := wn_at gdX11_ripe_218 8 rfl
theorem dX11_ripe_234 : decode cX11_ripe 234 = .ok (.iconst 0, 1) := wn_at gdX11_ripe_218 9 rfl
theorem gdX11_ripe_235 : ∀ e ∈ ([(235, .istore 8, 2), (237, .iload 8, 2), (239, .ifCond .eq 29, 3), (242, .iload 6, 2), (244, .ifCond .lt 15, 3), (247, .aload_n 0, 1), (248, .getfield 76, 3), (251, .iload 7, 2), (253, .iaload, 1), (254, .iload 6, 2)] : List (Nat × Instr × Nat)), decode cX11_ripe e.1 = .ok e.2 := wn_all _ 235 (by decide +kernel)
theorem dX11_ripe_235 : decode cX11_ripe 235 = .ok (.istore 8, 2) := wn_at gdX11_ripe_235 0 rfl
theorem dX11_ripe_237 : decode cX11_ripe 237 = .ok (.iload 8, 2) := wn_at gdX11_ripe_235 1 rfl
theorem dX11_ripe_239 : decode cX11_ripe 239 = .ok (.ifCond .eq 29, 3) := wn_at gdX11_ripe_235 2 rfl
theorem dX11_ripe_242 : decode cX11_ripe 242 = .ok (.iload 6, 2) := wn_at gdX11_ripe_235 3 rfl
theorem dX11_ripe_244 : decode cX11_ripe 244 = .ok (.ifCond .lt 15, 3) := wn_at gdX11_ripe_235 4 rfl
theorem dX11_ripe_247 : decode cX11_ripe 247 = .ok (.aload_n 0, 1) := wn_at gdX11_ripe_235 5 rfl
theorem dX11_ripe_248 : decode cX11_ripe 248 = .ok (.getfield 76, 3) := wn_at gdX11_ripe_235 6 rfl
theorem dX11_ripe_251 : decode cX11_ripe 251 = .ok (.iload 7, 2) := wn_at gdX11_ripe_235 7 rfl
theorem dX11_ripe_253 : decode cX11_ripe 253 = .ok (.iaload, 1) := wn_at gdX11_ripe_235 8 rfl
theorem dX11_ripe_254 : decode cX11_ripe 254 = .ok (.iload 6, 2) := wn_at gdX11_ripe_235 9 rfl
theorem gdX11_ripe_256 : ∀ e ∈ ([(256, .if_icmp .ge 12, 3), (259, .aload_n 0, 1), (260, .getfield 76, 3), (263, .iload 7, 2), (265, .iaload, 1), (266, .istore 6, 2), (268, .iinc 7 1, 3), (271, .goto (-108), 3), (274, .iload 6, 2), (276, .ireturn, 1)] : List (Nat × Instr × Nat)), decode cX11_ripe e.1 = .ok e.2 := wn_all _ 256 (by decide +kernel)
theorem dX11_ripe_256 : decode cX11_ripe 256 = .ok (.if_icmp .ge 12, 3) := wn_at gdX11_ripe_256 0 rfl
theorem dX11_ripe_259 : decode cX11_ripe 259 = .ok (.aload_n 0, 1) := wn_at gdX11_ripe_256 1 rfl
theorem dX11_ripe_260 : decode cX11_ripe 260 = .ok (.getfield 76, 3) := wn_at gdX11_ripe_256 2 rfl
theorem dX11_ripe_263 : decode cX11_ripe 263 = .ok (.iload 7, 2) := wn_at gdX11_ripe_256 3 rfl
theorem dX11_ripe_265 : decode cX11_ripe 265 = .ok (.iaload, 1) := wn_at gdX11_ripe_256 4 rfl
theorem dX11_ripe_266 : decode cX11_ripe 266 = .ok (.istore 6, 2) := wn_at gdX11_ripe_256 5 rfl
theorem dX11_ripe_268 : decode cX11_ripe 268 = .ok (.iinc 7 1, 3) := wn_at gdX11_ripe_256 6 rfl
theorem dX11_ripe_271 : decode cX11_ripe 271 = .ok (.goto (-108), 3) := wn_at gdX11_ripe_256 7 rfl
theorem dX11_ripe_274 : decode cX11_ripe 274 = .ok (.iload 6, 2) := wn_at gdX11_ripe_256 8 rfl
theorem dX11_ripe_276 : decode cX11_ripe 276 = .ok (.ireturn, 1) := wn_at gdX11_ripe_256 9 rfl
theorem gdX11_owed_0 : ∀ e ∈ ([(0, .aload_n 0, 1), (1, .iload_n 1, 1), (2, .invokevirtual 299, 3), (5, .ifCond .eq 51, 3), (8, .iload_n 2, 1), (9, .i2l, 1), (10, .lconst 1, 1), (11, .ldc2_w 365, 3), (14, .invokestatic 131, 3), (17, .ifCond .eq 39, 3)] : List (Nat × Instr × Nat)), decode cX11_owed e.1 = .ok e.2 := wn_all _ 0 (by decide +kernel)
theorem dX11_owed_0 : decode cX11_owed 0 = .ok (.aload_n 0, 1) := wn_at gdX11_owed_0 0 rfl
theorem dX11_owed_1 : decode cX11_owed 1 = .ok (.iload_n 1, 1) := wn_at gdX11_owed_0 1 rfl
theorem dX11_owed_2 : decode cX11_owed 2 = .ok (.invokevirtual 299, 3) := wn_at gdX11_owed_0 2 rfl
theorem dX11_owed_5 : decode cX11_owed 5 = .ok (.ifCond .eq 51, 3) := wn_at gdX11_owed_0 3 rfl
theorem dX11_owed_8 : decode cX11_owed 8 = .ok (.iload_n 2, 1) := wn_at gdX11_owed_0 4 rfl
theorem dX11_owed_9 : decode cX11_owed 9 = .ok (.i2l, 1) := wn_at gdX11_owed_0 5 rfl
theorem dX11_owed_10 : decode cX11_owed 10 = .ok (.lconst 1, 1) := wn_at gdX11_owed_0 6 rfl
theorem dX11_owed_11 : decode cX11_owed 11 = .ok (.ldc2_w 365, 3) := wn_at gdX11_owed_0 7 rfl
theorem dX11_owed_14 : decode cX11_owed 14 = .ok (.invokestatic 131, 3) := wn_at gdX11_owed_0 8 rfl
theorem dX11_owed_17 : decode cX11_owed 17 = .ok (.ifCond .eq 39, 3) := wn_at gdX11_owed_0 9 rfl
theorem gdX11_owed_20 : ∀ e ∈ ([(20, .iload_n 3, 1), (21, .i2l, 1), (22, .lconst 0, 1), (23, .ldc2_w 402, 3), (26, .invokestatic 131, 3), (29, .ifCond .eq 27, 3), (32, .iload 4, 2), (34, .i2l, 1), (35, .lconst 0, 1), (36, .ldc2_w 365, 3)] : List (Nat × Instr × Nat)), decode cX11_owed e.1 = .ok e.2 := wn_all _ 20 (by decide +kernel)
theorem dX11_owed_20 : decode cX11_owed 20 = .ok (.iload_n 3, 1) := wn_at gdX11_owed_20 0 rfl
theorem dX11_owed_21 : decode cX11_owed 21 = .ok (.i2l, 1) := wn_at gdX11_owed_20 1 rfl
theorem dX11_owed_22 : decode cX11_owed 22 = .ok (.lconst 0, 1) := wn_at gdX11_owed_20 2 rfl
theorem dX11_owed_23 : decode cX11_owed 23 = .ok (.ldc2_w 402, 3) := wn_at gdX11_owed_20 3 rfl
theorem dX11_owed_26 : decode cX11_owed 26 = .ok (.invokestatic 131, 3) := wn_at gdX11_owed_20 4 rfl
theorem dX11_owed_29 : decode cX11_owed 29 = .ok (.ifCond .eq 27, 3) := wn_at gdX11_owed_20 5 rfl
theorem dX11_owed_32 : decode cX11_owed 32 = .ok (.iload 4, 2) := wn_at gdX11_owed_20 6 rfl
theorem dX11_owed_34 : decode cX11_owed 34 = .ok (.i2l, 1) := wn_at gdX11_owed_20 7 rfl
theorem dX11_owed_35 : decode cX11_owed 35 = .ok (.lconst 0, 1) := wn_at gdX11_owed_20 8 rfl
theorem dX11_owed_36 : decode cX11_owed 36 = .ok (.ldc2_w 365, 3) := wn_at gdX11_owed_20 9 rfl
theorem gdX11_owed_39 : ∀ e ∈ ([(39, .invokestatic 131, 3), (42, .ifCond .eq 14, 3), (45, .iload 5, 2), (47, .i2l, 1), (48, .lconst 0, 1), (49, .lconst 1, 1), (50, .invokestatic 131, 3), (53, .ifCond .ne 7, 3), (56, .ldc2_w 321, 3), (59, .lreturn, 1)] : List (Nat × Instr × Nat)), decode cX11_owed e.1 = .ok e.2 := wn_all _ 39 (by decide +kernel)
theorem dX11_owed_39 : decode cX11_owed 39 = .ok (.invokestatic 131, 3) := wn_at gdX11_owed_39 0 rfl
theorem dX11_owed_42 : decode cX11_owed 42 = .ok (.ifCond .eq 14, 3) := wn_at gdX11_owed_39 1 rfl
theorem dX11_owed_45 : decode cX11_owed 45 = .ok (.iload 5, 2) := wn_at gdX11_owed_39 2 rfl
theorem dX11_owed_47 : decode cX11_owed 47 = .ok (.i2l, 1) := wn_at gdX11_owed_39 3 rfl
theorem dX11_owed_48 : decode cX11_owed 48 = .ok (.lconst 0, 1) := wn_at gdX11_owed_39 4 rfl
theorem dX11_owed_49 : decode cX11_owed 49 = .ok (.lconst 1, 1) := wn_at gdX11_owed_39 5 rfl
theorem dX11_owed_50 : decode cX11_owed 50 = .ok (.invokestatic 131, 3) := wn_at gdX11_owed_39 6 rfl
theorem dX11_owed_53 : decode cX11_owed 53 = .ok (.ifCond .ne 7, 3) := wn_at gdX11_owed_39 7 rfl
theorem dX11_owed_56 : decode cX11_owed 56 = .ok (.ldc2_w 321, 3) := wn_at gdX11_owed_39 8 rfl
theorem dX11_owed_59 : decode cX11_owed 59 = .ok (.lreturn, 1) := wn_at gdX11_owed_39 9 rfl
theorem gdX11_owed_60 : ∀ e ∈ ([(60, .ldc2_w 407, 3), (63, .aload_n 0, 1), (64, .getfield 45, 3), (67, .bipush 10, 2), (69, .iconst 2, 1), (70, .iload_n 1, 1), (71, .imul, 1), (72, .iadd, 1), (73, .iconst 1, 1), (74, .iadd, 1)] : List (Nat × Instr × Nat)), decode cX11_owed e.1 = .ok e.2 := wn_all _ 60 (by decide +kernel)
theorem dX11_owed_60 : decode cX11_owed 60 = .ok (.ldc2_w 407, 3) := wn_at gdX11_owed_60 0 rfl
theorem dX11_owed_63 : decode cX11_owed 63 = .ok (.aload_n 0, 1) := wn_at gdX11_owed_60 1 rfl
theorem dX11_owed_64 : decode cX11_owed 64 = .ok (.getfield 45, 3) := wn_at gdX11_owed_60 2 rfl
theorem dX11_owed_67 : decode cX11_owed 67 = .ok (.bipush 10, 2) := wn_at gdX11_owed_60 3 rfl
theorem dX11_owed_69 : decode cX11_owed 69 = .ok (.iconst 2, 1) := wn_at gdX11_owed_60 4 rfl
theorem dX11_owed_70 : decode cX11_owed 70 = .ok (.iload_n 1, 1) := wn_at gdX11_owed_60 5 rfl
theorem dX11_owed_71 : decode cX11_owed 71 = .ok (.imul, 1) := wn_at gdX11_owed_60 6 rfl
theorem dX11_owed_72 : decode cX11_owed 72 = .ok (.iadd, 1) := wn_at gdX11_owed_60 7 rfl
theorem dX11_owed_73 : decode cX11_owed 73 = .ok (.iconst 1, 1) := wn_at gdX11_owed_60 8 rfl
theorem dX11_owed_74 : decode cX11_owed 74 = .ok (.iadd, 1) := wn_at gdX11_owed_60 9 rfl
theorem gdX11_owed_75 : ∀ e ∈ ([(75, .iaload, 1), (76, .i2l, 1), (77, .lmul, 1), (78, .lstore 6, 2), (80, .iload_n 2, 1), (81, .i2l, 1), (82, .lload 6, 2), (84, .lmul, 1), (85, .iload_n 2, 1), (86, .i2l, 1)] : List (Nat × Instr × Nat)), decode cX11_owed e.1 = .ok e.2 := wn_all _ 75 (by decide +kernel)
theorem dX11_owed_75 : decode cX11_owed 75 = .ok (.iaload, 1) := wn_at gdX11_owed_75 0 rfl
theorem dX11_owed_76 : decode cX11_owed 76 = .ok (.i2l, 1) := wn_at gdX11_owed_75 1 rfl
theorem dX11_owed_77 : decode cX11_owed 77 = .ok (.lmul, 1) := wn_at gdX11_owed_75 2 rfl
theorem dX11_owed_78 : decode cX11_owed 78 = .ok (.lstore 6, 2) := wn_at gdX11_owed_75 3 rfl
theorem dX11_owed_80 : decode cX11_owed 80 = .ok (.iload_n 2, 1) := wn_at gdX11_owed_75 4 rfl
theorem dX11_owed_81 : decode cX11_owed 81 = .ok (.i2l, 1) := wn_at gdX11_owed_75 5 rfl
theorem dX11_owed_82 : decode cX11_owed 82 = .ok (.lload 6, 2) := wn_at gdX11_owed_75 6 rfl
theorem dX11_owed_84 : decode cX11_owed 84 = .ok (.lmul, 1) := wn_at gdX11_owed_75 7 rfl
theorem dX11_owed_85 : decode cX11_owed 85 = .ok (.iload_n 2, 1) := wn_at gdX11_owed_75 8 rfl
theorem dX11_owed_86 : decode cX11_owed 86 = .ok (.i2l, 1) := wn_at gdX11_owed_75 9 rfl
theorem gdX11_owed_87 : ∀ e ∈ ([(87, .iload_n 3, 1), (88, .i2l, 1), (89, .lmul, 1), (90, .iload 4, 2), (92, .i2l, 1), (93, .lmul, 1), (94, .aload_n 0, 1), (95, .getfield 45, 3), (98, .bipush 10, 2), (100, .iconst 2, 1)] : List (Nat × Instr × Nat)), decode cX11_owed e.1 = .ok e.2 := wn_all _ 87 (by decide +kernel)
theorem dX11_owed_87 : decode cX11_owed 87 = .ok (.iload_n 3, 1) := wn_at gdX11_owed_87 0 rfl
theorem dX11_owed_88 : decode cX11_owed 88 = .ok (.i2l, 1) := wn_at gdX11_owed_87 1 rfl
theorem dX11_owed_89 : decode cX11_owed 89 = .ok (.lmul, 1) := wn_at gdX11_owed_87 2 rfl
theorem dX11_owed_90 : decode cX11_owed 90 = .ok (.iload 4, 2) := wn_at gdX11_owed_87 3 rfl
theorem dX11_owed_92 : decode cX11_owed 92 = .ok (.i2l, 1) := wn_at gdX11_owed_87 4 rfl
theorem dX11_owed_93 : decode cX11_owed 93 = .ok (.lmul, 1) := wn_at gdX11_owed_87 5 rfl
theorem dX11_owed_94 : decode cX11_owed 94 = .ok (.aload_n 0, 1) := wn_at gdX11_owed_87 6 rfl
theorem dX11_owed_95 : decode cX11_owed 95 = .ok (.getfield 45, 3) := wn_at gdX11_owed_87 7 rfl
theorem dX11_owed_98 : decode cX11_owed 98 = .ok (.bipush 10, 2) := wn_at gdX11_owed_87 8 rfl
theorem dX11_owed_100 : decode cX11_owed 100 = .ok (.iconst 2, 1) := wn_at gdX11_owed_87 9 rfl
theorem gdX11_owed_101 : ∀ e ∈ ([(101, .iload_n 1, 1), (102, .imul, 1), (103, .iadd, 1), (104, .iaload, 1), (105, .i2l, 1), (106, .lmul, 1), (107, .ladd, 1), (108, .lload 6, 2), (110, .iload 5, 2), (112, .invokestatic 307, 3)] : List (Nat × Instr × Nat)), decode cX11_owed e.1 = .ok e.2 := wn_all _ 101 (by decide +kernel)
theorem dX11_owed_101 : decode cX11_owed 101 = .ok (.iload_n 1, 1) := wn_at gdX11_owed_101 0 rfl
theorem dX11_owed_102 : decode cX11_owed 102 = .ok (.imul, 1) := wn_at gdX11_owed_101 1 rfl
theorem dX11_owed_103 : decode cX11_owed 103 = .ok (.iadd, 1) := wn_at gdX11_owed_101 2 rfl
theorem dX11_owed_104 : decode cX11_owed 104 = .ok (.iaload, 1) := wn_at gdX11_owed_101 3 rfl
theorem dX11_owed_105 : decode cX11_owed 105 = .ok (.i2l, 1) := wn_at gdX11_owed_101 4 rfl
theorem dX11_owed_106 : decode cX11_owed 106 = .ok (.lmul, 1) := wn_at gdX11_owed_101 5 rfl
theorem dX11_owed_107 : decode cX11_owed 107 = .ok (.ladd, 1) := wn_at gdX11_owed_101 6 rfl
theorem dX11_owed_108 : decode cX11_owed 108 = .ok (.lload 6, 2) := wn_at gdX11_owed_101 7 rfl
theorem dX11_owed_110 : decode cX11_owed 110 = .ok (.iload 5, 2) := wn_at gdX11_owed_101 8 rfl
theorem dX11_owed_112 : decode cX11_owed 112 = .ok (.invokestatic 307, 3) := wn_at gdX11_owed_101 9 rfl
theorem gdX11_owed_115 : ∀ e ∈ ([(115, .lreturn, 1)] : List (Nat × Instr × Nat)), decode cX11_owed e.1 = .ok e.2 := wn_all _ 115 (by decide +kernel)
theorem dX11_owed_115 : decode cX11_owed 115 = .ok (.lreturn, 1) := wn_at gdX11_owed_115 0 rfl
theorem gdX11_hands_0 : ∀ e ∈ ([(0, .aload_n 0, 1), (1, .iload_n 1, 1), (2, .invokevirtual 299, 3), (5, .ifCond .eq 36, 3), (8, .aload_n 0, 1), (9, .iload_n 2, 1), (10, .invokevirtual 299, 3), (13, .ifCond .eq 28, 3), (16, .iload_n 3, 1), (17, .i2l, 1)] : List (Nat × Instr × Nat)), decode cX11_hands e.1 = .ok e.2 := wn_all _ 0 (by decide +kernel)
theorem dX11_hands_0 : decode cX11_hands 0 = .ok (.aload_n 0, 1) := wn_at gdX11_hands_0 0 rfl
theorem dX11_hands_1 : decode cX11_hands 1 = .ok (.iload_n 1, 1) := wn_at gdX11_hands_0 1 rfl
theorem dX11_hands_2 : decode cX11_hands 2 = .ok (.invokevirtual 299, 3) := wn_at gdX11_hands_0 2 rfl
theorem dX11_hands_5 : decode cX11_hands 5 = .ok (.ifCond .eq 36, 3) := wn_at gdX11_hands_0 3 rfl
theorem dX11_hands_8 : decode cX11_hands 8 = .ok (.aload_n 0, 1) := wn_at gdX11_hands_0 4 rfl
theorem dX11_hands_9 : decode cX11_hands 9 = .ok (.iload_n 2, 1) := wn_at gdX11_hands_0 5 rfl
theorem dX11_hands_10 : decode cX11_hands 10 = .ok (.invokevirtual 299, 3) := wn_at gdX11_hands_0 6 rfl
theorem dX11_hands_13 : decode cX11_hands 13 = .ok (.ifCond .eq 28, 3) := wn_at gdX11_hands_0 7 rfl
theorem dX11_hands_16 : decode cX11_hands 16 = .ok (.iload_n 3, 1) := wn_at gdX11_hands_0 8 rfl
theorem dX11_hands_17 : decode cX11_hands 17 = .ok (.i2l, 1) := wn_at gdX11_hands_0 9 rfl
theorem gdX11_hands_18 : ∀ e ∈ ([(18, .lconst 1, 1), (19, .ldc2_w 365, 3), (22, .invokestatic 131, 3), (25, .ifCond .eq 16, 3), (28, .iload 4, 2), (30, .i2l, 1), (31, .lconst 1, 1), (32, .ldc2_w 365, 3), (35, .invokestatic 131, 3), (38, .ifCond .ne 5, 3)] : List (Nat × Instr × Nat)), decode cX11_hands e.1 = .ok e.2 := wn_all _ 18 (by decide +kernel)
theorem dX11_hands_18 : decode cX11_hands 18 = .ok (.lconst 1, 1) := wn_at gdX11_hands_18 0 rfl
theorem dX11_hands_19 : decode cX11_hands 19 = .ok (.ldc2_w 365, 3) := wn_at gdX11_hands_18 1 rfl
theorem dX11_hands_22 : decode cX11_hands 22 = .ok (.invokestatic 131, 3) := wn_at gdX11_hands_18 2 rfl
theorem dX11_hands_25 : decode cX11_hands 25 = .ok (.ifCond .eq 16, 3) := wn_at gdX11_hands_18 3 rfl
theorem dX11_hands_28 : decode cX11_hands 28 = .ok (.iload 4, 2) := wn_at gdX11_hands_18 4 rfl
theorem dX11_hands_30 : decode cX11_hands 30 = .ok (.i2l, 1) := wn_at gdX11_hands_18 5 rfl
theorem dX11_hands_31 : decode cX11_hands 31 = .ok (.lconst 1, 1) := wn_at gdX11_hands_18 6 rfl
theorem dX11_hands_32 : decode cX11_hands 32 = .ok (.ldc2_w 365, 3) := wn_at gdX11_hands_18 7 rfl
theorem dX11_hands_35 : decode cX11_hands 35 = .ok (.invokestatic 131, 3) := wn_at gdX11_hands_18 8 rfl
theorem dX11_hands_38 : decode cX11_hands 38 = .ok (.ifCond .ne 5, 3) := wn_at gdX11_hands_18 9 rfl
theorem gdX11_hands_41 : ∀ e ∈ ([(41, .iconst (-1), 1), (42, .ireturn, 1), (43, .iload_n 3, 1), (44, .i2l, 1), (45, .aload_n 0, 1), (46, .getfield 45, 3), (49, .bipush 10, 2), (51, .iconst 2, 1), (52, .iload_n 2, 1), (53, .imul, 1)] : List (Nat × Instr × Nat)), decode cX11_hands e.1 = .ok e.2 := wn_all _ 41 (by decide +kernel)
theorem dX11_hands_41 : decode cX11_hands 41 = .ok (.iconst (-1), 1) := wn_at gdX11_hands_41 0 rfl
theorem dX11_hands_42 : decode cX11_hands 42 = .ok (.ireturn, 1) := wn_at gdX11_hands_41 1 rfl
theorem dX11_hands_43 : decode cX11_hands 43 = .ok (.iload_n 3, 1) := wn_at gdX11_hands_41 2 rfl
theorem dX11_hands_44 : decode cX11_hands 44 = .ok (.i2l, 1) := wn_at gdX11_hands_41 3 rfl
theorem dX11_hands_45 : decode cX11_hands 45 = .ok (.aload_n 0, 1) := wn_at gdX11_hands_41 4 rfl
theorem dX11_hands_46 : decode cX11_hands 46 = .ok (.getfield 45, 3) := wn_at gdX11_hands_41 5 rfl
theorem dX11_hands_49 : decode cX11_hands 49 = .ok (.bipush 10, 2) := wn_at gdX11_hands_41 6 rfl
theorem dX11_hands_51 : decode cX11_hands 51 = .ok (.iconst 2, 1) := wn_at gdX11_hands_41 7 rfl
theorem dX11_hands_52 : decode cX11_hands 52 = .ok (.iload_n 2, 1) := wn_at gdX11_hands_41 8 rfl
theorem dX11_hands_53 : decode cX11_hands 53 = .ok (.imul, 1) := wn_at gdX11_hands_41 9 rfl
theorem gdX11_hands_54 : ∀ e ∈ ([(54, .iadd, 1), (55, .iaload, 1), (56, .i2l, 1), (57, .lmul, 1), (58, .aload_n 0, 1), (59, .getfield 45, 3), (62, .bipush 10, 2), (64, .iconst 2, 1), (65, .iload_n 1, 1), (66, .imul, 1)] : List (Nat × Instr × Nat)), decode cX11_hands e.1 = .ok e.2 := wn_all _ 54 (by decide +kernel)
theorem dX11_hands_54 : decode cX11_hands 54 = .ok (.iadd, 1) := wn_at gdX11_hands_54 0 rfl
theorem dX11_hands_55 : decode cX11_hands 55 = .ok (.iaload, 1) := wn_at gdX11_hands_54 1 rfl
theorem dX11_hands_56 : decode cX11_hands 56 = .ok (.i2l, 1) := wn_at gdX11_hands_54 2 rfl
theorem dX11_hands_57 : decode cX11_hands 57 = .ok (.lmul, 1) := wn_at gdX11_hands_54 3 rfl
theorem dX11_hands_58 : decode cX11_hands 58 = .ok (.aload_n 0, 1) := wn_at gdX11_hands_54 4 rfl
theorem dX11_hands_59 : decode cX11_hands 59 = .ok (.getfield 45, 3) := wn_at gdX11_hands_54 5 rfl
theorem dX11_hands_62 : decode cX11_hands 62 = .ok (.bipush 10, 2) := wn_at gdX11_hands_54 6 rfl
theorem dX11_hands_64 : decode cX11_hands 64 = .ok (.iconst 2, 1) := wn_at gdX11_hands_54 7 rfl
theorem dX11_hands_65 : decode cX11_hands 65 = .ok (.iload_n 1, 1) := wn_at gdX11_hands_54 8 rfl
theorem dX11_hands_66 : decode cX11_hands 66 = .ok (.imul, 1) := wn_at gdX11_hands_54 9 rfl
theorem gdX11_hands_67 : ∀ e ∈ ([(67, .iadd, 1), (68, .iconst 1, 1), (69, .iadd, 1), (70, .iaload, 1), (71, .i2l, 1), (72, .lmul, 1), (73, .lstore 5, 2), (75, .iload 4, 2), (77, .i2l, 1), (78, .aload_n 0, 1)] : List (Nat × Instr × Nat)), decode cX11_hands e.1 = .ok e.2 := wn_all _ 67 (by decide +kernel)
theorem dX11_hands_67 : decode cX11_hands 67 = .ok (.iadd, 1) := wn_at gdX11_hands_67 0 rfl
theorem dX11_hands_68 : decode cX11_hands 68 = .ok (.iconst 1, 1) := wn_at gdX11_hands_67 1 rfl
theorem dX11_hands_69 : decode cX11_hands 69 = .ok (.iadd, 1) := wn_at gdX11_hands_67 2 rfl
theorem dX11_hands_70 : decode cX11_hands 70 = .ok (.iaload, 1) := wn_at gdX11_hands_67 3 rfl
theorem dX11_hands_71 : decode cX11_hands 71 = .ok (.i2l, 1) := wn_at gdX11_hands_67 4 rfl
theorem dX11_hands_72 : decode cX11_hands 72 = .ok (.lmul, 1) := wn_at gdX11_hands_67 5 rfl
theorem dX11_hands_73 : decode cX11_hands 73 = .ok (.lstore 5, 2) := wn_at gdX11_hands_67 6 rfl
theorem dX11_hands_75 : decode cX11_hands 75 = .ok (.iload 4, 2) := wn_at gdX11_hands_67 7 rfl
theorem dX11_hands_77 : decode cX11_hands 77 = .ok (.i2l, 1) := wn_at gdX11_hands_67 8 rfl
theorem dX11_hands_78 : decode cX11_hands 78 = .ok (.aload_n 0, 1) := wn_at gdX11_hands_67 9 rfl
theorem gdX11_hands_79 : ∀ e ∈ ([(79, .getfield 45, 3), (82, .bipush 10, 2), (84, .iconst 2, 1), (85, .iload_n 2, 1), (86, .imul, 1), (87, .iadd, 1), (88, .iconst 1, 1), (89, .iadd, 1), (90, .iaload, 1), (91, .i2l, 1)] : List (Nat × Instr × Nat)), decode cX11_hands e.1 = .ok e.2 := wn_all _ 79 (by decide +kernel)
theorem dX11_hands_79 : decode cX11_hands 79 = .ok (.getfield 45, 3) := wn_at gdX11_hands_79 0 rfl
theorem dX11_hands_82 : decode cX11_hands 82 = .ok (.bipush 10, 2) := wn_at gdX11_hands_79 1 rfl
theorem dX11_hands_84 : decode cX11_hands 84 = .ok (.iconst 2, 1) := wn_at gdX11_hands_79 2 rfl
theorem dX11_hands_85 : decode cX11_hands 85 = .ok (.iload_n 2, 1) := wn_at gdX11_hands_79 3 rfl
theorem dX11_hands_86 : decode cX11_hands 86 = .ok (.imul, 1) := wn_at gdX11_hands_79 4 rfl
theorem dX11_hands_87 : decode cX11_hands 87 = .ok (.iadd, 1) := wn_at gdX11_hands_79 5 rfl
theorem dX11_hands_88 : decode cX11_hands 88 = .ok (.iconst 1, 1) := wn_at gdX11_hands_79 6 rfl
theorem dX11_hands_89 : decode cX11_hands 89 = .ok (.iadd, 1) := wn_at gdX11_hands_79 7 rfl
theorem dX11_hands_90 : decode cX11_hands 90 = .ok (.iaload, 1) := wn_at gdX11_hands_79 8 rfl
theorem dX11_hands_91 : decode cX11_hands 91 = .ok (.i2l, 1) := wn_at gdX11_hands_79 9 rfl
theorem gdX11_hands_92 : ∀ e ∈ ([(92, .lmul, 1), (93, .aload_n 0, 1), (94, .getfield 45, 3), (97, .bipush 10, 2), (99, .iconst 2, 1), (100, .iload_n 1, 1), (101, .imul, 1), (102, .iadd, 1), (103, .iaload, 1), (104, .i2l, 1)] : List (Nat × Instr × Nat)), decode cX11_hands e.1 = .ok e.2 := wn_all _ 92 (by decide +kernel)
theorem dX11_hands_92 : decode cX11_hands 92 = .ok (.lmul, 1) := wn_at gdX11_hands_92 0 rfl
theorem dX11_hands_93 : decode cX11_hands 93 = .ok (.aload_n 0, 1) := wn_at gdX11_hands_92 1 rfl
theorem dX11_hands_94 : decode cX11_hands 94 = .ok (.getfield 45, 3) := wn_at gdX11_hands_92 2 rfl
theorem dX11_hands_97 : decode cX11_hands 97 = .ok (.bipush 10, 2) := wn_at gdX11_hands_92 3 rfl
theorem dX11_hands_99 : decode cX11_hands 99 = .ok (.iconst 2, 1) := wn_at gdX11_hands_92 4 rfl
theorem dX11_hands_100 : decode cX11_hands 100 = .ok (.iload_n 1, 1) := wn_at gdX11_hands_92 5 rfl
theorem dX11_hands_101 : decode cX11_hands 101 = .ok (.imul, 1) := wn_at gdX11_hands_92 6 rfl
theorem dX11_hands_102 : decode cX11_hands 102 = .ok (.iadd, 1) := wn_at gdX11_hands_92 7 rfl
theorem dX11_hands_103 : decode cX11_hands 103 = .ok (.iaload, 1) := wn_at gdX11_hands_92 8 rfl
theorem dX11_hands_104 : decode cX11_hands 104 = .ok (.i2l, 1) := wn_at gdX11_hands_92 9 rfl
theorem gdX11_hands_105 : ∀ e ∈ ([(105, .lmul, 1), (106, .lstore 7, 2), (108, .lload 5, 2), (110, .lload 7, 2), (112, .ladd, 1), (113, .lconst 1, 1), (114, .lsub, 1), (115, .lload 7, 2), (117, .ldiv, 1), (118, .l2i, 1)] : List (Nat × Instr × Nat)), decode cX11_hands e.1 = .ok e.2 := wn_all _ 105 (by decide +kernel)
theorem dX11_hands_105 : decode cX11_hands 105 = .ok (.lmul, 1) := wn_at gdX11_hands_105 0 rfl
theorem dX11_hands_106 : decode cX11_hands 106 = .ok (.lstore 7, 2) := wn_at gdX11_hands_105 1 rfl
theorem dX11_hands_108 : decode cX11_hands 108 = .ok (.lload 5, 2) := wn_at gdX11_hands_105 2 rfl
theorem dX11_hands_110 : decode cX11_hands 110 = .ok (.lload 7, 2) := wn_at gdX11_hands_105 3 rfl
theorem dX11_hands_112 : decode cX11_hands 112 = .ok (.ladd, 1) := wn_at gdX11_hands_105 4 rfl
theorem dX11_hands_113 : decode cX11_hands 113 = .ok (.lconst 1, 1) := wn_at gdX11_hands_105 5 rfl
theorem dX11_hands_114 : decode cX11_hands 114 = .ok (.lsub, 1) := wn_at gdX11_hands_105 6 rfl
theorem dX11_hands_115 : decode cX11_hands 115 = .ok (.lload 7, 2) := wn_at gdX11_hands_105 7 rfl
theorem dX11_hands_117 : decode cX11_hands 117 = .ok (.ldiv, 1) := wn_at gdX11_hands_105 8 rfl
theorem dX11_hands_118 : decode cX11_hands 118 = .ok (.l2i, 1) := wn_at gdX11_hands_105 9 rfl
theorem gdX11_hands_119 : ∀ e ∈ ([(119, .ireturn, 1)] : List (Nat × Instr × Nat)), decode cX11_hands e.1 = .ok e.2 := wn_all _ 119 (by decide +kernel)
theorem dX11_hands_119 : decode cX11_hands 119 = .ok (.ireturn, 1) := wn_at gdX11_hands_119 0 rfl
theorem gdX11_letter_0 : ∀ e ∈ ([(0, .iload_n 1, 1), (1, .iconst (-1), 1), (2, .if_icmp .ne 12, 3), (5, .aload_n 0, 1), (6, .getfield 45, 3), (9, .iconst 4, 1), (10, .iconst 0, 1), (11, .iastore, 1), (12, .iconst 0, 1), (13, .ireturn, 1)] : List (Nat × Instr × Nat)), decode cX11_letter e.1 = .ok e.2 := wn_all _ 0 (by decide +kernel)
theorem dX11_letter_0 : decode cX11_letter 0 = .ok (.iload_n 1, 1) := wn_at gdX11_letter_0 0 rfl
theorem dX11_letter_1 : decode cX11_letter 1 = .ok (.iconst (-1), 1) := wn_at gdX11_letter_0 1 rfl
theorem dX11_letter_2 : decode cX11_letter 2 = .ok (.if_icmp .ne 12, 3) := wn_at gdX11_letter_0 2 rfl
theorem dX11_letter_5 : decode cX11_letter 5 = .ok (.aload_n 0, 1) := wn_at gdX11_letter_0 3 rfl
theorem dX11_letter_6 : decode cX11_letter 6 = .ok (.getfield 45, 3) := wn_at gdX11_letter_0 4 rfl
theorem dX11_letter_9 : decode cX11_letter 9 = .ok (.iconst 4, 1) := wn_at gdX11_letter_0 5 rfl
theorem dX11_letter_10 : decode cX11_letter 10 = .ok (.iconst 0, 1) := wn_at gdX11_letter_0 6 rfl
theorem dX11_letter_11 : decode cX11_letter 11 = .ok (.iastore, 1) := wn_at gdX11_letter_0 7 rfl
theorem dX11_letter_12 : decode cX11_letter 12 = .ok (.iconst 0, 1) := wn_at gdX11_letter_0 8 rfl
theorem dX11_letter_13 : decode cX11_letter 13 = .ok (.ireturn, 1) := wn_at gdX11_letter_0 9 rfl
theorem gdX11_letter_14 : ∀ e ∈ ([(14, .aload_n 0, 1), (15, .getfield 45, 3), (18, .iconst 4, 1), (19, .iaload, 1), (20, .bipush 12, 2), (22, .if_icmp .eq 44, 3), (25, .aload_n 0, 1), (26, .iload_n 1, 1), (27, .invokevirtual 299, 3), (30, .ifCond .eq 36, 3)] : List (Nat × Instr × Nat)), decode cX11_letter e.1 = .ok e.2 := wn_all _ 14 (by decide +kernel)
theorem dX11_letter_14 : decode cX11_letter 14 = .ok (.aload_n 0, 1) := wn_at gdX11_letter_14 0 rfl
theorem dX11_letter_15 : decode cX11_letter 15 = .ok (.getfield 45, 3) := wn_at gdX11_letter_14 1 rfl
theorem dX11_letter_18 : decode cX11_letter 18 = .ok (.iconst 4, 1) := wn_at gdX11_letter_14 2 rfl
theorem dX11_letter_19 : decode cX11_letter 19 = .ok (.iaload, 1) := wn_at gdX11_letter_14 3 rfl
theorem dX11_letter_20 : decode cX11_letter 20 = .ok (.bipush 12, 2) := wn_at gdX11_letter_14 4 rfl
theorem dX11_letter_22 : decode cX11_letter 22 = .ok (.if_icmp .eq 44, 3) := wn_at gdX11_letter_14 5 rfl
theorem dX11_letter_25 : decode cX11_letter 25 = .ok (.aload_n 0, 1) := wn_at gdX11_letter_14 6 rfl
theorem dX11_letter_26 : decode cX11_letter 26 = .ok (.iload_n 1, 1) := wn_at gdX11_letter_14 7 rfl
theorem dX11_letter_27 : decode cX11_letter 27 = .ok (.invokevirtual 299, 3) := wn_at gdX11_letter_14 8 rfl
theorem dX11_letter_30 : decode cX11_letter 30 = .ok (.ifCond .eq 36, 3) := wn_at gdX11_letter_14 9 rfl
theorem gdX11_letter_33 : ∀ e ∈ ([(33, .aload_n 0, 1), (34, .iload_n 2, 1), (35, .invokevirtual 299, 3), (38, .ifCond .eq 28, 3), (41, .iload_n 3, 1), (42, .i2l, 1), (43, .lconst 0, 1), (44, .ldc2_w 365, 3), (47, .invokestatic 131, 3), (50, .ifCond .eq 16, 3)] : List (Nat × Instr × Nat)), decode cX11_letter e.1 = .ok e.2 := wn_all _ 33 (by decide +kernel)
theorem dX11_letter_33 : decode cX11_letter 33 = .ok (.aload_n 0, 1) := wn_at gdX11_letter_33 0 rfl
theorem dX11_letter_34 : decode cX11_letter 34 = .ok (.iload_n 2, 1) := wn_at gdX11_letter_33 1 rfl
theorem dX11_letter_35 : decode cX11_letter 35 = .ok (.invokevirtual 299, 3) := wn_at gdX11_letter_33 2 rfl
theorem dX11_letter_38 : decode cX11_letter 38 = .ok (.ifCond .eq 28, 3) := wn_at gdX11_letter_33 3 rfl
theorem dX11_letter_41 : decode cX11_letter 41 = .ok (.iload_n 3, 1) := wn_at gdX11_letter_33 4 rfl
theorem dX11_letter_42 : decode cX11_letter 42 = .ok (.i2l, 1) := wn_at gdX11_letter_33 5 rfl
theorem dX11_letter_43 : decode cX11_letter 43 = .ok (.lconst 0, 1) := wn_at gdX11_letter_33 6 rfl
theorem dX11_letter_44 : decode cX11_letter 44 = .ok (.ldc2_w 365, 3) := wn_at gdX11_letter_33 7 rfl
theorem dX11_letter_47 : decode cX11_letter 47 = .ok (.invokestatic 131, 3) := wn_at gdX11_letter_33 8 rfl
theorem dX11_letter_50 : decode cX11_letter 50 = .ok (.ifCond .eq 16, 3) := wn_at gdX11_letter_33 9 rfl
theorem gdX11_letter_53 : ∀ e ∈ ([(53, .aload_n 0, 1), (54, .iload_n 1, 1), (55, .iload_n 2, 1), (56, .invokevirtual 289, 3), (59, .ldc2_w 287, 3), (62, .lcmp, 1), (63, .ifCond .lt 6, 3), (66, .bipush (-2), 2), (68, .ireturn, 1), (69, .bipush 122, 2)] : List (Nat × Instr × Nat)), decode cX11_letter e.1 = .ok e.2 := wn_all _ 53 (by decide +kernel)
theorem dX11_letter_53 : decode cX11_letter 53 = .ok (.aload_n 0, 1) := wn_at gdX11_letter_53 0 rfl
theorem dX11_letter_54 : decode cX11_letter 54 = .ok (.iload_n 1, 1) := wn_at gdX11_letter_53 1 rfl
theorem dX11_letter_55 : decode cX11_letter 55 = .ok (.iload_n 2, 1) := wn_at gdX11_letter_53 2 rfl
theorem dX11_letter_56 : decode cX11_letter 56 = .ok (.invokevirtual 289, 3) := wn_at gdX11_letter_53 3 rfl
theorem dX11_letter_59 : decode cX11_letter 59 = .ok (.ldc2_w 287, 3) := wn_at gdX11_letter_53 4 rfl
theorem dX11_letter_62 : decode cX11_letter 62 = .ok (.lcmp, 1) := wn_at gdX11_letter_53 5 rfl
theorem dX11_letter_63 : decode cX11_letter 63 = .ok (.ifCond .lt 6, 3) := wn_at gdX11_letter_53 6 rfl
theorem dX11_letter_66 : decode cX11_letter 66 = .ok (.bipush (-2), 2) := wn_at gdX11_letter_53 7 rfl
theorem dX11_letter_68 : decode cX11_letter 68 = .ok (.ireturn, 1) := wn_at gdX11_letter_53 8 rfl
theorem dX11_letter_69 : decode cX11_letter 69 = .ok (.bipush 122, 2) := wn_at gdX11_letter_53 9 rfl
theorem gdX11_letter_71 : ∀ e ∈ ([(71, .iconst 3, 1), (72, .aload_n 0, 1), (73, .getfield 45, 3), (76, .iconst 4, 1), (77, .iaload, 1), (78, .imul, 1), (79, .iadd, 1), (80, .istore 4, 2), (82, .aload_n 0, 1), (83, .getfield 45, 3)] : List (Nat × Instr × Nat)), decode cX11_letter e.1 = .ok e.2 := wn_all _ 71 (by decide +kernel)
theorem dX11_letter_71 : decode cX11_letter 71 = .ok (.iconst 3, 1) := wn_at gdX11_letter_71 0 rfl
theorem dX11_letter_72 : decode cX11_letter 72 = .ok (.aload_n 0, 1) := wn_at gdX11_letter_71 1 rfl
theorem dX11_letter_73 : decode cX11_letter 73 = .ok (.getfield 45, 3) := wn_at gdX11_letter_71 2 rfl
theorem dX11_letter_76 : decode cX11_letter 76 = .ok (.iconst 4, 1) := wn_at gdX11_letter_71 3 rfl
theorem dX11_letter_77 : decode cX11_letter 77 = .ok (.iaload, 1) := wn_at gdX11_letter_71 4 rfl
theorem dX11_letter_78 : decode cX11_letter 78 = .ok (.imul, 1) := wn_at gdX11_letter_71 5 rfl
theorem dX11_letter_79 : decode cX11_letter 79 = .ok (.iadd, 1) := wn_at gdX11_letter_71 6 rfl
theorem dX11_letter_80 : decode cX11_letter 80 = .ok (.istore 4, 2) := wn_at gdX11_letter_71 7 rfl
theorem dX11_letter_82 : decode cX11_letter 82 = .ok (.aload_n 0, 1) := wn_at gdX11_letter_71 8 rfl
theorem dX11_letter_83 : decode cX11_letter 83 = .ok (.getfield 45, 3) := wn_at gdX11_letter_71 9 rfl
theorem gdX11_letter_86 : ∀ e ∈ ([(86, .iload 4, 2), (88, .iload_n 1, 1), (89, .iastore, 1), (90, .aload_n 0, 1), (91, .getfield 45, 3), (94, .iload 4, 2), (96, .iconst 1, 1), (97, .iadd, 1), (98, .iload_n 2, 1), (99, .iastore, 1)] : List (Nat × Instr × Nat)), decode cX11_letter e.1 = .ok e.2 := wn_all _ 86 (by decide +kernel)
theorem dX11_letter_86 : decode cX11_letter 86 = .ok (.iload 4, 2) := wn_at gdX11_letter_86 0 rfl
theorem dX11_letter_88 : decode cX11_letter 88 = .ok (.iload_n 1, 1) := wn_at gdX11_letter_86 1 rfl
theorem dX11_letter_89 : decode cX11_letter 89 = .ok (.iastore, 1) := wn_at gdX11_letter_86 2 rfl
theorem dX11_letter_90 : decode cX11_letter 90 = .ok (.aload_n 0, 1) := wn_at gdX11_letter_86 3 rfl
theorem dX11_letter_91 : decode cX11_letter 91 = .ok (.getfield 45, 3) := wn_at gdX11_letter_86 4 rfl
theorem dX11_letter_94 : decode cX11_letter 94 = .ok (.iload 4, 2) := wn_at gdX11_letter_86 5 rfl
theorem dX11_letter_96 : decode cX11_letter 96 = .ok (.iconst 1, 1) := wn_at gdX11_letter_86 6 rfl
theorem dX11_letter_97 : decode cX11_letter 97 = .ok (.iadd, 1) := wn_at gdX11_letter_86 7 rfl
theorem dX11_letter_98 : decode cX11_letter 98 = .ok (.iload_n 2, 1) := wn_at gdX11_letter_86 8 rfl
theorem dX11_letter_99 : decode cX11_letter 99 = .ok (.iastore, 1) := wn_at gdX11_letter_86 9 rfl
theorem gdX11_letter_100 : ∀ e ∈ ([(100, .aload_n 0, 1), (101, .getfield 45, 3), (104, .iload 4, 2), (106, .iconst 2, 1), (107, .iadd, 1), (108, .iload_n 3, 1), (109, .iastore, 1), (110, .aload_n 0, 1), (111, .getfield 45, 3), (114, .iconst 4, 1)] : List (Nat × Instr × Nat)), decode cX11_letter e.1 = .ok e.2 := wn_all _ 100 (by decide +kernel)
theorem dX11_letter_100 : decode cX11_letter 100 = .ok (.aload_n 0, 1) := wn_at gdX11_letter_100 0 rfl
theorem dX11_letter_101 : decode cX11_letter 101 = .ok (.getfield 45, 3) := wn_at gdX11_letter_100 1 rfl
theorem dX11_letter_104 : decode cX11_letter 104 = .ok (.iload 4, 2) := wn_at gdX11_letter_100 2 rfl
theorem dX11_letter_106 : decode cX11_letter 106 = .ok (.iconst 2, 1) := wn_at gdX11_letter_100 3 rfl
theorem dX11_letter_107 : decode cX11_letter 107 = .ok (.iadd, 1) := wn_at gdX11_letter_100 4 rfl
theorem dX11_letter_108 : decode cX11_letter 108 = .ok (.iload_n 3, 1) := wn_at gdX11_letter_100 5 rfl
theorem dX11_letter_109 : decode cX11_letter 109 = .ok (.iastore, 1) := wn_at gdX11_letter_100 6 rfl
theorem dX11_letter_110 : decode cX11_letter 110 = .ok (.aload_n 0, 1) := wn_at gdX11_letter_100 7 rfl
theorem dX11_letter_111 : decode cX11_letter 111 = .ok (.getfield 45, 3) := wn_at gdX11_letter_100 8 rfl
theorem dX11_letter_114 : decode cX11_letter 114 = .ok (.iconst 4, 1) := wn_at gdX11_letter_100 9 rfl
theorem gdX11_letter_115 : ∀ e ∈ ([(115, .dup2, 1), (116, .iaload, 1), (117, .iconst 1, 1), (118, .iadd, 1), (119, .iastore, 1), (120, .aload_n 0, 1), (121, .getfield 45, 3), (124, .iconst 4, 1), (125, .iaload, 1), (126, .ireturn, 1)] : List (Nat × Instr × Nat)), decode cX11_letter e.1 = .ok e.2 := wn_all _ 115 (by decide +kernel)
theorem dX11_letter_115 : decode cX11_letter 115 = .ok (.dup2, 1) := wn_at gdX11_letter_115 0 rfl
theorem dX11_letter_116 : decode cX11_letter 116 = .ok (.iaload, 1) := wn_at gdX11_letter_115 1 rfl
theorem dX11_letter_117 : decode cX11_letter 117 = .ok (.iconst 1, 1) := wn_at gdX11_letter_115 2 rfl
theorem dX11_letter_118 : decode cX11_letter 118 = .ok (.iadd, 1) := wn_at gdX11_letter_115 3 rfl
theorem dX11_letter_119 : decode cX11_letter 119 = .ok (.iastore, 1) := wn_at gdX11_letter_115 4 rfl
theorem dX11_letter_120 : decode cX11_letter 120 = .ok (.aload_n 0, 1) := wn_at gdX11_letter_115 5 rfl
theorem dX11_letter_121 : decode cX11_letter 121 = .ok (.getfield 45, 3) := wn_at gdX11_letter_115 6 rfl
theorem dX11_letter_124 : decode cX11_letter 124 = .ok (.iconst 4, 1) := wn_at gdX11_letter_115 7 rfl
theorem dX11_letter_125 : decode cX11_letter 125 = .ok (.iaload, 1) := wn_at gdX11_letter_115 8 rfl
theorem dX11_letter_126 : decode cX11_letter 126 = .ok (.ireturn, 1) := wn_at gdX11_letter_115 9 rfl
theorem gdX11_letterOf_0 : ∀ e ∈ ([(0, .aload_n 0, 1), (1, .getfield 45, 3), (4, .bipush 122, 2), (6, .iconst 3, 1), (7, .iload_n 1, 1), (8, .imul, 1), (9, .iadd, 1), (10, .iload_n 2, 1), (11, .iadd, 1), (12, .iaload, 1)] : List (Nat × Instr × Nat)), decode cX11_letterOf e.1 = .ok e.2 := wn_all _ 0 (by decide +kernel)
theorem dX11_letterOf_0 : decode cX11_letterOf 0 = .ok (.aload_n 0, 1) := wn_at gdX11_letterOf_0 0 rfl
theorem dX11_letterOf_1 : decode cX11_letterOf 1 = .ok (.getfield 45, 3) := wn_at gdX11_letterOf_0 1 rfl
theorem dX11_letterOf_4 : decode cX11_letterOf 4 = .ok (.bipush 122, 2) := wn_at gdX11_letterOf_0 2 rfl
theorem dX11_letterOf_6 : decode cX11_letterOf 6 = .ok (.iconst 3, 1) := wn_at gdX11_letterOf_0 3 rfl
theorem dX11_letterOf_7 : decode cX11_letterOf 7 = .ok (.iload_n 1, 1) := wn_at gdX11_letterOf_0 4 rfl
theorem dX11_letterOf_8 : decode cX11_letterOf 8 = .ok (.imul, 1) := wn_at gdX11_letterOf_0 5 rfl
theorem dX11_letterOf_9 : decode cX11_letterOf 9 = .ok (.iadd, 1) := wn_at gdX11_letterOf_0 6 rfl
theorem dX11_letterOf_10 : decode cX11_letterOf 10 = .ok (.iload_n 2, 1) := wn_at gdX11_letterOf_0 7 rfl
theorem dX11_letterOf_11 : decode cX11_letterOf 11 = .ok (.iadd, 1) := wn_at gdX11_letterOf_0 8 rfl
theorem dX11_letterOf_12 : decode cX11_letterOf 12 = .ok (.iaload, 1) := wn_at gdX11_letterOf_0 9 rfl
theorem gdX11_letterOf_13 : ∀ e ∈ ([(13, .ireturn, 1)] : List (Nat × Instr × Nat)), decode cX11_letterOf e.1 = .ok e.2 := wn_all _ 13 (by decide +kernel)
theorem dX11_letterOf_13 : decode cX11_letterOf 13 = .ok (.ireturn, 1) := wn_at gdX11_letterOf_13 0 rfl
theorem gdX11_comesAt_0 : ∀ e ∈ ([(0, .aload_n 0, 1), (1, .iload_n 1, 1), (2, .iconst 2, 1), (3, .invokevirtual 409, 3), (6, .aload_n 0, 1), (7, .aload_n 0, 1), (8, .iload_n 1, 1), (9, .iconst 0, 1), (10, .invokevirtual 409, 3), (13, .aload_n 0, 1)] : List (Nat × Instr × Nat)), decode cX11_comesAt e.1 = .ok e.2 := wn_all _ 0 (by decide +kernel)
theorem dX11_comesAt_0 : decode cX11_comesAt 0 = .ok (.aload_n 0, 1) := wn_at gdX11_comesAt_0 0 rfl
theorem dX11_comesAt_1 : decode cX11_comesAt 1 = .ok (.iload_n 1, 1) := wn_at gdX11_comesAt_0 1 rfl
theorem dX11_comesAt_2 : decode cX11_comesAt 2 = .ok (.iconst 2, 1) := wn_at gdX11_comesAt_0 2 rfl
theorem dX11_comesAt_3 : decode cX11_comesAt 3 = .ok (.invokevirtual 409, 3) := wn_at gdX11_comesAt_0 3 rfl
theorem dX11_comesAt_6 : decode cX11_comesAt 6 = .ok (.aload_n 0, 1) := wn_at gdX11_comesAt_0 4 rfl
theorem dX11_comesAt_7 : decode cX11_comesAt 7 = .ok (.aload_n 0, 1) := wn_at gdX11_comesAt_0 5 rfl
theorem dX11_comesAt_8 : decode cX11_comesAt 8 = .ok (.iload_n 1, 1) := wn_at gdX11_comesAt_0 6 rfl
theorem dX11_comesAt_9 : decode cX11_comesAt 9 = .ok (.iconst 0, 1) := wn_at gdX11_comesAt_0 7 rfl
theorem dX11_comesAt_10 : decode cX11_comesAt 10 = .ok (.invokevirtual 409, 3) := wn_at gdX11_comesAt_0 8 rfl
theorem dX11_comesAt_13 : decode cX11_comesAt 13 = .ok (.aload_n 0, 1) := wn_at gdX11_comesAt_0 9 rfl
theorem gdX11_comesAt_14 : ∀ e ∈ ([(14, .iload_n 1, 1), (15, .iconst 1, 1), (16, .invokevirtual 409, 3), (19, .invokevirtual 289, 3), (22, .l2i, 1), (23, .iadd, 1), (24, .ireturn, 1)] : List (Nat × Instr × Nat)), decode cX11_comesAt e.1 = .ok e.2 := wn_all _ 14 (by decide +kernel)
theorem dX11_comesAt_14 : decode cX11_comesAt 14 = .ok (.iload_n 1, 1) := wn_at gdX11_comesAt_14 0 rfl
theorem dX11_comesAt_15 : decode cX11_comesAt 15 = .ok (.iconst 1, 1) := wn_at gdX11_comesAt_14 1 rfl
theorem dX11_comesAt_16 : decode cX11_comesAt 16 = .ok (.invokevirtual 409, 3) := wn_at gdX11_comesAt_14 2 rfl
theorem dX11_comesAt_19 : decode cX11_comesAt 19 = .ok (.invokevirtual 289, 3) := wn_at gdX11_comesAt_14 3 rfl
theorem dX11_comesAt_22 : decode cX11_comesAt 22 = .ok (.l2i, 1) := wn_at gdX11_comesAt_14 4 rfl
theorem dX11_comesAt_23 : decode cX11_comesAt 23 = .ok (.iadd, 1) := wn_at gdX11_comesAt_14 5 rfl
theorem dX11_comesAt_24 : decode cX11_comesAt 24 = .ok (.ireturn, 1) := wn_at gdX11_comesAt_14 6 rfl
theorem gdX11_isEarly_0 : ∀ e ∈ ([(0, .aload_n 0, 1), (1, .iload_n 1, 1), (2, .invokevirtual 412, 3), (5, .i2l, 1), (6, .aload_n 0, 1), (7, .aload_n 0, 1), (8, .iload_n 1, 1), (9, .iconst 1, 1), (10, .invokevirtual 409, 3), (13, .invokevirtual 333, 3)] : List (Nat × Instr × Nat)), decode cX11_isEarly e.1 = .ok e.2 := wn_all _ 0 (by decide +kernel)
theorem dX11_isEarly_0 : decode cX11_isEarly 0 = .ok (.aload_n 0, 1) := wn_at gdX11_isEarly_0 0 rfl
theorem dX11_isEarly_1 : decode cX11_isEarly 1 = .ok (.iload_n 1, 1) := wn_at gdX11_isEarly_0 1 rfl
theorem dX11_isEarly_2 : decode cX11_isEarly 2 = .ok (.invokevirtual 412, 3) := wn_at gdX11_isEarly_0 2 rfl
theorem dX11_isEarly_5 : decode cX11_isEarly 5 = .ok (.i2l, 1) := wn_at gdX11_isEarly_0 3 rfl
theorem dX11_isEarly_6 : decode cX11_isEarly 6 = .ok (.aload_n 0, 1) := wn_at gdX11_isEarly_0 4 rfl
theorem dX11_isEarly_7 : decode cX11_isEarly 7 = .ok (.aload_n 0, 1) := wn_at gdX11_isEarly_0 5 rfl
theorem dX11_isEarly_8 : decode cX11_isEarly 8 = .ok (.iload_n 1, 1) := wn_at gdX11_isEarly_0 6 rfl
theorem dX11_isEarly_9 : decode cX11_isEarly 9 = .ok (.iconst 1, 1) := wn_at gdX11_isEarly_0 7 rfl
theorem dX11_isEarly_10 : decode cX11_isEarly 10 = .ok (.invokevirtual 409, 3) := wn_at gdX11_isEarly_0 8 rfl
theorem dX11_isEarly_13 : decode cX11_isEarly 13 = .ok (.invokevirtual 333, 3) := wn_at gdX11_isEarly_0 9 rfl
theorem gdX11_isEarly_16 : ∀ e ∈ ([(16, .lmul, 1), (17, .aload_n 0, 1), (18, .iload_n 1, 1), (19, .iconst 2, 1), (20, .invokevirtual 409, 3), (23, .i2l, 1), (24, .aload_n 0, 1), (25, .aload_n 0, 1), (26, .iload_n 1, 1), (27, .iconst 0, 1)] : List (Nat × Instr × Nat)), decode cX11_isEarly e.1 = .ok e.2 := wn_all _ 16 (by decide +kernel)
theorem dX11_isEarly_16 : decode cX11_isEarly 16 = .ok (.lmul, 1) := wn_at gdX11_isEarly_16 0 rfl
theorem dX11_isEarly_17 : decode cX11_isEarly 17 = .ok (.aload_n 0, 1) := wn_at gdX11_isEarly_16 1 rfl
theorem dX11_isEarly_18 : decode cX11_isEarly 18 = .ok (.iload_n 1, 1) := wn_at gdX11_isEarly_16 2 rfl
theorem dX11_isEarly_19 : decode cX11_isEarly 19 = .ok (.iconst 2, 1) := wn_at gdX11_isEarly_16 3 rfl
theorem dX11_isEarly_20 : decode cX11_isEarly 20 = .ok (.invokevirtual 409, 3) := wn_at gdX11_isEarly_16 4 rfl
theorem dX11_isEarly_23 : decode cX11_isEarly 23 = .ok (.i2l, 1) := wn_at gdX11_isEarly_16 5 rfl
theorem dX11_isEarly_24 : decode cX11_isEarly 24 = .ok (.aload_n 0, 1) := wn_at gdX11_isEarly_16 6 rfl
theorem dX11_isEarly_25 : decode cX11_isEarly 25 = .ok (.aload_n 0, 1) := wn_at gdX11_isEarly_16 7 rfl
theorem dX11_isEarly_26 : decode cX11_isEarly 26 = .ok (.iload_n 1, 1) := wn_at gdX11_isEarly_16 8 rfl
theorem dX11_isEarly_27 : decode cX11_isEarly 27 = .ok (.iconst 0, 1) := wn_at gdX11_isEarly_16 9 rfl
theorem gdX11_isEarly_28 : ∀ e ∈ ([(28, .invokevirtual 409, 3), (31, .invokevirtual 333, 3), (34, .lmul, 1), (35, .lcmp, 1), (36, .ifCond .ge 7, 3), (39, .iconst 1, 1), (40, .goto 4, 3), (43, .iconst 0, 1), (44, .ireturn, 1)] : List (Nat × Instr × Nat)), decode cX11_isEarly e.1 = .ok e.2 := wn_all _ 28 (by decide +kernel)
theorem dX11_isEarly_28 : decode cX11_isEarly 28 = .ok (.invokevirtual 409, 3) := wn_at gdX11_isEarly_28 0 rfl
theorem dX11_isEarly_31 : decode cX11_isEarly 31 = .ok (.invokevirtual 333, 3) := wn_at gdX11_isEarly_28 1 rfl
theorem dX11_isEarly_34 : decode cX11_isEarly 34 = .ok (.lmul, 1) := wn_at gdX11_isEarly_28 2 rfl
theorem dX11_isEarly_35 : decode cX11_isEarly 35 = .ok (.lcmp, 1) := wn_at gdX11_isEarly_28 3 rfl
theorem dX11_isEarly_36 : decode cX11_isEarly 36 = .ok (.ifCond .ge 7, 3) := wn_at gdX11_isEarly_28 4 rfl
theorem dX11_isEarly_39 : decode cX11_isEarly 39 = .ok (.iconst 1, 1) := wn_at gdX11_isEarly_28 5 rfl
theorem dX11_isEarly_40 : decode cX11_isEarly 40 = .ok (.goto 4, 3) := wn_at gdX11_isEarly_28 6 rfl
theorem dX11_isEarly_43 : decode cX11_isEarly 43 = .ok (.iconst 0, 1) := wn_at gdX11_isEarly_28 7 rfl
theorem dX11_isEarly_44 : decode cX11_isEarly 44 = .ok (.ireturn, 1) := wn_at gdX11_isEarly_28 8 rfl
theorem gdX11_letters_0 : ∀ e ∈ ([(0, .iload_n 1, 1), (1, .i2l, 1), (2, .lconst 0, 1), (3, .aload_n 0, 1), (4, .getfield 45, 3), (7, .iconst 4, 1), (8, .iaload, 1), (9, .iconst 1, 1), (10, .isub, 1), (11, .i2l, 1)] : List (Nat × Instr × Nat)), decode cX11_letters e.1 = .ok e.2 := wn_all _ 0 (by decide +kernel)
theorem dX11_letters_0 : decode cX11_letters 0 = .ok (.iload_n 1, 1) := wn_at gdX11_letters_0 0 rfl
theorem dX11_letters_1 : decode cX11_letters 1 = .ok (.i2l, 1) := wn_at gdX11_letters_0 1 rfl
theorem dX11_letters_2 : decode cX11_letters 2 = .ok (.lconst 0, 1) := wn_at gdX11_letters_0 2 rfl
theorem dX11_letters_3 : decode cX11_letters 3 = .ok (.aload_n 0, 1) := wn_at gdX11_letters_0 3 rfl
theorem dX11_letters_4 : decode cX11_letters 4 = .ok (.getfield 45, 3) := wn_at gdX11_letters_0 4 rfl
theorem dX11_letters_7 : decode cX11_letters 7 = .ok (.iconst 4, 1) := wn_at gdX11_letters_0 5 rfl
theorem dX11_letters_8 : decode cX11_letters 8 = .ok (.iaload, 1) := wn_at gdX11_letters_0 6 rfl
theorem dX11_letters_9 : decode cX11_letters 9 = .ok (.iconst 1, 1) := wn_at gdX11_letters_0 7 rfl
theorem dX11_letters_10 : decode cX11_letters 10 = .ok (.isub, 1) := wn_at gdX11_letters_0 8 rfl
theorem dX11_letters_11 : decode cX11_letters 11 = .ok (.i2l, 1) := wn_at gdX11_letters_0 9 rfl
theorem gdX11_letters_12 : ∀ e ∈ ([(12, .invokestatic 131, 3), (15, .ifCond .eq 15, 3), (18, .iload_n 2, 1), (19, .i2l, 1), (20, .lconst 0, 1), (21, .ldc2_w 314, 3), (24, .invokestatic 131, 3), (27, .ifCond .ne 5, 3), (30, .iconst (-1), 1), (31, .ireturn, 1)] : List (Nat × Instr × Nat)), decode cX11_letters e.1 = .ok e.2 := wn_all _ 12 (by decide +kernel)
theorem dX11_letters_12 : decode cX11_letters 12 = .ok (.invokestatic 131, 3) := wn_at gdX11_letters_12 0 rfl
theorem dX11_letters_15 : decode cX11_letters 15 = .ok (.ifCond .eq 15, 3) := wn_at gdX11_letters_12 1 rfl
theorem dX11_letters_18 : decode cX11_letters 18 = .ok (.iload_n 2, 1) := wn_at gdX11_letters_12 2 rfl
theorem dX11_letters_19 : decode cX11_letters 19 = .ok (.i2l, 1) := wn_at gdX11_letters_12 3 rfl
theorem dX11_letters_20 : decode cX11_letters 20 = .ok (.lconst 0, 1) := wn_at gdX11_letters_12 4 rfl
theorem dX11_letters_21 : decode cX11_letters 21 = .ok (.ldc2_w 314, 3) := wn_at gdX11_letters_12 5 rfl
theorem dX11_letters_24 : decode cX11_letters 24 = .ok (.invokestatic 131, 3) := wn_at gdX11_letters_12 6 rfl
theorem dX11_letters_27 : decode cX11_letters 27 = .ok (.ifCond .ne 5, 3) := wn_at gdX11_letters_12 7 rfl
theorem dX11_letters_30 : decode cX11_letters 30 = .ok (.iconst (-1), 1) := wn_at gdX11_letters_12 8 rfl
theorem dX11_letters_31 : decode cX11_letters 31 = .ok (.ireturn, 1) := wn_at gdX11_letters_12 9 rfl
theorem gdX11_letters_32 : ∀ e ∈ ([(32, .iload_n 2, 1), (33, .iconst 3, 1), (34, .if_icmp .ge 12, 3), (37, .aload_n 0, 1), (38, .iload_n 1, 1), (39, .iload_n 2, 1), (40, .invokevirtual 409, 3), (43, .goto 29, 3), (46, .iload_n 2, 1), (47, .iconst 3, 1)] : List (Nat × Instr × Nat)), decode cX11_letters e.1 = .ok e.2 := wn_all _ 32 (by decide +kernel)
theorem dX11_letters_32 : decode cX11_letters 32 = .ok (.iload_n 2, 1) := wn_at gdX11_letters_32 0 rfl
theorem dX11_letters_33 : decode cX11_letters 33 = .ok (.iconst 3, 1) := wn_at gdX11_letters_32 1 rfl
theorem dX11_letters_34 : decode cX11_letters 34 = .ok (.if_icmp .ge 12, 3) := wn_at gdX11_letters_32 2 rfl
theorem dX11_letters_37 : decode cX11_letters 37 = .ok (.aload_n 0, 1) := wn_at gdX11_letters_32 3 rfl
theorem dX11_letters_38 : decode cX11_letters 38 = .ok (.iload_n 1, 1) := wn_at gdX11_letters_32 4 rfl
theorem dX11_letters_39 : decode cX11_letters 39 = .ok (.iload_n 2, 1) := wn_at gdX11_letters_32 5 rfl
theorem dX11_letters_40 : decode cX11_letters 40 = .ok (.invokevirtual 409, 3) := wn_at gdX11_letters_32 6 rfl
theorem dX11_letters_43 : decode cX11_letters 43 = .ok (.goto 29, 3) := wn_at gdX11_letters_32 7 rfl
theorem dX11_letters_46 : decode cX11_letters 46 = .ok (.iload_n 2, 1) := wn_at gdX11_letters_32 8 rfl
theorem dX11_letters_47 : decode cX11_letters 47 = .ok (.iconst 3, 1) := wn_at gdX11_letters_32 9 rfl
theorem gdX11_letters_48 : ∀ e ∈ ([(48, .if_icmp .ne 11, 3), (51, .aload_n 0, 1), (52, .iload_n 1, 1), (53, .invokevirtual 412, 3), (56, .goto 16, 3), (59, .aload_n 0, 1), (60, .iload_n 1, 1), (61, .invokevirtual 415, 3), (64, .ifCond .eq 7, 3), (67, .iconst 1, 1)] : List (Nat × Instr × Nat)), decode cX11_letters e.1 = .ok e.2 := wn_all _ 48 (by decide +kernel)
theorem dX11_letters_48 : decode cX11_letters 48 = .ok (.if_icmp .ne 11, 3) := wn_at gdX11_letters_48 0 rfl
theorem dX11_letters_51 : decode cX11_letters 51 = .ok (.aload_n 0, 1) := wn_at gdX11_letters_48 1 rfl
theorem dX11_letters_52 : decode cX11_letters 52 = .ok (.iload_n 1, 1) := wn_at gdX11_letters_48 2 rfl
theorem dX11_letters_53 : decode cX11_letters 53 = .ok (.invokevirtual 412, 3) := wn_at gdX11_letters_48 3 rfl
theorem dX11_letters_56 : decode cX11_letters 56 = .ok (.goto 16, 3) := wn_at gdX11_letters_48 4 rfl
theorem dX11_letters_59 : decode cX11_letters 59 = .ok (.aload_n 0, 1) := wn_at gdX11_letters_48 5 rfl
theorem dX11_letters_60 : decode cX11_letters 60 = .ok (.iload_n 1, 1) := wn_at gdX11_letters_48 6 rfl
theorem dX11_letters_61 : decode cX11_letters 61 = .ok (.invokevirtual 415, 3) := wn_at gdX11_letters_48 7 rfl
theorem dX11_letters_64 : decode cX11_letters 64 = .ok (.ifCond .eq 7, 3) := wn_at gdX11_letters_48 8 rfl
theorem dX11_letters_67 : decode cX11_letters 67 = .ok (.iconst 1, 1) := wn_at gdX11_letters_48 9 rfl
theorem gdX11_letters_68 : ∀ e ∈ ([(68, .goto 4, 3), (71, .iconst 0, 1), (72, .ireturn, 1)] : List (Nat × Instr × Nat)), decode cX11_letters e.1 = .ok e.2 := wn_all _ 68 (by decide +kernel)
theorem dX11_letters_68 : decode cX11_letters 68 = .ok (.goto 4, 3) := wn_at gdX11_letters_68 0 rfl
theorem dX11_letters_71 : decode cX11_letters 71 = .ok (.iconst 0, 1) := wn_at gdX11_letters_68 1 rfl
theorem dX11_letters_72 : decode cX11_letters 72 = .ok (.ireturn, 1) := wn_at gdX11_letters_68 2 rfl
theorem gdX11_sentAt_0 : ∀ e ∈ ([(0, .aload_n 0, 1), (1, .iload_n 1, 1), (2, .iconst 2, 1), (3, .invokevirtual 409, 3), (6, .i2l, 1), (7, .aload_n 0, 1), (8, .aload_n 0, 1), (9, .iload_n 1, 1), (10, .iconst 0, 1), (11, .invokevirtual 409, 3)] : List (Nat × Instr × Nat)), decode cX11_sentAt e.1 = .ok e.2 := wn_all _ 0 (by decide +kernel)
theorem dX11_sentAt_0 : decode cX11_sentAt 0 = .ok (.aload_n 0, 1) := wn_at gdX11_sentAt_0 0 rfl
theorem dX11_sentAt_1 : decode cX11_sentAt 1 = .ok (.iload_n 1, 1) := wn_at gdX11_sentAt_0 1 rfl
theorem dX11_sentAt_2 : decode cX11_sentAt 2 = .ok (.iconst 2, 1) := wn_at gdX11_sentAt_0 2 rfl
theorem dX11_sentAt_3 : decode cX11_sentAt 3 = .ok (.invokevirtual 409, 3) := wn_at gdX11_sentAt_0 3 rfl
theorem dX11_sentAt_6 : decode cX11_sentAt 6 = .ok (.i2l, 1) := wn_at gdX11_sentAt_0 4 rfl
theorem dX11_sentAt_7 : decode cX11_sentAt 7 = .ok (.aload_n 0, 1) := wn_at gdX11_sentAt_0 5 rfl
theorem dX11_sentAt_8 : decode cX11_sentAt 8 = .ok (.aload_n 0, 1) := wn_at gdX11_sentAt_0 6 rfl
theorem dX11_sentAt_9 : decode cX11_sentAt 9 = .ok (.iload_n 1, 1) := wn_at gdX11_sentAt_0 7 rfl
theorem dX11_sentAt_10 : decode cX11_sentAt 10 = .ok (.iconst 0, 1) := wn_at gdX11_sentAt_0 8 rfl
theorem dX11_sentAt_11 : decode cX11_sentAt 11 = .ok (.invokevirtual 409, 3) := wn_at gdX11_sentAt_0 9 rfl
theorem gdX11_sentAt_14 : ∀ e ∈ ([(14, .invokevirtual 333, 3), (17, .lmul, 1), (18, .lreturn, 1)] : List (Nat × Instr × Nat)), decode cX11_sentAt e.1 = .ok e.2 := wn_all _ 14 (by decide +kernel)
theorem dX11_sentAt_14 : decode cX11_sentAt 14 = .ok (.invokevirtual 333, 3) := wn_at gdX11_sentAt_14 0 rfl
theorem dX11_sentAt_17 : decode cX11_sentAt 17 = .ok (.lmul, 1) := wn_at gdX11_sentAt_14 1 rfl
theorem dX11_sentAt_18 : decode cX11_sentAt 18 = .ok (.lreturn, 1) := wn_at gdX11_sentAt_14 2 rfl
theorem gdX11_crossed_0 : ∀ e ∈ ([(0, .iconst 0, 1), (1, .istore_n 1, 1), (2, .iconst 0, 1), (3, .istore_n 2, 1), (4, .iload_n 2, 1), (5, .aload_n 0, 1), (6, .getfield 45, 3), (9, .iconst 4, 1), (10, .iaload, 1), (11, .if_icmp .ge 62, 3)] : List (Nat × Instr × Nat)), decode cX11_crossed e.1 = .ok e.2 := wn_all _ 0 (by decide +kernel)
theorem dX11_crossed_0 : decode cX11_crossed 0 = .ok (.iconst 0, 1) := wn_at gdX11_crossed_0 0 rfl
theorem dX11_crossed_1 : decode cX11_crossed 1 = .ok (.istore_n 1, 1) := wn_at gdX11_crossed_0 1 rfl
theorem dX11_crossed_2 : decode cX11_crossed 2 = .ok (.iconst 0, 1) := wn_at gdX11_crossed_0 2 rfl
theorem dX11_crossed_3 : decode cX11_crossed 3 = .ok (.istore_n 2, 1) := wn_at gdX11_crossed_0 3 rfl
theorem dX11_crossed_4 : decode cX11_crossed 4 = .ok (.iload_n 2, 1) := wn_at gdX11_crossed_0 4 rfl
theorem dX11_crossed_5 : decode cX11_crossed 5 = .ok (.aload_n 0, 1) := wn_at gdX11_crossed_0 5 rfl
theorem dX11_crossed_6 : decode cX11_crossed 6 = .ok (.getfield 45, 3) := wn_at gdX11_crossed_0 6 rfl
theorem dX11_crossed_9 : decode cX11_crossed 9 = .ok (.iconst 4, 1) := wn_at gdX11_crossed_0 7 rfl
theorem dX11_crossed_10 : decode cX11_crossed 10 = .ok (.iaload, 1) := wn_at gdX11_crossed_0 8 rfl
theorem dX11_crossed_11 : decode cX11_crossed 11 = .ok (.if_icmp .ge 62, 3) := wn_at gdX11_crossed_0 9 rfl
theorem gdX11_crossed_14 : ∀ e ∈ ([(14, .iconst 0, 1), (15, .istore_n 3, 1), (16, .iload_n 3, 1), (17, .aload_n 0, 1), (18, .getfield 45, 3), (21, .iconst 4, 1), (22, .iaload, 1), (23, .if_icmp .ge 44, 3), (26, .iload_n 1, 1), (27, .aload_n 0, 1)] : List (Nat × Instr × Nat)), decode cX11_crossed e.1 = .ok e.2 := wn_all _ 14 (by decide +kernel)
theorem dX11_crossed_14 : decode cX11_crossed 14 = .ok (.iconst 0, 1) := wn_at gdX11_crossed_14 0 rfl
theorem dX11_crossed_15 : decode cX11_crossed 15 = .ok (.istore_n 3, 1) := wn_at gdX11_crossed_14 1 rfl
theorem dX11_crossed_16 : decode cX11_crossed 16 = .ok (.iload_n 3, 1) := wn_at gdX11_crossed_14 2 rfl
theorem dX11_crossed_17 : decode cX11_crossed 17 = .ok (.aload_n 0, 1) := wn_at gdX11_crossed_14 3 rfl
theorem dX11_crossed_18 : decode cX11_crossed 18 = .ok (.getfield 45, 3) := wn_at gdX11_crossed_14 4 rfl
theorem dX11_crossed_21 : decode cX11_crossed 21 = .ok (.iconst 4, 1) := wn_at gdX11_crossed_14 5 rfl
theorem dX11_crossed_22 : decode cX11_crossed 22 = .ok (.iaload, 1) := wn_at gdX11_crossed_14 6 rfl
theorem dX11_crossed_23 : decode cX11_crossed 23 = .ok (.if_icmp .ge 44, 3) := wn_at gdX11_crossed_14 7 rfl
theorem dX11_crossed_26 : decode cX11_crossed 26 = .ok (.iload_n 1, 1) := wn_at gdX11_crossed_14 8 rfl
theorem dX11_crossed_27 : decode cX11_crossed 27 = .ok (.aload_n 0, 1) := wn_at gdX11_crossed_14 9 rfl
theorem gdX11_crossed_28 : ∀ e ∈ ([(28, .iload_n 2, 1), (29, .invokevirtual 418, 3), (32, .aload_n 0, 1), (33, .iload_n 3, 1), (34, .invokevirtual 418, 3), (37, .lcmp, 1), (38, .ifCond .ge 20, 3), (41, .aload_n 0, 1), (42, .iload_n 2, 1), (43, .invokevirtual 412, 3)] : List (Nat × Instr × Nat)), decode cX11_crossed e.1 = .ok e.2 := wn_all _ 28 (by decide +kernel)
theorem dX11_crossed_28 : decode cX11_crossed 28 = .ok (.iload_n 2, 1) := wn_at gdX11_crossed_28 0 rfl
theorem dX11_crossed_29 : decode cX11_crossed 29 = .ok (.invokevirtual 418, 3) := wn_at gdX11_crossed_28 1 rfl
theorem dX11_crossed_32 : decode cX11_crossed 32 = .ok (.aload_n 0, 1) := wn_at gdX11_crossed_28 2 rfl
theorem dX11_crossed_33 : decode cX11_crossed 33 = .ok (.iload_n 3, 1) := wn_at gdX11_crossed_28 3 rfl
theorem dX11_crossed_34 : decode cX11_crossed 34 = .ok (.invokevirtual 418, 3) := wn_at gdX11_crossed_28 4 rfl
theorem dX11_crossed_37 : decode cX11_crossed 37 = .ok (.lcmp, 1) := wn_at gdX11_crossed_28 5 rfl
theorem dX11_crossed_38 : decode cX11_crossed 38 = .ok (.ifCond .ge 20, 3) := wn_at gdX11_crossed_28 6 rfl
theorem dX11_crossed_41 : decode cX11_crossed 41 = .ok (.aload_n 0, 1) := wn_at gdX11_crossed_28 7 rfl
theorem dX11_crossed_42 : decode cX11_crossed 42 = .ok (.iload_n 2, 1) := wn_at gdX11_crossed_28 8 rfl
theorem dX11_crossed_43 : decode cX11_crossed 43 = .ok (.invokevirtual 412, 3) := wn_at gdX11_crossed_28 9 rfl
theorem gdX11_crossed_46 : ∀ e ∈ ([(46, .aload_n 0, 1), (47, .iload_n 3, 1), (48, .invokevirtual 412, 3), (51, .if_icmp .le 7, 3), (54, .iconst 1, 1), (55, .goto 4, 3), (58, .iconst 0, 1), (59, .iadd, 1), (60, .istore_n 1, 1), (61, .iinc 3 1, 3)] : List (Nat × Instr × Nat)), decode cX11_crossed e.1 = .ok e.2 := wn_all _ 46 (by decide +kernel)
theorem dX11_crossed_46 : decode cX11_crossed 46 = .ok (.aload_n 0, 1) := wn_at gdX11_crossed_46 0 rfl
theorem dX11_crossed_47 : decode cX11_crossed 47 = .ok (.iload_n 3, 1) := wn_at gdX11_crossed_46 1 rfl
theorem dX11_crossed_48 : decode cX11_crossed 48 = .ok (.invokevirtual 412, 3) := wn_at gdX11_crossed_46 2 rfl
theorem dX11_crossed_51 : decode cX11_crossed 51 = .ok (.if_icmp .le 7, 3) := wn_at gdX11_crossed_46 3 rfl
theorem dX11_crossed_54 : decode cX11_crossed 54 = .ok (.iconst 1, 1) := wn_at gdX11_crossed_46 4 rfl
theorem dX11_crossed_55 : decode cX11_crossed 55 = .ok (.goto 4, 3) := wn_at gdX11_crossed_46 5 rfl
theorem dX11_crossed_58 : decode cX11_crossed 58 = .ok (.iconst 0, 1) := wn_at gdX11_crossed_46 6 rfl
theorem dX11_crossed_59 : decode cX11_crossed 59 = .ok (.iadd, 1) := wn_at gdX11_crossed_46 7 rfl
theorem dX11_crossed_60 : decode cX11_crossed 60 = .ok (.istore_n 1, 1) := wn_at gdX11_crossed_46 8 rfl
theorem dX11_crossed_61 : decode cX11_crossed 61 = .ok (.iinc 3 1, 3) := wn_at gdX11_crossed_46 9 rfl
theorem gdX11_crossed_64 : ∀ e ∈ ([(64, .goto (-48), 3), (67, .iinc 2 1, 3), (70, .goto (-66), 3), (73, .iload_n 1, 1), (74, .ireturn, 1)] : List (Nat × Instr × Nat)), decode cX11_crossed e.1 = .ok e.2 := wn_all _ 64 (by decide +kernel)
theorem dX11_crossed_64 : decode cX11_crossed 64 = .ok (.goto (-48), 3) := wn_at gdX11_crossed_64 0 rfl
theorem dX11_crossed_67 : decode cX11_crossed 67 = .ok (.iinc 2 1, 3) := wn_at gdX11_crossed_64 1 rfl
theorem dX11_crossed_70 : decode cX11_crossed 70 = .ok (.goto (-66), 3) := wn_at gdX11_crossed_64 2 rfl
theorem dX11_crossed_73 : decode cX11_crossed 73 = .ok (.iload_n 1, 1) := wn_at gdX11_crossed_64 3 rfl
theorem dX11_crossed_74 : decode cX11_crossed 74 = .ok (.ireturn, 1) := wn_at gdX11_crossed_64 4 rfl
theorem gdX11_order_0 : ∀ e ∈ ([(0, .iload_n 1, 1), (1, .i2l, 1), (2, .lconst 0, 1), (3, .aload_n 0, 1), (4, .getfield 45, 3), (7, .iconst 4, 1), (8, .iaload, 1), (9, .iconst 1, 1), (10, .isub, 1), (11, .i2l, 1)] : List (Nat × Instr × Nat)), decode cX11_order e.1 = .ok e.2 := wn_all _ 0 (by decide +kernel)
theorem dX11_order_0 : decode cX11_order 0 = .ok (.iload_n 1, 1) := wn_at gdX11_order_0 0 rfl
theorem dX11_order_1 : decode cX11_order 1 = .ok (.i2l, 1) := wn_at gdX11_order_0 1 rfl
theorem dX11_order_2 : decode cX11_order 2 = .ok (.lconst 0, 1) := wn_at gdX11_order_0 2 rfl
theorem dX11_order_3 : decode cX11_order 3 = .ok (.aload_n 0, 1) := wn_at gdX11_order_0 3 rfl
theorem dX11_order_4 : decode cX11_order 4 = .ok (.getfield 45, 3) := wn_at gdX11_order_0 4 rfl
theorem dX11_order_7 : decode cX11_order 7 = .ok (.iconst 4, 1) := wn_at gdX11_order_0 5 rfl
theorem dX11_order_8 : decode cX11_order 8 = .ok (.iaload, 1) := wn_at gdX11_order_0 6 rfl
theorem dX11_order_9 : decode cX11_order 9 = .ok (.iconst 1, 1) := wn_at gdX11_order_0 7 rfl
theorem dX11_order_10 : decode cX11_order 10 = .ok (.isub, 1) := wn_at gdX11_order_0 8 rfl
theorem dX11_order_11 : decode cX11_order 11 = .ok (.i2l, 1) := wn_at gdX11_order_0 9 rfl
theorem gdX11_order_12 : ∀ e ∈ ([(12, .invokestatic 131, 3), (15, .ifCond .ne 5, 3), (18, .iconst (-1), 1), (19, .ireturn, 1), (20, .iconst 0, 1), (21, .istore_n 2, 1), (22, .iload_n 2, 1), (23, .aload_n 0, 1), (24, .getfield 45, 3), (27, .iconst 4, 1)] : List (Nat × Instr × Nat)), decode cX11_order e.1 = .ok e.2 := wn_all _ 12 (by decide +kernel)
theorem dX11_order_12 : decode cX11_order 12 = .ok (.invokestatic 131, 3) := wn_at gdX11_order_12 0 rfl
theorem dX11_order_15 : decode cX11_order 15 = .ok (.ifCond .ne 5, 3) := wn_at gdX11_order_12 1 rfl
theorem dX11_order_18 : decode cX11_order 18 = .ok (.iconst (-1), 1) := wn_at gdX11_order_12 2 rfl
theorem dX11_order_19 : decode cX11_order 19 = .ok (.ireturn, 1) := wn_at gdX11_order_12 3 rfl
theorem dX11_order_20 : decode cX11_order 20 = .ok (.iconst 0, 1) := wn_at gdX11_order_12 4 rfl
theorem dX11_order_21 : decode cX11_order 21 = .ok (.istore_n 2, 1) := wn_at gdX11_order_12 5 rfl
theorem dX11_order_22 : decode cX11_order 22 = .ok (.iload_n 2, 1) := wn_at gdX11_order_12 6 rfl
theorem dX11_order_23 : decode cX11_order 23 = .ok (.aload_n 0, 1) := wn_at gdX11_order_12 7 rfl
theorem dX11_order_24 : decode cX11_order 24 = .ok (.getfield 45, 3) := wn_at gdX11_order_12 8 rfl
theorem dX11_order_27 : decode cX11_order 27 = .ok (.iconst 4, 1) := wn_at gdX11_order_12 9 rfl
theorem gdX11_order_28 : ∀ e ∈ ([(28, .iaload, 1), (29, .if_icmp .ge 80, 3), (32, .iconst 0, 1), (33, .istore_n 3, 1), (34, .iconst 0, 1), (35, .istore 4, 2), (37, .iload 4, 2), (39, .aload_n 0, 1), (40, .getfield 45, 3), (43, .iconst 4, 1)] : List (Nat × Instr × Nat)), decode cX11_order e.1 = .ok e.2 := wn_all _ 28 (by decide +kernel)
theorem dX11_order_28 : decode cX11_order 28 = .ok (.iaload, 1) := wn_at gdX11_order_28 0 rfl
theorem dX11_order_29 : decode cX11_order 29 = .ok (.if_icmp .ge 80, 3) := wn_at gdX11_order_28 1 rfl
theorem dX11_order_32 : decode cX11_order 32 = .ok (.iconst 0, 1) := wn_at gdX11_order_28 2 rfl
theorem dX11_order_33 : decode cX11_order 33 = .ok (.istore_n 3, 1) := wn_at gdX11_order_28 3 rfl
theorem dX11_order_34 : decode cX11_order 34 = .ok (.iconst 0, 1) := wn_at gdX11_order_28 4 rfl
theorem dX11_order_35 : decode cX11_order 35 = .ok (.istore 4, 2) := wn_at gdX11_order_28 5 rfl
theorem dX11_order_37 : decode cX11_order 37 = .ok (.iload 4, 2) := wn_at gdX11_order_28 6 rfl
theorem dX11_order_39 : decode cX11_order 39 = .ok (.aload_n 0, 1) := wn_at gdX11_order_28 7 rfl
theorem dX11_order_40 : decode cX11_order 40 = .ok (.getfield 45, 3) := wn_at gdX11_order_28 8 rfl
theorem dX11_order_43 : decode cX11_order 43 = .ok (.iconst 4, 1) := wn_at gdX11_order_28 9 rfl
theorem gdX11_order_44 : ∀ e ∈ ([(44, .iaload, 1), (45, .if_icmp .ge 51, 3), (48, .iload_n 3, 1), (49, .aload_n 0, 1), (50, .iload 4, 2), (52, .invokevirtual 412, 3), (55, .aload_n 0, 1), (56, .iload_n 2, 1), (57, .invokevirtual 412, 3), (60, .if_icmp .lt 23, 3)] : List (Nat × Instr × Nat)), decode cX11_order e.1 = .ok e.2 := wn_all _ 44 (by decide +kernel)
theorem dX11_order_44 : decode cX11_order 44 = .ok (.iaload, 1) := wn_at gdX11_order_44 0 rfl
theorem dX11_order_45 : decode cX11_order 45 = .ok (.if_icmp .ge 51, 3) := wn_at gdX11_order_44 1 rfl
theorem dX11_order_48 : decode cX11_order 48 = .ok (.iload_n 3, 1) := wn_at gdX11_order_44 2 rfl
theorem dX11_order_49 : decode cX11_order 49 = .ok (.aload_n 0, 1) := wn_at gdX11_order_44 3 rfl
theorem dX11_order_50 : decode cX11_order 50 = .ok (.iload 4, 2) := wn_at gdX11_order_44 4 rfl
theorem dX11_order_52 : decode cX11_order 52 = .ok (.invokevirtual 412, 3) := wn_at gdX11_order_44 5 rfl
theorem dX11_order_55 : decode cX11_order 55 = .ok (.aload_n 0, 1) := wn_at gdX11_order_44 6 rfl
theorem dX11_order_56 : decode cX11_order 56 = .ok (.iload_n 2, 1) := wn_at gdX11_order_44 7 rfl
theorem dX11_order_57 : decode cX11_order 57 = .ok (.invokevirtual 412, 3) := wn_at gdX11_order_44 8 rfl
theorem dX11_order_60 : decode cX11_order 60 = .ok (.if_icmp .lt 23, 3) := wn_at gdX11_order_44 9 rfl
theorem gdX11_order_63 : ∀ e ∈ ([(63, .aload_n 0, 1), (64, .iload 4, 2), (66, .invokevirtual 412, 3), (69, .aload_n 0, 1), (70, .iload_n 2, 1), (71, .invokevirtual 412, 3), (74, .if_icmp .ne 13, 3), (77, .iload 4, 2), (79, .iload_n 2, 1), (80, .if_icmp .ge 7, 3)] : List (Nat × Instr × Nat)), decode cX11_order e.1 = .ok e.2 := wn_all _ 63 (by decide +kernel)
theorem dX11_order_63 : decode cX11_order 63 = .ok (.aload_n 0, 1) := wn_at gdX11_order_63 0 rfl
theorem dX11_order_64 : decode cX11_order 64 = .ok (.iload 4, 2) := wn_at gdX11_order_63 1 rfl
theorem dX11_order_66 : decode cX11_order 66 = .ok (.invokevirtual 412, 3) := wn_at gdX11_order_63 2 rfl
theorem dX11_order_69 : decode cX11_order 69 = .ok (.aload_n 0, 1) := wn_at gdX11_order_63 3 rfl
theorem dX11_order_70 : decode cX11_order 70 = .ok (.iload_n 2, 1) := wn_at gdX11_order_63 4 rfl
theorem dX11_order_71 : decode cX11_order 71 = .ok (.invokevirtual 412, 3) := wn_at gdX11_order_63 5 rfl
theorem dX11_order_74 : decode cX11_order 74 = .ok (.if_icmp .ne 13, 3) := wn_at gdX11_order_63 6 rfl
theorem dX11_order_77 : decode cX11_order 77 = .ok (.iload 4, 2) := wn_at gdX11_order_63 7 rfl
theorem dX11_order_79 : decode cX11_order 79 = .ok (.iload_n 2, 1) := wn_at gdX11_order_63 8 rfl
theorem dX11_order_80 : decode cX11_order 80 = .ok (.if_icmp .ge 7, 3) := wn_at gdX11_order_63 9 rfl
theorem gdX11_order_83 : ∀ e ∈ ([(83, .iconst 1, 1), (84, .goto 4, 3), (87, .iconst 0, 1), (88, .iadd, 1), (89, .istore_n 3, 1), (90, .iinc 4 1, 3), (93, .goto (-56), 3), (96, .iload_n 3, 1), (97, .iload_n 1, 1), (98, .if_icmp .ne 5, 3)] : List (Nat × Instr × Nat)), decode cX11_order e.1 = .ok e.2 := wn_all _ 83 (by decide +kernel)
theorem dX11_order_83 : decode cX11_order 83 = .ok (.iconst 1, 1) := wn_at gdX11_order_83 0 rfl
theorem dX11_order_84 : decode cX11_order 84 = .ok (.goto 4, 3) := wn_at gdX11_order_83 1 rfl
theorem dX11_order_87 : decode cX11_order 87 = .ok (.iconst 0, 1) := wn_at gdX11_order_83 2 rfl
theorem dX11_order_88 : decode cX11_order 88 = .ok (.iadd, 1) := wn_at gdX11_order_83 3 rfl
theorem dX11_order_89 : decode cX11_order 89 = .ok (.istore_n 3, 1) := wn_at gdX11_order_83 4 rfl
theorem dX11_order_90 : decode cX11_order 90 = .ok (.iinc 4 1, 3) := wn_at gdX11_order_83 5 rfl
theorem dX11_order_93 : decode cX11_order 93 = .ok (.goto (-56), 3) := wn_at gdX11_order_83 6 rfl
theorem dX11_order_96 : decode cX11_order 96 = .ok (.iload_n 3, 1) := wn_at gdX11_order_83 7 rfl
theorem dX11_order_97 : decode cX11_order 97 = .ok (.iload_n 1, 1) := wn_at gdX11_order_83 8 rfl
theorem dX11_order_98 : decode cX11_order 98 = .ok (.if_icmp .ne 5, 3) := wn_at gdX11_order_83 9 rfl
theorem gdX11_order_101 : ∀ e ∈ ([(101, .iload_n 2, 1), (102, .ireturn, 1), (103, .iinc 2 1, 3), (106, .goto (-84), 3), (109, .iconst (-1), 1), (110, .ireturn, 1)] : List (Nat × Instr × Nat)), decode cX11_order e.1 = .ok e.2 := wn_all _ 101 (by decide +kernel)
theorem dX11_order_101 : decode cX11_order 101 = .ok (.iload_n 2, 1) := wn_at gdX11_order_101 0 rfl
theorem dX11_order_102 : decode cX11_order 102 = .ok (.ireturn, 1) := wn_at gdX11_order_101 1 rfl
theorem dX11_order_103 : decode cX11_order 103 = .ok (.iinc 2 1, 3) := wn_at gdX11_order_101 2 rfl
theorem dX11_order_106 : decode cX11_order 106 = .ok (.goto (-84), 3) := wn_at gdX11_order_101 3 rfl
theorem dX11_order_109 : decode cX11_order 109 = .ok (.iconst (-1), 1) := wn_at gdX11_order_101 4 rfl
theorem dX11_order_110 : decode cX11_order 110 = .ok (.ireturn, 1) := wn_at gdX11_order_101 5 rfl
theorem gdX11_seed_0 : ∀ e ∈ ([(0, .iload_n 1, 1), (1, .ifCond .ge 5, 3), (4, .iconst (-1), 1), (5, .ireturn, 1), (6, .aload_n 0, 1), (7, .getfield 45, 3), (10, .iconst 5, 1), (11, .iaload, 1), (12, .istore_n 2, 1), (13, .aload_n 0, 1)] : List (Nat × Instr × Nat)), decode cX11_seed e.1 = .ok e.2 := wn_all _ 0 (by decide +kernel)
theorem dX11_seed_0 : decode cX11_seed 0 = .ok (.iload_n 1, 1) := wn_at gdX11_seed_0 0 rfl
theorem dX11_seed_1 : decode cX11_seed 1 = .ok (.ifCond .ge 5, 3) := wn_at gdX11_seed_0 1 rfl
theorem dX11_seed_4 : decode cX11_seed 4 = .ok (.iconst (-1), 1) := wn_at gdX11_seed_0 2 rfl
theorem dX11_seed_5 : decode cX11_seed 5 = .ok (.ireturn, 1) := wn_at gdX11_seed_0 3 rfl
theorem dX11_seed_6 : decode cX11_seed 6 = .ok (.aload_n 0, 1) := wn_at gdX11_seed_0 4 rfl
theorem dX11_seed_7 : decode cX11_seed 7 = .ok (.getfield 45, 3) := wn_at gdX11_seed_0 5 rfl
theorem dX11_seed_10 : decode cX11_seed 10 = .ok (.iconst 5, 1) := wn_at gdX11_seed_0 6 rfl
theorem dX11_seed_11 : decode cX11_seed 11 = .ok (.iaload, 1) := wn_at gdX11_seed_0 7 rfl
theorem dX11_seed_12 : decode cX11_seed 12 = .ok (.istore_n 2, 1) := wn_at gdX11_seed_0 8 rfl
theorem dX11_seed_13 : decode cX11_seed 13 = .ok (.aload_n 0, 1) := wn_at gdX11_seed_0 9 rfl
theorem gdX11_seed_14 : ∀ e ∈ ([(14, .getfield 45, 3), (17, .iconst 5, 1), (18, .iload_n 1, 1), (19, .iastore, 1), (20, .iload_n 2, 1), (21, .ireturn, 1)] : List (Nat × Instr × Nat)), decode cX11_seed e.1 = .ok e.2 := wn_all _ 14 (by decide +kernel)
theorem dX11_seed_14 : decode cX11_seed 14 = .ok (.getfield 45, 3) := wn_at gdX11_seed_14 0 rfl
theorem dX11_seed_17 : decode cX11_seed 17 = .ok (.iconst 5, 1) := wn_at gdX11_seed_14 1 rfl
theorem dX11_seed_18 : decode cX11_seed 18 = .ok (.iload_n 1, 1) := wn_at gdX11_seed_14 2 rfl
theorem dX11_seed_19 : decode cX11_seed 19 = .ok (.iastore, 1) := wn_at gdX11_seed_14 3 rfl
theorem dX11_seed_20 : decode cX11_seed 20 = .ok (.iload_n 2, 1) := wn_at gdX11_seed_14 4 rfl
theorem dX11_seed_21 : decode cX11_seed 21 = .ok (.ireturn, 1) := wn_at gdX11_seed_14 5 rfl
theorem gdX11_draw_0 : ∀ e ∈ ([(0, .aload_n 0, 1), (1, .aload_n 0, 1), (2, .getfield 421, 3), (5, .ldc2_w 425, 3), (8, .lmul, 1), (9, .ldc2_w 427, 3), (12, .ladd, 1), (13, .ldc2_w 429, 3), (16, .lrem, 1), (17, .putfield 421, 3)] : List (Nat × Instr × Nat)), decode cX11_draw e.1 = .ok e.2 := wn_all _ 0 (by decide +kernel)
theorem dX11_draw_0 : decode cX11_draw 0 = .ok (.aload_n 0, 1) := wn_at gdX11_draw_0 0 rfl
theorem dX11_draw_1 : decode cX11_draw 1 = .ok (.aload_n 0, 1) := wn_at gdX11_draw_0 1 rfl
theorem dX11_draw_2 : decode cX11_draw 2 = .ok (.getfield 421, 3) := wn_at gdX11_draw_0 2 rfl
theorem dX11_draw_5 : decode cX11_draw 5 = .ok (.ldc2_w 425, 3) := wn_at gdX11_draw_0 3 rfl
theorem dX11_draw_8 : decode cX11_draw 8 = .ok (.lmul, 1) := wn_at gdX11_draw_0 4 rfl
theorem dX11_draw_9 : decode cX11_draw 9 = .ok (.ldc2_w 427, 3) := wn_at gdX11_draw_0 5 rfl
theorem dX11_draw_12 : decode cX11_draw 12 = .ok (.ladd, 1) := wn_at gdX11_draw_0 6 rfl
theorem dX11_draw_13 : decode cX11_draw 13 = .ok (.ldc2_w 429, 3) := wn_at gdX11_draw_0 7 rfl
theorem dX11_draw_16 : decode cX11_draw 16 = .ok (.lrem, 1) := wn_at gdX11_draw_0 8 rfl
theorem dX11_draw_17 : decode cX11_draw 17 = .ok (.putfield 421, 3) := wn_at gdX11_draw_0 9 rfl
theorem gdX11_draw_20 : ∀ e ∈ ([(20, .aload_n 0, 1), (21, .getfield 421, 3), (24, .ldc2_w 431, 3), (27, .ldiv, 1), (28, .lreturn, 1)] : List (Nat × Instr × Nat)), decode cX11_draw e.1 = .ok e.2 := wn_all _ 20 (by decide +kernel)
theorem dX11_draw_20 : decode cX11_draw 20 = .ok (.aload_n 0, 1) := wn_at gdX11_draw_20 0 rfl
theorem dX11_draw_21 : decode cX11_draw 21 = .ok (.getfield 421, 3) := wn_at gdX11_draw_20 1 rfl
theorem dX11_draw_24 : decode cX11_draw 24 = .ok (.ldc2_w 431, 3) := wn_at gdX11_draw_20 2 rfl
theorem dX11_draw_27 : decode cX11_draw 27 = .ok (.ldiv, 1) := wn_at gdX11_draw_20 3 rfl
theorem dX11_draw_28 : decode cX11_draw 28 = .ok (.lreturn, 1) := wn_at gdX11_draw_20 4 rfl
theorem gdX11_wanders_0 : ∀ e ∈ ([(0, .aload_n 0, 1), (1, .iload_n 1, 1), (2, .iconst 0, 1), (3, .invokevirtual 296, 3), (6, .istore_n 2, 1), (7, .iload_n 2, 1), (8, .ifCond .lt 16, 3), (11, .aload_n 0, 1), (12, .invokevirtual 433, 3), (15, .ldc2_w 314, 3)] : List (Nat × Instr × Nat)), decode cX11_wanders e.1 = .ok e.2 := wn_all _ 0 (by decide +kernel)
theorem dX11_wanders_0 : decode cX11_wanders 0 = .ok (.aload_n 0, 1) := wn_at gdX11_wanders_0 0 rfl
theorem dX11_wanders_1 : decode cX11_wanders 1 = .ok (.iload_n 1, 1) := wn_at gdX11_wanders_0 1 rfl
theorem dX11_wanders_2 : decode cX11_wanders 2 = .ok (.iconst 0, 1) := wn_at gdX11_wanders_0 2 rfl
theorem dX11_wanders_3 : decode cX11_wanders 3 = .ok (.invokevirtual 296, 3) := wn_at gdX11_wanders_0 3 rfl
theorem dX11_wanders_6 : decode cX11_wanders 6 = .ok (.istore_n 2, 1) := wn_at gdX11_wanders_0 4 rfl
theorem dX11_wanders_7 : decode cX11_wanders 7 = .ok (.iload_n 2, 1) := wn_at gdX11_wanders_0 5 rfl
theorem dX11_wanders_8 : decode cX11_wanders 8 = .ok (.ifCond .lt 16, 3) := wn_at gdX11_wanders_0 6 rfl
theorem dX11_wanders_11 : decode cX11_wanders 11 = .ok (.aload_n 0, 1) := wn_at gdX11_wanders_0 7 rfl
theorem dX11_wanders_12 : decode cX11_wanders 12 = .ok (.invokevirtual 433, 3) := wn_at gdX11_wanders_0 8 rfl
theorem dX11_wanders_15 : decode cX11_wanders 15 = .ok (.ldc2_w 314, 3) := wn_at gdX11_wanders_0 9 rfl
theorem gdX11_wanders_18 : ∀ e ∈ ([(18, .lrem, 1), (19, .lconst 0, 1), (20, .lcmp, 1), (21, .ifCond .eq 4, 3), (24, .return_, 1), (25, .iconst 0, 1), (26, .istore_n 3, 1), (27, .iconst 0, 1), (28, .istore 4, 2), (30, .iload 4, 2)] : List (Nat × Instr × Nat)), decode cX11_wanders e.1 = .ok e.2 := wn_all _ 18 (by decide +kernel)
theorem dX11_wanders_18 : decode cX11_wanders 18 = .ok (.lrem, 1) := wn_at gdX11_wanders_18 0 rfl
theorem dX11_wanders_19 : decode cX11_wanders 19 = .ok (.lconst 0, 1) := wn_at gdX11_wanders_18 1 rfl
theorem dX11_wanders_20 : decode cX11_wanders 20 = .ok (.lcmp, 1) := wn_at gdX11_wanders_18 2 rfl
theorem dX11_wanders_21 : decode cX11_wanders 21 = .ok (.ifCond .eq 4, 3) := wn_at gdX11_wanders_18 3 rfl
theorem dX11_wanders_24 : decode cX11_wanders 24 = .ok (.return_, 1) := wn_at gdX11_wanders_18 4 rfl
theorem dX11_wanders_25 : decode cX11_wanders 25 = .ok (.iconst 0, 1) := wn_at gdX11_wanders_18 5 rfl
theorem dX11_wanders_26 : decode cX11_wanders 26 = .ok (.istore_n 3, 1) := wn_at gdX11_wanders_18 6 rfl
theorem dX11_wanders_27 : decode cX11_wanders 27 = .ok (.iconst 0, 1) := wn_at gdX11_wanders_18 7 rfl
theorem dX11_wanders_28 : decode cX11_wanders 28 = .ok (.istore 4, 2) := wn_at gdX11_wanders_18 8 rfl
theorem dX11_wanders_30 : decode cX11_wanders 30 = .ok (.iload 4, 2) := wn_at gdX11_wanders_18 9 rfl
theorem gdX11_wanders_32 : ∀ e ∈ ([(32, .aload_n 0, 1), (33, .getfield 45, 3), (36, .iconst 1, 1), (37, .iaload, 1), (38, .if_icmp .ge 27, 3), (41, .iload_n 3, 1), (42, .aload_n 0, 1), (43, .iload 4, 2), (45, .iload_n 2, 1), (46, .invokevirtual 293, 3)] : List (Nat × Instr × Nat)), decode cX11_wanders e.1 = .ok e.2 := wn_all _ 32 (by decide +kernel)
theorem dX11_wanders_32 : decode cX11_wanders 32 = .ok (.aload_n 0, 1) := wn_at gdX11_wanders_32 0 rfl
theorem dX11_wanders_33 : decode cX11_wanders 33 = .ok (.getfield 45, 3) := wn_at gdX11_wanders_32 1 rfl
theorem dX11_wanders_36 : decode cX11_wanders 36 = .ok (.iconst 1, 1) := wn_at gdX11_wanders_32 2 rfl
theorem dX11_wanders_37 : decode cX11_wanders 37 = .ok (.iaload, 1) := wn_at gdX11_wanders_32 3 rfl
theorem dX11_wanders_38 : decode cX11_wanders 38 = .ok (.if_icmp .ge 27, 3) := wn_at gdX11_wanders_32 4 rfl
theorem dX11_wanders_41 : decode cX11_wanders 41 = .ok (.iload_n 3, 1) := wn_at gdX11_wanders_32 5 rfl
theorem dX11_wanders_42 : decode cX11_wanders 42 = .ok (.aload_n 0, 1) := wn_at gdX11_wanders_32 6 rfl
theorem dX11_wanders_43 : decode cX11_wanders 43 = .ok (.iload 4, 2) := wn_at gdX11_wanders_32 7 rfl
theorem dX11_wanders_45 : decode cX11_wanders 45 = .ok (.iload_n 2, 1) := wn_at gdX11_wanders_32 8 rfl
theorem dX11_wanders_46 : decode cX11_wanders 46 = .ok (.invokevirtual 293, 3) := wn_at gdX11_wanders_32 9 rfl
theorem gdX11_wanders_49 : ∀ e ∈ ([(49, .ifCond .lt 7, 3), (52, .iconst 1, 1), (53, .goto 4, 3), (56, .iconst 0, 1), (57, .iadd, 1), (58, .istore_n 3, 1), (59, .iinc 4 1, 3), (62, .goto (-32), 3), (65, .iload_n 3, 1), (66, .ifCond .ne 4, 3)] : List (Nat × Instr × Nat)), decode cX11_wanders e.1 = .ok e.2 := wn_all _ 49 (by decide +kernel)
theorem dX11_wanders_49 : decode cX11_wanders 49 = .ok (.ifCond .lt 7, 3) := wn_at gdX11_wanders_49 0 rfl
theorem dX11_wanders_52 : decode cX11_wanders 52 = .ok (.iconst 1, 1) := wn_at gdX11_wanders_49 1 rfl
theorem dX11_wanders_53 : decode cX11_wanders 53 = .ok (.goto 4, 3) := wn_at gdX11_wanders_49 2 rfl
theorem dX11_wanders_56 : decode cX11_wanders 56 = .ok (.iconst 0, 1) := wn_at gdX11_wanders_49 3 rfl
theorem dX11_wanders_57 : decode cX11_wanders 57 = .ok (.iadd, 1) := wn_at gdX11_wanders_49 4 rfl
theorem dX11_wanders_58 : decode cX11_wanders 58 = .ok (.istore_n 3, 1) := wn_at gdX11_wanders_49 5 rfl
theorem dX11_wanders_59 : decode cX11_wanders 59 = .ok (.iinc 4 1, 3) := wn_at gdX11_wanders_49 6 rfl
theorem dX11_wanders_62 : decode cX11_wanders 62 = .ok (.goto (-32), 3) := wn_at gdX11_wanders_49 7 rfl
theorem dX11_wanders_65 : decode cX11_wanders 65 = .ok (.iload_n 3, 1) := wn_at gdX11_wanders_49 8 rfl
theorem dX11_wanders_66 : decode cX11_wanders 66 = .ok (.ifCond .ne 4, 3) := wn_at gdX11_wanders_49 9 rfl
theorem gdX11_wanders_69 : ∀ e ∈ ([(69, .return_, 1), (70, .aload_n 0, 1), (71, .invokevirtual 433, 3), (74, .iload_n 3, 1), (75, .i2l, 1), (76, .lrem, 1), (77, .l2i, 1), (78, .istore 4, 2), (80, .iconst 0, 1), (81, .istore 5, 2)] : List (Nat × Instr × Nat)), decode cX11_wanders e.1 = .ok e.2 := wn_all _ 69 (by decide +kernel)
theorem dX11_wanders_69 : decode cX11_wanders 69 = .ok (.return_, 1) := wn_at gdX11_wanders_69 0 rfl
theorem dX11_wanders_70 : decode cX11_wanders 70 = .ok (.aload_n 0, 1) := wn_at gdX11_wanders_69 1 rfl
theorem dX11_wanders_71 : decode cX11_wanders 71 = .ok (.invokevirtual 433, 3) := wn_at gdX11_wanders_69 2 rfl
theorem dX11_wanders_74 : decode cX11_wanders 74 = .ok (.iload_n 3, 1) := wn_at gdX11_wanders_69 3 rfl
theorem dX11_wanders_75 : decode cX11_wanders 75 = .ok (.i2l, 1) := wn_at gdX11_wanders_69 4 rfl
theorem dX11_wanders_76 : decode cX11_wanders 76 = .ok (.lrem, 1) := wn_at gdX11_wanders_69 5 rfl
theorem dX11_wanders_77 : decode cX11_wanders 77 = .ok (.l2i, 1) := wn_at gdX11_wanders_69 6 rfl
theorem dX11_wanders_78 : decode cX11_wanders 78 = .ok (.istore 4, 2) := wn_at gdX11_wanders_69 7 rfl
theorem dX11_wanders_80 : decode cX11_wanders 80 = .ok (.iconst 0, 1) := wn_at gdX11_wanders_69 8 rfl
theorem dX11_wanders_81 : decode cX11_wanders 81 = .ok (.istore 5, 2) := wn_at gdX11_wanders_69 9 rfl
theorem gdX11_wanders_83 : ∀ e ∈ ([(83, .aload_n 0, 1), (84, .iload 5, 2), (86, .iload_n 2, 1), (87, .invokevirtual 293, 3), (90, .ifCond .lt 8, 3), (93, .iload 4, 2), (95, .ifCond .le 29, 3), (98, .iload 4, 2), (100, .aload_n 0, 1), (101, .iload 5, 2)] : List (Nat × Instr × Nat)), decode cX11_wanders e.1 = .ok e.2 := wn_all _ 83 (by decide +kernel)
theorem dX11_wanders_83 : decode cX11_wanders 83 = .ok (.aload_n 0, 1) := wn_at gdX11_wanders_83 0 rfl
theorem dX11_wanders_84 : decode cX11_wanders 84 = .ok (.iload 5, 2) := wn_at gdX11_wanders_83 1 rfl
theorem dX11_wanders_86 : decode cX11_wanders 86 = .ok (.iload_n 2, 1) := wn_at gdX11_wanders_83 2 rfl
theorem dX11_wanders_87 : decode cX11_wanders 87 = .ok (.invokevirtual 293, 3) := wn_at gdX11_wanders_83 3 rfl
theorem dX11_wanders_90 : decode cX11_wanders 90 = .ok (.ifCond .lt 8, 3) := wn_at gdX11_wanders_83 4 rfl
theorem dX11_wanders_93 : decode cX11_wanders 93 = .ok (.iload 4, 2) := wn_at gdX11_wanders_83 5 rfl
theorem dX11_wanders_95 : decode cX11_wanders 95 = .ok (.ifCond .le 29, 3) := wn_at gdX11_wanders_83 6 rfl
theorem dX11_wanders_98 : decode cX11_wanders 98 = .ok (.iload 4, 2) := wn_at gdX11_wanders_83 7 rfl
theorem dX11_wanders_100 : decode cX11_wanders 100 = .ok (.aload_n 0, 1) := wn_at gdX11_wanders_83 8 rfl
theorem dX11_wanders_101 : decode cX11_wanders 101 = .ok (.iload 5, 2) := wn_at gdX11_wanders_83 9 rfl
theorem gdX11_wanders_103 : ∀ e ∈ ([(103, .iload_n 2, 1), (104, .invokevirtual 293, 3), (107, .ifCond .lt 7, 3), (110, .iconst 1, 1), (111, .goto 4, 3), (114, .iconst 0, 1), (115, .isub, 1), (116, .istore 4, 2), (118, .iinc 5 1, 3), (121, .goto (-38), 3)] : List (Nat × Instr × Nat)), decode cX11_wanders e.1 = .ok e.2 := wn_all _ 103 (by decide +kernel)
theorem dX11_wanders_103 : decode cX11_wanders 103 = .ok (.iload_n 2, 1) := wn_at gdX11_wanders_103 0 rfl
theorem dX11_wanders_104 : decode cX11_wanders 104 = .ok (.invokevirtual 293, 3) := wn_at gdX11_wanders_103 1 rfl
theorem dX11_wanders_107 : decode cX11_wanders 107 = .ok (.ifCond .lt 7, 3) := wn_at gdX11_wanders_103 2 rfl
theorem dX11_wanders_110 : decode cX11_wanders 110 = .ok (.iconst 1, 1) := wn_at gdX11_wanders_103 3 rfl
theorem dX11_wanders_111 : decode cX11_wanders 111 = .ok (.goto 4, 3) := wn_at gdX11_wanders_103 4 rfl
theorem dX11_wanders_114 : decode cX11_wanders 114 = .ok (.iconst 0, 1) := wn_at gdX11_wanders_103 5 rfl
theorem dX11_wanders_115 : decode cX11_wanders 115 = .ok (.isub, 1) := wn_at gdX11_wanders_103 6 rfl
theorem dX11_wanders_116 : decode cX11_wanders 116 = .ok (.istore 4, 2) := wn_at gdX11_wanders_103 7 rfl
theorem dX11_wanders_118 : decode cX11_wanders 118 = .ok (.iinc 5 1, 3) := wn_at gdX11_wanders_103 8 rfl
theorem dX11_wanders_121 : decode cX11_wanders 121 = .ok (.goto (-38), 3) := wn_at gdX11_wanders_103 9 rfl
theorem gdX11_wanders_124 : ∀ e ∈ ([(124, .aload_n 0, 1), (125, .iload_n 1, 1), (126, .iload 5, 2), (128, .invokevirtual 323, 3), (131, .return_, 1)] : List (Nat × Instr × Nat)), decode cX11_wanders e.1 = .ok e.2 := wn_all _ 124 (by decide +kernel)
theorem dX11_wanders_124 : decode cX11_wanders 124 = .ok (.aload_n 0, 1) := wn_at gdX11_wanders_124 0 rfl
theorem dX11_wanders_125 : decode cX11_wanders 125 = .ok (.iload_n 1, 1) := wn_at gdX11_wanders_124 1 rfl
theorem dX11_wanders_126 : decode cX11_wanders 126 = .ok (.iload 5, 2) := wn_at gdX11_wanders_124 2 rfl
theorem dX11_wanders_128 : decode cX11_wanders 128 = .ok (.invokevirtual 323, 3) := wn_at gdX11_wanders_124 3 rfl
theorem dX11_wanders_131 : decode cX11_wanders 131 = .ok (.return_, 1) := wn_at gdX11_wanders_124 4 rfl
theorem gdX11_meetings_0 : ∀ e ∈ ([(0, .aload_n 0, 1), (1, .iload_n 1, 1), (2, .invokevirtual 316, 3), (5, .ifCond .eq 52, 3), (8, .aload_n 0, 1), (9, .iload_n 2, 1), (10, .invokevirtual 316, 3), (13, .ifCond .eq 44, 3), (16, .iload_n 1, 1), (17, .iload_n 2, 1)] : List (Nat × Instr × Nat)), decode cX11_meetings e.1 = .ok e.2 := wn_all _ 0 (by decide +kernel)
theorem dX11_meetings_0 : decode cX11_meetings 0 = .ok (.aload_n 0, 1) := wn_at gdX11_meetings_0 0 rfl
theorem dX11_meetings_1 : decode cX11_meetings 1 = .ok (.iload_n 1, 1) := wn_at gdX11_meetings_0 1 rfl
theorem dX11_meetings_2 : decode cX11_meetings 2 = .ok (.invokevirtual 316, 3) := wn_at gdX11_meetings_0 2 rfl
theorem dX11_meetings_5 : decode cX11_meetings 5 = .ok (.ifCond .eq 52, 3) := wn_at gdX11_meetings_0 3 rfl
theorem dX11_meetings_8 : decode cX11_meetings 8 = .ok (.aload_n 0, 1) := wn_at gdX11_meetings_0 4 rfl
theorem dX11_meetings_9 : decode cX11_meetings 9 = .ok (.iload_n 2, 1) := wn_at gdX11_meetings_0 5 rfl
theorem dX11_meetings_10 : decode cX11_meetings 10 = .ok (.invokevirtual 316, 3) := wn_at gdX11_meetings_0 6 rfl
theorem dX11_meetings_13 : decode cX11_meetings 13 = .ok (.ifCond .eq 44, 3) := wn_at gdX11_meetings_0 7 rfl
theorem dX11_meetings_16 : decode cX11_meetings 16 = .ok (.iload_n 1, 1) := wn_at gdX11_meetings_0 8 rfl
theorem dX11_meetings_17 : decode cX11_meetings 17 = .ok (.iload_n 2, 1) := wn_at gdX11_meetings_0 9 rfl
theorem gdX11_meetings_18 : ∀ e ∈ ([(18, .if_icmp .eq 39, 3), (21, .iload_n 3, 1), (22, .i2l, 1), (23, .lconst 1, 1), (24, .ldc2_w 436, 3), (27, .invokestatic 131, 3), (30, .ifCond .eq 27, 3), (33, .iload 4, 2), (35, .i2l, 1), (36, .lconst 1, 1)] : List (Nat × Instr × Nat)), decode cX11_meetings e.1 = .ok e.2 := wn_all _ 18 (by decide +kernel)
theorem dX11_meetings_18 : decode cX11_meetings 18 = .ok (.if_icmp .eq 39, 3) := wn_at gdX11_meetings_18 0 rfl
theorem dX11_meetings_21 : decode cX11_meetings 21 = .ok (.iload_n 3, 1) := wn_at gdX11_meetings_18 1 rfl
theorem dX11_meetings_22 : decode cX11_meetings 22 = .ok (.i2l, 1) := wn_at gdX11_meetings_18 2 rfl
theorem dX11_meetings_23 : decode cX11_meetings 23 = .ok (.lconst 1, 1) := wn_at gdX11_meetings_18 3 rfl
theorem dX11_meetings_24 : decode cX11_meetings 24 = .ok (.ldc2_w 436, 3) := wn_at gdX11_meetings_18 4 rfl
theorem dX11_meetings_27 : decode cX11_meetings 27 = .ok (.invokestatic 131, 3) := wn_at gdX11_meetings_18 5 rfl
theorem dX11_meetings_30 : decode cX11_meetings 30 = .ok (.ifCond .eq 27, 3) := wn_at gdX11_meetings_18 6 rfl
theorem dX11_meetings_33 : decode cX11_meetings 33 = .ok (.iload 4, 2) := wn_at gdX11_meetings_18 7 rfl
theorem dX11_meetings_35 : decode cX11_meetings 35 = .ok (.i2l, 1) := wn_at gdX11_meetings_18 8 rfl
theorem dX11_meetings_36 : decode cX11_meetings 36 = .ok (.lconst 1, 1) := wn_at gdX11_meetings_18 9 rfl
theorem gdX11_meetings_37 : ∀ e ∈ ([(37, .ldc2_w 352, 3), (40, .invokestatic 131, 3), (43, .ifCond .eq 14, 3), (46, .iload 5, 2), (48, .i2l, 1), (49, .lconst 0, 1), (50, .lconst 1, 1), (51, .invokestatic 131, 3), (54, .ifCond .ne 5, 3), (57, .iconst (-1), 1)] : List (Nat × Instr × Nat)), decode cX11_meetings e.1 = .ok e.2 := wn_all _ 37 (by decide +kernel)
theorem dX11_meetings_37 : decode cX11_meetings 37 = .ok (.ldc2_w 352, 3) := wn_at gdX11_meetings_37 0 rfl
theorem dX11_meetings_40 : decode cX11_meetings 40 = .ok (.invokestatic 131, 3) := wn_at gdX11_meetings_37 1 rfl
theorem dX11_meetings_43 : decode cX11_meetings 43 = .ok (.ifCond .eq 14, 3) := wn_at gdX11_meetings_37 2 rfl
theorem dX11_meetings_46 : decode cX11_meetings 46 = .ok (.iload 5, 2) := wn_at gdX11_meetings_37 3 rfl
theorem dX11_meetings_48 : decode cX11_meetings 48 = .ok (.i2l, 1) := wn_at gdX11_meetings_37 4 rfl
theorem dX11_meetings_49 : decode cX11_meetings 49 = .ok (.lconst 0, 1) := wn_at gdX11_meetings_37 5 rfl
theorem dX11_meetings_50 : decode cX11_meetings 50 = .ok (.lconst 1, 1) := wn_at gdX11_meetings_37 6 rfl
theorem dX11_meetings_51 : decode cX11_meetings 51 = .ok (.invokestatic 131, 3) := wn_at gdX11_meetings_37 7 rfl
theorem dX11_meetings_54 : decode cX11_meetings 54 = .ok (.ifCond .ne 5, 3) := wn_at gdX11_meetings_37 8 rfl
theorem dX11_meetings_57 : decode cX11_meetings 57 = .ok (.iconst (-1), 1) := wn_at gdX11_meetings_37 9 rfl
theorem gdX11_meetings_58 : ∀ e ∈ ([(58, .ireturn, 1), (59, .aload_n 0, 1), (60, .invokevirtual 357, 3), (63, .aload_n 0, 1), (64, .aload_n 0, 1), (65, .getfield 45, 3), (68, .iconst 5, 1), (69, .iaload, 1), (70, .i2l, 1), (71, .putfield 421, 3)] : List (Nat × Instr × Nat)), decode cX11_meetings e.1 = .ok e.2 := wn_all _ 58 (by decide +kernel)
theorem dX11_meetings_58 : decode cX11_meetings 58 = .ok (.ireturn, 1) := wn_at gdX11_meetings_58 0 rfl
theorem dX11_meetings_59 : decode cX11_meetings 59 = .ok (.aload_n 0, 1) := wn_at gdX11_meetings_58 1 rfl
theorem dX11_meetings_60 : decode cX11_meetings 60 = .ok (.invokevirtual 357, 3) := wn_at gdX11_meetings_58 2 rfl
theorem dX11_meetings_63 : decode cX11_meetings 63 = .ok (.aload_n 0, 1) := wn_at gdX11_meetings_58 3 rfl
theorem dX11_meetings_64 : decode cX11_meetings 64 = .ok (.aload_n 0, 1) := wn_at gdX11_meetings_58 4 rfl
theorem dX11_meetings_65 : decode cX11_meetings 65 = .ok (.getfield 45, 3) := wn_at gdX11_meetings_58 5 rfl
theorem dX11_meetings_68 : decode cX11_meetings 68 = .ok (.iconst 5, 1) := wn_at gdX11_meetings_58 6 rfl
theorem dX11_meetings_69 : decode cX11_meetings 69 = .ok (.iaload, 1) := wn_at gdX11_meetings_58 7 rfl
theorem dX11_meetings_70 : decode cX11_meetings 70 = .ok (.i2l, 1) := wn_at gdX11_meetings_58 8 rfl
theorem dX11_meetings_71 : decode cX11_meetings 71 = .ok (.putfield 421, 3) := wn_at gdX11_meetings_58 9 rfl
theorem gdX11_meetings_74 : ∀ e ∈ ([(74, .iconst 0, 1), (75, .istore 6, 2), (77, .iconst 0, 1), (78, .istore 7, 2), (80, .iconst 0, 1), (81, .istore 8, 2), (83, .iload 8, 2), (85, .iload_n 3, 1), (86, .if_icmp .ge 118, 3), (89, .iconst 0, 1)] : List (Nat × Instr × Nat)), decode cX11_meetings e.1 = .ok e.2 := wn_all _ 74 (by decide +kernel)
theorem dX11_meetings_74 : decode cX11_meetings 74 = .ok (.iconst 0, 1) := wn_at gdX11_meetings_74 0 rfl
theorem dX11_meetings_75 : decode cX11_meetings 75 = .ok (.istore 6, 2) := wn_at gdX11_meetings_74 1 rfl
theorem dX11_meetings_77 : decode cX11_meetings 77 = .ok (.iconst 0, 1) := wn_at gdX11_meetings_74 2 rfl
theorem dX11_meetings_78 : decode cX11_meetings 78 = .ok (.istore 7, 2) := wn_at gdX11_meetings_74 3 rfl
theorem dX11_meetings_80 : decode cX11_meetings 80 = .ok (.iconst 0, 1) := wn_at gdX11_meetings_74 4 rfl
theorem dX11_meetings_81 : decode cX11_meetings 81 = .ok (.istore 8, 2) := wn_at gdX11_meetings_74 5 rfl
theorem dX11_meetings_83 : decode cX11_meetings 83 = .ok (.iload 8, 2) := wn_at gdX11_meetings_74 6 rfl
theorem dX11_meetings_85 : decode cX11_meetings 85 = .ok (.iload_n 3, 1) := wn_at gdX11_meetings_74 7 rfl
theorem dX11_meetings_86 : decode cX11_meetings 86 = .ok (.if_icmp .ge 118, 3) := wn_at gdX11_meetings_74 8 rfl
theorem dX11_meetings_89 : decode cX11_meetings 89 = .ok (.iconst 0, 1) := wn_at gdX11_meetings_74 9 rfl
theorem gdX11_meetings_90 : ∀ e ∈ ([(90, .istore 9, 2), (92, .iconst 0, 1), (93, .istore 10, 2), (95, .iload 10, 2), (97, .iload 4, 2), (99, .if_icmp .ge 73, 3), (102, .iconst 0, 1), (103, .istore 11, 2), (105, .iload 11, 2), (107, .aload_n 0, 1)] : List (Nat × Instr × Nat)), decode cX11_meetings e.1 = .ok e.2 := wn_all _ 90 (by decide +kernel)
theorem dX11_meetings_90 : decode cX11_meetings 90 = .ok (.istore 9, 2) := wn_at gdX11_meetings_90 0 rfl
theorem dX11_meetings_92 : decode cX11_meetings 92 = .ok (.iconst 0, 1) := wn_at gdX11_meetings_90 1 rfl
theorem dX11_meetings_93 : decode cX11_meetings 93 = .ok (.istore 10, 2) := wn_at gdX11_meetings_90 2 rfl
theorem dX11_meetings_95 : decode cX11_meetings 95 = .ok (.iload 10, 2) := wn_at gdX11_meetings_90 3 rfl
theorem dX11_meetings_97 : decode cX11_meetings 97 = .ok (.iload 4, 2) := wn_at gdX11_meetings_90 4 rfl
theorem dX11_meetings_99 : decode cX11_meetings 99 = .ok (.if_icmp .ge 73, 3) := wn_at gdX11_meetings_90 5 rfl
theorem dX11_meetings_102 : decode cX11_meetings 102 = .ok (.iconst 0, 1) := wn_at gdX11_meetings_90 6 rfl
theorem dX11_meetings_103 : decode cX11_meetings 103 = .ok (.istore 11, 2) := wn_at gdX11_meetings_90 7 rfl
theorem dX11_meetings_105 : decode cX11_meetings 105 = .ok (.iload 11, 2) := wn_at gdX11_meetings_90 8 rfl
theorem dX11_meetings_107 : decode cX11_meetings 107 = .ok (.aload_n 0, 1) := wn_at gdX11_meetings_90 9 rfl
theorem gdX11_meetings_108 : ∀ e ∈ ([(108, .getfield 45, 3), (111, .iconst 2, 1), (112, .iaload, 1), (113, .if_icmp .ge 15, 3), (116, .aload_n 0, 1), (117, .iload 11, 2), (119, .invokevirtual 438, 3), (122, .iinc 11 1, 3), (125, .goto (-20), 3), (128, .aload_n 0, 1)] : List (Nat × Instr × Nat)), decode cX11_meetings e.1 = .ok e.2 := wn_all _ 108 (by decide +kernel)
theorem dX11_meetings_108 : decode cX11_meetings 108 = .ok (.getfield 45, 3) := wn_at gdX11_meetings_108 0 rfl
theorem dX11_meetings_111 : decode cX11_meetings 111 = .ok (.iconst 2, 1) := wn_at gdX11_meetings_108 1 rfl
theorem dX11_meetings_112 : decode cX11_meetings 112 = .ok (.iaload, 1) := wn_at gdX11_meetings_108 2 rfl
theorem dX11_meetings_113 : decode cX11_meetings 113 = .ok (.if_icmp .ge 15, 3) := wn_at gdX11_meetings_108 3 rfl
theorem dX11_meetings_116 : decode cX11_meetings 116 = .ok (.aload_n 0, 1) := wn_at gdX11_meetings_108 4 rfl
theorem dX11_meetings_117 : decode cX11_meetings 117 = .ok (.iload 11, 2) := wn_at gdX11_meetings_108 5 rfl
theorem dX11_meetings_119 : decode cX11_meetings 119 = .ok (.invokevirtual 438, 3) := wn_at gdX11_meetings_108 6 rfl
theorem dX11_meetings_122 : decode cX11_meetings 122 = .ok (.iinc 11 1, 3) := wn_at gdX11_meetings_108 7 rfl
theorem dX11_meetings_125 : decode cX11_meetings 125 = .ok (.goto (-20), 3) := wn_at gdX11_meetings_108 8 rfl
theorem dX11_meetings_128 : decode cX11_meetings 128 = .ok (.aload_n 0, 1) := wn_at gdX11_meetings_108 9 rfl
theorem gdX11_meetings_129 : ∀ e ∈ ([(129, .invokevirtual 346, 3), (132, .iload 9, 2), (134, .aload_n 0, 1), (135, .iload_n 1, 1), (136, .iconst 0, 1), (137, .invokevirtual 296, 3), (140, .ifCond .lt 22, 3), (143, .aload_n 0, 1), (144, .iload_n 1, 1), (145, .iconst 0, 1)] : List (Nat × Instr × Nat)), decode cX11_meetings e.1 = .ok e.2 := wn_all _ 129 (by decide +kernel)
theorem dX11_meetings_129 : decode cX11_meetings 129 = .ok (.invokevirtual 346, 3) := wn_at gdX11_meetings_129 0 rfl
theorem dX11_meetings_132 : decode cX11_meetings 132 = .ok (.iload 9, 2) := wn_at gdX11_meetings_129 1 rfl
theorem dX11_meetings_134 : decode cX11_meetings 134 = .ok (.aload_n 0, 1) := wn_at gdX11_meetings_129 2 rfl
theorem dX11_meetings_135 : decode cX11_meetings 135 = .ok (.iload_n 1, 1) := wn_at gdX11_meetings_129 3 rfl
theorem dX11_meetings_136 : decode cX11_meetings 136 = .ok (.iconst 0, 1) := wn_at gdX11_meetings_129 4 rfl
theorem dX11_meetings_137 : decode cX11_meetings 137 = .ok (.invokevirtual 296, 3) := wn_at gdX11_meetings_129 5 rfl
theorem dX11_meetings_140 : decode cX11_meetings 140 = .ok (.ifCond .lt 22, 3) := wn_at gdX11_meetings_129 6 rfl
theorem dX11_meetings_143 : decode cX11_meetings 143 = .ok (.aload_n 0, 1) := wn_at gdX11_meetings_129 7 rfl
theorem dX11_meetings_144 : decode cX11_meetings 144 = .ok (.iload_n 1, 1) := wn_at gdX11_meetings_129 8 rfl
theorem dX11_meetings_145 : decode cX11_meetings 145 = .ok (.iconst 0, 1) := wn_at gdX11_meetings_129 9 rfl
theorem gdX11_meetings_146 : ∀ e ∈ ([(146, .invokevirtual 296, 3), (149, .aload_n 0, 1), (150, .iload_n 2, 1), (151, .iconst 0, 1), (152, .invokevirtual 296, 3), (155, .if_icmp .ne 7, 3), (158, .iconst 1, 1), (159, .goto 4, 3), (162, .iconst 0, 1), (163, .iadd, 1)] : List (Nat × Instr × Nat)), decode cX11_meetings e.1 = .ok e.2 := wn_all _ 146 (by decide +kernel)
theorem dX11_meetings_146 : decode cX11_meetings 146 = .ok (.invokevirtual 296, 3) := wn_at gdX11_meetings_146 0 rfl
theorem dX11_meetings_149 : decode cX11_meetings 149 = .ok (.aload_n 0, 1) := wn_at gdX11_meetings_146 1 rfl
theorem dX11_meetings_150 : decode cX11_meetings 150 = .ok (.iload_n 2, 1) := wn_at gdX11_meetings_146 2 rfl
theorem dX11_meetings_151 : decode cX11_meetings 151 = .ok (.iconst 0, 1) := wn_at gdX11_meetings_146 3 rfl
theorem dX11_meetings_152 : decode cX11_meetings 152 = .ok (.invokevirtual 296, 3) := wn_at gdX11_meetings_146 4 rfl
theorem dX11_meetings_155 : decode cX11_meetings 155 = .ok (.if_icmp .ne 7, 3) := wn_at gdX11_meetings_146 5 rfl
theorem dX11_meetings_158 : decode cX11_meetings 158 = .ok (.iconst 1, 1) := wn_at gdX11_meetings_146 6 rfl
theorem dX11_meetings_159 : decode cX11_meetings 159 = .ok (.goto 4, 3) := wn_at gdX11_meetings_146 7 rfl
theorem dX11_meetings_162 : decode cX11_meetings 162 = .ok (.iconst 0, 1) := wn_at gdX11_meetings_146 8 rfl
theorem dX11_meetings_163 : decode cX11_meetings 163 = .ok (.iadd, 1) := wn_at gdX11_meetings_146 9 rfl
theorem gdX11_meetings_164 : ∀ e ∈ ([(164, .istore 9, 2), (166, .iinc 10 1, 3), (169, .goto (-74), 3), (172, .iload 6, 2), (174, .iload 9, 2), (176, .iadd, 1), (177, .istore 6, 2), (179, .iload 7, 2), (181, .iload 9, 2), (183, .ifCond .le 7, 3)] : List (Nat × Instr × Nat)), decode cX11_meetings e.1 = .ok e.2 := wn_all _ 164 (by decide +kernel)
theorem dX11_meetings_164 : decode cX11_meetings 164 = .ok (.istore 9, 2) := wn_at gdX11_meetings_164 0 rfl
theorem dX11_meetings_166 : decode cX11_meetings 166 = .ok (.iinc 10 1, 3) := wn_at gdX11_meetings_164 1 rfl
theorem dX11_meetings_169 : decode cX11_meetings 169 = .ok (.goto (-74), 3) := wn_at gdX11_meetings_164 2 rfl
theorem dX11_meetings_172 : decode cX11_meetings 172 = .ok (.iload 6, 2) := wn_at gdX11_meetings_164 3 rfl
theorem dX11_meetings_174 : decode cX11_meetings 174 = .ok (.iload 9, 2) := wn_at gdX11_meetings_164 4 rfl
theorem dX11_meetings_176 : decode cX11_meetings 176 = .ok (.iadd, 1) := wn_at gdX11_meetings_164 5 rfl
theorem dX11_meetings_177 : decode cX11_meetings 177 = .ok (.istore 6, 2) := wn_at gdX11_meetings_164 6 rfl
theorem dX11_meetings_179 : decode cX11_meetings 179 = .ok (.iload 7, 2) := wn_at gdX11_meetings_164 7 rfl
theorem dX11_meetings_181 : decode cX11_meetings 181 = .ok (.iload 9, 2) := wn_at gdX11_meetings_164 8 rfl
theorem dX11_meetings_183 : decode cX11_meetings 183 = .ok (.ifCond .le 7, 3) := wn_at gdX11_meetings_164 9 rfl
theorem gdX11_meetings_186 : ∀ e ∈ ([(186, .iconst 1, 1), (187, .goto 4, 3), (190, .iconst 0, 1), (191, .iadd, 1), (192, .istore 7, 2), (194, .aload_n 0, 1), (195, .invokevirtual 362, 3), (198, .iinc 8 1, 3), (201, .goto (-118), 3), (204, .iload 5, 2)] : List (Nat × Instr × Nat)), decode cX11_meetings e.1 = .ok e.2 := wn_all _ 186 (by decide +kernel)
theorem dX11_meetings_186 : decode cX11_meetings 186 = .ok (.iconst 1, 1) := wn_at gdX11_meetings_186 0 rfl
theorem dX11_meetings_187 : decode cX11_meetings 187 = .ok (.goto 4, 3) := wn_at gdX11_meetings_186 1 rfl
theorem dX11_meetings_190 : decode cX11_meetings 190 = .ok (.iconst 0, 1) := wn_at gdX11_meetings_186 2 rfl
theorem dX11_meetings_191 : decode cX11_meetings 191 = .ok (.iadd, 1) := wn_at gdX11_meetings_186 3 rfl
theorem dX11_meetings_192 : decode cX11_meetings 192 = .ok (.istore 7, 2) := wn_at gdX11_meetings_186 4 rfl
theorem dX11_meetings_194 : decode cX11_meetings 194 = .ok (.aload_n 0, 1) := wn_at gdX11_meetings_186 5 rfl
theorem dX11_meetings_195 : decode cX11_meetings 195 = .ok (.invokevirtual 362, 3) := wn_at gdX11_meetings_186 6 rfl
theorem dX11_meetings_198 : decode cX11_meetings 198 = .ok (.iinc 8 1, 3) := wn_at gdX11_meetings_186 7 rfl
theorem dX11_meetings_201 : decode cX11_meetings 201 = .ok (.goto (-118), 3) := wn_at gdX11_meetings_186 8 rfl
theorem dX11_meetings_204 : decode cX11_meetings 204 = .ok (.iload 5, 2) := wn_at gdX11_meetings_186 9 rfl
theorem gdX11_meetings_206 : ∀ e ∈ ([(206, .ifCond .ne 8, 3), (209, .iload 6, 2), (211, .goto 5, 3), (214, .iload 7, 2), (216, .ireturn, 1)] : List (Nat × Instr × Nat)), decode cX11_meetings e.1 = .ok e.2 := wn_all _ 206 (by decide +kernel)
theorem dX11_meetings_206 : decode cX11_meetings 206 = .ok (.ifCond .ne 8, 3) := wn_at gdX11_meetings_206 0 rfl
theorem dX11_meetings_209 : decode cX11_meetings 209 = .ok (.iload 6, 2) := wn_at gdX11_meetings_206 1 rfl
theorem dX11_meetings_211 : decode cX11_meetings 211 = .ok (.goto 5, 3) := wn_at gdX11_meetings_206 2 rfl
theorem dX11_meetings_214 : decode cX11_meetings 214 = .ok (.iload 7, 2) := wn_at gdX11_meetings_206 3 rfl
theorem dX11_meetings_216 : decode cX11_meetings 216 = .ok (.ireturn, 1) := wn_at gdX11_meetings_206 4 rfl
theorem gdX11_count_0 : ∀ e ∈ ([(0, .iconst 0, 1), (1, .istore_n 2, 1), (2, .iload_n 1, 1)] : List (Nat × Instr × Nat)), decode cX11_count e.1 = .ok e.2 := wn_all _ 0 (by decide +kernel)
theorem dX11_count_0 : decode cX11_count 0 = .ok (.iconst 0, 1) := wn_at gdX11_count_0 0 rfl
theorem dX11_count_1 : decode cX11_count 1 = .ok (.istore_n 2, 1) := wn_at gdX11_count_0 1 rfl
theorem dX11_count_2 : decode cX11_count 2 = .ok (.iload_n 1, 1) := wn_at gdX11_count_0 2 rfl
theorem dX11_count_3 : decode cX11_count 3 = .ok (.tableswitch 159 0 9 #[53, 53, 53, 60, 65, 65, 74, 110, 147, 154], 53) := by decide +kernel
theorem gdX11_count_56 : ∀ e ∈ ([(56, .aload_n 0, 1), (57, .getfield 45, 3), (60, .iload_n 1, 1), (61, .iaload, 1), (62, .ireturn, 1), (63, .aload_n 0, 1), (64, .getfield 254, 3), (67, .ireturn, 1), (68, .aload_n 0, 1), (69, .getfield 45, 3)] : List (Nat × Instr × Nat)), decode cX11_count e.1 = .ok e.2 := wn_all _ 56 (by decide +kernel)
theorem dX11_count_56 : decode cX11_count 56 = .ok (.aload_n 0, 1) := wn_at gdX11_count_56 0 rfl
theorem dX11_count_57 : decode cX11_count 57 = .ok (.getfield 45, 3) := wn_at gdX11_count_56 1 rfl
theorem dX11_count_60 : decode cX11_count 60 = .ok (.iload_n 1, 1) := wn_at gdX11_count_56 2 rfl
theorem dX11_count_61 : decode cX11_count 61 = .ok (.iaload, 1) := wn_at gdX11_count_56 3 rfl
theorem dX11_count_62 : decode cX11_count 62 = .ok (.ireturn, 1) := wn_at gdX11_count_56 4 rfl
theorem dX11_count_63 : decode cX11_count 63 = .ok (.aload_n 0, 1) := wn_at gdX11_count_56 5 rfl
theorem dX11_count_64 : decode cX11_count 64 = .ok (.getfield 254, 3) := wn_at gdX11_count_56 6 rfl
theorem dX11_count_67 : decode cX11_count 67 = .ok (.ireturn, 1) := wn_at gdX11_count_56 7 rfl
theorem dX11_count_68 : decode cX11_count 68 = .ok (.aload_n 0, 1) := wn_at gdX11_count_56 8 rfl
theorem dX11_count_69 : decode cX11_count 69 = .ok (.getfield 45, 3) := wn_at gdX11_count_56 9 rfl
theorem gdX11_count_72 : ∀ e ∈ ([(72, .iload_n 1, 1), (73, .iconst 1, 1), (74, .isub, 1), (75, .iaload, 1), (76, .ireturn, 1), (77, .iconst 0, 1), (78, .istore_n 3, 1), (79, .iload_n 3, 1), (80, .aload_n 0, 1), (81, .getfield 45, 3)] : List (Nat × Instr × Nat)), decode cX11_count e.1 = .ok e.2 := wn_all _ 72 (by decide +kernel)
theorem dX11_count_72 : decode cX11_count 72 = .ok (.iload_n 1, 1) := wn_at gdX11_count_72 0 rfl
theorem dX11_count_73 : decode cX11_count 73 = .ok (.iconst 1, 1) := wn_at gdX11_count_72 1 rfl
theorem dX11_count_74 : decode cX11_count 74 = .ok (.isub, 1) := wn_at gdX11_count_72 2 rfl
theorem dX11_count_75 : decode cX11_count 75 = .ok (.iaload, 1) := wn_at gdX11_count_72 3 rfl
theorem dX11_count_76 : decode cX11_count 76 = .ok (.ireturn, 1) := wn_at gdX11_count_72 4 rfl
theorem dX11_count_77 : decode cX11_count 77 = .ok (.iconst 0, 1) := wn_at gdX11_count_72 5 rfl
theorem dX11_count_78 : decode cX11_count 78 = .ok (.istore_n 3, 1) := wn_at gdX11_count_72 6 rfl
theorem dX11_count_79 : decode cX11_count 79 = .ok (.iload_n 3, 1) := wn_at gdX11_count_72 7 rfl
theorem dX11_count_80 : decode cX11_count 80 = .ok (.aload_n 0, 1) := wn_at gdX11_count_72 8 rfl
theorem dX11_count_81 : decode cX11_count 81 = .ok (.getfield 45, 3) := wn_at gdX11_count_72 9 rfl
theorem gdX11_count_84 : ∀ e ∈ ([(84, .iconst 4, 1), (85, .iaload, 1), (86, .if_icmp .ge 25, 3), (89, .iload_n 2, 1), (90, .aload_n 0, 1), (91, .iload_n 3, 1), (92, .invokevirtual 415, 3), (95, .ifCond .eq 7, 3), (98, .iconst 1, 1), (99, .goto 4, 3)] : List (Nat × Instr × Nat)), decode cX11_count e.1 = .ok e.2 := wn_all _ 84 (by decide +kernel)
theorem dX11_count_84 : decode cX11_count 84 = .ok (.iconst 4, 1) := wn_at gdX11_count_84 0 rfl
theorem dX11_count_85 : decode cX11_count 85 = .ok (.iaload, 1) := wn_at gdX11_count_84 1 rfl
theorem dX11_count_86 : decode cX11_count 86 = .ok (.if_icmp .ge 25, 3) := wn_at gdX11_count_84 2 rfl
theorem dX11_count_89 : decode cX11_count 89 = .ok (.iload_n 2, 1) := wn_at gdX11_count_84 3 rfl
theorem dX11_count_90 : decode cX11_count 90 = .ok (.aload_n 0, 1) := wn_at gdX11_count_84 4 rfl
theorem dX11_count_91 : decode cX11_count 91 = .ok (.iload_n 3, 1) := wn_at gdX11_count_84 5 rfl
theorem dX11_count_92 : decode cX11_count 92 = .ok (.invokevirtual 415, 3) := wn_at gdX11_count_84 6 rfl
theorem dX11_count_95 : decode cX11_count 95 = .ok (.ifCond .eq 7, 3) := wn_at gdX11_count_84 7 rfl
theorem dX11_count_98 : decode cX11_count 98 = .ok (.iconst 1, 1) := wn_at gdX11_count_84 8 rfl
theorem dX11_count_99 : decode cX11_count 99 = .ok (.goto 4, 3) := wn_at gdX11_count_84 9 rfl
theorem gdX11_count_102 : ∀ e ∈ ([(102, .iconst 0, 1), (103, .iadd, 1), (104, .istore_n 2, 1), (105, .iinc 3 1, 3), (108, .goto (-29), 3), (111, .iload_n 2, 1), (112, .ireturn, 1), (113, .iconst 0, 1), (114, .istore_n 3, 1), (115, .iload_n 3, 1)] : List (Nat × Instr × Nat)), decode cX11_count e.1 = .ok e.2 := wn_all _ 102 (by decide +kernel)
theorem dX11_count_102 : decode cX11_count 102 = .ok (.iconst 0, 1) := wn_at gdX11_count_102 0 rfl
theorem dX11_count_103 : decode cX11_count 103 = .ok (.iadd, 1) := wn_at gdX11_count_102 1 rfl
theorem dX11_count_104 : decode cX11_count 104 = .ok (.istore_n 2, 1) := wn_at gdX11_count_102 2 rfl
theorem dX11_count_105 : decode cX11_count 105 = .ok (.iinc 3 1, 3) := wn_at gdX11_count_102 3 rfl
theorem dX11_count_108 : decode cX11_count 108 = .ok (.goto (-29), 3) := wn_at gdX11_count_102 4 rfl
theorem dX11_count_111 : decode cX11_count 111 = .ok (.iload_n 2, 1) := wn_at gdX11_count_102 5 rfl
theorem dX11_count_112 : decode cX11_count 112 = .ok (.ireturn, 1) := wn_at gdX11_count_102 6 rfl
theorem dX11_count_113 : decode cX11_count 113 = .ok (.iconst 0, 1) := wn_at gdX11_count_102 7 rfl
theorem dX11_count_114 : decode cX11_count 114 = .ok (.istore_n 3, 1) := wn_at gdX11_count_102 8 rfl
theorem dX11_count_115 : decode cX11_count 115 = .ok (.iload_n 3, 1) := wn_at gdX11_count_102 9 rfl
theorem gdX11_count_116 : ∀ e ∈ ([(116, .aload_n 0, 1), (117, .getfield 45, 3), (120, .iconst 2, 1), (121, .iaload, 1), (122, .if_icmp .ge 26, 3), (125, .iload_n 2, 1), (126, .aload_n 0, 1), (127, .iload_n 3, 1), (128, .iconst 0, 1), (129, .invokevirtual 296, 3)] : List (Nat × Instr × Nat)), decode cX11_count e.1 = .ok e.2 := wn_all _ 116 (by decide +kernel)
theorem dX11_count_116 : decode cX11_count 116 = .ok (.aload_n 0, 1) := wn_at gdX11_count_116 0 rfl
theorem dX11_count_117 : decode cX11_count 117 = .ok (.getfield 45, 3) := wn_at gdX11_count_116 1 rfl
theorem dX11_count_120 : decode cX11_count 120 = .ok (.iconst 2, 1) := wn_at gdX11_count_116 2 rfl
theorem dX11_count_121 : decode cX11_count 121 = .ok (.iaload, 1) := wn_at gdX11_count_116 3 rfl
theorem dX11_count_122 : decode cX11_count 122 = .ok (.if_icmp .ge 26, 3) := wn_at gdX11_count_116 4 rfl
theorem dX11_count_125 : decode cX11_count 125 = .ok (.iload_n 2, 1) := wn_at gdX11_count_116 5 rfl
theorem dX11_count_126 : decode cX11_count 126 = .ok (.aload_n 0, 1) := wn_at gdX11_count_116 6 rfl
theorem dX11_count_127 : decode cX11_count 127 = .ok (.iload_n 3, 1) := wn_at gdX11_count_116 7 rfl
theorem dX11_count_128 : decode cX11_count 128 = .ok (.iconst 0, 1) := wn_at gdX11_count_116 8 rfl
theorem dX11_count_129 : decode cX11_count 129 = .ok (.invokevirtual 296, 3) := wn_at gdX11_count_116 9 rfl
theorem gdX11_count_132 : ∀ e ∈ ([(132, .ifCond .ge 7, 3), (135, .iconst 1, 1), (136, .goto 4, 3), (139, .iconst 0, 1), (140, .iadd, 1), (141, .istore_n 2, 1), (142, .iinc 3 1, 3), (145, .goto (-30), 3), (148, .iload_n 2, 1), (149, .ireturn, 1)] : List (Nat × Instr × Nat)), decode cX11_count e.1 = .ok e.2 := wn_all _ 132 (by decide +kernel)
theorem dX11_count_132 : decode cX11_count 132 = .ok (.ifCond .ge 7, 3) := wn_at gdX11_count_132 0 rfl
theorem dX11_count_135 : decode cX11_count 135 = .ok (.iconst 1, 1) := wn_at gdX11_count_132 1 rfl
theorem dX11_count_136 : decode cX11_count 136 = .ok (.goto 4, 3) := wn_at gdX11_count_132 2 rfl
theorem dX11_count_139 : decode cX11_count 139 = .ok (.iconst 0, 1) := wn_at gdX11_count_132 3 rfl
theorem dX11_count_140 : decode cX11_count 140 = .ok (.iadd, 1) := wn_at gdX11_count_132 4 rfl
theorem dX11_count_141 : decode cX11_count 141 = .ok (.istore_n 2, 1) := wn_at gdX11_count_132 5 rfl
theorem dX11_count_142 : decode cX11_count 142 = .ok (.iinc 3 1, 3) := wn_at gdX11_count_132 6 rfl
theorem dX11_count_145 : decode cX11_count 145 = .ok (.goto (-30), 3) := wn_at gdX11_count_132 7 rfl
theorem dX11_count_148 : decode cX11_count 148 = .ok (.iload_n 2, 1) := wn_at gdX11_count_132 8 rfl
theorem dX11_count_149 : decode cX11_count 149 = .ok (.ireturn, 1) := wn_at gdX11_count_132 9 rfl
theorem gdX11_count_150 : ∀ e ∈ ([(150, .aload_n 0, 1), (151, .getfield 45, 3), (154, .iconst 5, 1), (155, .iaload, 1), (156, .ireturn, 1), (157, .aload_n 0, 1), (158, .getfield 92, 3), (161, .ireturn, 1), (162, .iconst (-1), 1), (163, .ireturn, 1)] : List (Nat × Instr × Nat)), decode cX11_count e.1 = .ok e.2 := wn_all _ 150 (by decide +kernel)
theorem dX11_count_150 : decode cX11_count 150 = .ok (.aload_n 0, 1) := wn_at gdX11_count_150 0 rfl
theorem dX11_count_151 : decode cX11_count 151 = .ok (.getfield 45, 3) := wn_at gdX11_count_150 1 rfl
theorem dX11_count_154 : decode cX11_count 154 = .ok (.iconst 5, 1) := wn_at gdX11_count_150 2 rfl
theorem dX11_count_155 : decode cX11_count 155 = .ok (.iaload, 1) := wn_at gdX11_count_150 3 rfl
theorem dX11_count_156 : decode cX11_count 156 = .ok (.ireturn, 1) := wn_at gdX11_count_150 4 rfl
theorem dX11_count_157 : decode cX11_count 157 = .ok (.aload_n 0, 1) := wn_at gdX11_count_150 5 rfl
theorem dX11_count_158 : decode cX11_count 158 = .ok (.getfield 92, 3) := wn_at gdX11_count_150 6 rfl
theorem dX11_count_161 : decode cX11_count 161 = .ok (.ireturn, 1) := wn_at gdX11_count_150 7 rfl
theorem dX11_count_162 : decode cX11_count 162 = .ok (.iconst (-1), 1) := wn_at gdX11_count_150 8 rfl
theorem dX11_count_163 : decode cX11_count 163 = .ok (.ireturn, 1) := wn_at gdX11_count_150 9 rfl
theorem gdX11_image_0 : ∀ e ∈ ([(0, .iload_n 1, 1), (1, .i2l, 1), (2, .lconst 0, 1), (3, .ldc2_w 319, 3), (6, .invokestatic 131, 3), (9, .ifCond .ne 5, 3), (12, .iconst (-1), 1), (13, .ireturn, 1), (14, .aload_n 0, 1), (15, .getfield 85, 3)] : List (Nat × Instr × Nat)), decode cX11_image e.1 = .ok e.2 := wn_all _ 0 (by decide +kernel)
theorem dX11_image_0 : decode cX11_image 0 = .ok (.iload_n 1, 1) := wn_at gdX11_image_0 0 rfl
theorem dX11_image_1 : decode cX11_image 1 = .ok (.i2l, 1) := wn_at gdX11_image_0 1 rfl
theorem dX11_image_2 : decode cX11_image 2 = .ok (.lconst 0, 1) := wn_at gdX11_image_0 2 rfl
theorem dX11_image_3 : decode cX11_image 3 = .ok (.ldc2_w 319, 3) := wn_at gdX11_image_0 3 rfl
theorem dX11_image_6 : decode cX11_image 6 = .ok (.invokestatic 131, 3) := wn_at gdX11_image_0 4 rfl
theorem dX11_image_9 : decode cX11_image 9 = .ok (.ifCond .ne 5, 3) := wn_at gdX11_image_0 5 rfl
theorem dX11_image_12 : decode cX11_image 12 = .ok (.iconst (-1), 1) := wn_at gdX11_image_0 6 rfl
theorem dX11_image_13 : decode cX11_image 13 = .ok (.ireturn, 1) := wn_at gdX11_image_0 7 rfl
theorem dX11_image_14 : decode cX11_image 14 = .ok (.aload_n 0, 1) := wn_at gdX11_image_0 8 rfl
theorem dX11_image_15 : decode cX11_image 15 = .ok (.getfield 85, 3) := wn_at gdX11_image_0 9 rfl
theorem gdX11_image_18 : ∀ e ∈ ([(18, .iload_n 1, 1), (19, .iconst 1, 1), (20, .bastore, 1), (21, .iconst 0, 1), (22, .istore_n 2, 1), (23, .iload_n 2, 1), (24, .sipush 158, 3), (27, .if_icmp .ge 27, 3), (30, .aload_n 0, 1), (31, .getfield 79, 3)] : List (Nat × Instr × Nat)), decode cX11_image e.1 = .ok e.2 := wn_all _ 18 (by decide +kernel)
theorem dX11_image_18 : decode cX11_image 18 = .ok (.iload_n 1, 1) := wn_at gdX11_image_18 0 rfl
theorem dX11_image_19 : decode cX11_image 19 = .ok (.iconst 1, 1) := wn_at gdX11_image_18 1 rfl
theorem dX11_image_20 : decode cX11_image 20 = .ok (.bastore, 1) := wn_at gdX11_image_18 2 rfl
theorem dX11_image_21 : decode cX11_image 21 = .ok (.iconst 0, 1) := wn_at gdX11_image_18 3 rfl
theorem dX11_image_22 : decode cX11_image 22 = .ok (.istore_n 2, 1) := wn_at gdX11_image_18 4 rfl
theorem dX11_image_23 : decode cX11_image 23 = .ok (.iload_n 2, 1) := wn_at gdX11_image_18 5 rfl
theorem dX11_image_24 : decode cX11_image 24 = .ok (.sipush 158, 3) := wn_at gdX11_image_18 6 rfl
theorem dX11_image_27 : decode cX11_image 27 = .ok (.if_icmp .ge 27, 3) := wn_at gdX11_image_18 7 rfl
theorem dX11_image_30 : decode cX11_image 30 = .ok (.aload_n 0, 1) := wn_at gdX11_image_18 8 rfl
theorem dX11_image_31 : decode cX11_image 31 = .ok (.getfield 79, 3) := wn_at gdX11_image_18 9 rfl
theorem gdX11_image_34 : ∀ e ∈ ([(34, .sipush 158, 3), (37, .iload_n 1, 1), (38, .imul, 1), (39, .iload_n 2, 1), (40, .iadd, 1), (41, .aload_n 0, 1), (42, .getfield 45, 3), (45, .iload_n 2, 1), (46, .iaload, 1), (47, .iastore, 1)] : List (Nat × Instr × Nat)), decode cX11_image e.1 = .ok e.2 := wn_all _ 34 (by decide +kernel)
theorem dX11_image_34 : decode cX11_image 34 = .ok (.sipush 158, 3) := wn_at gdX11_image_34 0 rfl
theorem dX11_image_37 : decode cX11_image 37 = .ok (.iload_n 1, 1) := wn_at gdX11_image_34 1 rfl
theorem dX11_image_38 : decode cX11_image 38 = .ok (.imul, 1) := wn_at gdX11_image_34 2 rfl
theorem dX11_image_39 : decode cX11_image 39 = .ok (.iload_n 2, 1) := wn_at gdX11_image_34 3 rfl
theorem dX11_image_40 : decode cX11_image 40 = .ok (.iadd, 1) := wn_at gdX11_image_34 4 rfl
theorem dX11_image_41 : decode cX11_image 41 = .ok (.aload_n 0, 1) := wn_at gdX11_image_34 5 rfl
theorem dX11_image_42 : decode cX11_image 42 = .ok (.getfield 45, 3) := wn_at gdX11_image_34 6 rfl
theorem dX11_image_45 : decode cX11_image 45 = .ok (.iload_n 2, 1) := wn_at gdX11_image_34 7 rfl
theorem dX11_image_46 : decode cX11_image 46 = .ok (.iaload, 1) := wn_at gdX11_image_34 8 rfl
theorem dX11_image_47 : decode cX11_image 47 = .ok (.iastore, 1) := wn_at gdX11_image_34 9 rfl
theorem gdX11_image_48 : ∀ e ∈ ([(48, .iinc 2 1, 3), (51, .goto (-28), 3), (54, .iconst 0, 1), (55, .istore_n 2, 1), (56, .iload_n 2, 1), (57, .bipush 8, 2), (59, .if_icmp .ge 26, 3), (62, .aload_n 0, 1), (63, .getfield 82, 3), (66, .bipush 8, 2)] : List (Nat × Instr × Nat)), decode cX11_image e.1 = .ok e.2 := wn_all _ 48 (by decide +kernel)
theorem dX11_image_48 : decode cX11_image 48 = .ok (.iinc 2 1, 3) := wn_at gdX11_image_48 0 rfl
theorem dX11_image_51 : decode cX11_image 51 = .ok (.goto (-28), 3) := wn_at gdX11_image_48 1 rfl
theorem dX11_image_54 : decode cX11_image 54 = .ok (.iconst 0, 1) := wn_at gdX11_image_48 2 rfl
theorem dX11_image_55 : decode cX11_image 55 = .ok (.istore_n 2, 1) := wn_at gdX11_image_48 3 rfl
theorem dX11_image_56 : decode cX11_image 56 = .ok (.iload_n 2, 1) := wn_at gdX11_image_48 4 rfl
theorem dX11_image_57 : decode cX11_image 57 = .ok (.bipush 8, 2) := wn_at gdX11_image_48 5 rfl
theorem dX11_image_59 : decode cX11_image 59 = .ok (.if_icmp .ge 26, 3) := wn_at gdX11_image_48 6 rfl
theorem dX11_image_62 : decode cX11_image 62 = .ok (.aload_n 0, 1) := wn_at gdX11_image_48 7 rfl
theorem dX11_image_63 : decode cX11_image 63 = .ok (.getfield 82, 3) := wn_at gdX11_image_48 8 rfl
theorem dX11_image_66 : decode cX11_image 66 = .ok (.bipush 8, 2) := wn_at gdX11_image_48 9 rfl
theorem gdX11_image_68 : ∀ e ∈ ([(68, .iload_n 1, 1), (69, .imul, 1), (70, .iload_n 2, 1), (71, .iadd, 1), (72, .aload_n 0, 1), (73, .getfield 48, 3), (76, .iload_n 2, 1), (77, .laload, 1), (78, .lastore, 1), (79, .iinc 2 1, 3)] : List (Nat × Instr × Nat)), decode cX11_image e.1 = .ok e.2 := wn_all _ 68 (by decide +kernel)
theorem dX11_image_68 : decode cX11_image 68 = .ok (.iload_n 1, 1) := wn_at gdX11_image_68 0 rfl
theorem dX11_image_69 : decode cX11_image 69 = .ok (.imul, 1) := wn_at gdX11_image_68 1 rfl
theorem dX11_image_70 : decode cX11_image 70 = .ok (.iload_n 2, 1) := wn_at gdX11_image_68 2 rfl
theorem dX11_image_71 : decode cX11_image 71 = .ok (.iadd, 1) := wn_at gdX11_image_68 3 rfl
theorem dX11_image_72 : decode cX11_image 72 = .ok (.aload_n 0, 1) := wn_at gdX11_image_68 4 rfl
theorem dX11_image_73 : decode cX11_image 73 = .ok (.getfield 48, 3) := wn_at gdX11_image_68 5 rfl
theorem dX11_image_76 : decode cX11_image 76 = .ok (.iload_n 2, 1) := wn_at gdX11_image_68 6 rfl
theorem dX11_image_77 : decode cX11_image 77 = .ok (.laload, 1) := wn_at gdX11_image_68 7 rfl
theorem dX11_image_78 : decode cX11_image 78 = .ok (.lastore, 1) := wn_at gdX11_image_68 8 rfl
theorem dX11_image_79 : decode cX11_image 79 = .ok (.iinc 2 1, 3) := wn_at gdX11_image_68 9 rfl
theorem gdX11_image_82 : ∀ e ∈ ([(82, .goto (-26), 3), (85, .aload_n 0, 1), (86, .getfield 45, 3), (89, .iconst 3, 1), (90, .iaload, 1), (91, .ireturn, 1)] : List (Nat × Instr × Nat)), decode cX11_image e.1 = .ok e.2 := wn_all _ 82 (by decide +kernel)
theorem dX11_image_82 : decode cX11_image 82 = .ok (.goto (-26), 3) := wn_at gdX11_image_82 0 rfl
theorem dX11_image_85 : decode cX11_image 85 = .ok (.aload_n 0, 1) := wn_at gdX11_image_82 1 rfl
theorem dX11_image_86 : decode cX11_image 86 = .ok (.getfield 45, 3) := wn_at gdX11_image_82 2 rfl
theorem dX11_image_89 : decode cX11_image 89 = .ok (.iconst 3, 1) := wn_at gdX11_image_82 3 rfl
theorem dX11_image_90 : decode cX11_image 90 = .ok (.iaload, 1) := wn_at gdX11_image_82 4 rfl
theorem dX11_image_91 : decode cX11_image 91 = .ok (.ireturn, 1) := wn_at gdX11_image_82 5 rfl
theorem gdX11_back_0 : ∀ e ∈ ([(0, .iload_n 1, 1), (1, .i2l, 1), (2, .lconst 0, 1), (3, .ldc2_w 319, 3), (6, .invokestatic 131, 3), (9, .ifCond .eq 12, 3), (12, .aload_n 0, 1), (13, .getfield 85, 3), (16, .iload_n 1, 1), (17, .baload, 1)] : List (Nat × Instr × Nat)), decode cX11_back e.1 = .ok e.2 := wn_all _ 0 (by decide +kernel)
theorem dX11_back_0 : decode cX11_back 0 = .ok (.iload_n 1, 1) := wn_at gdX11_back_0 0 rfl
theorem dX11_back_1 : decode cX11_back 1 = .ok (.i2l, 1) := wn_at gdX11_back_0 1 rfl
theorem dX11_back_2 : decode cX11_back 2 = .ok (.lconst 0, 1) := wn_at gdX11_back_0 2 rfl
theorem dX11_back_3 : decode cX11_back 3 = .ok (.ldc2_w 319, 3) := wn_at gdX11_back_0 3 rfl
theorem dX11_back_6 : decode cX11_back 6 = .ok (.invokestatic 131, 3) := wn_at gdX11_back_0 4 rfl
theorem dX11_back_9 : decode cX11_back 9 = .ok (.ifCond .eq 12, 3) := wn_at gdX11_back_0 5 rfl
theorem dX11_back_12 : decode cX11_back 12 = .ok (.aload_n 0, 1) := wn_at gdX11_back_0 6 rfl
theorem dX11_back_13 : decode cX11_back 13 = .ok (.getfield 85, 3) := wn_at gdX11_back_0 7 rfl
theorem dX11_back_16 : decode cX11_back 16 = .ok (.iload_n 1, 1) := wn_at gdX11_back_0 8 rfl
theorem dX11_back_17 : decode cX11_back 17 = .ok (.baload, 1) := wn_at gdX11_back_0 9 rfl
theorem gdX11_back_18 : ∀ e ∈ ([(18, .ifCond .ne 5, 3), (21, .iconst (-1), 1), (22, .ireturn, 1), (23, .iconst 0, 1), (24, .istore_n 2, 1), (25, .iload_n 2, 1), (26, .sipush 158, 3), (29, .if_icmp .ge 27, 3), (32, .aload_n 0, 1), (33, .getfield 45, 3)] : List (Nat × Instr × Nat)), decode cX11_back e.1 = .ok e.2 := wn_all _ 18 (by decide +kernel)
theorem dX11_back_18 : decode cX11_back 18 = .ok (.ifCond .ne 5, 3) := wn_at gdX11_back_18 0 rfl
theorem dX11_back_21 : decode cX11_back 21 = .ok (.iconst (-1), 1) := wn_at gdX11_back_18 1 rfl
theorem dX11_back_22 : decode cX11_back 22 = .ok (.ireturn, 1) := wn_at gdX11_back_18 2 rfl
theorem dX11_back_23 : decode cX11_back 23 = .ok (.iconst 0, 1) := wn_at gdX11_back_18 3 rfl
theorem dX11_back_24 : decode cX11_back 24 = .ok (.istore_n 2, 1) := wn_at gdX11_back_18 4 rfl
theorem dX11_back_25 : decode cX11_back 25 = .ok (.iload_n 2, 1) := wn_at gdX11_back_18 5 rfl
theorem dX11_back_26 : decode cX11_back 26 = .ok (.sipush 158, 3) := wn_at gdX11_back_18 6 rfl
theorem dX11_back_29 : decode cX11_back 29 = .ok (.if_icmp .ge 27, 3) := wn_at gdX11_back_18 7 rfl
theorem dX11_back_32 : decode cX11_back 32 = .ok (.aload_n 0, 1) := wn_at gdX11_back_18 8 rfl
theorem dX11_back_33 : decode cX11_back 33 = .ok (.getfield 45, 3) := wn_at gdX11_back_18 9 rfl
theorem gdX11_back_36 : ∀ e ∈ ([(36, .iload_n 2, 1), (37, .aload_n 0, 1), (38, .getfield 79, 3), (41, .sipush 158, 3), (44, .iload_n 1, 1), (45, .imul, 1), (46, .iload_n 2, 1), (47, .iadd, 1), (48, .iaload, 1), (49, .iastore, 1)] : List (Nat × Instr × Nat)), decode cX11_back e.1 = .ok e.2 := wn_all _ 36 (by decide +kernel)
theorem dX11_back_36 : decode cX11_back 36 = .ok (.iload_n 2, 1) := wn_at gdX11_back_36 0 rfl
theorem dX11_back_37 : decode cX11_back 37 = .ok (.aload_n 0, 1) := wn_at gdX11_back_36 1 rfl
theorem dX11_back_38 : decode cX11_back 38 = .ok (.getfield 79, 3) := wn_at gdX11_back_36 2 rfl
theorem dX11_back_41 : decode cX11_back 41 = .ok (.sipush 158, 3) := wn_at gdX11_back_36 3 rfl
theorem dX11_back_44 : decode cX11_back 44 = .ok (.iload_n 1, 1) := wn_at gdX11_back_36 4 rfl
theorem dX11_back_45 : decode cX11_back 45 = .ok (.imul, 1) := wn_at gdX11_back_36 5 rfl
theorem dX11_back_46 : decode cX11_back 46 = .ok (.iload_n 2, 1) := wn_at gdX11_back_36 6 rfl
theorem dX11_back_47 : decode cX11_back 47 = .ok (.iadd, 1) := wn_at gdX11_back_36 7 rfl
theorem dX11_back_48 : decode cX11_back 48 = .ok (.iaload, 1) := wn_at gdX11_back_36 8 rfl
theorem dX11_back_49 : decode cX11_back 49 = .ok (.iastore, 1) := wn_at gdX11_back_36 9 rfl
theorem gdX11_back_50 : ∀ e ∈ ([(50, .iinc 2 1, 3), (53, .goto (-28), 3), (56, .iconst 0, 1), (57, .istore_n 2, 1), (58, .iload_n 2, 1), (59, .bipush 8, 2), (61, .if_icmp .ge 26, 3), (64, .aload_n 0, 1), (65, .getfield 48, 3), (68, .iload_n 2, 1)] : List (Nat × Instr × Nat)), decode cX11_back e.1 = .ok e.2 := wn_all _ 50 (by decide +kernel)
theorem dX11_back_50 : decode cX11_back 50 = .ok (.iinc 2 1, 3) := wn_at gdX11_back_50 0 rfl
theorem dX11_back_53 : decode cX11_back 53 = .ok (.goto (-28), 3) := wn_at gdX11_back_50 1 rfl
theorem dX11_back_56 : decode cX11_back 56 = .ok (.iconst 0, 1) := wn_at gdX11_back_50 2 rfl
theorem dX11_back_57 : decode cX11_back 57 = .ok (.istore_n 2, 1) := wn_at gdX11_back_50 3 rfl
theorem dX11_back_58 : decode cX11_back 58 = .ok (.iload_n 2, 1) := wn_at gdX11_back_50 4 rfl
theorem dX11_back_59 : decode cX11_back 59 = .ok (.bipush 8, 2) := wn_at gdX11_back_50 5 rfl
theorem dX11_back_61 : decode cX11_back 61 = .ok (.if_icmp .ge 26, 3) := wn_at gdX11_back_50 6 rfl
theorem dX11_back_64 : decode cX11_back 64 = .ok (.aload_n 0, 1) := wn_at gdX11_back_50 7 rfl
theorem dX11_back_65 : decode cX11_back 65 = .ok (.getfield 48, 3) := wn_at gdX11_back_50 8 rfl
theorem dX11_back_68 : decode cX11_back 68 = .ok (.iload_n 2, 1) := wn_at gdX11_back_50 9 rfl
theorem gdX11_back_69 : ∀ e ∈ ([(69, .aload_n 0, 1), (70, .getfield 82, 3), (73, .bipush 8, 2), (75, .iload_n 1, 1), (76, .imul, 1), (77, .iload_n 2, 1), (78, .iadd, 1), (79, .laload, 1), (80, .lastore, 1), (81, .iinc 2 1, 3)] : List (Nat × Instr × Nat)), decode cX11_back e.1 = .ok e.2 := wn_all _ 69 (by decide +kernel)
theorem dX11_back_69 : decode cX11_back 69 = .ok (.aload_n 0, 1) := wn_at gdX11_back_69 0 rfl
theorem dX11_back_70 : decode cX11_back 70 = .ok (.getfield 82, 3) := wn_at gdX11_back_69 1 rfl
theorem dX11_back_73 : decode cX11_back 73 = .ok (.bipush 8, 2) := wn_at gdX11_back_69 2 rfl
theorem dX11_back_75 : decode cX11_back 75 = .ok (.iload_n 1, 1) := wn_at gdX11_back_69 3 rfl
theorem dX11_back_76 : decode cX11_back 76 = .ok (.imul, 1) := wn_at gdX11_back_69 4 rfl
theorem dX11_back_77 : decode cX11_back 77 = .ok (.iload_n 2, 1) := wn_at gdX11_back_69 5 rfl
theorem dX11_back_78 : decode cX11_back 78 = .ok (.iadd, 1) := wn_at gdX11_back_69 6 rfl
theorem dX11_back_79 : decode cX11_back 79 = .ok (.laload, 1) := wn_at gdX11_back_69 7 rfl
theorem dX11_back_80 : decode cX11_back 80 = .ok (.lastore, 1) := wn_at gdX11_back_69 8 rfl
theorem dX11_back_81 : decode cX11_back 81 = .ok (.iinc 2 1, 3) := wn_at gdX11_back_69 9 rfl
theorem gdX11_back_84 : ∀ e ∈ ([(84, .goto (-26), 3), (87, .aload_n 0, 1), (88, .invokevirtual 263, 3), (91, .aload_n 0, 1), (92, .getfield 45, 3), (95, .iconst 3, 1), (96, .iaload, 1), (97, .ireturn, 1)] : List (Nat × Instr × Nat)), decode cX11_back e.1 = .ok e.2 := wn_all _ 84 (by decide +kernel)
theorem dX11_back_84 : decode cX11_back 84 = .ok (.goto (-26), 3) := wn_at gdX11_back_84 0 rfl
theorem dX11_back_87 : decode cX11_back 87 = .ok (.aload_n 0, 1) := wn_at gdX11_back_84 1 rfl
theorem dX11_back_88 : decode cX11_back 88 = .ok (.invokevirtual 263, 3) := wn_at gdX11_back_84 2 rfl
theorem dX11_back_91 : decode cX11_back 91 = .ok (.aload_n 0, 1) := wn_at gdX11_back_84 3 rfl
theorem dX11_back_92 : decode cX11_back 92 = .ok (.getfield 45, 3) := wn_at gdX11_back_84 4 rfl
theorem dX11_back_95 : decode cX11_back 95 = .ok (.iconst 3, 1) := wn_at gdX11_back_84 5 rfl
theorem dX11_back_96 : decode cX11_back 96 = .ok (.iaload, 1) := wn_at gdX11_back_84 6 rfl
theorem dX11_back_97 : decode cX11_back 97 = .ok (.ireturn, 1) := wn_at gdX11_back_84 7 rfl
theorem gdJ9_abs_067f4_0 : ∀ e ∈ ([(0, .lload_n 0, 1), (1, .lconst 0, 1), (2, .lcmp, 1), (3, .ifCond .ge 8, 3), (6, .lload_n 0, 1), (7, .lneg, 1), (8, .goto 4, 3), (11, .lload_n 0, 1), (12, .lreturn, 1)] : List (Nat × Instr × Nat)), decode cJ9_abs_067f4 e.1 = .ok e.2 := wn_all _ 0 (by decide +kernel)
theorem dJ9_abs_067f4_0 : decode cJ9_abs_067f4 0 = .ok (.lload_n 0, 1) := wn_at gdJ9_abs_067f4_0 0 rfl
theorem dJ9_abs_067f4_1 : decode cJ9_abs_067f4 1 = .ok (.lconst 0, 1) := wn_at gdJ9_abs_067f4_0 1 rfl
theorem dJ9_abs_067f4_2 : decode cJ9_abs_067f4 2 = .ok (.lcmp, 1) := wn_at gdJ9_abs_067f4_0 2 rfl
theorem dJ9_abs_067f4_3 : decode cJ9_abs_067f4 3 = .ok (.ifCond .ge 8, 3) := wn_at gdJ9_abs_067f4_0 3 rfl
theorem dJ9_abs_067f4_6 : decode cJ9_abs_067f4 6 = .ok (.lload_n 0, 1) := wn_at gdJ9_abs_067f4_0 4 rfl
theorem dJ9_abs_067f4_7 : decode cJ9_abs_067f4 7 = .ok (.lneg, 1) := wn_at gdJ9_abs_067f4_0 5 rfl
theorem dJ9_abs_067f4_8 : decode cJ9_abs_067f4 8 = .ok (.goto 4, 3) := wn_at gdJ9_abs_067f4_0 6 rfl
theorem dJ9_abs_067f4_11 : decode cJ9_abs_067f4 11 = .ok (.lload_n 0, 1) := wn_at gdJ9_abs_067f4_0 7 rfl
theorem dJ9_abs_067f4_12 : decode cJ9_abs_067f4 12 = .ok (.lreturn, 1) := wn_at gdJ9_abs_067f4_0 8 rfl
theorem gdJ9_max_7cf53_0 : ∀ e ∈ ([(0, .iload_n 0, 1), (1, .iload_n 1, 1), (2, .if_icmp .lt 7, 3), (5, .iload_n 0, 1), (6, .goto 4, 3), (9, .iload_n 1, 1), (10, .ireturn, 1)] : List (Nat × Instr × Nat)), decode cJ9_max_7cf53 e.1 = .ok e.2 := wn_all _ 0 (by decide +kernel)
theorem dJ9_max_7cf53_0 : decode cJ9_max_7cf53 0 = .ok (.iload_n 0, 1) := wn_at gdJ9_max_7cf53_0 0 rfl
theorem dJ9_max_7cf53_1 : decode cJ9_max_7cf53 1 = .ok (.iload_n 1, 1) := wn_at gdJ9_max_7cf53_0 1 rfl
theorem dJ9_max_7cf53_2 : decode cJ9_max_7cf53 2 = .ok (.if_icmp .lt 7, 3) := wn_at gdJ9_max_7cf53_0 2 rfl
theorem dJ9_max_7cf53_5 : decode cJ9_max_7cf53 5 = .ok (.iload_n 0, 1) := wn_at gdJ9_max_7cf53_0 3 rfl
theorem dJ9_max_7cf53_6 : decode cJ9_max_7cf53 6 = .ok (.goto 4, 3) := wn_at gdJ9_max_7cf53_0 4 rfl
theorem dJ9_max_7cf53_9 : decode cJ9_max_7cf53 9 = .ok (.iload_n 1, 1) := wn_at gdJ9_max_7cf53_0 5 rfl
theorem dJ9_max_7cf53_10 : decode cJ9_max_7cf53 10 = .ok (.ireturn, 1) := wn_at gdJ9_max_7cf53_0 6 rfl
theorem gdJ0_length_8abf5_0 : ∀ e ∈ ([(0, .aload_n 0, 1), (1, .getfield 9, 3), (4, .arraylength, 1), (5, .aload_n 0, 1), (6, .invokevirtual 335, 3), (9, .ishr, 1), (10, .ireturn, 1)] : List (Nat × Instr × Nat)), decode cJ0_length_8abf5 e.1 = .ok e.2 := wn_all _ 0 (by decide +kernel)
theorem dJ0_length_8abf5_0 : decode cJ0_length_8abf5 0 = .ok (.aload_n 0, 1) := wn_at gdJ0_length_8abf5_0 0 rfl
theorem dJ0_length_8abf5_1 : decode cJ0_length_8abf5 1 = .ok (.getfield 9, 3) := wn_at gdJ0_length_8abf5_0 1 rfl
theorem dJ0_length_8abf5_4 : decode cJ0_length_8abf5 4 = .ok (.arraylength, 1) := wn_at gdJ0_length_8abf5_0 2 rfl
theorem dJ0_length_8abf5_5 : decode cJ0_length_8abf5 5 = .ok (.aload_n 0, 1) := wn_at gdJ0_length_8abf5_0 3 rfl
theorem dJ0_length_8abf5_6 : decode cJ0_length_8abf5 6 = .ok (.invokevirtual 335, 3) := wn_at gdJ0_length_8abf5_0 4 rfl
theorem dJ0_length_8abf5_9 : decode cJ0_length_8abf5 9 = .ok (.ishr, 1) := wn_at gdJ0_length_8abf5_0 5 rfl
theorem dJ0_length_8abf5_10 : decode cJ0_length_8abf5 10 = .ok (.ireturn, 1) := wn_at gdJ0_length_8abf5_0 6 rfl
theorem gdJ0_charAt_5068e_0 : ∀ e ∈ ([(0, .aload_n 0, 1), (1, .invokevirtual 492, 3), (4, .ifCond .eq 12, 3), (7, .aload_n 0, 1), (8, .getfield 9, 3), (11, .iload_n 1, 1), (12, .invokestatic 495, 3), (15, .ireturn, 1), (16, .aload_n 0, 1), (17, .getfield 9, 3)] : List (Nat × Instr × Nat)), decode cJ0_charAt_5068e e.1 = .ok e.2 := wn_all _ 0 (by decide +kernel)
theorem dJ0_charAt_5068e_0 : decode cJ0_charAt_5068e 0 = .ok (.aload_n 0, 1) := wn_at gdJ0_charAt_5068e_0 0 rfl
theorem dJ0_charAt_5068e_1 : decode cJ0_charAt_5068e 1 = .ok (.invokevirtual 492, 3) := wn_at gdJ0_charAt_5068e_0 1 rfl
theorem dJ0_charAt_5068e_4 : decode cJ0_charAt_5068e 4 = .ok (.ifCond .eq 12, 3) := wn_at gdJ0_charAt_5068e_0 2 rfl
theorem dJ0_charAt_5068e_7 : decode cJ0_charAt_5068e 7 = .ok (.aload_n 0, 1) := wn_at gdJ0_charAt_5068e_0 3 rfl
theorem dJ0_charAt_5068e_8 : decode cJ0_charAt_5068e 8 = .ok (.getfield 9, 3) := wn_at gdJ0_charAt_5068e_0 4 rfl
theorem dJ0_charAt_5068e_11 : decode cJ0_charAt_5068e 11 = .ok (.iload_n 1, 1) := wn_at gdJ0_charAt_5068e_0 5 rfl
theorem dJ0_charAt_5068e_12 : decode cJ0_charAt_5068e 12 = .ok (.invokestatic 495, 3) := wn_at gdJ0_charAt_5068e_0 6 rfl
theorem dJ0_charAt_5068e_15 : decode cJ0_charAt_5068e 15 = .ok (.ireturn, 1) := wn_at gdJ0_charAt_5068e_0 7 rfl
theorem dJ0_charAt_5068e_16 : decode cJ0_charAt_5068e 16 = .ok (.aload_n 0, 1) := wn_at gdJ0_charAt_5068e_0 8 rfl
theorem dJ0_charAt_5068e_17 : decode cJ0_charAt_5068e 17 = .ok (.getfield 9, 3) := wn_at gdJ0_charAt_5068e_0 9 rfl
theorem gdJ0_charAt_5068e_20 : ∀ e ∈ ([(20, .iload_n 1, 1), (21, .invokestatic 498, 3), (24, .ireturn, 1)] : List (Nat × Instr × Nat)), decode cJ0_charAt_5068e e.1 = .ok e.2 := wn_all _ 20 (by decide +kernel)
theorem dJ0_charAt_5068e_20 : decode cJ0_charAt_5068e 20 = .ok (.iload_n 1, 1) := wn_at gdJ0_charAt_5068e_20 0 rfl
theorem dJ0_charAt_5068e_21 : decode cJ0_charAt_5068e 21 = .ok (.invokestatic 498, 3) := wn_at gdJ0_charAt_5068e_20 1 rfl
theorem dJ0_charAt_5068e_24 : decode cJ0_charAt_5068e 24 = .ok (.ireturn, 1) := wn_at gdJ0_charAt_5068e_20 2 rfl
theorem gdJ0_coder_7d493_0 : ∀ e ∈ ([(0, .getstatic 38, 3), (3, .ifCond .eq 10, 3), (6, .aload_n 0, 1), (7, .getfield 15, 3), (10, .goto 4, 3), (13, .iconst 1, 1), (14, .ireturn, 1)] : List (Nat × Instr × Nat)), decode cJ0_coder_7d493 e.1 = .ok e.2 := wn_all _ 0 (by decide +kernel)
theorem dJ0_coder_7d493_0 : decode cJ0_coder_7d493 0 = .ok (.getstatic 38, 3) := wn_at gdJ0_coder_7d493_0 0 rfl
theorem dJ0_coder_7d493_3 : decode cJ0_coder_7d493 3 = .ok (.ifCond .eq 10, 3) := wn_at gdJ0_coder_7d493_0 1 rfl
theorem dJ0_coder_7d493_6 : decode cJ0_coder_7d493 6 = .ok (.aload_n 0, 1) := wn_at gdJ0_coder_7d493_0 2 rfl
theorem dJ0_coder_7d493_7 : decode cJ0_coder_7d493 7 = .ok (.getfield 15, 3) := wn_at gdJ0_coder_7d493_0 3 rfl
theorem dJ0_coder_7d493_10 : decode cJ0_coder_7d493 10 = .ok (.goto 4, 3) := wn_at gdJ0_coder_7d493_0 4 rfl
theorem dJ0_coder_7d493_13 : decode cJ0_coder_7d493 13 = .ok (.iconst 1, 1) := wn_at gdJ0_coder_7d493_0 5 rfl
theorem dJ0_coder_7d493_14 : decode cJ0_coder_7d493 14 = .ok (.ireturn, 1) := wn_at gdJ0_coder_7d493_0 6 rfl
theorem gdJ0_isLatin1_aae02_0 : ∀ e ∈ ([(0, .getstatic 38, 3), (3, .ifCond .eq 14, 3), (6, .aload_n 0, 1), (7, .getfield 15, 3), (10, .ifCond .ne 7, 3), (13, .iconst 1, 1), (14, .goto 4, 3), (17, .iconst 0, 1), (18, .ireturn, 1)] : List (Nat × Instr × Nat)), decode cJ0_isLatin1_aae02 e.1 = .ok e.2 := wn_all _ 0 (by decide +kernel)
theorem dJ0_isLatin1_aae02_0 : decode cJ0_isLatin1_aae02 0 = .ok (.getstatic 38, 3) := wn_at gdJ0_isLatin1_aae02_0 0 rfl
theorem dJ0_isLatin1_aae02_3 : decode cJ0_isLatin1_aae02 3 = .ok (.ifCond .eq 14, 3) := wn_at gdJ0_isLatin1_aae02_0 1 rfl
theorem dJ0_isLatin1_aae02_6 : decode cJ0_isLatin1_aae02 6 = .ok (.aload_n 0, 1) := wn_at gdJ0_isLatin1_aae02_0 2 rfl
theorem dJ0_isLatin1_aae02_7 : decode cJ0_isLatin1_aae02 7 = .ok (.getfield 15, 3) := wn_at gdJ0_isLatin1_aae02_0 3 rfl
theorem dJ0_isLatin1_aae02_10 : decode cJ0_isLatin1_aae02 10 = .ok (.ifCond .ne 7, 3) := wn_at gdJ0_isLatin1_aae02_0 4 rfl
theorem dJ0_isLatin1_aae02_13 : decode cJ0_isLatin1_aae02 13 = .ok (.iconst 1, 1) := wn_at gdJ0_isLatin1_aae02_0 5 rfl
theorem dJ0_isLatin1_aae02_14 : decode cJ0_isLatin1_aae02 14 = .ok (.goto 4, 3) := wn_at gdJ0_isLatin1_aae02_0 6 rfl
theorem dJ0_isLatin1_aae02_17 : decode cJ0_isLatin1_aae02 17 = .ok (.iconst 0, 1) := wn_at gdJ0_isLatin1_aae02_0 7 rfl
theorem dJ0_isLatin1_aae02_18 : decode cJ0_isLatin1_aae02 18 = .ok (.ireturn, 1) := wn_at gdJ0_isLatin1_aae02_0 8 rfl
theorem gdJ0_checkIndex_df160_0 : ∀ e ∈ ([(0, .iload_n 0, 1), (1, .iload_n 1, 1), (2, .getstatic 1053, 3), (5, .invokestatic 1059, 3), (8, .pop, 1), (9, .return_, 1)] : List (Nat × Instr × Nat)), decode cJ0_checkIndex_df160 e.1 = .ok e.2 := wn_all _ 0 (by decide +kernel)
theorem dJ0_checkIndex_df160_0 : decode cJ0_checkIndex_df160 0 = .ok (.iload_n 0, 1) := wn_at gdJ0_checkIndex_df160_0 0 rfl
theorem dJ0_checkIndex_df160_1 : decode cJ0_checkIndex_df160 1 = .ok (.iload_n 1, 1) := wn_at gdJ0_checkIndex_df160_0 1 rfl
theorem dJ0_checkIndex_df160_2 : decode cJ0_checkIndex_df160 2 = .ok (.getstatic 1053, 3) := wn_at gdJ0_checkIndex_df160_0 2 rfl
theorem dJ0_checkIndex_df160_5 : decode cJ0_checkIndex_df160 5 = .ok (.invokestatic 1059, 3) := wn_at gdJ0_checkIndex_df160_0 3 rfl
theorem dJ0_checkIndex_df160_8 : decode cJ0_checkIndex_df160 8 = .ok (.pop, 1) := wn_at gdJ0_checkIndex_df160_0 4 rfl
theorem dJ0_checkIndex_df160_9 : decode cJ0_checkIndex_df160 9 = .ok (.return_, 1) := wn_at gdJ0_checkIndex_df160_0 5 rfl
theorem gdJ1_charAt_3b067_0 : ∀ e ∈ ([(0, .iload_n 1, 1), (1, .aload_n 0, 1), (2, .arraylength, 1), (3, .invokestatic 9, 3), (6, .aload_n 0, 1), (7, .iload_n 1, 1), (8, .baload, 1), (9, .sipush 255, 3), (12, .iand, 1), (13, .i2c, 1)] : List (Nat × Instr × Nat)), decode cJ1_charAt_3b067 e.1 = .ok e.2 := wn_all _ 0 (by decide +kernel)
theorem dJ1_charAt_3b067_0 : decode cJ1_charAt_3b067 0 = .ok (.iload_n 1, 1) := wn_at gdJ1_charAt_3b067_0 0 rfl
theorem dJ1_charAt_3b067_1 : decode cJ1_charAt_3b067 1 = .ok (.aload_n 0, 1) := wn_at gdJ1_charAt_3b067_0 1 rfl
theorem dJ1_charAt_3b067_2 : decode cJ1_charAt_3b067 2 = .ok (.arraylength, 1) := wn_at gdJ1_charAt_3b067_0 2 rfl
theorem dJ1_charAt_3b067_3 : decode cJ1_charAt_3b067 3 = .ok (.invokestatic 9, 3) := wn_at gdJ1_charAt_3b067_0 3 rfl
theorem dJ1_charAt_3b067_6 : decode cJ1_charAt_3b067 6 = .ok (.aload_n 0, 1) := wn_at gdJ1_charAt_3b067_0 4 rfl
theorem dJ1_charAt_3b067_7 : decode cJ1_charAt_3b067 7 = .ok (.iload_n 1, 1) := wn_at gdJ1_charAt_3b067_0 5 rfl
theorem dJ1_charAt_3b067_8 : decode cJ1_charAt_3b067 8 = .ok (.baload, 1) := wn_at gdJ1_charAt_3b067_0 6 rfl
theorem dJ1_charAt_3b067_9 : decode cJ1_charAt_3b067 9 = .ok (.sipush 255, 3) := wn_at gdJ1_charAt_3b067_0 7 rfl
theorem dJ1_charAt_3b067_12 : decode cJ1_charAt_3b067 12 = .ok (.iand, 1) := wn_at gdJ1_charAt_3b067_0 8 rfl
theorem dJ1_charAt_3b067_13 : decode cJ1_charAt_3b067 13 = .ok (.i2c, 1) := wn_at gdJ1_charAt_3b067_0 9 rfl
theorem gdJ1_charAt_3b067_14 : ∀ e ∈ ([(14, .ireturn, 1)] : List (Nat × Instr × Nat)), decode cJ1_charAt_3b067 e.1 = .ok e.2 := wn_all _ 14 (by decide +kernel)
theorem dJ1_charAt_3b067_14 : decode cJ1_charAt_3b067 14 = .ok (.ireturn, 1) := wn_at gdJ1_charAt_3b067_14 0 rfl
theorem gdJ2_getChar_3b067_0 : ∀ e ∈ ([(0, .getstatic 44, 3), (3, .ifCond .ne 25, 3), (6, .iload_n 1, 1), (7, .ifCond .lt 11, 3), (10, .iload_n 1, 1), (11, .aload_n 0, 1), (12, .invokestatic 48, 3), (15, .if_icmp .lt 13, 3), (18, .new 52, 3), (21, .dup, 1)] : List (Nat × Instr × Nat)), decode cJ2_getChar_3b067 e.1 = .ok e.2 := wn_all _ 0 (by decide +kernel)
theorem dJ2_getChar_3b067_0 : decode cJ2_getChar_3b067 0 = .ok (.getstatic 44, 3) := wn_at gdJ2_getChar_3b067_0 0 rfl
theorem dJ2_getChar_3b067_3 : decode cJ2_getChar_3b067 3 = .ok (.ifCond .ne 25, 3) := wn_at gdJ2_getChar_3b067_0 1 rfl
theorem dJ2_getChar_3b067_6 : decode cJ2_getChar_3b067 6 = .ok (.iload_n 1, 1) := wn_at gdJ2_getChar_3b067_0 2 rfl
theorem dJ2_getChar_3b067_7 : decode cJ2_getChar_3b067 7 = .ok (.ifCond .lt 11, 3) := wn_at gdJ2_getChar_3b067_0 3 rfl
theorem dJ2_getChar_3b067_10 : decode cJ2_getChar_3b067 10 = .ok (.iload_n 1, 1) := wn_at gdJ2_getChar_3b067_0 4 rfl
theorem dJ2_getChar_3b067_11 : decode cJ2_getChar_3b067 11 = .ok (.aload_n 0, 1) := wn_at gdJ2_getChar_3b067_0 5 rfl
theorem dJ2_getChar_3b067_12 : decode cJ2_getChar_3b067 12 = .ok (.invokestatic 48, 3) := wn_at gdJ2_getChar_3b067_0 6 rfl
theorem dJ2_getChar_3b067_15 : decode cJ2_getChar_3b067 15 = .ok (.if_icmp .lt 13, 3) := wn_at gdJ2_getChar_3b067_0 7 rfl
theorem dJ2_getChar_3b067_18 : decode cJ2_getChar_3b067 18 = .ok (.new 52, 3) := wn_at gdJ2_getChar_3b067_0 8 rfl
theorem dJ2_getChar_3b067_21 : decode cJ2_getChar_3b067 21 = .ok (.dup, 1) := wn_at gdJ2_getChar_3b067_0 9 rfl
theorem gdJ2_getChar_3b067_22 : ∀ e ∈ ([(22, .ldc 54, 2), (24, .invokespecial 56, 3), (27, .athrow, 1), (28, .iload_n 1, 1), (29, .iconst 1, 1), (30, .ishl, 1), (31, .istore_n 1, 1), (32, .aload_n 0, 1), (33, .iload_n 1, 1), (34, .iinc 1 1, 3)] : List (Nat × Instr × Nat)), decode cJ2_getChar_3b067 e.1 = .ok e.2 := wn_all _ 22 (by decide +kernel)
theorem dJ2_getChar_3b067_22 : decode cJ2_getChar_3b067 22 = .ok (.ldc 54, 2) := wn_at gdJ2_getChar_3b067_22 0 rfl
theorem dJ2_getChar_3b067_24 : decode cJ2_getChar_3b067 24 = .ok (.invokespecial 56, 3) := wn_at gdJ2_getChar_3b067_22 1 rfl
theorem dJ2_getChar_3b067_27 : decode cJ2_getChar_3b067 27 = .ok (.athrow, 1) := wn_at gdJ2_getChar_3b067_22 2 rfl
theorem dJ2_getChar_3b067_28 : decode cJ2_getChar_3b067 28 = .ok (.iload_n 1, 1) := wn_at gdJ2_getChar_3b067_22 3 rfl
theorem dJ2_getChar_3b067_29 : decode cJ2_getChar_3b067 29 = .ok (.iconst 1, 1) := wn_at gdJ2_getChar_3b067_22 4 rfl
theorem dJ2_getChar_3b067_30 : decode cJ2_getChar_3b067 30 = .ok (.ishl, 1) := wn_at gdJ2_getChar_3b067_22 5 rfl
theorem dJ2_getChar_3b067_31 : decode cJ2_getChar_3b067 31 = .ok (.istore_n 1, 1) := wn_at gdJ2_getChar_3b067_22 6 rfl
theorem dJ2_getChar_3b067_32 : decode cJ2_getChar_3b067 32 = .ok (.aload_n 0, 1) := wn_at gdJ2_getChar_3b067_22 7 rfl
theorem dJ2_getChar_3b067_33 : decode cJ2_getChar_3b067 33 = .ok (.iload_n 1, 1) := wn_at gdJ2_getChar_3b067_22 8 rfl
theorem dJ2_getChar_3b067_34 : decode cJ2_getChar_3b067 34 = .ok (.iinc 1 1, 3) := wn_at gdJ2_getChar_3b067_22 9 rfl
theorem gdJ2_getChar_3b067_37 : ∀ e ∈ ([(37, .baload, 1), (38, .sipush 255, 3), (41, .iand, 1), (42, .getstatic 59, 3), (45, .ishl, 1), (46, .aload_n 0, 1), (47, .iload_n 1, 1), (48, .baload, 1), (49, .sipush 255, 3), (52, .iand, 1)] : List (Nat × Instr × Nat)), decode cJ2_getChar_3b067 e.1 = .ok e.2 := wn_all _ 37 (by decide +kernel)
theorem dJ2_getChar_3b067_37 : decode cJ2_getChar_3b067 37 = .ok (.baload, 1) := wn_at gdJ2_getChar_3b067_37 0 rfl
theorem dJ2_getChar_3b067_38 : decode cJ2_getChar_3b067 38 = .ok (.sipush 255, 3) := wn_at gdJ2_getChar_3b067_37 1 rfl
theorem dJ2_getChar_3b067_41 : decode cJ2_getChar_3b067 41 = .ok (.iand, 1) := wn_at gdJ2_getChar_3b067_37 2 rfl
theorem dJ2_getChar_3b067_42 : decode cJ2_getChar_3b067 42 = .ok (.getstatic 59, 3) := wn_at gdJ2_getChar_3b067_37 3 rfl
theorem dJ2_getChar_3b067_45 : decode cJ2_getChar_3b067 45 = .ok (.ishl, 1) := wn_at gdJ2_getChar_3b067_37 4 rfl
theorem dJ2_getChar_3b067_46 : decode cJ2_getChar_3b067 46 = .ok (.aload_n 0, 1) := wn_at gdJ2_getChar_3b067_37 5 rfl
theorem dJ2_getChar_3b067_47 : decode cJ2_getChar_3b067 47 = .ok (.iload_n 1, 1) := wn_at gdJ2_getChar_3b067_37 6 rfl
theorem dJ2_getChar_3b067_48 : decode cJ2_getChar_3b067 48 = .ok (.baload, 1) := wn_at gdJ2_getChar_3b067_37 7 rfl
theorem dJ2_getChar_3b067_49 : decode cJ2_getChar_3b067 49 = .ok (.sipush 255, 3) := wn_at gdJ2_getChar_3b067_37 8 rfl
theorem dJ2_getChar_3b067_52 : decode cJ2_getChar_3b067 52 = .ok (.iand, 1) := wn_at gdJ2_getChar_3b067_37 9 rfl
theorem gdJ2_getChar_3b067_53 : ∀ e ∈ ([(53, .getstatic 63, 3), (56, .ishl, 1), (57, .ior, 1), (58, .i2c, 1), (59, .ireturn, 1)] : List (Nat × Instr × Nat)), decode cJ2_getChar_3b067 e.1 = .ok e.2 := wn_all _ 53 (by decide +kernel)
theorem dJ2_getChar_3b067_53 : decode cJ2_getChar_3b067 53 = .ok (.getstatic 63, 3) := wn_at gdJ2_getChar_3b067_53 0 rfl
theorem dJ2_getChar_3b067_56 : decode cJ2_getChar_3b067 56 = .ok (.ishl, 1) := wn_at gdJ2_getChar_3b067_53 1 rfl
theorem dJ2_getChar_3b067_57 : decode cJ2_getChar_3b067 57 = .ok (.ior, 1) := wn_at gdJ2_getChar_3b067_53 2 rfl
theorem dJ2_getChar_3b067_58 : decode cJ2_getChar_3b067 58 = .ok (.i2c, 1) := wn_at gdJ2_getChar_3b067_53 3 rfl
theorem dJ2_getChar_3b067_59 : decode cJ2_getChar_3b067 59 = .ok (.ireturn, 1) := wn_at gdJ2_getChar_3b067_53 4 rfl
theorem gdJ2_length_9d52b_0 : ∀ e ∈ ([(0, .aload_n 0, 1), (1, .arraylength, 1), (2, .iconst 1, 1), (3, .ishr, 1), (4, .ireturn, 1)] : List (Nat × Instr × Nat)), decode cJ2_length_9d52b e.1 = .ok e.2 := wn_all _ 0 (by decide +kernel)
theorem dJ2_length_9d52b_0 : decode cJ2_length_9d52b 0 = .ok (.aload_n 0, 1) := wn_at gdJ2_length_9d52b_0 0 rfl
theorem dJ2_length_9d52b_1 : decode cJ2_length_9d52b 1 = .ok (.arraylength, 1) := wn_at gdJ2_length_9d52b_0 1 rfl
theorem dJ2_length_9d52b_2 : decode cJ2_length_9d52b 2 = .ok (.iconst 1, 1) := wn_at gdJ2_length_9d52b_0 2 rfl
theorem dJ2_length_9d52b_3 : decode cJ2_length_9d52b 3 = .ok (.ishr, 1) := wn_at gdJ2_length_9d52b_0 3 rfl
theorem dJ2_length_9d52b_4 : decode cJ2_length_9d52b 4 = .ok (.ireturn, 1) := wn_at gdJ2_length_9d52b_0 4 rfl
theorem gdJ2_charAt_3b067_0 : ∀ e ∈ ([(0, .iload_n 1, 1), (1, .aload_n 0, 1), (2, .invokestatic 67, 3), (5, .aload_n 0, 1), (6, .iload_n 1, 1), (7, .invokestatic 71, 3), (10, .ireturn, 1)] : List (Nat × Instr × Nat)), decode cJ2_charAt_3b067 e.1 = .ok e.2 := wn_all _ 0 (by decide +kernel)
theorem dJ2_charAt_3b067_0 : decode cJ2_charAt_3b067 0 = .ok (.iload_n 1, 1) := wn_at gdJ2_charAt_3b067_0 0 rfl
theorem dJ2_charAt_3b067_1 : decode cJ2_charAt_3b067 1 = .ok (.aload_n 0, 1) := wn_at gdJ2_charAt_3b067_0 1 rfl
theorem dJ2_charAt_3b067_2 : decode cJ2_charAt_3b067 2 = .ok (.invokestatic 67, 3) := wn_at gdJ2_charAt_3b067_0 2 rfl
theorem dJ2_charAt_3b067_5 : decode cJ2_charAt_3b067 5 = .ok (.aload_n 0, 1) := wn_at gdJ2_charAt_3b067_0 3 rfl
theorem dJ2_charAt_3b067_6 : decode cJ2_charAt_3b067 6 = .ok (.iload_n 1, 1) := wn_at gdJ2_charAt_3b067_0 4 rfl
theorem dJ2_charAt_3b067_7 : decode cJ2_charAt_3b067 7 = .ok (.invokestatic 71, 3) := wn_at gdJ2_charAt_3b067_0 5 rfl
theorem dJ2_charAt_3b067_10 : decode cJ2_charAt_3b067 10 = .ok (.ireturn, 1) := wn_at gdJ2_charAt_3b067_0 6 rfl
theorem gdJ2_checkIndex_2214a_0 : ∀ e ∈ ([(0, .iload_n 0, 1), (1, .aload_n 1, 1), (2, .invokestatic 48, 3), (5, .invokestatic 414, 3), (8, .return_, 1)] : List (Nat × Instr × Nat)), decode cJ2_checkIndex_2214a e.1 = .ok e.2 := wn_all _ 0 (by decide +kernel)
theorem dJ2_checkIndex_2214a_0 : decode cJ2_checkIndex_2214a 0 = .ok (.iload_n 0, 1) := wn_at gdJ2_checkIndex_2214a_0 0 rfl
theorem dJ2_checkIndex_2214a_1 : decode cJ2_checkIndex_2214a 1 = .ok (.aload_n 1, 1) := wn_at gdJ2_checkIndex_2214a_0 1 rfl
theorem dJ2_checkIndex_2214a_2 : decode cJ2_checkIndex_2214a 2 = .ok (.invokestatic 48, 3) := wn_at gdJ2_checkIndex_2214a_0 2 rfl
theorem dJ2_checkIndex_2214a_5 : decode cJ2_checkIndex_2214a 5 = .ok (.invokestatic 414, 3) := wn_at gdJ2_checkIndex_2214a_0 3 rfl
theorem dJ2_checkIndex_2214a_8 : decode cJ2_checkIndex_2214a 8 = .ok (.return_, 1) := wn_at gdJ2_checkIndex_2214a_0 4 rfl
theorem gdJ3_checkIndex_8e157_0 : ∀ e ∈ ([(0, .iload_n 0, 1), (1, .ifCond .lt 8, 3), (4, .iload_n 0, 1), (5, .iload_n 1, 1), (6, .if_icmp .lt 10, 3), (9, .aload_n 2, 1), (10, .iload_n 0, 1), (11, .iload_n 1, 1), (12, .invokestatic 95, 3), (15, .athrow, 1)] : List (Nat × Instr × Nat)), decode cJ3_checkIndex_8e157 e.1 = .ok e.2 := wn_all _ 0 (by decide +kernel)
theorem dJ3_checkIndex_8e157_0 : decode cJ3_checkIndex_8e157 0 = .ok (.iload_n 0, 1) := wn_at gdJ3_checkIndex_8e157_0 0 rfl
theorem dJ3_checkIndex_8e157_1 : decode cJ3_checkIndex_8e157 1 = .ok (.ifCond .lt 8, 3) := wn_at gdJ3_checkIndex_8e157_0 1 rfl
theorem dJ3_checkIndex_8e157_4 : decode cJ3_checkIndex_8e157 4 = .ok (.iload_n 0, 1) := wn_at gdJ3_checkIndex_8e157_0 2 rfl
theorem dJ3_checkIndex_8e157_5 : decode cJ3_checkIndex_8e157 5 = .ok (.iload_n 1, 1) := wn_at gdJ3_checkIndex_8e157_0 3 rfl
theorem dJ3_checkIndex_8e157_6 : decode cJ3_checkIndex_8e157 6 = .ok (.if_icmp .lt 10, 3) := wn_at gdJ3_checkIndex_8e157_0 4 rfl
theorem dJ3_checkIndex_8e157_9 : decode cJ3_checkIndex_8e157 9 = .ok (.aload_n 2, 1) := wn_at gdJ3_checkIndex_8e157_0 5 rfl
theorem dJ3_checkIndex_8e157_10 : decode cJ3_checkIndex_8e157 10 = .ok (.iload_n 0, 1) := wn_at gdJ3_checkIndex_8e157_0 6 rfl
theorem dJ3_checkIndex_8e157_11 : decode cJ3_checkIndex_8e157 11 = .ok (.iload_n 1, 1) := wn_at gdJ3_checkIndex_8e157_0 7 rfl
theorem dJ3_checkIndex_8e157_12 : decode cJ3_checkIndex_8e157 12 = .ok (.invokestatic 95, 3) := wn_at gdJ3_checkIndex_8e157_0 8 rfl
theorem dJ3_checkIndex_8e157_15 : decode cJ3_checkIndex_8e157 15 = .ok (.athrow, 1) := wn_at gdJ3_checkIndex_8e157_0 9 rfl
theorem gdJ3_checkIndex_8e157_16 : ∀ e ∈ ([(16, .iload_n 0, 1), (17, .ireturn, 1)] : List (Nat × Instr × Nat)), decode cJ3_checkIndex_8e157 e.1 = .ok e.2 := wn_all _ 16 (by decide +kernel)
theorem dJ3_checkIndex_8e157_16 : decode cJ3_checkIndex_8e157 16 = .ok (.iload_n 0, 1) := wn_at gdJ3_checkIndex_8e157_16 0 rfl
theorem dJ3_checkIndex_8e157_17 : decode cJ3_checkIndex_8e157 17 = .ok (.ireturn, 1) := wn_at gdJ3_checkIndex_8e157_16 1 rfl
theorem gdL_law_0 : ∀ e ∈ ([(0, .new 7, 3), (3, .dup, 1), (4, .invokespecial 9, 3), (7, .astore_n 1, 1), (8, .new 10, 3), (11, .dup, 1), (12, .invokespecial 12, 3), (15, .astore_n 2, 1), (16, .iconst 0, 1), (17, .istore_n 3, 1)] : List (Nat × Instr × Nat)), decode cL_law e.1 = .ok e.2 := wn_all _ 0 (by decide +kernel)
theorem dL_law_0 : decode cL_law 0 = .ok (.new 7, 3) := wn_at gdL_law_0 0 rfl
theorem dL_law_3 : decode cL_law 3 = .ok (.dup, 1) := wn_at gdL_law_0 1 rfl
theorem dL_law_4 : decode cL_law 4 = .ok (.invokespecial 9, 3) := wn_at gdL_law_0 2 rfl
theorem dL_law_7 : decode cL_law 7 = .ok (.astore_n 1, 1) := wn_at gdL_law_0 3 rfl
theorem dL_law_8 : decode cL_law 8 = .ok (.new 10, 3) := wn_at gdL_law_0 4 rfl
theorem dL_law_11 : decode cL_law 11 = .ok (.dup, 1) := wn_at gdL_law_0 5 rfl
theorem dL_law_12 : decode cL_law 12 = .ok (.invokespecial 12, 3) := wn_at gdL_law_0 6 rfl
theorem dL_law_15 : decode cL_law 15 = .ok (.astore_n 2, 1) := wn_at gdL_law_0 7 rfl
theorem dL_law_16 : decode cL_law 16 = .ok (.iconst 0, 1) := wn_at gdL_law_0 8 rfl
theorem dL_law_17 : decode cL_law 17 = .ok (.istore_n 3, 1) := wn_at gdL_law_0 9 rfl
theorem gdL_law_18 : ∀ e ∈ ([(18, .iload_n 3, 1), (19, .aload_n 0, 1), (20, .arraylength, 1), (21, .bipush 6, 2), (23, .isub, 1), (24, .if_icmp .gt 1601, 3), (27, .aload_n 0, 1), (28, .iload_n 3, 1), (29, .iaload, 1), (30, .bipush 63, 2)] : List (Nat × Instr × Nat)), decode cL_law e.1 = .ok e.2 := wn_all _ 18 (by decide +kernel)
theorem dL_law_18 : decode cL_law 18 = .ok (.iload_n 3, 1) := wn_at gdL_law_18 0 rfl
theorem dL_law_19 : decode cL_law 19 = .ok (.aload_n 0, 1) := wn_at gdL_law_18 1 rfl
theorem dL_law_20 : decode cL_law 20 = .ok (.arraylength, 1) := wn_at gdL_law_18 2 rfl
theorem dL_law_21 : decode cL_law 21 = .ok (.bipush 6, 2) := wn_at gdL_law_18 3 rfl
theorem dL_law_23 : decode cL_law 23 = .ok (.isub, 1) := wn_at gdL_law_18 4 rfl
theorem dL_law_24 : decode cL_law 24 = .ok (.if_icmp .gt 1601, 3) := wn_at gdL_law_18 5 rfl
theorem dL_law_27 : decode cL_law 27 = .ok (.aload_n 0, 1) := wn_at gdL_law_18 6 rfl
theorem dL_law_28 : decode cL_law 28 = .ok (.iload_n 3, 1) := wn_at gdL_law_18 7 rfl
theorem dL_law_29 : decode cL_law 29 = .ok (.iaload, 1) := wn_at gdL_law_18 8 rfl
theorem dL_law_30 : decode cL_law 30 = .ok (.bipush 63, 2) := wn_at gdL_law_18 9 rfl
theorem gdL_law_32 : ∀ e ∈ ([(32, .iand, 1)] : List (Nat × Instr × Nat)), decode cL_law e.1 = .ok e.2 := wn_all _ 32 (by decide +kernel)
theorem dL_law_32 : decode cL_law 32 = .ok (.iand, 1) := wn_at gdL_law_32 0 rfl
theorem dL_law_33 : decode cL_law 33 = .ok (.tableswitch 1586 0 36 #[163, 226, 249, 262, 275, 308, 341, 374, 407, 440, 473, 506, 559, 592, 625, 668, 711, 790, 853, 916, 979, 1032, 1091, 1144, 1187, 1230, 1263, 1276, 1319, 1362, 1395, 1408, 1431, 1454, 1517, 1540, 1563], 163) := by decide +kernel
theorem gdL_law_196 : ∀ e ∈ ([(196, .aload_n 1, 1), (197, .aload_n 0, 1), (198, .iload_n 3, 1), (199, .iconst 1, 1), (200, .iadd, 1), (201, .iaload, 1), (202, .aload_n 0, 1), (203, .iload_n 3, 1), (204, .iconst 2, 1), (205, .iadd, 1)] : List (Nat × Instr × Nat)), decode cL_law e.1 = .ok e.2 := wn_all _ 196 (by decide +kernel)
theorem dL_law_196 : decode cL_law 196 = .ok (.aload_n 1, 1) := wn_at gdL_law_196 0 rfl
theorem dL_law_197 : decode cL_law 197 = .ok (.aload_n 0, 1) := wn_at gdL_law_196 1 rfl
theorem dL_law_198 : decode cL_law 198 = .ok (.iload_n 3, 1) := wn_at gdL_law_196 2 rfl
theorem dL_law_199 : decode cL_law 199 = .ok (.iconst 1, 1) := wn_at gdL_law_196 3 rfl
theorem dL_law_200 : decode cL_law 200 = .ok (.iadd, 1) := wn_at gdL_law_196 4 rfl
theorem dL_law_201 : decode cL_law 201 = .ok (.iaload, 1) := wn_at gdL_law_196 5 rfl
theorem dL_law_202 : decode cL_law 202 = .ok (.aload_n 0, 1) := wn_at gdL_law_196 6 rfl
theorem dL_law_203 : decode cL_law 203 = .ok (.iload_n 3, 1) := wn_at gdL_law_196 7 rfl
theorem dL_law_204 : decode cL_law 204 = .ok (.iconst 2, 1) := wn_at gdL_law_196 8 rfl
theorem dL_law_205 : decode cL_law 205 = .ok (.iadd, 1) := wn_at gdL_law_196 9 rfl
theorem gdL_law_206 : ∀ e ∈ ([(206, .iaload, 1), (207, .aload_n 0, 1), (208, .iload_n 3, 1), (209, .iconst 3, 1), (210, .iadd, 1), (211, .iaload, 1), (212, .aload_n 0, 1), (213, .iload_n 3, 1), (214, .iconst 4, 1), (215, .iadd, 1)] : List (Nat × Instr × Nat)), decode cL_law e.1 = .ok e.2 := wn_all _ 206 (by decide +kernel)
theorem dL_law_206 : decode cL_law 206 = .ok (.iaload, 1) := wn_at gdL_law_206 0 rfl
theorem dL_law_207 : decode cL_law 207 = .ok (.aload_n 0, 1) := wn_at gdL_law_206 1 rfl
theorem dL_law_208 : decode cL_law 208 = .ok (.iload_n 3, 1) := wn_at gdL_law_206 2 rfl
theorem dL_law_209 : decode cL_law 209 = .ok (.iconst 3, 1) := wn_at gdL_law_206 3 rfl
theorem dL_law_210 : decode cL_law 210 = .ok (.iadd, 1) := wn_at gdL_law_206 4 rfl
theorem dL_law_211 : decode cL_law 211 = .ok (.iaload, 1) := wn_at gdL_law_206 5 rfl
theorem dL_law_212 : decode cL_law 212 = .ok (.aload_n 0, 1) := wn_at gdL_law_206 6 rfl
theorem dL_law_213 : decode cL_law 213 = .ok (.iload_n 3, 1) := wn_at gdL_law_206 7 rfl
theorem dL_law_214 : decode cL_law 214 = .ok (.iconst 4, 1) := wn_at gdL_law_206 8 rfl
theorem dL_law_215 : decode cL_law 215 = .ok (.iadd, 1) := wn_at gdL_law_206 9 rfl
theorem gdL_law_216 : ∀ e ∈ ([(216, .iaload, 1), (217, .aload_n 0, 1), (218, .iload_n 3, 1), (219, .iconst 5, 1), (220, .iadd, 1), (221, .iaload, 1), (222, .invokevirtual 13, 3), (225, .pop, 1), (226, .aload_n 2, 1), (227, .aload_n 0, 1)] : List (Nat × Instr × Nat)), decode cL_law e.1 = .ok e.2 := wn_all _ 216 (by decide +kernel)
theorem dL_law_216 : decode cL_law 216 = .ok (.iaload, 1) := wn_at gdL_law_216 0 rfl
theorem dL_law_217 : decode cL_law 217 = .ok (.aload_n 0, 1) := wn_at gdL_law_216 1 rfl
theorem dL_law_218 : decode cL_law 218 = .ok (.iload_n 3, 1) := wn_at gdL_law_216 2 rfl
theorem dL_law_219 : decode cL_law 219 = .ok (.iconst 5, 1) := wn_at gdL_law_216 3 rfl
theorem dL_law_220 : decode cL_law 220 = .ok (.iadd, 1) := wn_at gdL_law_216 4 rfl
theorem dL_law_221 : decode cL_law 221 = .ok (.iaload, 1) := wn_at gdL_law_216 5 rfl
theorem dL_law_222 : decode cL_law 222 = .ok (.invokevirtual 13, 3) := wn_at gdL_law_216 6 rfl
theorem dL_law_225 : decode cL_law 225 = .ok (.pop, 1) := wn_at gdL_law_216 7 rfl
theorem dL_law_226 : decode cL_law 226 = .ok (.aload_n 2, 1) := wn_at gdL_law_216 8 rfl
theorem dL_law_227 : decode cL_law 227 = .ok (.aload_n 0, 1) := wn_at gdL_law_216 9 rfl
theorem gdL_law_228 : ∀ e ∈ ([(228, .iload_n 3, 1), (229, .iconst 1, 1), (230, .iadd, 1), (231, .iaload, 1), (232, .aload_n 0, 1), (233, .iload_n 3, 1), (234, .iconst 2, 1), (235, .iadd, 1), (236, .iaload, 1), (237, .aload_n 0, 1)] : List (Nat × Instr × Nat)), decode cL_law e.1 = .ok e.2 := wn_all _ 228 (by decide +kernel)
theorem dL_law_228 : decode cL_law 228 = .ok (.iload_n 3, 1) := wn_at gdL_law_228 0 rfl
theorem dL_law_229 : decode cL_law 229 = .ok (.iconst 1, 1) := wn_at gdL_law_228 1 rfl
theorem dL_law_230 : decode cL_law 230 = .ok (.iadd, 1) := wn_at gdL_law_228 2 rfl
theorem dL_law_231 : decode cL_law 231 = .ok (.iaload, 1) := wn_at gdL_law_228 3 rfl
theorem dL_law_232 : decode cL_law 232 = .ok (.aload_n 0, 1) := wn_at gdL_law_228 4 rfl
theorem dL_law_233 : decode cL_law 233 = .ok (.iload_n 3, 1) := wn_at gdL_law_228 5 rfl
theorem dL_law_234 : decode cL_law 234 = .ok (.iconst 2, 1) := wn_at gdL_law_228 6 rfl
theorem dL_law_235 : decode cL_law 235 = .ok (.iadd, 1) := wn_at gdL_law_228 7 rfl
theorem dL_law_236 : decode cL_law 236 = .ok (.iaload, 1) := wn_at gdL_law_228 8 rfl
theorem dL_law_237 : decode cL_law 237 = .ok (.aload_n 0, 1) := wn_at gdL_law_228 9 rfl
theorem gdL_law_238 : ∀ e ∈ ([(238, .iload_n 3, 1), (239, .iconst 3, 1), (240, .iadd, 1), (241, .iaload, 1), (242, .aload_n 0, 1), (243, .iload_n 3, 1), (244, .iconst 4, 1), (245, .iadd, 1), (246, .iaload, 1), (247, .aload_n 0, 1)] : List (Nat × Instr × Nat)), decode cL_law e.1 = .ok e.2 := wn_all _ 238 (by decide +kernel)
theorem dL_law_238 : decode cL_law 238 = .ok (.iload_n 3, 1) := wn_at gdL_law_238 0 rfl
theorem dL_law_239 : decode cL_law 239 = .ok (.iconst 3, 1) := wn_at gdL_law_238 1 rfl
theorem dL_law_240 : decode cL_law 240 = .ok (.iadd, 1) := wn_at gdL_law_238 2 rfl
theorem dL_law_241 : decode cL_law 241 = .ok (.iaload, 1) := wn_at gdL_law_238 3 rfl
theorem dL_law_242 : decode cL_law 242 = .ok (.aload_n 0, 1) := wn_at gdL_law_238 4 rfl
theorem dL_law_243 : decode cL_law 243 = .ok (.iload_n 3, 1) := wn_at gdL_law_238 5 rfl
theorem dL_law_244 : decode cL_law 244 = .ok (.iconst 4, 1) := wn_at gdL_law_238 6 rfl
theorem dL_law_245 : decode cL_law 245 = .ok (.iadd, 1) := wn_at gdL_law_238 7 rfl
theorem dL_law_246 : decode cL_law 246 = .ok (.iaload, 1) := wn_at gdL_law_238 8 rfl
theorem dL_law_247 : decode cL_law 247 = .ok (.aload_n 0, 1) := wn_at gdL_law_238 9 rfl
theorem gdL_law_248 : ∀ e ∈ ([(248, .iload_n 3, 1), (249, .iconst 5, 1), (250, .iadd, 1), (251, .iaload, 1), (252, .invokevirtual 17, 3), (255, .pop, 1), (256, .goto 1363, 3), (259, .aload_n 1, 1), (260, .aload_n 0, 1), (261, .iload_n 3, 1)] : List (Nat × Instr × Nat)), decode cL_law e.1 = .ok e.2 := wn_all _ 248 (by decide +kernel)
theorem dL_law_248 : decode cL_law 248 = .ok (.iload_n 3, 1) := wn_at gdL_law_248 0 rfl
theorem dL_law_249 : decode cL_law 249 = .ok (.iconst 5, 1) := wn_at gdL_law_248 1 rfl
theorem dL_law_250 : decode cL_law 250 = .ok (.iadd, 1) := wn_at gdL_law_248 2 rfl
theorem dL_law_251 : decode cL_law 251 = .ok (.iaload, 1) := wn_at gdL_law_248 3 rfl
theorem dL_law_252 : decode cL_law 252 = .ok (.invokevirtual 17, 3) := wn_at gdL_law_248 4 rfl
theorem dL_law_255 : decode cL_law 255 = .ok (.pop, 1) := wn_at gdL_law_248 5 rfl
theorem dL_law_256 : decode cL_law 256 = .ok (.goto 1363, 3) := wn_at gdL_law_248 6 rfl
theorem dL_law_259 : decode cL_law 259 = .ok (.aload_n 1, 1) := wn_at gdL_law_248 7 rfl
theorem dL_law_260 : decode cL_law 260 = .ok (.aload_n 0, 1) := wn_at gdL_law_248 8 rfl
theorem dL_law_261 : decode cL_law 261 = .ok (.iload_n 3, 1) := wn_at gdL_law_248 9 rfl
theorem gdL_law_262 : ∀ e ∈ ([(262, .iconst 1, 1), (263, .iadd, 1), (264, .iaload, 1), (265, .invokevirtual 18, 3), (268, .pop, 1), (269, .aload_n 2, 1), (270, .aload_n 0, 1), (271, .iload_n 3, 1), (272, .iconst 1, 1), (273, .iadd, 1)] : List (Nat × Instr × Nat)), decode cL_law e.1 = .ok e.2 := wn_all _ 262 (by decide +kernel)
theorem dL_law_262 : decode cL_law 262 = .ok (.iconst 1, 1) := wn_at gdL_law_262 0 rfl
theorem dL_law_263 : decode cL_law 263 = .ok (.iadd, 1) := wn_at gdL_law_262 1 rfl
theorem dL_law_264 : decode cL_law 264 = .ok (.iaload, 1) := wn_at gdL_law_262 2 rfl
theorem dL_law_265 : decode cL_law 265 = .ok (.invokevirtual 18, 3) := wn_at gdL_law_262 3 rfl
theorem dL_law_268 : decode cL_law 268 = .ok (.pop, 1) := wn_at gdL_law_262 4 rfl
theorem dL_law_269 : decode cL_law 269 = .ok (.aload_n 2, 1) := wn_at gdL_law_262 5 rfl
theorem dL_law_270 : decode cL_law 270 = .ok (.aload_n 0, 1) := wn_at gdL_law_262 6 rfl
theorem dL_law_271 : decode cL_law 271 = .ok (.iload_n 3, 1) := wn_at gdL_law_262 7 rfl
theorem dL_law_272 : decode cL_law 272 = .ok (.iconst 1, 1) := wn_at gdL_law_262 8 rfl
theorem dL_law_273 : decode cL_law 273 = .ok (.iadd, 1) := wn_at gdL_law_262 9 rfl
theorem gdL_law_274 : ∀ e ∈ ([(274, .iaload, 1), (275, .invokevirtual 22, 3), (278, .pop, 1), (279, .goto 1340, 3), (282, .aload_n 1, 1), (283, .invokevirtual 23, 3), (286, .pop, 1), (287, .aload_n 2, 1), (288, .invokevirtual 27, 3), (291, .pop, 1)] : List (Nat × Instr × Nat)), decode cL_law e.1 = .ok e.2 := wn_all _ 274 (by decide +kernel)
theorem dL_law_274 : decode cL_law 274 = .ok (.iaload, 1) := wn_at gdL_law_274 0 rfl
theorem dL_law_275 : decode cL_law 275 = .ok (.invokevirtual 22, 3) := wn_at gdL_law_274 1 rfl
theorem dL_law_278 : decode cL_law 278 = .ok (.pop, 1) := wn_at gdL_law_274 2 rfl
theorem dL_law_279 : decode cL_law 279 = .ok (.goto 1340, 3) := wn_at gdL_law_274 3 rfl
theorem dL_law_282 : decode cL_law 282 = .ok (.aload_n 1, 1) := wn_at gdL_law_274 4 rfl
theorem dL_law_283 : decode cL_law 283 = .ok (.invokevirtual 23, 3) := wn_at gdL_law_274 5 rfl
theorem dL_law_286 : decode cL_law 286 = .ok (.pop, 1) := wn_at gdL_law_274 6 rfl
theorem dL_law_287 : decode cL_law 287 = .ok (.aload_n 2, 1) := wn_at gdL_law_274 7 rfl
theorem dL_law_288 : decode cL_law 288 = .ok (.invokevirtual 27, 3) := wn_at gdL_law_274 8 rfl
theorem dL_law_291 : decode cL_law 291 = .ok (.pop, 1) := wn_at gdL_law_274 9 rfl
theorem gdL_law_292 : ∀ e ∈ ([(292, .goto 1327, 3), (295, .aload_n 1, 1), (296, .invokevirtual 28, 3), (299, .pop, 1), (300, .aload_n 2, 1), (301, .invokevirtual 31, 3), (304, .pop, 1), (305, .goto 1314, 3), (308, .aload_n 1, 1), (309, .aload_n 0, 1)] : List (Nat × Instr × Nat)), decode cL_law e.1 = .ok e.2 := wn_all _ 292 (by decide +kernel)
theorem dL_law_292 : decode cL_law 292 = .ok (.goto 1327, 3) := wn_at gdL_law_292 0 rfl
theorem dL_law_295 : decode cL_law 295 = .ok (.aload_n 1, 1) := wn_at gdL_law_292 1 rfl
theorem dL_law_296 : decode cL_law 296 = .ok (.invokevirtual 28, 3) := wn_at gdL_law_292 2 rfl
theorem dL_law_299 : decode cL_law 299 = .ok (.pop, 1) := wn_at gdL_law_292 3 rfl
theorem dL_law_300 : decode cL_law 300 = .ok (.aload_n 2, 1) := wn_at gdL_law_292 4 rfl
theorem dL_law_301 : decode cL_law 301 = .ok (.invokevirtual 31, 3) := wn_at gdL_law_292 5 rfl
theorem dL_law_304 : decode cL_law 304 = .ok (.pop, 1) := wn_at gdL_law_292 6 rfl
theorem dL_law_305 : decode cL_law 305 = .ok (.goto 1314, 3) := wn_at gdL_law_292 7 rfl
theorem dL_law_308 : decode cL_law 308 = .ok (.aload_n 1, 1) := wn_at gdL_law_292 8 rfl
theorem dL_law_309 : decode cL_law 309 = .ok (.aload_n 0, 1) := wn_at gdL_law_292 9 rfl
theorem gdL_law_310 : ∀ e ∈ ([(310, .iload_n 3, 1), (311, .iconst 1, 1), (312, .iadd, 1), (313, .iaload, 1), (314, .aload_n 0, 1), (315, .iload_n 3, 1), (316, .iconst 2, 1), (317, .iadd, 1), (318, .iaload, 1), (319, .invokevirtual 32, 3)] : List (Nat × Instr × Nat)), decode cL_law e.1 = .ok e.2 := wn_all _ 310 (by decide +kernel)
theorem dL_law_310 : decode cL_law 310 = .ok (.iload_n 3, 1) := wn_at gdL_law_310 0 rfl
theorem dL_law_311 : decode cL_law 311 = .ok (.iconst 1, 1) := wn_at gdL_law_310 1 rfl
theorem dL_law_312 : decode cL_law 312 = .ok (.iadd, 1) := wn_at gdL_law_310 2 rfl
theorem dL_law_313 : decode cL_law 313 = .ok (.iaload, 1) := wn_at gdL_law_310 3 rfl
theorem dL_law_314 : decode cL_law 314 = .ok (.aload_n 0, 1) := wn_at gdL_law_310 4 rfl
theorem dL_law_315 : decode cL_law 315 = .ok (.iload_n 3, 1) := wn_at gdL_law_310 5 rfl
theorem dL_law_316 : decode cL_law 316 = .ok (.iconst 2, 1) := wn_at gdL_law_310 6 rfl
theorem dL_law_317 : decode cL_law 317 = .ok (.iadd, 1) := wn_at gdL_law_310 7 rfl
theorem dL_law_318 : decode cL_law 318 = .ok (.iaload, 1) := wn_at gdL_law_310 8 rfl
theorem dL_law_319 : decode cL_law 319 = .ok (.invokevirtual 32, 3) := wn_at gdL_law_310 9 rfl
theorem gdL_law_322 : ∀ e ∈ ([(322, .pop, 1), (323, .aload_n 2, 1), (324, .aload_n 0, 1), (325, .iload_n 3, 1), (326, .iconst 1, 1), (327, .iadd, 1), (328, .iaload, 1), (329, .aload_n 0, 1), (330, .iload_n 3, 1), (331, .iconst 2, 1)] : List (Nat × Instr × Nat)), decode cL_law e.1 = .ok e.2 := wn_all _ 322 (by decide +kernel)
theorem dL_law_322 : decode cL_law 322 = .ok (.pop, 1) := wn_at gdL_law_322 0 rfl
theorem dL_law_323 : decode cL_law 323 = .ok (.aload_n 2, 1) := wn_at gdL_law_322 1 rfl
theorem dL_law_324 : decode cL_law 324 = .ok (.aload_n 0, 1) := wn_at gdL_law_322 2 rfl
theorem dL_law_325 : decode cL_law 325 = .ok (.iload_n 3, 1) := wn_at gdL_law_322 3 rfl
theorem dL_law_326 : decode cL_law 326 = .ok (.iconst 1, 1) := wn_at gdL_law_322 4 rfl
theorem dL_law_327 : decode cL_law 327 = .ok (.iadd, 1) := wn_at gdL_law_322 5 rfl
theorem dL_law_328 : decode cL_law 328 = .ok (.iaload, 1) := wn_at gdL_law_322 6 rfl
theorem dL_law_329 : decode cL_law 329 = .ok (.aload_n 0, 1) := wn_at gdL_law_322 7 rfl
theorem dL_law_330 : decode cL_law 330 = .ok (.iload_n 3, 1) := wn_at gdL_law_322 8 rfl
theorem dL_law_331 : decode cL_law 331 = .ok (.iconst 2, 1) := wn_at gdL_law_322 9 rfl
theorem gdL_law_332 : ∀ e ∈ ([(332, .iadd, 1), (333, .iaload, 1), (334, .invokevirtual 36, 3), (337, .pop, 1), (338, .goto 1281, 3), (341, .aload_n 1, 1), (342, .aload_n 0, 1), (343, .iload_n 3, 1), (344, .iconst 1, 1), (345, .iadd, 1)] : List (Nat × Instr × Nat)), decode cL_law e.1 = .ok e.2 := wn_all _ 332 (by decide +kernel)
theorem dL_law_332 : decode cL_law 332 = .ok (.iadd, 1) := wn_at gdL_law_332 0 rfl
theorem dL_law_333 : decode cL_law 333 = .ok (.iaload, 1) := wn_at gdL_law_332 1 rfl
theorem dL_law_334 : decode cL_law 334 = .ok (.invokevirtual 36, 3) := wn_at gdL_law_332 2 rfl
theorem dL_law_337 : decode cL_law 337 = .ok (.pop, 1) := wn_at gdL_law_332 3 rfl
theorem dL_law_338 : decode cL_law 338 = .ok (.goto 1281, 3) := wn_at gdL_law_332 4 rfl
theorem dL_law_341 : decode cL_law 341 = .ok (.aload_n 1, 1) := wn_at gdL_law_332 5 rfl
theorem dL_law_342 : decode cL_law 342 = .ok (.aload_n 0, 1) := wn_at gdL_law_332 6 rfl
theorem dL_law_343 : decode cL_law 343 = .ok (.iload_n 3, 1) := wn_at gdL_law_332 7 rfl
theorem dL_law_344 : decode cL_law 344 = .ok (.iconst 1, 1) := wn_at gdL_law_332 8 rfl
theorem dL_law_345 : decode cL_law 345 = .ok (.iadd, 1) := wn_at gdL_law_332 9 rfl
theorem gdL_law_346 : ∀ e ∈ ([(346, .iaload, 1), (347, .aload_n 0, 1), (348, .iload_n 3, 1), (349, .iconst 2, 1), (350, .iadd, 1), (351, .iaload, 1), (352, .invokevirtual 37, 3), (355, .pop, 1), (356, .aload_n 2, 1), (357, .aload_n 0, 1)] : List (Nat × Instr × Nat)), decode cL_law e.1 = .ok e.2 := wn_all _ 346 (by decide +kernel)
theorem dL_law_346 : decode cL_law 346 = .ok (.iaload, 1) := wn_at gdL_law_346 0 rfl
theorem dL_law_347 : decode cL_law 347 = .ok (.aload_n 0, 1) := wn_at gdL_law_346 1 rfl
theorem dL_law_348 : decode cL_law 348 = .ok (.iload_n 3, 1) := wn_at gdL_law_346 2 rfl
theorem dL_law_349 : decode cL_law 349 = .ok (.iconst 2, 1) := wn_at gdL_law_346 3 rfl
theorem dL_law_350 : decode cL_law 350 = .ok (.iadd, 1) := wn_at gdL_law_346 4 rfl
theorem dL_law_351 : decode cL_law 351 = .ok (.iaload, 1) := wn_at gdL_law_346 5 rfl
theorem dL_law_352 : decode cL_law 352 = .ok (.invokevirtual 37, 3) := wn_at gdL_law_346 6 rfl
theorem dL_law_355 : decode cL_law 355 = .ok (.pop, 1) := wn_at gdL_law_346 7 rfl
theorem dL_law_356 : decode cL_law 356 = .ok (.aload_n 2, 1) := wn_at gdL_law_346 8 rfl
theorem dL_law_357 : decode cL_law 357 = .ok (.aload_n 0, 1) := wn_at gdL_law_346 9 rfl
theorem gdL_law_358 : ∀ e ∈ ([(358, .iload_n 3, 1), (359, .iconst 1, 1), (360, .iadd, 1), (361, .iaload, 1), (362, .aload_n 0, 1), (363, .iload_n 3, 1), (364, .iconst 2, 1), (365, .iadd, 1), (366, .iaload, 1), (367, .invokevirtual 40, 3)] : List (Nat × Instr × Nat)), decode cL_law e.1 = .ok e.2 := wn_all _ 358 (by decide +kernel)
theorem dL_law_358 : decode cL_law 358 = .ok (.iload_n 3, 1) := wn_at gdL_law_358 0 rfl
theorem dL_law_359 : decode cL_law 359 = .ok (.iconst 1, 1) := wn_at gdL_law_358 1 rfl
theorem dL_law_360 : decode cL_law 360 = .ok (.iadd, 1) := wn_at gdL_law_358 2 rfl
theorem dL_law_361 : decode cL_law 361 = .ok (.iaload, 1) := wn_at gdL_law_358 3 rfl
theorem dL_law_362 : decode cL_law 362 = .ok (.aload_n 0, 1) := wn_at gdL_law_358 4 rfl
theorem dL_law_363 : decode cL_law 363 = .ok (.iload_n 3, 1) := wn_at gdL_law_358 5 rfl
theorem dL_law_364 : decode cL_law 364 = .ok (.iconst 2, 1) := wn_at gdL_law_358 6 rfl
theorem dL_law_365 : decode cL_law 365 = .ok (.iadd, 1) := wn_at gdL_law_358 7 rfl
theorem dL_law_366 : decode cL_law 366 = .ok (.iaload, 1) := wn_at gdL_law_358 8 rfl
theorem dL_law_367 : decode cL_law 367 = .ok (.invokevirtual 40, 3) := wn_at gdL_law_358 9 rfl
theorem gdL_law_370 : ∀ e ∈ ([(370, .pop, 1), (371, .goto 1248, 3), (374, .aload_n 1, 1), (375, .aload_n 0, 1), (376, .iload_n 3, 1), (377, .iconst 1, 1), (378, .iadd, 1), (379, .iaload, 1), (380, .aload_n 0, 1), (381, .iload_n 3, 1)] : List (Nat × Instr × Nat)), decode cL_law e.1 = .ok e.2 := wn_all _ 370 (by decide +kernel)
theorem dL_law_370 : decode cL_law 370 = .ok (.pop, 1) := wn_at gdL_law_370 0 rfl
theorem dL_law_371 : decode cL_law 371 = .ok (.goto 1248, 3) := wn_at gdL_law_370 1 rfl
theorem dL_law_374 : decode cL_law 374 = .ok (.aload_n 1, 1) := wn_at gdL_law_370 2 rfl
theorem dL_law_375 : decode cL_law 375 = .ok (.aload_n 0, 1) := wn_at gdL_law_370 3 rfl
theorem dL_law_376 : decode cL_law 376 = .ok (.iload_n 3, 1) := wn_at gdL_law_370 4 rfl
theorem dL_law_377 : decode cL_law 377 = .ok (.iconst 1, 1) := wn_at gdL_law_370 5 rfl
theorem dL_law_378 : decode cL_law 378 = .ok (.iadd, 1) := wn_at gdL_law_370 6 rfl
theorem dL_law_379 : decode cL_law 379 = .ok (.iaload, 1) := wn_at gdL_law_370 7 rfl
theorem dL_law_380 : decode cL_law 380 = .ok (.aload_n 0, 1) := wn_at gdL_law_370 8 rfl
theorem dL_law_381 : decode cL_law 381 = .ok (.iload_n 3, 1) := wn_at gdL_law_370 9 rfl
theorem gdL_law_382 : ∀ e ∈ ([(382, .iconst 2, 1), (383, .iadd, 1), (384, .iaload, 1), (385, .invokevirtual 41, 3), (388, .pop, 1), (389, .aload_n 2, 1), (390, .aload_n 0, 1), (391, .iload_n 3, 1), (392, .iconst 1, 1), (393, .iadd, 1)] : List (Nat × Instr × Nat)), decode cL_law e.1 = .ok e.2 := wn_all _ 382 (by decide +kernel)
theorem dL_law_382 : decode cL_law 382 = .ok (.iconst 2, 1) := wn_at gdL_law_382 0 rfl
theorem dL_law_383 : decode cL_law 383 = .ok (.iadd, 1) := wn_at gdL_law_382 1 rfl
theorem dL_law_384 : decode cL_law 384 = .ok (.iaload, 1) := wn_at gdL_law_382 2 rfl
theorem dL_law_385 : decode cL_law 385 = .ok (.invokevirtual 41, 3) := wn_at gdL_law_382 3 rfl
theorem dL_law_388 : decode cL_law 388 = .ok (.pop, 1) := wn_at gdL_law_382 4 rfl
theorem dL_law_389 : decode cL_law 389 = .ok (.aload_n 2, 1) := wn_at gdL_law_382 5 rfl
theorem dL_law_390 : decode cL_law 390 = .ok (.aload_n 0, 1) := wn_at gdL_law_382 6 rfl
theorem dL_law_391 : decode cL_law 391 = .ok (.iload_n 3, 1) := wn_at gdL_law_382 7 rfl
theorem dL_law_392 : decode cL_law 392 = .ok (.iconst 1, 1) := wn_at gdL_law_382 8 rfl
theorem dL_law_393 : decode cL_law 393 = .ok (.iadd, 1) := wn_at gdL_law_382 9 rfl
theorem gdL_law_394 : ∀ e ∈ ([(394, .iaload, 1), (395, .aload_n 0, 1), (396, .iload_n 3, 1), (397, .iconst 2, 1), (398, .iadd, 1), (399, .iaload, 1), (400, .invokevirtual 44, 3), (403, .pop, 1), (404, .goto 1215, 3), (407, .aload_n 1, 1)] : List (Nat × Instr × Nat)), decode cL_law e.1 = .ok e.2 := wn_all _ 394 (by decide +kernel)
theorem dL_law_394 : decode cL_law 394 = .ok (.iaload, 1) := wn_at gdL_law_394 0 rfl
theorem dL_law_395 : decode cL_law 395 = .ok (.aload_n 0, 1) := wn_at gdL_law_394 1 rfl
theorem dL_law_396 : decode cL_law 396 = .ok (.iload_n 3, 1) := wn_at gdL_law_394 2 rfl
theorem dL_law_397 : decode cL_law 397 = .ok (.iconst 2, 1) := wn_at gdL_law_394 3 rfl
theorem dL_law_398 : decode cL_law 398 = .ok (.iadd, 1) := wn_at gdL_law_394 4 rfl
theorem dL_law_399 : decode cL_law 399 = .ok (.iaload, 1) := wn_at gdL_law_394 5 rfl
theorem dL_law_400 : decode cL_law 400 = .ok (.invokevirtual 44, 3) := wn_at gdL_law_394 6 rfl
theorem dL_law_403 : decode cL_law 403 = .ok (.pop, 1) := wn_at gdL_law_394 7 rfl
theorem dL_law_404 : decode cL_law 404 = .ok (.goto 1215, 3) := wn_at gdL_law_394 8 rfl
theorem dL_law_407 : decode cL_law 407 = .ok (.aload_n 1, 1) := wn_at gdL_law_394 9 rfl
theorem gdL_law_408 : ∀ e ∈ ([(408, .aload_n 0, 1), (409, .iload_n 3, 1), (410, .iconst 1, 1), (411, .iadd, 1), (412, .iaload, 1), (413, .aload_n 0, 1), (414, .iload_n 3, 1), (415, .iconst 2, 1), (416, .iadd, 1), (417, .iaload, 1)] : List (Nat × Instr × Nat)), decode cL_law e.1 = .ok e.2 := wn_all _ 408 (by decide +kernel)
theorem dL_law_408 : decode cL_law 408 = .ok (.aload_n 0, 1) := wn_at gdL_law_408 0 rfl
theorem dL_law_409 : decode cL_law 409 = .ok (.iload_n 3, 1) := wn_at gdL_law_408 1 rfl
theorem dL_law_410 : decode cL_law 410 = .ok (.iconst 1, 1) := wn_at gdL_law_408 2 rfl
theorem dL_law_411 : decode cL_law 411 = .ok (.iadd, 1) := wn_at gdL_law_408 3 rfl
theorem dL_law_412 : decode cL_law 412 = .ok (.iaload, 1) := wn_at gdL_law_408 4 rfl
theorem dL_law_413 : decode cL_law 413 = .ok (.aload_n 0, 1) := wn_at gdL_law_408 5 rfl
theorem dL_law_414 : decode cL_law 414 = .ok (.iload_n 3, 1) := wn_at gdL_law_408 6 rfl
theorem dL_law_415 : decode cL_law 415 = .ok (.iconst 2, 1) := wn_at gdL_law_408 7 rfl
theorem dL_law_416 : decode cL_law 416 = .ok (.iadd, 1) := wn_at gdL_law_408 8 rfl
theorem dL_law_417 : decode cL_law 417 = .ok (.iaload, 1) := wn_at gdL_law_408 9 rfl
theorem gdL_law_418 : ∀ e ∈ ([(418, .invokevirtual 45, 3), (421, .pop2, 1), (422, .aload_n 2, 1), (423, .aload_n 0, 1), (424, .iload_n 3, 1), (425, .iconst 1, 1), (426, .iadd, 1), (427, .iaload, 1), (428, .aload_n 0, 1), (429, .iload_n 3, 1)] : List (Nat × Instr × Nat)), decode cL_law e.1 = .ok e.2 := wn_all _ 418 (by decide +kernel)
theorem dL_law_418 : decode cL_law 418 = .ok (.invokevirtual 45, 3) := wn_at gdL_law_418 0 rfl
theorem dL_law_421 : decode cL_law 421 = .ok (.pop2, 1) := wn_at gdL_law_418 1 rfl
theorem dL_law_422 : decode cL_law 422 = .ok (.aload_n 2, 1) := wn_at gdL_law_418 2 rfl
theorem dL_law_423 : decode cL_law 423 = .ok (.aload_n 0, 1) := wn_at gdL_law_418 3 rfl
theorem dL_law_424 : decode cL_law 424 = .ok (.iload_n 3, 1) := wn_at gdL_law_418 4 rfl
theorem dL_law_425 : decode cL_law 425 = .ok (.iconst 1, 1) := wn_at gdL_law_418 5 rfl
theorem dL_law_426 : decode cL_law 426 = .ok (.iadd, 1) := wn_at gdL_law_418 6 rfl
theorem dL_law_427 : decode cL_law 427 = .ok (.iaload, 1) := wn_at gdL_law_418 7 rfl
theorem dL_law_428 : decode cL_law 428 = .ok (.aload_n 0, 1) := wn_at gdL_law_418 8 rfl
theorem dL_law_429 : decode cL_law 429 = .ok (.iload_n 3, 1) := wn_at gdL_law_418 9 rfl
theorem gdL_law_430 : ∀ e ∈ ([(430, .iconst 2, 1), (431, .iadd, 1), (432, .iaload, 1), (433, .invokevirtual 49, 3), (436, .pop2, 1), (437, .goto 1182, 3), (440, .aload_n 1, 1), (441, .aload_n 0, 1), (442, .iload_n 3, 1), (443, .iconst 1, 1)] : List (Nat × Instr × Nat)), decode cL_law e.1 = .ok e.2 := wn_all _ 430 (by decide +kernel)
theorem dL_law_430 : decode cL_law 430 = .ok (.iconst 2, 1) := wn_at gdL_law_430 0 rfl
theorem dL_law_431 : decode cL_law 431 = .ok (.iadd, 1) := wn_at gdL_law_430 1 rfl
theorem dL_law_432 : decode cL_law 432 = .ok (.iaload, 1) := wn_at gdL_law_430 2 rfl
theorem dL_law_433 : decode cL_law 433 = .ok (.invokevirtual 49, 3) := wn_at gdL_law_430 3 rfl
theorem dL_law_436 : decode cL_law 436 = .ok (.pop2, 1) := wn_at gdL_law_430 4 rfl
theorem dL_law_437 : decode cL_law 437 = .ok (.goto 1182, 3) := wn_at gdL_law_430 5 rfl
theorem dL_law_440 : decode cL_law 440 = .ok (.aload_n 1, 1) := wn_at gdL_law_430 6 rfl
theorem dL_law_441 : decode cL_law 441 = .ok (.aload_n 0, 1) := wn_at gdL_law_430 7 rfl
theorem dL_law_442 : decode cL_law 442 = .ok (.iload_n 3, 1) := wn_at gdL_law_430 8 rfl
theorem dL_law_443 : decode cL_law 443 = .ok (.iconst 1, 1) := wn_at gdL_law_430 9 rfl
theorem gdL_law_444 : ∀ e ∈ ([(444, .iadd, 1), (445, .iaload, 1), (446, .aload_n 0, 1), (447, .iload_n 3, 1), (448, .iconst 2, 1), (449, .iadd, 1), (450, .iaload, 1), (451, .invokevirtual 50, 3), (454, .pop, 1), (455, .aload_n 2, 1)] : List (Nat × Instr × Nat)), decode cL_law e.1 = .ok e.2 := wn_all _ 444 (by decide +kernel)
theorem dL_law_444 : decode cL_law 444 = .ok (.iadd, 1) := wn_at gdL_law_444 0 rfl
theorem dL_law_445 : decode cL_law 445 = .ok (.iaload, 1) := wn_at gdL_law_444 1 rfl
theorem dL_law_446 : decode cL_law 446 = .ok (.aload_n 0, 1) := wn_at gdL_law_444 2 rfl
theorem dL_law_447 : decode cL_law 447 = .ok (.iload_n 3, 1) := wn_at gdL_law_444 3 rfl
theorem dL_law_448 : decode cL_law 448 = .ok (.iconst 2, 1) := wn_at gdL_law_444 4 rfl
theorem dL_law_449 : decode cL_law 449 = .ok (.iadd, 1) := wn_at gdL_law_444 5 rfl
theorem dL_law_450 : decode cL_law 450 = .ok (.iaload, 1) := wn_at gdL_law_444 6 rfl
theorem dL_law_451 : decode cL_law 451 = .ok (.invokevirtual 50, 3) := wn_at gdL_law_444 7 rfl
theorem dL_law_454 : decode cL_law 454 = .ok (.pop, 1) := wn_at gdL_law_444 8 rfl
theorem dL_law_455 : decode cL_law 455 = .ok (.aload_n 2, 1) := wn_at gdL_law_444 9 rfl
theorem gdL_law_456 : ∀ e ∈ ([(456, .aload_n 0, 1), (457, .iload_n 3, 1), (458, .iconst 1, 1), (459, .iadd, 1), (460, .iaload, 1), (461, .aload_n 0, 1), (462, .iload_n 3, 1), (463, .iconst 2, 1), (464, .iadd, 1), (465, .iaload, 1)] : List (Nat × Instr × Nat)), decode cL_law e.1 = .ok e.2 := wn_all _ 456 (by decide +kernel)
theorem dL_law_456 : decode cL_law 456 = .ok (.aload_n 0, 1) := wn_at gdL_law_456 0 rfl
theorem dL_law_457 : decode cL_law 457 = .ok (.iload_n 3, 1) := wn_at gdL_law_456 1 rfl
theorem dL_law_458 : decode cL_law 458 = .ok (.iconst 1, 1) := wn_at gdL_law_456 2 rfl
theorem dL_law_459 : decode cL_law 459 = .ok (.iadd, 1) := wn_at gdL_law_456 3 rfl
theorem dL_law_460 : decode cL_law 460 = .ok (.iaload, 1) := wn_at gdL_law_456 4 rfl
theorem dL_law_461 : decode cL_law 461 = .ok (.aload_n 0, 1) := wn_at gdL_law_456 5 rfl
theorem dL_law_462 : decode cL_law 462 = .ok (.iload_n 3, 1) := wn_at gdL_law_456 6 rfl
theorem dL_law_463 : decode cL_law 463 = .ok (.iconst 2, 1) := wn_at gdL_law_456 7 rfl
theorem dL_law_464 : decode cL_law 464 = .ok (.iadd, 1) := wn_at gdL_law_456 8 rfl
theorem dL_law_465 : decode cL_law 465 = .ok (.iaload, 1) := wn_at gdL_law_456 9 rfl
theorem gdL_law_466 : ∀ e ∈ ([(466, .invokevirtual 53, 3), (469, .pop, 1), (470, .goto 1149, 3), (473, .aload_n 1, 1), (474, .aload_n 0, 1), (475, .iload_n 3, 1), (476, .iconst 1, 1), (477, .iadd, 1), (478, .iaload, 1), (479, .aload_n 0, 1)] : List (Nat × Instr × Nat)), decode cL_law e.1 = .ok e.2 := wn_all _ 466 (by decide +kernel)
theorem dL_law_466 : decode cL_law 466 = .ok (.invokevirtual 53, 3) := wn_at gdL_law_466 0 rfl
theorem dL_law_469 : decode cL_law 469 = .ok (.pop, 1) := wn_at gdL_law_466 1 rfl
theorem dL_law_470 : decode cL_law 470 = .ok (.goto 1149, 3) := wn_at gdL_law_466 2 rfl
theorem dL_law_473 : decode cL_law 473 = .ok (.aload_n 1, 1) := wn_at gdL_law_466 3 rfl
theorem dL_law_474 : decode cL_law 474 = .ok (.aload_n 0, 1) := wn_at gdL_law_466 4 rfl
theorem dL_law_475 : decode cL_law 475 = .ok (.iload_n 3, 1) := wn_at gdL_law_466 5 rfl
theorem dL_law_476 : decode cL_law 476 = .ok (.iconst 1, 1) := wn_at gdL_law_466 6 rfl
theorem dL_law_477 : decode cL_law 477 = .ok (.iadd, 1) := wn_at gdL_law_466 7 rfl
theorem dL_law_478 : decode cL_law 478 = .ok (.iaload, 1) := wn_at gdL_law_466 8 rfl
theorem dL_law_479 : decode cL_law 479 = .ok (.aload_n 0, 1) := wn_at gdL_law_466 9 rfl
theorem gdL_law_480 : ∀ e ∈ ([(480, .iload_n 3, 1), (481, .iconst 2, 1), (482, .iadd, 1), (483, .iaload, 1), (484, .invokevirtual 54, 3), (487, .pop, 1), (488, .aload_n 2, 1), (489, .aload_n 0, 1), (490, .iload_n 3, 1), (491, .iconst 1, 1)] : List (Nat × Instr × Nat)), decode cL_law e.1 = .ok e.2 := wn_all _ 480 (by decide +kernel)
theorem dL_law_480 : decode cL_law 480 = .ok (.iload_n 3, 1) := wn_at gdL_law_480 0 rfl
theorem dL_law_481 : decode cL_law 481 = .ok (.iconst 2, 1) := wn_at gdL_law_480 1 rfl
theorem dL_law_482 : decode cL_law 482 = .ok (.iadd, 1) := wn_at gdL_law_480 2 rfl
theorem dL_law_483 : decode cL_law 483 = .ok (.iaload, 1) := wn_at gdL_law_480 3 rfl
theorem dL_law_484 : decode cL_law 484 = .ok (.invokevirtual 54, 3) := wn_at gdL_law_480 4 rfl
theorem dL_law_487 : decode cL_law 487 = .ok (.pop, 1) := wn_at gdL_law_480 5 rfl
theorem dL_law_488 : decode cL_law 488 = .ok (.aload_n 2, 1) := wn_at gdL_law_480 6 rfl
theorem dL_law_489 : decode cL_law 489 = .ok (.aload_n 0, 1) := wn_at gdL_law_480 7 rfl
theorem dL_law_490 : decode cL_law 490 = .ok (.iload_n 3, 1) := wn_at gdL_law_480 8 rfl
theorem dL_law_491 : decode cL_law 491 = .ok (.iconst 1, 1) := wn_at gdL_law_480 9 rfl
theorem gdL_law_492 : ∀ e ∈ ([(492, .iadd, 1), (493, .iaload, 1), (494, .aload_n 0, 1), (495, .iload_n 3, 1), (496, .iconst 2, 1), (497, .iadd, 1), (498, .iaload, 1), (499, .invokevirtual 58, 3), (502, .pop, 1), (503, .goto 1116, 3)] : List (Nat × Instr × Nat)), decode cL_law e.1 = .ok e.2 := wn_all _ 492 (by decide +kernel)
theorem dL_law_492 : decode cL_law 492 = .ok (.iadd, 1) := wn_at gdL_law_492 0 rfl
theorem dL_law_493 : decode cL_law 493 = .ok (.iaload, 1) := wn_at gdL_law_492 1 rfl
theorem dL_law_494 : decode cL_law 494 = .ok (.aload_n 0, 1) := wn_at gdL_law_492 2 rfl
theorem dL_law_495 : decode cL_law 495 = .ok (.iload_n 3, 1) := wn_at gdL_law_492 3 rfl
theorem dL_law_496 : decode cL_law 496 = .ok (.iconst 2, 1) := wn_at gdL_law_492 4 rfl
theorem dL_law_497 : decode cL_law 497 = .ok (.iadd, 1) := wn_at gdL_law_492 5 rfl
theorem dL_law_498 : decode cL_law 498 = .ok (.iaload, 1) := wn_at gdL_law_492 6 rfl
theorem dL_law_499 : decode cL_law 499 = .ok (.invokevirtual 58, 3) := wn_at gdL_law_492 7 rfl
theorem dL_law_502 : decode cL_law 502 = .ok (.pop, 1) := wn_at gdL_law_492 8 rfl
theorem dL_law_503 : decode cL_law 503 = .ok (.goto 1116, 3) := wn_at gdL_law_492 9 rfl
theorem gdL_law_506 : ∀ e ∈ ([(506, .aload_n 1, 1), (507, .aload_n 0, 1), (508, .iload_n 3, 1), (509, .iconst 1, 1), (510, .iadd, 1), (511, .iaload, 1), (512, .aload_n 0, 1), (513, .iload_n 3, 1), (514, .iconst 2, 1), (515, .iadd, 1)] : List (Nat × Instr × Nat)), decode cL_law e.1 = .ok e.2 := wn_all _ 506 (by decide +kernel)
theorem dL_law_506 : decode cL_law 506 = .ok (.aload_n 1, 1) := wn_at gdL_law_506 0 rfl
theorem dL_law_507 : decode cL_law 507 = .ok (.aload_n 0, 1) := wn_at gdL_law_506 1 rfl
theorem dL_law_508 : decode cL_law 508 = .ok (.iload_n 3, 1) := wn_at gdL_law_506 2 rfl
theorem dL_law_509 : decode cL_law 509 = .ok (.iconst 1, 1) := wn_at gdL_law_506 3 rfl
theorem dL_law_510 : decode cL_law 510 = .ok (.iadd, 1) := wn_at gdL_law_506 4 rfl
theorem dL_law_511 : decode cL_law 511 = .ok (.iaload, 1) := wn_at gdL_law_506 5 rfl
theorem dL_law_512 : decode cL_law 512 = .ok (.aload_n 0, 1) := wn_at gdL_law_506 6 rfl
theorem dL_law_513 : decode cL_law 513 = .ok (.iload_n 3, 1) := wn_at gdL_law_506 7 rfl
theorem dL_law_514 : decode cL_law 514 = .ok (.iconst 2, 1) := wn_at gdL_law_506 8 rfl
theorem dL_law_515 : decode cL_law 515 = .ok (.iadd, 1) := wn_at gdL_law_506 9 rfl
theorem gdL_law_516 : ∀ e ∈ ([(516, .iaload, 1), (517, .invokevirtual 59, 3), (520, .pop, 1), (521, .aload_n 2, 1), (522, .aload_n 0, 1), (523, .iload_n 3, 1), (524, .iconst 1, 1), (525, .iadd, 1), (526, .iaload, 1), (527, .aload_n 0, 1)] : List (Nat × Instr × Nat)), decode cL_law e.1 = .ok e.2 := wn_all _ 516 (by decide +kernel)
theorem dL_law_516 : decode cL_law 516 = .ok (.iaload, 1) := wn_at gdL_law_516 0 rfl
theorem dL_law_517 : decode cL_law 517 = .ok (.invokevirtual 59, 3) := wn_at gdL_law_516 1 rfl
theorem dL_law_520 : decode cL_law 520 = .ok (.pop, 1) := wn_at gdL_law_516 2 rfl
theorem dL_law_521 : decode cL_law 521 = .ok (.aload_n 2, 1) := wn_at gdL_law_516 3 rfl
theorem dL_law_522 : decode cL_law 522 = .ok (.aload_n 0, 1) := wn_at gdL_law_516 4 rfl
theorem dL_law_523 : decode cL_law 523 = .ok (.iload_n 3, 1) := wn_at gdL_law_516 5 rfl
theorem dL_law_524 : decode cL_law 524 = .ok (.iconst 1, 1) := wn_at gdL_law_516 6 rfl
theorem dL_law_525 : decode cL_law 525 = .ok (.iadd, 1) := wn_at gdL_law_516 7 rfl
theorem dL_law_526 : decode cL_law 526 = .ok (.iaload, 1) := wn_at gdL_law_516 8 rfl
theorem dL_law_527 : decode cL_law 527 = .ok (.aload_n 0, 1) := wn_at gdL_law_516 9 rfl
theorem gdL_law_528 : ∀ e ∈ ([(528, .iload_n 3, 1), (529, .iconst 2, 1), (530, .iadd, 1), (531, .iaload, 1), (532, .invokevirtual 62, 3), (535, .pop, 1), (536, .goto 1083, 3), (539, .aload_n 1, 1), (540, .aload_n 0, 1), (541, .iload_n 3, 1)] : List (Nat × Instr × Nat)), decode cL_law e.1 = .ok e.2 := wn_all _ 528 (by decide +kernel)
theorem dL_law_528 : decode cL_law 528 = .ok (.iload_n 3, 1) := wn_at gdL_law_528 0 rfl
theorem dL_law_529 : decode cL_law 529 = .ok (.iconst 2, 1) := wn_at gdL_law_528 1 rfl
theorem dL_law_530 : decode cL_law 530 = .ok (.iadd, 1) := wn_at gdL_law_528 2 rfl
theorem dL_law_531 : decode cL_law 531 = .ok (.iaload, 1) := wn_at gdL_law_528 3 rfl
theorem dL_law_532 : decode cL_law 532 = .ok (.invokevirtual 62, 3) := wn_at gdL_law_528 4 rfl
theorem dL_law_535 : decode cL_law 535 = .ok (.pop, 1) := wn_at gdL_law_528 5 rfl
theorem dL_law_536 : decode cL_law 536 = .ok (.goto 1083, 3) := wn_at gdL_law_528 6 rfl
theorem dL_law_539 : decode cL_law 539 = .ok (.aload_n 1, 1) := wn_at gdL_law_528 7 rfl
theorem dL_law_540 : decode cL_law 540 = .ok (.aload_n 0, 1) := wn_at gdL_law_528 8 rfl
theorem dL_law_541 : decode cL_law 541 = .ok (.iload_n 3, 1) := wn_at gdL_law_528 9 rfl
theorem gdL_law_542 : ∀ e ∈ ([(542, .iconst 1, 1), (543, .iadd, 1), (544, .iaload, 1), (545, .aload_n 0, 1), (546, .iload_n 3, 1), (547, .iconst 2, 1), (548, .iadd, 1), (549, .iaload, 1), (550, .aload_n 0, 1), (551, .iload_n 3, 1)] : List (Nat × Instr × Nat)), decode cL_law e.1 = .ok e.2 := wn_all _ 542 (by decide +kernel)
theorem dL_law_542 : decode cL_law 542 = .ok (.iconst 1, 1) := wn_at gdL_law_542 0 rfl
theorem dL_law_543 : decode cL_law 543 = .ok (.iadd, 1) := wn_at gdL_law_542 1 rfl
theorem dL_law_544 : decode cL_law 544 = .ok (.iaload, 1) := wn_at gdL_law_542 2 rfl
theorem dL_law_545 : decode cL_law 545 = .ok (.aload_n 0, 1) := wn_at gdL_law_542 3 rfl
theorem dL_law_546 : decode cL_law 546 = .ok (.iload_n 3, 1) := wn_at gdL_law_542 4 rfl
theorem dL_law_547 : decode cL_law 547 = .ok (.iconst 2, 1) := wn_at gdL_law_542 5 rfl
theorem dL_law_548 : decode cL_law 548 = .ok (.iadd, 1) := wn_at gdL_law_542 6 rfl
theorem dL_law_549 : decode cL_law 549 = .ok (.iaload, 1) := wn_at gdL_law_542 7 rfl
theorem dL_law_550 : decode cL_law 550 = .ok (.aload_n 0, 1) := wn_at gdL_law_542 8 rfl
theorem dL_law_551 : decode cL_law 551 = .ok (.iload_n 3, 1) := wn_at gdL_law_542 9 rfl
theorem gdL_law_552 : ∀ e ∈ ([(552, .iconst 3, 1), (553, .iadd, 1), (554, .iaload, 1), (555, .aload_n 0, 1), (556, .iload_n 3, 1), (557, .iconst 4, 1), (558, .iadd, 1), (559, .iaload, 1), (560, .invokevirtual 63, 3), (563, .pop2, 1)] : List (Nat × Instr × Nat)), decode cL_law e.1 = .ok e.2 := wn_all _ 552 (by decide +kernel)
theorem dL_law_552 : decode cL_law 552 = .ok (.iconst 3, 1) := wn_at gdL_law_552 0 rfl
theorem dL_law_553 : decode cL_law 553 = .ok (.iadd, 1) := wn_at gdL_law_552 1 rfl
theorem dL_law_554 : decode cL_law 554 = .ok (.iaload, 1) := wn_at gdL_law_552 2 rfl
theorem dL_law_555 : decode cL_law 555 = .ok (.aload_n 0, 1) := wn_at gdL_law_552 3 rfl
theorem dL_law_556 : decode cL_law 556 = .ok (.iload_n 3, 1) := wn_at gdL_law_552 4 rfl
theorem dL_law_557 : decode cL_law 557 = .ok (.iconst 4, 1) := wn_at gdL_law_552 5 rfl
theorem dL_law_558 : decode cL_law 558 = .ok (.iadd, 1) := wn_at gdL_law_552 6 rfl
theorem dL_law_559 : decode cL_law 559 = .ok (.iaload, 1) := wn_at gdL_law_552 7 rfl
theorem dL_law_560 : decode cL_law 560 = .ok (.invokevirtual 63, 3) := wn_at gdL_law_552 8 rfl
theorem dL_law_563 : decode cL_law 563 = .ok (.pop2, 1) := wn_at gdL_law_552 9 rfl
theorem gdL_law_564 : ∀ e ∈ ([(564, .aload_n 2, 1), (565, .aload_n 0, 1), (566, .iload_n 3, 1), (567, .iconst 1, 1), (568, .iadd, 1), (569, .iaload, 1), (570, .aload_n 0, 1), (571, .iload_n 3, 1), (572, .iconst 2, 1), (573, .iadd, 1)] : List (Nat × Instr × Nat)), decode cL_law e.1 = .ok e.2 := wn_all _ 564 (by decide +kernel)
theorem dL_law_564 : decode cL_law 564 = .ok (.aload_n 2, 1) := wn_at gdL_law_564 0 rfl
theorem dL_law_565 : decode cL_law 565 = .ok (.aload_n 0, 1) := wn_at gdL_law_564 1 rfl
theorem dL_law_566 : decode cL_law 566 = .ok (.iload_n 3, 1) := wn_at gdL_law_564 2 rfl
theorem dL_law_567 : decode cL_law 567 = .ok (.iconst 1, 1) := wn_at gdL_law_564 3 rfl
theorem dL_law_568 : decode cL_law 568 = .ok (.iadd, 1) := wn_at gdL_law_564 4 rfl
theorem dL_law_569 : decode cL_law 569 = .ok (.iaload, 1) := wn_at gdL_law_564 5 rfl
theorem dL_law_570 : decode cL_law 570 = .ok (.aload_n 0, 1) := wn_at gdL_law_564 6 rfl
theorem dL_law_571 : decode cL_law 571 = .ok (.iload_n 3, 1) := wn_at gdL_law_564 7 rfl
theorem dL_law_572 : decode cL_law 572 = .ok (.iconst 2, 1) := wn_at gdL_law_564 8 rfl
theorem dL_law_573 : decode cL_law 573 = .ok (.iadd, 1) := wn_at gdL_law_564 9 rfl
theorem gdL_law_574 : ∀ e ∈ ([(574, .iaload, 1), (575, .aload_n 0, 1), (576, .iload_n 3, 1), (577, .iconst 3, 1), (578, .iadd, 1), (579, .iaload, 1), (580, .aload_n 0, 1), (581, .iload_n 3, 1), (582, .iconst 4, 1), (583, .iadd, 1)] : List (Nat × Instr × Nat)), decode cL_law e.1 = .ok e.2 := wn_all _ 574 (by decide +kernel)
theorem dL_law_574 : decode cL_law 574 = .ok (.iaload, 1) := wn_at gdL_law_574 0 rfl
theorem dL_law_575 : decode cL_law 575 = .ok (.aload_n 0, 1) := wn_at gdL_law_574 1 rfl
theorem dL_law_576 : decode cL_law 576 = .ok (.iload_n 3, 1) := wn_at gdL_law_574 2 rfl
theorem dL_law_577 : decode cL_law 577 = .ok (.iconst 3, 1) := wn_at gdL_law_574 3 rfl
theorem dL_law_578 : decode cL_law 578 = .ok (.iadd, 1) := wn_at gdL_law_574 4 rfl
theorem dL_law_579 : decode cL_law 579 = .ok (.iaload, 1) := wn_at gdL_law_574 5 rfl
theorem dL_law_580 : decode cL_law 580 = .ok (.aload_n 0, 1) := wn_at gdL_law_574 6 rfl
theorem dL_law_581 : decode cL_law 581 = .ok (.iload_n 3, 1) := wn_at gdL_law_574 7 rfl
theorem dL_law_582 : decode cL_law 582 = .ok (.iconst 4, 1) := wn_at gdL_law_574 8 rfl
theorem dL_law_583 : decode cL_law 583 = .ok (.iadd, 1) := wn_at gdL_law_574 9 rfl
theorem gdL_law_584 : ∀ e ∈ ([(584, .iaload, 1), (585, .invokevirtual 67, 3), (588, .pop2, 1), (589, .goto 1030, 3), (592, .aload_n 1, 1), (593, .aload_n 0, 1), (594, .iload_n 3, 1), (595, .iconst 1, 1), (596, .iadd, 1), (597, .iaload, 1)] : List (Nat × Instr × Nat)), decode cL_law e.1 = .ok e.2 := wn_all _ 584 (by decide +kernel)
theorem dL_law_584 : decode cL_law 584 = .ok (.iaload, 1) := wn_at gdL_law_584 0 rfl
theorem dL_law_585 : decode cL_law 585 = .ok (.invokevirtual 67, 3) := wn_at gdL_law_584 1 rfl
theorem dL_law_588 : decode cL_law 588 = .ok (.pop2, 1) := wn_at gdL_law_584 2 rfl
theorem dL_law_589 : decode cL_law 589 = .ok (.goto 1030, 3) := wn_at gdL_law_584 3 rfl
theorem dL_law_592 : decode cL_law 592 = .ok (.aload_n 1, 1) := wn_at gdL_law_584 4 rfl
theorem dL_law_593 : decode cL_law 593 = .ok (.aload_n 0, 1) := wn_at gdL_law_584 5 rfl
theorem dL_law_594 : decode cL_law 594 = .ok (.iload_n 3, 1) := wn_at gdL_law_584 6 rfl
theorem dL_law_595 : decode cL_law 595 = .ok (.iconst 1, 1) := wn_at gdL_law_584 7 rfl
theorem dL_law_596 : decode cL_law 596 = .ok (.iadd, 1) := wn_at gdL_law_584 8 rfl
theorem dL_law_597 : decode cL_law 597 = .ok (.iaload, 1) := wn_at gdL_law_584 9 rfl
theorem gdL_law_598 : ∀ e ∈ ([(598, .aload_n 0, 1), (599, .iload_n 3, 1), (600, .iconst 2, 1), (601, .iadd, 1), (602, .iaload, 1), (603, .invokevirtual 68, 3), (606, .pop, 1), (607, .aload_n 2, 1), (608, .aload_n 0, 1), (609, .iload_n 3, 1)] : List (Nat × Instr × Nat)), decode cL_law e.1 = .ok e.2 := wn_all _ 598 (by decide +kernel)
theorem dL_law_598 : decode cL_law 598 = .ok (.aload_n 0, 1) := wn_at gdL_law_598 0 rfl
theorem dL_law_599 : decode cL_law 599 = .ok (.iload_n 3, 1) := wn_at gdL_law_598 1 rfl
theorem dL_law_600 : decode cL_law 600 = .ok (.iconst 2, 1) := wn_at gdL_law_598 2 rfl
theorem dL_law_601 : decode cL_law 601 = .ok (.iadd, 1) := wn_at gdL_law_598 3 rfl
theorem dL_law_602 : decode cL_law 602 = .ok (.iaload, 1) := wn_at gdL_law_598 4 rfl
theorem dL_law_603 : decode cL_law 603 = .ok (.invokevirtual 68, 3) := wn_at gdL_law_598 5 rfl
theorem dL_law_606 : decode cL_law 606 = .ok (.pop, 1) := wn_at gdL_law_598 6 rfl
theorem dL_law_607 : decode cL_law 607 = .ok (.aload_n 2, 1) := wn_at gdL_law_598 7 rfl
theorem dL_law_608 : decode cL_law 608 = .ok (.aload_n 0, 1) := wn_at gdL_law_598 8 rfl
theorem dL_law_609 : decode cL_law 609 = .ok (.iload_n 3, 1) := wn_at gdL_law_598 9 rfl
theorem gdL_law_610 : ∀ e ∈ ([(610, .iconst 1, 1), (611, .iadd, 1), (612, .iaload, 1), (613, .aload_n 0, 1), (614, .iload_n 3, 1), (615, .iconst 2, 1), (616, .iadd, 1), (617, .iaload, 1), (618, .invokevirtual 71, 3), (621, .pop, 1)] : List (Nat × Instr × Nat)), decode cL_law e.1 = .ok e.2 := wn_all _ 610 (by decide +kernel)
theorem dL_law_610 : decode cL_law 610 = .ok (.iconst 1, 1) := wn_at gdL_law_610 0 rfl
theorem dL_law_611 : decode cL_law 611 = .ok (.iadd, 1) := wn_at gdL_law_610 1 rfl
theorem dL_law_612 : decode cL_law 612 = .ok (.iaload, 1) := wn_at gdL_law_610 2 rfl
theorem dL_law_613 : decode cL_law 613 = .ok (.aload_n 0, 1) := wn_at gdL_law_610 3 rfl
theorem dL_law_614 : decode cL_law 614 = .ok (.iload_n 3, 1) := wn_at gdL_law_610 4 rfl
theorem dL_law_615 : decode cL_law 615 = .ok (.iconst 2, 1) := wn_at gdL_law_610 5 rfl
theorem dL_law_616 : decode cL_law 616 = .ok (.iadd, 1) := wn_at gdL_law_610 6 rfl
theorem dL_law_617 : decode cL_law 617 = .ok (.iaload, 1) := wn_at gdL_law_610 7 rfl
theorem dL_law_618 : decode cL_law 618 = .ok (.invokevirtual 71, 3) := wn_at gdL_law_610 8 rfl
theorem dL_law_621 : decode cL_law 621 = .ok (.pop, 1) := wn_at gdL_law_610 9 rfl
theorem gdL_law_622 : ∀ e ∈ ([(622, .goto 997, 3), (625, .aload_n 1, 1), (626, .aload_n 0, 1), (627, .iload_n 3, 1), (628, .iconst 1, 1), (629, .iadd, 1), (630, .iaload, 1), (631, .aload_n 0, 1), (632, .iload_n 3, 1), (633, .iconst 2, 1)] : List (Nat × Instr × Nat)), decode cL_law e.1 = .ok e.2 := wn_all _ 622 (by decide +kernel)
theorem dL_law_622 : decode cL_law 622 = .ok (.goto 997, 3) := wn_at gdL_law_622 0 rfl
theorem dL_law_625 : decode cL_law 625 = .ok (.aload_n 1, 1) := wn_at gdL_law_622 1 rfl
theorem dL_law_626 : decode cL_law 626 = .ok (.aload_n 0, 1) := wn_at gdL_law_622 2 rfl
theorem dL_law_627 : decode cL_law 627 = .ok (.iload_n 3, 1) := wn_at gdL_law_622 3 rfl
theorem dL_law_628 : decode cL_law 628 = .ok (.iconst 1, 1) := wn_at gdL_law_622 4 rfl
theorem dL_law_629 : decode cL_law 629 = .ok (.iadd, 1) := wn_at gdL_law_622 5 rfl
theorem dL_law_630 : decode cL_law 630 = .ok (.iaload, 1) := wn_at gdL_law_622 6 rfl
theorem dL_law_631 : decode cL_law 631 = .ok (.aload_n 0, 1) := wn_at gdL_law_622 7 rfl
theorem dL_law_632 : decode cL_law 632 = .ok (.iload_n 3, 1) := wn_at gdL_law_622 8 rfl
theorem dL_law_633 : decode cL_law 633 = .ok (.iconst 2, 1) := wn_at gdL_law_622 9 rfl
theorem gdL_law_634 : ∀ e ∈ ([(634, .iadd, 1), (635, .iaload, 1), (636, .invokevirtual 72, 3), (639, .pop, 1), (640, .aload_n 2, 1), (641, .aload_n 0, 1), (642, .iload_n 3, 1), (643, .iconst 1, 1), (644, .iadd, 1), (645, .iaload, 1)] : List (Nat × Instr × Nat)), decode cL_law e.1 = .ok e.2 := wn_all _ 634 (by decide +kernel)
theorem dL_law_634 : decode cL_law 634 = .ok (.iadd, 1) := wn_at gdL_law_634 0 rfl
theorem dL_law_635 : decode cL_law 635 = .ok (.iaload, 1) := wn_at gdL_law_634 1 rfl
theorem dL_law_636 : decode cL_law 636 = .ok (.invokevirtual 72, 3) := wn_at gdL_law_634 2 rfl
theorem dL_law_639 : decode cL_law 639 = .ok (.pop, 1) := wn_at gdL_law_634 3 rfl
theorem dL_law_640 : decode cL_law 640 = .ok (.aload_n 2, 1) := wn_at gdL_law_634 4 rfl
theorem dL_law_641 : decode cL_law 641 = .ok (.aload_n 0, 1) := wn_at gdL_law_634 5 rfl
theorem dL_law_642 : decode cL_law 642 = .ok (.iload_n 3, 1) := wn_at gdL_law_634 6 rfl
theorem dL_law_643 : decode cL_law 643 = .ok (.iconst 1, 1) := wn_at gdL_law_634 7 rfl
theorem dL_law_644 : decode cL_law 644 = .ok (.iadd, 1) := wn_at gdL_law_634 8 rfl
theorem dL_law_645 : decode cL_law 645 = .ok (.iaload, 1) := wn_at gdL_law_634 9 rfl
theorem gdL_law_646 : ∀ e ∈ ([(646, .aload_n 0, 1), (647, .iload_n 3, 1), (648, .iconst 2, 1), (649, .iadd, 1), (650, .iaload, 1), (651, .invokevirtual 75, 3), (654, .pop, 1), (655, .goto 964, 3), (658, .aload_n 1, 1), (659, .aload_n 0, 1)] : List (Nat × Instr × Nat)), decode cL_law e.1 = .ok e.2 := wn_all _ 646 (by decide +kernel)
theorem dL_law_646 : decode cL_law 646 = .ok (.aload_n 0, 1) := wn_at gdL_law_646 0 rfl
theorem dL_law_647 : decode cL_law 647 = .ok (.iload_n 3, 1) := wn_at gdL_law_646 1 rfl
theorem dL_law_648 : decode cL_law 648 = .ok (.iconst 2, 1) := wn_at gdL_law_646 2 rfl
theorem dL_law_649 : decode cL_law 649 = .ok (.iadd, 1) := wn_at gdL_law_646 3 rfl
theorem dL_law_650 : decode cL_law 650 = .ok (.iaload, 1) := wn_at gdL_law_646 4 rfl
theorem dL_law_651 : decode cL_law 651 = .ok (.invokevirtual 75, 3) := wn_at gdL_law_646 5 rfl
theorem dL_law_654 : decode cL_law 654 = .ok (.pop, 1) := wn_at gdL_law_646 6 rfl
theorem dL_law_655 : decode cL_law 655 = .ok (.goto 964, 3) := wn_at gdL_law_646 7 rfl
theorem dL_law_658 : decode cL_law 658 = .ok (.aload_n 1, 1) := wn_at gdL_law_646 8 rfl
theorem dL_law_659 : decode cL_law 659 = .ok (.aload_n 0, 1) := wn_at gdL_law_646 9 rfl
theorem gdL_law_660 : ∀ e ∈ ([(660, .iload_n 3, 1), (661, .iconst 1, 1), (662, .iadd, 1), (663, .iaload, 1), (664, .aload_n 0, 1), (665, .iload_n 3, 1), (666, .iconst 2, 1), (667, .iadd, 1), (668, .iaload, 1), (669, .aload_n 0, 1)] : List (Nat × Instr × Nat)), decode cL_law e.1 = .ok e.2 := wn_all _ 660 (by decide +kernel)
theorem dL_law_660 : decode cL_law 660 = .ok (.iload_n 3, 1) := wn_at gdL_law_660 0 rfl
theorem dL_law_661 : decode cL_law 661 = .ok (.iconst 1, 1) := wn_at gdL_law_660 1 rfl
theorem dL_law_662 : decode cL_law 662 = .ok (.iadd, 1) := wn_at gdL_law_660 2 rfl
theorem dL_law_663 : decode cL_law 663 = .ok (.iaload, 1) := wn_at gdL_law_660 3 rfl
theorem dL_law_664 : decode cL_law 664 = .ok (.aload_n 0, 1) := wn_at gdL_law_660 4 rfl
theorem dL_law_665 : decode cL_law 665 = .ok (.iload_n 3, 1) := wn_at gdL_law_660 5 rfl
theorem dL_law_666 : decode cL_law 666 = .ok (.iconst 2, 1) := wn_at gdL_law_660 6 rfl
theorem dL_law_667 : decode cL_law 667 = .ok (.iadd, 1) := wn_at gdL_law_660 7 rfl
theorem dL_law_668 : decode cL_law 668 = .ok (.iaload, 1) := wn_at gdL_law_660 8 rfl
theorem dL_law_669 : decode cL_law 669 = .ok (.aload_n 0, 1) := wn_at gdL_law_660 9 rfl
theorem gdL_law_670 : ∀ e ∈ ([(670, .iload_n 3, 1), (671, .iconst 3, 1), (672, .iadd, 1), (673, .iaload, 1), (674, .invokevirtual 76, 3), (677, .pop2, 1), (678, .aload_n 2, 1), (679, .aload_n 0, 1), (680, .iload_n 3, 1), (681, .iconst 1, 1)] : List (Nat × Instr × Nat)), decode cL_law e.1 = .ok e.2 := wn_all _ 670 (by decide +kernel)
theorem dL_law_670 : decode cL_law 670 = .ok (.iload_n 3, 1) := wn_at gdL_law_670 0 rfl
theorem dL_law_671 : decode cL_law 671 = .ok (.iconst 3, 1) := wn_at gdL_law_670 1 rfl
theorem dL_law_672 : decode cL_law 672 = .ok (.iadd, 1) := wn_at gdL_law_670 2 rfl
theorem dL_law_673 : decode cL_law 673 = .ok (.iaload, 1) := wn_at gdL_law_670 3 rfl
theorem dL_law_674 : decode cL_law 674 = .ok (.invokevirtual 76, 3) := wn_at gdL_law_670 4 rfl
theorem dL_law_677 : decode cL_law 677 = .ok (.pop2, 1) := wn_at gdL_law_670 5 rfl
theorem dL_law_678 : decode cL_law 678 = .ok (.aload_n 2, 1) := wn_at gdL_law_670 6 rfl
theorem dL_law_679 : decode cL_law 679 = .ok (.aload_n 0, 1) := wn_at gdL_law_670 7 rfl
theorem dL_law_680 : decode cL_law 680 = .ok (.iload_n 3, 1) := wn_at gdL_law_670 8 rfl
theorem dL_law_681 : decode cL_law 681 = .ok (.iconst 1, 1) := wn_at gdL_law_670 9 rfl
theorem gdL_law_682 : ∀ e ∈ ([(682, .iadd, 1), (683, .iaload, 1), (684, .aload_n 0, 1), (685, .iload_n 3, 1), (686, .iconst 2, 1), (687, .iadd, 1), (688, .iaload, 1), (689, .aload_n 0, 1), (690, .iload_n 3, 1), (691, .iconst 3, 1)] : List (Nat × Instr × Nat)), decode cL_law e.1 = .ok e.2 := wn_all _ 682 (by decide +kernel)
theorem dL_law_682 : decode cL_law 682 = .ok (.iadd, 1) := wn_at gdL_law_682 0 rfl
theorem dL_law_683 : decode cL_law 683 = .ok (.iaload, 1) := wn_at gdL_law_682 1 rfl
theorem dL_law_684 : decode cL_law 684 = .ok (.aload_n 0, 1) := wn_at gdL_law_682 2 rfl
theorem dL_law_685 : decode cL_law 685 = .ok (.iload_n 3, 1) := wn_at gdL_law_682 3 rfl
theorem dL_law_686 : decode cL_law 686 = .ok (.iconst 2, 1) := wn_at gdL_law_682 4 rfl
theorem dL_law_687 : decode cL_law 687 = .ok (.iadd, 1) := wn_at gdL_law_682 5 rfl
theorem dL_law_688 : decode cL_law 688 = .ok (.iaload, 1) := wn_at gdL_law_682 6 rfl
theorem dL_law_689 : decode cL_law 689 = .ok (.aload_n 0, 1) := wn_at gdL_law_682 7 rfl
theorem dL_law_690 : decode cL_law 690 = .ok (.iload_n 3, 1) := wn_at gdL_law_682 8 rfl
theorem dL_law_691 : decode cL_law 691 = .ok (.iconst 3, 1) := wn_at gdL_law_682 9 rfl
theorem gdL_law_692 : ∀ e ∈ ([(692, .iadd, 1), (693, .iaload, 1), (694, .invokevirtual 80, 3), (697, .pop2, 1), (698, .goto 921, 3), (701, .aload_n 1, 1), (702, .aload_n 0, 1), (703, .iload_n 3, 1), (704, .iconst 1, 1), (705, .iadd, 1)] : List (Nat × Instr × Nat)), decode cL_law e.1 = .ok e.2 := wn_all _ 692 (by decide +kernel)
theorem dL_law_692 : decode cL_law 692 = .ok (.iadd, 1) := wn_at gdL_law_692 0 rfl
theorem dL_law_693 : decode cL_law 693 = .ok (.iaload, 1) := wn_at gdL_law_692 1 rfl
theorem dL_law_694 : decode cL_law 694 = .ok (.invokevirtual 80, 3) := wn_at gdL_law_692 2 rfl
theorem dL_law_697 : decode cL_law 697 = .ok (.pop2, 1) := wn_at gdL_law_692 3 rfl
theorem dL_law_698 : decode cL_law 698 = .ok (.goto 921, 3) := wn_at gdL_law_692 4 rfl
theorem dL_law_701 : decode cL_law 701 = .ok (.aload_n 1, 1) := wn_at gdL_law_692 5 rfl
theorem dL_law_702 : decode cL_law 702 = .ok (.aload_n 0, 1) := wn_at gdL_law_692 6 rfl
theorem dL_law_703 : decode cL_law 703 = .ok (.iload_n 3, 1) := wn_at gdL_law_692 7 rfl
theorem dL_law_704 : decode cL_law 704 = .ok (.iconst 1, 1) := wn_at gdL_law_692 8 rfl
theorem dL_law_705 : decode cL_law 705 = .ok (.iadd, 1) := wn_at gdL_law_692 9 rfl
theorem gdL_law_706 : ∀ e ∈ ([(706, .iaload, 1), (707, .aload_n 0, 1), (708, .iload_n 3, 1), (709, .iconst 2, 1), (710, .iadd, 1), (711, .iaload, 1), (712, .aload_n 0, 1), (713, .iload_n 3, 1), (714, .iconst 3, 1), (715, .iadd, 1)] : List (Nat × Instr × Nat)), decode cL_law e.1 = .ok e.2 := wn_all _ 706 (by decide +kernel)
theorem dL_law_706 : decode cL_law 706 = .ok (.iaload, 1) := wn_at gdL_law_706 0 rfl
theorem dL_law_707 : decode cL_law 707 = .ok (.aload_n 0, 1) := wn_at gdL_law_706 1 rfl
theorem dL_law_708 : decode cL_law 708 = .ok (.iload_n 3, 1) := wn_at gdL_law_706 2 rfl
theorem dL_law_709 : decode cL_law 709 = .ok (.iconst 2, 1) := wn_at gdL_law_706 3 rfl
theorem dL_law_710 : decode cL_law 710 = .ok (.iadd, 1) := wn_at gdL_law_706 4 rfl
theorem dL_law_711 : decode cL_law 711 = .ok (.iaload, 1) := wn_at gdL_law_706 5 rfl
theorem dL_law_712 : decode cL_law 712 = .ok (.aload_n 0, 1) := wn_at gdL_law_706 6 rfl
theorem dL_law_713 : decode cL_law 713 = .ok (.iload_n 3, 1) := wn_at gdL_law_706 7 rfl
theorem dL_law_714 : decode cL_law 714 = .ok (.iconst 3, 1) := wn_at gdL_law_706 8 rfl
theorem dL_law_715 : decode cL_law 715 = .ok (.iadd, 1) := wn_at gdL_law_706 9 rfl
theorem gdL_law_716 : ∀ e ∈ ([(716, .iaload, 1), (717, .invokevirtual 81, 3), (720, .pop2, 1), (721, .aload_n 2, 1), (722, .aload_n 0, 1), (723, .iload_n 3, 1), (724, .iconst 1, 1), (725, .iadd, 1), (726, .iaload, 1), (727, .aload_n 0, 1)] : List (Nat × Instr × Nat)), decode cL_law e.1 = .ok e.2 := wn_all _ 716 (by decide +kernel)
theorem dL_law_716 : decode cL_law 716 = .ok (.iaload, 1) := wn_at gdL_law_716 0 rfl
theorem dL_law_717 : decode cL_law 717 = .ok (.invokevirtual 81, 3) := wn_at gdL_law_716 1 rfl
theorem dL_law_720 : decode cL_law 720 = .ok (.pop2, 1) := wn_at gdL_law_716 2 rfl
theorem dL_law_721 : decode cL_law 721 = .ok (.aload_n 2, 1) := wn_at gdL_law_716 3 rfl
theorem dL_law_722 : decode cL_law 722 = .ok (.aload_n 0, 1) := wn_at gdL_law_716 4 rfl
theorem dL_law_723 : decode cL_law 723 = .ok (.iload_n 3, 1) := wn_at gdL_law_716 5 rfl
theorem dL_law_724 : decode cL_law 724 = .ok (.iconst 1, 1) := wn_at gdL_law_716 6 rfl
theorem dL_law_725 : decode cL_law 725 = .ok (.iadd, 1) := wn_at gdL_law_716 7 rfl
theorem dL_law_726 : decode cL_law 726 = .ok (.iaload, 1) := wn_at gdL_law_716 8 rfl
theorem dL_law_727 : decode cL_law 727 = .ok (.aload_n 0, 1) := wn_at gdL_law_716 9 rfl
theorem gdL_law_728 : ∀ e ∈ ([(728, .iload_n 3, 1), (729, .iconst 2, 1), (730, .iadd, 1), (731, .iaload, 1), (732, .aload_n 0, 1), (733, .iload_n 3, 1), (734, .iconst 3, 1), (735, .iadd, 1), (736, .iaload, 1), (737, .invokevirtual 84, 3)] : List (Nat × Instr × Nat)), decode cL_law e.1 = .ok e.2 := wn_all _ 728 (by decide +kernel)
theorem dL_law_728 : decode cL_law 728 = .ok (.iload_n 3, 1) := wn_at gdL_law_728 0 rfl
theorem dL_law_729 : decode cL_law 729 = .ok (.iconst 2, 1) := wn_at gdL_law_728 1 rfl
theorem dL_law_730 : decode cL_law 730 = .ok (.iadd, 1) := wn_at gdL_law_728 2 rfl
theorem dL_law_731 : decode cL_law 731 = .ok (.iaload, 1) := wn_at gdL_law_728 3 rfl
theorem dL_law_732 : decode cL_law 732 = .ok (.aload_n 0, 1) := wn_at gdL_law_728 4 rfl
theorem dL_law_733 : decode cL_law 733 = .ok (.iload_n 3, 1) := wn_at gdL_law_728 5 rfl
theorem dL_law_734 : decode cL_law 734 = .ok (.iconst 3, 1) := wn_at gdL_law_728 6 rfl
theorem dL_law_735 : decode cL_law 735 = .ok (.iadd, 1) := wn_at gdL_law_728 7 rfl
theorem dL_law_736 : decode cL_law 736 = .ok (.iaload, 1) := wn_at gdL_law_728 8 rfl
theorem dL_law_737 : decode cL_law 737 = .ok (.invokevirtual 84, 3) := wn_at gdL_law_728 9 rfl
theorem gdL_law_740 : ∀ e ∈ ([(740, .pop2, 1), (741, .goto 878, 3), (744, .aload_n 1, 1), (745, .aload_n 0, 1), (746, .iload_n 3, 1), (747, .iconst 1, 1), (748, .iadd, 1), (749, .iaload, 1), (750, .aload_n 0, 1), (751, .iload_n 3, 1)] : List (Nat × Instr × Nat)), decode cL_law e.1 = .ok e.2 := wn_all _ 740 (by decide +kernel)
theorem dL_law_740 : decode cL_law 740 = .ok (.pop2, 1) := wn_at gdL_law_740 0 rfl
theorem dL_law_741 : decode cL_law 741 = .ok (.goto 878, 3) := wn_at gdL_law_740 1 rfl
theorem dL_law_744 : decode cL_law 744 = .ok (.aload_n 1, 1) := wn_at gdL_law_740 2 rfl
theorem dL_law_745 : decode cL_law 745 = .ok (.aload_n 0, 1) := wn_at gdL_law_740 3 rfl
theorem dL_law_746 : decode cL_law 746 = .ok (.iload_n 3, 1) := wn_at gdL_law_740 4 rfl
theorem dL_law_747 : decode cL_law 747 = .ok (.iconst 1, 1) := wn_at gdL_law_740 5 rfl
theorem dL_law_748 : decode cL_law 748 = .ok (.iadd, 1) := wn_at gdL_law_740 6 rfl
theorem dL_law_749 : decode cL_law 749 = .ok (.iaload, 1) := wn_at gdL_law_740 7 rfl
theorem dL_law_750 : decode cL_law 750 = .ok (.aload_n 0, 1) := wn_at gdL_law_740 8 rfl
theorem dL_law_751 : decode cL_law 751 = .ok (.iload_n 3, 1) := wn_at gdL_law_740 9 rfl
theorem gdL_law_752 : ∀ e ∈ ([(752, .iconst 2, 1), (753, .iadd, 1), (754, .iaload, 1), (755, .aload_n 0, 1), (756, .iload_n 3, 1), (757, .iconst 3, 1), (758, .iadd, 1), (759, .iaload, 1), (760, .aload_n 0, 1), (761, .iload_n 3, 1)] : List (Nat × Instr × Nat)), decode cL_law e.1 = .ok e.2 := wn_all _ 752 (by decide +kernel)
theorem dL_law_752 : decode cL_law 752 = .ok (.iconst 2, 1) := wn_at gdL_law_752 0 rfl
theorem dL_law_753 : decode cL_law 753 = .ok (.iadd, 1) := wn_at gdL_law_752 1 rfl
theorem dL_law_754 : decode cL_law 754 = .ok (.iaload, 1) := wn_at gdL_law_752 2 rfl
theorem dL_law_755 : decode cL_law 755 = .ok (.aload_n 0, 1) := wn_at gdL_law_752 3 rfl
theorem dL_law_756 : decode cL_law 756 = .ok (.iload_n 3, 1) := wn_at gdL_law_752 4 rfl
theorem dL_law_757 : decode cL_law 757 = .ok (.iconst 3, 1) := wn_at gdL_law_752 5 rfl
theorem dL_law_758 : decode cL_law 758 = .ok (.iadd, 1) := wn_at gdL_law_752 6 rfl
theorem dL_law_759 : decode cL_law 759 = .ok (.iaload, 1) := wn_at gdL_law_752 7 rfl
theorem dL_law_760 : decode cL_law 760 = .ok (.aload_n 0, 1) := wn_at gdL_law_752 8 rfl
theorem dL_law_761 : decode cL_law 761 = .ok (.iload_n 3, 1) := wn_at gdL_law_752 9 rfl
theorem gdL_law_762 : ∀ e ∈ ([(762, .iconst 4, 1), (763, .iadd, 1), (764, .iaload, 1), (765, .ifCond .eq 7, 3), (768, .iconst 1, 1), (769, .goto 4, 3), (772, .iconst 0, 1), (773, .aload_n 0, 1), (774, .iload_n 3, 1), (775, .iconst 5, 1)] : List (Nat × Instr × Nat)), decode cL_law e.1 = .ok e.2 := wn_all _ 762 (by decide +kernel)
theorem dL_law_762 : decode cL_law 762 = .ok (.iconst 4, 1) := wn_at gdL_law_762 0 rfl
theorem dL_law_763 : decode cL_law 763 = .ok (.iadd, 1) := wn_at gdL_law_762 1 rfl
theorem dL_law_764 : decode cL_law 764 = .ok (.iaload, 1) := wn_at gdL_law_762 2 rfl
theorem dL_law_765 : decode cL_law 765 = .ok (.ifCond .eq 7, 3) := wn_at gdL_law_762 3 rfl
theorem dL_law_768 : decode cL_law 768 = .ok (.iconst 1, 1) := wn_at gdL_law_762 4 rfl
theorem dL_law_769 : decode cL_law 769 = .ok (.goto 4, 3) := wn_at gdL_law_762 5 rfl
theorem dL_law_772 : decode cL_law 772 = .ok (.iconst 0, 1) := wn_at gdL_law_762 6 rfl
theorem dL_law_773 : decode cL_law 773 = .ok (.aload_n 0, 1) := wn_at gdL_law_762 7 rfl
theorem dL_law_774 : decode cL_law 774 = .ok (.iload_n 3, 1) := wn_at gdL_law_762 8 rfl
theorem dL_law_775 : decode cL_law 775 = .ok (.iconst 5, 1) := wn_at gdL_law_762 9 rfl
theorem gdL_law_776 : ∀ e ∈ ([(776, .iadd, 1), (777, .iaload, 1), (778, .invokevirtual 85, 3), (781, .pop2, 1), (782, .aload_n 2, 1), (783, .aload_n 0, 1), (784, .iload_n 3, 1), (785, .iconst 1, 1), (786, .iadd, 1), (787, .iaload, 1)] : List (Nat × Instr × Nat)), decode cL_law e.1 = .ok e.2 := wn_all _ 776 (by decide +kernel)
theorem dL_law_776 : decode cL_law 776 = .ok (.iadd, 1) := wn_at gdL_law_776 0 rfl
theorem dL_law_777 : decode cL_law 777 = .ok (.iaload, 1) := wn_at gdL_law_776 1 rfl
theorem dL_law_778 : decode cL_law 778 = .ok (.invokevirtual 85, 3) := wn_at gdL_law_776 2 rfl
theorem dL_law_781 : decode cL_law 781 = .ok (.pop2, 1) := wn_at gdL_law_776 3 rfl
theorem dL_law_782 : decode cL_law 782 = .ok (.aload_n 2, 1) := wn_at gdL_law_776 4 rfl
theorem dL_law_783 : decode cL_law 783 = .ok (.aload_n 0, 1) := wn_at gdL_law_776 5 rfl
theorem dL_law_784 : decode cL_law 784 = .ok (.iload_n 3, 1) := wn_at gdL_law_776 6 rfl
theorem dL_law_785 : decode cL_law 785 = .ok (.iconst 1, 1) := wn_at gdL_law_776 7 rfl
theorem dL_law_786 : decode cL_law 786 = .ok (.iadd, 1) := wn_at gdL_law_776 8 rfl
theorem dL_law_787 : decode cL_law 787 = .ok (.iaload, 1) := wn_at gdL_law_776 9 rfl
theorem gdL_law_788 : ∀ e ∈ ([(788, .aload_n 0, 1), (789, .iload_n 3, 1), (790, .iconst 2, 1), (791, .iadd, 1), (792, .iaload, 1), (793, .aload_n 0, 1), (794, .iload_n 3, 1), (795, .iconst 3, 1), (796, .iadd, 1), (797, .iaload, 1)] : List (Nat × Instr × Nat)), decode cL_law e.1 = .ok e.2 := wn_all _ 788 (by decide +kernel)
theorem dL_law_788 : decode cL_law 788 = .ok (.aload_n 0, 1) := wn_at gdL_law_788 0 rfl
theorem dL_law_789 : decode cL_law 789 = .ok (.iload_n 3, 1) := wn_at gdL_law_788 1 rfl
theorem dL_law_790 : decode cL_law 790 = .ok (.iconst 2, 1) := wn_at gdL_law_788 2 rfl
theorem dL_law_791 : decode cL_law 791 = .ok (.iadd, 1) := wn_at gdL_law_788 3 rfl
theorem dL_law_792 : decode cL_law 792 = .ok (.iaload, 1) := wn_at gdL_law_788 4 rfl
theorem dL_law_793 : decode cL_law 793 = .ok (.aload_n 0, 1) := wn_at gdL_law_788 5 rfl
theorem dL_law_794 : decode cL_law 794 = .ok (.iload_n 3, 1) := wn_at gdL_law_788 6 rfl
theorem dL_law_795 : decode cL_law 795 = .ok (.iconst 3, 1) := wn_at gdL_law_788 7 rfl
theorem dL_law_796 : decode cL_law 796 = .ok (.iadd, 1) := wn_at gdL_law_788 8 rfl
theorem dL_law_797 : decode cL_law 797 = .ok (.iaload, 1) := wn_at gdL_law_788 9 rfl
theorem gdL_law_798 : ∀ e ∈ ([(798, .aload_n 0, 1), (799, .iload_n 3, 1), (800, .iconst 4, 1), (801, .iadd, 1), (802, .iaload, 1), (803, .ifCond .eq 7, 3), (806, .iconst 1, 1), (807, .goto 4, 3), (810, .iconst 0, 1), (811, .aload_n 0, 1)] : List (Nat × Instr × Nat)), decode cL_law e.1 = .ok e.2 := wn_all _ 798 (by decide +kernel)
theorem dL_law_798 : decode cL_law 798 = .ok (.aload_n 0, 1) := wn_at gdL_law_798 0 rfl
theorem dL_law_799 : decode cL_law 799 = .ok (.iload_n 3, 1) := wn_at gdL_law_798 1 rfl
theorem dL_law_800 : decode cL_law 800 = .ok (.iconst 4, 1) := wn_at gdL_law_798 2 rfl
theorem dL_law_801 : decode cL_law 801 = .ok (.iadd, 1) := wn_at gdL_law_798 3 rfl
theorem dL_law_802 : decode cL_law 802 = .ok (.iaload, 1) := wn_at gdL_law_798 4 rfl
theorem dL_law_803 : decode cL_law 803 = .ok (.ifCond .eq 7, 3) := wn_at gdL_law_798 5 rfl
theorem dL_law_806 : decode cL_law 806 = .ok (.iconst 1, 1) := wn_at gdL_law_798 6 rfl
theorem dL_law_807 : decode cL_law 807 = .ok (.goto 4, 3) := wn_at gdL_law_798 7 rfl
theorem dL_law_810 : decode cL_law 810 = .ok (.iconst 0, 1) := wn_at gdL_law_798 8 rfl
theorem dL_law_811 : decode cL_law 811 = .ok (.aload_n 0, 1) := wn_at gdL_law_798 9 rfl
theorem gdL_law_812 : ∀ e ∈ ([(812, .iload_n 3, 1), (813, .iconst 5, 1), (814, .iadd, 1), (815, .iaload, 1), (816, .invokevirtual 89, 3), (819, .pop2, 1), (820, .goto 799, 3), (823, .aload_n 1, 1), (824, .aload_n 0, 1), (825, .iload_n 3, 1)] : List (Nat × Instr × Nat)), decode cL_law e.1 = .ok e.2 := wn_all _ 812 (by decide +kernel)
theorem dL_law_812 : decode cL_law 812 = .ok (.iload_n 3, 1) := wn_at gdL_law_812 0 rfl
theorem dL_law_813 : decode cL_law 813 = .ok (.iconst 5, 1) := wn_at gdL_law_812 1 rfl
theorem dL_law_814 : decode cL_law 814 = .ok (.iadd, 1) := wn_at gdL_law_812 2 rfl
theorem dL_law_815 : decode cL_law 815 = .ok (.iaload, 1) := wn_at gdL_law_812 3 rfl
theorem dL_law_816 : decode cL_law 816 = .ok (.invokevirtual 89, 3) := wn_at gdL_law_812 4 rfl
theorem dL_law_819 : decode cL_law 819 = .ok (.pop2, 1) := wn_at gdL_law_812 5 rfl
theorem dL_law_820 : decode cL_law 820 = .ok (.goto 799, 3) := wn_at gdL_law_812 6 rfl
theorem dL_law_823 : decode cL_law 823 = .ok (.aload_n 1, 1) := wn_at gdL_law_812 7 rfl
theorem dL_law_824 : decode cL_law 824 = .ok (.aload_n 0, 1) := wn_at gdL_law_812 8 rfl
theorem dL_law_825 : decode cL_law 825 = .ok (.iload_n 3, 1) := wn_at gdL_law_812 9 rfl
theorem gdL_law_826 : ∀ e ∈ ([(826, .iconst 1, 1), (827, .iadd, 1), (828, .iaload, 1), (829, .aload_n 0, 1), (830, .iload_n 3, 1), (831, .iconst 2, 1), (832, .iadd, 1), (833, .iaload, 1), (834, .aload_n 0, 1), (835, .iload_n 3, 1)] : List (Nat × Instr × Nat)), decode cL_law e.1 = .ok e.2 := wn_all _ 826 (by decide +kernel)
theorem dL_law_826 : decode cL_law 826 = .ok (.iconst 1, 1) := wn_at gdL_law_826 0 rfl
theorem dL_law_827 : decode cL_law 827 = .ok (.iadd, 1) := wn_at gdL_law_826 1 rfl
theorem dL_law_828 : decode cL_law 828 = .ok (.iaload, 1) := wn_at gdL_law_826 2 rfl
theorem dL_law_829 : decode cL_law 829 = .ok (.aload_n 0, 1) := wn_at gdL_law_826 3 rfl
theorem dL_law_830 : decode cL_law 830 = .ok (.iload_n 3, 1) := wn_at gdL_law_826 4 rfl
theorem dL_law_831 : decode cL_law 831 = .ok (.iconst 2, 1) := wn_at gdL_law_826 5 rfl
theorem dL_law_832 : decode cL_law 832 = .ok (.iadd, 1) := wn_at gdL_law_826 6 rfl
theorem dL_law_833 : decode cL_law 833 = .ok (.iaload, 1) := wn_at gdL_law_826 7 rfl
theorem dL_law_834 : decode cL_law 834 = .ok (.aload_n 0, 1) := wn_at gdL_law_826 8 rfl
theorem dL_law_835 : decode cL_law 835 = .ok (.iload_n 3, 1) := wn_at gdL_law_826 9 rfl
theorem gdL_law_836 : ∀ e ∈ ([(836, .iconst 3, 1), (837, .iadd, 1), (838, .iaload, 1), (839, .aload_n 0, 1), (840, .iload_n 3, 1), (841, .iconst 4, 1), (842, .iadd, 1), (843, .iaload, 1), (844, .aload_n 0, 1), (845, .iload_n 3, 1)] : List (Nat × Instr × Nat)), decode cL_law e.1 = .ok e.2 := wn_all _ 836 (by decide +kernel)
theorem dL_law_836 : decode cL_law 836 = .ok (.iconst 3, 1) := wn_at gdL_law_836 0 rfl
theorem dL_law_837 : decode cL_law 837 = .ok (.iadd, 1) := wn_at gdL_law_836 1 rfl
theorem dL_law_838 : decode cL_law 838 = .ok (.iaload, 1) := wn_at gdL_law_836 2 rfl
theorem dL_law_839 : decode cL_law 839 = .ok (.aload_n 0, 1) := wn_at gdL_law_836 3 rfl
theorem dL_law_840 : decode cL_law 840 = .ok (.iload_n 3, 1) := wn_at gdL_law_836 4 rfl
theorem dL_law_841 : decode cL_law 841 = .ok (.iconst 4, 1) := wn_at gdL_law_836 5 rfl
theorem dL_law_842 : decode cL_law 842 = .ok (.iadd, 1) := wn_at gdL_law_836 6 rfl
theorem dL_law_843 : decode cL_law 843 = .ok (.iaload, 1) := wn_at gdL_law_836 7 rfl
theorem dL_law_844 : decode cL_law 844 = .ok (.aload_n 0, 1) := wn_at gdL_law_836 8 rfl
theorem dL_law_845 : decode cL_law 845 = .ok (.iload_n 3, 1) := wn_at gdL_law_836 9 rfl
theorem gdL_law_846 : ∀ e ∈ ([(846, .iconst 5, 1), (847, .iadd, 1), (848, .iaload, 1), (849, .invokevirtual 90, 3), (852, .pop2, 1), (853, .aload_n 2, 1), (854, .aload_n 0, 1), (855, .iload_n 3, 1), (856, .iconst 1, 1), (857, .iadd, 1)] : List (Nat × Instr × Nat)), decode cL_law e.1 = .ok e.2 := wn_all _ 846 (by decide +kernel)
theorem dL_law_846 : decode cL_law 846 = .ok (.iconst 5, 1) := wn_at gdL_law_846 0 rfl
theorem dL_law_847 : decode cL_law 847 = .ok (.iadd, 1) := wn_at gdL_law_846 1 rfl
theorem dL_law_848 : decode cL_law 848 = .ok (.iaload, 1) := wn_at gdL_law_846 2 rfl
theorem dL_law_849 : decode cL_law 849 = .ok (.invokevirtual 90, 3) := wn_at gdL_law_846 3 rfl
theorem dL_law_852 : decode cL_law 852 = .ok (.pop2, 1) := wn_at gdL_law_846 4 rfl
theorem dL_law_853 : decode cL_law 853 = .ok (.aload_n 2, 1) := wn_at gdL_law_846 5 rfl
theorem dL_law_854 : decode cL_law 854 = .ok (.aload_n 0, 1) := wn_at gdL_law_846 6 rfl
theorem dL_law_855 : decode cL_law 855 = .ok (.iload_n 3, 1) := wn_at gdL_law_846 7 rfl
theorem dL_law_856 : decode cL_law 856 = .ok (.iconst 1, 1) := wn_at gdL_law_846 8 rfl
theorem dL_law_857 : decode cL_law 857 = .ok (.iadd, 1) := wn_at gdL_law_846 9 rfl
theorem gdL_law_858 : ∀ e ∈ ([(858, .iaload, 1), (859, .aload_n 0, 1), (860, .iload_n 3, 1), (861, .iconst 2, 1), (862, .iadd, 1), (863, .iaload, 1), (864, .aload_n 0, 1), (865, .iload_n 3, 1), (866, .iconst 3, 1), (867, .iadd, 1)] : List (Nat × Instr × Nat)), decode cL_law e.1 = .ok e.2 := wn_all _ 858 (by decide +kernel)
theorem dL_law_858 : decode cL_law 858 = .ok (.iaload, 1) := wn_at gdL_law_858 0 rfl
theorem dL_law_859 : decode cL_law 859 = .ok (.aload_n 0, 1) := wn_at gdL_law_858 1 rfl
theorem dL_law_860 : decode cL_law 860 = .ok (.iload_n 3, 1) := wn_at gdL_law_858 2 rfl
theorem dL_law_861 : decode cL_law 861 = .ok (.iconst 2, 1) := wn_at gdL_law_858 3 rfl
theorem dL_law_862 : decode cL_law 862 = .ok (.iadd, 1) := wn_at gdL_law_858 4 rfl
theorem dL_law_863 : decode cL_law 863 = .ok (.iaload, 1) := wn_at gdL_law_858 5 rfl
theorem dL_law_864 : decode cL_law 864 = .ok (.aload_n 0, 1) := wn_at gdL_law_858 6 rfl
theorem dL_law_865 : decode cL_law 865 = .ok (.iload_n 3, 1) := wn_at gdL_law_858 7 rfl
theorem dL_law_866 : decode cL_law 866 = .ok (.iconst 3, 1) := wn_at gdL_law_858 8 rfl
theorem dL_law_867 : decode cL_law 867 = .ok (.iadd, 1) := wn_at gdL_law_858 9 rfl
theorem gdL_law_868 : ∀ e ∈ ([(868, .iaload, 1), (869, .aload_n 0, 1), (870, .iload_n 3, 1), (871, .iconst 4, 1), (872, .iadd, 1), (873, .iaload, 1), (874, .aload_n 0, 1), (875, .iload_n 3, 1), (876, .iconst 5, 1), (877, .iadd, 1)] : List (Nat × Instr × Nat)), decode cL_law e.1 = .ok e.2 := wn_all _ 868 (by decide +kernel)
theorem dL_law_868 : decode cL_law 868 = .ok (.iaload, 1) := wn_at gdL_law_868 0 rfl
theorem dL_law_869 : decode cL_law 869 = .ok (.aload_n 0, 1) := wn_at gdL_law_868 1 rfl
theorem dL_law_870 : decode cL_law 870 = .ok (.iload_n 3, 1) := wn_at gdL_law_868 2 rfl
theorem dL_law_871 : decode cL_law 871 = .ok (.iconst 4, 1) := wn_at gdL_law_868 3 rfl
theorem dL_law_872 : decode cL_law 872 = .ok (.iadd, 1) := wn_at gdL_law_868 4 rfl
theorem dL_law_873 : decode cL_law 873 = .ok (.iaload, 1) := wn_at gdL_law_868 5 rfl
theorem dL_law_874 : decode cL_law 874 = .ok (.aload_n 0, 1) := wn_at gdL_law_868 6 rfl
theorem dL_law_875 : decode cL_law 875 = .ok (.iload_n 3, 1) := wn_at gdL_law_868 7 rfl
theorem dL_law_876 : decode cL_law 876 = .ok (.iconst 5, 1) := wn_at gdL_law_868 8 rfl
theorem dL_law_877 : decode cL_law 877 = .ok (.iadd, 1) := wn_at gdL_law_868 9 rfl
theorem gdL_law_878 : ∀ e ∈ ([(878, .iaload, 1), (879, .invokevirtual 94, 3), (882, .pop2, 1), (883, .goto 736, 3), (886, .aload_n 1, 1), (887, .aload_n 0, 1), (888, .iload_n 3, 1), (889, .iconst 1, 1), (890, .iadd, 1), (891, .iaload, 1)] : List (Nat × Instr × Nat)), decode cL_law e.1 = .ok e.2 := wn_all _ 878 (by decide +kernel)
theorem dL_law_878 : decode cL_law 878 = .ok (.iaload, 1) := wn_at gdL_law_878 0 rfl
theorem dL_law_879 : decode cL_law 879 = .ok (.invokevirtual 94, 3) := wn_at gdL_law_878 1 rfl
theorem dL_law_882 : decode cL_law 882 = .ok (.pop2, 1) := wn_at gdL_law_878 2 rfl
theorem dL_law_883 : decode cL_law 883 = .ok (.goto 736, 3) := wn_at gdL_law_878 3 rfl
theorem dL_law_886 : decode cL_law 886 = .ok (.aload_n 1, 1) := wn_at gdL_law_878 4 rfl
theorem dL_law_887 : decode cL_law 887 = .ok (.aload_n 0, 1) := wn_at gdL_law_878 5 rfl
theorem dL_law_888 : decode cL_law 888 = .ok (.iload_n 3, 1) := wn_at gdL_law_878 6 rfl
theorem dL_law_889 : decode cL_law 889 = .ok (.iconst 1, 1) := wn_at gdL_law_878 7 rfl
theorem dL_law_890 : decode cL_law 890 = .ok (.iadd, 1) := wn_at gdL_law_878 8 rfl
theorem dL_law_891 : decode cL_law 891 = .ok (.iaload, 1) := wn_at gdL_law_878 9 rfl
theorem gdL_law_892 : ∀ e ∈ ([(892, .aload_n 0, 1), (893, .iload_n 3, 1), (894, .iconst 2, 1), (895, .iadd, 1), (896, .iaload, 1), (897, .aload_n 0, 1), (898, .iload_n 3, 1), (899, .iconst 3, 1), (900, .iadd, 1), (901, .iaload, 1)] : List (Nat × Instr × Nat)), decode cL_law e.1 = .ok e.2 := wn_all _ 892 (by decide +kernel)
theorem dL_law_892 : decode cL_law 892 = .ok (.aload_n 0, 1) := wn_at gdL_law_892 0 rfl
theorem dL_law_893 : decode cL_law 893 = .ok (.iload_n 3, 1) := wn_at gdL_law_892 1 rfl
theorem dL_law_894 : decode cL_law 894 = .ok (.iconst 2, 1) := wn_at gdL_law_892 2 rfl
theorem dL_law_895 : decode cL_law 895 = .ok (.iadd, 1) := wn_at gdL_law_892 3 rfl
theorem dL_law_896 : decode cL_law 896 = .ok (.iaload, 1) := wn_at gdL_law_892 4 rfl
theorem dL_law_897 : decode cL_law 897 = .ok (.aload_n 0, 1) := wn_at gdL_law_892 5 rfl
theorem dL_law_898 : decode cL_law 898 = .ok (.iload_n 3, 1) := wn_at gdL_law_892 6 rfl
theorem dL_law_899 : decode cL_law 899 = .ok (.iconst 3, 1) := wn_at gdL_law_892 7 rfl
theorem dL_law_900 : decode cL_law 900 = .ok (.iadd, 1) := wn_at gdL_law_892 8 rfl
theorem dL_law_901 : decode cL_law 901 = .ok (.iaload, 1) := wn_at gdL_law_892 9 rfl
theorem gdL_law_902 : ∀ e ∈ ([(902, .aload_n 0, 1), (903, .iload_n 3, 1), (904, .iconst 4, 1), (905, .iadd, 1), (906, .iaload, 1), (907, .aload_n 0, 1), (908, .iload_n 3, 1), (909, .iconst 5, 1), (910, .iadd, 1), (911, .iaload, 1)] : List (Nat × Instr × Nat)), decode cL_law e.1 = .ok e.2 := wn_all _ 902 (by decide +kernel)
theorem dL_law_902 : decode cL_law 902 = .ok (.aload_n 0, 1) := wn_at gdL_law_902 0 rfl
theorem dL_law_903 : decode cL_law 903 = .ok (.iload_n 3, 1) := wn_at gdL_law_902 1 rfl
theorem dL_law_904 : decode cL_law 904 = .ok (.iconst 4, 1) := wn_at gdL_law_902 2 rfl
theorem dL_law_905 : decode cL_law 905 = .ok (.iadd, 1) := wn_at gdL_law_902 3 rfl
theorem dL_law_906 : decode cL_law 906 = .ok (.iaload, 1) := wn_at gdL_law_902 4 rfl
theorem dL_law_907 : decode cL_law 907 = .ok (.aload_n 0, 1) := wn_at gdL_law_902 5 rfl
theorem dL_law_908 : decode cL_law 908 = .ok (.iload_n 3, 1) := wn_at gdL_law_902 6 rfl
theorem dL_law_909 : decode cL_law 909 = .ok (.iconst 5, 1) := wn_at gdL_law_902 7 rfl
theorem dL_law_910 : decode cL_law 910 = .ok (.iadd, 1) := wn_at gdL_law_902 8 rfl
theorem dL_law_911 : decode cL_law 911 = .ok (.iaload, 1) := wn_at gdL_law_902 9 rfl
theorem gdL_law_912 : ∀ e ∈ ([(912, .invokevirtual 95, 3), (915, .pop, 1), (916, .aload_n 2, 1), (917, .aload_n 0, 1), (918, .iload_n 3, 1), (919, .iconst 1, 1), (920, .iadd, 1), (921, .iaload, 1), (922, .aload_n 0, 1), (923, .iload_n 3, 1)] : List (Nat × Instr × Nat)), decode cL_law e.1 = .ok e.2 := wn_all _ 912 (by decide +kernel)
theorem dL_law_912 : decode cL_law 912 = .ok (.invokevirtual 95, 3) := wn_at gdL_law_912 0 rfl
theorem dL_law_915 : decode cL_law 915 = .ok (.pop, 1) := wn_at gdL_law_912 1 rfl
theorem dL_law_916 : decode cL_law 916 = .ok (.aload_n 2, 1) := wn_at gdL_law_912 2 rfl
theorem dL_law_917 : decode cL_law 917 = .ok (.aload_n 0, 1) := wn_at gdL_law_912 3 rfl
theorem dL_law_918 : decode cL_law 918 = .ok (.iload_n 3, 1) := wn_at gdL_law_912 4 rfl
theorem dL_law_919 : decode cL_law 919 = .ok (.iconst 1, 1) := wn_at gdL_law_912 5 rfl
theorem dL_law_920 : decode cL_law 920 = .ok (.iadd, 1) := wn_at gdL_law_912 6 rfl
theorem dL_law_921 : decode cL_law 921 = .ok (.iaload, 1) := wn_at gdL_law_912 7 rfl
theorem dL_law_922 : decode cL_law 922 = .ok (.aload_n 0, 1) := wn_at gdL_law_912 8 rfl
theorem dL_law_923 : decode cL_law 923 = .ok (.iload_n 3, 1) := wn_at gdL_law_912 9 rfl
theorem gdL_law_924 : ∀ e ∈ ([(924, .iconst 2, 1), (925, .iadd, 1), (926, .iaload, 1), (927, .aload_n 0, 1), (928, .iload_n 3, 1), (929, .iconst 3, 1), (930, .iadd, 1), (931, .iaload, 1), (932, .aload_n 0, 1), (933, .iload_n 3, 1)] : List (Nat × Instr × Nat)), decode cL_law e.1 = .ok e.2 := wn_all _ 924 (by decide +kernel)
theorem dL_law_924 : decode cL_law 924 = .ok (.iconst 2, 1) := wn_at gdL_law_924 0 rfl
theorem dL_law_925 : decode cL_law 925 = .ok (.iadd, 1) := wn_at gdL_law_924 1 rfl
theorem dL_law_926 : decode cL_law 926 = .ok (.iaload, 1) := wn_at gdL_law_924 2 rfl
theorem dL_law_927 : decode cL_law 927 = .ok (.aload_n 0, 1) := wn_at gdL_law_924 3 rfl
theorem dL_law_928 : decode cL_law 928 = .ok (.iload_n 3, 1) := wn_at gdL_law_924 4 rfl
theorem dL_law_929 : decode cL_law 929 = .ok (.iconst 3, 1) := wn_at gdL_law_924 5 rfl
theorem dL_law_930 : decode cL_law 930 = .ok (.iadd, 1) := wn_at gdL_law_924 6 rfl
theorem dL_law_931 : decode cL_law 931 = .ok (.iaload, 1) := wn_at gdL_law_924 7 rfl
theorem dL_law_932 : decode cL_law 932 = .ok (.aload_n 0, 1) := wn_at gdL_law_924 8 rfl
theorem dL_law_933 : decode cL_law 933 = .ok (.iload_n 3, 1) := wn_at gdL_law_924 9 rfl
theorem gdL_law_934 : ∀ e ∈ ([(934, .iconst 4, 1), (935, .iadd, 1), (936, .iaload, 1), (937, .aload_n 0, 1), (938, .iload_n 3, 1), (939, .iconst 5, 1), (940, .iadd, 1), (941, .iaload, 1), (942, .invokevirtual 98, 3), (945, .pop, 1)] : List (Nat × Instr × Nat)), decode cL_law e.1 = .ok e.2 := wn_all _ 934 (by decide +kernel)
theorem dL_law_934 : decode cL_law 934 = .ok (.iconst 4, 1) := wn_at gdL_law_934 0 rfl
theorem dL_law_935 : decode cL_law 935 = .ok (.iadd, 1) := wn_at gdL_law_934 1 rfl
theorem dL_law_936 : decode cL_law 936 = .ok (.iaload, 1) := wn_at gdL_law_934 2 rfl
theorem dL_law_937 : decode cL_law 937 = .ok (.aload_n 0, 1) := wn_at gdL_law_934 3 rfl
theorem dL_law_938 : decode cL_law 938 = .ok (.iload_n 3, 1) := wn_at gdL_law_934 4 rfl
theorem dL_law_939 : decode cL_law 939 = .ok (.iconst 5, 1) := wn_at gdL_law_934 5 rfl
theorem dL_law_940 : decode cL_law 940 = .ok (.iadd, 1) := wn_at gdL_law_934 6 rfl
theorem dL_law_941 : decode cL_law 941 = .ok (.iaload, 1) := wn_at gdL_law_934 7 rfl
theorem dL_law_942 : decode cL_law 942 = .ok (.invokevirtual 98, 3) := wn_at gdL_law_934 8 rfl
theorem dL_law_945 : decode cL_law 945 = .ok (.pop, 1) := wn_at gdL_law_934 9 rfl
theorem gdL_law_946 : ∀ e ∈ ([(946, .goto 673, 3), (949, .aload_n 1, 1), (950, .aload_n 0, 1), (951, .iload_n 3, 1), (952, .iconst 1, 1), (953, .iadd, 1), (954, .iaload, 1), (955, .aload_n 0, 1), (956, .iload_n 3, 1), (957, .iconst 2, 1)] : List (Nat × Instr × Nat)), decode cL_law e.1 = .ok e.2 := wn_all _ 946 (by decide +kernel)
theorem dL_law_946 : decode cL_law 946 = .ok (.goto 673, 3) := wn_at gdL_law_946 0 rfl
theorem dL_law_949 : decode cL_law 949 = .ok (.aload_n 1, 1) := wn_at gdL_law_946 1 rfl
theorem dL_law_950 : decode cL_law 950 = .ok (.aload_n 0, 1) := wn_at gdL_law_946 2 rfl
theorem dL_law_951 : decode cL_law 951 = .ok (.iload_n 3, 1) := wn_at gdL_law_946 3 rfl
theorem dL_law_952 : decode cL_law 952 = .ok (.iconst 1, 1) := wn_at gdL_law_946 4 rfl
theorem dL_law_953 : decode cL_law 953 = .ok (.iadd, 1) := wn_at gdL_law_946 5 rfl
theorem dL_law_954 : decode cL_law 954 = .ok (.iaload, 1) := wn_at gdL_law_946 6 rfl
theorem dL_law_955 : decode cL_law 955 = .ok (.aload_n 0, 1) := wn_at gdL_law_946 7 rfl
theorem dL_law_956 : decode cL_law 956 = .ok (.iload_n 3, 1) := wn_at gdL_law_946 8 rfl
theorem dL_law_957 : decode cL_law 957 = .ok (.iconst 2, 1) := wn_at gdL_law_946 9 rfl
theorem gdL_law_958 : ∀ e ∈ ([(958, .iadd, 1), (959, .iaload, 1), (960, .aload_n 0, 1), (961, .iload_n 3, 1), (962, .iconst 3, 1), (963, .iadd, 1), (964, .iaload, 1), (965, .aload_n 0, 1), (966, .iload_n 3, 1), (967, .iconst 4, 1)] : List (Nat × Instr × Nat)), decode cL_law e.1 = .ok e.2 := wn_all _ 958 (by decide +kernel)
theorem dL_law_958 : decode cL_law 958 = .ok (.iadd, 1) := wn_at gdL_law_958 0 rfl
theorem dL_law_959 : decode cL_law 959 = .ok (.iaload, 1) := wn_at gdL_law_958 1 rfl
theorem dL_law_960 : decode cL_law 960 = .ok (.aload_n 0, 1) := wn_at gdL_law_958 2 rfl
theorem dL_law_961 : decode cL_law 961 = .ok (.iload_n 3, 1) := wn_at gdL_law_958 3 rfl
theorem dL_law_962 : decode cL_law 962 = .ok (.iconst 3, 1) := wn_at gdL_law_958 4 rfl
theorem dL_law_963 : decode cL_law 963 = .ok (.iadd, 1) := wn_at gdL_law_958 5 rfl
theorem dL_law_964 : decode cL_law 964 = .ok (.iaload, 1) := wn_at gdL_law_958 6 rfl
theorem dL_law_965 : decode cL_law 965 = .ok (.aload_n 0, 1) := wn_at gdL_law_958 7 rfl
theorem dL_law_966 : decode cL_law 966 = .ok (.iload_n 3, 1) := wn_at gdL_law_958 8 rfl
theorem dL_law_967 : decode cL_law 967 = .ok (.iconst 4, 1) := wn_at gdL_law_958 9 rfl
theorem gdL_law_968 : ∀ e ∈ ([(968, .iadd, 1), (969, .iaload, 1), (970, .aload_n 0, 1), (971, .iload_n 3, 1), (972, .iconst 5, 1), (973, .iadd, 1), (974, .iaload, 1), (975, .invokevirtual 99, 3), (978, .pop2, 1), (979, .aload_n 2, 1)] : List (Nat × Instr × Nat)), decode cL_law e.1 = .ok e.2 := wn_all _ 968 (by decide +kernel)
theorem dL_law_968 : decode cL_law 968 = .ok (.iadd, 1) := wn_at gdL_law_968 0 rfl
theorem dL_law_969 : decode cL_law 969 = .ok (.iaload, 1) := wn_at gdL_law_968 1 rfl
theorem dL_law_970 : decode cL_law 970 = .ok (.aload_n 0, 1) := wn_at gdL_law_968 2 rfl
theorem dL_law_971 : decode cL_law 971 = .ok (.iload_n 3, 1) := wn_at gdL_law_968 3 rfl
theorem dL_law_972 : decode cL_law 972 = .ok (.iconst 5, 1) := wn_at gdL_law_968 4 rfl
theorem dL_law_973 : decode cL_law 973 = .ok (.iadd, 1) := wn_at gdL_law_968 5 rfl
theorem dL_law_974 : decode cL_law 974 = .ok (.iaload, 1) := wn_at gdL_law_968 6 rfl
theorem dL_law_975 : decode cL_law 975 = .ok (.invokevirtual 99, 3) := wn_at gdL_law_968 7 rfl
theorem dL_law_978 : decode cL_law 978 = .ok (.pop2, 1) := wn_at gdL_law_968 8 rfl
theorem dL_law_979 : decode cL_law 979 = .ok (.aload_n 2, 1) := wn_at gdL_law_968 9 rfl
theorem gdL_law_980 : ∀ e ∈ ([(980, .aload_n 0, 1), (981, .iload_n 3, 1), (982, .iconst 1, 1), (983, .iadd, 1), (984, .iaload, 1), (985, .aload_n 0, 1), (986, .iload_n 3, 1), (987, .iconst 2, 1), (988, .iadd, 1), (989, .iaload, 1)] : List (Nat × Instr × Nat)), decode cL_law e.1 = .ok e.2 := wn_all _ 980 (by decide +kernel)
theorem dL_law_980 : decode cL_law 980 = .ok (.aload_n 0, 1) := wn_at gdL_law_980 0 rfl
theorem dL_law_981 : decode cL_law 981 = .ok (.iload_n 3, 1) := wn_at gdL_law_980 1 rfl
theorem dL_law_982 : decode cL_law 982 = .ok (.iconst 1, 1) := wn_at gdL_law_980 2 rfl
theorem dL_law_983 : decode cL_law 983 = .ok (.iadd, 1) := wn_at gdL_law_980 3 rfl
theorem dL_law_984 : decode cL_law 984 = .ok (.iaload, 1) := wn_at gdL_law_980 4 rfl
theorem dL_law_985 : decode cL_law 985 = .ok (.aload_n 0, 1) := wn_at gdL_law_980 5 rfl
theorem dL_law_986 : decode cL_law 986 = .ok (.iload_n 3, 1) := wn_at gdL_law_980 6 rfl
theorem dL_law_987 : decode cL_law 987 = .ok (.iconst 2, 1) := wn_at gdL_law_980 7 rfl
theorem dL_law_988 : decode cL_law 988 = .ok (.iadd, 1) := wn_at gdL_law_980 8 rfl
theorem dL_law_989 : decode cL_law 989 = .ok (.iaload, 1) := wn_at gdL_law_980 9 rfl
theorem gdL_law_990 : ∀ e ∈ ([(990, .aload_n 0, 1), (991, .iload_n 3, 1), (992, .iconst 3, 1), (993, .iadd, 1), (994, .iaload, 1), (995, .aload_n 0, 1), (996, .iload_n 3, 1), (997, .iconst 4, 1), (998, .iadd, 1), (999, .iaload, 1)] : List (Nat × Instr × Nat)), decode cL_law e.1 = .ok e.2 := wn_all _ 990 (by decide +kernel)
theorem dL_law_990 : decode cL_law 990 = .ok (.aload_n 0, 1) := wn_at gdL_law_990 0 rfl
theorem dL_law_991 : decode cL_law 991 = .ok (.iload_n 3, 1) := wn_at gdL_law_990 1 rfl
theorem dL_law_992 : decode cL_law 992 = .ok (.iconst 3, 1) := wn_at gdL_law_990 2 rfl
theorem dL_law_993 : decode cL_law 993 = .ok (.iadd, 1) := wn_at gdL_law_990 3 rfl
theorem dL_law_994 : decode cL_law 994 = .ok (.iaload, 1) := wn_at gdL_law_990 4 rfl
theorem dL_law_995 : decode cL_law 995 = .ok (.aload_n 0, 1) := wn_at gdL_law_990 5 rfl
theorem dL_law_996 : decode cL_law 996 = .ok (.iload_n 3, 1) := wn_at gdL_law_990 6 rfl
theorem dL_law_997 : decode cL_law 997 = .ok (.iconst 4, 1) := wn_at gdL_law_990 7 rfl
theorem dL_law_998 : decode cL_law 998 = .ok (.iadd, 1) := wn_at gdL_law_990 8 rfl
theorem dL_law_999 : decode cL_law 999 = .ok (.iaload, 1) := wn_at gdL_law_990 9 rfl
theorem gdL_law_1000 : ∀ e ∈ ([(1000, .aload_n 0, 1), (1001, .iload_n 3, 1), (1002, .iconst 5, 1), (1003, .iadd, 1), (1004, .iaload, 1), (1005, .invokevirtual 102, 3), (1008, .pop2, 1), (1009, .goto 610, 3), (1012, .aload_n 1, 1), (1013, .aload_n 0, 1)] : List (Nat × Instr × Nat)), decode cL_law e.1 = .ok e.2 := wn_all _ 1000 (by decide +kernel)
theorem dL_law_1000 : decode cL_law 1000 = .ok (.aload_n 0, 1) := wn_at gdL_law_1000 0 rfl
theorem dL_law_1001 : decode cL_law 1001 = .ok (.iload_n 3, 1) := wn_at gdL_law_1000 1 rfl
theorem dL_law_1002 : decode cL_law 1002 = .ok (.iconst 5, 1) := wn_at gdL_law_1000 2 rfl
theorem dL_law_1003 : decode cL_law 1003 = .ok (.iadd, 1) := wn_at gdL_law_1000 3 rfl
theorem dL_law_1004 : decode cL_law 1004 = .ok (.iaload, 1) := wn_at gdL_law_1000 4 rfl
theorem dL_law_1005 : decode cL_law 1005 = .ok (.invokevirtual 102, 3) := wn_at gdL_law_1000 5 rfl
theorem dL_law_1008 : decode cL_law 1008 = .ok (.pop2, 1) := wn_at gdL_law_1000 6 rfl
theorem dL_law_1009 : decode cL_law 1009 = .ok (.goto 610, 3) := wn_at gdL_law_1000 7 rfl
theorem dL_law_1012 : decode cL_law 1012 = .ok (.aload_n 1, 1) := wn_at gdL_law_1000 8 rfl
theorem dL_law_1013 : decode cL_law 1013 = .ok (.aload_n 0, 1) := wn_at gdL_law_1000 9 rfl
theorem gdL_law_1014 : ∀ e ∈ ([(1014, .iload_n 3, 1), (1015, .iconst 1, 1), (1016, .iadd, 1), (1017, .iaload, 1), (1018, .aload_n 0, 1), (1019, .iload_n 3, 1), (1020, .iconst 2, 1), (1021, .iadd, 1), (1022, .iaload, 1), (1023, .aload_n 0, 1)] : List (Nat × Instr × Nat)), decode cL_law e.1 = .ok e.2 := wn_all _ 1014 (by decide +kernel)
theorem dL_law_1014 : decode cL_law 1014 = .ok (.iload_n 3, 1) := wn_at gdL_law_1014 0 rfl
theorem dL_law_1015 : decode cL_law 1015 = .ok (.iconst 1, 1) := wn_at gdL_law_1014 1 rfl
theorem dL_law_1016 : decode cL_law 1016 = .ok (.iadd, 1) := wn_at gdL_law_1014 2 rfl
theorem dL_law_1017 : decode cL_law 1017 = .ok (.iaload, 1) := wn_at gdL_law_1014 3 rfl
theorem dL_law_1018 : decode cL_law 1018 = .ok (.aload_n 0, 1) := wn_at gdL_law_1014 4 rfl
theorem dL_law_1019 : decode cL_law 1019 = .ok (.iload_n 3, 1) := wn_at gdL_law_1014 5 rfl
theorem dL_law_1020 : decode cL_law 1020 = .ok (.iconst 2, 1) := wn_at gdL_law_1014 6 rfl
theorem dL_law_1021 : decode cL_law 1021 = .ok (.iadd, 1) := wn_at gdL_law_1014 7 rfl
theorem dL_law_1022 : decode cL_law 1022 = .ok (.iaload, 1) := wn_at gdL_law_1014 8 rfl
theorem dL_law_1023 : decode cL_law 1023 = .ok (.aload_n 0, 1) := wn_at gdL_law_1014 9 rfl
theorem gdL_law_1024 : ∀ e ∈ ([(1024, .iload_n 3, 1), (1025, .iconst 3, 1), (1026, .iadd, 1), (1027, .iaload, 1), (1028, .aload_n 0, 1), (1029, .iload_n 3, 1), (1030, .iconst 4, 1), (1031, .iadd, 1), (1032, .iaload, 1), (1033, .invokevirtual 103, 3)] : List (Nat × Instr × Nat)), decode cL_law e.1 = .ok e.2 := wn_all _ 1024 (by decide +kernel)
theorem dL_law_1024 : decode cL_law 1024 = .ok (.iload_n 3, 1) := wn_at gdL_law_1024 0 rfl
theorem dL_law_1025 : decode cL_law 1025 = .ok (.iconst 3, 1) := wn_at gdL_law_1024 1 rfl
theorem dL_law_1026 : decode cL_law 1026 = .ok (.iadd, 1) := wn_at gdL_law_1024 2 rfl
theorem dL_law_1027 : decode cL_law 1027 = .ok (.iaload, 1) := wn_at gdL_law_1024 3 rfl
theorem dL_law_1028 : decode cL_law 1028 = .ok (.aload_n 0, 1) := wn_at gdL_law_1024 4 rfl
theorem dL_law_1029 : decode cL_law 1029 = .ok (.iload_n 3, 1) := wn_at gdL_law_1024 5 rfl
theorem dL_law_1030 : decode cL_law 1030 = .ok (.iconst 4, 1) := wn_at gdL_law_1024 6 rfl
theorem dL_law_1031 : decode cL_law 1031 = .ok (.iadd, 1) := wn_at gdL_law_1024 7 rfl
theorem dL_law_1032 : decode cL_law 1032 = .ok (.iaload, 1) := wn_at gdL_law_1024 8 rfl
theorem dL_law_1033 : decode cL_law 1033 = .ok (.invokevirtual 103, 3) := wn_at gdL_law_1024 9 rfl
theorem gdL_law_1036 : ∀ e ∈ ([(1036, .pop, 1), (1037, .aload_n 2, 1), (1038, .aload_n 0, 1), (1039, .iload_n 3, 1), (1040, .iconst 1, 1), (1041, .iadd, 1), (1042, .iaload, 1), (1043, .aload_n 0, 1), (1044, .iload_n 3, 1), (1045, .iconst 2, 1)] : List (Nat × Instr × Nat)), decode cL_law e.1 = .ok e.2 := wn_all _ 1036 (by decide +kernel)
theorem dL_law_1036 : decode cL_law 1036 = .ok (.pop, 1) := wn_at gdL_law_1036 0 rfl
theorem dL_law_1037 : decode cL_law 1037 = .ok (.aload_n 2, 1) := wn_at gdL_law_1036 1 rfl
theorem dL_law_1038 : decode cL_law 1038 = .ok (.aload_n 0, 1) := wn_at gdL_law_1036 2 rfl
theorem dL_law_1039 : decode cL_law 1039 = .ok (.iload_n 3, 1) := wn_at gdL_law_1036 3 rfl
theorem dL_law_1040 : decode cL_law 1040 = .ok (.iconst 1, 1) := wn_at gdL_law_1036 4 rfl
theorem dL_law_1041 : decode cL_law 1041 = .ok (.iadd, 1) := wn_at gdL_law_1036 5 rfl
theorem dL_law_1042 : decode cL_law 1042 = .ok (.iaload, 1) := wn_at gdL_law_1036 6 rfl
theorem dL_law_1043 : decode cL_law 1043 = .ok (.aload_n 0, 1) := wn_at gdL_law_1036 7 rfl
theorem dL_law_1044 : decode cL_law 1044 = .ok (.iload_n 3, 1) := wn_at gdL_law_1036 8 rfl
theorem dL_law_1045 : decode cL_law 1045 = .ok (.iconst 2, 1) := wn_at gdL_law_1036 9 rfl
theorem gdL_law_1046 : ∀ e ∈ ([(1046, .iadd, 1), (1047, .iaload, 1), (1048, .aload_n 0, 1), (1049, .iload_n 3, 1), (1050, .iconst 3, 1), (1051, .iadd, 1), (1052, .iaload, 1), (1053, .aload_n 0, 1), (1054, .iload_n 3, 1), (1055, .iconst 4, 1)] : List (Nat × Instr × Nat)), decode cL_law e.1 = .ok e.2 := wn_all _ 1046 (by decide +kernel)
theorem dL_law_1046 : decode cL_law 1046 = .ok (.iadd, 1) := wn_at gdL_law_1046 0 rfl
theorem dL_law_1047 : decode cL_law 1047 = .ok (.iaload, 1) := wn_at gdL_law_1046 1 rfl
theorem dL_law_1048 : decode cL_law 1048 = .ok (.aload_n 0, 1) := wn_at gdL_law_1046 2 rfl
theorem dL_law_1049 : decode cL_law 1049 = .ok (.iload_n 3, 1) := wn_at gdL_law_1046 3 rfl
theorem dL_law_1050 : decode cL_law 1050 = .ok (.iconst 3, 1) := wn_at gdL_law_1046 4 rfl
theorem dL_law_1051 : decode cL_law 1051 = .ok (.iadd, 1) := wn_at gdL_law_1046 5 rfl
theorem dL_law_1052 : decode cL_law 1052 = .ok (.iaload, 1) := wn_at gdL_law_1046 6 rfl
theorem dL_law_1053 : decode cL_law 1053 = .ok (.aload_n 0, 1) := wn_at gdL_law_1046 7 rfl
theorem dL_law_1054 : decode cL_law 1054 = .ok (.iload_n 3, 1) := wn_at gdL_law_1046 8 rfl
theorem dL_law_1055 : decode cL_law 1055 = .ok (.iconst 4, 1) := wn_at gdL_law_1046 9 rfl
theorem gdL_law_1056 : ∀ e ∈ ([(1056, .iadd, 1), (1057, .iaload, 1), (1058, .invokevirtual 107, 3), (1061, .pop, 1), (1062, .goto 557, 3), (1065, .aload_n 1, 1), (1066, .aload_n 0, 1), (1067, .iload_n 3, 1), (1068, .iconst 1, 1), (1069, .iadd, 1)] : List (Nat × Instr × Nat)), decode cL_law e.1 = .ok e.2 := wn_all _ 1056 (by decide +kernel)
theorem dL_law_1056 : decode cL_law 1056 = .ok (.iadd, 1) := wn_at gdL_law_1056 0 rfl
theorem dL_law_1057 : decode cL_law 1057 = .ok (.iaload, 1) := wn_at gdL_law_1056 1 rfl
theorem dL_law_1058 : decode cL_law 1058 = .ok (.invokevirtual 107, 3) := wn_at gdL_law_1056 2 rfl
theorem dL_law_1061 : decode cL_law 1061 = .ok (.pop, 1) := wn_at gdL_law_1056 3 rfl
theorem dL_law_1062 : decode cL_law 1062 = .ok (.goto 557, 3) := wn_at gdL_law_1056 4 rfl
theorem dL_law_1065 : decode cL_law 1065 = .ok (.aload_n 1, 1) := wn_at gdL_law_1056 5 rfl
theorem dL_law_1066 : decode cL_law 1066 = .ok (.aload_n 0, 1) := wn_at gdL_law_1056 6 rfl
theorem dL_law_1067 : decode cL_law 1067 = .ok (.iload_n 3, 1) := wn_at gdL_law_1056 7 rfl
theorem dL_law_1068 : decode cL_law 1068 = .ok (.iconst 1, 1) := wn_at gdL_law_1056 8 rfl
theorem dL_law_1069 : decode cL_law 1069 = .ok (.iadd, 1) := wn_at gdL_law_1056 9 rfl
theorem gdL_law_1070 : ∀ e ∈ ([(1070, .iaload, 1), (1071, .aload_n 0, 1), (1072, .iload_n 3, 1), (1073, .iconst 2, 1), (1074, .iadd, 1), (1075, .iaload, 1), (1076, .aload_n 0, 1), (1077, .iload_n 3, 1), (1078, .iconst 3, 1), (1079, .iadd, 1)] : List (Nat × Instr × Nat)), decode cL_law e.1 = .ok e.2 := wn_all _ 1070 (by decide +kernel)
theorem dL_law_1070 : decode cL_law 1070 = .ok (.iaload, 1) := wn_at gdL_law_1070 0 rfl
theorem dL_law_1071 : decode cL_law 1071 = .ok (.aload_n 0, 1) := wn_at gdL_law_1070 1 rfl
theorem dL_law_1072 : decode cL_law 1072 = .ok (.iload_n 3, 1) := wn_at gdL_law_1070 2 rfl
theorem dL_law_1073 : decode cL_law 1073 = .ok (.iconst 2, 1) := wn_at gdL_law_1070 3 rfl
theorem dL_law_1074 : decode cL_law 1074 = .ok (.iadd, 1) := wn_at gdL_law_1070 4 rfl
theorem dL_law_1075 : decode cL_law 1075 = .ok (.iaload, 1) := wn_at gdL_law_1070 5 rfl
theorem dL_law_1076 : decode cL_law 1076 = .ok (.aload_n 0, 1) := wn_at gdL_law_1070 6 rfl
theorem dL_law_1077 : decode cL_law 1077 = .ok (.iload_n 3, 1) := wn_at gdL_law_1070 7 rfl
theorem dL_law_1078 : decode cL_law 1078 = .ok (.iconst 3, 1) := wn_at gdL_law_1070 8 rfl
theorem dL_law_1079 : decode cL_law 1079 = .ok (.iadd, 1) := wn_at gdL_law_1070 9 rfl
theorem gdL_law_1080 : ∀ e ∈ ([(1080, .iaload, 1), (1081, .ifCond .eq 7, 3), (1084, .iconst 1, 1), (1085, .goto 4, 3), (1088, .iconst 0, 1), (1089, .invokevirtual 108, 3), (1092, .pop, 1), (1093, .aload_n 2, 1), (1094, .aload_n 0, 1), (1095, .iload_n 3, 1)] : List (Nat × Instr × Nat)), decode cL_law e.1 = .ok e.2 := wn_all _ 1080 (by decide +kernel)
theorem dL_law_1080 : decode cL_law 1080 = .ok (.iaload, 1) := wn_at gdL_law_1080 0 rfl
theorem dL_law_1081 : decode cL_law 1081 = .ok (.ifCond .eq 7, 3) := wn_at gdL_law_1080 1 rfl
theorem dL_law_1084 : decode cL_law 1084 = .ok (.iconst 1, 1) := wn_at gdL_law_1080 2 rfl
theorem dL_law_1085 : decode cL_law 1085 = .ok (.goto 4, 3) := wn_at gdL_law_1080 3 rfl
theorem dL_law_1088 : decode cL_law 1088 = .ok (.iconst 0, 1) := wn_at gdL_law_1080 4 rfl
theorem dL_law_1089 : decode cL_law 1089 = .ok (.invokevirtual 108, 3) := wn_at gdL_law_1080 5 rfl
theorem dL_law_1092 : decode cL_law 1092 = .ok (.pop, 1) := wn_at gdL_law_1080 6 rfl
theorem dL_law_1093 : decode cL_law 1093 = .ok (.aload_n 2, 1) := wn_at gdL_law_1080 7 rfl
theorem dL_law_1094 : decode cL_law 1094 = .ok (.aload_n 0, 1) := wn_at gdL_law_1080 8 rfl
theorem dL_law_1095 : decode cL_law 1095 = .ok (.iload_n 3, 1) := wn_at gdL_law_1080 9 rfl
theorem gdL_law_1096 : ∀ e ∈ ([(1096, .iconst 1, 1), (1097, .iadd, 1), (1098, .iaload, 1), (1099, .aload_n 0, 1), (1100, .iload_n 3, 1), (1101, .iconst 2, 1), (1102, .iadd, 1), (1103, .iaload, 1), (1104, .aload_n 0, 1), (1105, .iload_n 3, 1)] : List (Nat × Instr × Nat)), decode cL_law e.1 = .ok e.2 := wn_all _ 1096 (by decide +kernel)
theorem dL_law_1096 : decode cL_law 1096 = .ok (.iconst 1, 1) := wn_at gdL_law_1096 0 rfl
theorem dL_law_1097 : decode cL_law 1097 = .ok (.iadd, 1) := wn_at gdL_law_1096 1 rfl
theorem dL_law_1098 : decode cL_law 1098 = .ok (.iaload, 1) := wn_at gdL_law_1096 2 rfl
theorem dL_law_1099 : decode cL_law 1099 = .ok (.aload_n 0, 1) := wn_at gdL_law_1096 3 rfl
theorem dL_law_1100 : decode cL_law 1100 = .ok (.iload_n 3, 1) := wn_at gdL_law_1096 4 rfl
theorem dL_law_1101 : decode cL_law 1101 = .ok (.iconst 2, 1) := wn_at gdL_law_1096 5 rfl
theorem dL_law_1102 : decode cL_law 1102 = .ok (.iadd, 1) := wn_at gdL_law_1096 6 rfl
theorem dL_law_1103 : decode cL_law 1103 = .ok (.iaload, 1) := wn_at gdL_law_1096 7 rfl
theorem dL_law_1104 : decode cL_law 1104 = .ok (.aload_n 0, 1) := wn_at gdL_law_1096 8 rfl
theorem dL_law_1105 : decode cL_law 1105 = .ok (.iload_n 3, 1) := wn_at gdL_law_1096 9 rfl
theorem gdL_law_1106 : ∀ e ∈ ([(1106, .iconst 3, 1), (1107, .iadd, 1), (1108, .iaload, 1), (1109, .ifCond .eq 7, 3), (1112, .iconst 1, 1), (1113, .goto 4, 3), (1116, .iconst 0, 1), (1117, .invokevirtual 112, 3), (1120, .pop, 1), (1121, .goto 498, 3)] : List (Nat × Instr × Nat)), decode cL_law e.1 = .ok e.2 := wn_all _ 1106 (by decide +kernel)
theorem dL_law_1106 : decode cL_law 1106 = .ok (.iconst 3, 1) := wn_at gdL_law_1106 0 rfl
theorem dL_law_1107 : decode cL_law 1107 = .ok (.iadd, 1) := wn_at gdL_law_1106 1 rfl
theorem dL_law_1108 : decode cL_law 1108 = .ok (.iaload, 1) := wn_at gdL_law_1106 2 rfl
theorem dL_law_1109 : decode cL_law 1109 = .ok (.ifCond .eq 7, 3) := wn_at gdL_law_1106 3 rfl
theorem dL_law_1112 : decode cL_law 1112 = .ok (.iconst 1, 1) := wn_at gdL_law_1106 4 rfl
theorem dL_law_1113 : decode cL_law 1113 = .ok (.goto 4, 3) := wn_at gdL_law_1106 5 rfl
theorem dL_law_1116 : decode cL_law 1116 = .ok (.iconst 0, 1) := wn_at gdL_law_1106 6 rfl
theorem dL_law_1117 : decode cL_law 1117 = .ok (.invokevirtual 112, 3) := wn_at gdL_law_1106 7 rfl
theorem dL_law_1120 : decode cL_law 1120 = .ok (.pop, 1) := wn_at gdL_law_1106 8 rfl
theorem dL_law_1121 : decode cL_law 1121 = .ok (.goto 498, 3) := wn_at gdL_law_1106 9 rfl
theorem gdL_law_1124 : ∀ e ∈ ([(1124, .aload_n 1, 1), (1125, .aload_n 0, 1), (1126, .iload_n 3, 1), (1127, .iconst 1, 1), (1128, .iadd, 1), (1129, .iaload, 1), (1130, .aload_n 0, 1), (1131, .iload_n 3, 1), (1132, .iconst 2, 1), (1133, .iadd, 1)] : List (Nat × Instr × Nat)), decode cL_law e.1 = .ok e.2 := wn_all _ 1124 (by decide +kernel)
theorem dL_law_1124 : decode cL_law 1124 = .ok (.aload_n 1, 1) := wn_at gdL_law_1124 0 rfl
theorem dL_law_1125 : decode cL_law 1125 = .ok (.aload_n 0, 1) := wn_at gdL_law_1124 1 rfl
theorem dL_law_1126 : decode cL_law 1126 = .ok (.iload_n 3, 1) := wn_at gdL_law_1124 2 rfl
theorem dL_law_1127 : decode cL_law 1127 = .ok (.iconst 1, 1) := wn_at gdL_law_1124 3 rfl
theorem dL_law_1128 : decode cL_law 1128 = .ok (.iadd, 1) := wn_at gdL_law_1124 4 rfl
theorem dL_law_1129 : decode cL_law 1129 = .ok (.iaload, 1) := wn_at gdL_law_1124 5 rfl
theorem dL_law_1130 : decode cL_law 1130 = .ok (.aload_n 0, 1) := wn_at gdL_law_1124 6 rfl
theorem dL_law_1131 : decode cL_law 1131 = .ok (.iload_n 3, 1) := wn_at gdL_law_1124 7 rfl
theorem dL_law_1132 : decode cL_law 1132 = .ok (.iconst 2, 1) := wn_at gdL_law_1124 8 rfl
theorem dL_law_1133 : decode cL_law 1133 = .ok (.iadd, 1) := wn_at gdL_law_1124 9 rfl
theorem gdL_law_1134 : ∀ e ∈ ([(1134, .iaload, 1), (1135, .aload_n 0, 1), (1136, .iload_n 3, 1), (1137, .iconst 3, 1), (1138, .iadd, 1), (1139, .iaload, 1), (1140, .aload_n 0, 1), (1141, .iload_n 3, 1), (1142, .iconst 4, 1), (1143, .iadd, 1)] : List (Nat × Instr × Nat)), decode cL_law e.1 = .ok e.2 := wn_all _ 1134 (by decide +kernel)
theorem dL_law_1134 : decode cL_law 1134 = .ok (.iaload, 1) := wn_at gdL_law_1134 0 rfl
theorem dL_law_1135 : decode cL_law 1135 = .ok (.aload_n 0, 1) := wn_at gdL_law_1134 1 rfl
theorem dL_law_1136 : decode cL_law 1136 = .ok (.iload_n 3, 1) := wn_at gdL_law_1134 2 rfl
theorem dL_law_1137 : decode cL_law 1137 = .ok (.iconst 3, 1) := wn_at gdL_law_1134 3 rfl
theorem dL_law_1138 : decode cL_law 1138 = .ok (.iadd, 1) := wn_at gdL_law_1134 4 rfl
theorem dL_law_1139 : decode cL_law 1139 = .ok (.iaload, 1) := wn_at gdL_law_1134 5 rfl
theorem dL_law_1140 : decode cL_law 1140 = .ok (.aload_n 0, 1) := wn_at gdL_law_1134 6 rfl
theorem dL_law_1141 : decode cL_law 1141 = .ok (.iload_n 3, 1) := wn_at gdL_law_1134 7 rfl
theorem dL_law_1142 : decode cL_law 1142 = .ok (.iconst 4, 1) := wn_at gdL_law_1134 8 rfl
theorem dL_law_1143 : decode cL_law 1143 = .ok (.iadd, 1) := wn_at gdL_law_1134 9 rfl
theorem gdL_law_1144 : ∀ e ∈ ([(1144, .iaload, 1), (1145, .invokevirtual 113, 3), (1148, .pop2, 1), (1149, .aload_n 2, 1), (1150, .aload_n 0, 1), (1151, .iload_n 3, 1), (1152, .iconst 1, 1), (1153, .iadd, 1), (1154, .iaload, 1), (1155, .aload_n 0, 1)] : List (Nat × Instr × Nat)), decode cL_law e.1 = .ok e.2 := wn_all _ 1144 (by decide +kernel)
theorem dL_law_1144 : decode cL_law 1144 = .ok (.iaload, 1) := wn_at gdL_law_1144 0 rfl
theorem dL_law_1145 : decode cL_law 1145 = .ok (.invokevirtual 113, 3) := wn_at gdL_law_1144 1 rfl
theorem dL_law_1148 : decode cL_law 1148 = .ok (.pop2, 1) := wn_at gdL_law_1144 2 rfl
theorem dL_law_1149 : decode cL_law 1149 = .ok (.aload_n 2, 1) := wn_at gdL_law_1144 3 rfl
theorem dL_law_1150 : decode cL_law 1150 = .ok (.aload_n 0, 1) := wn_at gdL_law_1144 4 rfl
theorem dL_law_1151 : decode cL_law 1151 = .ok (.iload_n 3, 1) := wn_at gdL_law_1144 5 rfl
theorem dL_law_1152 : decode cL_law 1152 = .ok (.iconst 1, 1) := wn_at gdL_law_1144 6 rfl
theorem dL_law_1153 : decode cL_law 1153 = .ok (.iadd, 1) := wn_at gdL_law_1144 7 rfl
theorem dL_law_1154 : decode cL_law 1154 = .ok (.iaload, 1) := wn_at gdL_law_1144 8 rfl
theorem dL_law_1155 : decode cL_law 1155 = .ok (.aload_n 0, 1) := wn_at gdL_law_1144 9 rfl
theorem gdL_law_1156 : ∀ e ∈ ([(1156, .iload_n 3, 1), (1157, .iconst 2, 1), (1158, .iadd, 1), (1159, .iaload, 1), (1160, .aload_n 0, 1), (1161, .iload_n 3, 1), (1162, .iconst 3, 1), (1163, .iadd, 1), (1164, .iaload, 1), (1165, .aload_n 0, 1)] : List (Nat × Instr × Nat)), decode cL_law e.1 = .ok e.2 := wn_all _ 1156 (by decide +kernel)
theorem dL_law_1156 : decode cL_law 1156 = .ok (.iload_n 3, 1) := wn_at gdL_law_1156 0 rfl
theorem dL_law_1157 : decode cL_law 1157 = .ok (.iconst 2, 1) := wn_at gdL_law_1156 1 rfl
theorem dL_law_1158 : decode cL_law 1158 = .ok (.iadd, 1) := wn_at gdL_law_1156 2 rfl
theorem dL_law_1159 : decode cL_law 1159 = .ok (.iaload, 1) := wn_at gdL_law_1156 3 rfl
theorem dL_law_1160 : decode cL_law 1160 = .ok (.aload_n 0, 1) := wn_at gdL_law_1156 4 rfl
theorem dL_law_1161 : decode cL_law 1161 = .ok (.iload_n 3, 1) := wn_at gdL_law_1156 5 rfl
theorem dL_law_1162 : decode cL_law 1162 = .ok (.iconst 3, 1) := wn_at gdL_law_1156 6 rfl
theorem dL_law_1163 : decode cL_law 1163 = .ok (.iadd, 1) := wn_at gdL_law_1156 7 rfl
theorem dL_law_1164 : decode cL_law 1164 = .ok (.iaload, 1) := wn_at gdL_law_1156 8 rfl
theorem dL_law_1165 : decode cL_law 1165 = .ok (.aload_n 0, 1) := wn_at gdL_law_1156 9 rfl
theorem gdL_law_1166 : ∀ e ∈ ([(1166, .iload_n 3, 1), (1167, .iconst 4, 1), (1168, .iadd, 1), (1169, .iaload, 1), (1170, .invokevirtual 116, 3), (1173, .pop2, 1), (1174, .goto 445, 3), (1177, .aload_n 1, 1), (1178, .aload_n 0, 1), (1179, .iload_n 3, 1)] : List (Nat × Instr × Nat)), decode cL_law e.1 = .ok e.2 := wn_all _ 1166 (by decide +kernel)
theorem dL_law_1166 : decode cL_law 1166 = .ok (.iload_n 3, 1) := wn_at gdL_law_1166 0 rfl
theorem dL_law_1167 : decode cL_law 1167 = .ok (.iconst 4, 1) := wn_at gdL_law_1166 1 rfl
theorem dL_law_1168 : decode cL_law 1168 = .ok (.iadd, 1) := wn_at gdL_law_1166 2 rfl
theorem dL_law_1169 : decode cL_law 1169 = .ok (.iaload, 1) := wn_at gdL_law_1166 3 rfl
theorem dL_law_1170 : decode cL_law 1170 = .ok (.invokevirtual 116, 3) := wn_at gdL_law_1166 4 rfl
theorem dL_law_1173 : decode cL_law 1173 = .ok (.pop2, 1) := wn_at gdL_law_1166 5 rfl
theorem dL_law_1174 : decode cL_law 1174 = .ok (.goto 445, 3) := wn_at gdL_law_1166 6 rfl
theorem dL_law_1177 : decode cL_law 1177 = .ok (.aload_n 1, 1) := wn_at gdL_law_1166 7 rfl
theorem dL_law_1178 : decode cL_law 1178 = .ok (.aload_n 0, 1) := wn_at gdL_law_1166 8 rfl
theorem dL_law_1179 : decode cL_law 1179 = .ok (.iload_n 3, 1) := wn_at gdL_law_1166 9 rfl
theorem gdL_law_1180 : ∀ e ∈ ([(1180, .iconst 1, 1), (1181, .iadd, 1), (1182, .iaload, 1), (1183, .aload_n 0, 1), (1184, .iload_n 3, 1), (1185, .iconst 2, 1), (1186, .iadd, 1), (1187, .iaload, 1), (1188, .aload_n 0, 1), (1189, .iload_n 3, 1)] : List (Nat × Instr × Nat)), decode cL_law e.1 = .ok e.2 := wn_all _ 1180 (by decide +kernel)
theorem dL_law_1180 : decode cL_law 1180 = .ok (.iconst 1, 1) := wn_at gdL_law_1180 0 rfl
theorem dL_law_1181 : decode cL_law 1181 = .ok (.iadd, 1) := wn_at gdL_law_1180 1 rfl
theorem dL_law_1182 : decode cL_law 1182 = .ok (.iaload, 1) := wn_at gdL_law_1180 2 rfl
theorem dL_law_1183 : decode cL_law 1183 = .ok (.aload_n 0, 1) := wn_at gdL_law_1180 3 rfl
theorem dL_law_1184 : decode cL_law 1184 = .ok (.iload_n 3, 1) := wn_at gdL_law_1180 4 rfl
theorem dL_law_1185 : decode cL_law 1185 = .ok (.iconst 2, 1) := wn_at gdL_law_1180 5 rfl
theorem dL_law_1186 : decode cL_law 1186 = .ok (.iadd, 1) := wn_at gdL_law_1180 6 rfl
theorem dL_law_1187 : decode cL_law 1187 = .ok (.iaload, 1) := wn_at gdL_law_1180 7 rfl
theorem dL_law_1188 : decode cL_law 1188 = .ok (.aload_n 0, 1) := wn_at gdL_law_1180 8 rfl
theorem dL_law_1189 : decode cL_law 1189 = .ok (.iload_n 3, 1) := wn_at gdL_law_1180 9 rfl
theorem gdL_law_1190 : ∀ e ∈ ([(1190, .iconst 3, 1), (1191, .iadd, 1), (1192, .iaload, 1), (1193, .invokevirtual 117, 3), (1196, .pop, 1), (1197, .aload_n 2, 1), (1198, .aload_n 0, 1), (1199, .iload_n 3, 1), (1200, .iconst 1, 1), (1201, .iadd, 1)] : List (Nat × Instr × Nat)), decode cL_law e.1 = .ok e.2 := wn_all _ 1190 (by decide +kernel)
theorem dL_law_1190 : decode cL_law 1190 = .ok (.iconst 3, 1) := wn_at gdL_law_1190 0 rfl
theorem dL_law_1191 : decode cL_law 1191 = .ok (.iadd, 1) := wn_at gdL_law_1190 1 rfl
theorem dL_law_1192 : decode cL_law 1192 = .ok (.iaload, 1) := wn_at gdL_law_1190 2 rfl
theorem dL_law_1193 : decode cL_law 1193 = .ok (.invokevirtual 117, 3) := wn_at gdL_law_1190 3 rfl
theorem dL_law_1196 : decode cL_law 1196 = .ok (.pop, 1) := wn_at gdL_law_1190 4 rfl
theorem dL_law_1197 : decode cL_law 1197 = .ok (.aload_n 2, 1) := wn_at gdL_law_1190 5 rfl
theorem dL_law_1198 : decode cL_law 1198 = .ok (.aload_n 0, 1) := wn_at gdL_law_1190 6 rfl
theorem dL_law_1199 : decode cL_law 1199 = .ok (.iload_n 3, 1) := wn_at gdL_law_1190 7 rfl
theorem dL_law_1200 : decode cL_law 1200 = .ok (.iconst 1, 1) := wn_at gdL_law_1190 8 rfl
theorem dL_law_1201 : decode cL_law 1201 = .ok (.iadd, 1) := wn_at gdL_law_1190 9 rfl
theorem gdL_law_1202 : ∀ e ∈ ([(1202, .iaload, 1), (1203, .aload_n 0, 1), (1204, .iload_n 3, 1), (1205, .iconst 2, 1), (1206, .iadd, 1), (1207, .iaload, 1), (1208, .aload_n 0, 1), (1209, .iload_n 3, 1), (1210, .iconst 3, 1), (1211, .iadd, 1)] : List (Nat × Instr × Nat)), decode cL_law e.1 = .ok e.2 := wn_all _ 1202 (by decide +kernel)
theorem dL_law_1202 : decode cL_law 1202 = .ok (.iaload, 1) := wn_at gdL_law_1202 0 rfl
theorem dL_law_1203 : decode cL_law 1203 = .ok (.aload_n 0, 1) := wn_at gdL_law_1202 1 rfl
theorem dL_law_1204 : decode cL_law 1204 = .ok (.iload_n 3, 1) := wn_at gdL_law_1202 2 rfl
theorem dL_law_1205 : decode cL_law 1205 = .ok (.iconst 2, 1) := wn_at gdL_law_1202 3 rfl
theorem dL_law_1206 : decode cL_law 1206 = .ok (.iadd, 1) := wn_at gdL_law_1202 4 rfl
theorem dL_law_1207 : decode cL_law 1207 = .ok (.iaload, 1) := wn_at gdL_law_1202 5 rfl
theorem dL_law_1208 : decode cL_law 1208 = .ok (.aload_n 0, 1) := wn_at gdL_law_1202 6 rfl
theorem dL_law_1209 : decode cL_law 1209 = .ok (.iload_n 3, 1) := wn_at gdL_law_1202 7 rfl
theorem dL_law_1210 : decode cL_law 1210 = .ok (.iconst 3, 1) := wn_at gdL_law_1202 8 rfl
theorem dL_law_1211 : decode cL_law 1211 = .ok (.iadd, 1) := wn_at gdL_law_1202 9 rfl
theorem gdL_law_1212 : ∀ e ∈ ([(1212, .iaload, 1), (1213, .invokevirtual 121, 3), (1216, .pop, 1), (1217, .goto 402, 3), (1220, .aload_n 1, 1), (1221, .aload_n 0, 1), (1222, .iload_n 3, 1), (1223, .iconst 1, 1), (1224, .iadd, 1), (1225, .iaload, 1)] : List (Nat × Instr × Nat)), decode cL_law e.1 = .ok e.2 := wn_all _ 1212 (by decide +kernel)
theorem dL_law_1212 : decode cL_law 1212 = .ok (.iaload, 1) := wn_at gdL_law_1212 0 rfl
theorem dL_law_1213 : decode cL_law 1213 = .ok (.invokevirtual 121, 3) := wn_at gdL_law_1212 1 rfl
theorem dL_law_1216 : decode cL_law 1216 = .ok (.pop, 1) := wn_at gdL_law_1212 2 rfl
theorem dL_law_1217 : decode cL_law 1217 = .ok (.goto 402, 3) := wn_at gdL_law_1212 3 rfl
theorem dL_law_1220 : decode cL_law 1220 = .ok (.aload_n 1, 1) := wn_at gdL_law_1212 4 rfl
theorem dL_law_1221 : decode cL_law 1221 = .ok (.aload_n 0, 1) := wn_at gdL_law_1212 5 rfl
theorem dL_law_1222 : decode cL_law 1222 = .ok (.iload_n 3, 1) := wn_at gdL_law_1212 6 rfl
theorem dL_law_1223 : decode cL_law 1223 = .ok (.iconst 1, 1) := wn_at gdL_law_1212 7 rfl
theorem dL_law_1224 : decode cL_law 1224 = .ok (.iadd, 1) := wn_at gdL_law_1212 8 rfl
theorem dL_law_1225 : decode cL_law 1225 = .ok (.iaload, 1) := wn_at gdL_law_1212 9 rfl
theorem gdL_law_1226 : ∀ e ∈ ([(1226, .aload_n 0, 1), (1227, .iload_n 3, 1), (1228, .iconst 2, 1), (1229, .iadd, 1), (1230, .iaload, 1), (1231, .aload_n 0, 1), (1232, .iload_n 3, 1), (1233, .iconst 3, 1), (1234, .iadd, 1), (1235, .iaload, 1)] : List (Nat × Instr × Nat)), decode cL_law e.1 = .ok e.2 := wn_all _ 1226 (by decide +kernel)
theorem dL_law_1226 : decode cL_law 1226 = .ok (.aload_n 0, 1) := wn_at gdL_law_1226 0 rfl
theorem dL_law_1227 : decode cL_law 1227 = .ok (.iload_n 3, 1) := wn_at gdL_law_1226 1 rfl
theorem dL_law_1228 : decode cL_law 1228 = .ok (.iconst 2, 1) := wn_at gdL_law_1226 2 rfl
theorem dL_law_1229 : decode cL_law 1229 = .ok (.iadd, 1) := wn_at gdL_law_1226 3 rfl
theorem dL_law_1230 : decode cL_law 1230 = .ok (.iaload, 1) := wn_at gdL_law_1226 4 rfl
theorem dL_law_1231 : decode cL_law 1231 = .ok (.aload_n 0, 1) := wn_at gdL_law_1226 5 rfl
theorem dL_law_1232 : decode cL_law 1232 = .ok (.iload_n 3, 1) := wn_at gdL_law_1226 6 rfl
theorem dL_law_1233 : decode cL_law 1233 = .ok (.iconst 3, 1) := wn_at gdL_law_1226 7 rfl
theorem dL_law_1234 : decode cL_law 1234 = .ok (.iadd, 1) := wn_at gdL_law_1226 8 rfl
theorem dL_law_1235 : decode cL_law 1235 = .ok (.iaload, 1) := wn_at gdL_law_1226 9 rfl
theorem gdL_law_1236 : ∀ e ∈ ([(1236, .invokevirtual 122, 3), (1239, .pop, 1), (1240, .aload_n 2, 1), (1241, .aload_n 0, 1), (1242, .iload_n 3, 1), (1243, .iconst 1, 1), (1244, .iadd, 1), (1245, .iaload, 1), (1246, .aload_n 0, 1), (1247, .iload_n 3, 1)] : List (Nat × Instr × Nat)), decode cL_law e.1 = .ok e.2 := wn_all _ 1236 (by decide +kernel)
theorem dL_law_1236 : decode cL_law 1236 = .ok (.invokevirtual 122, 3) := wn_at gdL_law_1236 0 rfl
theorem dL_law_1239 : decode cL_law 1239 = .ok (.pop, 1) := wn_at gdL_law_1236 1 rfl
theorem dL_law_1240 : decode cL_law 1240 = .ok (.aload_n 2, 1) := wn_at gdL_law_1236 2 rfl
theorem dL_law_1241 : decode cL_law 1241 = .ok (.aload_n 0, 1) := wn_at gdL_law_1236 3 rfl
theorem dL_law_1242 : decode cL_law 1242 = .ok (.iload_n 3, 1) := wn_at gdL_law_1236 4 rfl
theorem dL_law_1243 : decode cL_law 1243 = .ok (.iconst 1, 1) := wn_at gdL_law_1236 5 rfl
theorem dL_law_1244 : decode cL_law 1244 = .ok (.iadd, 1) := wn_at gdL_law_1236 6 rfl
theorem dL_law_1245 : decode cL_law 1245 = .ok (.iaload, 1) := wn_at gdL_law_1236 7 rfl
theorem dL_law_1246 : decode cL_law 1246 = .ok (.aload_n 0, 1) := wn_at gdL_law_1236 8 rfl
theorem dL_law_1247 : decode cL_law 1247 = .ok (.iload_n 3, 1) := wn_at gdL_law_1236 9 rfl
theorem gdL_law_1248 : ∀ e ∈ ([(1248, .iconst 2, 1), (1249, .iadd, 1), (1250, .iaload, 1), (1251, .aload_n 0, 1), (1252, .iload_n 3, 1), (1253, .iconst 3, 1), (1254, .iadd, 1), (1255, .iaload, 1), (1256, .invokevirtual 125, 3), (1259, .pop, 1)] : List (Nat × Instr × Nat)), decode cL_law e.1 = .ok e.2 := wn_all _ 1248 (by decide +kernel)
theorem dL_law_1248 : decode cL_law 1248 = .ok (.iconst 2, 1) := wn_at gdL_law_1248 0 rfl
theorem dL_law_1249 : decode cL_law 1249 = .ok (.iadd, 1) := wn_at gdL_law_1248 1 rfl
theorem dL_law_1250 : decode cL_law 1250 = .ok (.iaload, 1) := wn_at gdL_law_1248 2 rfl
theorem dL_law_1251 : decode cL_law 1251 = .ok (.aload_n 0, 1) := wn_at gdL_law_1248 3 rfl
theorem dL_law_1252 : decode cL_law 1252 = .ok (.iload_n 3, 1) := wn_at gdL_law_1248 4 rfl
theorem dL_law_1253 : decode cL_law 1253 = .ok (.iconst 3, 1) := wn_at gdL_law_1248 5 rfl
theorem dL_law_1254 : decode cL_law 1254 = .ok (.iadd, 1) := wn_at gdL_law_1248 6 rfl
theorem dL_law_1255 : decode cL_law 1255 = .ok (.iaload, 1) := wn_at gdL_law_1248 7 rfl
theorem dL_law_1256 : decode cL_law 1256 = .ok (.invokevirtual 125, 3) := wn_at gdL_law_1248 8 rfl
theorem dL_law_1259 : decode cL_law 1259 = .ok (.pop, 1) := wn_at gdL_law_1248 9 rfl
theorem gdL_law_1260 : ∀ e ∈ ([(1260, .goto 359, 3), (1263, .aload_n 1, 1), (1264, .aload_n 0, 1), (1265, .iload_n 3, 1), (1266, .iconst 1, 1), (1267, .iadd, 1), (1268, .iaload, 1), (1269, .aload_n 0, 1), (1270, .iload_n 3, 1), (1271, .iconst 2, 1)] : List (Nat × Instr × Nat)), decode cL_law e.1 = .ok e.2 := wn_all _ 1260 (by decide +kernel)
theorem dL_law_1260 : decode cL_law 1260 = .ok (.goto 359, 3) := wn_at gdL_law_1260 0 rfl
theorem dL_law_1263 : decode cL_law 1263 = .ok (.aload_n 1, 1) := wn_at gdL_law_1260 1 rfl
theorem dL_law_1264 : decode cL_law 1264 = .ok (.aload_n 0, 1) := wn_at gdL_law_1260 2 rfl
theorem dL_law_1265 : decode cL_law 1265 = .ok (.iload_n 3, 1) := wn_at gdL_law_1260 3 rfl
theorem dL_law_1266 : decode cL_law 1266 = .ok (.iconst 1, 1) := wn_at gdL_law_1260 4 rfl
theorem dL_law_1267 : decode cL_law 1267 = .ok (.iadd, 1) := wn_at gdL_law_1260 5 rfl
theorem dL_law_1268 : decode cL_law 1268 = .ok (.iaload, 1) := wn_at gdL_law_1260 6 rfl
theorem dL_law_1269 : decode cL_law 1269 = .ok (.aload_n 0, 1) := wn_at gdL_law_1260 7 rfl
theorem dL_law_1270 : decode cL_law 1270 = .ok (.iload_n 3, 1) := wn_at gdL_law_1260 8 rfl
theorem dL_law_1271 : decode cL_law 1271 = .ok (.iconst 2, 1) := wn_at gdL_law_1260 9 rfl
theorem gdL_law_1272 : ∀ e ∈ ([(1272, .iadd, 1), (1273, .iaload, 1), (1274, .invokevirtual 126, 3), (1277, .pop, 1), (1278, .aload_n 2, 1), (1279, .aload_n 0, 1), (1280, .iload_n 3, 1), (1281, .iconst 1, 1), (1282, .iadd, 1), (1283, .iaload, 1)] : List (Nat × Instr × Nat)), decode cL_law e.1 = .ok e.2 := wn_all _ 1272 (by decide +kernel)
theorem dL_law_1272 : decode cL_law 1272 = .ok (.iadd, 1) := wn_at gdL_law_1272 0 rfl
theorem dL_law_1273 : decode cL_law 1273 = .ok (.iaload, 1) := wn_at gdL_law_1272 1 rfl
theorem dL_law_1274 : decode cL_law 1274 = .ok (.invokevirtual 126, 3) := wn_at gdL_law_1272 2 rfl
theorem dL_law_1277 : decode cL_law 1277 = .ok (.pop, 1) := wn_at gdL_law_1272 3 rfl
theorem dL_law_1278 : decode cL_law 1278 = .ok (.aload_n 2, 1) := wn_at gdL_law_1272 4 rfl
theorem dL_law_1279 : decode cL_law 1279 = .ok (.aload_n 0, 1) := wn_at gdL_law_1272 5 rfl
theorem dL_law_1280 : decode cL_law 1280 = .ok (.iload_n 3, 1) := wn_at gdL_law_1272 6 rfl
theorem dL_law_1281 : decode cL_law 1281 = .ok (.iconst 1, 1) := wn_at gdL_law_1272 7 rfl
theorem dL_law_1282 : decode cL_law 1282 = .ok (.iadd, 1) := wn_at gdL_law_1272 8 rfl
theorem dL_law_1283 : decode cL_law 1283 = .ok (.iaload, 1) := wn_at gdL_law_1272 9 rfl
theorem gdL_law_1284 : ∀ e ∈ ([(1284, .aload_n 0, 1), (1285, .iload_n 3, 1), (1286, .iconst 2, 1), (1287, .iadd, 1), (1288, .iaload, 1), (1289, .invokevirtual 129, 3), (1292, .pop, 1), (1293, .goto 326, 3), (1296, .aload_n 1, 1), (1297, .invokevirtual 130, 3)] : List (Nat × Instr × Nat)), decode cL_law e.1 = .ok e.2 := wn_all _ 1284 (by decide +kernel)
theorem dL_law_1284 : decode cL_law 1284 = .ok (.aload_n 0, 1) := wn_at gdL_law_1284 0 rfl
theorem dL_law_1285 : decode cL_law 1285 = .ok (.iload_n 3, 1) := wn_at gdL_law_1284 1 rfl
theorem dL_law_1286 : decode cL_law 1286 = .ok (.iconst 2, 1) := wn_at gdL_law_1284 2 rfl
theorem dL_law_1287 : decode cL_law 1287 = .ok (.iadd, 1) := wn_at gdL_law_1284 3 rfl
theorem dL_law_1288 : decode cL_law 1288 = .ok (.iaload, 1) := wn_at gdL_law_1284 4 rfl
theorem dL_law_1289 : decode cL_law 1289 = .ok (.invokevirtual 129, 3) := wn_at gdL_law_1284 5 rfl
theorem dL_law_1292 : decode cL_law 1292 = .ok (.pop, 1) := wn_at gdL_law_1284 6 rfl
theorem dL_law_1293 : decode cL_law 1293 = .ok (.goto 326, 3) := wn_at gdL_law_1284 7 rfl
theorem dL_law_1296 : decode cL_law 1296 = .ok (.aload_n 1, 1) := wn_at gdL_law_1284 8 rfl
theorem dL_law_1297 : decode cL_law 1297 = .ok (.invokevirtual 130, 3) := wn_at gdL_law_1284 9 rfl
theorem gdL_law_1300 : ∀ e ∈ ([(1300, .pop, 1), (1301, .aload_n 2, 1), (1302, .invokevirtual 133, 3), (1305, .pop, 1), (1306, .goto 313, 3), (1309, .aload_n 1, 1), (1310, .aload_n 0, 1), (1311, .iload_n 3, 1), (1312, .iconst 1, 1), (1313, .iadd, 1)] : List (Nat × Instr × Nat)), decode cL_law e.1 = .ok e.2 := wn_all _ 1300 (by decide +kernel)
theorem dL_law_1300 : decode cL_law 1300 = .ok (.pop, 1) := wn_at gdL_law_1300 0 rfl
theorem dL_law_1301 : decode cL_law 1301 = .ok (.aload_n 2, 1) := wn_at gdL_law_1300 1 rfl
theorem dL_law_1302 : decode cL_law 1302 = .ok (.invokevirtual 133, 3) := wn_at gdL_law_1300 2 rfl
theorem dL_law_1305 : decode cL_law 1305 = .ok (.pop, 1) := wn_at gdL_law_1300 3 rfl
theorem dL_law_1306 : decode cL_law 1306 = .ok (.goto 313, 3) := wn_at gdL_law_1300 4 rfl
theorem dL_law_1309 : decode cL_law 1309 = .ok (.aload_n 1, 1) := wn_at gdL_law_1300 5 rfl
theorem dL_law_1310 : decode cL_law 1310 = .ok (.aload_n 0, 1) := wn_at gdL_law_1300 6 rfl
theorem dL_law_1311 : decode cL_law 1311 = .ok (.iload_n 3, 1) := wn_at gdL_law_1300 7 rfl
theorem dL_law_1312 : decode cL_law 1312 = .ok (.iconst 1, 1) := wn_at gdL_law_1300 8 rfl
theorem dL_law_1313 : decode cL_law 1313 = .ok (.iadd, 1) := wn_at gdL_law_1300 9 rfl
theorem gdL_law_1314 : ∀ e ∈ ([(1314, .iaload, 1), (1315, .aload_n 0, 1), (1316, .iload_n 3, 1), (1317, .iconst 2, 1), (1318, .iadd, 1), (1319, .iaload, 1), (1320, .aload_n 0, 1), (1321, .iload_n 3, 1), (1322, .iconst 3, 1), (1323, .iadd, 1)] : List (Nat × Instr × Nat)), decode cL_law e.1 = .ok e.2 := wn_all _ 1314 (by decide +kernel)
theorem dL_law_1314 : decode cL_law 1314 = .ok (.iaload, 1) := wn_at gdL_law_1314 0 rfl
theorem dL_law_1315 : decode cL_law 1315 = .ok (.aload_n 0, 1) := wn_at gdL_law_1314 1 rfl
theorem dL_law_1316 : decode cL_law 1316 = .ok (.iload_n 3, 1) := wn_at gdL_law_1314 2 rfl
theorem dL_law_1317 : decode cL_law 1317 = .ok (.iconst 2, 1) := wn_at gdL_law_1314 3 rfl
theorem dL_law_1318 : decode cL_law 1318 = .ok (.iadd, 1) := wn_at gdL_law_1314 4 rfl
theorem dL_law_1319 : decode cL_law 1319 = .ok (.iaload, 1) := wn_at gdL_law_1314 5 rfl
theorem dL_law_1320 : decode cL_law 1320 = .ok (.aload_n 0, 1) := wn_at gdL_law_1314 6 rfl
theorem dL_law_1321 : decode cL_law 1321 = .ok (.iload_n 3, 1) := wn_at gdL_law_1314 7 rfl
theorem dL_law_1322 : decode cL_law 1322 = .ok (.iconst 3, 1) := wn_at gdL_law_1314 8 rfl
theorem dL_law_1323 : decode cL_law 1323 = .ok (.iadd, 1) := wn_at gdL_law_1314 9 rfl
theorem gdL_law_1324 : ∀ e ∈ ([(1324, .iaload, 1), (1325, .invokevirtual 134, 3), (1328, .pop2, 1), (1329, .aload_n 2, 1), (1330, .aload_n 0, 1), (1331, .iload_n 3, 1), (1332, .iconst 1, 1), (1333, .iadd, 1), (1334, .iaload, 1), (1335, .aload_n 0, 1)] : List (Nat × Instr × Nat)), decode cL_law e.1 = .ok e.2 := wn_all _ 1324 (by decide +kernel)
theorem dL_law_1324 : decode cL_law 1324 = .ok (.iaload, 1) := wn_at gdL_law_1324 0 rfl
theorem dL_law_1325 : decode cL_law 1325 = .ok (.invokevirtual 134, 3) := wn_at gdL_law_1324 1 rfl
theorem dL_law_1328 : decode cL_law 1328 = .ok (.pop2, 1) := wn_at gdL_law_1324 2 rfl
theorem dL_law_1329 : decode cL_law 1329 = .ok (.aload_n 2, 1) := wn_at gdL_law_1324 3 rfl
theorem dL_law_1330 : decode cL_law 1330 = .ok (.aload_n 0, 1) := wn_at gdL_law_1324 4 rfl
theorem dL_law_1331 : decode cL_law 1331 = .ok (.iload_n 3, 1) := wn_at gdL_law_1324 5 rfl
theorem dL_law_1332 : decode cL_law 1332 = .ok (.iconst 1, 1) := wn_at gdL_law_1324 6 rfl
theorem dL_law_1333 : decode cL_law 1333 = .ok (.iadd, 1) := wn_at gdL_law_1324 7 rfl
theorem dL_law_1334 : decode cL_law 1334 = .ok (.iaload, 1) := wn_at gdL_law_1324 8 rfl
theorem dL_law_1335 : decode cL_law 1335 = .ok (.aload_n 0, 1) := wn_at gdL_law_1324 9 rfl
theorem gdL_law_1336 : ∀ e ∈ ([(1336, .iload_n 3, 1), (1337, .iconst 2, 1), (1338, .iadd, 1), (1339, .iaload, 1), (1340, .aload_n 0, 1), (1341, .iload_n 3, 1), (1342, .iconst 3, 1), (1343, .iadd, 1), (1344, .iaload, 1), (1345, .invokevirtual 137, 3)] : List (Nat × Instr × Nat)), decode cL_law e.1 = .ok e.2 := wn_all _ 1336 (by decide +kernel)
theorem dL_law_1336 : decode cL_law 1336 = .ok (.iload_n 3, 1) := wn_at gdL_law_1336 0 rfl
theorem dL_law_1337 : decode cL_law 1337 = .ok (.iconst 2, 1) := wn_at gdL_law_1336 1 rfl
theorem dL_law_1338 : decode cL_law 1338 = .ok (.iadd, 1) := wn_at gdL_law_1336 2 rfl
theorem dL_law_1339 : decode cL_law 1339 = .ok (.iaload, 1) := wn_at gdL_law_1336 3 rfl
theorem dL_law_1340 : decode cL_law 1340 = .ok (.aload_n 0, 1) := wn_at gdL_law_1336 4 rfl
theorem dL_law_1341 : decode cL_law 1341 = .ok (.iload_n 3, 1) := wn_at gdL_law_1336 5 rfl
theorem dL_law_1342 : decode cL_law 1342 = .ok (.iconst 3, 1) := wn_at gdL_law_1336 6 rfl
theorem dL_law_1343 : decode cL_law 1343 = .ok (.iadd, 1) := wn_at gdL_law_1336 7 rfl
theorem dL_law_1344 : decode cL_law 1344 = .ok (.iaload, 1) := wn_at gdL_law_1336 8 rfl
theorem dL_law_1345 : decode cL_law 1345 = .ok (.invokevirtual 137, 3) := wn_at gdL_law_1336 9 rfl
theorem gdL_law_1348 : ∀ e ∈ ([(1348, .pop2, 1), (1349, .goto 270, 3), (1352, .aload_n 1, 1), (1353, .aload_n 0, 1), (1354, .iload_n 3, 1), (1355, .iconst 1, 1), (1356, .iadd, 1), (1357, .iaload, 1), (1358, .aload_n 0, 1), (1359, .iload_n 3, 1)] : List (Nat × Instr × Nat)), decode cL_law e.1 = .ok e.2 := wn_all _ 1348 (by decide +kernel)
theorem dL_law_1348 : decode cL_law 1348 = .ok (.pop2, 1) := wn_at gdL_law_1348 0 rfl
theorem dL_law_1349 : decode cL_law 1349 = .ok (.goto 270, 3) := wn_at gdL_law_1348 1 rfl
theorem dL_law_1352 : decode cL_law 1352 = .ok (.aload_n 1, 1) := wn_at gdL_law_1348 2 rfl
theorem dL_law_1353 : decode cL_law 1353 = .ok (.aload_n 0, 1) := wn_at gdL_law_1348 3 rfl
theorem dL_law_1354 : decode cL_law 1354 = .ok (.iload_n 3, 1) := wn_at gdL_law_1348 4 rfl
theorem dL_law_1355 : decode cL_law 1355 = .ok (.iconst 1, 1) := wn_at gdL_law_1348 5 rfl
theorem dL_law_1356 : decode cL_law 1356 = .ok (.iadd, 1) := wn_at gdL_law_1348 6 rfl
theorem dL_law_1357 : decode cL_law 1357 = .ok (.iaload, 1) := wn_at gdL_law_1348 7 rfl
theorem dL_law_1358 : decode cL_law 1358 = .ok (.aload_n 0, 1) := wn_at gdL_law_1348 8 rfl
theorem dL_law_1359 : decode cL_law 1359 = .ok (.iload_n 3, 1) := wn_at gdL_law_1348 9 rfl
theorem gdL_law_1360 : ∀ e ∈ ([(1360, .iconst 2, 1), (1361, .iadd, 1), (1362, .iaload, 1), (1363, .aload_n 0, 1), (1364, .iload_n 3, 1), (1365, .iconst 3, 1), (1366, .iadd, 1), (1367, .iaload, 1), (1368, .invokevirtual 138, 3), (1371, .pop, 1)] : List (Nat × Instr × Nat)), decode cL_law e.1 = .ok e.2 := wn_all _ 1360 (by decide +kernel)
theorem dL_law_1360 : decode cL_law 1360 = .ok (.iconst 2, 1) := wn_at gdL_law_1360 0 rfl
theorem dL_law_1361 : decode cL_law 1361 = .ok (.iadd, 1) := wn_at gdL_law_1360 1 rfl
theorem dL_law_1362 : decode cL_law 1362 = .ok (.iaload, 1) := wn_at gdL_law_1360 2 rfl
theorem dL_law_1363 : decode cL_law 1363 = .ok (.aload_n 0, 1) := wn_at gdL_law_1360 3 rfl
theorem dL_law_1364 : decode cL_law 1364 = .ok (.iload_n 3, 1) := wn_at gdL_law_1360 4 rfl
theorem dL_law_1365 : decode cL_law 1365 = .ok (.iconst 3, 1) := wn_at gdL_law_1360 5 rfl
theorem dL_law_1366 : decode cL_law 1366 = .ok (.iadd, 1) := wn_at gdL_law_1360 6 rfl
theorem dL_law_1367 : decode cL_law 1367 = .ok (.iaload, 1) := wn_at gdL_law_1360 7 rfl
theorem dL_law_1368 : decode cL_law 1368 = .ok (.invokevirtual 138, 3) := wn_at gdL_law_1360 8 rfl
theorem dL_law_1371 : decode cL_law 1371 = .ok (.pop, 1) := wn_at gdL_law_1360 9 rfl
theorem gdL_law_1372 : ∀ e ∈ ([(1372, .aload_n 2, 1), (1373, .aload_n 0, 1), (1374, .iload_n 3, 1), (1375, .iconst 1, 1), (1376, .iadd, 1), (1377, .iaload, 1), (1378, .aload_n 0, 1), (1379, .iload_n 3, 1), (1380, .iconst 2, 1), (1381, .iadd, 1)] : List (Nat × Instr × Nat)), decode cL_law e.1 = .ok e.2 := wn_all _ 1372 (by decide +kernel)
theorem dL_law_1372 : decode cL_law 1372 = .ok (.aload_n 2, 1) := wn_at gdL_law_1372 0 rfl
theorem dL_law_1373 : decode cL_law 1373 = .ok (.aload_n 0, 1) := wn_at gdL_law_1372 1 rfl
theorem dL_law_1374 : decode cL_law 1374 = .ok (.iload_n 3, 1) := wn_at gdL_law_1372 2 rfl
theorem dL_law_1375 : decode cL_law 1375 = .ok (.iconst 1, 1) := wn_at gdL_law_1372 3 rfl
theorem dL_law_1376 : decode cL_law 1376 = .ok (.iadd, 1) := wn_at gdL_law_1372 4 rfl
theorem dL_law_1377 : decode cL_law 1377 = .ok (.iaload, 1) := wn_at gdL_law_1372 5 rfl
theorem dL_law_1378 : decode cL_law 1378 = .ok (.aload_n 0, 1) := wn_at gdL_law_1372 6 rfl
theorem dL_law_1379 : decode cL_law 1379 = .ok (.iload_n 3, 1) := wn_at gdL_law_1372 7 rfl
theorem dL_law_1380 : decode cL_law 1380 = .ok (.iconst 2, 1) := wn_at gdL_law_1372 8 rfl
theorem dL_law_1381 : decode cL_law 1381 = .ok (.iadd, 1) := wn_at gdL_law_1372 9 rfl
theorem gdL_law_1382 : ∀ e ∈ ([(1382, .iaload, 1), (1383, .aload_n 0, 1), (1384, .iload_n 3, 1), (1385, .iconst 3, 1), (1386, .iadd, 1), (1387, .iaload, 1), (1388, .invokevirtual 141, 3), (1391, .pop, 1), (1392, .goto 227, 3), (1395, .aload_n 1, 1)] : List (Nat × Instr × Nat)), decode cL_law e.1 = .ok e.2 := wn_all _ 1382 (by decide +kernel)
theorem dL_law_1382 : decode cL_law 1382 = .ok (.iaload, 1) := wn_at gdL_law_1382 0 rfl
theorem dL_law_1383 : decode cL_law 1383 = .ok (.aload_n 0, 1) := wn_at gdL_law_1382 1 rfl
theorem dL_law_1384 : decode cL_law 1384 = .ok (.iload_n 3, 1) := wn_at gdL_law_1382 2 rfl
theorem dL_law_1385 : decode cL_law 1385 = .ok (.iconst 3, 1) := wn_at gdL_law_1382 3 rfl
theorem dL_law_1386 : decode cL_law 1386 = .ok (.iadd, 1) := wn_at gdL_law_1382 4 rfl
theorem dL_law_1387 : decode cL_law 1387 = .ok (.iaload, 1) := wn_at gdL_law_1382 5 rfl
theorem dL_law_1388 : decode cL_law 1388 = .ok (.invokevirtual 141, 3) := wn_at gdL_law_1382 6 rfl
theorem dL_law_1391 : decode cL_law 1391 = .ok (.pop, 1) := wn_at gdL_law_1382 7 rfl
theorem dL_law_1392 : decode cL_law 1392 = .ok (.goto 227, 3) := wn_at gdL_law_1382 8 rfl
theorem dL_law_1395 : decode cL_law 1395 = .ok (.aload_n 1, 1) := wn_at gdL_law_1382 9 rfl
theorem gdL_law_1396 : ∀ e ∈ ([(1396, .aload_n 0, 1), (1397, .iload_n 3, 1), (1398, .iconst 1, 1), (1399, .iadd, 1), (1400, .iaload, 1), (1401, .aload_n 0, 1), (1402, .iload_n 3, 1), (1403, .iconst 2, 1), (1404, .iadd, 1), (1405, .iaload, 1)] : List (Nat × Instr × Nat)), decode cL_law e.1 = .ok e.2 := wn_all _ 1396 (by decide +kernel)
theorem dL_law_1396 : decode cL_law 1396 = .ok (.aload_n 0, 1) := wn_at gdL_law_1396 0 rfl
theorem dL_law_1397 : decode cL_law 1397 = .ok (.iload_n 3, 1) := wn_at gdL_law_1396 1 rfl
theorem dL_law_1398 : decode cL_law 1398 = .ok (.iconst 1, 1) := wn_at gdL_law_1396 2 rfl
theorem dL_law_1399 : decode cL_law 1399 = .ok (.iadd, 1) := wn_at gdL_law_1396 3 rfl
theorem dL_law_1400 : decode cL_law 1400 = .ok (.iaload, 1) := wn_at gdL_law_1396 4 rfl
theorem dL_law_1401 : decode cL_law 1401 = .ok (.aload_n 0, 1) := wn_at gdL_law_1396 5 rfl
theorem dL_law_1402 : decode cL_law 1402 = .ok (.iload_n 3, 1) := wn_at gdL_law_1396 6 rfl
theorem dL_law_1403 : decode cL_law 1403 = .ok (.iconst 2, 1) := wn_at gdL_law_1396 7 rfl
theorem dL_law_1404 : decode cL_law 1404 = .ok (.iadd, 1) := wn_at gdL_law_1396 8 rfl
theorem dL_law_1405 : decode cL_law 1405 = .ok (.iaload, 1) := wn_at gdL_law_1396 9 rfl
theorem gdL_law_1406 : ∀ e ∈ ([(1406, .invokevirtual 142, 3), (1409, .pop, 1), (1410, .aload_n 2, 1), (1411, .aload_n 0, 1), (1412, .iload_n 3, 1), (1413, .iconst 1, 1), (1414, .iadd, 1), (1415, .iaload, 1), (1416, .aload_n 0, 1), (1417, .iload_n 3, 1)] : List (Nat × Instr × Nat)), decode cL_law e.1 = .ok e.2 := wn_all _ 1406 (by decide +kernel)
theorem dL_law_1406 : decode cL_law 1406 = .ok (.invokevirtual 142, 3) := wn_at gdL_law_1406 0 rfl
theorem dL_law_1409 : decode cL_law 1409 = .ok (.pop, 1) := wn_at gdL_law_1406 1 rfl
theorem dL_law_1410 : decode cL_law 1410 = .ok (.aload_n 2, 1) := wn_at gdL_law_1406 2 rfl
theorem dL_law_1411 : decode cL_law 1411 = .ok (.aload_n 0, 1) := wn_at gdL_law_1406 3 rfl
theorem dL_law_1412 : decode cL_law 1412 = .ok (.iload_n 3, 1) := wn_at gdL_law_1406 4 rfl
theorem dL_law_1413 : decode cL_law 1413 = .ok (.iconst 1, 1) := wn_at gdL_law_1406 5 rfl
theorem dL_law_1414 : decode cL_law 1414 = .ok (.iadd, 1) := wn_at gdL_law_1406 6 rfl
theorem dL_law_1415 : decode cL_law 1415 = .ok (.iaload, 1) := wn_at gdL_law_1406 7 rfl
theorem dL_law_1416 : decode cL_law 1416 = .ok (.aload_n 0, 1) := wn_at gdL_law_1406 8 rfl
theorem dL_law_1417 : decode cL_law 1417 = .ok (.iload_n 3, 1) := wn_at gdL_law_1406 9 rfl
theorem gdL_law_1418 : ∀ e ∈ ([(1418, .iconst 2, 1), (1419, .iadd, 1), (1420, .iaload, 1), (1421, .invokevirtual 145, 3), (1424, .pop, 1), (1425, .goto 194, 3), (1428, .aload_n 1, 1), (1429, .invokevirtual 146, 3), (1432, .pop, 1), (1433, .aload_n 2, 1)] : List (Nat × Instr × Nat)), decode cL_law e.1 = .ok e.2 := wn_all _ 1418 (by decide +kernel)
theorem dL_law_1418 : decode cL_law 1418 = .ok (.iconst 2, 1) := wn_at gdL_law_1418 0 rfl
theorem dL_law_1419 : decode cL_law 1419 = .ok (.iadd, 1) := wn_at gdL_law_1418 1 rfl
theorem dL_law_1420 : decode cL_law 1420 = .ok (.iaload, 1) := wn_at gdL_law_1418 2 rfl
theorem dL_law_1421 : decode cL_law 1421 = .ok (.invokevirtual 145, 3) := wn_at gdL_law_1418 3 rfl
theorem dL_law_1424 : decode cL_law 1424 = .ok (.pop, 1) := wn_at gdL_law_1418 4 rfl
theorem dL_law_1425 : decode cL_law 1425 = .ok (.goto 194, 3) := wn_at gdL_law_1418 5 rfl
theorem dL_law_1428 : decode cL_law 1428 = .ok (.aload_n 1, 1) := wn_at gdL_law_1418 6 rfl
theorem dL_law_1429 : decode cL_law 1429 = .ok (.invokevirtual 146, 3) := wn_at gdL_law_1418 7 rfl
theorem dL_law_1432 : decode cL_law 1432 = .ok (.pop, 1) := wn_at gdL_law_1418 8 rfl
theorem dL_law_1433 : decode cL_law 1433 = .ok (.aload_n 2, 1) := wn_at gdL_law_1418 9 rfl
theorem gdL_law_1434 : ∀ e ∈ ([(1434, .invokevirtual 149, 3), (1437, .pop, 1), (1438, .goto 181, 3), (1441, .aload_n 1, 1), (1442, .aload_n 0, 1), (1443, .iload_n 3, 1), (1444, .iconst 1, 1), (1445, .iadd, 1), (1446, .iaload, 1), (1447, .invokevirtual 150, 3)] : List (Nat × Instr × Nat)), decode cL_law e.1 = .ok e.2 := wn_all _ 1434 (by decide +kernel)
theorem dL_law_1434 : decode cL_law 1434 = .ok (.invokevirtual 149, 3) := wn_at gdL_law_1434 0 rfl
theorem dL_law_1437 : decode cL_law 1437 = .ok (.pop, 1) := wn_at gdL_law_1434 1 rfl
theorem dL_law_1438 : decode cL_law 1438 = .ok (.goto 181, 3) := wn_at gdL_law_1434 2 rfl
theorem dL_law_1441 : decode cL_law 1441 = .ok (.aload_n 1, 1) := wn_at gdL_law_1434 3 rfl
theorem dL_law_1442 : decode cL_law 1442 = .ok (.aload_n 0, 1) := wn_at gdL_law_1434 4 rfl
theorem dL_law_1443 : decode cL_law 1443 = .ok (.iload_n 3, 1) := wn_at gdL_law_1434 5 rfl
theorem dL_law_1444 : decode cL_law 1444 = .ok (.iconst 1, 1) := wn_at gdL_law_1434 6 rfl
theorem dL_law_1445 : decode cL_law 1445 = .ok (.iadd, 1) := wn_at gdL_law_1434 7 rfl
theorem dL_law_1446 : decode cL_law 1446 = .ok (.iaload, 1) := wn_at gdL_law_1434 8 rfl
theorem dL_law_1447 : decode cL_law 1447 = .ok (.invokevirtual 150, 3) := wn_at gdL_law_1434 9 rfl
theorem gdL_law_1450 : ∀ e ∈ ([(1450, .pop, 1), (1451, .aload_n 2, 1), (1452, .aload_n 0, 1), (1453, .iload_n 3, 1), (1454, .iconst 1, 1), (1455, .iadd, 1), (1456, .iaload, 1), (1457, .invokevirtual 153, 3), (1460, .pop, 1), (1461, .goto 158, 3)] : List (Nat × Instr × Nat)), decode cL_law e.1 = .ok e.2 := wn_all _ 1450 (by decide +kernel)
theorem dL_law_1450 : decode cL_law 1450 = .ok (.pop, 1) := wn_at gdL_law_1450 0 rfl
theorem dL_law_1451 : decode cL_law 1451 = .ok (.aload_n 2, 1) := wn_at gdL_law_1450 1 rfl
theorem dL_law_1452 : decode cL_law 1452 = .ok (.aload_n 0, 1) := wn_at gdL_law_1450 2 rfl
theorem dL_law_1453 : decode cL_law 1453 = .ok (.iload_n 3, 1) := wn_at gdL_law_1450 3 rfl
theorem dL_law_1454 : decode cL_law 1454 = .ok (.iconst 1, 1) := wn_at gdL_law_1450 4 rfl
theorem dL_law_1455 : decode cL_law 1455 = .ok (.iadd, 1) := wn_at gdL_law_1450 5 rfl
theorem dL_law_1456 : decode cL_law 1456 = .ok (.iaload, 1) := wn_at gdL_law_1450 6 rfl
theorem dL_law_1457 : decode cL_law 1457 = .ok (.invokevirtual 153, 3) := wn_at gdL_law_1450 7 rfl
theorem dL_law_1460 : decode cL_law 1460 = .ok (.pop, 1) := wn_at gdL_law_1450 8 rfl
theorem dL_law_1461 : decode cL_law 1461 = .ok (.goto 158, 3) := wn_at gdL_law_1450 9 rfl
theorem gdL_law_1464 : ∀ e ∈ ([(1464, .aload_n 1, 1), (1465, .aload_n 0, 1), (1466, .iload_n 3, 1), (1467, .iconst 1, 1), (1468, .iadd, 1), (1469, .iaload, 1), (1470, .invokevirtual 154, 3), (1473, .pop, 1), (1474, .aload_n 2, 1), (1475, .aload_n 0, 1)] : List (Nat × Instr × Nat)), decode cL_law e.1 = .ok e.2 := wn_all _ 1464 (by decide +kernel)
theorem dL_law_1464 : decode cL_law 1464 = .ok (.aload_n 1, 1) := wn_at gdL_law_1464 0 rfl
theorem dL_law_1465 : decode cL_law 1465 = .ok (.aload_n 0, 1) := wn_at gdL_law_1464 1 rfl
theorem dL_law_1466 : decode cL_law 1466 = .ok (.iload_n 3, 1) := wn_at gdL_law_1464 2 rfl
theorem dL_law_1467 : decode cL_law 1467 = .ok (.iconst 1, 1) := wn_at gdL_law_1464 3 rfl
theorem dL_law_1468 : decode cL_law 1468 = .ok (.iadd, 1) := wn_at gdL_law_1464 4 rfl
theorem dL_law_1469 : decode cL_law 1469 = .ok (.iaload, 1) := wn_at gdL_law_1464 5 rfl
theorem dL_law_1470 : decode cL_law 1470 = .ok (.invokevirtual 154, 3) := wn_at gdL_law_1464 6 rfl
theorem dL_law_1473 : decode cL_law 1473 = .ok (.pop, 1) := wn_at gdL_law_1464 7 rfl
theorem dL_law_1474 : decode cL_law 1474 = .ok (.aload_n 2, 1) := wn_at gdL_law_1464 8 rfl
theorem dL_law_1475 : decode cL_law 1475 = .ok (.aload_n 0, 1) := wn_at gdL_law_1464 9 rfl
theorem gdL_law_1476 : ∀ e ∈ ([(1476, .iload_n 3, 1), (1477, .iconst 1, 1), (1478, .iadd, 1), (1479, .iaload, 1), (1480, .invokevirtual 157, 3), (1483, .pop, 1), (1484, .goto 135, 3), (1487, .aload_n 1, 1), (1488, .aload_n 0, 1), (1489, .iload_n 3, 1)] : List (Nat × Instr × Nat)), decode cL_law e.1 = .ok e.2 := wn_all _ 1476 (by decide +kernel)
theorem dL_law_1476 : decode cL_law 1476 = .ok (.iload_n 3, 1) := wn_at gdL_law_1476 0 rfl
theorem dL_law_1477 : decode cL_law 1477 = .ok (.iconst 1, 1) := wn_at gdL_law_1476 1 rfl
theorem dL_law_1478 : decode cL_law 1478 = .ok (.iadd, 1) := wn_at gdL_law_1476 2 rfl
theorem dL_law_1479 : decode cL_law 1479 = .ok (.iaload, 1) := wn_at gdL_law_1476 3 rfl
theorem dL_law_1480 : decode cL_law 1480 = .ok (.invokevirtual 157, 3) := wn_at gdL_law_1476 4 rfl
theorem dL_law_1483 : decode cL_law 1483 = .ok (.pop, 1) := wn_at gdL_law_1476 5 rfl
theorem dL_law_1484 : decode cL_law 1484 = .ok (.goto 135, 3) := wn_at gdL_law_1476 6 rfl
theorem dL_law_1487 : decode cL_law 1487 = .ok (.aload_n 1, 1) := wn_at gdL_law_1476 7 rfl
theorem dL_law_1488 : decode cL_law 1488 = .ok (.aload_n 0, 1) := wn_at gdL_law_1476 8 rfl
theorem dL_law_1489 : decode cL_law 1489 = .ok (.iload_n 3, 1) := wn_at gdL_law_1476 9 rfl
theorem gdL_law_1490 : ∀ e ∈ ([(1490, .iconst 1, 1), (1491, .iadd, 1), (1492, .iaload, 1), (1493, .aload_n 0, 1), (1494, .iload_n 3, 1), (1495, .iconst 2, 1), (1496, .iadd, 1), (1497, .iaload, 1), (1498, .aload_n 0, 1), (1499, .iload_n 3, 1)] : List (Nat × Instr × Nat)), decode cL_law e.1 = .ok e.2 := wn_all _ 1490 (by decide +kernel)
theorem dL_law_1490 : decode cL_law 1490 = .ok (.iconst 1, 1) := wn_at gdL_law_1490 0 rfl
theorem dL_law_1491 : decode cL_law 1491 = .ok (.iadd, 1) := wn_at gdL_law_1490 1 rfl
theorem dL_law_1492 : decode cL_law 1492 = .ok (.iaload, 1) := wn_at gdL_law_1490 2 rfl
theorem dL_law_1493 : decode cL_law 1493 = .ok (.aload_n 0, 1) := wn_at gdL_law_1490 3 rfl
theorem dL_law_1494 : decode cL_law 1494 = .ok (.iload_n 3, 1) := wn_at gdL_law_1490 4 rfl
theorem dL_law_1495 : decode cL_law 1495 = .ok (.iconst 2, 1) := wn_at gdL_law_1490 5 rfl
theorem dL_law_1496 : decode cL_law 1496 = .ok (.iadd, 1) := wn_at gdL_law_1490 6 rfl
theorem dL_law_1497 : decode cL_law 1497 = .ok (.iaload, 1) := wn_at gdL_law_1490 7 rfl
theorem dL_law_1498 : decode cL_law 1498 = .ok (.aload_n 0, 1) := wn_at gdL_law_1490 8 rfl
theorem dL_law_1499 : decode cL_law 1499 = .ok (.iload_n 3, 1) := wn_at gdL_law_1490 9 rfl
theorem gdL_law_1500 : ∀ e ∈ ([(1500, .iconst 3, 1), (1501, .iadd, 1), (1502, .iaload, 1), (1503, .aload_n 0, 1), (1504, .iload_n 3, 1), (1505, .iconst 4, 1), (1506, .iadd, 1), (1507, .iaload, 1), (1508, .aload_n 0, 1), (1509, .iload_n 3, 1)] : List (Nat × Instr × Nat)), decode cL_law e.1 = .ok e.2 := wn_all _ 1500 (by decide +kernel)
theorem dL_law_1500 : decode cL_law 1500 = .ok (.iconst 3, 1) := wn_at gdL_law_1500 0 rfl
theorem dL_law_1501 : decode cL_law 1501 = .ok (.iadd, 1) := wn_at gdL_law_1500 1 rfl
theorem dL_law_1502 : decode cL_law 1502 = .ok (.iaload, 1) := wn_at gdL_law_1500 2 rfl
theorem dL_law_1503 : decode cL_law 1503 = .ok (.aload_n 0, 1) := wn_at gdL_law_1500 3 rfl
theorem dL_law_1504 : decode cL_law 1504 = .ok (.iload_n 3, 1) := wn_at gdL_law_1500 4 rfl
theorem dL_law_1505 : decode cL_law 1505 = .ok (.iconst 4, 1) := wn_at gdL_law_1500 5 rfl
theorem dL_law_1506 : decode cL_law 1506 = .ok (.iadd, 1) := wn_at gdL_law_1500 6 rfl
theorem dL_law_1507 : decode cL_law 1507 = .ok (.iaload, 1) := wn_at gdL_law_1500 7 rfl
theorem dL_law_1508 : decode cL_law 1508 = .ok (.aload_n 0, 1) := wn_at gdL_law_1500 8 rfl
theorem dL_law_1509 : decode cL_law 1509 = .ok (.iload_n 3, 1) := wn_at gdL_law_1500 9 rfl
theorem gdL_law_1510 : ∀ e ∈ ([(1510, .iconst 5, 1), (1511, .iadd, 1), (1512, .iaload, 1), (1513, .invokevirtual 158, 3), (1516, .pop, 1), (1517, .aload_n 2, 1), (1518, .aload_n 0, 1), (1519, .iload_n 3, 1), (1520, .iconst 1, 1), (1521, .iadd, 1)] : List (Nat × Instr × Nat)), decode cL_law e.1 = .ok e.2 := wn_all _ 1510 (by decide +kernel)
theorem dL_law_1510 : decode cL_law 1510 = .ok (.iconst 5, 1) := wn_at gdL_law_1510 0 rfl
theorem dL_law_1511 : decode cL_law 1511 = .ok (.iadd, 1) := wn_at gdL_law_1510 1 rfl
theorem dL_law_1512 : decode cL_law 1512 = .ok (.iaload, 1) := wn_at gdL_law_1510 2 rfl
theorem dL_law_1513 : decode cL_law 1513 = .ok (.invokevirtual 158, 3) := wn_at gdL_law_1510 3 rfl
theorem dL_law_1516 : decode cL_law 1516 = .ok (.pop, 1) := wn_at gdL_law_1510 4 rfl
theorem dL_law_1517 : decode cL_law 1517 = .ok (.aload_n 2, 1) := wn_at gdL_law_1510 5 rfl
theorem dL_law_1518 : decode cL_law 1518 = .ok (.aload_n 0, 1) := wn_at gdL_law_1510 6 rfl
theorem dL_law_1519 : decode cL_law 1519 = .ok (.iload_n 3, 1) := wn_at gdL_law_1510 7 rfl
theorem dL_law_1520 : decode cL_law 1520 = .ok (.iconst 1, 1) := wn_at gdL_law_1510 8 rfl
theorem dL_law_1521 : decode cL_law 1521 = .ok (.iadd, 1) := wn_at gdL_law_1510 9 rfl
theorem gdL_law_1522 : ∀ e ∈ ([(1522, .iaload, 1), (1523, .aload_n 0, 1), (1524, .iload_n 3, 1), (1525, .iconst 2, 1), (1526, .iadd, 1), (1527, .iaload, 1), (1528, .aload_n 0, 1), (1529, .iload_n 3, 1), (1530, .iconst 3, 1), (1531, .iadd, 1)] : List (Nat × Instr × Nat)), decode cL_law e.1 = .ok e.2 := wn_all _ 1522 (by decide +kernel)
theorem dL_law_1522 : decode cL_law 1522 = .ok (.iaload, 1) := wn_at gdL_law_1522 0 rfl
theorem dL_law_1523 : decode cL_law 1523 = .ok (.aload_n 0, 1) := wn_at gdL_law_1522 1 rfl
theorem dL_law_1524 : decode cL_law 1524 = .ok (.iload_n 3, 1) := wn_at gdL_law_1522 2 rfl
theorem dL_law_1525 : decode cL_law 1525 = .ok (.iconst 2, 1) := wn_at gdL_law_1522 3 rfl
theorem dL_law_1526 : decode cL_law 1526 = .ok (.iadd, 1) := wn_at gdL_law_1522 4 rfl
theorem dL_law_1527 : decode cL_law 1527 = .ok (.iaload, 1) := wn_at gdL_law_1522 5 rfl
theorem dL_law_1528 : decode cL_law 1528 = .ok (.aload_n 0, 1) := wn_at gdL_law_1522 6 rfl
theorem dL_law_1529 : decode cL_law 1529 = .ok (.iload_n 3, 1) := wn_at gdL_law_1522 7 rfl
theorem dL_law_1530 : decode cL_law 1530 = .ok (.iconst 3, 1) := wn_at gdL_law_1522 8 rfl
theorem dL_law_1531 : decode cL_law 1531 = .ok (.iadd, 1) := wn_at gdL_law_1522 9 rfl
theorem gdL_law_1532 : ∀ e ∈ ([(1532, .iaload, 1), (1533, .aload_n 0, 1), (1534, .iload_n 3, 1), (1535, .iconst 4, 1), (1536, .iadd, 1), (1537, .iaload, 1), (1538, .aload_n 0, 1), (1539, .iload_n 3, 1), (1540, .iconst 5, 1), (1541, .iadd, 1)] : List (Nat × Instr × Nat)), decode cL_law e.1 = .ok e.2 := wn_all _ 1532 (by decide +kernel)
theorem dL_law_1532 : decode cL_law 1532 = .ok (.iaload, 1) := wn_at gdL_law_1532 0 rfl
theorem dL_law_1533 : decode cL_law 1533 = .ok (.aload_n 0, 1) := wn_at gdL_law_1532 1 rfl
theorem dL_law_1534 : decode cL_law 1534 = .ok (.iload_n 3, 1) := wn_at gdL_law_1532 2 rfl
theorem dL_law_1535 : decode cL_law 1535 = .ok (.iconst 4, 1) := wn_at gdL_law_1532 3 rfl
theorem dL_law_1536 : decode cL_law 1536 = .ok (.iadd, 1) := wn_at gdL_law_1532 4 rfl
theorem dL_law_1537 : decode cL_law 1537 = .ok (.iaload, 1) := wn_at gdL_law_1532 5 rfl
theorem dL_law_1538 : decode cL_law 1538 = .ok (.aload_n 0, 1) := wn_at gdL_law_1532 6 rfl
theorem dL_law_1539 : decode cL_law 1539 = .ok (.iload_n 3, 1) := wn_at gdL_law_1532 7 rfl
theorem dL_law_1540 : decode cL_law 1540 = .ok (.iconst 5, 1) := wn_at gdL_law_1532 8 rfl
theorem dL_law_1541 : decode cL_law 1541 = .ok (.iadd, 1) := wn_at gdL_law_1532 9 rfl
theorem gdL_law_1542 : ∀ e ∈ ([(1542, .iaload, 1), (1543, .invokevirtual 161, 3), (1546, .pop, 1), (1547, .goto 72, 3), (1550, .aload_n 1, 1), (1551, .aload_n 0, 1), (1552, .iload_n 3, 1), (1553, .iconst 1, 1), (1554, .iadd, 1), (1555, .iaload, 1)] : List (Nat × Instr × Nat)), decode cL_law e.1 = .ok e.2 := wn_all _ 1542 (by decide +kernel)
theorem dL_law_1542 : decode cL_law 1542 = .ok (.iaload, 1) := wn_at gdL_law_1542 0 rfl
theorem dL_law_1543 : decode cL_law 1543 = .ok (.invokevirtual 161, 3) := wn_at gdL_law_1542 1 rfl
theorem dL_law_1546 : decode cL_law 1546 = .ok (.pop, 1) := wn_at gdL_law_1542 2 rfl
theorem dL_law_1547 : decode cL_law 1547 = .ok (.goto 72, 3) := wn_at gdL_law_1542 3 rfl
theorem dL_law_1550 : decode cL_law 1550 = .ok (.aload_n 1, 1) := wn_at gdL_law_1542 4 rfl
theorem dL_law_1551 : decode cL_law 1551 = .ok (.aload_n 0, 1) := wn_at gdL_law_1542 5 rfl
theorem dL_law_1552 : decode cL_law 1552 = .ok (.iload_n 3, 1) := wn_at gdL_law_1542 6 rfl
theorem dL_law_1553 : decode cL_law 1553 = .ok (.iconst 1, 1) := wn_at gdL_law_1542 7 rfl
theorem dL_law_1554 : decode cL_law 1554 = .ok (.iadd, 1) := wn_at gdL_law_1542 8 rfl
theorem dL_law_1555 : decode cL_law 1555 = .ok (.iaload, 1) := wn_at gdL_law_1542 9 rfl
theorem gdL_law_1556 : ∀ e ∈ ([(1556, .invokevirtual 162, 3), (1559, .pop, 1), (1560, .aload_n 2, 1), (1561, .aload_n 0, 1), (1562, .iload_n 3, 1), (1563, .iconst 1, 1), (1564, .iadd, 1), (1565, .iaload, 1), (1566, .invokevirtual 165, 3), (1569, .pop, 1)] : List (Nat × Instr × Nat)), decode cL_law e.1 = .ok e.2 := wn_all _ 1556 (by decide +kernel)
theorem dL_law_1556 : decode cL_law 1556 = .ok (.invokevirtual 162, 3) := wn_at gdL_law_1556 0 rfl
theorem dL_law_1559 : decode cL_law 1559 = .ok (.pop, 1) := wn_at gdL_law_1556 1 rfl
theorem dL_law_1560 : decode cL_law 1560 = .ok (.aload_n 2, 1) := wn_at gdL_law_1556 2 rfl
theorem dL_law_1561 : decode cL_law 1561 = .ok (.aload_n 0, 1) := wn_at gdL_law_1556 3 rfl
theorem dL_law_1562 : decode cL_law 1562 = .ok (.iload_n 3, 1) := wn_at gdL_law_1556 4 rfl
theorem dL_law_1563 : decode cL_law 1563 = .ok (.iconst 1, 1) := wn_at gdL_law_1556 5 rfl
theorem dL_law_1564 : decode cL_law 1564 = .ok (.iadd, 1) := wn_at gdL_law_1556 6 rfl
theorem dL_law_1565 : decode cL_law 1565 = .ok (.iaload, 1) := wn_at gdL_law_1556 7 rfl
theorem dL_law_1566 : decode cL_law 1566 = .ok (.invokevirtual 165, 3) := wn_at gdL_law_1556 8 rfl
theorem dL_law_1569 : decode cL_law 1569 = .ok (.pop, 1) := wn_at gdL_law_1556 9 rfl
theorem gdL_law_1570 : ∀ e ∈ ([(1570, .goto 49, 3), (1573, .aload_n 1, 1), (1574, .aload_n 0, 1), (1575, .iload_n 3, 1), (1576, .iconst 1, 1), (1577, .iadd, 1), (1578, .iaload, 1), (1579, .invokevirtual 166, 3), (1582, .pop, 1), (1583, .aload_n 2, 1)] : List (Nat × Instr × Nat)), decode cL_law e.1 = .ok e.2 := wn_all _ 1570 (by decide +kernel)
theorem dL_law_1570 : decode cL_law 1570 = .ok (.goto 49, 3) := wn_at gdL_law_1570 0 rfl
theorem dL_law_1573 : decode cL_law 1573 = .ok (.aload_n 1, 1) := wn_at gdL_law_1570 1 rfl
theorem dL_law_1574 : decode cL_law 1574 = .ok (.aload_n 0, 1) := wn_at gdL_law_1570 2 rfl
theorem dL_law_1575 : decode cL_law 1575 = .ok (.iload_n 3, 1) := wn_at gdL_law_1570 3 rfl
theorem dL_law_1576 : decode cL_law 1576 = .ok (.iconst 1, 1) := wn_at gdL_law_1570 4 rfl
theorem dL_law_1577 : decode cL_law 1577 = .ok (.iadd, 1) := wn_at gdL_law_1570 5 rfl
theorem dL_law_1578 : decode cL_law 1578 = .ok (.iaload, 1) := wn_at gdL_law_1570 6 rfl
theorem dL_law_1579 : decode cL_law 1579 = .ok (.invokevirtual 166, 3) := wn_at gdL_law_1570 7 rfl
theorem dL_law_1582 : decode cL_law 1582 = .ok (.pop, 1) := wn_at gdL_law_1570 8 rfl
theorem dL_law_1583 : decode cL_law 1583 = .ok (.aload_n 2, 1) := wn_at gdL_law_1570 9 rfl
theorem gdL_law_1584 : ∀ e ∈ ([(1584, .aload_n 0, 1), (1585, .iload_n 3, 1), (1586, .iconst 1, 1), (1587, .iadd, 1), (1588, .iaload, 1), (1589, .invokevirtual 169, 3), (1592, .pop, 1), (1593, .goto 26, 3), (1596, .aload_n 1, 1), (1597, .aload_n 0, 1)] : List (Nat × Instr × Nat)), decode cL_law e.1 = .ok e.2 := wn_all _ 1584 (by decide +kernel)
theorem dL_law_1584 : decode cL_law 1584 = .ok (.aload_n 0, 1) := wn_at gdL_law_1584 0 rfl
theorem dL_law_1585 : decode cL_law 1585 = .ok (.iload_n 3, 1) := wn_at gdL_law_1584 1 rfl
theorem dL_law_1586 : decode cL_law 1586 = .ok (.iconst 1, 1) := wn_at gdL_law_1584 2 rfl
theorem dL_law_1587 : decode cL_law 1587 = .ok (.iadd, 1) := wn_at gdL_law_1584 3 rfl
theorem dL_law_1588 : decode cL_law 1588 = .ok (.iaload, 1) := wn_at gdL_law_1584 4 rfl
theorem dL_law_1589 : decode cL_law 1589 = .ok (.invokevirtual 169, 3) := wn_at gdL_law_1584 5 rfl
theorem dL_law_1592 : decode cL_law 1592 = .ok (.pop, 1) := wn_at gdL_law_1584 6 rfl
theorem dL_law_1593 : decode cL_law 1593 = .ok (.goto 26, 3) := wn_at gdL_law_1584 7 rfl
theorem dL_law_1596 : decode cL_law 1596 = .ok (.aload_n 1, 1) := wn_at gdL_law_1584 8 rfl
theorem dL_law_1597 : decode cL_law 1597 = .ok (.aload_n 0, 1) := wn_at gdL_law_1584 9 rfl
theorem gdL_law_1598 : ∀ e ∈ ([(1598, .iload_n 3, 1), (1599, .iconst 1, 1), (1600, .iadd, 1), (1601, .iaload, 1), (1602, .invokevirtual 170, 3), (1605, .aload_n 2, 1), (1606, .aload_n 0, 1), (1607, .iload_n 3, 1), (1608, .iconst 1, 1), (1609, .iadd, 1)] : List (Nat × Instr × Nat)), decode cL_law e.1 = .ok e.2 := wn_all _ 1598 (by decide +kernel)
theorem dL_law_1598 : decode cL_law 1598 = .ok (.iload_n 3, 1) := wn_at gdL_law_1598 0 rfl
theorem dL_law_1599 : decode cL_law 1599 = .ok (.iconst 1, 1) := wn_at gdL_law_1598 1 rfl
theorem dL_law_1600 : decode cL_law 1600 = .ok (.iadd, 1) := wn_at gdL_law_1598 2 rfl
theorem dL_law_1601 : decode cL_law 1601 = .ok (.iaload, 1) := wn_at gdL_law_1598 3 rfl
theorem dL_law_1602 : decode cL_law 1602 = .ok (.invokevirtual 170, 3) := wn_at gdL_law_1598 4 rfl
theorem dL_law_1605 : decode cL_law 1605 = .ok (.aload_n 2, 1) := wn_at gdL_law_1598 5 rfl
theorem dL_law_1606 : decode cL_law 1606 = .ok (.aload_n 0, 1) := wn_at gdL_law_1598 6 rfl
theorem dL_law_1607 : decode cL_law 1607 = .ok (.iload_n 3, 1) := wn_at gdL_law_1598 7 rfl
theorem dL_law_1608 : decode cL_law 1608 = .ok (.iconst 1, 1) := wn_at gdL_law_1598 8 rfl
theorem dL_law_1609 : decode cL_law 1609 = .ok (.iadd, 1) := wn_at gdL_law_1598 9 rfl
theorem gdL_law_1610 : ∀ e ∈ ([(1610, .iaload, 1), (1611, .invokevirtual 173, 3), (1614, .if_icmp .eq 5, 3), (1617, .iconst 0, 1), (1618, .ireturn, 1), (1619, .iinc 3 6, 3), (1622, .goto (-1604), 3), (1625, .iconst 1, 1), (1626, .ireturn, 1)] : List (Nat × Instr × Nat)), decode cL_law e.1 = .ok e.2 := wn_all _ 1610 (by decide +kernel)
theorem dL_law_1610 : decode cL_law 1610 = .ok (.iaload, 1) := wn_at gdL_law_1610 0 rfl
theorem dL_law_1611 : decode cL_law 1611 = .ok (.invokevirtual 173, 3) := wn_at gdL_law_1610 1 rfl
theorem dL_law_1614 : decode cL_law 1614 = .ok (.if_icmp .eq 5, 3) := wn_at gdL_law_1610 2 rfl
theorem dL_law_1617 : decode cL_law 1617 = .ok (.iconst 0, 1) := wn_at gdL_law_1610 3 rfl
theorem dL_law_1618 : decode cL_law 1618 = .ok (.ireturn, 1) := wn_at gdL_law_1610 4 rfl
theorem dL_law_1619 : decode cL_law 1619 = .ok (.iinc 3 6, 3) := wn_at gdL_law_1610 5 rfl
theorem dL_law_1622 : decode cL_law 1622 = .ok (.goto (-1604), 3) := wn_at gdL_law_1610 6 rfl
theorem dL_law_1625 : decode cL_law 1625 = .ok (.iconst 1, 1) := wn_at gdL_law_1610 7 rfl
theorem dL_law_1626 : decode cL_law 1626 = .ok (.ireturn, 1) := wn_at gdL_law_1610 8 rfl
