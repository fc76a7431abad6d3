theorem gdX0_init_0 : ∀ e ∈ ([(0, .aload_n 0, 1), (1, .invokespecial 3, 3), (4, .aload_n 0, 1), (5, .bipush 8, 2), (7, .newarray .int, 2), (9, .putfield 9, 3), (12, .aload_n 0, 1), (13, .bipush 8, 2), (15, .newarray .int, 2), (17, .putfield 15, 3)] : List (Nat × Instr × Nat)), decode cX0_init e.1 = .ok e.2 := wn_all _ 0 (by decide +kernel)
theorem dX0_init_0 : decode cX0_init 0 = .ok (.aload_n 0, 1) := wn_at gdX0_init_0 0 rfl
theorem dX0_init_1 : decode cX0_init 1 = .ok (.invokespecial 3, 3) := wn_at gdX0_init_0 1 rfl
theorem dX0_init_4 : decode cX0_init 4 = .ok (.aload_n 0, 1) := wn_at gdX0_init_0 2 rfl
theorem dX0_init_5 : decode cX0_init 5 = .ok (.bipush 8, 2) := wn_at gdX0_init_0 3 rfl
theorem dX0_init_7 : decode cX0_init 7 = .ok (.newarray .int, 2) := wn_at gdX0_init_0 4 rfl
theorem dX0_init_9 : decode cX0_init 9 = .ok (.putfield 9, 3) := wn_at gdX0_init_0 5 rfl
theorem dX0_init_12 : decode cX0_init 12 = .ok (.aload_n 0, 1) := wn_at gdX0_init_0 6 rfl
theorem dX0_init_13 : decode cX0_init 13 = .ok (.bipush 8, 2) := wn_at gdX0_init_0 7 rfl
theorem dX0_init_15 : decode cX0_init 15 = .ok (.newarray .int, 2) := wn_at gdX0_init_0 8 rfl
theorem dX0_init_17 : decode cX0_init 17 = .ok (.putfield 15, 3) := wn_at gdX0_init_0 9 rfl
theorem gdX0_init_20 : ∀ e ∈ ([(20, .aload_n 0, 1), (21, .bipush 8, 2), (23, .newarray .int, 2), (25, .putfield 18, 3), (28, .aload_n 0, 1), (29, .bipush 8, 2), (31, .newarray .int, 2), (33, .putfield 21, 3), (36, .aload_n 0, 1), (37, .bipush 8, 2)] : List (Nat × Instr × Nat)), decode cX0_init e.1 = .ok e.2 := wn_all _ 20 (by decide +kernel)
theorem dX0_init_20 : decode cX0_init 20 = .ok (.aload_n 0, 1) := wn_at gdX0_init_20 0 rfl
theorem dX0_init_21 : decode cX0_init 21 = .ok (.bipush 8, 2) := wn_at gdX0_init_20 1 rfl
theorem dX0_init_23 : decode cX0_init 23 = .ok (.newarray .int, 2) := wn_at gdX0_init_20 2 rfl
theorem dX0_init_25 : decode cX0_init 25 = .ok (.putfield 18, 3) := wn_at gdX0_init_20 3 rfl
theorem dX0_init_28 : decode cX0_init 28 = .ok (.aload_n 0, 1) := wn_at gdX0_init_20 4 rfl
theorem dX0_init_29 : decode cX0_init 29 = .ok (.bipush 8, 2) := wn_at gdX0_init_20 5 rfl
theorem dX0_init_31 : decode cX0_init 31 = .ok (.newarray .int, 2) := wn_at gdX0_init_20 6 rfl
theorem dX0_init_33 : decode cX0_init 33 = .ok (.putfield 21, 3) := wn_at gdX0_init_20 7 rfl
theorem dX0_init_36 : decode cX0_init 36 = .ok (.aload_n 0, 1) := wn_at gdX0_init_20 8 rfl
theorem dX0_init_37 : decode cX0_init 37 = .ok (.bipush 8, 2) := wn_at gdX0_init_20 9 rfl
theorem gdX0_init_39 : ∀ e ∈ ([(39, .newarray .long, 2), (41, .putfield 24, 3), (44, .aload_n 0, 1), (45, .iconst 0, 1), (46, .putfield 28, 3), (49, .aload_n 0, 1), (50, .iconst 0, 1), (51, .putfield 32, 3), (54, .return_, 1)] : List (Nat × Instr × Nat)), decode cX0_init e.1 = .ok e.2 := wn_all _ 39 (by decide +kernel)
theorem dX0_init_39 : decode cX0_init 39 = .ok (.newarray .long, 2) := wn_at gdX0_init_39 0 rfl
theorem dX0_init_41 : decode cX0_init 41 = .ok (.putfield 24, 3) := wn_at gdX0_init_39 1 rfl
theorem dX0_init_44 : decode cX0_init 44 = .ok (.aload_n 0, 1) := wn_at gdX0_init_39 2 rfl
theorem dX0_init_45 : decode cX0_init 45 = .ok (.iconst 0, 1) := wn_at gdX0_init_39 3 rfl
theorem dX0_init_46 : decode cX0_init 46 = .ok (.putfield 28, 3) := wn_at gdX0_init_39 4 rfl
theorem dX0_init_49 : decode cX0_init 49 = .ok (.aload_n 0, 1) := wn_at gdX0_init_39 5 rfl
theorem dX0_init_50 : decode cX0_init 50 = .ok (.iconst 0, 1) := wn_at gdX0_init_39 6 rfl
theorem dX0_init_51 : decode cX0_init 51 = .ok (.putfield 32, 3) := wn_at gdX0_init_39 7 rfl
theorem dX0_init_54 : decode cX0_init 54 = .ok (.return_, 1) := wn_at gdX0_init_39 8 rfl
theorem gdX0_copyFrom_0 : ∀ e ∈ ([(0, .aload_n 1, 1), (1, .getfield 9, 3), (4, .iconst 0, 1), (5, .aload_n 0, 1), (6, .getfield 9, 3), (9, .iconst 0, 1), (10, .bipush 8, 2), (12, .invokestatic 35, 3), (15, .aload_n 1, 1), (16, .getfield 15, 3)] : List (Nat × Instr × Nat)), decode cX0_copyFrom e.1 = .ok e.2 := wn_all _ 0 (by decide +kernel)
theorem dX0_copyFrom_0 : decode cX0_copyFrom 0 = .ok (.aload_n 1, 1) := wn_at gdX0_copyFrom_0 0 rfl
theorem dX0_copyFrom_1 : decode cX0_copyFrom 1 = .ok (.getfield 9, 3) := wn_at gdX0_copyFrom_0 1 rfl
theorem dX0_copyFrom_4 : decode cX0_copyFrom 4 = .ok (.iconst 0, 1) := wn_at gdX0_copyFrom_0 2 rfl
theorem dX0_copyFrom_5 : decode cX0_copyFrom 5 = .ok (.aload_n 0, 1) := wn_at gdX0_copyFrom_0 3 rfl
theorem dX0_copyFrom_6 : decode cX0_copyFrom 6 = .ok (.getfield 9, 3) := wn_at gdX0_copyFrom_0 4 rfl
theorem dX0_copyFrom_9 : decode cX0_copyFrom 9 = .ok (.iconst 0, 1) := wn_at gdX0_copyFrom_0 5 rfl
theorem dX0_copyFrom_10 : decode cX0_copyFrom 10 = .ok (.bipush 8, 2) := wn_at gdX0_copyFrom_0 6 rfl
theorem dX0_copyFrom_12 : decode cX0_copyFrom 12 = .ok (.invokestatic 35, 3) := wn_at gdX0_copyFrom_0 7 rfl
theorem dX0_copyFrom_15 : decode cX0_copyFrom 15 = .ok (.aload_n 1, 1) := wn_at gdX0_copyFrom_0 8 rfl
theorem dX0_copyFrom_16 : decode cX0_copyFrom 16 = .ok (.getfield 15, 3) := wn_at gdX0_copyFrom_0 9 rfl
theorem gdX0_copyFrom_19 : ∀ e ∈ ([(19, .iconst 0, 1), (20, .aload_n 0, 1), (21, .getfield 15, 3), (24, .iconst 0, 1), (25, .bipush 8, 2), (27, .invokestatic 35, 3), (30, .aload_n 1, 1), (31, .getfield 18, 3), (34, .iconst 0, 1), (35, .aload_n 0, 1)] : List (Nat × Instr × Nat)), decode cX0_copyFrom e.1 = .ok e.2 := wn_all _ 19 (by decide +kernel)
theorem dX0_copyFrom_19 : decode cX0_copyFrom 19 = .ok (.iconst 0, 1) := wn_at gdX0_copyFrom_19 0 rfl
theorem dX0_copyFrom_20 : decode cX0_copyFrom 20 = .ok (.aload_n 0, 1) := wn_at gdX0_copyFrom_19 1 rfl
theorem dX0_copyFrom_21 : decode cX0_copyFrom 21 = .ok (.getfield 15, 3) := wn_at gdX0_copyFrom_19 2 rfl
theorem dX0_copyFrom_24 : decode cX0_copyFrom 24 = .ok (.iconst 0, 1) := wn_at gdX0_copyFrom_19 3 rfl
theorem dX0_copyFrom_25 : decode cX0_copyFrom 25 = .ok (.bipush 8, 2) := wn_at gdX0_copyFrom_19 4 rfl
theorem dX0_copyFrom_27 : decode cX0_copyFrom 27 = .ok (.invokestatic 35, 3) := wn_at gdX0_copyFrom_19 5 rfl
theorem dX0_copyFrom_30 : decode cX0_copyFrom 30 = .ok (.aload_n 1, 1) := wn_at gdX0_copyFrom_19 6 rfl
theorem dX0_copyFrom_31 : decode cX0_copyFrom 31 = .ok (.getfield 18, 3) := wn_at gdX0_copyFrom_19 7 rfl
theorem dX0_copyFrom_34 : decode cX0_copyFrom 34 = .ok (.iconst 0, 1) := wn_at gdX0_copyFrom_19 8 rfl
theorem dX0_copyFrom_35 : decode cX0_copyFrom 35 = .ok (.aload_n 0, 1) := wn_at gdX0_copyFrom_19 9 rfl
theorem gdX0_copyFrom_36 : ∀ e ∈ ([(36, .getfield 18, 3), (39, .iconst 0, 1), (40, .bipush 8, 2), (42, .invokestatic 35, 3), (45, .aload_n 1, 1), (46, .getfield 21, 3), (49, .iconst 0, 1), (50, .aload_n 0, 1), (51, .getfield 21, 3), (54, .iconst 0, 1)] : List (Nat × Instr × Nat)), decode cX0_copyFrom e.1 = .ok e.2 := wn_all _ 36 (by decide +kernel)
theorem dX0_copyFrom_36 : decode cX0_copyFrom 36 = .ok (.getfield 18, 3) := wn_at gdX0_copyFrom_36 0 rfl
theorem dX0_copyFrom_39 : decode cX0_copyFrom 39 = .ok (.iconst 0, 1) := wn_at gdX0_copyFrom_36 1 rfl
theorem dX0_copyFrom_40 : decode cX0_copyFrom 40 = .ok (.bipush 8, 2) := wn_at gdX0_copyFrom_36 2 rfl
theorem dX0_copyFrom_42 : decode cX0_copyFrom 42 = .ok (.invokestatic 35, 3) := wn_at gdX0_copyFrom_36 3 rfl
theorem dX0_copyFrom_45 : decode cX0_copyFrom 45 = .ok (.aload_n 1, 1) := wn_at gdX0_copyFrom_36 4 rfl
theorem dX0_copyFrom_46 : decode cX0_copyFrom 46 = .ok (.getfield 21, 3) := wn_at gdX0_copyFrom_36 5 rfl
theorem dX0_copyFrom_49 : decode cX0_copyFrom 49 = .ok (.iconst 0, 1) := wn_at gdX0_copyFrom_36 6 rfl
theorem dX0_copyFrom_50 : decode cX0_copyFrom 50 = .ok (.aload_n 0, 1) := wn_at gdX0_copyFrom_36 7 rfl
theorem dX0_copyFrom_51 : decode cX0_copyFrom 51 = .ok (.getfield 21, 3) := wn_at gdX0_copyFrom_36 8 rfl
theorem dX0_copyFrom_54 : decode cX0_copyFrom 54 = .ok (.iconst 0, 1) := wn_at gdX0_copyFrom_36 9 rfl
theorem gdX0_copyFrom_55 : ∀ e ∈ ([(55, .bipush 8, 2), (57, .invokestatic 35, 3), (60, .aload_n 1, 1), (61, .getfield 24, 3), (64, .iconst 0, 1), (65, .aload_n 0, 1), (66, .getfield 24, 3), (69, .iconst 0, 1), (70, .bipush 8, 2), (72, .invokestatic 35, 3)] : List (Nat × Instr × Nat)), decode cX0_copyFrom e.1 = .ok e.2 := wn_all _ 55 (by decide +kernel)
theorem dX0_copyFrom_55 : decode cX0_copyFrom 55 = .ok (.bipush 8, 2) := wn_at gdX0_copyFrom_55 0 rfl
theorem dX0_copyFrom_57 : decode cX0_copyFrom 57 = .ok (.invokestatic 35, 3) := wn_at gdX0_copyFrom_55 1 rfl
theorem dX0_copyFrom_60 : decode cX0_copyFrom 60 = .ok (.aload_n 1, 1) := wn_at gdX0_copyFrom_55 2 rfl
theorem dX0_copyFrom_61 : decode cX0_copyFrom 61 = .ok (.getfield 24, 3) := wn_at gdX0_copyFrom_55 3 rfl
theorem dX0_copyFrom_64 : decode cX0_copyFrom 64 = .ok (.iconst 0, 1) := wn_at gdX0_copyFrom_55 4 rfl
theorem dX0_copyFrom_65 : decode cX0_copyFrom 65 = .ok (.aload_n 0, 1) := wn_at gdX0_copyFrom_55 5 rfl
theorem dX0_copyFrom_66 : decode cX0_copyFrom 66 = .ok (.getfield 24, 3) := wn_at gdX0_copyFrom_55 6 rfl
theorem dX0_copyFrom_69 : decode cX0_copyFrom 69 = .ok (.iconst 0, 1) := wn_at gdX0_copyFrom_55 7 rfl
theorem dX0_copyFrom_70 : decode cX0_copyFrom 70 = .ok (.bipush 8, 2) := wn_at gdX0_copyFrom_55 8 rfl
theorem dX0_copyFrom_72 : decode cX0_copyFrom 72 = .ok (.invokestatic 35, 3) := wn_at gdX0_copyFrom_55 9 rfl
theorem gdX0_copyFrom_75 : ∀ e ∈ ([(75, .aload_n 0, 1), (76, .aload_n 1, 1), (77, .getfield 28, 3), (80, .putfield 28, 3), (83, .aload_n 0, 1), (84, .aload_n 1, 1), (85, .getfield 32, 3), (88, .putfield 32, 3), (91, .return_, 1)] : List (Nat × Instr × Nat)), decode cX0_copyFrom e.1 = .ok e.2 := wn_all _ 75 (by decide +kernel)
theorem dX0_copyFrom_75 : decode cX0_copyFrom 75 = .ok (.aload_n 0, 1) := wn_at gdX0_copyFrom_75 0 rfl
theorem dX0_copyFrom_76 : decode cX0_copyFrom 76 = .ok (.aload_n 1, 1) := wn_at gdX0_copyFrom_75 1 rfl
theorem dX0_copyFrom_77 : decode cX0_copyFrom 77 = .ok (.getfield 28, 3) := wn_at gdX0_copyFrom_75 2 rfl
theorem dX0_copyFrom_80 : decode cX0_copyFrom 80 = .ok (.putfield 28, 3) := wn_at gdX0_copyFrom_75 3 rfl
theorem dX0_copyFrom_83 : decode cX0_copyFrom 83 = .ok (.aload_n 0, 1) := wn_at gdX0_copyFrom_75 4 rfl
theorem dX0_copyFrom_84 : decode cX0_copyFrom 84 = .ok (.aload_n 1, 1) := wn_at gdX0_copyFrom_75 5 rfl
theorem dX0_copyFrom_85 : decode cX0_copyFrom 85 = .ok (.getfield 32, 3) := wn_at gdX0_copyFrom_75 6 rfl
theorem dX0_copyFrom_88 : decode cX0_copyFrom 88 = .ok (.putfield 32, 3) := wn_at gdX0_copyFrom_75 7 rfl
theorem dX0_copyFrom_91 : decode cX0_copyFrom 91 = .ok (.return_, 1) := wn_at gdX0_copyFrom_75 8 rfl
theorem gdX0_addThing_0 : ∀ e ∈ ([(0, .aload_n 0, 1), (1, .getfield 28, 3), (4, .bipush 8, 2), (6, .if_icmp .ge 32, 3), (9, .aload_n 0, 1), (10, .aload_n 0, 1), (11, .getfield 28, 3), (14, .iload_n 1, 1), (15, .invokevirtual 41, 3), (18, .aload_n 0, 1)] : List (Nat × Instr × Nat)), decode cX0_addThing e.1 = .ok e.2 := wn_all _ 0 (by decide +kernel)
theorem dX0_addThing_0 : decode cX0_addThing 0 = .ok (.aload_n 0, 1) := wn_at gdX0_addThing_0 0 rfl
theorem dX0_addThing_1 : decode cX0_addThing 1 = .ok (.getfield 28, 3) := wn_at gdX0_addThing_0 1 rfl
theorem dX0_addThing_4 : decode cX0_addThing 4 = .ok (.bipush 8, 2) := wn_at gdX0_addThing_0 2 rfl
theorem dX0_addThing_6 : decode cX0_addThing 6 = .ok (.if_icmp .ge 32, 3) := wn_at gdX0_addThing_0 3 rfl
theorem dX0_addThing_9 : decode cX0_addThing 9 = .ok (.aload_n 0, 1) := wn_at gdX0_addThing_0 4 rfl
theorem dX0_addThing_10 : decode cX0_addThing 10 = .ok (.aload_n 0, 1) := wn_at gdX0_addThing_0 5 rfl
theorem dX0_addThing_11 : decode cX0_addThing 11 = .ok (.getfield 28, 3) := wn_at gdX0_addThing_0 6 rfl
theorem dX0_addThing_14 : decode cX0_addThing 14 = .ok (.iload_n 1, 1) := wn_at gdX0_addThing_0 7 rfl
theorem dX0_addThing_15 : decode cX0_addThing 15 = .ok (.invokevirtual 41, 3) := wn_at gdX0_addThing_0 8 rfl
theorem dX0_addThing_18 : decode cX0_addThing 18 = .ok (.aload_n 0, 1) := wn_at gdX0_addThing_0 9 rfl
theorem gdX0_addThing_19 : ∀ e ∈ ([(19, .getfield 24, 3), (22, .aload_n 0, 1), (23, .getfield 28, 3), (26, .lconst 0, 1), (27, .lastore, 1), (28, .aload_n 0, 1), (29, .dup, 1), (30, .getfield 28, 3), (33, .iconst 1, 1), (34, .iadd, 1)] : List (Nat × Instr × Nat)), decode cX0_addThing e.1 = .ok e.2 := wn_all _ 19 (by decide +kernel)
theorem dX0_addThing_19 : decode cX0_addThing 19 = .ok (.getfield 24, 3) := wn_at gdX0_addThing_19 0 rfl
theorem dX0_addThing_22 : decode cX0_addThing 22 = .ok (.aload_n 0, 1) := wn_at gdX0_addThing_19 1 rfl
theorem dX0_addThing_23 : decode cX0_addThing 23 = .ok (.getfield 28, 3) := wn_at gdX0_addThing_19 2 rfl
theorem dX0_addThing_26 : decode cX0_addThing 26 = .ok (.lconst 0, 1) := wn_at gdX0_addThing_19 3 rfl
theorem dX0_addThing_27 : decode cX0_addThing 27 = .ok (.lastore, 1) := wn_at gdX0_addThing_19 4 rfl
theorem dX0_addThing_28 : decode cX0_addThing 28 = .ok (.aload_n 0, 1) := wn_at gdX0_addThing_19 5 rfl
theorem dX0_addThing_29 : decode cX0_addThing 29 = .ok (.dup, 1) := wn_at gdX0_addThing_19 6 rfl
theorem dX0_addThing_30 : decode cX0_addThing 30 = .ok (.getfield 28, 3) := wn_at gdX0_addThing_19 7 rfl
theorem dX0_addThing_33 : decode cX0_addThing 33 = .ok (.iconst 1, 1) := wn_at gdX0_addThing_19 8 rfl
theorem dX0_addThing_34 : decode cX0_addThing 34 = .ok (.iadd, 1) := wn_at gdX0_addThing_19 9 rfl
theorem gdX0_addThing_35 : ∀ e ∈ ([(35, .putfield 28, 3), (38, .return_, 1)] : List (Nat × Instr × Nat)), decode cX0_addThing e.1 = .ok e.2 := wn_all _ 35 (by decide +kernel)
theorem dX0_addThing_35 : decode cX0_addThing 35 = .ok (.putfield 28, 3) := wn_at gdX0_addThing_35 0 rfl
theorem dX0_addThing_38 : decode cX0_addThing 38 = .ok (.return_, 1) := wn_at gdX0_addThing_35 1 rfl
theorem gdX0_putOn_0 : ∀ e ∈ ([(0, .aload_n 0, 1), (1, .getfield 9, 3), (4, .iload_n 1, 1), (5, .iload_n 2, 1), (6, .iastore, 1), (7, .aload_n 0, 1), (8, .getfield 15, 3), (11, .iload_n 1, 1), (12, .iconst (-1), 1), (13, .iastore, 1)] : List (Nat × Instr × Nat)), decode cX0_putOn e.1 = .ok e.2 := wn_all _ 0 (by decide +kernel)
theorem dX0_putOn_0 : decode cX0_putOn 0 = .ok (.aload_n 0, 1) := wn_at gdX0_putOn_0 0 rfl
theorem dX0_putOn_1 : decode cX0_putOn 1 = .ok (.getfield 9, 3) := wn_at gdX0_putOn_0 1 rfl
theorem dX0_putOn_4 : decode cX0_putOn 4 = .ok (.iload_n 1, 1) := wn_at gdX0_putOn_0 2 rfl
theorem dX0_putOn_5 : decode cX0_putOn 5 = .ok (.iload_n 2, 1) := wn_at gdX0_putOn_0 3 rfl
theorem dX0_putOn_6 : decode cX0_putOn 6 = .ok (.iastore, 1) := wn_at gdX0_putOn_0 4 rfl
theorem dX0_putOn_7 : decode cX0_putOn 7 = .ok (.aload_n 0, 1) := wn_at gdX0_putOn_0 5 rfl
theorem dX0_putOn_8 : decode cX0_putOn 8 = .ok (.getfield 15, 3) := wn_at gdX0_putOn_0 6 rfl
theorem dX0_putOn_11 : decode cX0_putOn 11 = .ok (.iload_n 1, 1) := wn_at gdX0_putOn_0 7 rfl
theorem dX0_putOn_12 : decode cX0_putOn 12 = .ok (.iconst (-1), 1) := wn_at gdX0_putOn_0 8 rfl
theorem dX0_putOn_13 : decode cX0_putOn 13 = .ok (.iastore, 1) := wn_at gdX0_putOn_0 9 rfl
theorem gdX0_putOn_14 : ∀ e ∈ ([(14, .aload_n 0, 1), (15, .getfield 18, 3), (18, .iload_n 1, 1), (19, .iconst 0, 1), (20, .iastore, 1), (21, .aload_n 0, 1), (22, .getfield 21, 3), (25, .iload_n 1, 1), (26, .iconst (-1), 1), (27, .iastore, 1)] : List (Nat × Instr × Nat)), decode cX0_putOn e.1 = .ok e.2 := wn_all _ 14 (by decide +kernel)
theorem dX0_putOn_14 : decode cX0_putOn 14 = .ok (.aload_n 0, 1) := wn_at gdX0_putOn_14 0 rfl
theorem dX0_putOn_15 : decode cX0_putOn 15 = .ok (.getfield 18, 3) := wn_at gdX0_putOn_14 1 rfl
theorem dX0_putOn_18 : decode cX0_putOn 18 = .ok (.iload_n 1, 1) := wn_at gdX0_putOn_14 2 rfl
theorem dX0_putOn_19 : decode cX0_putOn 19 = .ok (.iconst 0, 1) := wn_at gdX0_putOn_14 3 rfl
theorem dX0_putOn_20 : decode cX0_putOn 20 = .ok (.iastore, 1) := wn_at gdX0_putOn_14 4 rfl
theorem dX0_putOn_21 : decode cX0_putOn 21 = .ok (.aload_n 0, 1) := wn_at gdX0_putOn_14 5 rfl
theorem dX0_putOn_22 : decode cX0_putOn 22 = .ok (.getfield 21, 3) := wn_at gdX0_putOn_14 6 rfl
theorem dX0_putOn_25 : decode cX0_putOn 25 = .ok (.iload_n 1, 1) := wn_at gdX0_putOn_14 7 rfl
theorem dX0_putOn_26 : decode cX0_putOn 26 = .ok (.iconst (-1), 1) := wn_at gdX0_putOn_14 8 rfl
theorem dX0_putOn_27 : decode cX0_putOn 27 = .ok (.iastore, 1) := wn_at gdX0_putOn_14 9 rfl
theorem gdX0_putOn_28 : ∀ e ∈ ([(28, .return_, 1)] : List (Nat × Instr × Nat)), decode cX0_putOn e.1 = .ok e.2 := wn_all _ 28 (by decide +kernel)
theorem dX0_putOn_28 : decode cX0_putOn 28 = .ok (.return_, 1) := wn_at gdX0_putOn_28 0 rfl
theorem gdX0_isStanding_0 : ∀ e ∈ ([(0, .aload_n 0, 1), (1, .getfield 9, 3), (4, .iload_n 1, 1), (5, .iaload, 1), (6, .ifCond .lt 7, 3), (9, .iconst 1, 1), (10, .goto 4, 3), (13, .iconst 0, 1), (14, .ireturn, 1)] : List (Nat × Instr × Nat)), decode cX0_isStanding e.1 = .ok e.2 := wn_all _ 0 (by decide +kernel)
theorem dX0_isStanding_0 : decode cX0_isStanding 0 = .ok (.aload_n 0, 1) := wn_at gdX0_isStanding_0 0 rfl
theorem dX0_isStanding_1 : decode cX0_isStanding 1 = .ok (.getfield 9, 3) := wn_at gdX0_isStanding_0 1 rfl
theorem dX0_isStanding_4 : decode cX0_isStanding 4 = .ok (.iload_n 1, 1) := wn_at gdX0_isStanding_0 2 rfl
theorem dX0_isStanding_5 : decode cX0_isStanding 5 = .ok (.iaload, 1) := wn_at gdX0_isStanding_0 3 rfl
theorem dX0_isStanding_6 : decode cX0_isStanding 6 = .ok (.ifCond .lt 7, 3) := wn_at gdX0_isStanding_0 4 rfl
theorem dX0_isStanding_9 : decode cX0_isStanding 9 = .ok (.iconst 1, 1) := wn_at gdX0_isStanding_0 5 rfl
theorem dX0_isStanding_10 : decode cX0_isStanding 10 = .ok (.goto 4, 3) := wn_at gdX0_isStanding_0 6 rfl
theorem dX0_isStanding_13 : decode cX0_isStanding 13 = .ok (.iconst 0, 1) := wn_at gdX0_isStanding_0 7 rfl
theorem dX0_isStanding_14 : decode cX0_isStanding 14 = .ok (.ireturn, 1) := wn_at gdX0_isStanding_0 8 rfl
theorem gdX0_isTogether_0 : ∀ e ∈ ([(0, .aload_n 0, 1), (1, .iload_n 1, 1), (2, .invokevirtual 45, 3), (5, .ifCond .eq 22, 3), (8, .aload_n 0, 1), (9, .getfield 9, 3), (12, .iload_n 1, 1), (13, .iaload, 1), (14, .aload_n 0, 1), (15, .getfield 9, 3)] : List (Nat × Instr × Nat)), decode cX0_isTogether e.1 = .ok e.2 := wn_all _ 0 (by decide +kernel)
theorem dX0_isTogether_0 : decode cX0_isTogether 0 = .ok (.aload_n 0, 1) := wn_at gdX0_isTogether_0 0 rfl
theorem dX0_isTogether_1 : decode cX0_isTogether 1 = .ok (.iload_n 1, 1) := wn_at gdX0_isTogether_0 1 rfl
theorem dX0_isTogether_2 : decode cX0_isTogether 2 = .ok (.invokevirtual 45, 3) := wn_at gdX0_isTogether_0 2 rfl
theorem dX0_isTogether_5 : decode cX0_isTogether 5 = .ok (.ifCond .eq 22, 3) := wn_at gdX0_isTogether_0 3 rfl
theorem dX0_isTogether_8 : decode cX0_isTogether 8 = .ok (.aload_n 0, 1) := wn_at gdX0_isTogether_0 4 rfl
theorem dX0_isTogether_9 : decode cX0_isTogether 9 = .ok (.getfield 9, 3) := wn_at gdX0_isTogether_0 5 rfl
theorem dX0_isTogether_12 : decode cX0_isTogether 12 = .ok (.iload_n 1, 1) := wn_at gdX0_isTogether_0 6 rfl
theorem dX0_isTogether_13 : decode cX0_isTogether 13 = .ok (.iaload, 1) := wn_at gdX0_isTogether_0 7 rfl
theorem dX0_isTogether_14 : decode cX0_isTogether 14 = .ok (.aload_n 0, 1) := wn_at gdX0_isTogether_0 8 rfl
theorem dX0_isTogether_15 : decode cX0_isTogether 15 = .ok (.getfield 9, 3) := wn_at gdX0_isTogether_0 9 rfl
theorem gdX0_isTogether_18 : ∀ e ∈ ([(18, .iload_n 2, 1), (19, .iaload, 1), (20, .if_icmp .ne 7, 3), (23, .iconst 1, 1), (24, .goto 4, 3), (27, .iconst 0, 1), (28, .ireturn, 1)] : List (Nat × Instr × Nat)), decode cX0_isTogether e.1 = .ok e.2 := wn_all _ 18 (by decide +kernel)
theorem dX0_isTogether_18 : decode cX0_isTogether 18 = .ok (.iload_n 2, 1) := wn_at gdX0_isTogether_18 0 rfl
theorem dX0_isTogether_19 : decode cX0_isTogether 19 = .ok (.iaload, 1) := wn_at gdX0_isTogether_18 1 rfl
theorem dX0_isTogether_20 : decode cX0_isTogether 20 = .ok (.if_icmp .ne 7, 3) := wn_at gdX0_isTogether_18 2 rfl
theorem dX0_isTogether_23 : decode cX0_isTogether 23 = .ok (.iconst 1, 1) := wn_at gdX0_isTogether_18 3 rfl
theorem dX0_isTogether_24 : decode cX0_isTogether 24 = .ok (.goto 4, 3) := wn_at gdX0_isTogether_18 4 rfl
theorem dX0_isTogether_27 : decode cX0_isTogether 27 = .ok (.iconst 0, 1) := wn_at gdX0_isTogether_18 5 rfl
theorem dX0_isTogether_28 : decode cX0_isTogether 28 = .ok (.ireturn, 1) := wn_at gdX0_isTogether_18 6 rfl
theorem gdX0_setOff_0 : ∀ e ∈ ([(0, .iload_n 3, 1), (1, .ifCond .ge 7, 3), (4, .iconst (-1), 1), (5, .goto 14, 3), (8, .aload_n 1, 1), (9, .iload_n 3, 1), (10, .aload_n 0, 1), (11, .getfield 9, 3), (14, .iload_n 2, 1), (15, .iaload, 1)] : List (Nat × Instr × Nat)), decode cX0_setOff e.1 = .ok e.2 := wn_all _ 0 (by decide +kernel)
theorem dX0_setOff_0 : decode cX0_setOff 0 = .ok (.iload_n 3, 1) := wn_at gdX0_setOff_0 0 rfl
theorem dX0_setOff_1 : decode cX0_setOff 1 = .ok (.ifCond .ge 7, 3) := wn_at gdX0_setOff_0 1 rfl
theorem dX0_setOff_4 : decode cX0_setOff 4 = .ok (.iconst (-1), 1) := wn_at gdX0_setOff_0 2 rfl
theorem dX0_setOff_5 : decode cX0_setOff 5 = .ok (.goto 14, 3) := wn_at gdX0_setOff_0 3 rfl
theorem dX0_setOff_8 : decode cX0_setOff 8 = .ok (.aload_n 1, 1) := wn_at gdX0_setOff_0 4 rfl
theorem dX0_setOff_9 : decode cX0_setOff 9 = .ok (.iload_n 3, 1) := wn_at gdX0_setOff_0 5 rfl
theorem dX0_setOff_10 : decode cX0_setOff 10 = .ok (.aload_n 0, 1) := wn_at gdX0_setOff_0 6 rfl
theorem dX0_setOff_11 : decode cX0_setOff 11 = .ok (.getfield 9, 3) := wn_at gdX0_setOff_0 7 rfl
theorem dX0_setOff_14 : decode cX0_setOff 14 = .ok (.iload_n 2, 1) := wn_at gdX0_setOff_0 8 rfl
theorem dX0_setOff_15 : decode cX0_setOff 15 = .ok (.iaload, 1) := wn_at gdX0_setOff_0 9 rfl
theorem gdX0_setOff_16 : ∀ e ∈ ([(16, .invokevirtual 49, 3), (19, .istore 4, 2), (21, .iload 4, 2), (23, .ifCond .ge 5, 3), (26, .iconst 0, 1), (27, .ireturn, 1), (28, .aload_n 0, 1), (29, .getfield 9, 3), (32, .iload_n 2, 1), (33, .iconst (-1), 1)] : List (Nat × Instr × Nat)), decode cX0_setOff e.1 = .ok e.2 := wn_all _ 16 (by decide +kernel)
theorem dX0_setOff_16 : decode cX0_setOff 16 = .ok (.invokevirtual 49, 3) := wn_at gdX0_setOff_16 0 rfl
theorem dX0_setOff_19 : decode cX0_setOff 19 = .ok (.istore 4, 2) := wn_at gdX0_setOff_16 1 rfl
theorem dX0_setOff_21 : decode cX0_setOff 21 = .ok (.iload 4, 2) := wn_at gdX0_setOff_16 2 rfl
theorem dX0_setOff_23 : decode cX0_setOff 23 = .ok (.ifCond .ge 5, 3) := wn_at gdX0_setOff_16 3 rfl
theorem dX0_setOff_26 : decode cX0_setOff 26 = .ok (.iconst 0, 1) := wn_at gdX0_setOff_16 4 rfl
theorem dX0_setOff_27 : decode cX0_setOff 27 = .ok (.ireturn, 1) := wn_at gdX0_setOff_16 5 rfl
theorem dX0_setOff_28 : decode cX0_setOff 28 = .ok (.aload_n 0, 1) := wn_at gdX0_setOff_16 6 rfl
theorem dX0_setOff_29 : decode cX0_setOff 29 = .ok (.getfield 9, 3) := wn_at gdX0_setOff_16 7 rfl
theorem dX0_setOff_32 : decode cX0_setOff 32 = .ok (.iload_n 2, 1) := wn_at gdX0_setOff_16 8 rfl
theorem dX0_setOff_33 : decode cX0_setOff 33 = .ok (.iconst (-1), 1) := wn_at gdX0_setOff_16 9 rfl
theorem gdX0_setOff_34 : ∀ e ∈ ([(34, .iastore, 1), (35, .aload_n 0, 1), (36, .getfield 15, 3), (39, .iload_n 2, 1), (40, .iload_n 3, 1), (41, .iastore, 1), (42, .aload_n 0, 1), (43, .getfield 18, 3), (46, .iload_n 2, 1), (47, .iconst 0, 1)] : List (Nat × Instr × Nat)), decode cX0_setOff e.1 = .ok e.2 := wn_all _ 34 (by decide +kernel)
theorem dX0_setOff_34 : decode cX0_setOff 34 = .ok (.iastore, 1) := wn_at gdX0_setOff_34 0 rfl
theorem dX0_setOff_35 : decode cX0_setOff 35 = .ok (.aload_n 0, 1) := wn_at gdX0_setOff_34 1 rfl
theorem dX0_setOff_36 : decode cX0_setOff 36 = .ok (.getfield 15, 3) := wn_at gdX0_setOff_34 2 rfl
theorem dX0_setOff_39 : decode cX0_setOff 39 = .ok (.iload_n 2, 1) := wn_at gdX0_setOff_34 3 rfl
theorem dX0_setOff_40 : decode cX0_setOff 40 = .ok (.iload_n 3, 1) := wn_at gdX0_setOff_34 4 rfl
theorem dX0_setOff_41 : decode cX0_setOff 41 = .ok (.iastore, 1) := wn_at gdX0_setOff_34 5 rfl
theorem dX0_setOff_42 : decode cX0_setOff 42 = .ok (.aload_n 0, 1) := wn_at gdX0_setOff_34 6 rfl
theorem dX0_setOff_43 : decode cX0_setOff 43 = .ok (.getfield 18, 3) := wn_at gdX0_setOff_34 7 rfl
theorem dX0_setOff_46 : decode cX0_setOff 46 = .ok (.iload_n 2, 1) := wn_at gdX0_setOff_34 8 rfl
theorem dX0_setOff_47 : decode cX0_setOff 47 = .ok (.iconst 0, 1) := wn_at gdX0_setOff_34 9 rfl
theorem gdX0_setOff_48 : ∀ e ∈ ([(48, .iastore, 1), (49, .aload_n 0, 1), (50, .getfield 21, 3), (53, .iload_n 2, 1), (54, .iload 4, 2), (56, .iastore, 1), (57, .iconst 1, 1), (58, .ireturn, 1)] : List (Nat × Instr × Nat)), decode cX0_setOff e.1 = .ok e.2 := wn_all _ 48 (by decide +kernel)
theorem dX0_setOff_48 : decode cX0_setOff 48 = .ok (.iastore, 1) := wn_at gdX0_setOff_48 0 rfl
theorem dX0_setOff_49 : decode cX0_setOff 49 = .ok (.aload_n 0, 1) := wn_at gdX0_setOff_48 1 rfl
theorem dX0_setOff_50 : decode cX0_setOff 50 = .ok (.getfield 21, 3) := wn_at gdX0_setOff_48 2 rfl
theorem dX0_setOff_53 : decode cX0_setOff 53 = .ok (.iload_n 2, 1) := wn_at gdX0_setOff_48 3 rfl
theorem dX0_setOff_54 : decode cX0_setOff 54 = .ok (.iload 4, 2) := wn_at gdX0_setOff_48 4 rfl
theorem dX0_setOff_56 : decode cX0_setOff 56 = .ok (.iastore, 1) := wn_at gdX0_setOff_48 5 rfl
theorem dX0_setOff_57 : decode cX0_setOff 57 = .ok (.iconst 1, 1) := wn_at gdX0_setOff_48 6 rfl
theorem dX0_setOff_58 : decode cX0_setOff 58 = .ok (.ireturn, 1) := wn_at gdX0_setOff_48 7 rfl
theorem gdX0_live_0 : ∀ e ∈ ([(0, .iconst 0, 1), (1, .istore 4, 2), (3, .iload 4, 2), (5, .iload_n 3, 1), (6, .if_icmp .ge 24, 3), (9, .aload_n 2, 1), (10, .ifnull 9, 3), (13, .aload_n 0, 1), (14, .aload_n 1, 1), (15, .aload_n 2, 1)] : List (Nat × Instr × Nat)), decode cX0_live e.1 = .ok e.2 := wn_all _ 0 (by decide +kernel)
theorem dX0_live_0 : decode cX0_live 0 = .ok (.iconst 0, 1) := wn_at gdX0_live_0 0 rfl
theorem dX0_live_1 : decode cX0_live 1 = .ok (.istore 4, 2) := wn_at gdX0_live_0 1 rfl
theorem dX0_live_3 : decode cX0_live 3 = .ok (.iload 4, 2) := wn_at gdX0_live_0 2 rfl
theorem dX0_live_5 : decode cX0_live 5 = .ok (.iload_n 3, 1) := wn_at gdX0_live_0 3 rfl
theorem dX0_live_6 : decode cX0_live 6 = .ok (.if_icmp .ge 24, 3) := wn_at gdX0_live_0 4 rfl
theorem dX0_live_9 : decode cX0_live 9 = .ok (.aload_n 2, 1) := wn_at gdX0_live_0 5 rfl
theorem dX0_live_10 : decode cX0_live 10 = .ok (.ifnull 9, 3) := wn_at gdX0_live_0 6 rfl
theorem dX0_live_13 : decode cX0_live 13 = .ok (.aload_n 0, 1) := wn_at gdX0_live_0 7 rfl
theorem dX0_live_14 : decode cX0_live 14 = .ok (.aload_n 1, 1) := wn_at gdX0_live_0 8 rfl
theorem dX0_live_15 : decode cX0_live 15 = .ok (.aload_n 2, 1) := wn_at gdX0_live_0 9 rfl
theorem gdX0_live_16 : ∀ e ∈ ([(16, .invokevirtual 55, 3), (19, .aload_n 0, 1), (20, .aload_n 1, 1), (21, .invokevirtual 59, 3), (24, .iinc 4 1, 3), (27, .goto (-24), 3), (30, .return_, 1)] : List (Nat × Instr × Nat)), decode cX0_live e.1 = .ok e.2 := wn_all _ 16 (by decide +kernel)
theorem dX0_live_16 : decode cX0_live 16 = .ok (.invokevirtual 55, 3) := wn_at gdX0_live_16 0 rfl
theorem dX0_live_19 : decode cX0_live 19 = .ok (.aload_n 0, 1) := wn_at gdX0_live_16 1 rfl
theorem dX0_live_20 : decode cX0_live 20 = .ok (.aload_n 1, 1) := wn_at gdX0_live_16 2 rfl
theorem dX0_live_21 : decode cX0_live 21 = .ok (.invokevirtual 59, 3) := wn_at gdX0_live_16 3 rfl
theorem dX0_live_24 : decode cX0_live 24 = .ok (.iinc 4 1, 3) := wn_at gdX0_live_16 4 rfl
theorem dX0_live_27 : decode cX0_live 27 = .ok (.goto (-24), 3) := wn_at gdX0_live_16 5 rfl
theorem dX0_live_30 : decode cX0_live 30 = .ok (.return_, 1) := wn_at gdX0_live_16 6 rfl
theorem gdX0_obey_0 : ∀ e ∈ ([(0, .iconst 0, 1), (1, .istore_n 3, 1), (2, .iload_n 3, 1), (3, .aload_n 0, 1), (4, .getfield 28, 3), (7, .if_icmp .ge 63, 3), (10, .aload_n 0, 1), (11, .iload_n 3, 1), (12, .invokevirtual 45, 3), (15, .ifCond .ne 6, 3)] : List (Nat × Instr × Nat)), decode cX0_obey e.1 = .ok e.2 := wn_all _ 0 (by decide +kernel)
theorem dX0_obey_0 : decode cX0_obey 0 = .ok (.iconst 0, 1) := wn_at gdX0_obey_0 0 rfl
theorem dX0_obey_1 : decode cX0_obey 1 = .ok (.istore_n 3, 1) := wn_at gdX0_obey_0 1 rfl
theorem dX0_obey_2 : decode cX0_obey 2 = .ok (.iload_n 3, 1) := wn_at gdX0_obey_0 2 rfl
theorem dX0_obey_3 : decode cX0_obey 3 = .ok (.aload_n 0, 1) := wn_at gdX0_obey_0 3 rfl
theorem dX0_obey_4 : decode cX0_obey 4 = .ok (.getfield 28, 3) := wn_at gdX0_obey_0 4 rfl
theorem dX0_obey_7 : decode cX0_obey 7 = .ok (.if_icmp .ge 63, 3) := wn_at gdX0_obey_0 5 rfl
theorem dX0_obey_10 : decode cX0_obey 10 = .ok (.aload_n 0, 1) := wn_at gdX0_obey_0 6 rfl
theorem dX0_obey_11 : decode cX0_obey 11 = .ok (.iload_n 3, 1) := wn_at gdX0_obey_0 7 rfl
theorem dX0_obey_12 : decode cX0_obey 12 = .ok (.invokevirtual 45, 3) := wn_at gdX0_obey_0 8 rfl
theorem dX0_obey_15 : decode cX0_obey 15 = .ok (.ifCond .ne 6, 3) := wn_at gdX0_obey_0 9 rfl
theorem gdX0_obey_18 : ∀ e ∈ ([(18, .goto 46, 3), (21, .aload_n 2, 1), (22, .aload_n 1, 1), (23, .aload_n 0, 1), (24, .iload_n 3, 1), (25, .invokevirtual 63, 3), (28, .istore 4, 2), (30, .iload 4, 2), (32, .iconst 0, 1), (33, .aload_n 1, 1)] : List (Nat × Instr × Nat)), decode cX0_obey e.1 = .ok e.2 := wn_all _ 18 (by decide +kernel)
theorem dX0_obey_18 : decode cX0_obey 18 = .ok (.goto 46, 3) := wn_at gdX0_obey_18 0 rfl
theorem dX0_obey_21 : decode cX0_obey 21 = .ok (.aload_n 2, 1) := wn_at gdX0_obey_18 1 rfl
theorem dX0_obey_22 : decode cX0_obey 22 = .ok (.aload_n 1, 1) := wn_at gdX0_obey_18 2 rfl
theorem dX0_obey_23 : decode cX0_obey 23 = .ok (.aload_n 0, 1) := wn_at gdX0_obey_18 3 rfl
theorem dX0_obey_24 : decode cX0_obey 24 = .ok (.iload_n 3, 1) := wn_at gdX0_obey_18 4 rfl
theorem dX0_obey_25 : decode cX0_obey 25 = .ok (.invokevirtual 63, 3) := wn_at gdX0_obey_18 5 rfl
theorem dX0_obey_28 : decode cX0_obey 28 = .ok (.istore 4, 2) := wn_at gdX0_obey_18 6 rfl
theorem dX0_obey_30 : decode cX0_obey 30 = .ok (.iload 4, 2) := wn_at gdX0_obey_18 7 rfl
theorem dX0_obey_32 : decode cX0_obey 32 = .ok (.iconst 0, 1) := wn_at gdX0_obey_18 8 rfl
theorem dX0_obey_33 : decode cX0_obey 33 = .ok (.aload_n 1, 1) := wn_at gdX0_obey_18 9 rfl
theorem gdX0_obey_34 : ∀ e ∈ ([(34, .getfield 69, 3), (37, .iconst 1, 1), (38, .isub, 1), (39, .invokestatic 72, 3), (42, .ifCond .eq 22, 3), (45, .aload_n 0, 1), (46, .aload_n 1, 1), (47, .iload_n 3, 1), (48, .aload_n 1, 1), (49, .aload_n 0, 1)] : List (Nat × Instr × Nat)), decode cX0_obey e.1 = .ok e.2 := wn_all _ 34 (by decide +kernel)
theorem dX0_obey_34 : decode cX0_obey 34 = .ok (.getfield 69, 3) := wn_at gdX0_obey_34 0 rfl
theorem dX0_obey_37 : decode cX0_obey 37 = .ok (.iconst 1, 1) := wn_at gdX0_obey_34 1 rfl
theorem dX0_obey_38 : decode cX0_obey 38 = .ok (.isub, 1) := wn_at gdX0_obey_34 2 rfl
theorem dX0_obey_39 : decode cX0_obey 39 = .ok (.invokestatic 72, 3) := wn_at gdX0_obey_34 3 rfl
theorem dX0_obey_42 : decode cX0_obey 42 = .ok (.ifCond .eq 22, 3) := wn_at gdX0_obey_34 4 rfl
theorem dX0_obey_45 : decode cX0_obey 45 = .ok (.aload_n 0, 1) := wn_at gdX0_obey_34 5 rfl
theorem dX0_obey_46 : decode cX0_obey 46 = .ok (.aload_n 1, 1) := wn_at gdX0_obey_34 6 rfl
theorem dX0_obey_47 : decode cX0_obey 47 = .ok (.iload_n 3, 1) := wn_at gdX0_obey_34 7 rfl
theorem dX0_obey_48 : decode cX0_obey 48 = .ok (.aload_n 1, 1) := wn_at gdX0_obey_34 8 rfl
theorem dX0_obey_49 : decode cX0_obey 49 = .ok (.aload_n 0, 1) := wn_at gdX0_obey_34 9 rfl
theorem gdX0_obey_50 : ∀ e ∈ ([(50, .getfield 9, 3), (53, .iload_n 3, 1), (54, .iaload, 1), (55, .iload 4, 2), (57, .invokevirtual 76, 3), (60, .invokevirtual 79, 3), (63, .pop, 1), (64, .iinc 3 1, 3), (67, .goto (-65), 3), (70, .return_, 1)] : List (Nat × Instr × Nat)), decode cX0_obey e.1 = .ok e.2 := wn_all _ 50 (by decide +kernel)
theorem dX0_obey_50 : decode cX0_obey 50 = .ok (.getfield 9, 3) := wn_at gdX0_obey_50 0 rfl
theorem dX0_obey_53 : decode cX0_obey 53 = .ok (.iload_n 3, 1) := wn_at gdX0_obey_50 1 rfl
theorem dX0_obey_54 : decode cX0_obey 54 = .ok (.iaload, 1) := wn_at gdX0_obey_50 2 rfl
theorem dX0_obey_55 : decode cX0_obey 55 = .ok (.iload 4, 2) := wn_at gdX0_obey_50 3 rfl
theorem dX0_obey_57 : decode cX0_obey 57 = .ok (.invokevirtual 76, 3) := wn_at gdX0_obey_50 4 rfl
theorem dX0_obey_60 : decode cX0_obey 60 = .ok (.invokevirtual 79, 3) := wn_at gdX0_obey_50 5 rfl
theorem dX0_obey_63 : decode cX0_obey 63 = .ok (.pop, 1) := wn_at gdX0_obey_50 6 rfl
theorem dX0_obey_64 : decode cX0_obey 64 = .ok (.iinc 3 1, 3) := wn_at gdX0_obey_50 7 rfl
theorem dX0_obey_67 : decode cX0_obey 67 = .ok (.goto (-65), 3) := wn_at gdX0_obey_50 8 rfl
theorem dX0_obey_70 : decode cX0_obey 70 = .ok (.return_, 1) := wn_at gdX0_obey_50 9 rfl
theorem gdX0_passHour_0 : ∀ e ∈ ([(0, .iconst 0, 1), (1, .istore_n 2, 1), (2, .iload_n 2, 1), (3, .aload_n 0, 1), (4, .getfield 28, 3), (7, .if_icmp .ge 98, 3), (10, .aload_n 0, 1), (11, .iload_n 2, 1), (12, .invokevirtual 45, 3), (15, .ifCond .eq 26, 3)] : List (Nat × Instr × Nat)), decode cX0_passHour e.1 = .ok e.2 := wn_all _ 0 (by decide +kernel)
theorem dX0_passHour_0 : decode cX0_passHour 0 = .ok (.iconst 0, 1) := wn_at gdX0_passHour_0 0 rfl
theorem dX0_passHour_1 : decode cX0_passHour 1 = .ok (.istore_n 2, 1) := wn_at gdX0_passHour_0 1 rfl
theorem dX0_passHour_2 : decode cX0_passHour 2 = .ok (.iload_n 2, 1) := wn_at gdX0_passHour_0 2 rfl
theorem dX0_passHour_3 : decode cX0_passHour 3 = .ok (.aload_n 0, 1) := wn_at gdX0_passHour_0 3 rfl
theorem dX0_passHour_4 : decode cX0_passHour 4 = .ok (.getfield 28, 3) := wn_at gdX0_passHour_0 4 rfl
theorem dX0_passHour_7 : decode cX0_passHour 7 = .ok (.if_icmp .ge 98, 3) := wn_at gdX0_passHour_0 5 rfl
theorem dX0_passHour_10 : decode cX0_passHour 10 = .ok (.aload_n 0, 1) := wn_at gdX0_passHour_0 6 rfl
theorem dX0_passHour_11 : decode cX0_passHour 11 = .ok (.iload_n 2, 1) := wn_at gdX0_passHour_0 7 rfl
theorem dX0_passHour_12 : decode cX0_passHour 12 = .ok (.invokevirtual 45, 3) := wn_at gdX0_passHour_0 8 rfl
theorem dX0_passHour_15 : decode cX0_passHour 15 = .ok (.ifCond .eq 26, 3) := wn_at gdX0_passHour_0 9 rfl
theorem gdX0_passHour_18 : ∀ e ∈ ([(18, .aload_n 0, 1), (19, .getfield 24, 3), (22, .iload_n 2, 1), (23, .dup2, 1), (24, .laload, 1), (25, .aload_n 1, 1), (26, .getfield 83, 3), (29, .aload_n 0, 1), (30, .getfield 9, 3), (33, .iload_n 2, 1)] : List (Nat × Instr × Nat)), decode cX0_passHour e.1 = .ok e.2 := wn_all _ 18 (by decide +kernel)
theorem dX0_passHour_18 : decode cX0_passHour 18 = .ok (.aload_n 0, 1) := wn_at gdX0_passHour_18 0 rfl
theorem dX0_passHour_19 : decode cX0_passHour 19 = .ok (.getfield 24, 3) := wn_at gdX0_passHour_18 1 rfl
theorem dX0_passHour_22 : decode cX0_passHour 22 = .ok (.iload_n 2, 1) := wn_at gdX0_passHour_18 2 rfl
theorem dX0_passHour_23 : decode cX0_passHour 23 = .ok (.dup2, 1) := wn_at gdX0_passHour_18 3 rfl
theorem dX0_passHour_24 : decode cX0_passHour 24 = .ok (.laload, 1) := wn_at gdX0_passHour_18 4 rfl
theorem dX0_passHour_25 : decode cX0_passHour 25 = .ok (.aload_n 1, 1) := wn_at gdX0_passHour_18 5 rfl
theorem dX0_passHour_26 : decode cX0_passHour 26 = .ok (.getfield 83, 3) := wn_at gdX0_passHour_18 6 rfl
theorem dX0_passHour_29 : decode cX0_passHour 29 = .ok (.aload_n 0, 1) := wn_at gdX0_passHour_18 7 rfl
theorem dX0_passHour_30 : decode cX0_passHour 30 = .ok (.getfield 9, 3) := wn_at gdX0_passHour_18 8 rfl
theorem dX0_passHour_33 : decode cX0_passHour 33 = .ok (.iload_n 2, 1) := wn_at gdX0_passHour_18 9 rfl
theorem gdX0_passHour_34 : ∀ e ∈ ([(34, .iaload, 1), (35, .laload, 1), (36, .ladd, 1), (37, .lastore, 1), (38, .goto 61, 3), (41, .aload_n 0, 1), (42, .getfield 15, 3), (45, .iload_n 2, 1), (46, .iaload, 1), (47, .istore_n 3, 1)] : List (Nat × Instr × Nat)), decode cX0_passHour e.1 = .ok e.2 := wn_all _ 34 (by decide +kernel)
theorem dX0_passHour_34 : decode cX0_passHour 34 = .ok (.iaload, 1) := wn_at gdX0_passHour_34 0 rfl
theorem dX0_passHour_35 : decode cX0_passHour 35 = .ok (.laload, 1) := wn_at gdX0_passHour_34 1 rfl
theorem dX0_passHour_36 : decode cX0_passHour 36 = .ok (.ladd, 1) := wn_at gdX0_passHour_34 2 rfl
theorem dX0_passHour_37 : decode cX0_passHour 37 = .ok (.lastore, 1) := wn_at gdX0_passHour_34 3 rfl
theorem dX0_passHour_38 : decode cX0_passHour 38 = .ok (.goto 61, 3) := wn_at gdX0_passHour_34 4 rfl
theorem dX0_passHour_41 : decode cX0_passHour 41 = .ok (.aload_n 0, 1) := wn_at gdX0_passHour_34 5 rfl
theorem dX0_passHour_42 : decode cX0_passHour 42 = .ok (.getfield 15, 3) := wn_at gdX0_passHour_34 6 rfl
theorem dX0_passHour_45 : decode cX0_passHour 45 = .ok (.iload_n 2, 1) := wn_at gdX0_passHour_34 7 rfl
theorem dX0_passHour_46 : decode cX0_passHour 46 = .ok (.iaload, 1) := wn_at gdX0_passHour_34 8 rfl
theorem dX0_passHour_47 : decode cX0_passHour 47 = .ok (.istore_n 3, 1) := wn_at gdX0_passHour_34 9 rfl
theorem gdX0_passHour_48 : ∀ e ∈ ([(48, .aload_n 0, 1), (49, .getfield 24, 3), (52, .iload_n 2, 1), (53, .dup2, 1), (54, .laload, 1), (55, .aload_n 1, 1), (56, .getfield 86, 3), (59, .iload_n 3, 1), (60, .laload, 1), (61, .ladd, 1)] : List (Nat × Instr × Nat)), decode cX0_passHour e.1 = .ok e.2 := wn_all _ 48 (by decide +kernel)
theorem dX0_passHour_48 : decode cX0_passHour 48 = .ok (.aload_n 0, 1) := wn_at gdX0_passHour_48 0 rfl
theorem dX0_passHour_49 : decode cX0_passHour 49 = .ok (.getfield 24, 3) := wn_at gdX0_passHour_48 1 rfl
theorem dX0_passHour_52 : decode cX0_passHour 52 = .ok (.iload_n 2, 1) := wn_at gdX0_passHour_48 2 rfl
theorem dX0_passHour_53 : decode cX0_passHour 53 = .ok (.dup2, 1) := wn_at gdX0_passHour_48 3 rfl
theorem dX0_passHour_54 : decode cX0_passHour 54 = .ok (.laload, 1) := wn_at gdX0_passHour_48 4 rfl
theorem dX0_passHour_55 : decode cX0_passHour 55 = .ok (.aload_n 1, 1) := wn_at gdX0_passHour_48 5 rfl
theorem dX0_passHour_56 : decode cX0_passHour 56 = .ok (.getfield 86, 3) := wn_at gdX0_passHour_48 6 rfl
theorem dX0_passHour_59 : decode cX0_passHour 59 = .ok (.iload_n 3, 1) := wn_at gdX0_passHour_48 7 rfl
theorem dX0_passHour_60 : decode cX0_passHour 60 = .ok (.laload, 1) := wn_at gdX0_passHour_48 8 rfl
theorem dX0_passHour_61 : decode cX0_passHour 61 = .ok (.ladd, 1) := wn_at gdX0_passHour_48 9 rfl
theorem gdX0_passHour_62 : ∀ e ∈ ([(62, .lastore, 1), (63, .aload_n 0, 1), (64, .getfield 18, 3), (67, .iload_n 2, 1), (68, .dup2, 1), (69, .iaload, 1), (70, .iconst 1, 1), (71, .iadd, 1), (72, .iastore, 1), (73, .aload_n 0, 1)] : List (Nat × Instr × Nat)), decode cX0_passHour e.1 = .ok e.2 := wn_all _ 62 (by decide +kernel)
theorem dX0_passHour_62 : decode cX0_passHour 62 = .ok (.lastore, 1) := wn_at gdX0_passHour_62 0 rfl
theorem dX0_passHour_63 : decode cX0_passHour 63 = .ok (.aload_n 0, 1) := wn_at gdX0_passHour_62 1 rfl
theorem dX0_passHour_64 : decode cX0_passHour 64 = .ok (.getfield 18, 3) := wn_at gdX0_passHour_62 2 rfl
theorem dX0_passHour_67 : decode cX0_passHour 67 = .ok (.iload_n 2, 1) := wn_at gdX0_passHour_62 3 rfl
theorem dX0_passHour_68 : decode cX0_passHour 68 = .ok (.dup2, 1) := wn_at gdX0_passHour_62 4 rfl
theorem dX0_passHour_69 : decode cX0_passHour 69 = .ok (.iaload, 1) := wn_at gdX0_passHour_62 5 rfl
theorem dX0_passHour_70 : decode cX0_passHour 70 = .ok (.iconst 1, 1) := wn_at gdX0_passHour_62 6 rfl
theorem dX0_passHour_71 : decode cX0_passHour 71 = .ok (.iadd, 1) := wn_at gdX0_passHour_62 7 rfl
theorem dX0_passHour_72 : decode cX0_passHour 72 = .ok (.iastore, 1) := wn_at gdX0_passHour_62 8 rfl
theorem dX0_passHour_73 : decode cX0_passHour 73 = .ok (.aload_n 0, 1) := wn_at gdX0_passHour_62 9 rfl
theorem gdX0_passHour_74 : ∀ e ∈ ([(74, .getfield 18, 3), (77, .iload_n 2, 1), (78, .iaload, 1), (79, .aload_n 1, 1), (80, .getfield 89, 3), (83, .iload_n 3, 1), (84, .iaload, 1), (85, .if_icmp .lt 14, 3), (88, .aload_n 0, 1), (89, .iload_n 2, 1)] : List (Nat × Instr × Nat)), decode cX0_passHour e.1 = .ok e.2 := wn_all _ 74 (by decide +kernel)
theorem dX0_passHour_74 : decode cX0_passHour 74 = .ok (.getfield 18, 3) := wn_at gdX0_passHour_74 0 rfl
theorem dX0_passHour_77 : decode cX0_passHour 77 = .ok (.iload_n 2, 1) := wn_at gdX0_passHour_74 1 rfl
theorem dX0_passHour_78 : decode cX0_passHour 78 = .ok (.iaload, 1) := wn_at gdX0_passHour_74 2 rfl
theorem dX0_passHour_79 : decode cX0_passHour 79 = .ok (.aload_n 1, 1) := wn_at gdX0_passHour_74 3 rfl
theorem dX0_passHour_80 : decode cX0_passHour 80 = .ok (.getfield 89, 3) := wn_at gdX0_passHour_74 4 rfl
theorem dX0_passHour_83 : decode cX0_passHour 83 = .ok (.iload_n 3, 1) := wn_at gdX0_passHour_74 5 rfl
theorem dX0_passHour_84 : decode cX0_passHour 84 = .ok (.iaload, 1) := wn_at gdX0_passHour_74 6 rfl
theorem dX0_passHour_85 : decode cX0_passHour 85 = .ok (.if_icmp .lt 14, 3) := wn_at gdX0_passHour_74 7 rfl
theorem dX0_passHour_88 : decode cX0_passHour 88 = .ok (.aload_n 0, 1) := wn_at gdX0_passHour_74 8 rfl
theorem dX0_passHour_89 : decode cX0_passHour 89 = .ok (.iload_n 2, 1) := wn_at gdX0_passHour_74 9 rfl
theorem gdX0_passHour_90 : ∀ e ∈ ([(90, .aload_n 0, 1), (91, .getfield 21, 3), (94, .iload_n 2, 1), (95, .iaload, 1), (96, .invokevirtual 41, 3), (99, .iinc 2 1, 3), (102, .goto (-100), 3), (105, .aload_n 0, 1), (106, .dup, 1), (107, .getfield 32, 3)] : List (Nat × Instr × Nat)), decode cX0_passHour e.1 = .ok e.2 := wn_all _ 90 (by decide +kernel)
theorem dX0_passHour_90 : decode cX0_passHour 90 = .ok (.aload_n 0, 1) := wn_at gdX0_passHour_90 0 rfl
theorem dX0_passHour_91 : decode cX0_passHour 91 = .ok (.getfield 21, 3) := wn_at gdX0_passHour_90 1 rfl
theorem dX0_passHour_94 : decode cX0_passHour 94 = .ok (.iload_n 2, 1) := wn_at gdX0_passHour_90 2 rfl
theorem dX0_passHour_95 : decode cX0_passHour 95 = .ok (.iaload, 1) := wn_at gdX0_passHour_90 3 rfl
theorem dX0_passHour_96 : decode cX0_passHour 96 = .ok (.invokevirtual 41, 3) := wn_at gdX0_passHour_90 4 rfl
theorem dX0_passHour_99 : decode cX0_passHour 99 = .ok (.iinc 2 1, 3) := wn_at gdX0_passHour_90 5 rfl
theorem dX0_passHour_102 : decode cX0_passHour 102 = .ok (.goto (-100), 3) := wn_at gdX0_passHour_90 6 rfl
theorem dX0_passHour_105 : decode cX0_passHour 105 = .ok (.aload_n 0, 1) := wn_at gdX0_passHour_90 7 rfl
theorem dX0_passHour_106 : decode cX0_passHour 106 = .ok (.dup, 1) := wn_at gdX0_passHour_90 8 rfl
theorem dX0_passHour_107 : decode cX0_passHour 107 = .ok (.getfield 32, 3) := wn_at gdX0_passHour_90 9 rfl
theorem gdX0_passHour_110 : ∀ e ∈ ([(110, .iconst 1, 1), (111, .iadd, 1), (112, .putfield 32, 3), (115, .return_, 1)] : List (Nat × Instr × Nat)), decode cX0_passHour e.1 = .ok e.2 := wn_all _ 110 (by decide +kernel)
theorem dX0_passHour_110 : decode cX0_passHour 110 = .ok (.iconst 1, 1) := wn_at gdX0_passHour_110 0 rfl
theorem dX0_passHour_111 : decode cX0_passHour 111 = .ok (.iadd, 1) := wn_at gdX0_passHour_110 1 rfl
theorem dX0_passHour_112 : decode cX0_passHour 112 = .ok (.putfield 32, 3) := wn_at gdX0_passHour_110 2 rfl
theorem dX0_passHour_115 : decode cX0_passHour 115 = .ok (.return_, 1) := wn_at gdX0_passHour_110 3 rfl
theorem gdX0_standingOn_0 : ∀ e ∈ ([(0, .iconst 0, 1), (1, .istore_n 2, 1), (2, .iconst 0, 1), (3, .istore_n 3, 1), (4, .iload_n 3, 1), (5, .aload_n 0, 1), (6, .getfield 28, 3), (9, .if_icmp .ge 27, 3), (12, .iload_n 2, 1), (13, .aload_n 0, 1)] : List (Nat × Instr × Nat)), decode cX0_standingOn e.1 = .ok e.2 := wn_all _ 0 (by decide +kernel)
theorem dX0_standingOn_0 : decode cX0_standingOn 0 = .ok (.iconst 0, 1) := wn_at gdX0_standingOn_0 0 rfl
theorem dX0_standingOn_1 : decode cX0_standingOn 1 = .ok (.istore_n 2, 1) := wn_at gdX0_standingOn_0 1 rfl
theorem dX0_standingOn_2 : decode cX0_standingOn 2 = .ok (.iconst 0, 1) := wn_at gdX0_standingOn_0 2 rfl
theorem dX0_standingOn_3 : decode cX0_standingOn 3 = .ok (.istore_n 3, 1) := wn_at gdX0_standingOn_0 3 rfl
theorem dX0_standingOn_4 : decode cX0_standingOn 4 = .ok (.iload_n 3, 1) := wn_at gdX0_standingOn_0 4 rfl
theorem dX0_standingOn_5 : decode cX0_standingOn 5 = .ok (.aload_n 0, 1) := wn_at gdX0_standingOn_0 5 rfl
theorem dX0_standingOn_6 : decode cX0_standingOn 6 = .ok (.getfield 28, 3) := wn_at gdX0_standingOn_0 6 rfl
theorem dX0_standingOn_9 : decode cX0_standingOn 9 = .ok (.if_icmp .ge 27, 3) := wn_at gdX0_standingOn_0 7 rfl
theorem dX0_standingOn_12 : decode cX0_standingOn 12 = .ok (.iload_n 2, 1) := wn_at gdX0_standingOn_0 8 rfl
theorem dX0_standingOn_13 : decode cX0_standingOn 13 = .ok (.aload_n 0, 1) := wn_at gdX0_standingOn_0 9 rfl
theorem gdX0_standingOn_14 : ∀ e ∈ ([(14, .getfield 9, 3), (17, .iload_n 3, 1), (18, .iaload, 1), (19, .iload_n 1, 1), (20, .if_icmp .ne 7, 3), (23, .iconst 1, 1), (24, .goto 4, 3), (27, .iconst 0, 1), (28, .iadd, 1), (29, .istore_n 2, 1)] : List (Nat × Instr × Nat)), decode cX0_standingOn e.1 = .ok e.2 := wn_all _ 14 (by decide +kernel)
theorem dX0_standingOn_14 : decode cX0_standingOn 14 = .ok (.getfield 9, 3) := wn_at gdX0_standingOn_14 0 rfl
theorem dX0_standingOn_17 : decode cX0_standingOn 17 = .ok (.iload_n 3, 1) := wn_at gdX0_standingOn_14 1 rfl
theorem dX0_standingOn_18 : decode cX0_standingOn 18 = .ok (.iaload, 1) := wn_at gdX0_standingOn_14 2 rfl
theorem dX0_standingOn_19 : decode cX0_standingOn 19 = .ok (.iload_n 1, 1) := wn_at gdX0_standingOn_14 3 rfl
theorem dX0_standingOn_20 : decode cX0_standingOn 20 = .ok (.if_icmp .ne 7, 3) := wn_at gdX0_standingOn_14 4 rfl
theorem dX0_standingOn_23 : decode cX0_standingOn 23 = .ok (.iconst 1, 1) := wn_at gdX0_standingOn_14 5 rfl
theorem dX0_standingOn_24 : decode cX0_standingOn 24 = .ok (.goto 4, 3) := wn_at gdX0_standingOn_14 6 rfl
theorem dX0_standingOn_27 : decode cX0_standingOn 27 = .ok (.iconst 0, 1) := wn_at gdX0_standingOn_14 7 rfl
theorem dX0_standingOn_28 : decode cX0_standingOn 28 = .ok (.iadd, 1) := wn_at gdX0_standingOn_14 8 rfl
theorem dX0_standingOn_29 : decode cX0_standingOn 29 = .ok (.istore_n 2, 1) := wn_at gdX0_standingOn_14 9 rfl
theorem gdX0_standingOn_30 : ∀ e ∈ ([(30, .iinc 3 1, 3), (33, .goto (-29), 3), (36, .iload_n 2, 1), (37, .ireturn, 1)] : List (Nat × Instr × Nat)), decode cX0_standingOn e.1 = .ok e.2 := wn_all _ 30 (by decide +kernel)
theorem dX0_standingOn_30 : decode cX0_standingOn 30 = .ok (.iinc 3 1, 3) := wn_at gdX0_standingOn_30 0 rfl
theorem dX0_standingOn_33 : decode cX0_standingOn 33 = .ok (.goto (-29), 3) := wn_at gdX0_standingOn_30 1 rfl
theorem dX0_standingOn_36 : decode cX0_standingOn 36 = .ok (.iload_n 2, 1) := wn_at gdX0_standingOn_30 2 rfl
theorem dX0_standingOn_37 : decode cX0_standingOn 37 = .ok (.ireturn, 1) := wn_at gdX0_standingOn_30 3 rfl
theorem gdX0_accompanied_0 : ∀ e ∈ ([(0, .iconst 0, 1), (1, .istore_n 1, 1), (2, .iconst 0, 1), (3, .istore_n 2, 1), (4, .iload_n 2, 1), (5, .aload_n 0, 1), (6, .getfield 28, 3), (9, .if_icmp .ge 39, 3), (12, .iload_n 1, 1), (13, .aload_n 0, 1)] : List (Nat × Instr × Nat)), decode cX0_accompanied e.1 = .ok e.2 := wn_all _ 0 (by decide +kernel)
theorem dX0_accompanied_0 : decode cX0_accompanied 0 = .ok (.iconst 0, 1) := wn_at gdX0_accompanied_0 0 rfl
theorem dX0_accompanied_1 : decode cX0_accompanied 1 = .ok (.istore_n 1, 1) := wn_at gdX0_accompanied_0 1 rfl
theorem dX0_accompanied_2 : decode cX0_accompanied 2 = .ok (.iconst 0, 1) := wn_at gdX0_accompanied_0 2 rfl
theorem dX0_accompanied_3 : decode cX0_accompanied 3 = .ok (.istore_n 2, 1) := wn_at gdX0_accompanied_0 3 rfl
theorem dX0_accompanied_4 : decode cX0_accompanied 4 = .ok (.iload_n 2, 1) := wn_at gdX0_accompanied_0 4 rfl
theorem dX0_accompanied_5 : decode cX0_accompanied 5 = .ok (.aload_n 0, 1) := wn_at gdX0_accompanied_0 5 rfl
theorem dX0_accompanied_6 : decode cX0_accompanied 6 = .ok (.getfield 28, 3) := wn_at gdX0_accompanied_0 6 rfl
theorem dX0_accompanied_9 : decode cX0_accompanied 9 = .ok (.if_icmp .ge 39, 3) := wn_at gdX0_accompanied_0 7 rfl
theorem dX0_accompanied_12 : decode cX0_accompanied 12 = .ok (.iload_n 1, 1) := wn_at gdX0_accompanied_0 8 rfl
theorem dX0_accompanied_13 : decode cX0_accompanied 13 = .ok (.aload_n 0, 1) := wn_at gdX0_accompanied_0 9 rfl
theorem gdX0_accompanied_14 : ∀ e ∈ ([(14, .iload_n 2, 1), (15, .invokevirtual 45, 3), (18, .ifCond .eq 21, 3), (21, .aload_n 0, 1), (22, .aload_n 0, 1), (23, .getfield 9, 3), (26, .iload_n 2, 1), (27, .iaload, 1), (28, .invokevirtual 92, 3), (31, .iconst 1, 1)] : List (Nat × Instr × Nat)), decode cX0_accompanied e.1 = .ok e.2 := wn_all _ 14 (by decide +kernel)
theorem dX0_accompanied_14 : decode cX0_accompanied 14 = .ok (.iload_n 2, 1) := wn_at gdX0_accompanied_14 0 rfl
theorem dX0_accompanied_15 : decode cX0_accompanied 15 = .ok (.invokevirtual 45, 3) := wn_at gdX0_accompanied_14 1 rfl
theorem dX0_accompanied_18 : decode cX0_accompanied 18 = .ok (.ifCond .eq 21, 3) := wn_at gdX0_accompanied_14 2 rfl
theorem dX0_accompanied_21 : decode cX0_accompanied 21 = .ok (.aload_n 0, 1) := wn_at gdX0_accompanied_14 3 rfl
theorem dX0_accompanied_22 : decode cX0_accompanied 22 = .ok (.aload_n 0, 1) := wn_at gdX0_accompanied_14 4 rfl
theorem dX0_accompanied_23 : decode cX0_accompanied 23 = .ok (.getfield 9, 3) := wn_at gdX0_accompanied_14 5 rfl
theorem dX0_accompanied_26 : decode cX0_accompanied 26 = .ok (.iload_n 2, 1) := wn_at gdX0_accompanied_14 6 rfl
theorem dX0_accompanied_27 : decode cX0_accompanied 27 = .ok (.iaload, 1) := wn_at gdX0_accompanied_14 7 rfl
theorem dX0_accompanied_28 : decode cX0_accompanied 28 = .ok (.invokevirtual 92, 3) := wn_at gdX0_accompanied_14 8 rfl
theorem dX0_accompanied_31 : decode cX0_accompanied 31 = .ok (.iconst 1, 1) := wn_at gdX0_accompanied_14 9 rfl
theorem gdX0_accompanied_32 : ∀ e ∈ ([(32, .if_icmp .le 7, 3), (35, .iconst 1, 1), (36, .goto 4, 3), (39, .iconst 0, 1), (40, .iadd, 1), (41, .istore_n 1, 1), (42, .iinc 2 1, 3), (45, .goto (-41), 3), (48, .iload_n 1, 1), (49, .ireturn, 1)] : List (Nat × Instr × Nat)), decode cX0_accompanied e.1 = .ok e.2 := wn_all _ 32 (by decide +kernel)
theorem dX0_accompanied_32 : decode cX0_accompanied 32 = .ok (.if_icmp .le 7, 3) := wn_at gdX0_accompanied_32 0 rfl
theorem dX0_accompanied_35 : decode cX0_accompanied 35 = .ok (.iconst 1, 1) := wn_at gdX0_accompanied_32 1 rfl
theorem dX0_accompanied_36 : decode cX0_accompanied 36 = .ok (.goto 4, 3) := wn_at gdX0_accompanied_32 2 rfl
theorem dX0_accompanied_39 : decode cX0_accompanied 39 = .ok (.iconst 0, 1) := wn_at gdX0_accompanied_32 3 rfl
theorem dX0_accompanied_40 : decode cX0_accompanied 40 = .ok (.iadd, 1) := wn_at gdX0_accompanied_32 4 rfl
theorem dX0_accompanied_41 : decode cX0_accompanied 41 = .ok (.istore_n 1, 1) := wn_at gdX0_accompanied_32 5 rfl
theorem dX0_accompanied_42 : decode cX0_accompanied 42 = .ok (.iinc 2 1, 3) := wn_at gdX0_accompanied_32 6 rfl
theorem dX0_accompanied_45 : decode cX0_accompanied 45 = .ok (.goto (-41), 3) := wn_at gdX0_accompanied_32 7 rfl
theorem dX0_accompanied_48 : decode cX0_accompanied 48 = .ok (.iload_n 1, 1) := wn_at gdX0_accompanied_32 8 rfl
theorem dX0_accompanied_49 : decode cX0_accompanied 49 = .ok (.ireturn, 1) := wn_at gdX0_accompanied_32 9 rfl
theorem gdX0_going_0 : ∀ e ∈ ([(0, .iconst 0, 1), (1, .istore_n 1, 1), (2, .iconst 0, 1), (3, .istore_n 2, 1), (4, .iload_n 2, 1), (5, .aload_n 0, 1), (6, .getfield 28, 3), (9, .if_icmp .ge 25, 3), (12, .iload_n 1, 1), (13, .aload_n 0, 1)] : List (Nat × Instr × Nat)), decode cX0_going e.1 = .ok e.2 := wn_all _ 0 (by decide +kernel)
theorem dX0_going_0 : decode cX0_going 0 = .ok (.iconst 0, 1) := wn_at gdX0_going_0 0 rfl
theorem dX0_going_1 : decode cX0_going 1 = .ok (.istore_n 1, 1) := wn_at gdX0_going_0 1 rfl
theorem dX0_going_2 : decode cX0_going 2 = .ok (.iconst 0, 1) := wn_at gdX0_going_0 2 rfl
theorem dX0_going_3 : decode cX0_going 3 = .ok (.istore_n 2, 1) := wn_at gdX0_going_0 3 rfl
theorem dX0_going_4 : decode cX0_going 4 = .ok (.iload_n 2, 1) := wn_at gdX0_going_0 4 rfl
theorem dX0_going_5 : decode cX0_going 5 = .ok (.aload_n 0, 1) := wn_at gdX0_going_0 5 rfl
theorem dX0_going_6 : decode cX0_going 6 = .ok (.getfield 28, 3) := wn_at gdX0_going_0 6 rfl
theorem dX0_going_9 : decode cX0_going 9 = .ok (.if_icmp .ge 25, 3) := wn_at gdX0_going_0 7 rfl
theorem dX0_going_12 : decode cX0_going 12 = .ok (.iload_n 1, 1) := wn_at gdX0_going_0 8 rfl
theorem dX0_going_13 : decode cX0_going 13 = .ok (.aload_n 0, 1) := wn_at gdX0_going_0 9 rfl
theorem gdX0_going_14 : ∀ e ∈ ([(14, .iload_n 2, 1), (15, .invokevirtual 45, 3), (18, .ifCond .eq 7, 3), (21, .iconst 0, 1), (22, .goto 4, 3), (25, .iconst 1, 1), (26, .iadd, 1), (27, .istore_n 1, 1), (28, .iinc 2 1, 3), (31, .goto (-27), 3)] : List (Nat × Instr × Nat)), decode cX0_going e.1 = .ok e.2 := wn_all _ 14 (by decide +kernel)
theorem dX0_going_14 : decode cX0_going 14 = .ok (.iload_n 2, 1) := wn_at gdX0_going_14 0 rfl
theorem dX0_going_15 : decode cX0_going 15 = .ok (.invokevirtual 45, 3) := wn_at gdX0_going_14 1 rfl
theorem dX0_going_18 : decode cX0_going 18 = .ok (.ifCond .eq 7, 3) := wn_at gdX0_going_14 2 rfl
theorem dX0_going_21 : decode cX0_going 21 = .ok (.iconst 0, 1) := wn_at gdX0_going_14 3 rfl
theorem dX0_going_22 : decode cX0_going 22 = .ok (.goto 4, 3) := wn_at gdX0_going_14 4 rfl
theorem dX0_going_25 : decode cX0_going 25 = .ok (.iconst 1, 1) := wn_at gdX0_going_14 5 rfl
theorem dX0_going_26 : decode cX0_going 26 = .ok (.iadd, 1) := wn_at gdX0_going_14 6 rfl
theorem dX0_going_27 : decode cX0_going 27 = .ok (.istore_n 1, 1) := wn_at gdX0_going_14 7 rfl
theorem dX0_going_28 : decode cX0_going 28 = .ok (.iinc 2 1, 3) := wn_at gdX0_going_14 8 rfl
theorem dX0_going_31 : decode cX0_going 31 = .ok (.goto (-27), 3) := wn_at gdX0_going_14 9 rfl
theorem gdX0_going_34 : ∀ e ∈ ([(34, .iload_n 1, 1), (35, .ireturn, 1)] : List (Nat × Instr × Nat)), decode cX0_going e.1 = .ok e.2 := wn_all _ 34 (by decide +kernel)
theorem dX0_going_34 : decode cX0_going 34 = .ok (.iload_n 1, 1) := wn_at gdX0_going_34 0 rfl
theorem dX0_going_35 : decode cX0_going 35 = .ok (.ireturn, 1) := wn_at gdX0_going_34 1 rfl
theorem gdX0_eldest_0 : ∀ e ∈ ([(0, .iconst 0, 1), (1, .istore_n 1, 1), (2, .iconst 1, 1), (3, .istore_n 2, 1), (4, .iload_n 2, 1), (5, .aload_n 0, 1), (6, .getfield 28, 3), (9, .if_icmp .ge 31, 3), (12, .aload_n 0, 1), (13, .getfield 24, 3)] : List (Nat × Instr × Nat)), decode cX0_eldest e.1 = .ok e.2 := wn_all _ 0 (by decide +kernel)
theorem dX0_eldest_0 : decode cX0_eldest 0 = .ok (.iconst 0, 1) := wn_at gdX0_eldest_0 0 rfl
theorem dX0_eldest_1 : decode cX0_eldest 1 = .ok (.istore_n 1, 1) := wn_at gdX0_eldest_0 1 rfl
theorem dX0_eldest_2 : decode cX0_eldest 2 = .ok (.iconst 1, 1) := wn_at gdX0_eldest_0 2 rfl
theorem dX0_eldest_3 : decode cX0_eldest 3 = .ok (.istore_n 2, 1) := wn_at gdX0_eldest_0 3 rfl
theorem dX0_eldest_4 : decode cX0_eldest 4 = .ok (.iload_n 2, 1) := wn_at gdX0_eldest_0 4 rfl
theorem dX0_eldest_5 : decode cX0_eldest 5 = .ok (.aload_n 0, 1) := wn_at gdX0_eldest_0 5 rfl
theorem dX0_eldest_6 : decode cX0_eldest 6 = .ok (.getfield 28, 3) := wn_at gdX0_eldest_0 6 rfl
theorem dX0_eldest_9 : decode cX0_eldest 9 = .ok (.if_icmp .ge 31, 3) := wn_at gdX0_eldest_0 7 rfl
theorem dX0_eldest_12 : decode cX0_eldest 12 = .ok (.aload_n 0, 1) := wn_at gdX0_eldest_0 8 rfl
theorem dX0_eldest_13 : decode cX0_eldest 13 = .ok (.getfield 24, 3) := wn_at gdX0_eldest_0 9 rfl
theorem gdX0_eldest_16 : ∀ e ∈ ([(16, .iload_n 2, 1), (17, .laload, 1), (18, .aload_n 0, 1), (19, .getfield 24, 3), (22, .iload_n 1, 1), (23, .laload, 1), (24, .lcmp, 1), (25, .ifCond .le 7, 3), (28, .iload_n 2, 1), (29, .goto 4, 3)] : List (Nat × Instr × Nat)), decode cX0_eldest e.1 = .ok e.2 := wn_all _ 16 (by decide +kernel)
theorem dX0_eldest_16 : decode cX0_eldest 16 = .ok (.iload_n 2, 1) := wn_at gdX0_eldest_16 0 rfl
theorem dX0_eldest_17 : decode cX0_eldest 17 = .ok (.laload, 1) := wn_at gdX0_eldest_16 1 rfl
theorem dX0_eldest_18 : decode cX0_eldest 18 = .ok (.aload_n 0, 1) := wn_at gdX0_eldest_16 2 rfl
theorem dX0_eldest_19 : decode cX0_eldest 19 = .ok (.getfield 24, 3) := wn_at gdX0_eldest_16 3 rfl
theorem dX0_eldest_22 : decode cX0_eldest 22 = .ok (.iload_n 1, 1) := wn_at gdX0_eldest_16 4 rfl
theorem dX0_eldest_23 : decode cX0_eldest 23 = .ok (.laload, 1) := wn_at gdX0_eldest_16 5 rfl
theorem dX0_eldest_24 : decode cX0_eldest 24 = .ok (.lcmp, 1) := wn_at gdX0_eldest_16 6 rfl
theorem dX0_eldest_25 : decode cX0_eldest 25 = .ok (.ifCond .le 7, 3) := wn_at gdX0_eldest_16 7 rfl
theorem dX0_eldest_28 : decode cX0_eldest 28 = .ok (.iload_n 2, 1) := wn_at gdX0_eldest_16 8 rfl
theorem dX0_eldest_29 : decode cX0_eldest 29 = .ok (.goto 4, 3) := wn_at gdX0_eldest_16 9 rfl
theorem gdX0_eldest_32 : ∀ e ∈ ([(32, .iload_n 1, 1), (33, .istore_n 1, 1), (34, .iinc 2 1, 3), (37, .goto (-33), 3), (40, .iload_n 1, 1), (41, .ireturn, 1)] : List (Nat × Instr × Nat)), decode cX0_eldest e.1 = .ok e.2 := wn_all _ 32 (by decide +kernel)
theorem dX0_eldest_32 : decode cX0_eldest 32 = .ok (.iload_n 1, 1) := wn_at gdX0_eldest_32 0 rfl
theorem dX0_eldest_33 : decode cX0_eldest 33 = .ok (.istore_n 1, 1) := wn_at gdX0_eldest_32 1 rfl
theorem dX0_eldest_34 : decode cX0_eldest 34 = .ok (.iinc 2 1, 3) := wn_at gdX0_eldest_32 2 rfl
theorem dX0_eldest_37 : decode cX0_eldest 37 = .ok (.goto (-33), 3) := wn_at gdX0_eldest_32 3 rfl
theorem dX0_eldest_40 : decode cX0_eldest 40 = .ok (.iload_n 1, 1) := wn_at gdX0_eldest_32 4 rfl
theorem dX0_eldest_41 : decode cX0_eldest 41 = .ok (.ireturn, 1) := wn_at gdX0_eldest_32 5 rfl
theorem gdX0_youngest_0 : ∀ e ∈ ([(0, .iconst 0, 1), (1, .istore_n 1, 1), (2, .iconst 1, 1), (3, .istore_n 2, 1), (4, .iload_n 2, 1), (5, .aload_n 0, 1), (6, .getfield 28, 3), (9, .if_icmp .ge 31, 3), (12, .aload_n 0, 1), (13, .getfield 24, 3)] : List (Nat × Instr × Nat)), decode cX0_youngest e.1 = .ok e.2 := wn_all _ 0 (by decide +kernel)
theorem dX0_youngest_0 : decode cX0_youngest 0 = .ok (.iconst 0, 1) := wn_at gdX0_youngest_0 0 rfl
theorem dX0_youngest_1 : decode cX0_youngest 1 = .ok (.istore_n 1, 1) := wn_at gdX0_youngest_0 1 rfl
theorem dX0_youngest_2 : decode cX0_youngest 2 = .ok (.iconst 1, 1) := wn_at gdX0_youngest_0 2 rfl
theorem dX0_youngest_3 : decode cX0_youngest 3 = .ok (.istore_n 2, 1) := wn_at gdX0_youngest_0 3 rfl
theorem dX0_youngest_4 : decode cX0_youngest 4 = .ok (.iload_n 2, 1) := wn_at gdX0_youngest_0 4 rfl
theorem dX0_youngest_5 : decode cX0_youngest 5 = .ok (.aload_n 0, 1) := wn_at gdX0_youngest_0 5 rfl
theorem dX0_youngest_6 : decode cX0_youngest 6 = .ok (.getfield 28, 3) := wn_at gdX0_youngest_0 6 rfl
theorem dX0_youngest_9 : decode cX0_youngest 9 = .ok (.if_icmp .ge 31, 3) := wn_at gdX0_youngest_0 7 rfl
theorem dX0_youngest_12 : decode cX0_youngest 12 = .ok (.aload_n 0, 1) := wn_at gdX0_youngest_0 8 rfl
theorem dX0_youngest_13 : decode cX0_youngest 13 = .ok (.getfield 24, 3) := wn_at gdX0_youngest_0 9 rfl
theorem gdX0_youngest_16 : ∀ e ∈ ([(16, .iload_n 2, 1), (17, .laload, 1), (18, .aload_n 0, 1), (19, .getfield 24, 3), (22, .iload_n 1, 1), (23, .laload, 1), (24, .lcmp, 1), (25, .ifCond .ge 7, 3), (28, .iload_n 2, 1), (29, .goto 4, 3)] : List (Nat × Instr × Nat)), decode cX0_youngest e.1 = .ok e.2 := wn_all _ 16 (by decide +kernel)
theorem dX0_youngest_16 : decode cX0_youngest 16 = .ok (.iload_n 2, 1) := wn_at gdX0_youngest_16 0 rfl
theorem dX0_youngest_17 : decode cX0_youngest 17 = .ok (.laload, 1) := wn_at gdX0_youngest_16 1 rfl
theorem dX0_youngest_18 : decode cX0_youngest 18 = .ok (.aload_n 0, 1) := wn_at gdX0_youngest_16 2 rfl
theorem dX0_youngest_19 : decode cX0_youngest 19 = .ok (.getfield 24, 3) := wn_at gdX0_youngest_16 3 rfl
theorem dX0_youngest_22 : decode cX0_youngest 22 = .ok (.iload_n 1, 1) := wn_at gdX0_youngest_16 4 rfl
theorem dX0_youngest_23 : decode cX0_youngest 23 = .ok (.laload, 1) := wn_at gdX0_youngest_16 5 rfl
theorem dX0_youngest_24 : decode cX0_youngest 24 = .ok (.lcmp, 1) := wn_at gdX0_youngest_16 6 rfl
theorem dX0_youngest_25 : decode cX0_youngest 25 = .ok (.ifCond .ge 7, 3) := wn_at gdX0_youngest_16 7 rfl
theorem dX0_youngest_28 : decode cX0_youngest 28 = .ok (.iload_n 2, 1) := wn_at gdX0_youngest_16 8 rfl
theorem dX0_youngest_29 : decode cX0_youngest 29 = .ok (.goto 4, 3) := wn_at gdX0_youngest_16 9 rfl
theorem gdX0_youngest_32 : ∀ e ∈ ([(32, .iload_n 1, 1), (33, .istore_n 1, 1), (34, .iinc 2 1, 3), (37, .goto (-33), 3), (40, .iload_n 1, 1), (41, .ireturn, 1)] : List (Nat × Instr × Nat)), decode cX0_youngest e.1 = .ok e.2 := wn_all _ 32 (by decide +kernel)
theorem dX0_youngest_32 : decode cX0_youngest 32 = .ok (.iload_n 1, 1) := wn_at gdX0_youngest_32 0 rfl
theorem dX0_youngest_33 : decode cX0_youngest 33 = .ok (.istore_n 1, 1) := wn_at gdX0_youngest_32 1 rfl
theorem dX0_youngest_34 : decode cX0_youngest 34 = .ok (.iinc 2 1, 3) := wn_at gdX0_youngest_32 2 rfl
theorem dX0_youngest_37 : decode cX0_youngest 37 = .ok (.goto (-33), 3) := wn_at gdX0_youngest_32 3 rfl
theorem dX0_youngest_40 : decode cX0_youngest 40 = .ok (.iload_n 1, 1) := wn_at gdX0_youngest_32 4 rfl
theorem dX0_youngest_41 : decode cX0_youngest 41 = .ok (.ireturn, 1) := wn_at gdX0_youngest_32 5 rfl
theorem gdX0_wordOf_0 : ∀ e ∈ ([(0, .iload_n 3, 1)] : List (Nat × Instr × Nat)), decode cX0_wordOf e.1 = .ok e.2 := wn_all _ 0 (by decide +kernel)
theorem dX0_wordOf_0 : decode cX0_wordOf 0 = .ok (.iload_n 3, 1) := wn_at gdX0_wordOf_0 0 rfl
theorem dX0_wordOf_1 : decode cX0_wordOf 1 = .ok (.tableswitch 128 0 6 #[43, 49, 52, 60, 71, 83, 103], 43) := by decide +kernel
theorem gdX0_wordOf_44 : ∀ e ∈ ([(44, .aload_n 0, 1), (45, .getfield 32, 3), (48, .i2l, 1), (49, .lreturn, 1), (50, .iload_n 2, 1), (51, .i2l, 1), (52, .lreturn, 1), (53, .aload_n 0, 1), (54, .getfield 9, 3), (57, .iload_n 2, 1)] : List (Nat × Instr × Nat)), decode cX0_wordOf e.1 = .ok e.2 := wn_all _ 44 (by decide +kernel)
theorem dX0_wordOf_44 : decode cX0_wordOf 44 = .ok (.aload_n 0, 1) := wn_at gdX0_wordOf_44 0 rfl
theorem dX0_wordOf_45 : decode cX0_wordOf 45 = .ok (.getfield 32, 3) := wn_at gdX0_wordOf_44 1 rfl
theorem dX0_wordOf_48 : decode cX0_wordOf 48 = .ok (.i2l, 1) := wn_at gdX0_wordOf_44 2 rfl
theorem dX0_wordOf_49 : decode cX0_wordOf 49 = .ok (.lreturn, 1) := wn_at gdX0_wordOf_44 3 rfl
theorem dX0_wordOf_50 : decode cX0_wordOf 50 = .ok (.iload_n 2, 1) := wn_at gdX0_wordOf_44 4 rfl
theorem dX0_wordOf_51 : decode cX0_wordOf 51 = .ok (.i2l, 1) := wn_at gdX0_wordOf_44 5 rfl
theorem dX0_wordOf_52 : decode cX0_wordOf 52 = .ok (.lreturn, 1) := wn_at gdX0_wordOf_44 6 rfl
theorem dX0_wordOf_53 : decode cX0_wordOf 53 = .ok (.aload_n 0, 1) := wn_at gdX0_wordOf_44 7 rfl
theorem dX0_wordOf_54 : decode cX0_wordOf 54 = .ok (.getfield 9, 3) := wn_at gdX0_wordOf_44 8 rfl
theorem dX0_wordOf_57 : decode cX0_wordOf 57 = .ok (.iload_n 2, 1) := wn_at gdX0_wordOf_44 9 rfl
theorem gdX0_wordOf_58 : ∀ e ∈ ([(58, .iaload, 1), (59, .i2l, 1), (60, .lreturn, 1), (61, .aload_n 0, 1), (62, .getfield 24, 3), (65, .iload_n 2, 1), (66, .laload, 1), (67, .ldc2_w 96, 3), (70, .ldiv, 1), (71, .lreturn, 1)] : List (Nat × Instr × Nat)), decode cX0_wordOf e.1 = .ok e.2 := wn_all _ 58 (by decide +kernel)
theorem dX0_wordOf_58 : decode cX0_wordOf 58 = .ok (.iaload, 1) := wn_at gdX0_wordOf_58 0 rfl
theorem dX0_wordOf_59 : decode cX0_wordOf 59 = .ok (.i2l, 1) := wn_at gdX0_wordOf_58 1 rfl
theorem dX0_wordOf_60 : decode cX0_wordOf 60 = .ok (.lreturn, 1) := wn_at gdX0_wordOf_58 2 rfl
theorem dX0_wordOf_61 : decode cX0_wordOf 61 = .ok (.aload_n 0, 1) := wn_at gdX0_wordOf_58 3 rfl
theorem dX0_wordOf_62 : decode cX0_wordOf 62 = .ok (.getfield 24, 3) := wn_at gdX0_wordOf_58 4 rfl
theorem dX0_wordOf_65 : decode cX0_wordOf 65 = .ok (.iload_n 2, 1) := wn_at gdX0_wordOf_58 5 rfl
theorem dX0_wordOf_66 : decode cX0_wordOf 66 = .ok (.laload, 1) := wn_at gdX0_wordOf_58 6 rfl
theorem dX0_wordOf_67 : decode cX0_wordOf 67 = .ok (.ldc2_w 96, 3) := wn_at gdX0_wordOf_58 7 rfl
theorem dX0_wordOf_70 : decode cX0_wordOf 70 = .ok (.ldiv, 1) := wn_at gdX0_wordOf_58 8 rfl
theorem dX0_wordOf_71 : decode cX0_wordOf 71 = .ok (.lreturn, 1) := wn_at gdX0_wordOf_58 9 rfl
theorem gdX0_wordOf_72 : ∀ e ∈ ([(72, .aload_n 0, 1), (73, .aload_n 0, 1), (74, .getfield 9, 3), (77, .iload_n 2, 1), (78, .iaload, 1), (79, .invokevirtual 92, 3), (82, .i2l, 1), (83, .lreturn, 1), (84, .ldc2_w 98, 3), (87, .aload_n 1, 1)] : List (Nat × Instr × Nat)), decode cX0_wordOf e.1 = .ok e.2 := wn_all _ 72 (by decide +kernel)
theorem dX0_wordOf_72 : decode cX0_wordOf 72 = .ok (.aload_n 0, 1) := wn_at gdX0_wordOf_72 0 rfl
theorem dX0_wordOf_73 : decode cX0_wordOf 73 = .ok (.aload_n 0, 1) := wn_at gdX0_wordOf_72 1 rfl
theorem dX0_wordOf_74 : decode cX0_wordOf 74 = .ok (.getfield 9, 3) := wn_at gdX0_wordOf_72 2 rfl
theorem dX0_wordOf_77 : decode cX0_wordOf 77 = .ok (.iload_n 2, 1) := wn_at gdX0_wordOf_72 3 rfl
theorem dX0_wordOf_78 : decode cX0_wordOf 78 = .ok (.iaload, 1) := wn_at gdX0_wordOf_72 4 rfl
theorem dX0_wordOf_79 : decode cX0_wordOf 79 = .ok (.invokevirtual 92, 3) := wn_at gdX0_wordOf_72 5 rfl
theorem dX0_wordOf_82 : decode cX0_wordOf 82 = .ok (.i2l, 1) := wn_at gdX0_wordOf_72 6 rfl
theorem dX0_wordOf_83 : decode cX0_wordOf 83 = .ok (.lreturn, 1) := wn_at gdX0_wordOf_72 7 rfl
theorem dX0_wordOf_84 : decode cX0_wordOf 84 = .ok (.ldc2_w 98, 3) := wn_at gdX0_wordOf_72 8 rfl
theorem dX0_wordOf_87 : decode cX0_wordOf 87 = .ok (.aload_n 1, 1) := wn_at gdX0_wordOf_72 9 rfl
theorem gdX0_wordOf_88 : ∀ e ∈ ([(88, .getfield 83, 3), (91, .aload_n 0, 1), (92, .getfield 9, 3), (95, .iload_n 2, 1), (96, .iaload, 1), (97, .laload, 1), (98, .lmul, 1), (99, .ldc2_w 96, 3), (102, .ldiv, 1), (103, .lreturn, 1)] : List (Nat × Instr × Nat)), decode cX0_wordOf e.1 = .ok e.2 := wn_all _ 88 (by decide +kernel)
theorem dX0_wordOf_88 : decode cX0_wordOf 88 = .ok (.getfield 83, 3) := wn_at gdX0_wordOf_88 0 rfl
theorem dX0_wordOf_91 : decode cX0_wordOf 91 = .ok (.aload_n 0, 1) := wn_at gdX0_wordOf_88 1 rfl
theorem dX0_wordOf_92 : decode cX0_wordOf 92 = .ok (.getfield 9, 3) := wn_at gdX0_wordOf_88 2 rfl
theorem dX0_wordOf_95 : decode cX0_wordOf 95 = .ok (.iload_n 2, 1) := wn_at gdX0_wordOf_88 3 rfl
theorem dX0_wordOf_96 : decode cX0_wordOf 96 = .ok (.iaload, 1) := wn_at gdX0_wordOf_88 4 rfl
theorem dX0_wordOf_97 : decode cX0_wordOf 97 = .ok (.laload, 1) := wn_at gdX0_wordOf_88 5 rfl
theorem dX0_wordOf_98 : decode cX0_wordOf 98 = .ok (.lmul, 1) := wn_at gdX0_wordOf_88 6 rfl
theorem dX0_wordOf_99 : decode cX0_wordOf 99 = .ok (.ldc2_w 96, 3) := wn_at gdX0_wordOf_88 7 rfl
theorem dX0_wordOf_102 : decode cX0_wordOf 102 = .ok (.ldiv, 1) := wn_at gdX0_wordOf_88 8 rfl
theorem dX0_wordOf_103 : decode cX0_wordOf 103 = .ok (.lreturn, 1) := wn_at gdX0_wordOf_88 9 rfl
theorem gdX0_wordOf_104 : ∀ e ∈ ([(104, .aload_n 0, 1), (105, .getfield 24, 3), (108, .iload_n 2, 1), (109, .laload, 1), (110, .aload_n 0, 1), (111, .getfield 24, 3), (114, .aload_n 0, 1), (115, .invokevirtual 100, 3), (118, .laload, 1), (119, .lcmp, 1)] : List (Nat × Instr × Nat)), decode cX0_wordOf e.1 = .ok e.2 := wn_all _ 104 (by decide +kernel)
theorem dX0_wordOf_104 : decode cX0_wordOf 104 = .ok (.aload_n 0, 1) := wn_at gdX0_wordOf_104 0 rfl
theorem dX0_wordOf_105 : decode cX0_wordOf 105 = .ok (.getfield 24, 3) := wn_at gdX0_wordOf_104 1 rfl
theorem dX0_wordOf_108 : decode cX0_wordOf 108 = .ok (.iload_n 2, 1) := wn_at gdX0_wordOf_104 2 rfl
theorem dX0_wordOf_109 : decode cX0_wordOf 109 = .ok (.laload, 1) := wn_at gdX0_wordOf_104 3 rfl
theorem dX0_wordOf_110 : decode cX0_wordOf 110 = .ok (.aload_n 0, 1) := wn_at gdX0_wordOf_104 4 rfl
theorem dX0_wordOf_111 : decode cX0_wordOf 111 = .ok (.getfield 24, 3) := wn_at gdX0_wordOf_104 5 rfl
theorem dX0_wordOf_114 : decode cX0_wordOf 114 = .ok (.aload_n 0, 1) := wn_at gdX0_wordOf_104 6 rfl
theorem dX0_wordOf_115 : decode cX0_wordOf 115 = .ok (.invokevirtual 100, 3) := wn_at gdX0_wordOf_104 7 rfl
theorem dX0_wordOf_118 : decode cX0_wordOf 118 = .ok (.laload, 1) := wn_at gdX0_wordOf_104 8 rfl
theorem dX0_wordOf_119 : decode cX0_wordOf 119 = .ok (.lcmp, 1) := wn_at gdX0_wordOf_104 9 rfl
theorem gdX0_wordOf_120 : ∀ e ∈ ([(120, .ifCond .ne 7, 3), (123, .lconst 1, 1), (124, .goto 4, 3), (127, .lconst 0, 1), (128, .lreturn, 1), (129, .aload_n 0, 1), (130, .getfield 24, 3), (133, .iload_n 2, 1), (134, .laload, 1), (135, .aload_n 0, 1)] : List (Nat × Instr × Nat)), decode cX0_wordOf e.1 = .ok e.2 := wn_all _ 120 (by decide +kernel)
theorem dX0_wordOf_120 : decode cX0_wordOf 120 = .ok (.ifCond .ne 7, 3) := wn_at gdX0_wordOf_120 0 rfl
theorem dX0_wordOf_123 : decode cX0_wordOf 123 = .ok (.lconst 1, 1) := wn_at gdX0_wordOf_120 1 rfl
theorem dX0_wordOf_124 : decode cX0_wordOf 124 = .ok (.goto 4, 3) := wn_at gdX0_wordOf_120 2 rfl
theorem dX0_wordOf_127 : decode cX0_wordOf 127 = .ok (.lconst 0, 1) := wn_at gdX0_wordOf_120 3 rfl
theorem dX0_wordOf_128 : decode cX0_wordOf 128 = .ok (.lreturn, 1) := wn_at gdX0_wordOf_120 4 rfl
theorem dX0_wordOf_129 : decode cX0_wordOf 129 = .ok (.aload_n 0, 1) := wn_at gdX0_wordOf_120 5 rfl
theorem dX0_wordOf_130 : decode cX0_wordOf 130 = .ok (.getfield 24, 3) := wn_at gdX0_wordOf_120 6 rfl
theorem dX0_wordOf_133 : decode cX0_wordOf 133 = .ok (.iload_n 2, 1) := wn_at gdX0_wordOf_120 7 rfl
theorem dX0_wordOf_134 : decode cX0_wordOf 134 = .ok (.laload, 1) := wn_at gdX0_wordOf_120 8 rfl
theorem dX0_wordOf_135 : decode cX0_wordOf 135 = .ok (.aload_n 0, 1) := wn_at gdX0_wordOf_120 9 rfl
theorem gdX0_wordOf_136 : ∀ e ∈ ([(136, .getfield 24, 3), (139, .aload_n 0, 1), (140, .invokevirtual 104, 3), (143, .laload, 1), (144, .lcmp, 1), (145, .ifCond .ne 7, 3), (148, .lconst 1, 1), (149, .goto 4, 3), (152, .lconst 0, 1), (153, .lreturn, 1)] : List (Nat × Instr × Nat)), decode cX0_wordOf e.1 = .ok e.2 := wn_all _ 136 (by decide +kernel)
theorem dX0_wordOf_136 : decode cX0_wordOf 136 = .ok (.getfield 24, 3) := wn_at gdX0_wordOf_136 0 rfl
theorem dX0_wordOf_139 : decode cX0_wordOf 139 = .ok (.aload_n 0, 1) := wn_at gdX0_wordOf_136 1 rfl
theorem dX0_wordOf_140 : decode cX0_wordOf 140 = .ok (.invokevirtual 104, 3) := wn_at gdX0_wordOf_136 2 rfl
theorem dX0_wordOf_143 : decode cX0_wordOf 143 = .ok (.laload, 1) := wn_at gdX0_wordOf_136 3 rfl
theorem dX0_wordOf_144 : decode cX0_wordOf 144 = .ok (.lcmp, 1) := wn_at gdX0_wordOf_136 4 rfl
theorem dX0_wordOf_145 : decode cX0_wordOf 145 = .ok (.ifCond .ne 7, 3) := wn_at gdX0_wordOf_136 5 rfl
theorem dX0_wordOf_148 : decode cX0_wordOf 148 = .ok (.lconst 1, 1) := wn_at gdX0_wordOf_136 6 rfl
theorem dX0_wordOf_149 : decode cX0_wordOf 149 = .ok (.goto 4, 3) := wn_at gdX0_wordOf_136 7 rfl
theorem dX0_wordOf_152 : decode cX0_wordOf 152 = .ok (.lconst 0, 1) := wn_at gdX0_wordOf_136 8 rfl
theorem dX0_wordOf_153 : decode cX0_wordOf 153 = .ok (.lreturn, 1) := wn_at gdX0_wordOf_136 9 rfl
theorem gdX1_init_0 : ∀ e ∈ ([(0, .aload_n 0, 1), (1, .invokespecial 3, 3), (4, .aload_n 0, 1), (5, .sipush 1210, 3), (8, .newarray .long, 2), (10, .putfield 9, 3), (13, .return_, 1)] : List (Nat × Instr × Nat)), decode cX1_init e.1 = .ok e.2 := wn_all _ 0 (by decide +kernel)
theorem dX1_init_0 : decode cX1_init 0 = .ok (.aload_n 0, 1) := wn_at gdX1_init_0 0 rfl
theorem dX1_init_1 : decode cX1_init 1 = .ok (.invokespecial 3, 3) := wn_at gdX1_init_0 1 rfl
theorem dX1_init_4 : decode cX1_init 4 = .ok (.aload_n 0, 1) := wn_at gdX1_init_0 2 rfl
theorem dX1_init_5 : decode cX1_init 5 = .ok (.sipush 1210, 3) := wn_at gdX1_init_0 3 rfl
theorem dX1_init_8 : decode cX1_init 8 = .ok (.newarray .long, 2) := wn_at gdX1_init_0 4 rfl
theorem dX1_init_10 : decode cX1_init 10 = .ok (.putfield 9, 3) := wn_at gdX1_init_0 5 rfl
theorem dX1_init_13 : decode cX1_init 13 = .ok (.return_, 1) := wn_at gdX1_init_0 6 rfl
theorem gdX1_measure_0 : ∀ e ∈ ([(0, .iconst 0, 1), (1, .istore 5, 2), (3, .iload 5, 2), (5, .bipush 10, 2), (7, .if_icmp .ge 29, 3), (10, .aload_n 0, 1), (11, .getfield 9, 3), (14, .iload 5, 2), (16, .iload 5, 2), (18, .iload_n 2, 1)] : List (Nat × Instr × Nat)), decode cX1_measure e.1 = .ok e.2 := wn_all _ 0 (by decide +kernel)
theorem dX1_measure_0 : decode cX1_measure 0 = .ok (.iconst 0, 1) := wn_at gdX1_measure_0 0 rfl
theorem dX1_measure_1 : decode cX1_measure 1 = .ok (.istore 5, 2) := wn_at gdX1_measure_0 1 rfl
theorem dX1_measure_3 : decode cX1_measure 3 = .ok (.iload 5, 2) := wn_at gdX1_measure_0 2 rfl
theorem dX1_measure_5 : decode cX1_measure 5 = .ok (.bipush 10, 2) := wn_at gdX1_measure_0 3 rfl
theorem dX1_measure_7 : decode cX1_measure 7 = .ok (.if_icmp .ge 29, 3) := wn_at gdX1_measure_0 4 rfl
theorem dX1_measure_10 : decode cX1_measure 10 = .ok (.aload_n 0, 1) := wn_at gdX1_measure_0 5 rfl
theorem dX1_measure_11 : decode cX1_measure 11 = .ok (.getfield 9, 3) := wn_at gdX1_measure_0 6 rfl
theorem dX1_measure_14 : decode cX1_measure 14 = .ok (.iload 5, 2) := wn_at gdX1_measure_0 7 rfl
theorem dX1_measure_16 : decode cX1_measure 16 = .ok (.iload 5, 2) := wn_at gdX1_measure_0 8 rfl
theorem dX1_measure_18 : decode cX1_measure 18 = .ok (.iload_n 2, 1) := wn_at gdX1_measure_0 9 rfl
theorem gdX1_measure_19 : ∀ e ∈ ([(19, .if_icmp .ne 7, 3), (22, .lconst 0, 1), (23, .goto 6, 3), (26, .ldc2_w 15, 3), (29, .lastore, 1), (30, .iinc 5 1, 3), (33, .goto (-30), 3), (36, .iconst 1, 1), (37, .istore 5, 2), (39, .iload 5, 2)] : List (Nat × Instr × Nat)), decode cX1_measure e.1 = .ok e.2 := wn_all _ 19 (by decide +kernel)
theorem dX1_measure_19 : decode cX1_measure 19 = .ok (.if_icmp .ne 7, 3) := wn_at gdX1_measure_19 0 rfl
theorem dX1_measure_22 : decode cX1_measure 22 = .ok (.lconst 0, 1) := wn_at gdX1_measure_19 1 rfl
theorem dX1_measure_23 : decode cX1_measure 23 = .ok (.goto 6, 3) := wn_at gdX1_measure_19 2 rfl
theorem dX1_measure_26 : decode cX1_measure 26 = .ok (.ldc2_w 15, 3) := wn_at gdX1_measure_19 3 rfl
theorem dX1_measure_29 : decode cX1_measure 29 = .ok (.lastore, 1) := wn_at gdX1_measure_19 4 rfl
theorem dX1_measure_30 : decode cX1_measure 30 = .ok (.iinc 5 1, 3) := wn_at gdX1_measure_19 5 rfl
theorem dX1_measure_33 : decode cX1_measure 33 = .ok (.goto (-30), 3) := wn_at gdX1_measure_19 6 rfl
theorem dX1_measure_36 : decode cX1_measure 36 = .ok (.iconst 1, 1) := wn_at gdX1_measure_19 7 rfl
theorem dX1_measure_37 : decode cX1_measure 37 = .ok (.istore 5, 2) := wn_at gdX1_measure_19 8 rfl
theorem dX1_measure_39 : decode cX1_measure 39 = .ok (.iload 5, 2) := wn_at gdX1_measure_19 9 rfl
theorem gdX1_measure_41 : ∀ e ∈ ([(41, .iload_n 3, 1), (42, .if_icmp .gt 58, 3), (45, .iload 5, 2), (47, .bipush 120, 2), (49, .if_icmp .gt 51, 3), (52, .iconst 0, 1), (53, .istore 6, 2), (55, .iload 6, 2), (57, .aload_n 1, 1), (58, .getfield 17, 3)] : List (Nat × Instr × Nat)), decode cX1_measure e.1 = .ok e.2 := wn_all _ 41 (by decide +kernel)
theorem dX1_measure_41 : decode cX1_measure 41 = .ok (.iload_n 3, 1) := wn_at gdX1_measure_41 0 rfl
theorem dX1_measure_42 : decode cX1_measure 42 = .ok (.if_icmp .gt 58, 3) := wn_at gdX1_measure_41 1 rfl
theorem dX1_measure_45 : decode cX1_measure 45 = .ok (.iload 5, 2) := wn_at gdX1_measure_41 2 rfl
theorem dX1_measure_47 : decode cX1_measure 47 = .ok (.bipush 120, 2) := wn_at gdX1_measure_41 3 rfl
theorem dX1_measure_49 : decode cX1_measure 49 = .ok (.if_icmp .gt 51, 3) := wn_at gdX1_measure_41 4 rfl
theorem dX1_measure_52 : decode cX1_measure 52 = .ok (.iconst 0, 1) := wn_at gdX1_measure_41 5 rfl
theorem dX1_measure_53 : decode cX1_measure 53 = .ok (.istore 6, 2) := wn_at gdX1_measure_41 6 rfl
theorem dX1_measure_55 : decode cX1_measure 55 = .ok (.iload 6, 2) := wn_at gdX1_measure_41 7 rfl
theorem dX1_measure_57 : decode cX1_measure 57 = .ok (.aload_n 1, 1) := wn_at gdX1_measure_41 8 rfl
theorem dX1_measure_58 : decode cX1_measure 58 = .ok (.getfield 17, 3) := wn_at gdX1_measure_41 9 rfl
theorem gdX1_measure_61 : ∀ e ∈ ([(61, .if_icmp .ge 33, 3), (64, .aload_n 0, 1), (65, .getfield 9, 3), (68, .iload 5, 2), (70, .bipush 10, 2), (72, .imul, 1), (73, .iload 6, 2), (75, .iadd, 1), (76, .aload_n 0, 1), (77, .aload_n 1, 1)] : List (Nat × Instr × Nat)), decode cX1_measure e.1 = .ok e.2 := wn_all _ 61 (by decide +kernel)
theorem dX1_measure_61 : decode cX1_measure 61 = .ok (.if_icmp .ge 33, 3) := wn_at gdX1_measure_61 0 rfl
theorem dX1_measure_64 : decode cX1_measure 64 = .ok (.aload_n 0, 1) := wn_at gdX1_measure_61 1 rfl
theorem dX1_measure_65 : decode cX1_measure 65 = .ok (.getfield 9, 3) := wn_at gdX1_measure_61 2 rfl
theorem dX1_measure_68 : decode cX1_measure 68 = .ok (.iload 5, 2) := wn_at gdX1_measure_61 3 rfl
theorem dX1_measure_70 : decode cX1_measure 70 = .ok (.bipush 10, 2) := wn_at gdX1_measure_61 4 rfl
theorem dX1_measure_72 : decode cX1_measure 72 = .ok (.imul, 1) := wn_at gdX1_measure_61 5 rfl
theorem dX1_measure_73 : decode cX1_measure 73 = .ok (.iload 6, 2) := wn_at gdX1_measure_61 6 rfl
theorem dX1_measure_75 : decode cX1_measure 75 = .ok (.iadd, 1) := wn_at gdX1_measure_61 7 rfl
theorem dX1_measure_76 : decode cX1_measure 76 = .ok (.aload_n 0, 1) := wn_at gdX1_measure_61 8 rfl
theorem dX1_measure_77 : decode cX1_measure 77 = .ok (.aload_n 1, 1) := wn_at gdX1_measure_61 9 rfl
theorem gdX1_measure_78 : ∀ e ∈ ([(78, .iload 5, 2), (80, .iload 6, 2), (82, .iload 4, 2), (84, .invokevirtual 23, 3), (87, .lastore, 1), (88, .iinc 6 1, 3), (91, .goto (-36), 3), (94, .iinc 5 1, 3), (97, .goto (-58), 3), (100, .return_, 1)] : List (Nat × Instr × Nat)), decode cX1_measure e.1 = .ok e.2 := wn_all _ 78 (by decide +kernel)
theorem dX1_measure_78 : decode cX1_measure 78 = .ok (.iload 5, 2) := wn_at gdX1_measure_78 0 rfl
theorem dX1_measure_80 : decode cX1_measure 80 = .ok (.iload 6, 2) := wn_at gdX1_measure_78 1 rfl
theorem dX1_measure_82 : decode cX1_measure 82 = .ok (.iload 4, 2) := wn_at gdX1_measure_78 2 rfl
theorem dX1_measure_84 : decode cX1_measure 84 = .ok (.invokevirtual 23, 3) := wn_at gdX1_measure_78 3 rfl
theorem dX1_measure_87 : decode cX1_measure 87 = .ok (.lastore, 1) := wn_at gdX1_measure_78 4 rfl
theorem dX1_measure_88 : decode cX1_measure 88 = .ok (.iinc 6 1, 3) := wn_at gdX1_measure_78 5 rfl
theorem dX1_measure_91 : decode cX1_measure 91 = .ok (.goto (-36), 3) := wn_at gdX1_measure_78 6 rfl
theorem dX1_measure_94 : decode cX1_measure 94 = .ok (.iinc 5 1, 3) := wn_at gdX1_measure_78 7 rfl
theorem dX1_measure_97 : decode cX1_measure 97 = .ok (.goto (-58), 3) := wn_at gdX1_measure_78 8 rfl
theorem dX1_measure_100 : decode cX1_measure 100 = .ok (.return_, 1) := wn_at gdX1_measure_78 9 rfl
theorem gdX1_bestGain_0 : ∀ e ∈ ([(0, .aload_n 0, 1), (1, .aload_n 1, 1), (2, .iload_n 2, 1), (3, .iload_n 3, 1), (4, .invokevirtual 27, 3), (7, .lstore 5, 2), (9, .iconst 0, 1), (10, .istore 7, 2), (12, .iload 7, 2), (14, .aload_n 1, 1)] : List (Nat × Instr × Nat)), decode cX1_bestGain e.1 = .ok e.2 := wn_all _ 0 (by decide +kernel)
theorem dX1_bestGain_0 : decode cX1_bestGain 0 = .ok (.aload_n 0, 1) := wn_at gdX1_bestGain_0 0 rfl
theorem dX1_bestGain_1 : decode cX1_bestGain 1 = .ok (.aload_n 1, 1) := wn_at gdX1_bestGain_0 1 rfl
theorem dX1_bestGain_2 : decode cX1_bestGain 2 = .ok (.iload_n 2, 1) := wn_at gdX1_bestGain_0 2 rfl
theorem dX1_bestGain_3 : decode cX1_bestGain 3 = .ok (.iload_n 3, 1) := wn_at gdX1_bestGain_0 3 rfl
theorem dX1_bestGain_4 : decode cX1_bestGain 4 = .ok (.invokevirtual 27, 3) := wn_at gdX1_bestGain_0 4 rfl
theorem dX1_bestGain_7 : decode cX1_bestGain 7 = .ok (.lstore 5, 2) := wn_at gdX1_bestGain_0 5 rfl
theorem dX1_bestGain_9 : decode cX1_bestGain 9 = .ok (.iconst 0, 1) := wn_at gdX1_bestGain_0 6 rfl
theorem dX1_bestGain_10 : decode cX1_bestGain 10 = .ok (.istore 7, 2) := wn_at gdX1_bestGain_0 7 rfl
theorem dX1_bestGain_12 : decode cX1_bestGain 12 = .ok (.iload 7, 2) := wn_at gdX1_bestGain_0 8 rfl
theorem dX1_bestGain_14 : decode cX1_bestGain 14 = .ok (.aload_n 1, 1) := wn_at gdX1_bestGain_0 9 rfl
theorem gdX1_bestGain_15 : ∀ e ∈ ([(15, .getfield 31, 3), (18, .if_icmp .ge 41, 3), (21, .aload_n 0, 1), (22, .aload_n 1, 1), (23, .iload_n 2, 1), (24, .iload_n 3, 1), (25, .iload 7, 2), (27, .invokevirtual 34, 3), (30, .lstore 8, 2), (32, .lload 8, 2)] : List (Nat × Instr × Nat)), decode cX1_bestGain e.1 = .ok e.2 := wn_all _ 15 (by decide +kernel)
theorem dX1_bestGain_15 : decode cX1_bestGain 15 = .ok (.getfield 31, 3) := wn_at gdX1_bestGain_15 0 rfl
theorem dX1_bestGain_18 : decode cX1_bestGain 18 = .ok (.if_icmp .ge 41, 3) := wn_at gdX1_bestGain_15 1 rfl
theorem dX1_bestGain_21 : decode cX1_bestGain 21 = .ok (.aload_n 0, 1) := wn_at gdX1_bestGain_15 2 rfl
theorem dX1_bestGain_22 : decode cX1_bestGain 22 = .ok (.aload_n 1, 1) := wn_at gdX1_bestGain_15 3 rfl
theorem dX1_bestGain_23 : decode cX1_bestGain 23 = .ok (.iload_n 2, 1) := wn_at gdX1_bestGain_15 4 rfl
theorem dX1_bestGain_24 : decode cX1_bestGain 24 = .ok (.iload_n 3, 1) := wn_at gdX1_bestGain_15 5 rfl
theorem dX1_bestGain_25 : decode cX1_bestGain 25 = .ok (.iload 7, 2) := wn_at gdX1_bestGain_15 6 rfl
theorem dX1_bestGain_27 : decode cX1_bestGain 27 = .ok (.invokevirtual 34, 3) := wn_at gdX1_bestGain_15 7 rfl
theorem dX1_bestGain_30 : decode cX1_bestGain 30 = .ok (.lstore 8, 2) := wn_at gdX1_bestGain_15 8 rfl
theorem dX1_bestGain_32 : decode cX1_bestGain 32 = .ok (.lload 8, 2) := wn_at gdX1_bestGain_15 9 rfl
theorem gdX1_bestGain_34 : ∀ e ∈ ([(34, .lload 5, 2), (36, .iload 4, 2), (38, .invokestatic 38, 3), (41, .ifCond .eq 8, 3), (44, .lload 8, 2), (46, .goto 5, 3), (49, .lload 5, 2), (51, .lstore 5, 2), (53, .iinc 7 1, 3), (56, .goto (-44), 3)] : List (Nat × Instr × Nat)), decode cX1_bestGain e.1 = .ok e.2 := wn_all _ 34 (by decide +kernel)
theorem dX1_bestGain_34 : decode cX1_bestGain 34 = .ok (.lload 5, 2) := wn_at gdX1_bestGain_34 0 rfl
theorem dX1_bestGain_36 : decode cX1_bestGain 36 = .ok (.iload 4, 2) := wn_at gdX1_bestGain_34 1 rfl
theorem dX1_bestGain_38 : decode cX1_bestGain 38 = .ok (.invokestatic 38, 3) := wn_at gdX1_bestGain_34 2 rfl
theorem dX1_bestGain_41 : decode cX1_bestGain 41 = .ok (.ifCond .eq 8, 3) := wn_at gdX1_bestGain_34 3 rfl
theorem dX1_bestGain_44 : decode cX1_bestGain 44 = .ok (.lload 8, 2) := wn_at gdX1_bestGain_34 4 rfl
theorem dX1_bestGain_46 : decode cX1_bestGain 46 = .ok (.goto 5, 3) := wn_at gdX1_bestGain_34 5 rfl
theorem dX1_bestGain_49 : decode cX1_bestGain 49 = .ok (.lload 5, 2) := wn_at gdX1_bestGain_34 6 rfl
theorem dX1_bestGain_51 : decode cX1_bestGain 51 = .ok (.lstore 5, 2) := wn_at gdX1_bestGain_34 7 rfl
theorem dX1_bestGain_53 : decode cX1_bestGain 53 = .ok (.iinc 7 1, 3) := wn_at gdX1_bestGain_34 8 rfl
theorem dX1_bestGain_56 : decode cX1_bestGain 56 = .ok (.goto (-44), 3) := wn_at gdX1_bestGain_34 9 rfl
theorem gdX1_bestGain_59 : ∀ e ∈ ([(59, .lload 5, 2), (61, .lreturn, 1)] : List (Nat × Instr × Nat)), decode cX1_bestGain e.1 = .ok e.2 := wn_all _ 59 (by decide +kernel)
theorem dX1_bestGain_59 : decode cX1_bestGain 59 = .ok (.lload 5, 2) := wn_at gdX1_bestGain_59 0 rfl
theorem dX1_bestGain_61 : decode cX1_bestGain 61 = .ok (.lreturn, 1) := wn_at gdX1_bestGain_59 1 rfl
theorem gdX1_isBetter_0 : ∀ e ∈ ([(0, .lload_n 0, 1), (1, .lconst 0, 1), (2, .lcmp, 1), (3, .ifCond .lt 9, 3), (6, .lload_n 2, 1), (7, .lconst 0, 1), (8, .lcmp, 1), (9, .ifCond .ge 15, 3), (12, .lload_n 0, 1), (13, .lconst 0, 1)] : List (Nat × Instr × Nat)), decode cX1_isBetter e.1 = .ok e.2 := wn_all _ 0 (by decide +kernel)
theorem dX1_isBetter_0 : decode cX1_isBetter 0 = .ok (.lload_n 0, 1) := wn_at gdX1_isBetter_0 0 rfl
theorem dX1_isBetter_1 : decode cX1_isBetter 1 = .ok (.lconst 0, 1) := wn_at gdX1_isBetter_0 1 rfl
theorem dX1_isBetter_2 : decode cX1_isBetter 2 = .ok (.lcmp, 1) := wn_at gdX1_isBetter_0 2 rfl
theorem dX1_isBetter_3 : decode cX1_isBetter 3 = .ok (.ifCond .lt 9, 3) := wn_at gdX1_isBetter_0 3 rfl
theorem dX1_isBetter_6 : decode cX1_isBetter 6 = .ok (.lload_n 2, 1) := wn_at gdX1_isBetter_0 4 rfl
theorem dX1_isBetter_7 : decode cX1_isBetter 7 = .ok (.lconst 0, 1) := wn_at gdX1_isBetter_0 5 rfl
theorem dX1_isBetter_8 : decode cX1_isBetter 8 = .ok (.lcmp, 1) := wn_at gdX1_isBetter_0 6 rfl
theorem dX1_isBetter_9 : decode cX1_isBetter 9 = .ok (.ifCond .ge 15, 3) := wn_at gdX1_isBetter_0 7 rfl
theorem dX1_isBetter_12 : decode cX1_isBetter 12 = .ok (.lload_n 0, 1) := wn_at gdX1_isBetter_0 8 rfl
theorem dX1_isBetter_13 : decode cX1_isBetter 13 = .ok (.lconst 0, 1) := wn_at gdX1_isBetter_0 9 rfl
theorem gdX1_isBetter_14 : ∀ e ∈ ([(14, .lcmp, 1), (15, .ifCond .lt 7, 3), (18, .iconst 1, 1), (19, .goto 4, 3), (22, .iconst 0, 1), (23, .ireturn, 1), (24, .iload 4, 2), (26, .ifCond .eq 17, 3), (29, .lload_n 0, 1), (30, .lload_n 2, 1)] : List (Nat × Instr × Nat)), decode cX1_isBetter e.1 = .ok e.2 := wn_all _ 14 (by decide +kernel)
theorem dX1_isBetter_14 : decode cX1_isBetter 14 = .ok (.lcmp, 1) := wn_at gdX1_isBetter_14 0 rfl
theorem dX1_isBetter_15 : decode cX1_isBetter 15 = .ok (.ifCond .lt 7, 3) := wn_at gdX1_isBetter_14 1 rfl
theorem dX1_isBetter_18 : decode cX1_isBetter 18 = .ok (.iconst 1, 1) := wn_at gdX1_isBetter_14 2 rfl
theorem dX1_isBetter_19 : decode cX1_isBetter 19 = .ok (.goto 4, 3) := wn_at gdX1_isBetter_14 3 rfl
theorem dX1_isBetter_22 : decode cX1_isBetter 22 = .ok (.iconst 0, 1) := wn_at gdX1_isBetter_14 4 rfl
theorem dX1_isBetter_23 : decode cX1_isBetter 23 = .ok (.ireturn, 1) := wn_at gdX1_isBetter_14 5 rfl
theorem dX1_isBetter_24 : decode cX1_isBetter 24 = .ok (.iload 4, 2) := wn_at gdX1_isBetter_14 6 rfl
theorem dX1_isBetter_26 : decode cX1_isBetter 26 = .ok (.ifCond .eq 17, 3) := wn_at gdX1_isBetter_14 7 rfl
theorem dX1_isBetter_29 : decode cX1_isBetter 29 = .ok (.lload_n 0, 1) := wn_at gdX1_isBetter_14 8 rfl
theorem dX1_isBetter_30 : decode cX1_isBetter 30 = .ok (.lload_n 2, 1) := wn_at gdX1_isBetter_14 9 rfl
theorem gdX1_isBetter_31 : ∀ e ∈ ([(31, .lcmp, 1), (32, .ifCond .le 7, 3), (35, .iconst 1, 1), (36, .goto 18, 3), (39, .iconst 0, 1), (40, .goto 14, 3), (43, .lload_n 0, 1), (44, .lload_n 2, 1), (45, .lcmp, 1), (46, .ifCond .ge 7, 3)] : List (Nat × Instr × Nat)), decode cX1_isBetter e.1 = .ok e.2 := wn_all _ 31 (by decide +kernel)
theorem dX1_isBetter_31 : decode cX1_isBetter 31 = .ok (.lcmp, 1) := wn_at gdX1_isBetter_31 0 rfl
theorem dX1_isBetter_32 : decode cX1_isBetter 32 = .ok (.ifCond .le 7, 3) := wn_at gdX1_isBetter_31 1 rfl
theorem dX1_isBetter_35 : decode cX1_isBetter 35 = .ok (.iconst 1, 1) := wn_at gdX1_isBetter_31 2 rfl
theorem dX1_isBetter_36 : decode cX1_isBetter 36 = .ok (.goto 18, 3) := wn_at gdX1_isBetter_31 3 rfl
theorem dX1_isBetter_39 : decode cX1_isBetter 39 = .ok (.iconst 0, 1) := wn_at gdX1_isBetter_31 4 rfl
theorem dX1_isBetter_40 : decode cX1_isBetter 40 = .ok (.goto 14, 3) := wn_at gdX1_isBetter_31 5 rfl
theorem dX1_isBetter_43 : decode cX1_isBetter 43 = .ok (.lload_n 0, 1) := wn_at gdX1_isBetter_31 6 rfl
theorem dX1_isBetter_44 : decode cX1_isBetter 44 = .ok (.lload_n 2, 1) := wn_at gdX1_isBetter_31 7 rfl
theorem dX1_isBetter_45 : decode cX1_isBetter 45 = .ok (.lcmp, 1) := wn_at gdX1_isBetter_31 8 rfl
theorem dX1_isBetter_46 : decode cX1_isBetter 46 = .ok (.ifCond .ge 7, 3) := wn_at gdX1_isBetter_31 9 rfl
theorem gdX1_isBetter_49 : ∀ e ∈ ([(49, .iconst 1, 1), (50, .goto 4, 3), (53, .iconst 0, 1), (54, .ireturn, 1)] : List (Nat × Instr × Nat)), decode cX1_isBetter e.1 = .ok e.2 := wn_all _ 49 (by decide +kernel)
theorem dX1_isBetter_49 : decode cX1_isBetter 49 = .ok (.iconst 1, 1) := wn_at gdX1_isBetter_49 0 rfl
theorem dX1_isBetter_50 : decode cX1_isBetter 50 = .ok (.goto 4, 3) := wn_at gdX1_isBetter_49 1 rfl
theorem dX1_isBetter_53 : decode cX1_isBetter 53 = .ok (.iconst 0, 1) := wn_at gdX1_isBetter_49 2 rfl
theorem dX1_isBetter_54 : decode cX1_isBetter 54 = .ok (.ireturn, 1) := wn_at gdX1_isBetter_49 3 rfl
theorem gdX1_gainByStaying_0 : ∀ e ∈ ([(0, .aload_n 0, 1), (1, .iload_n 2, 1), (2, .iconst 1, 1), (3, .isub, 1), (4, .iload_n 3, 1), (5, .invokevirtual 42, 3), (8, .lstore 4, 2), (10, .lload 4, 2), (12, .lconst 0, 1), (13, .lcmp, 1)] : List (Nat × Instr × Nat)), decode cX1_gainByStaying e.1 = .ok e.2 := wn_all _ 0 (by decide +kernel)
theorem dX1_gainByStaying_0 : decode cX1_gainByStaying 0 = .ok (.aload_n 0, 1) := wn_at gdX1_gainByStaying_0 0 rfl
theorem dX1_gainByStaying_1 : decode cX1_gainByStaying 1 = .ok (.iload_n 2, 1) := wn_at gdX1_gainByStaying_0 1 rfl
theorem dX1_gainByStaying_2 : decode cX1_gainByStaying 2 = .ok (.iconst 1, 1) := wn_at gdX1_gainByStaying_0 2 rfl
theorem dX1_gainByStaying_3 : decode cX1_gainByStaying 3 = .ok (.isub, 1) := wn_at gdX1_gainByStaying_0 3 rfl
theorem dX1_gainByStaying_4 : decode cX1_gainByStaying 4 = .ok (.iload_n 3, 1) := wn_at gdX1_gainByStaying_0 4 rfl
theorem dX1_gainByStaying_5 : decode cX1_gainByStaying 5 = .ok (.invokevirtual 42, 3) := wn_at gdX1_gainByStaying_0 5 rfl
theorem dX1_gainByStaying_8 : decode cX1_gainByStaying 8 = .ok (.lstore 4, 2) := wn_at gdX1_gainByStaying_0 6 rfl
theorem dX1_gainByStaying_10 : decode cX1_gainByStaying 10 = .ok (.lload 4, 2) := wn_at gdX1_gainByStaying_0 7 rfl
theorem dX1_gainByStaying_12 : decode cX1_gainByStaying 12 = .ok (.lconst 0, 1) := wn_at gdX1_gainByStaying_0 8 rfl
theorem dX1_gainByStaying_13 : decode cX1_gainByStaying 13 = .ok (.lcmp, 1) := wn_at gdX1_gainByStaying_0 9 rfl
theorem gdX1_gainByStaying_14 : ∀ e ∈ ([(14, .ifCond .ge 9, 3), (17, .ldc2_w 15, 3), (20, .goto 12, 3), (23, .lload 4, 2), (25, .aload_n 1, 1), (26, .getfield 46, 3), (29, .iload_n 3, 1), (30, .laload, 1), (31, .ladd, 1), (32, .lreturn, 1)] : List (Nat × Instr × Nat)), decode cX1_gainByStaying e.1 = .ok e.2 := wn_all _ 14 (by decide +kernel)
theorem dX1_gainByStaying_14 : decode cX1_gainByStaying 14 = .ok (.ifCond .ge 9, 3) := wn_at gdX1_gainByStaying_14 0 rfl
theorem dX1_gainByStaying_17 : decode cX1_gainByStaying 17 = .ok (.ldc2_w 15, 3) := wn_at gdX1_gainByStaying_14 1 rfl
theorem dX1_gainByStaying_20 : decode cX1_gainByStaying 20 = .ok (.goto 12, 3) := wn_at gdX1_gainByStaying_14 2 rfl
theorem dX1_gainByStaying_23 : decode cX1_gainByStaying 23 = .ok (.lload 4, 2) := wn_at gdX1_gainByStaying_14 3 rfl
theorem dX1_gainByStaying_25 : decode cX1_gainByStaying 25 = .ok (.aload_n 1, 1) := wn_at gdX1_gainByStaying_14 4 rfl
theorem dX1_gainByStaying_26 : decode cX1_gainByStaying 26 = .ok (.getfield 46, 3) := wn_at gdX1_gainByStaying_14 5 rfl
theorem dX1_gainByStaying_29 : decode cX1_gainByStaying 29 = .ok (.iload_n 3, 1) := wn_at gdX1_gainByStaying_14 6 rfl
theorem dX1_gainByStaying_30 : decode cX1_gainByStaying 30 = .ok (.laload, 1) := wn_at gdX1_gainByStaying_14 7 rfl
theorem dX1_gainByStaying_31 : decode cX1_gainByStaying 31 = .ok (.ladd, 1) := wn_at gdX1_gainByStaying_14 8 rfl
theorem dX1_gainByStaying_32 : decode cX1_gainByStaying 32 = .ok (.lreturn, 1) := wn_at gdX1_gainByStaying_14 9 rfl
theorem gdX1_gainByStair_0 : ∀ e ∈ ([(0, .aload_n 1, 1), (1, .iload 4, 2), (3, .iload_n 3, 1), (4, .invokevirtual 49, 3), (7, .istore 5, 2), (9, .aload_n 1, 1), (10, .getfield 53, 3), (13, .iload 4, 2), (15, .iaload, 1), (16, .istore 6, 2)] : List (Nat × Instr × Nat)), decode cX1_gainByStair e.1 = .ok e.2 := wn_all _ 0 (by decide +kernel)
theorem dX1_gainByStair_0 : decode cX1_gainByStair 0 = .ok (.aload_n 1, 1) := wn_at gdX1_gainByStair_0 0 rfl
theorem dX1_gainByStair_1 : decode cX1_gainByStair 1 = .ok (.iload 4, 2) := wn_at gdX1_gainByStair_0 1 rfl
theorem dX1_gainByStair_3 : decode cX1_gainByStair 3 = .ok (.iload_n 3, 1) := wn_at gdX1_gainByStair_0 2 rfl
theorem dX1_gainByStair_4 : decode cX1_gainByStair 4 = .ok (.invokevirtual 49, 3) := wn_at gdX1_gainByStair_0 3 rfl
theorem dX1_gainByStair_7 : decode cX1_gainByStair 7 = .ok (.istore 5, 2) := wn_at gdX1_gainByStair_0 4 rfl
theorem dX1_gainByStair_9 : decode cX1_gainByStair 9 = .ok (.aload_n 1, 1) := wn_at gdX1_gainByStair_0 5 rfl
theorem dX1_gainByStair_10 : decode cX1_gainByStair 10 = .ok (.getfield 53, 3) := wn_at gdX1_gainByStair_0 6 rfl
theorem dX1_gainByStair_13 : decode cX1_gainByStair 13 = .ok (.iload 4, 2) := wn_at gdX1_gainByStair_0 7 rfl
theorem dX1_gainByStair_15 : decode cX1_gainByStair 15 = .ok (.iaload, 1) := wn_at gdX1_gainByStair_0 8 rfl
theorem dX1_gainByStair_16 : decode cX1_gainByStair 16 = .ok (.istore 6, 2) := wn_at gdX1_gainByStair_0 9 rfl
theorem gdX1_gainByStair_18 : ∀ e ∈ ([(18, .iload 5, 2), (20, .ifCond .ge 9, 3), (23, .ldc2_w 15, 3), (26, .goto 13, 3), (29, .aload_n 0, 1), (30, .iload_n 2, 1), (31, .iload 6, 2), (33, .isub, 1), (34, .iload 5, 2), (36, .invokevirtual 42, 3)] : List (Nat × Instr × Nat)), decode cX1_gainByStair e.1 = .ok e.2 := wn_all _ 18 (by decide +kernel)
theorem dX1_gainByStair_18 : decode cX1_gainByStair 18 = .ok (.iload 5, 2) := wn_at gdX1_gainByStair_18 0 rfl
theorem dX1_gainByStair_20 : decode cX1_gainByStair 20 = .ok (.ifCond .ge 9, 3) := wn_at gdX1_gainByStair_18 1 rfl
theorem dX1_gainByStair_23 : decode cX1_gainByStair 23 = .ok (.ldc2_w 15, 3) := wn_at gdX1_gainByStair_18 2 rfl
theorem dX1_gainByStair_26 : decode cX1_gainByStair 26 = .ok (.goto 13, 3) := wn_at gdX1_gainByStair_18 3 rfl
theorem dX1_gainByStair_29 : decode cX1_gainByStair 29 = .ok (.aload_n 0, 1) := wn_at gdX1_gainByStair_18 4 rfl
theorem dX1_gainByStair_30 : decode cX1_gainByStair 30 = .ok (.iload_n 2, 1) := wn_at gdX1_gainByStair_18 5 rfl
theorem dX1_gainByStair_31 : decode cX1_gainByStair 31 = .ok (.iload 6, 2) := wn_at gdX1_gainByStair_18 6 rfl
theorem dX1_gainByStair_33 : decode cX1_gainByStair 33 = .ok (.isub, 1) := wn_at gdX1_gainByStair_18 7 rfl
theorem dX1_gainByStair_34 : decode cX1_gainByStair 34 = .ok (.iload 5, 2) := wn_at gdX1_gainByStair_18 8 rfl
theorem dX1_gainByStair_36 : decode cX1_gainByStair 36 = .ok (.invokevirtual 42, 3) := wn_at gdX1_gainByStair_18 9 rfl
theorem gdX1_gainByStair_39 : ∀ e ∈ ([(39, .lstore 7, 2), (41, .lload 7, 2), (43, .lconst 0, 1), (44, .lcmp, 1), (45, .ifCond .ge 9, 3), (48, .ldc2_w 15, 3), (51, .goto 17, 3), (54, .lload 7, 2), (56, .iload 6, 2), (58, .i2l, 1)] : List (Nat × Instr × Nat)), decode cX1_gainByStair e.1 = .ok e.2 := wn_all _ 39 (by decide +kernel)
theorem dX1_gainByStair_39 : decode cX1_gainByStair 39 = .ok (.lstore 7, 2) := wn_at gdX1_gainByStair_39 0 rfl
theorem dX1_gainByStair_41 : decode cX1_gainByStair 41 = .ok (.lload 7, 2) := wn_at gdX1_gainByStair_39 1 rfl
theorem dX1_gainByStair_43 : decode cX1_gainByStair 43 = .ok (.lconst 0, 1) := wn_at gdX1_gainByStair_39 2 rfl
theorem dX1_gainByStair_44 : decode cX1_gainByStair 44 = .ok (.lcmp, 1) := wn_at gdX1_gainByStair_39 3 rfl
theorem dX1_gainByStair_45 : decode cX1_gainByStair 45 = .ok (.ifCond .ge 9, 3) := wn_at gdX1_gainByStair_39 4 rfl
theorem dX1_gainByStair_48 : decode cX1_gainByStair 48 = .ok (.ldc2_w 15, 3) := wn_at gdX1_gainByStair_39 5 rfl
theorem dX1_gainByStair_51 : decode cX1_gainByStair 51 = .ok (.goto 17, 3) := wn_at gdX1_gainByStair_39 6 rfl
theorem dX1_gainByStair_54 : decode cX1_gainByStair 54 = .ok (.lload 7, 2) := wn_at gdX1_gainByStair_39 7 rfl
theorem dX1_gainByStair_56 : decode cX1_gainByStair 56 = .ok (.iload 6, 2) := wn_at gdX1_gainByStair_39 8 rfl
theorem dX1_gainByStair_58 : decode cX1_gainByStair 58 = .ok (.i2l, 1) := wn_at gdX1_gainByStair_39 9 rfl
theorem gdX1_gainByStair_59 : ∀ e ∈ ([(59, .aload_n 1, 1), (60, .getfield 57, 3), (63, .iload 4, 2), (65, .laload, 1), (66, .lmul, 1), (67, .ladd, 1), (68, .lreturn, 1)] : List (Nat × Instr × Nat)), decode cX1_gainByStair e.1 = .ok e.2 := wn_all _ 59 (by decide +kernel)
theorem dX1_gainByStair_59 : decode cX1_gainByStair 59 = .ok (.aload_n 1, 1) := wn_at gdX1_gainByStair_59 0 rfl
theorem dX1_gainByStair_60 : decode cX1_gainByStair 60 = .ok (.getfield 57, 3) := wn_at gdX1_gainByStair_59 1 rfl
theorem dX1_gainByStair_63 : decode cX1_gainByStair 63 = .ok (.iload 4, 2) := wn_at gdX1_gainByStair_59 2 rfl
theorem dX1_gainByStair_65 : decode cX1_gainByStair 65 = .ok (.laload, 1) := wn_at gdX1_gainByStair_59 3 rfl
theorem dX1_gainByStair_66 : decode cX1_gainByStair 66 = .ok (.lmul, 1) := wn_at gdX1_gainByStair_59 4 rfl
theorem dX1_gainByStair_67 : decode cX1_gainByStair 67 = .ok (.ladd, 1) := wn_at gdX1_gainByStair_59 5 rfl
theorem dX1_gainByStair_68 : decode cX1_gainByStair 68 = .ok (.lreturn, 1) := wn_at gdX1_gainByStair_59 6 rfl
theorem gdX1_gainOf_0 : ∀ e ∈ ([(0, .iload_n 1, 1), (1, .ifCond .lt 9, 3), (4, .iload_n 1, 1), (5, .bipush 120, 2), (7, .if_icmp .le 9, 3), (10, .ldc2_w 15, 3), (13, .goto 14, 3), (16, .aload_n 0, 1), (17, .getfield 9, 3), (20, .iload_n 1, 1)] : List (Nat × Instr × Nat)), decode cX1_gainOf e.1 = .ok e.2 := wn_all _ 0 (by decide +kernel)
theorem dX1_gainOf_0 : decode cX1_gainOf 0 = .ok (.iload_n 1, 1) := wn_at gdX1_gainOf_0 0 rfl
theorem dX1_gainOf_1 : decode cX1_gainOf 1 = .ok (.ifCond .lt 9, 3) := wn_at gdX1_gainOf_0 1 rfl
theorem dX1_gainOf_4 : decode cX1_gainOf 4 = .ok (.iload_n 1, 1) := wn_at gdX1_gainOf_0 2 rfl
theorem dX1_gainOf_5 : decode cX1_gainOf 5 = .ok (.bipush 120, 2) := wn_at gdX1_gainOf_0 3 rfl
theorem dX1_gainOf_7 : decode cX1_gainOf 7 = .ok (.if_icmp .le 9, 3) := wn_at gdX1_gainOf_0 4 rfl
theorem dX1_gainOf_10 : decode cX1_gainOf 10 = .ok (.ldc2_w 15, 3) := wn_at gdX1_gainOf_0 5 rfl
theorem dX1_gainOf_13 : decode cX1_gainOf 13 = .ok (.goto 14, 3) := wn_at gdX1_gainOf_0 6 rfl
theorem dX1_gainOf_16 : decode cX1_gainOf 16 = .ok (.aload_n 0, 1) := wn_at gdX1_gainOf_0 7 rfl
theorem dX1_gainOf_17 : decode cX1_gainOf 17 = .ok (.getfield 9, 3) := wn_at gdX1_gainOf_0 8 rfl
theorem dX1_gainOf_20 : decode cX1_gainOf 20 = .ok (.iload_n 1, 1) := wn_at gdX1_gainOf_0 9 rfl
theorem gdX1_gainOf_21 : ∀ e ∈ ([(21, .bipush 10, 2), (23, .imul, 1), (24, .iload_n 2, 1), (25, .iadd, 1), (26, .laload, 1), (27, .lreturn, 1)] : List (Nat × Instr × Nat)), decode cX1_gainOf e.1 = .ok e.2 := wn_all _ 21 (by decide +kernel)
theorem dX1_gainOf_21 : decode cX1_gainOf 21 = .ok (.bipush 10, 2) := wn_at gdX1_gainOf_21 0 rfl
theorem dX1_gainOf_23 : decode cX1_gainOf 23 = .ok (.imul, 1) := wn_at gdX1_gainOf_21 1 rfl
theorem dX1_gainOf_24 : decode cX1_gainOf 24 = .ok (.iload_n 2, 1) := wn_at gdX1_gainOf_21 2 rfl
theorem dX1_gainOf_25 : decode cX1_gainOf 25 = .ok (.iadd, 1) := wn_at gdX1_gainOf_21 3 rfl
theorem dX1_gainOf_26 : decode cX1_gainOf 26 = .ok (.laload, 1) := wn_at gdX1_gainOf_21 4 rfl
theorem dX1_gainOf_27 : decode cX1_gainOf 27 = .ok (.lreturn, 1) := wn_at gdX1_gainOf_21 5 rfl
theorem gdX1_firstStep_0 : ∀ e ∈ ([(0, .iload_n 2, 1), (1, .ifCond .ne 6, 3), (4, .bipush (-4), 2), (6, .ireturn, 1), (7, .aload_n 0, 1), (8, .iload_n 2, 1), (9, .iload_n 3, 1), (10, .invokevirtual 42, 3), (13, .lstore 4, 2), (15, .aload_n 0, 1)] : List (Nat × Instr × Nat)), decode cX1_firstStep e.1 = .ok e.2 := wn_all _ 0 (by decide +kernel)
theorem dX1_firstStep_0 : decode cX1_firstStep 0 = .ok (.iload_n 2, 1) := wn_at gdX1_firstStep_0 0 rfl
theorem dX1_firstStep_1 : decode cX1_firstStep 1 = .ok (.ifCond .ne 6, 3) := wn_at gdX1_firstStep_0 1 rfl
theorem dX1_firstStep_4 : decode cX1_firstStep 4 = .ok (.bipush (-4), 2) := wn_at gdX1_firstStep_0 2 rfl
theorem dX1_firstStep_6 : decode cX1_firstStep 6 = .ok (.ireturn, 1) := wn_at gdX1_firstStep_0 3 rfl
theorem dX1_firstStep_7 : decode cX1_firstStep 7 = .ok (.aload_n 0, 1) := wn_at gdX1_firstStep_0 4 rfl
theorem dX1_firstStep_8 : decode cX1_firstStep 8 = .ok (.iload_n 2, 1) := wn_at gdX1_firstStep_0 5 rfl
theorem dX1_firstStep_9 : decode cX1_firstStep 9 = .ok (.iload_n 3, 1) := wn_at gdX1_firstStep_0 6 rfl
theorem dX1_firstStep_10 : decode cX1_firstStep 10 = .ok (.invokevirtual 42, 3) := wn_at gdX1_firstStep_0 7 rfl
theorem dX1_firstStep_13 : decode cX1_firstStep 13 = .ok (.lstore 4, 2) := wn_at gdX1_firstStep_0 8 rfl
theorem dX1_firstStep_15 : decode cX1_firstStep 15 = .ok (.aload_n 0, 1) := wn_at gdX1_firstStep_0 9 rfl
theorem gdX1_firstStep_16 : ∀ e ∈ ([(16, .aload_n 1, 1), (17, .iload_n 2, 1), (18, .iload_n 3, 1), (19, .invokevirtual 27, 3), (22, .lload 4, 2), (24, .lcmp, 1), (25, .ifCond .ne 6, 3), (28, .bipush (-3), 2), (30, .ireturn, 1), (31, .iconst 0, 1)] : List (Nat × Instr × Nat)), decode cX1_firstStep e.1 = .ok e.2 := wn_all _ 16 (by decide +kernel)
theorem dX1_firstStep_16 : decode cX1_firstStep 16 = .ok (.aload_n 1, 1) := wn_at gdX1_firstStep_16 0 rfl
theorem dX1_firstStep_17 : decode cX1_firstStep 17 = .ok (.iload_n 2, 1) := wn_at gdX1_firstStep_16 1 rfl
theorem dX1_firstStep_18 : decode cX1_firstStep 18 = .ok (.iload_n 3, 1) := wn_at gdX1_firstStep_16 2 rfl
theorem dX1_firstStep_19 : decode cX1_firstStep 19 = .ok (.invokevirtual 27, 3) := wn_at gdX1_firstStep_16 3 rfl
theorem dX1_firstStep_22 : decode cX1_firstStep 22 = .ok (.lload 4, 2) := wn_at gdX1_firstStep_16 4 rfl
theorem dX1_firstStep_24 : decode cX1_firstStep 24 = .ok (.lcmp, 1) := wn_at gdX1_firstStep_16 5 rfl
theorem dX1_firstStep_25 : decode cX1_firstStep 25 = .ok (.ifCond .ne 6, 3) := wn_at gdX1_firstStep_16 6 rfl
theorem dX1_firstStep_28 : decode cX1_firstStep 28 = .ok (.bipush (-3), 2) := wn_at gdX1_firstStep_16 7 rfl
theorem dX1_firstStep_30 : decode cX1_firstStep 30 = .ok (.ireturn, 1) := wn_at gdX1_firstStep_16 8 rfl
theorem dX1_firstStep_31 : decode cX1_firstStep 31 = .ok (.iconst 0, 1) := wn_at gdX1_firstStep_16 9 rfl
theorem gdX1_firstStep_32 : ∀ e ∈ ([(32, .istore 6, 2), (34, .iload 6, 2), (36, .aload_n 1, 1), (37, .getfield 31, 3), (40, .if_icmp .ge 27, 3), (43, .aload_n 0, 1), (44, .aload_n 1, 1), (45, .iload_n 2, 1), (46, .iload_n 3, 1), (47, .iload 6, 2)] : List (Nat × Instr × Nat)), decode cX1_firstStep e.1 = .ok e.2 := wn_all _ 32 (by decide +kernel)
theorem dX1_firstStep_32 : decode cX1_firstStep 32 = .ok (.istore 6, 2) := wn_at gdX1_firstStep_32 0 rfl
theorem dX1_firstStep_34 : decode cX1_firstStep 34 = .ok (.iload 6, 2) := wn_at gdX1_firstStep_32 1 rfl
theorem dX1_firstStep_36 : decode cX1_firstStep 36 = .ok (.aload_n 1, 1) := wn_at gdX1_firstStep_32 2 rfl
theorem dX1_firstStep_37 : decode cX1_firstStep 37 = .ok (.getfield 31, 3) := wn_at gdX1_firstStep_32 3 rfl
theorem dX1_firstStep_40 : decode cX1_firstStep 40 = .ok (.if_icmp .ge 27, 3) := wn_at gdX1_firstStep_32 4 rfl
theorem dX1_firstStep_43 : decode cX1_firstStep 43 = .ok (.aload_n 0, 1) := wn_at gdX1_firstStep_32 5 rfl
theorem dX1_firstStep_44 : decode cX1_firstStep 44 = .ok (.aload_n 1, 1) := wn_at gdX1_firstStep_32 6 rfl
theorem dX1_firstStep_45 : decode cX1_firstStep 45 = .ok (.iload_n 2, 1) := wn_at gdX1_firstStep_32 7 rfl
theorem dX1_firstStep_46 : decode cX1_firstStep 46 = .ok (.iload_n 3, 1) := wn_at gdX1_firstStep_32 8 rfl
theorem dX1_firstStep_47 : decode cX1_firstStep 47 = .ok (.iload 6, 2) := wn_at gdX1_firstStep_32 9 rfl
theorem gdX1_firstStep_49 : ∀ e ∈ ([(49, .invokevirtual 34, 3), (52, .lload 4, 2), (54, .lcmp, 1), (55, .ifCond .ne 6, 3), (58, .iload 6, 2), (60, .ireturn, 1), (61, .iinc 6 1, 3), (64, .goto (-30), 3), (67, .bipush (-2), 2), (69, .ireturn, 1)] : List (Nat × Instr × Nat)), decode cX1_firstStep e.1 = .ok e.2 := wn_all _ 49 (by decide +kernel)
theorem dX1_firstStep_49 : decode cX1_firstStep 49 = .ok (.invokevirtual 34, 3) := wn_at gdX1_firstStep_49 0 rfl
theorem dX1_firstStep_52 : decode cX1_firstStep 52 = .ok (.lload 4, 2) := wn_at gdX1_firstStep_49 1 rfl
theorem dX1_firstStep_54 : decode cX1_firstStep 54 = .ok (.lcmp, 1) := wn_at gdX1_firstStep_49 2 rfl
theorem dX1_firstStep_55 : decode cX1_firstStep 55 = .ok (.ifCond .ne 6, 3) := wn_at gdX1_firstStep_49 3 rfl
theorem dX1_firstStep_58 : decode cX1_firstStep 58 = .ok (.iload 6, 2) := wn_at gdX1_firstStep_49 4 rfl
theorem dX1_firstStep_60 : decode cX1_firstStep 60 = .ok (.ireturn, 1) := wn_at gdX1_firstStep_49 5 rfl
theorem dX1_firstStep_61 : decode cX1_firstStep 61 = .ok (.iinc 6 1, 3) := wn_at gdX1_firstStep_49 6 rfl
theorem dX1_firstStep_64 : decode cX1_firstStep 64 = .ok (.goto (-30), 3) := wn_at gdX1_firstStep_49 7 rfl
theorem dX1_firstStep_67 : decode cX1_firstStep 67 = .ok (.bipush (-2), 2) := wn_at gdX1_firstStep_49 8 rfl
theorem dX1_firstStep_69 : decode cX1_firstStep 69 = .ok (.ireturn, 1) := wn_at gdX1_firstStep_49 9 rfl
theorem gdX1_bestFloor_0 : ∀ e ∈ ([(0, .iconst 0, 1), (1, .istore 4, 2), (3, .iconst 1, 1), (4, .istore 5, 2), (6, .iload 5, 2), (8, .aload_n 1, 1), (9, .getfield 17, 3), (12, .if_icmp .ge 39, 3), (15, .aload_n 0, 1), (16, .iload_n 2, 1)] : List (Nat × Instr × Nat)), decode cX1_bestFloor e.1 = .ok e.2 := wn_all _ 0 (by decide +kernel)
theorem dX1_bestFloor_0 : decode cX1_bestFloor 0 = .ok (.iconst 0, 1) := wn_at gdX1_bestFloor_0 0 rfl
theorem dX1_bestFloor_1 : decode cX1_bestFloor 1 = .ok (.istore 4, 2) := wn_at gdX1_bestFloor_0 1 rfl
theorem dX1_bestFloor_3 : decode cX1_bestFloor 3 = .ok (.iconst 1, 1) := wn_at gdX1_bestFloor_0 2 rfl
theorem dX1_bestFloor_4 : decode cX1_bestFloor 4 = .ok (.istore 5, 2) := wn_at gdX1_bestFloor_0 3 rfl
theorem dX1_bestFloor_6 : decode cX1_bestFloor 6 = .ok (.iload 5, 2) := wn_at gdX1_bestFloor_0 4 rfl
theorem dX1_bestFloor_8 : decode cX1_bestFloor 8 = .ok (.aload_n 1, 1) := wn_at gdX1_bestFloor_0 5 rfl
theorem dX1_bestFloor_9 : decode cX1_bestFloor 9 = .ok (.getfield 17, 3) := wn_at gdX1_bestFloor_0 6 rfl
theorem dX1_bestFloor_12 : decode cX1_bestFloor 12 = .ok (.if_icmp .ge 39, 3) := wn_at gdX1_bestFloor_0 7 rfl
theorem dX1_bestFloor_15 : decode cX1_bestFloor 15 = .ok (.aload_n 0, 1) := wn_at gdX1_bestFloor_0 8 rfl
theorem dX1_bestFloor_16 : decode cX1_bestFloor 16 = .ok (.iload_n 2, 1) := wn_at gdX1_bestFloor_0 9 rfl
theorem gdX1_bestFloor_17 : ∀ e ∈ ([(17, .iload 5, 2), (19, .invokevirtual 42, 3), (22, .aload_n 0, 1), (23, .iload_n 2, 1), (24, .iload 4, 2), (26, .invokevirtual 42, 3), (29, .iload_n 3, 1), (30, .invokestatic 38, 3), (33, .ifCond .eq 8, 3), (36, .iload 5, 2)] : List (Nat × Instr × Nat)), decode cX1_bestFloor e.1 = .ok e.2 := wn_all _ 17 (by decide +kernel)
theorem dX1_bestFloor_17 : decode cX1_bestFloor 17 = .ok (.iload 5, 2) := wn_at gdX1_bestFloor_17 0 rfl
theorem dX1_bestFloor_19 : decode cX1_bestFloor 19 = .ok (.invokevirtual 42, 3) := wn_at gdX1_bestFloor_17 1 rfl
theorem dX1_bestFloor_22 : decode cX1_bestFloor 22 = .ok (.aload_n 0, 1) := wn_at gdX1_bestFloor_17 2 rfl
theorem dX1_bestFloor_23 : decode cX1_bestFloor 23 = .ok (.iload_n 2, 1) := wn_at gdX1_bestFloor_17 3 rfl
theorem dX1_bestFloor_24 : decode cX1_bestFloor 24 = .ok (.iload 4, 2) := wn_at gdX1_bestFloor_17 4 rfl
theorem dX1_bestFloor_26 : decode cX1_bestFloor 26 = .ok (.invokevirtual 42, 3) := wn_at gdX1_bestFloor_17 5 rfl
theorem dX1_bestFloor_29 : decode cX1_bestFloor 29 = .ok (.iload_n 3, 1) := wn_at gdX1_bestFloor_17 6 rfl
theorem dX1_bestFloor_30 : decode cX1_bestFloor 30 = .ok (.invokestatic 38, 3) := wn_at gdX1_bestFloor_17 7 rfl
theorem dX1_bestFloor_33 : decode cX1_bestFloor 33 = .ok (.ifCond .eq 8, 3) := wn_at gdX1_bestFloor_17 8 rfl
theorem dX1_bestFloor_36 : decode cX1_bestFloor 36 = .ok (.iload 5, 2) := wn_at gdX1_bestFloor_17 9 rfl
theorem gdX1_bestFloor_38 : ∀ e ∈ ([(38, .goto 5, 3), (41, .iload 4, 2), (43, .istore 4, 2), (45, .iinc 5 1, 3), (48, .goto (-42), 3), (51, .iload 4, 2), (53, .ireturn, 1)] : List (Nat × Instr × Nat)), decode cX1_bestFloor e.1 = .ok e.2 := wn_all _ 38 (by decide +kernel)
theorem dX1_bestFloor_38 : decode cX1_bestFloor 38 = .ok (.goto 5, 3) := wn_at gdX1_bestFloor_38 0 rfl
theorem dX1_bestFloor_41 : decode cX1_bestFloor 41 = .ok (.iload 4, 2) := wn_at gdX1_bestFloor_38 1 rfl
theorem dX1_bestFloor_43 : decode cX1_bestFloor 43 = .ok (.istore 4, 2) := wn_at gdX1_bestFloor_38 2 rfl
theorem dX1_bestFloor_45 : decode cX1_bestFloor 45 = .ok (.iinc 5 1, 3) := wn_at gdX1_bestFloor_38 3 rfl
theorem dX1_bestFloor_48 : decode cX1_bestFloor 48 = .ok (.goto (-42), 3) := wn_at gdX1_bestFloor_38 4 rfl
theorem dX1_bestFloor_51 : decode cX1_bestFloor 51 = .ok (.iload 4, 2) := wn_at gdX1_bestFloor_38 5 rfl
theorem dX1_bestFloor_53 : decode cX1_bestFloor 53 = .ok (.ireturn, 1) := wn_at gdX1_bestFloor_38 6 rfl
theorem gdX2_init_0 : ∀ e ∈ ([(0, .aload_n 0, 1), (1, .invokespecial 3, 3), (4, .aload_n 0, 1), (5, .bipush 12, 2), (7, .newarray .int, 2), (9, .putfield 9, 3), (12, .aload_n 0, 1), (13, .bipush 12, 2), (15, .newarray .int, 2), (17, .putfield 15, 3)] : List (Nat × Instr × Nat)), decode cX2_init e.1 = .ok e.2 := wn_all _ 0 (by decide +kernel)
theorem dX2_init_0 : decode cX2_init 0 = .ok (.aload_n 0, 1) := wn_at gdX2_init_0 0 rfl
theorem dX2_init_1 : decode cX2_init 1 = .ok (.invokespecial 3, 3) := wn_at gdX2_init_0 1 rfl
theorem dX2_init_4 : decode cX2_init 4 = .ok (.aload_n 0, 1) := wn_at gdX2_init_0 2 rfl
theorem dX2_init_5 : decode cX2_init 5 = .ok (.bipush 12, 2) := wn_at gdX2_init_0 3 rfl
theorem dX2_init_7 : decode cX2_init 7 = .ok (.newarray .int, 2) := wn_at gdX2_init_0 4 rfl
theorem dX2_init_9 : decode cX2_init 9 = .ok (.putfield 9, 3) := wn_at gdX2_init_0 5 rfl
theorem dX2_init_12 : decode cX2_init 12 = .ok (.aload_n 0, 1) := wn_at gdX2_init_0 6 rfl
theorem dX2_init_13 : decode cX2_init 13 = .ok (.bipush 12, 2) := wn_at gdX2_init_0 7 rfl
theorem dX2_init_15 : decode cX2_init 15 = .ok (.newarray .int, 2) := wn_at gdX2_init_0 8 rfl
theorem dX2_init_17 : decode cX2_init 17 = .ok (.putfield 15, 3) := wn_at gdX2_init_0 9 rfl
theorem gdX2_init_20 : ∀ e ∈ ([(20, .aload_n 0, 1), (21, .bipush 12, 2), (23, .newarray .int, 2), (25, .putfield 18, 3), (28, .aload_n 0, 1), (29, .bipush 12, 2), (31, .newarray .int, 2), (33, .putfield 21, 3), (36, .aload_n 0, 1), (37, .iconst 0, 1)] : List (Nat × Instr × Nat)), decode cX2_init e.1 = .ok e.2 := wn_all _ 20 (by decide +kernel)
theorem dX2_init_20 : decode cX2_init 20 = .ok (.aload_n 0, 1) := wn_at gdX2_init_20 0 rfl
theorem dX2_init_21 : decode cX2_init 21 = .ok (.bipush 12, 2) := wn_at gdX2_init_20 1 rfl
theorem dX2_init_23 : decode cX2_init 23 = .ok (.newarray .int, 2) := wn_at gdX2_init_20 2 rfl
theorem dX2_init_25 : decode cX2_init 25 = .ok (.putfield 18, 3) := wn_at gdX2_init_20 3 rfl
theorem dX2_init_28 : decode cX2_init 28 = .ok (.aload_n 0, 1) := wn_at gdX2_init_20 4 rfl
theorem dX2_init_29 : decode cX2_init 29 = .ok (.bipush 12, 2) := wn_at gdX2_init_20 5 rfl
theorem dX2_init_31 : decode cX2_init 31 = .ok (.newarray .int, 2) := wn_at gdX2_init_20 6 rfl
theorem dX2_init_33 : decode cX2_init 33 = .ok (.putfield 21, 3) := wn_at gdX2_init_20 7 rfl
theorem dX2_init_36 : decode cX2_init 36 = .ok (.aload_n 0, 1) := wn_at gdX2_init_20 8 rfl
theorem dX2_init_37 : decode cX2_init 37 = .ok (.iconst 0, 1) := wn_at gdX2_init_20 9 rfl
theorem gdX2_init_38 : ∀ e ∈ ([(38, .putfield 24, 3), (41, .return_, 1)] : List (Nat × Instr × Nat)), decode cX2_init e.1 = .ok e.2 := wn_all _ 38 (by decide +kernel)
theorem dX2_init_38 : decode cX2_init 38 = .ok (.putfield 24, 3) := wn_at gdX2_init_38 0 rfl
theorem dX2_init_41 : decode cX2_init 41 = .ok (.return_, 1) := wn_at gdX2_init_38 1 rfl
theorem gdX2_copyFrom_0 : ∀ e ∈ ([(0, .aload_n 1, 1), (1, .getfield 9, 3), (4, .iconst 0, 1), (5, .aload_n 0, 1), (6, .getfield 9, 3), (9, .iconst 0, 1), (10, .bipush 12, 2), (12, .invokestatic 28, 3), (15, .aload_n 1, 1), (16, .getfield 15, 3)] : List (Nat × Instr × Nat)), decode cX2_copyFrom e.1 = .ok e.2 := wn_all _ 0 (by decide +kernel)
theorem dX2_copyFrom_0 : decode cX2_copyFrom 0 = .ok (.aload_n 1, 1) := wn_at gdX2_copyFrom_0 0 rfl
theorem dX2_copyFrom_1 : decode cX2_copyFrom 1 = .ok (.getfield 9, 3) := wn_at gdX2_copyFrom_0 1 rfl
theorem dX2_copyFrom_4 : decode cX2_copyFrom 4 = .ok (.iconst 0, 1) := wn_at gdX2_copyFrom_0 2 rfl
theorem dX2_copyFrom_5 : decode cX2_copyFrom 5 = .ok (.aload_n 0, 1) := wn_at gdX2_copyFrom_0 3 rfl
theorem dX2_copyFrom_6 : decode cX2_copyFrom 6 = .ok (.getfield 9, 3) := wn_at gdX2_copyFrom_0 4 rfl
theorem dX2_copyFrom_9 : decode cX2_copyFrom 9 = .ok (.iconst 0, 1) := wn_at gdX2_copyFrom_0 5 rfl
theorem dX2_copyFrom_10 : decode cX2_copyFrom 10 = .ok (.bipush 12, 2) := wn_at gdX2_copyFrom_0 6 rfl
theorem dX2_copyFrom_12 : decode cX2_copyFrom 12 = .ok (.invokestatic 28, 3) := wn_at gdX2_copyFrom_0 7 rfl
theorem dX2_copyFrom_15 : decode cX2_copyFrom 15 = .ok (.aload_n 1, 1) := wn_at gdX2_copyFrom_0 8 rfl
theorem dX2_copyFrom_16 : decode cX2_copyFrom 16 = .ok (.getfield 15, 3) := wn_at gdX2_copyFrom_0 9 rfl
theorem gdX2_copyFrom_19 : ∀ e ∈ ([(19, .iconst 0, 1), (20, .aload_n 0, 1), (21, .getfield 15, 3), (24, .iconst 0, 1), (25, .bipush 12, 2), (27, .invokestatic 28, 3), (30, .aload_n 1, 1), (31, .getfield 18, 3), (34, .iconst 0, 1), (35, .aload_n 0, 1)] : List (Nat × Instr × Nat)), decode cX2_copyFrom e.1 = .ok e.2 := wn_all _ 19 (by decide +kernel)
theorem dX2_copyFrom_19 : decode cX2_copyFrom 19 = .ok (.iconst 0, 1) := wn_at gdX2_copyFrom_19 0 rfl
theorem dX2_copyFrom_20 : decode cX2_copyFrom 20 = .ok (.aload_n 0, 1) := wn_at gdX2_copyFrom_19 1 rfl
theorem dX2_copyFrom_21 : decode cX2_copyFrom 21 = .ok (.getfield 15, 3) := wn_at gdX2_copyFrom_19 2 rfl
theorem dX2_copyFrom_24 : decode cX2_copyFrom 24 = .ok (.iconst 0, 1) := wn_at gdX2_copyFrom_19 3 rfl
theorem dX2_copyFrom_25 : decode cX2_copyFrom 25 = .ok (.bipush 12, 2) := wn_at gdX2_copyFrom_19 4 rfl
theorem dX2_copyFrom_27 : decode cX2_copyFrom 27 = .ok (.invokestatic 28, 3) := wn_at gdX2_copyFrom_19 5 rfl
theorem dX2_copyFrom_30 : decode cX2_copyFrom 30 = .ok (.aload_n 1, 1) := wn_at gdX2_copyFrom_19 6 rfl
theorem dX2_copyFrom_31 : decode cX2_copyFrom 31 = .ok (.getfield 18, 3) := wn_at gdX2_copyFrom_19 7 rfl
theorem dX2_copyFrom_34 : decode cX2_copyFrom 34 = .ok (.iconst 0, 1) := wn_at gdX2_copyFrom_19 8 rfl
theorem dX2_copyFrom_35 : decode cX2_copyFrom 35 = .ok (.aload_n 0, 1) := wn_at gdX2_copyFrom_19 9 rfl
theorem gdX2_copyFrom_36 : ∀ e ∈ ([(36, .getfield 18, 3), (39, .iconst 0, 1), (40, .bipush 12, 2), (42, .invokestatic 28, 3), (45, .aload_n 1, 1), (46, .getfield 21, 3), (49, .iconst 0, 1), (50, .aload_n 0, 1), (51, .getfield 21, 3), (54, .iconst 0, 1)] : List (Nat × Instr × Nat)), decode cX2_copyFrom e.1 = .ok e.2 := wn_all _ 36 (by decide +kernel)
theorem dX2_copyFrom_36 : decode cX2_copyFrom 36 = .ok (.getfield 18, 3) := wn_at gdX2_copyFrom_36 0 rfl
theorem dX2_copyFrom_39 : decode cX2_copyFrom 39 = .ok (.iconst 0, 1) := wn_at gdX2_copyFrom_36 1 rfl
theorem dX2_copyFrom_40 : decode cX2_copyFrom 40 = .ok (.bipush 12, 2) := wn_at gdX2_copyFrom_36 2 rfl
theorem dX2_copyFrom_42 : decode cX2_copyFrom 42 = .ok (.invokestatic 28, 3) := wn_at gdX2_copyFrom_36 3 rfl
theorem dX2_copyFrom_45 : decode cX2_copyFrom 45 = .ok (.aload_n 1, 1) := wn_at gdX2_copyFrom_36 4 rfl
theorem dX2_copyFrom_46 : decode cX2_copyFrom 46 = .ok (.getfield 21, 3) := wn_at gdX2_copyFrom_36 5 rfl
theorem dX2_copyFrom_49 : decode cX2_copyFrom 49 = .ok (.iconst 0, 1) := wn_at gdX2_copyFrom_36 6 rfl
theorem dX2_copyFrom_50 : decode cX2_copyFrom 50 = .ok (.aload_n 0, 1) := wn_at gdX2_copyFrom_36 7 rfl
theorem dX2_copyFrom_51 : decode cX2_copyFrom 51 = .ok (.getfield 21, 3) := wn_at gdX2_copyFrom_36 8 rfl
theorem dX2_copyFrom_54 : decode cX2_copyFrom 54 = .ok (.iconst 0, 1) := wn_at gdX2_copyFrom_36 9 rfl
theorem gdX2_copyFrom_55 : ∀ e ∈ ([(55, .bipush 12, 2), (57, .invokestatic 28, 3), (60, .aload_n 0, 1), (61, .aload_n 1, 1), (62, .getfield 24, 3), (65, .putfield 24, 3), (68, .return_, 1)] : List (Nat × Instr × Nat)), decode cX2_copyFrom e.1 = .ok e.2 := wn_all _ 55 (by decide +kernel)
theorem dX2_copyFrom_55 : decode cX2_copyFrom 55 = .ok (.bipush 12, 2) := wn_at gdX2_copyFrom_55 0 rfl
theorem dX2_copyFrom_57 : decode cX2_copyFrom 57 = .ok (.invokestatic 28, 3) := wn_at gdX2_copyFrom_55 1 rfl
theorem dX2_copyFrom_60 : decode cX2_copyFrom 60 = .ok (.aload_n 0, 1) := wn_at gdX2_copyFrom_55 2 rfl
theorem dX2_copyFrom_61 : decode cX2_copyFrom 61 = .ok (.aload_n 1, 1) := wn_at gdX2_copyFrom_55 3 rfl
theorem dX2_copyFrom_62 : decode cX2_copyFrom 62 = .ok (.getfield 24, 3) := wn_at gdX2_copyFrom_55 4 rfl
theorem dX2_copyFrom_65 : decode cX2_copyFrom 65 = .ok (.putfield 24, 3) := wn_at gdX2_copyFrom_55 5 rfl
theorem dX2_copyFrom_68 : decode cX2_copyFrom 68 = .ok (.return_, 1) := wn_at gdX2_copyFrom_55 6 rfl
theorem gdX2_send_0 : ∀ e ∈ ([(0, .aload_n 0, 1), (1, .getfield 24, 3), (4, .bipush 12, 2), (6, .if_icmp .ge 54, 3), (9, .aload_n 0, 1), (10, .getfield 9, 3), (13, .aload_n 0, 1), (14, .getfield 24, 3), (17, .iload_n 1, 1), (18, .iastore, 1)] : List (Nat × Instr × Nat)), decode cX2_send e.1 = .ok e.2 := wn_all _ 0 (by decide +kernel)
theorem dX2_send_0 : decode cX2_send 0 = .ok (.aload_n 0, 1) := wn_at gdX2_send_0 0 rfl
theorem dX2_send_1 : decode cX2_send 1 = .ok (.getfield 24, 3) := wn_at gdX2_send_0 1 rfl
theorem dX2_send_4 : decode cX2_send 4 = .ok (.bipush 12, 2) := wn_at gdX2_send_0 2 rfl
theorem dX2_send_6 : decode cX2_send 6 = .ok (.if_icmp .ge 54, 3) := wn_at gdX2_send_0 3 rfl
theorem dX2_send_9 : decode cX2_send 9 = .ok (.aload_n 0, 1) := wn_at gdX2_send_0 4 rfl
theorem dX2_send_10 : decode cX2_send 10 = .ok (.getfield 9, 3) := wn_at gdX2_send_0 5 rfl
theorem dX2_send_13 : decode cX2_send 13 = .ok (.aload_n 0, 1) := wn_at gdX2_send_0 6 rfl
theorem dX2_send_14 : decode cX2_send 14 = .ok (.getfield 24, 3) := wn_at gdX2_send_0 7 rfl
theorem dX2_send_17 : decode cX2_send 17 = .ok (.iload_n 1, 1) := wn_at gdX2_send_0 8 rfl
theorem dX2_send_18 : decode cX2_send 18 = .ok (.iastore, 1) := wn_at gdX2_send_0 9 rfl
theorem gdX2_send_19 : ∀ e ∈ ([(19, .aload_n 0, 1), (20, .getfield 15, 3), (23, .aload_n 0, 1), (24, .getfield 24, 3), (27, .iload_n 2, 1), (28, .iastore, 1), (29, .aload_n 0, 1), (30, .getfield 18, 3), (33, .aload_n 0, 1), (34, .getfield 24, 3)] : List (Nat × Instr × Nat)), decode cX2_send e.1 = .ok e.2 := wn_all _ 19 (by decide +kernel)
theorem dX2_send_19 : decode cX2_send 19 = .ok (.aload_n 0, 1) := wn_at gdX2_send_19 0 rfl
theorem dX2_send_20 : decode cX2_send 20 = .ok (.getfield 15, 3) := wn_at gdX2_send_19 1 rfl
theorem dX2_send_23 : decode cX2_send 23 = .ok (.aload_n 0, 1) := wn_at gdX2_send_19 2 rfl
theorem dX2_send_24 : decode cX2_send 24 = .ok (.getfield 24, 3) := wn_at gdX2_send_19 3 rfl
theorem dX2_send_27 : decode cX2_send 27 = .ok (.iload_n 2, 1) := wn_at gdX2_send_19 4 rfl
theorem dX2_send_28 : decode cX2_send 28 = .ok (.iastore, 1) := wn_at gdX2_send_19 5 rfl
theorem dX2_send_29 : decode cX2_send 29 = .ok (.aload_n 0, 1) := wn_at gdX2_send_19 6 rfl
theorem dX2_send_30 : decode cX2_send 30 = .ok (.getfield 18, 3) := wn_at gdX2_send_19 7 rfl
theorem dX2_send_33 : decode cX2_send 33 = .ok (.aload_n 0, 1) := wn_at gdX2_send_19 8 rfl
theorem dX2_send_34 : decode cX2_send 34 = .ok (.getfield 24, 3) := wn_at gdX2_send_19 9 rfl
theorem gdX2_send_37 : ∀ e ∈ ([(37, .iload_n 3, 1), (38, .iastore, 1), (39, .aload_n 0, 1), (40, .getfield 21, 3), (43, .aload_n 0, 1), (44, .getfield 24, 3), (47, .iload 4, 2), (49, .iastore, 1), (50, .aload_n 0, 1), (51, .dup, 1)] : List (Nat × Instr × Nat)), decode cX2_send e.1 = .ok e.2 := wn_all _ 37 (by decide +kernel)
theorem dX2_send_37 : decode cX2_send 37 = .ok (.iload_n 3, 1) := wn_at gdX2_send_37 0 rfl
theorem dX2_send_38 : decode cX2_send 38 = .ok (.iastore, 1) := wn_at gdX2_send_37 1 rfl
theorem dX2_send_39 : decode cX2_send 39 = .ok (.aload_n 0, 1) := wn_at gdX2_send_37 2 rfl
theorem dX2_send_40 : decode cX2_send 40 = .ok (.getfield 21, 3) := wn_at gdX2_send_37 3 rfl
theorem dX2_send_43 : decode cX2_send 43 = .ok (.aload_n 0, 1) := wn_at gdX2_send_37 4 rfl
theorem dX2_send_44 : decode cX2_send 44 = .ok (.getfield 24, 3) := wn_at gdX2_send_37 5 rfl
theorem dX2_send_47 : decode cX2_send 47 = .ok (.iload 4, 2) := wn_at gdX2_send_37 6 rfl
theorem dX2_send_49 : decode cX2_send 49 = .ok (.iastore, 1) := wn_at gdX2_send_37 7 rfl
theorem dX2_send_50 : decode cX2_send 50 = .ok (.aload_n 0, 1) := wn_at gdX2_send_37 8 rfl
theorem dX2_send_51 : decode cX2_send 51 = .ok (.dup, 1) := wn_at gdX2_send_37 9 rfl
theorem gdX2_send_52 : ∀ e ∈ ([(52, .getfield 24, 3), (55, .iconst 1, 1), (56, .iadd, 1), (57, .putfield 24, 3), (60, .return_, 1)] : List (Nat × Instr × Nat)), decode cX2_send e.1 = .ok e.2 := wn_all _ 52 (by decide +kernel)
theorem dX2_send_52 : decode cX2_send 52 = .ok (.getfield 24, 3) := wn_at gdX2_send_52 0 rfl
theorem dX2_send_55 : decode cX2_send 55 = .ok (.iconst 1, 1) := wn_at gdX2_send_52 1 rfl
theorem dX2_send_56 : decode cX2_send 56 = .ok (.iadd, 1) := wn_at gdX2_send_52 2 rfl
theorem dX2_send_57 : decode cX2_send 57 = .ok (.putfield 24, 3) := wn_at gdX2_send_52 3 rfl
theorem dX2_send_60 : decode cX2_send 60 = .ok (.return_, 1) := wn_at gdX2_send_52 4 rfl
theorem gdX2_sentByClock_0 : ∀ e ∈ ([(0, .aload_n 1, 1), (1, .aload_n 0, 1), (2, .getfield 9, 3), (5, .iload_n 2, 1), (6, .iaload, 1), (7, .aload_n 0, 1), (8, .getfield 18, 3), (11, .iload_n 2, 1), (12, .iaload, 1), (13, .invokevirtual 34, 3)] : List (Nat × Instr × Nat)), decode cX2_sentByClock e.1 = .ok e.2 := wn_all _ 0 (by decide +kernel)
theorem dX2_sentByClock_0 : decode cX2_sentByClock 0 = .ok (.aload_n 1, 1) := wn_at gdX2_sentByClock_0 0 rfl
theorem dX2_sentByClock_1 : decode cX2_sentByClock 1 = .ok (.aload_n 0, 1) := wn_at gdX2_sentByClock_0 1 rfl
theorem dX2_sentByClock_2 : decode cX2_sentByClock 2 = .ok (.getfield 9, 3) := wn_at gdX2_sentByClock_0 2 rfl
theorem dX2_sentByClock_5 : decode cX2_sentByClock 5 = .ok (.iload_n 2, 1) := wn_at gdX2_sentByClock_0 3 rfl
theorem dX2_sentByClock_6 : decode cX2_sentByClock 6 = .ok (.iaload, 1) := wn_at gdX2_sentByClock_0 4 rfl
theorem dX2_sentByClock_7 : decode cX2_sentByClock 7 = .ok (.aload_n 0, 1) := wn_at gdX2_sentByClock_0 5 rfl
theorem dX2_sentByClock_8 : decode cX2_sentByClock 8 = .ok (.getfield 18, 3) := wn_at gdX2_sentByClock_0 6 rfl
theorem dX2_sentByClock_11 : decode cX2_sentByClock 11 = .ok (.iload_n 2, 1) := wn_at gdX2_sentByClock_0 7 rfl
theorem dX2_sentByClock_12 : decode cX2_sentByClock 12 = .ok (.iaload, 1) := wn_at gdX2_sentByClock_0 8 rfl
theorem dX2_sentByClock_13 : decode cX2_sentByClock 13 = .ok (.invokevirtual 34, 3) := wn_at gdX2_sentByClock_0 9 rfl
theorem gdX2_sentByClock_16 : ∀ e ∈ ([(16, .lreturn, 1)] : List (Nat × Instr × Nat)), decode cX2_sentByClock e.1 = .ok e.2 := wn_all _ 16 (by decide +kernel)
theorem dX2_sentByClock_16 : decode cX2_sentByClock 16 = .ok (.lreturn, 1) := wn_at gdX2_sentByClock_16 0 rfl
theorem gdX2_isEarly_0 : ∀ e ∈ ([(0, .aload_n 1, 1), (1, .aload_n 0, 1), (2, .getfield 15, 3), (5, .iload_n 2, 1), (6, .iaload, 1), (7, .aload_n 0, 1), (8, .getfield 21, 3), (11, .iload_n 2, 1), (12, .iaload, 1), (13, .invokevirtual 34, 3)] : List (Nat × Instr × Nat)), decode cX2_isEarly e.1 = .ok e.2 := wn_all _ 0 (by decide +kernel)
theorem dX2_isEarly_0 : decode cX2_isEarly 0 = .ok (.aload_n 1, 1) := wn_at gdX2_isEarly_0 0 rfl
theorem dX2_isEarly_1 : decode cX2_isEarly 1 = .ok (.aload_n 0, 1) := wn_at gdX2_isEarly_0 1 rfl
theorem dX2_isEarly_2 : decode cX2_isEarly 2 = .ok (.getfield 15, 3) := wn_at gdX2_isEarly_0 2 rfl
theorem dX2_isEarly_5 : decode cX2_isEarly 5 = .ok (.iload_n 2, 1) := wn_at gdX2_isEarly_0 3 rfl
theorem dX2_isEarly_6 : decode cX2_isEarly 6 = .ok (.iaload, 1) := wn_at gdX2_isEarly_0 4 rfl
theorem dX2_isEarly_7 : decode cX2_isEarly 7 = .ok (.aload_n 0, 1) := wn_at gdX2_isEarly_0 5 rfl
theorem dX2_isEarly_8 : decode cX2_isEarly 8 = .ok (.getfield 21, 3) := wn_at gdX2_isEarly_0 6 rfl
theorem dX2_isEarly_11 : decode cX2_isEarly 11 = .ok (.iload_n 2, 1) := wn_at gdX2_isEarly_0 7 rfl
theorem dX2_isEarly_12 : decode cX2_isEarly 12 = .ok (.iaload, 1) := wn_at gdX2_isEarly_0 8 rfl
theorem dX2_isEarly_13 : decode cX2_isEarly 13 = .ok (.invokevirtual 34, 3) := wn_at gdX2_isEarly_0 9 rfl
theorem gdX2_isEarly_16 : ∀ e ∈ ([(16, .aload_n 0, 1), (17, .aload_n 1, 1), (18, .iload_n 2, 1), (19, .invokevirtual 40, 3), (22, .lcmp, 1), (23, .ifCond .ge 7, 3), (26, .iconst 1, 1), (27, .goto 4, 3), (30, .iconst 0, 1), (31, .ireturn, 1)] : List (Nat × Instr × Nat)), decode cX2_isEarly e.1 = .ok e.2 := wn_all _ 16 (by decide +kernel)
theorem dX2_isEarly_16 : decode cX2_isEarly 16 = .ok (.aload_n 0, 1) := wn_at gdX2_isEarly_16 0 rfl
theorem dX2_isEarly_17 : decode cX2_isEarly 17 = .ok (.aload_n 1, 1) := wn_at gdX2_isEarly_16 1 rfl
theorem dX2_isEarly_18 : decode cX2_isEarly 18 = .ok (.iload_n 2, 1) := wn_at gdX2_isEarly_16 2 rfl
theorem dX2_isEarly_19 : decode cX2_isEarly 19 = .ok (.invokevirtual 40, 3) := wn_at gdX2_isEarly_16 3 rfl
theorem dX2_isEarly_22 : decode cX2_isEarly 22 = .ok (.lcmp, 1) := wn_at gdX2_isEarly_16 4 rfl
theorem dX2_isEarly_23 : decode cX2_isEarly 23 = .ok (.ifCond .ge 7, 3) := wn_at gdX2_isEarly_16 5 rfl
theorem dX2_isEarly_26 : decode cX2_isEarly 26 = .ok (.iconst 1, 1) := wn_at gdX2_isEarly_16 6 rfl
theorem dX2_isEarly_27 : decode cX2_isEarly 27 = .ok (.goto 4, 3) := wn_at gdX2_isEarly_16 7 rfl
theorem dX2_isEarly_30 : decode cX2_isEarly 30 = .ok (.iconst 0, 1) := wn_at gdX2_isEarly_16 8 rfl
theorem dX2_isEarly_31 : decode cX2_isEarly 31 = .ok (.ireturn, 1) := wn_at gdX2_isEarly_16 9 rfl
theorem gdX2_earlyOnes_0 : ∀ e ∈ ([(0, .iconst 0, 1), (1, .istore_n 2, 1), (2, .iconst 0, 1), (3, .istore_n 3, 1), (4, .iload_n 3, 1), (5, .aload_n 0, 1), (6, .getfield 24, 3), (9, .if_icmp .ge 26, 3), (12, .iload_n 2, 1), (13, .aload_n 0, 1)] : List (Nat × Instr × Nat)), decode cX2_earlyOnes e.1 = .ok e.2 := wn_all _ 0 (by decide +kernel)
theorem dX2_earlyOnes_0 : decode cX2_earlyOnes 0 = .ok (.iconst 0, 1) := wn_at gdX2_earlyOnes_0 0 rfl
theorem dX2_earlyOnes_1 : decode cX2_earlyOnes 1 = .ok (.istore_n 2, 1) := wn_at gdX2_earlyOnes_0 1 rfl
theorem dX2_earlyOnes_2 : decode cX2_earlyOnes 2 = .ok (.iconst 0, 1) := wn_at gdX2_earlyOnes_0 2 rfl
theorem dX2_earlyOnes_3 : decode cX2_earlyOnes 3 = .ok (.istore_n 3, 1) := wn_at gdX2_earlyOnes_0 3 rfl
theorem dX2_earlyOnes_4 : decode cX2_earlyOnes 4 = .ok (.iload_n 3, 1) := wn_at gdX2_earlyOnes_0 4 rfl
theorem dX2_earlyOnes_5 : decode cX2_earlyOnes 5 = .ok (.aload_n 0, 1) := wn_at gdX2_earlyOnes_0 5 rfl
theorem dX2_earlyOnes_6 : decode cX2_earlyOnes 6 = .ok (.getfield 24, 3) := wn_at gdX2_earlyOnes_0 6 rfl
theorem dX2_earlyOnes_9 : decode cX2_earlyOnes 9 = .ok (.if_icmp .ge 26, 3) := wn_at gdX2_earlyOnes_0 7 rfl
theorem dX2_earlyOnes_12 : decode cX2_earlyOnes 12 = .ok (.iload_n 2, 1) := wn_at gdX2_earlyOnes_0 8 rfl
theorem dX2_earlyOnes_13 : decode cX2_earlyOnes 13 = .ok (.aload_n 0, 1) := wn_at gdX2_earlyOnes_0 9 rfl
theorem gdX2_earlyOnes_14 : ∀ e ∈ ([(14, .aload_n 1, 1), (15, .iload_n 3, 1), (16, .invokevirtual 44, 3), (19, .ifCond .eq 7, 3), (22, .iconst 1, 1), (23, .goto 4, 3), (26, .iconst 0, 1), (27, .iadd, 1), (28, .istore_n 2, 1), (29, .iinc 3 1, 3)] : List (Nat × Instr × Nat)), decode cX2_earlyOnes e.1 = .ok e.2 := wn_all _ 14 (by decide +kernel)
theorem dX2_earlyOnes_14 : decode cX2_earlyOnes 14 = .ok (.aload_n 1, 1) := wn_at gdX2_earlyOnes_14 0 rfl
theorem dX2_earlyOnes_15 : decode cX2_earlyOnes 15 = .ok (.iload_n 3, 1) := wn_at gdX2_earlyOnes_14 1 rfl
theorem dX2_earlyOnes_16 : decode cX2_earlyOnes 16 = .ok (.invokevirtual 44, 3) := wn_at gdX2_earlyOnes_14 2 rfl
theorem dX2_earlyOnes_19 : decode cX2_earlyOnes 19 = .ok (.ifCond .eq 7, 3) := wn_at gdX2_earlyOnes_14 3 rfl
theorem dX2_earlyOnes_22 : decode cX2_earlyOnes 22 = .ok (.iconst 1, 1) := wn_at gdX2_earlyOnes_14 4 rfl
theorem dX2_earlyOnes_23 : decode cX2_earlyOnes 23 = .ok (.goto 4, 3) := wn_at gdX2_earlyOnes_14 5 rfl
theorem dX2_earlyOnes_26 : decode cX2_earlyOnes 26 = .ok (.iconst 0, 1) := wn_at gdX2_earlyOnes_14 6 rfl
theorem dX2_earlyOnes_27 : decode cX2_earlyOnes 27 = .ok (.iadd, 1) := wn_at gdX2_earlyOnes_14 7 rfl
theorem dX2_earlyOnes_28 : decode cX2_earlyOnes 28 = .ok (.istore_n 2, 1) := wn_at gdX2_earlyOnes_14 8 rfl
theorem dX2_earlyOnes_29 : decode cX2_earlyOnes 29 = .ok (.iinc 3 1, 3) := wn_at gdX2_earlyOnes_14 9 rfl
theorem gdX2_earlyOnes_32 : ∀ e ∈ ([(32, .goto (-28), 3), (35, .iload_n 2, 1), (36, .ireturn, 1)] : List (Nat × Instr × Nat)), decode cX2_earlyOnes e.1 = .ok e.2 := wn_all _ 32 (by decide +kernel)
theorem dX2_earlyOnes_32 : decode cX2_earlyOnes 32 = .ok (.goto (-28), 3) := wn_at gdX2_earlyOnes_32 0 rfl
theorem dX2_earlyOnes_35 : decode cX2_earlyOnes 35 = .ok (.iload_n 2, 1) := wn_at gdX2_earlyOnes_32 1 rfl
theorem dX2_earlyOnes_36 : decode cX2_earlyOnes 36 = .ok (.ireturn, 1) := wn_at gdX2_earlyOnes_32 2 rfl
theorem gdX2_isOvertaken_0 : ∀ e ∈ ([(0, .aload_n 0, 1), (1, .aload_n 1, 1), (2, .iload_n 2, 1), (3, .invokevirtual 40, 3), (6, .aload_n 0, 1), (7, .aload_n 1, 1), (8, .iload_n 3, 1), (9, .invokevirtual 40, 3), (12, .lcmp, 1), (13, .ifCond .ge 22, 3)] : List (Nat × Instr × Nat)), decode cX2_isOvertaken e.1 = .ok e.2 := wn_all _ 0 (by decide +kernel)
theorem dX2_isOvertaken_0 : decode cX2_isOvertaken 0 = .ok (.aload_n 0, 1) := wn_at gdX2_isOvertaken_0 0 rfl
theorem dX2_isOvertaken_1 : decode cX2_isOvertaken 1 = .ok (.aload_n 1, 1) := wn_at gdX2_isOvertaken_0 1 rfl
theorem dX2_isOvertaken_2 : decode cX2_isOvertaken 2 = .ok (.iload_n 2, 1) := wn_at gdX2_isOvertaken_0 2 rfl
theorem dX2_isOvertaken_3 : decode cX2_isOvertaken 3 = .ok (.invokevirtual 40, 3) := wn_at gdX2_isOvertaken_0 3 rfl
theorem dX2_isOvertaken_6 : decode cX2_isOvertaken 6 = .ok (.aload_n 0, 1) := wn_at gdX2_isOvertaken_0 4 rfl
theorem dX2_isOvertaken_7 : decode cX2_isOvertaken 7 = .ok (.aload_n 1, 1) := wn_at gdX2_isOvertaken_0 5 rfl
theorem dX2_isOvertaken_8 : decode cX2_isOvertaken 8 = .ok (.iload_n 3, 1) := wn_at gdX2_isOvertaken_0 6 rfl
theorem dX2_isOvertaken_9 : decode cX2_isOvertaken 9 = .ok (.invokevirtual 40, 3) := wn_at gdX2_isOvertaken_0 7 rfl
theorem dX2_isOvertaken_12 : decode cX2_isOvertaken 12 = .ok (.lcmp, 1) := wn_at gdX2_isOvertaken_0 8 rfl
theorem dX2_isOvertaken_13 : decode cX2_isOvertaken 13 = .ok (.ifCond .ge 22, 3) := wn_at gdX2_isOvertaken_0 9 rfl
theorem gdX2_isOvertaken_16 : ∀ e ∈ ([(16, .aload_n 0, 1), (17, .getfield 21, 3), (20, .iload_n 2, 1), (21, .iaload, 1), (22, .aload_n 0, 1), (23, .getfield 21, 3), (26, .iload_n 3, 1), (27, .iaload, 1), (28, .if_icmp .le 7, 3), (31, .iconst 1, 1)] : List (Nat × Instr × Nat)), decode cX2_isOvertaken e.1 = .ok e.2 := wn_all _ 16 (by decide +kernel)
theorem dX2_isOvertaken_16 : decode cX2_isOvertaken 16 = .ok (.aload_n 0, 1) := wn_at gdX2_isOvertaken_16 0 rfl
theorem dX2_isOvertaken_17 : decode cX2_isOvertaken 17 = .ok (.getfield 21, 3) := wn_at gdX2_isOvertaken_16 1 rfl
theorem dX2_isOvertaken_20 : decode cX2_isOvertaken 20 = .ok (.iload_n 2, 1) := wn_at gdX2_isOvertaken_16 2 rfl
theorem dX2_isOvertaken_21 : decode cX2_isOvertaken 21 = .ok (.iaload, 1) := wn_at gdX2_isOvertaken_16 3 rfl
theorem dX2_isOvertaken_22 : decode cX2_isOvertaken 22 = .ok (.aload_n 0, 1) := wn_at gdX2_isOvertaken_16 4 rfl
theorem dX2_isOvertaken_23 : decode cX2_isOvertaken 23 = .ok (.getfield 21, 3) := wn_at gdX2_isOvertaken_16 5 rfl
theorem dX2_isOvertaken_26 : decode cX2_isOvertaken 26 = .ok (.iload_n 3, 1) := wn_at gdX2_isOvertaken_16 6 rfl
theorem dX2_isOvertaken_27 : decode cX2_isOvertaken 27 = .ok (.iaload, 1) := wn_at gdX2_isOvertaken_16 7 rfl
theorem dX2_isOvertaken_28 : decode cX2_isOvertaken 28 = .ok (.if_icmp .le 7, 3) := wn_at gdX2_isOvertaken_16 8 rfl
theorem dX2_isOvertaken_31 : decode cX2_isOvertaken 31 = .ok (.iconst 1, 1) := wn_at gdX2_isOvertaken_16 9 rfl
theorem gdX2_isOvertaken_32 : ∀ e ∈ ([(32, .goto 4, 3), (35, .iconst 0, 1), (36, .ireturn, 1)] : List (Nat × Instr × Nat)), decode cX2_isOvertaken e.1 = .ok e.2 := wn_all _ 32 (by decide +kernel)
theorem dX2_isOvertaken_32 : decode cX2_isOvertaken 32 = .ok (.goto 4, 3) := wn_at gdX2_isOvertaken_32 0 rfl
theorem dX2_isOvertaken_35 : decode cX2_isOvertaken 35 = .ok (.iconst 0, 1) := wn_at gdX2_isOvertaken_32 1 rfl
theorem dX2_isOvertaken_36 : decode cX2_isOvertaken 36 = .ok (.ireturn, 1) := wn_at gdX2_isOvertaken_32 2 rfl
theorem gdX2_comingBefore_0 : ∀ e ∈ ([(0, .iconst 0, 1), (1, .istore_n 2, 1), (2, .iconst 0, 1), (3, .istore_n 3, 1), (4, .iload_n 3, 1), (5, .aload_n 0, 1), (6, .getfield 24, 3), (9, .if_icmp .ge 64, 3), (12, .aload_n 0, 1), (13, .getfield 21, 3)] : List (Nat × Instr × Nat)), decode cX2_comingBefore e.1 = .ok e.2 := wn_all _ 0 (by decide +kernel)
theorem dX2_comingBefore_0 : decode cX2_comingBefore 0 = .ok (.iconst 0, 1) := wn_at gdX2_comingBefore_0 0 rfl
theorem dX2_comingBefore_1 : decode cX2_comingBefore 1 = .ok (.istore_n 2, 1) := wn_at gdX2_comingBefore_0 1 rfl
theorem dX2_comingBefore_2 : decode cX2_comingBefore 2 = .ok (.iconst 0, 1) := wn_at gdX2_comingBefore_0 2 rfl
theorem dX2_comingBefore_3 : decode cX2_comingBefore 3 = .ok (.istore_n 3, 1) := wn_at gdX2_comingBefore_0 3 rfl
theorem dX2_comingBefore_4 : decode cX2_comingBefore 4 = .ok (.iload_n 3, 1) := wn_at gdX2_comingBefore_0 4 rfl
theorem dX2_comingBefore_5 : decode cX2_comingBefore 5 = .ok (.aload_n 0, 1) := wn_at gdX2_comingBefore_0 5 rfl
theorem dX2_comingBefore_6 : decode cX2_comingBefore 6 = .ok (.getfield 24, 3) := wn_at gdX2_comingBefore_0 6 rfl
theorem dX2_comingBefore_9 : decode cX2_comingBefore 9 = .ok (.if_icmp .ge 64, 3) := wn_at gdX2_comingBefore_0 7 rfl
theorem dX2_comingBefore_12 : decode cX2_comingBefore 12 = .ok (.aload_n 0, 1) := wn_at gdX2_comingBefore_0 8 rfl
theorem dX2_comingBefore_13 : decode cX2_comingBefore 13 = .ok (.getfield 21, 3) := wn_at gdX2_comingBefore_0 9 rfl
theorem gdX2_comingBefore_16 : ∀ e ∈ ([(16, .iload_n 3, 1), (17, .iaload, 1), (18, .aload_n 0, 1), (19, .getfield 21, 3), (22, .iload_n 1, 1), (23, .iaload, 1), (24, .if_icmp .lt 23, 3), (27, .aload_n 0, 1), (28, .getfield 21, 3), (31, .iload_n 3, 1)] : List (Nat × Instr × Nat)), decode cX2_comingBefore e.1 = .ok e.2 := wn_all _ 16 (by decide +kernel)
theorem dX2_comingBefore_16 : decode cX2_comingBefore 16 = .ok (.iload_n 3, 1) := wn_at gdX2_comingBefore_16 0 rfl
theorem dX2_comingBefore_17 : decode cX2_comingBefore 17 = .ok (.iaload, 1) := wn_at gdX2_comingBefore_16 1 rfl
theorem dX2_comingBefore_18 : decode cX2_comingBefore 18 = .ok (.aload_n 0, 1) := wn_at gdX2_comingBefore_16 2 rfl
theorem dX2_comingBefore_19 : decode cX2_comingBefore 19 = .ok (.getfield 21, 3) := wn_at gdX2_comingBefore_16 3 rfl
theorem dX2_comingBefore_22 : decode cX2_comingBefore 22 = .ok (.iload_n 1, 1) := wn_at gdX2_comingBefore_16 4 rfl
theorem dX2_comingBefore_23 : decode cX2_comingBefore 23 = .ok (.iaload, 1) := wn_at gdX2_comingBefore_16 5 rfl
theorem dX2_comingBefore_24 : decode cX2_comingBefore 24 = .ok (.if_icmp .lt 23, 3) := wn_at gdX2_comingBefore_16 6 rfl
theorem dX2_comingBefore_27 : decode cX2_comingBefore 27 = .ok (.aload_n 0, 1) := wn_at gdX2_comingBefore_16 7 rfl
theorem dX2_comingBefore_28 : decode cX2_comingBefore 28 = .ok (.getfield 21, 3) := wn_at gdX2_comingBefore_16 8 rfl
theorem dX2_comingBefore_31 : decode cX2_comingBefore 31 = .ok (.iload_n 3, 1) := wn_at gdX2_comingBefore_16 9 rfl
theorem gdX2_comingBefore_32 : ∀ e ∈ ([(32, .iaload, 1), (33, .aload_n 0, 1), (34, .getfield 21, 3), (37, .iload_n 1, 1), (38, .iaload, 1), (39, .if_icmp .ne 12, 3), (42, .iload_n 3, 1), (43, .iload_n 1, 1), (44, .if_icmp .ge 7, 3), (47, .iconst 1, 1)] : List (Nat × Instr × Nat)), decode cX2_comingBefore e.1 = .ok e.2 := wn_all _ 32 (by decide +kernel)
theorem dX2_comingBefore_32 : decode cX2_comingBefore 32 = .ok (.iaload, 1) := wn_at gdX2_comingBefore_32 0 rfl
theorem dX2_comingBefore_33 : decode cX2_comingBefore 33 = .ok (.aload_n 0, 1) := wn_at gdX2_comingBefore_32 1 rfl
theorem dX2_comingBefore_34 : decode cX2_comingBefore 34 = .ok (.getfield 21, 3) := wn_at gdX2_comingBefore_32 2 rfl
theorem dX2_comingBefore_37 : decode cX2_comingBefore 37 = .ok (.iload_n 1, 1) := wn_at gdX2_comingBefore_32 3 rfl
theorem dX2_comingBefore_38 : decode cX2_comingBefore 38 = .ok (.iaload, 1) := wn_at gdX2_comingBefore_32 4 rfl
theorem dX2_comingBefore_39 : decode cX2_comingBefore 39 = .ok (.if_icmp .ne 12, 3) := wn_at gdX2_comingBefore_32 5 rfl
theorem dX2_comingBefore_42 : decode cX2_comingBefore 42 = .ok (.iload_n 3, 1) := wn_at gdX2_comingBefore_32 6 rfl
theorem dX2_comingBefore_43 : decode cX2_comingBefore 43 = .ok (.iload_n 1, 1) := wn_at gdX2_comingBefore_32 7 rfl
theorem dX2_comingBefore_44 : decode cX2_comingBefore 44 = .ok (.if_icmp .ge 7, 3) := wn_at gdX2_comingBefore_32 8 rfl
theorem dX2_comingBefore_47 : decode cX2_comingBefore 47 = .ok (.iconst 1, 1) := wn_at gdX2_comingBefore_32 9 rfl
theorem gdX2_comingBefore_48 : ∀ e ∈ ([(48, .goto 4, 3), (51, .iconst 0, 1), (52, .istore 4, 2), (54, .iload_n 2, 1), (55, .iload 4, 2), (57, .ifCond .eq 7, 3), (60, .iconst 1, 1), (61, .goto 4, 3), (64, .iconst 0, 1), (65, .iadd, 1)] : List (Nat × Instr × Nat)), decode cX2_comingBefore e.1 = .ok e.2 := wn_all _ 48 (by decide +kernel)
theorem dX2_comingBefore_48 : decode cX2_comingBefore 48 = .ok (.goto 4, 3) := wn_at gdX2_comingBefore_48 0 rfl
theorem dX2_comingBefore_51 : decode cX2_comingBefore 51 = .ok (.iconst 0, 1) := wn_at gdX2_comingBefore_48 1 rfl
theorem dX2_comingBefore_52 : decode cX2_comingBefore 52 = .ok (.istore 4, 2) := wn_at gdX2_comingBefore_48 2 rfl
theorem dX2_comingBefore_54 : decode cX2_comingBefore 54 = .ok (.iload_n 2, 1) := wn_at gdX2_comingBefore_48 3 rfl
theorem dX2_comingBefore_55 : decode cX2_comingBefore 55 = .ok (.iload 4, 2) := wn_at gdX2_comingBefore_48 4 rfl
theorem dX2_comingBefore_57 : decode cX2_comingBefore 57 = .ok (.ifCond .eq 7, 3) := wn_at gdX2_comingBefore_48 5 rfl
theorem dX2_comingBefore_60 : decode cX2_comingBefore 60 = .ok (.iconst 1, 1) := wn_at gdX2_comingBefore_48 6 rfl
theorem dX2_comingBefore_61 : decode cX2_comingBefore 61 = .ok (.goto 4, 3) := wn_at gdX2_comingBefore_48 7 rfl
theorem dX2_comingBefore_64 : decode cX2_comingBefore 64 = .ok (.iconst 0, 1) := wn_at gdX2_comingBefore_48 8 rfl
theorem dX2_comingBefore_65 : decode cX2_comingBefore 65 = .ok (.iadd, 1) := wn_at gdX2_comingBefore_48 9 rfl
theorem gdX2_comingBefore_66 : ∀ e ∈ ([(66, .istore_n 2, 1), (67, .iinc 3 1, 3), (70, .goto (-66), 3), (73, .iload_n 2, 1), (74, .ireturn, 1)] : List (Nat × Instr × Nat)), decode cX2_comingBefore e.1 = .ok e.2 := wn_all _ 66 (by decide +kernel)
theorem dX2_comingBefore_66 : decode cX2_comingBefore 66 = .ok (.istore_n 2, 1) := wn_at gdX2_comingBefore_66 0 rfl
theorem dX2_comingBefore_67 : decode cX2_comingBefore 67 = .ok (.iinc 3 1, 3) := wn_at gdX2_comingBefore_66 1 rfl
theorem dX2_comingBefore_70 : decode cX2_comingBefore 70 = .ok (.goto (-66), 3) := wn_at gdX2_comingBefore_66 2 rfl
theorem dX2_comingBefore_73 : decode cX2_comingBefore 73 = .ok (.iload_n 2, 1) := wn_at gdX2_comingBefore_66 3 rfl
theorem dX2_comingBefore_74 : decode cX2_comingBefore 74 = .ok (.ireturn, 1) := wn_at gdX2_comingBefore_66 4 rfl
theorem gdX3_init_0 : ∀ e ∈ ([(0, .aload_n 0, 1), (1, .invokespecial 3, 3), (4, .aload_n 0, 1), (5, .sipush 4000, 3), (8, .newarray .long, 2), (10, .putfield 9, 3), (13, .aload_n 0, 1), (14, .sipush 171, 3), (17, .newarray .int, 2), (19, .putfield 15, 3)] : List (Nat × Instr × Nat)), decode cX3_init e.1 = .ok e.2 := wn_all _ 0 (by decide +kernel)
theorem dX3_init_0 : decode cX3_init 0 = .ok (.aload_n 0, 1) := wn_at gdX3_init_0 0 rfl
theorem dX3_init_1 : decode cX3_init 1 = .ok (.invokespecial 3, 3) := wn_at gdX3_init_0 1 rfl
theorem dX3_init_4 : decode cX3_init 4 = .ok (.aload_n 0, 1) := wn_at gdX3_init_0 2 rfl
theorem dX3_init_5 : decode cX3_init 5 = .ok (.sipush 4000, 3) := wn_at gdX3_init_0 3 rfl
theorem dX3_init_8 : decode cX3_init 8 = .ok (.newarray .long, 2) := wn_at gdX3_init_0 4 rfl
theorem dX3_init_10 : decode cX3_init 10 = .ok (.putfield 9, 3) := wn_at gdX3_init_0 5 rfl
theorem dX3_init_13 : decode cX3_init 13 = .ok (.aload_n 0, 1) := wn_at gdX3_init_0 6 rfl
theorem dX3_init_14 : decode cX3_init 14 = .ok (.sipush 171, 3) := wn_at gdX3_init_0 7 rfl
theorem dX3_init_17 : decode cX3_init 17 = .ok (.newarray .int, 2) := wn_at gdX3_init_0 8 rfl
theorem dX3_init_19 : decode cX3_init 19 = .ok (.putfield 15, 3) := wn_at gdX3_init_0 9 rfl
theorem gdX3_init_22 : ∀ e ∈ ([(22, .aload_n 0, 1), (23, .bipush 13, 2), (25, .newarray .int, 2), (27, .putfield 19, 3), (30, .aload_n 0, 1), (31, .bipush 13, 2), (33, .newarray .int, 2), (35, .putfield 22, 3), (38, .aload_n 0, 1), (39, .bipush 13, 2)] : List (Nat × Instr × Nat)), decode cX3_init e.1 = .ok e.2 := wn_all _ 22 (by decide +kernel)
theorem dX3_init_22 : decode cX3_init 22 = .ok (.aload_n 0, 1) := wn_at gdX3_init_22 0 rfl
theorem dX3_init_23 : decode cX3_init 23 = .ok (.bipush 13, 2) := wn_at gdX3_init_22 1 rfl
theorem dX3_init_25 : decode cX3_init 25 = .ok (.newarray .int, 2) := wn_at gdX3_init_22 2 rfl
theorem dX3_init_27 : decode cX3_init 27 = .ok (.putfield 19, 3) := wn_at gdX3_init_22 3 rfl
theorem dX3_init_30 : decode cX3_init 30 = .ok (.aload_n 0, 1) := wn_at gdX3_init_22 4 rfl
theorem dX3_init_31 : decode cX3_init 31 = .ok (.bipush 13, 2) := wn_at gdX3_init_22 5 rfl
theorem dX3_init_33 : decode cX3_init 33 = .ok (.newarray .int, 2) := wn_at gdX3_init_22 6 rfl
theorem dX3_init_35 : decode cX3_init 35 = .ok (.putfield 22, 3) := wn_at gdX3_init_22 7 rfl
theorem dX3_init_38 : decode cX3_init 38 = .ok (.aload_n 0, 1) := wn_at gdX3_init_22 8 rfl
theorem dX3_init_39 : decode cX3_init 39 = .ok (.bipush 13, 2) := wn_at gdX3_init_22 9 rfl
theorem gdX3_init_41 : ∀ e ∈ ([(41, .newarray .long, 2), (43, .putfield 25, 3), (46, .aload_n 0, 1), (47, .iconst 0, 1), (48, .putfield 28, 3), (51, .aload_n 0, 1), (52, .iconst 0, 1), (53, .putfield 32, 3), (56, .return_, 1)] : List (Nat × Instr × Nat)), decode cX3_init e.1 = .ok e.2 := wn_all _ 41 (by decide +kernel)
theorem dX3_init_41 : decode cX3_init 41 = .ok (.newarray .long, 2) := wn_at gdX3_init_41 0 rfl
theorem dX3_init_43 : decode cX3_init 43 = .ok (.putfield 25, 3) := wn_at gdX3_init_41 1 rfl
theorem dX3_init_46 : decode cX3_init 46 = .ok (.aload_n 0, 1) := wn_at gdX3_init_41 2 rfl
theorem dX3_init_47 : decode cX3_init 47 = .ok (.iconst 0, 1) := wn_at gdX3_init_41 3 rfl
theorem dX3_init_48 : decode cX3_init 48 = .ok (.putfield 28, 3) := wn_at gdX3_init_41 4 rfl
theorem dX3_init_51 : decode cX3_init 51 = .ok (.aload_n 0, 1) := wn_at gdX3_init_41 5 rfl
theorem dX3_init_52 : decode cX3_init 52 = .ok (.iconst 0, 1) := wn_at gdX3_init_41 6 rfl
theorem dX3_init_53 : decode cX3_init 53 = .ok (.putfield 32, 3) := wn_at gdX3_init_41 7 rfl
theorem dX3_init_56 : decode cX3_init 56 = .ok (.return_, 1) := wn_at gdX3_init_41 8 rfl
theorem gdX3_spread_0 : ∀ e ∈ ([(0, .aload_n 0, 1), (1, .iconst 0, 1), (2, .putfield 28, 3), (5, .iconst 0, 1), (6, .istore 4, 2), (8, .iload 4, 2), (10, .iload_n 3, 1), (11, .if_icmp .gt 135, 3), (14, .iload 4, 2), (16, .bipush 16, 2)] : List (Nat × Instr × Nat)), decode cX3_spread e.1 = .ok e.2 := wn_all _ 0 (by decide +kernel)
theorem dX3_spread_0 : decode cX3_spread 0 = .ok (.aload_n 0, 1) := wn_at gdX3_spread_0 0 rfl
theorem dX3_spread_1 : decode cX3_spread 1 = .ok (.iconst 0, 1) := wn_at gdX3_spread_0 1 rfl
theorem dX3_spread_2 : decode cX3_spread 2 = .ok (.putfield 28, 3) := wn_at gdX3_spread_0 2 rfl
theorem dX3_spread_5 : decode cX3_spread 5 = .ok (.iconst 0, 1) := wn_at gdX3_spread_0 3 rfl
theorem dX3_spread_6 : decode cX3_spread 6 = .ok (.istore 4, 2) := wn_at gdX3_spread_0 4 rfl
theorem dX3_spread_8 : decode cX3_spread 8 = .ok (.iload 4, 2) := wn_at gdX3_spread_0 5 rfl
theorem dX3_spread_10 : decode cX3_spread 10 = .ok (.iload_n 3, 1) := wn_at gdX3_spread_0 6 rfl
theorem dX3_spread_11 : decode cX3_spread 11 = .ok (.if_icmp .gt 135, 3) := wn_at gdX3_spread_0 7 rfl
theorem dX3_spread_14 : decode cX3_spread 14 = .ok (.iload 4, 2) := wn_at gdX3_spread_0 8 rfl
theorem dX3_spread_16 : decode cX3_spread 16 = .ok (.bipush 16, 2) := wn_at gdX3_spread_0 9 rfl
theorem gdX3_spread_18 : ∀ e ∈ ([(18, .if_icmp .gt 128, 3), (21, .iconst 0, 1), (22, .istore 5, 2), (24, .iload 5, 2), (26, .aload_n 1, 1), (27, .getfield 35, 3), (30, .if_icmp .ge 110, 3), (33, .aload_n 0, 1), (34, .getfield 28, 3), (37, .istore 6, 2)] : List (Nat × Instr × Nat)), decode cX3_spread e.1 = .ok e.2 := wn_all _ 18 (by decide +kernel)
theorem dX3_spread_18 : decode cX3_spread 18 = .ok (.if_icmp .gt 128, 3) := wn_at gdX3_spread_18 0 rfl
theorem dX3_spread_21 : decode cX3_spread 21 = .ok (.iconst 0, 1) := wn_at gdX3_spread_18 1 rfl
theorem dX3_spread_22 : decode cX3_spread 22 = .ok (.istore 5, 2) := wn_at gdX3_spread_18 2 rfl
theorem dX3_spread_24 : decode cX3_spread 24 = .ok (.iload 5, 2) := wn_at gdX3_spread_18 3 rfl
theorem dX3_spread_26 : decode cX3_spread 26 = .ok (.aload_n 1, 1) := wn_at gdX3_spread_18 4 rfl
theorem dX3_spread_27 : decode cX3_spread 27 = .ok (.getfield 35, 3) := wn_at gdX3_spread_18 5 rfl
theorem dX3_spread_30 : decode cX3_spread 30 = .ok (.if_icmp .ge 110, 3) := wn_at gdX3_spread_18 6 rfl
theorem dX3_spread_33 : decode cX3_spread 33 = .ok (.aload_n 0, 1) := wn_at gdX3_spread_18 7 rfl
theorem dX3_spread_34 : decode cX3_spread 34 = .ok (.getfield 28, 3) := wn_at gdX3_spread_18 8 rfl
theorem dX3_spread_37 : decode cX3_spread 37 = .ok (.istore 6, 2) := wn_at gdX3_spread_18 9 rfl
theorem gdX3_spread_39 : ∀ e ∈ ([(39, .aload_n 0, 1), (40, .getfield 15, 3), (43, .iload 4, 2), (45, .aload_n 1, 1), (46, .getfield 35, 3), (49, .imul, 1), (50, .iload 5, 2), (52, .iadd, 1), (53, .iload 6, 2), (55, .iastore, 1)] : List (Nat × Instr × Nat)), decode cX3_spread e.1 = .ok e.2 := wn_all _ 39 (by decide +kernel)
theorem dX3_spread_39 : decode cX3_spread 39 = .ok (.aload_n 0, 1) := wn_at gdX3_spread_39 0 rfl
theorem dX3_spread_40 : decode cX3_spread 40 = .ok (.getfield 15, 3) := wn_at gdX3_spread_39 1 rfl
theorem dX3_spread_43 : decode cX3_spread 43 = .ok (.iload 4, 2) := wn_at gdX3_spread_39 2 rfl
theorem dX3_spread_45 : decode cX3_spread 45 = .ok (.aload_n 1, 1) := wn_at gdX3_spread_39 3 rfl
theorem dX3_spread_46 : decode cX3_spread 46 = .ok (.getfield 35, 3) := wn_at gdX3_spread_39 4 rfl
theorem dX3_spread_49 : decode cX3_spread 49 = .ok (.imul, 1) := wn_at gdX3_spread_39 5 rfl
theorem dX3_spread_50 : decode cX3_spread 50 = .ok (.iload 5, 2) := wn_at gdX3_spread_39 6 rfl
theorem dX3_spread_52 : decode cX3_spread 52 = .ok (.iadd, 1) := wn_at gdX3_spread_39 7 rfl
theorem dX3_spread_53 : decode cX3_spread 53 = .ok (.iload 6, 2) := wn_at gdX3_spread_39 8 rfl
theorem dX3_spread_55 : decode cX3_spread 55 = .ok (.iastore, 1) := wn_at gdX3_spread_39 9 rfl
theorem gdX3_spread_56 : ∀ e ∈ ([(56, .iload 4, 2), (58, .ifCond .gt 23, 3), (61, .iload 5, 2), (63, .iload_n 2, 1), (64, .if_icmp .ne 17, 3), (67, .aload_n 0, 1), (68, .iload 6, 2), (70, .lconst 0, 1), (71, .iconst 0, 1), (72, .invokestatic 40, 3)] : List (Nat × Instr × Nat)), decode cX3_spread e.1 = .ok e.2 := wn_all _ 56 (by decide +kernel)
theorem dX3_spread_56 : decode cX3_spread 56 = .ok (.iload 4, 2) := wn_at gdX3_spread_56 0 rfl
theorem dX3_spread_58 : decode cX3_spread 58 = .ok (.ifCond .gt 23, 3) := wn_at gdX3_spread_56 1 rfl
theorem dX3_spread_61 : decode cX3_spread 61 = .ok (.iload 5, 2) := wn_at gdX3_spread_56 2 rfl
theorem dX3_spread_63 : decode cX3_spread 63 = .ok (.iload_n 2, 1) := wn_at gdX3_spread_56 3 rfl
theorem dX3_spread_64 : decode cX3_spread 64 = .ok (.if_icmp .ne 17, 3) := wn_at gdX3_spread_56 4 rfl
theorem dX3_spread_67 : decode cX3_spread 67 = .ok (.aload_n 0, 1) := wn_at gdX3_spread_56 5 rfl
theorem dX3_spread_68 : decode cX3_spread 68 = .ok (.iload 6, 2) := wn_at gdX3_spread_56 6 rfl
theorem dX3_spread_70 : decode cX3_spread 70 = .ok (.lconst 0, 1) := wn_at gdX3_spread_56 7 rfl
theorem dX3_spread_71 : decode cX3_spread 71 = .ok (.iconst 0, 1) := wn_at gdX3_spread_56 8 rfl
theorem dX3_spread_72 : decode cX3_spread 72 = .ok (.invokestatic 40, 3) := wn_at gdX3_spread_56 9 rfl
theorem gdX3_spread_75 : ∀ e ∈ ([(75, .invokevirtual 44, 3), (78, .ifCond .eq 7, 3), (81, .iconst 1, 1), (82, .goto 4, 3), (85, .iconst 0, 1), (86, .istore 7, 2), (88, .aload_n 0, 1), (89, .aload_n 1, 1), (90, .iload 4, 2), (92, .iload 5, 2)] : List (Nat × Instr × Nat)), decode cX3_spread e.1 = .ok e.2 := wn_all _ 75 (by decide +kernel)
theorem dX3_spread_75 : decode cX3_spread 75 = .ok (.invokevirtual 44, 3) := wn_at gdX3_spread_75 0 rfl
theorem dX3_spread_78 : decode cX3_spread 78 = .ok (.ifCond .eq 7, 3) := wn_at gdX3_spread_75 1 rfl
theorem dX3_spread_81 : decode cX3_spread 81 = .ok (.iconst 1, 1) := wn_at gdX3_spread_75 2 rfl
theorem dX3_spread_82 : decode cX3_spread 82 = .ok (.goto 4, 3) := wn_at gdX3_spread_75 3 rfl
theorem dX3_spread_85 : decode cX3_spread 85 = .ok (.iconst 0, 1) := wn_at gdX3_spread_75 4 rfl
theorem dX3_spread_86 : decode cX3_spread 86 = .ok (.istore 7, 2) := wn_at gdX3_spread_75 5 rfl
theorem dX3_spread_88 : decode cX3_spread 88 = .ok (.aload_n 0, 1) := wn_at gdX3_spread_75 6 rfl
theorem dX3_spread_89 : decode cX3_spread 89 = .ok (.aload_n 1, 1) := wn_at gdX3_spread_75 7 rfl
theorem dX3_spread_90 : decode cX3_spread 90 = .ok (.iload 4, 2) := wn_at gdX3_spread_75 8 rfl
theorem dX3_spread_92 : decode cX3_spread 92 = .ok (.iload 5, 2) := wn_at gdX3_spread_75 9 rfl
theorem gdX3_spread_94 : ∀ e ∈ ([(94, .invokevirtual 48, 3), (97, .iload 7, 2), (99, .ifCond .eq 12, 3), (102, .aload_n 0, 1), (103, .iload 6, 2), (105, .invokevirtual 52, 3), (108, .ifCond .ne 5, 3), (111, .iconst 0, 1), (112, .ireturn, 1), (113, .aload_n 0, 1)] : List (Nat × Instr × Nat)), decode cX3_spread e.1 = .ok e.2 := wn_all _ 94 (by decide +kernel)
theorem dX3_spread_94 : decode cX3_spread 94 = .ok (.invokevirtual 48, 3) := wn_at gdX3_spread_94 0 rfl
theorem dX3_spread_97 : decode cX3_spread 97 = .ok (.iload 7, 2) := wn_at gdX3_spread_94 1 rfl
theorem dX3_spread_99 : decode cX3_spread 99 = .ok (.ifCond .eq 12, 3) := wn_at gdX3_spread_94 2 rfl
theorem dX3_spread_102 : decode cX3_spread 102 = .ok (.aload_n 0, 1) := wn_at gdX3_spread_94 3 rfl
theorem dX3_spread_103 : decode cX3_spread 103 = .ok (.iload 6, 2) := wn_at gdX3_spread_94 4 rfl
theorem dX3_spread_105 : decode cX3_spread 105 = .ok (.invokevirtual 52, 3) := wn_at gdX3_spread_94 5 rfl
theorem dX3_spread_108 : decode cX3_spread 108 = .ok (.ifCond .ne 5, 3) := wn_at gdX3_spread_94 6 rfl
theorem dX3_spread_111 : decode cX3_spread 111 = .ok (.iconst 0, 1) := wn_at gdX3_spread_94 7 rfl
theorem dX3_spread_112 : decode cX3_spread 112 = .ok (.ireturn, 1) := wn_at gdX3_spread_94 8 rfl
theorem dX3_spread_113 : decode cX3_spread 113 = .ok (.aload_n 0, 1) := wn_at gdX3_spread_94 9 rfl
theorem gdX3_spread_114 : ∀ e ∈ ([(114, .getfield 15, 3), (117, .iload 4, 2), (119, .aload_n 1, 1), (120, .getfield 35, 3), (123, .imul, 1), (124, .iload 5, 2), (126, .iadd, 1), (127, .iconst 1, 1), (128, .iadd, 1), (129, .aload_n 0, 1)] : List (Nat × Instr × Nat)), decode cX3_spread e.1 = .ok e.2 := wn_all _ 114 (by decide +kernel)
theorem dX3_spread_114 : decode cX3_spread 114 = .ok (.getfield 15, 3) := wn_at gdX3_spread_114 0 rfl
theorem dX3_spread_117 : decode cX3_spread 117 = .ok (.iload 4, 2) := wn_at gdX3_spread_114 1 rfl
theorem dX3_spread_119 : decode cX3_spread 119 = .ok (.aload_n 1, 1) := wn_at gdX3_spread_114 2 rfl
theorem dX3_spread_120 : decode cX3_spread 120 = .ok (.getfield 35, 3) := wn_at gdX3_spread_114 3 rfl
theorem dX3_spread_123 : decode cX3_spread 123 = .ok (.imul, 1) := wn_at gdX3_spread_114 4 rfl
theorem dX3_spread_124 : decode cX3_spread 124 = .ok (.iload 5, 2) := wn_at gdX3_spread_114 5 rfl
theorem dX3_spread_126 : decode cX3_spread 126 = .ok (.iadd, 1) := wn_at gdX3_spread_114 6 rfl
theorem dX3_spread_127 : decode cX3_spread 127 = .ok (.iconst 1, 1) := wn_at gdX3_spread_114 7 rfl
theorem dX3_spread_128 : decode cX3_spread 128 = .ok (.iadd, 1) := wn_at gdX3_spread_114 8 rfl
theorem dX3_spread_129 : decode cX3_spread 129 = .ok (.aload_n 0, 1) := wn_at gdX3_spread_114 9 rfl
theorem gdX3_spread_130 : ∀ e ∈ ([(130, .getfield 28, 3), (133, .iastore, 1), (134, .iinc 5 1, 3), (137, .goto (-113), 3), (140, .iinc 4 1, 3), (143, .goto (-135), 3), (146, .iconst 1, 1), (147, .ireturn, 1)] : List (Nat × Instr × Nat)), decode cX3_spread e.1 = .ok e.2 := wn_all _ 130 (by decide +kernel)
theorem dX3_spread_130 : decode cX3_spread 130 = .ok (.getfield 28, 3) := wn_at gdX3_spread_130 0 rfl
theorem dX3_spread_133 : decode cX3_spread 133 = .ok (.iastore, 1) := wn_at gdX3_spread_130 1 rfl
theorem dX3_spread_134 : decode cX3_spread 134 = .ok (.iinc 5 1, 3) := wn_at gdX3_spread_130 2 rfl
theorem dX3_spread_137 : decode cX3_spread 137 = .ok (.goto (-113), 3) := wn_at gdX3_spread_130 3 rfl
theorem dX3_spread_140 : decode cX3_spread 140 = .ok (.iinc 4 1, 3) := wn_at gdX3_spread_130 4 rfl
theorem dX3_spread_143 : decode cX3_spread 143 = .ok (.goto (-135), 3) := wn_at gdX3_spread_130 5 rfl
theorem dX3_spread_146 : decode cX3_spread 146 = .ok (.iconst 1, 1) := wn_at gdX3_spread_130 6 rfl
theorem dX3_spread_147 : decode cX3_spread 147 = .ok (.ireturn, 1) := wn_at gdX3_spread_130 7 rfl
theorem gdX3_stateOf_0 : ∀ e ∈ ([(0, .lload_n 0, 1), (1, .iconst 5, 1), (2, .lshl, 1), (3, .iload_n 2, 1), (4, .i2l, 1), (5, .lor, 1), (6, .lreturn, 1)] : List (Nat × Instr × Nat)), decode cX3_stateOf e.1 = .ok e.2 := wn_all _ 0 (by decide +kernel)
theorem dX3_stateOf_0 : decode cX3_stateOf 0 = .ok (.lload_n 0, 1) := wn_at gdX3_stateOf_0 0 rfl
theorem dX3_stateOf_1 : decode cX3_stateOf 1 = .ok (.iconst 5, 1) := wn_at gdX3_stateOf_0 1 rfl
theorem dX3_stateOf_2 : decode cX3_stateOf 2 = .ok (.lshl, 1) := wn_at gdX3_stateOf_0 2 rfl
theorem dX3_stateOf_3 : decode cX3_stateOf 3 = .ok (.iload_n 2, 1) := wn_at gdX3_stateOf_0 3 rfl
theorem dX3_stateOf_4 : decode cX3_stateOf 4 = .ok (.i2l, 1) := wn_at gdX3_stateOf_0 4 rfl
theorem dX3_stateOf_5 : decode cX3_stateOf 5 = .ok (.lor, 1) := wn_at gdX3_stateOf_0 5 rfl
theorem dX3_stateOf_6 : decode cX3_stateOf 6 = .ok (.lreturn, 1) := wn_at gdX3_stateOf_0 6 rfl
theorem gdX3_ageOf_0 : ∀ e ∈ ([(0, .lload_n 0, 1), (1, .iconst 5, 1), (2, .lshr, 1), (3, .lreturn, 1)] : List (Nat × Instr × Nat)), decode cX3_ageOf e.1 = .ok e.2 := wn_all _ 0 (by decide +kernel)
theorem dX3_ageOf_0 : decode cX3_ageOf 0 = .ok (.lload_n 0, 1) := wn_at gdX3_ageOf_0 0 rfl
theorem dX3_ageOf_1 : decode cX3_ageOf 1 = .ok (.iconst 5, 1) := wn_at gdX3_ageOf_0 1 rfl
theorem dX3_ageOf_2 : decode cX3_ageOf 2 = .ok (.lshr, 1) := wn_at gdX3_ageOf_0 2 rfl
theorem dX3_ageOf_3 : decode cX3_ageOf 3 = .ok (.lreturn, 1) := wn_at gdX3_ageOf_0 3 rfl
theorem gdX3_carriedOf_0 : ∀ e ∈ ([(0, .lload_n 0, 1), (1, .ldc2_w 56, 3), (4, .land, 1), (5, .l2i, 1), (6, .ireturn, 1)] : List (Nat × Instr × Nat)), decode cX3_carriedOf e.1 = .ok e.2 := wn_all _ 0 (by decide +kernel)
theorem dX3_carriedOf_0 : decode cX3_carriedOf 0 = .ok (.lload_n 0, 1) := wn_at gdX3_carriedOf_0 0 rfl
theorem dX3_carriedOf_1 : decode cX3_carriedOf 1 = .ok (.ldc2_w 56, 3) := wn_at gdX3_carriedOf_0 1 rfl
theorem dX3_carriedOf_4 : decode cX3_carriedOf 4 = .ok (.land, 1) := wn_at gdX3_carriedOf_0 2 rfl
theorem dX3_carriedOf_5 : decode cX3_carriedOf 5 = .ok (.l2i, 1) := wn_at gdX3_carriedOf_0 3 rfl
theorem dX3_carriedOf_6 : decode cX3_carriedOf 6 = .ok (.ireturn, 1) := wn_at gdX3_carriedOf_0 4 rfl
theorem gdX3_gatherSources_0 : ∀ e ∈ ([(0, .aload_n 0, 1), (1, .iconst 0, 1), (2, .putfield 32, 3), (5, .iload_n 2, 1), (6, .iconst 1, 1), (7, .if_icmp .lt 27, 3), (10, .aload_n 0, 1), (11, .iload_n 2, 1), (12, .iconst 1, 1), (13, .isub, 1)] : List (Nat × Instr × Nat)), decode cX3_gatherSources e.1 = .ok e.2 := wn_all _ 0 (by decide +kernel)
theorem dX3_gatherSources_0 : decode cX3_gatherSources 0 = .ok (.aload_n 0, 1) := wn_at gdX3_gatherSources_0 0 rfl
theorem dX3_gatherSources_1 : decode cX3_gatherSources 1 = .ok (.iconst 0, 1) := wn_at gdX3_gatherSources_0 1 rfl
theorem dX3_gatherSources_2 : decode cX3_gatherSources 2 = .ok (.putfield 32, 3) := wn_at gdX3_gatherSources_0 2 rfl
theorem dX3_gatherSources_5 : decode cX3_gatherSources 5 = .ok (.iload_n 2, 1) := wn_at gdX3_gatherSources_0 3 rfl
theorem dX3_gatherSources_6 : decode cX3_gatherSources 6 = .ok (.iconst 1, 1) := wn_at gdX3_gatherSources_0 4 rfl
theorem dX3_gatherSources_7 : decode cX3_gatherSources 7 = .ok (.if_icmp .lt 27, 3) := wn_at gdX3_gatherSources_0 5 rfl
theorem dX3_gatherSources_10 : decode cX3_gatherSources 10 = .ok (.aload_n 0, 1) := wn_at gdX3_gatherSources_0 6 rfl
theorem dX3_gatherSources_11 : decode cX3_gatherSources 11 = .ok (.iload_n 2, 1) := wn_at gdX3_gatherSources_0 7 rfl
theorem dX3_gatherSources_12 : decode cX3_gatherSources 12 = .ok (.iconst 1, 1) := wn_at gdX3_gatherSources_0 8 rfl
theorem dX3_gatherSources_13 : decode cX3_gatherSources 13 = .ok (.isub, 1) := wn_at gdX3_gatherSources_0 9 rfl
theorem gdX3_gatherSources_14 : ∀ e ∈ ([(14, .aload_n 1, 1), (15, .getfield 35, 3), (18, .imul, 1), (19, .iload_n 3, 1), (20, .iadd, 1), (21, .aload_n 1, 1), (22, .getfield 58, 3), (25, .iload_n 3, 1), (26, .laload, 1), (27, .iconst 0, 1)] : List (Nat × Instr × Nat)), decode cX3_gatherSources e.1 = .ok e.2 := wn_all _ 14 (by decide +kernel)
theorem dX3_gatherSources_14 : decode cX3_gatherSources 14 = .ok (.aload_n 1, 1) := wn_at gdX3_gatherSources_14 0 rfl
theorem dX3_gatherSources_15 : decode cX3_gatherSources 15 = .ok (.getfield 35, 3) := wn_at gdX3_gatherSources_14 1 rfl
theorem dX3_gatherSources_18 : decode cX3_gatherSources 18 = .ok (.imul, 1) := wn_at gdX3_gatherSources_14 2 rfl
theorem dX3_gatherSources_19 : decode cX3_gatherSources 19 = .ok (.iload_n 3, 1) := wn_at gdX3_gatherSources_14 3 rfl
theorem dX3_gatherSources_20 : decode cX3_gatherSources 20 = .ok (.iadd, 1) := wn_at gdX3_gatherSources_14 4 rfl
theorem dX3_gatherSources_21 : decode cX3_gatherSources 21 = .ok (.aload_n 1, 1) := wn_at gdX3_gatherSources_14 5 rfl
theorem dX3_gatherSources_22 : decode cX3_gatherSources 22 = .ok (.getfield 58, 3) := wn_at gdX3_gatherSources_14 6 rfl
theorem dX3_gatherSources_25 : decode cX3_gatherSources 25 = .ok (.iload_n 3, 1) := wn_at gdX3_gatherSources_14 7 rfl
theorem dX3_gatherSources_26 : decode cX3_gatherSources 26 = .ok (.laload, 1) := wn_at gdX3_gatherSources_14 8 rfl
theorem dX3_gatherSources_27 : decode cX3_gatherSources 27 = .ok (.iconst 0, 1) := wn_at gdX3_gatherSources_14 9 rfl
theorem gdX3_gatherSources_28 : ∀ e ∈ ([(28, .invokestatic 40, 3), (31, .invokevirtual 61, 3), (34, .iconst 0, 1), (35, .istore 4, 2), (37, .iload 4, 2), (39, .aload_n 1, 1), (40, .getfield 65, 3), (43, .if_icmp .ge 70, 3), (46, .aload_n 1, 1), (47, .iload 4, 2)] : List (Nat × Instr × Nat)), decode cX3_gatherSources e.1 = .ok e.2 := wn_all _ 28 (by decide +kernel)
theorem dX3_gatherSources_28 : decode cX3_gatherSources 28 = .ok (.invokestatic 40, 3) := wn_at gdX3_gatherSources_28 0 rfl
theorem dX3_gatherSources_31 : decode cX3_gatherSources 31 = .ok (.invokevirtual 61, 3) := wn_at gdX3_gatherSources_28 1 rfl
theorem dX3_gatherSources_34 : decode cX3_gatherSources 34 = .ok (.iconst 0, 1) := wn_at gdX3_gatherSources_28 2 rfl
theorem dX3_gatherSources_35 : decode cX3_gatherSources 35 = .ok (.istore 4, 2) := wn_at gdX3_gatherSources_28 3 rfl
theorem dX3_gatherSources_37 : decode cX3_gatherSources 37 = .ok (.iload 4, 2) := wn_at gdX3_gatherSources_28 4 rfl
theorem dX3_gatherSources_39 : decode cX3_gatherSources 39 = .ok (.aload_n 1, 1) := wn_at gdX3_gatherSources_28 5 rfl
theorem dX3_gatherSources_40 : decode cX3_gatherSources 40 = .ok (.getfield 65, 3) := wn_at gdX3_gatherSources_28 6 rfl
theorem dX3_gatherSources_43 : decode cX3_gatherSources 43 = .ok (.if_icmp .ge 70, 3) := wn_at gdX3_gatherSources_28 7 rfl
theorem dX3_gatherSources_46 : decode cX3_gatherSources 46 = .ok (.aload_n 1, 1) := wn_at gdX3_gatherSources_28 8 rfl
theorem dX3_gatherSources_47 : decode cX3_gatherSources 47 = .ok (.iload 4, 2) := wn_at gdX3_gatherSources_28 9 rfl
theorem gdX3_gatherSources_49 : ∀ e ∈ ([(49, .iload_n 3, 1), (50, .invokevirtual 68, 3), (53, .istore 5, 2), (55, .aload_n 1, 1), (56, .getfield 72, 3), (59, .iload 4, 2), (61, .iaload, 1), (62, .istore 6, 2), (64, .iload 5, 2), (66, .ifCond .lt 41, 3)] : List (Nat × Instr × Nat)), decode cX3_gatherSources e.1 = .ok e.2 := wn_all _ 49 (by decide +kernel)
theorem dX3_gatherSources_49 : decode cX3_gatherSources 49 = .ok (.iload_n 3, 1) := wn_at gdX3_gatherSources_49 0 rfl
theorem dX3_gatherSources_50 : decode cX3_gatherSources 50 = .ok (.invokevirtual 68, 3) := wn_at gdX3_gatherSources_49 1 rfl
theorem dX3_gatherSources_53 : decode cX3_gatherSources 53 = .ok (.istore 5, 2) := wn_at gdX3_gatherSources_49 2 rfl
theorem dX3_gatherSources_55 : decode cX3_gatherSources 55 = .ok (.aload_n 1, 1) := wn_at gdX3_gatherSources_49 3 rfl
theorem dX3_gatherSources_56 : decode cX3_gatherSources 56 = .ok (.getfield 72, 3) := wn_at gdX3_gatherSources_49 4 rfl
theorem dX3_gatherSources_59 : decode cX3_gatherSources 59 = .ok (.iload 4, 2) := wn_at gdX3_gatherSources_49 5 rfl
theorem dX3_gatherSources_61 : decode cX3_gatherSources 61 = .ok (.iaload, 1) := wn_at gdX3_gatherSources_49 6 rfl
theorem dX3_gatherSources_62 : decode cX3_gatherSources 62 = .ok (.istore 6, 2) := wn_at gdX3_gatherSources_49 7 rfl
theorem dX3_gatherSources_64 : decode cX3_gatherSources 64 = .ok (.iload 5, 2) := wn_at gdX3_gatherSources_49 8 rfl
theorem dX3_gatherSources_66 : decode cX3_gatherSources 66 = .ok (.ifCond .lt 41, 3) := wn_at gdX3_gatherSources_49 9 rfl
theorem gdX3_gatherSources_69 : ∀ e ∈ ([(69, .iload 6, 2), (71, .iload_n 2, 1), (72, .if_icmp .gt 35, 3), (75, .aload_n 0, 1), (76, .iload_n 2, 1), (77, .iload 6, 2), (79, .isub, 1), (80, .aload_n 1, 1), (81, .getfield 35, 3), (84, .imul, 1)] : List (Nat × Instr × Nat)), decode cX3_gatherSources e.1 = .ok e.2 := wn_all _ 69 (by decide +kernel)
theorem dX3_gatherSources_69 : decode cX3_gatherSources 69 = .ok (.iload 6, 2) := wn_at gdX3_gatherSources_69 0 rfl
theorem dX3_gatherSources_71 : decode cX3_gatherSources 71 = .ok (.iload_n 2, 1) := wn_at gdX3_gatherSources_69 1 rfl
theorem dX3_gatherSources_72 : decode cX3_gatherSources 72 = .ok (.if_icmp .gt 35, 3) := wn_at gdX3_gatherSources_69 2 rfl
theorem dX3_gatherSources_75 : decode cX3_gatherSources 75 = .ok (.aload_n 0, 1) := wn_at gdX3_gatherSources_69 3 rfl
theorem dX3_gatherSources_76 : decode cX3_gatherSources 76 = .ok (.iload_n 2, 1) := wn_at gdX3_gatherSources_69 4 rfl
theorem dX3_gatherSources_77 : decode cX3_gatherSources 77 = .ok (.iload 6, 2) := wn_at gdX3_gatherSources_69 5 rfl
theorem dX3_gatherSources_79 : decode cX3_gatherSources 79 = .ok (.isub, 1) := wn_at gdX3_gatherSources_69 6 rfl
theorem dX3_gatherSources_80 : decode cX3_gatherSources 80 = .ok (.aload_n 1, 1) := wn_at gdX3_gatherSources_69 7 rfl
theorem dX3_gatherSources_81 : decode cX3_gatherSources 81 = .ok (.getfield 35, 3) := wn_at gdX3_gatherSources_69 8 rfl
theorem dX3_gatherSources_84 : decode cX3_gatherSources 84 = .ok (.imul, 1) := wn_at gdX3_gatherSources_69 9 rfl
theorem gdX3_gatherSources_85 : ∀ e ∈ ([(85, .iload 5, 2), (87, .iadd, 1), (88, .iload 6, 2), (90, .i2l, 1), (91, .aload_n 1, 1), (92, .getfield 75, 3), (95, .iload 4, 2), (97, .laload, 1), (98, .lmul, 1), (99, .iload 6, 2)] : List (Nat × Instr × Nat)), decode cX3_gatherSources e.1 = .ok e.2 := wn_all _ 85 (by decide +kernel)
theorem dX3_gatherSources_85 : decode cX3_gatherSources 85 = .ok (.iload 5, 2) := wn_at gdX3_gatherSources_85 0 rfl
theorem dX3_gatherSources_87 : decode cX3_gatherSources 87 = .ok (.iadd, 1) := wn_at gdX3_gatherSources_85 1 rfl
theorem dX3_gatherSources_88 : decode cX3_gatherSources 88 = .ok (.iload 6, 2) := wn_at gdX3_gatherSources_85 2 rfl
theorem dX3_gatherSources_90 : decode cX3_gatherSources 90 = .ok (.i2l, 1) := wn_at gdX3_gatherSources_85 3 rfl
theorem dX3_gatherSources_91 : decode cX3_gatherSources 91 = .ok (.aload_n 1, 1) := wn_at gdX3_gatherSources_85 4 rfl
theorem dX3_gatherSources_92 : decode cX3_gatherSources 92 = .ok (.getfield 75, 3) := wn_at gdX3_gatherSources_85 5 rfl
theorem dX3_gatherSources_95 : decode cX3_gatherSources 95 = .ok (.iload 4, 2) := wn_at gdX3_gatherSources_85 6 rfl
theorem dX3_gatherSources_97 : decode cX3_gatherSources 97 = .ok (.laload, 1) := wn_at gdX3_gatherSources_85 7 rfl
theorem dX3_gatherSources_98 : decode cX3_gatherSources 98 = .ok (.lmul, 1) := wn_at gdX3_gatherSources_85 8 rfl
theorem dX3_gatherSources_99 : decode cX3_gatherSources 99 = .ok (.iload 6, 2) := wn_at gdX3_gatherSources_85 9 rfl
theorem gdX3_gatherSources_101 : ∀ e ∈ ([(101, .invokestatic 40, 3), (104, .invokevirtual 61, 3), (107, .iinc 4 1, 3), (110, .goto (-73), 3), (113, .return_, 1)] : List (Nat × Instr × Nat)), decode cX3_gatherSources e.1 = .ok e.2 := wn_all _ 101 (by decide +kernel)
theorem dX3_gatherSources_101 : decode cX3_gatherSources 101 = .ok (.invokestatic 40, 3) := wn_at gdX3_gatherSources_101 0 rfl
theorem dX3_gatherSources_104 : decode cX3_gatherSources 104 = .ok (.invokevirtual 61, 3) := wn_at gdX3_gatherSources_101 1 rfl
theorem dX3_gatherSources_107 : decode cX3_gatherSources 107 = .ok (.iinc 4 1, 3) := wn_at gdX3_gatherSources_101 2 rfl
theorem dX3_gatherSources_110 : decode cX3_gatherSources 110 = .ok (.goto (-73), 3) := wn_at gdX3_gatherSources_101 3 rfl
theorem dX3_gatherSources_113 : decode cX3_gatherSources 113 = .ok (.return_, 1) := wn_at gdX3_gatherSources_101 4 rfl
theorem gdX3_addSource_0 : ∀ e ∈ ([(0, .aload_n 0, 1), (1, .getfield 32, 3), (4, .bipush 13, 2), (6, .if_icmp .ge 72, 3), (9, .aload_n 0, 1), (10, .getfield 15, 3), (13, .iload_n 1, 1), (14, .iaload, 1), (15, .aload_n 0, 1), (16, .getfield 15, 3)] : List (Nat × Instr × Nat)), decode cX3_addSource e.1 = .ok e.2 := wn_all _ 0 (by decide +kernel)
theorem dX3_addSource_0 : decode cX3_addSource 0 = .ok (.aload_n 0, 1) := wn_at gdX3_addSource_0 0 rfl
theorem dX3_addSource_1 : decode cX3_addSource 1 = .ok (.getfield 32, 3) := wn_at gdX3_addSource_0 1 rfl
theorem dX3_addSource_4 : decode cX3_addSource 4 = .ok (.bipush 13, 2) := wn_at gdX3_addSource_0 2 rfl
theorem dX3_addSource_6 : decode cX3_addSource 6 = .ok (.if_icmp .ge 72, 3) := wn_at gdX3_addSource_0 3 rfl
theorem dX3_addSource_9 : decode cX3_addSource 9 = .ok (.aload_n 0, 1) := wn_at gdX3_addSource_0 4 rfl
theorem dX3_addSource_10 : decode cX3_addSource 10 = .ok (.getfield 15, 3) := wn_at gdX3_addSource_0 5 rfl
theorem dX3_addSource_13 : decode cX3_addSource 13 = .ok (.iload_n 1, 1) := wn_at gdX3_addSource_0 6 rfl
theorem dX3_addSource_14 : decode cX3_addSource 14 = .ok (.iaload, 1) := wn_at gdX3_addSource_0 7 rfl
theorem dX3_addSource_15 : decode cX3_addSource 15 = .ok (.aload_n 0, 1) := wn_at gdX3_addSource_0 8 rfl
theorem dX3_addSource_16 : decode cX3_addSource 16 = .ok (.getfield 15, 3) := wn_at gdX3_addSource_0 9 rfl
theorem gdX3_addSource_19 : ∀ e ∈ ([(19, .iload_n 1, 1), (20, .iconst 1, 1), (21, .iadd, 1), (22, .iaload, 1), (23, .if_icmp .ge 55, 3), (26, .aload_n 0, 1), (27, .getfield 19, 3), (30, .aload_n 0, 1), (31, .getfield 32, 3), (34, .aload_n 0, 1)] : List (Nat × Instr × Nat)), decode cX3_addSource e.1 = .ok e.2 := wn_all _ 19 (by decide +kernel)
theorem dX3_addSource_19 : decode cX3_addSource 19 = .ok (.iload_n 1, 1) := wn_at gdX3_addSource_19 0 rfl
theorem dX3_addSource_20 : decode cX3_addSource 20 = .ok (.iconst 1, 1) := wn_at gdX3_addSource_19 1 rfl
theorem dX3_addSource_21 : decode cX3_addSource 21 = .ok (.iadd, 1) := wn_at gdX3_addSource_19 2 rfl
theorem dX3_addSource_22 : decode cX3_addSource 22 = .ok (.iaload, 1) := wn_at gdX3_addSource_19 3 rfl
theorem dX3_addSource_23 : decode cX3_addSource 23 = .ok (.if_icmp .ge 55, 3) := wn_at gdX3_addSource_19 4 rfl
theorem dX3_addSource_26 : decode cX3_addSource 26 = .ok (.aload_n 0, 1) := wn_at gdX3_addSource_19 5 rfl
theorem dX3_addSource_27 : decode cX3_addSource 27 = .ok (.getfield 19, 3) := wn_at gdX3_addSource_19 6 rfl
theorem dX3_addSource_30 : decode cX3_addSource 30 = .ok (.aload_n 0, 1) := wn_at gdX3_addSource_19 7 rfl
theorem dX3_addSource_31 : decode cX3_addSource 31 = .ok (.getfield 32, 3) := wn_at gdX3_addSource_19 8 rfl
theorem dX3_addSource_34 : decode cX3_addSource 34 = .ok (.aload_n 0, 1) := wn_at gdX3_addSource_19 9 rfl
theorem gdX3_addSource_35 : ∀ e ∈ ([(35, .getfield 15, 3), (38, .iload_n 1, 1), (39, .iaload, 1), (40, .iastore, 1), (41, .aload_n 0, 1), (42, .getfield 22, 3), (45, .aload_n 0, 1), (46, .getfield 32, 3), (49, .aload_n 0, 1), (50, .getfield 15, 3)] : List (Nat × Instr × Nat)), decode cX3_addSource e.1 = .ok e.2 := wn_all _ 35 (by decide +kernel)
theorem dX3_addSource_35 : decode cX3_addSource 35 = .ok (.getfield 15, 3) := wn_at gdX3_addSource_35 0 rfl
theorem dX3_addSource_38 : decode cX3_addSource 38 = .ok (.iload_n 1, 1) := wn_at gdX3_addSource_35 1 rfl
theorem dX3_addSource_39 : decode cX3_addSource 39 = .ok (.iaload, 1) := wn_at gdX3_addSource_35 2 rfl
theorem dX3_addSource_40 : decode cX3_addSource 40 = .ok (.iastore, 1) := wn_at gdX3_addSource_35 3 rfl
theorem dX3_addSource_41 : decode cX3_addSource 41 = .ok (.aload_n 0, 1) := wn_at gdX3_addSource_35 4 rfl
theorem dX3_addSource_42 : decode cX3_addSource 42 = .ok (.getfield 22, 3) := wn_at gdX3_addSource_35 5 rfl
theorem dX3_addSource_45 : decode cX3_addSource 45 = .ok (.aload_n 0, 1) := wn_at gdX3_addSource_35 6 rfl
theorem dX3_addSource_46 : decode cX3_addSource 46 = .ok (.getfield 32, 3) := wn_at gdX3_addSource_35 7 rfl
theorem dX3_addSource_49 : decode cX3_addSource 49 = .ok (.aload_n 0, 1) := wn_at gdX3_addSource_35 8 rfl
theorem dX3_addSource_50 : decode cX3_addSource 50 = .ok (.getfield 15, 3) := wn_at gdX3_addSource_35 9 rfl
theorem gdX3_addSource_53 : ∀ e ∈ ([(53, .iload_n 1, 1), (54, .iconst 1, 1), (55, .iadd, 1), (56, .iaload, 1), (57, .iastore, 1), (58, .aload_n 0, 1), (59, .getfield 25, 3), (62, .aload_n 0, 1), (63, .getfield 32, 3), (66, .lload_n 2, 1)] : List (Nat × Instr × Nat)), decode cX3_addSource e.1 = .ok e.2 := wn_all _ 53 (by decide +kernel)
theorem dX3_addSource_53 : decode cX3_addSource 53 = .ok (.iload_n 1, 1) := wn_at gdX3_addSource_53 0 rfl
theorem dX3_addSource_54 : decode cX3_addSource 54 = .ok (.iconst 1, 1) := wn_at gdX3_addSource_53 1 rfl
theorem dX3_addSource_55 : decode cX3_addSource 55 = .ok (.iadd, 1) := wn_at gdX3_addSource_53 2 rfl
theorem dX3_addSource_56 : decode cX3_addSource 56 = .ok (.iaload, 1) := wn_at gdX3_addSource_53 3 rfl
theorem dX3_addSource_57 : decode cX3_addSource 57 = .ok (.iastore, 1) := wn_at gdX3_addSource_53 4 rfl
theorem dX3_addSource_58 : decode cX3_addSource 58 = .ok (.aload_n 0, 1) := wn_at gdX3_addSource_53 5 rfl
theorem dX3_addSource_59 : decode cX3_addSource 59 = .ok (.getfield 25, 3) := wn_at gdX3_addSource_53 6 rfl
theorem dX3_addSource_62 : decode cX3_addSource 62 = .ok (.aload_n 0, 1) := wn_at gdX3_addSource_53 7 rfl
theorem dX3_addSource_63 : decode cX3_addSource 63 = .ok (.getfield 32, 3) := wn_at gdX3_addSource_53 8 rfl
theorem dX3_addSource_66 : decode cX3_addSource 66 = .ok (.lload_n 2, 1) := wn_at gdX3_addSource_53 9 rfl
theorem gdX3_addSource_67 : ∀ e ∈ ([(67, .lastore, 1), (68, .aload_n 0, 1), (69, .dup, 1), (70, .getfield 32, 3), (73, .iconst 1, 1), (74, .iadd, 1), (75, .putfield 32, 3), (78, .return_, 1)] : List (Nat × Instr × Nat)), decode cX3_addSource e.1 = .ok e.2 := wn_all _ 67 (by decide +kernel)
theorem dX3_addSource_67 : decode cX3_addSource 67 = .ok (.lastore, 1) := wn_at gdX3_addSource_67 0 rfl
theorem dX3_addSource_68 : decode cX3_addSource 68 = .ok (.aload_n 0, 1) := wn_at gdX3_addSource_67 1 rfl
theorem dX3_addSource_69 : decode cX3_addSource 69 = .ok (.dup, 1) := wn_at gdX3_addSource_67 2 rfl
theorem dX3_addSource_70 : decode cX3_addSource 70 = .ok (.getfield 32, 3) := wn_at gdX3_addSource_67 3 rfl
theorem dX3_addSource_73 : decode cX3_addSource 73 = .ok (.iconst 1, 1) := wn_at gdX3_addSource_67 4 rfl
theorem dX3_addSource_74 : decode cX3_addSource 74 = .ok (.iadd, 1) := wn_at gdX3_addSource_67 5 rfl
theorem dX3_addSource_75 : decode cX3_addSource 75 = .ok (.putfield 32, 3) := wn_at gdX3_addSource_67 6 rfl
theorem dX3_addSource_78 : decode cX3_addSource 78 = .ok (.return_, 1) := wn_at gdX3_addSource_67 7 rfl
theorem gdX3_merge_0 : ∀ e ∈ ([(0, .iconst 0, 1), (1, .istore_n 2, 1), (2, .iload_n 2, 1), (3, .ldc 78, 2), (5, .if_icmp .gt 62, 3), (8, .aload_n 0, 1), (9, .invokevirtual 79, 3), (12, .istore_n 3, 1), (13, .iload_n 3, 1), (14, .ifCond .ge 5, 3)] : List (Nat × Instr × Nat)), decode cX3_merge e.1 = .ok e.2 := wn_all _ 0 (by decide +kernel)
theorem dX3_merge_0 : decode cX3_merge 0 = .ok (.iconst 0, 1) := wn_at gdX3_merge_0 0 rfl
theorem dX3_merge_1 : decode cX3_merge 1 = .ok (.istore_n 2, 1) := wn_at gdX3_merge_0 1 rfl
theorem dX3_merge_2 : decode cX3_merge 2 = .ok (.iload_n 2, 1) := wn_at gdX3_merge_0 2 rfl
theorem dX3_merge_3 : decode cX3_merge 3 = .ok (.ldc 78, 2) := wn_at gdX3_merge_0 3 rfl
theorem dX3_merge_5 : decode cX3_merge 5 = .ok (.if_icmp .gt 62, 3) := wn_at gdX3_merge_0 4 rfl
theorem dX3_merge_8 : decode cX3_merge 8 = .ok (.aload_n 0, 1) := wn_at gdX3_merge_0 5 rfl
theorem dX3_merge_9 : decode cX3_merge 9 = .ok (.invokevirtual 79, 3) := wn_at gdX3_merge_0 6 rfl
theorem dX3_merge_12 : decode cX3_merge 12 = .ok (.istore_n 3, 1) := wn_at gdX3_merge_0 7 rfl
theorem dX3_merge_13 : decode cX3_merge 13 = .ok (.iload_n 3, 1) := wn_at gdX3_merge_0 8 rfl
theorem dX3_merge_14 : decode cX3_merge 14 = .ok (.ifCond .ge 5, 3) := wn_at gdX3_merge_0 9 rfl
theorem gdX3_merge_17 : ∀ e ∈ ([(17, .iconst 1, 1), (18, .ireturn, 1), (19, .aload_n 0, 1), (20, .getfield 19, 3), (23, .iload_n 3, 1), (24, .iaload, 1), (25, .istore 4, 2), (27, .aload_n 0, 1), (28, .getfield 19, 3), (31, .iload_n 3, 1)] : List (Nat × Instr × Nat)), decode cX3_merge e.1 = .ok e.2 := wn_all _ 17 (by decide +kernel)
theorem dX3_merge_17 : decode cX3_merge 17 = .ok (.iconst 1, 1) := wn_at gdX3_merge_17 0 rfl
theorem dX3_merge_18 : decode cX3_merge 18 = .ok (.ireturn, 1) := wn_at gdX3_merge_17 1 rfl
theorem dX3_merge_19 : decode cX3_merge 19 = .ok (.aload_n 0, 1) := wn_at gdX3_merge_17 2 rfl
theorem dX3_merge_20 : decode cX3_merge 20 = .ok (.getfield 19, 3) := wn_at gdX3_merge_17 3 rfl
theorem dX3_merge_23 : decode cX3_merge 23 = .ok (.iload_n 3, 1) := wn_at gdX3_merge_17 4 rfl
theorem dX3_merge_24 : decode cX3_merge 24 = .ok (.iaload, 1) := wn_at gdX3_merge_17 5 rfl
theorem dX3_merge_25 : decode cX3_merge 25 = .ok (.istore 4, 2) := wn_at gdX3_merge_17 6 rfl
theorem dX3_merge_27 : decode cX3_merge 27 = .ok (.aload_n 0, 1) := wn_at gdX3_merge_17 7 rfl
theorem dX3_merge_28 : decode cX3_merge 28 = .ok (.getfield 19, 3) := wn_at gdX3_merge_17 8 rfl
theorem dX3_merge_31 : decode cX3_merge 31 = .ok (.iload_n 3, 1) := wn_at gdX3_merge_17 9 rfl
theorem gdX3_merge_32 : ∀ e ∈ ([(32, .dup2, 1), (33, .iaload, 1), (34, .iconst 1, 1), (35, .iadd, 1), (36, .iastore, 1), (37, .aload_n 0, 1), (38, .iload_n 1, 1), (39, .aload_n 0, 1), (40, .getfield 9, 3), (43, .iload 4, 2)] : List (Nat × Instr × Nat)), decode cX3_merge e.1 = .ok e.2 := wn_all _ 32 (by decide +kernel)
theorem dX3_merge_32 : decode cX3_merge 32 = .ok (.dup2, 1) := wn_at gdX3_merge_32 0 rfl
theorem dX3_merge_33 : decode cX3_merge 33 = .ok (.iaload, 1) := wn_at gdX3_merge_32 1 rfl
theorem dX3_merge_34 : decode cX3_merge 34 = .ok (.iconst 1, 1) := wn_at gdX3_merge_32 2 rfl
theorem dX3_merge_35 : decode cX3_merge 35 = .ok (.iadd, 1) := wn_at gdX3_merge_32 3 rfl
theorem dX3_merge_36 : decode cX3_merge 36 = .ok (.iastore, 1) := wn_at gdX3_merge_32 4 rfl
theorem dX3_merge_37 : decode cX3_merge 37 = .ok (.aload_n 0, 1) := wn_at gdX3_merge_32 5 rfl
theorem dX3_merge_38 : decode cX3_merge 38 = .ok (.iload_n 1, 1) := wn_at gdX3_merge_32 6 rfl
theorem dX3_merge_39 : decode cX3_merge 39 = .ok (.aload_n 0, 1) := wn_at gdX3_merge_32 7 rfl
theorem dX3_merge_40 : decode cX3_merge 40 = .ok (.getfield 9, 3) := wn_at gdX3_merge_32 8 rfl
theorem dX3_merge_43 : decode cX3_merge 43 = .ok (.iload 4, 2) := wn_at gdX3_merge_32 9 rfl
theorem gdX3_merge_45 : ∀ e ∈ ([(45, .laload, 1), (46, .aload_n 0, 1), (47, .getfield 25, 3), (50, .iload_n 3, 1), (51, .laload, 1), (52, .ladd, 1), (53, .invokevirtual 44, 3), (56, .ifCond .ne 5, 3), (59, .iconst 0, 1), (60, .ireturn, 1)] : List (Nat × Instr × Nat)), decode cX3_merge e.1 = .ok e.2 := wn_all _ 45 (by decide +kernel)
theorem dX3_merge_45 : decode cX3_merge 45 = .ok (.laload, 1) := wn_at gdX3_merge_45 0 rfl
theorem dX3_merge_46 : decode cX3_merge 46 = .ok (.aload_n 0, 1) := wn_at gdX3_merge_45 1 rfl
theorem dX3_merge_47 : decode cX3_merge 47 = .ok (.getfield 25, 3) := wn_at gdX3_merge_45 2 rfl
theorem dX3_merge_50 : decode cX3_merge 50 = .ok (.iload_n 3, 1) := wn_at gdX3_merge_45 3 rfl
theorem dX3_merge_51 : decode cX3_merge 51 = .ok (.laload, 1) := wn_at gdX3_merge_45 4 rfl
theorem dX3_merge_52 : decode cX3_merge 52 = .ok (.ladd, 1) := wn_at gdX3_merge_45 5 rfl
theorem dX3_merge_53 : decode cX3_merge 53 = .ok (.invokevirtual 44, 3) := wn_at gdX3_merge_45 6 rfl
theorem dX3_merge_56 : decode cX3_merge 56 = .ok (.ifCond .ne 5, 3) := wn_at gdX3_merge_45 7 rfl
theorem dX3_merge_59 : decode cX3_merge 59 = .ok (.iconst 0, 1) := wn_at gdX3_merge_45 8 rfl
theorem dX3_merge_60 : decode cX3_merge 60 = .ok (.ireturn, 1) := wn_at gdX3_merge_45 9 rfl
theorem gdX3_merge_61 : ∀ e ∈ ([(61, .iinc 2 1, 3), (64, .goto (-62), 3), (67, .iconst 0, 1), (68, .ireturn, 1)] : List (Nat × Instr × Nat)), decode cX3_merge e.1 = .ok e.2 := wn_all _ 61 (by decide +kernel)
theorem dX3_merge_61 : decode cX3_merge 61 = .ok (.iinc 2 1, 3) := wn_at gdX3_merge_61 0 rfl
theorem dX3_merge_64 : decode cX3_merge 64 = .ok (.goto (-62), 3) := wn_at gdX3_merge_61 1 rfl
theorem dX3_merge_67 : decode cX3_merge 67 = .ok (.iconst 0, 1) := wn_at gdX3_merge_61 2 rfl
theorem dX3_merge_68 : decode cX3_merge 68 = .ok (.ireturn, 1) := wn_at gdX3_merge_61 3 rfl
theorem gdX3_leastSource_0 : ∀ e ∈ ([(0, .iconst (-1), 1), (1, .istore_n 1, 1), (2, .lconst 0, 1), (3, .lstore_n 2, 1), (4, .iconst 0, 1), (5, .istore 4, 2), (7, .iload 4, 2), (9, .aload_n 0, 1), (10, .getfield 32, 3), (13, .if_icmp .ge 68, 3)] : List (Nat × Instr × Nat)), decode cX3_leastSource e.1 = .ok e.2 := wn_all _ 0 (by decide +kernel)
theorem dX3_leastSource_0 : decode cX3_leastSource 0 = .ok (.iconst (-1), 1) := wn_at gdX3_leastSource_0 0 rfl
theorem dX3_leastSource_1 : decode cX3_leastSource 1 = .ok (.istore_n 1, 1) := wn_at gdX3_leastSource_0 1 rfl
theorem dX3_leastSource_2 : decode cX3_leastSource 2 = .ok (.lconst 0, 1) := wn_at gdX3_leastSource_0 2 rfl
theorem dX3_leastSource_3 : decode cX3_leastSource 3 = .ok (.lstore_n 2, 1) := wn_at gdX3_leastSource_0 3 rfl
theorem dX3_leastSource_4 : decode cX3_leastSource 4 = .ok (.iconst 0, 1) := wn_at gdX3_leastSource_0 4 rfl
theorem dX3_leastSource_5 : decode cX3_leastSource 5 = .ok (.istore 4, 2) := wn_at gdX3_leastSource_0 5 rfl
theorem dX3_leastSource_7 : decode cX3_leastSource 7 = .ok (.iload 4, 2) := wn_at gdX3_leastSource_0 6 rfl
theorem dX3_leastSource_9 : decode cX3_leastSource 9 = .ok (.aload_n 0, 1) := wn_at gdX3_leastSource_0 7 rfl
theorem dX3_leastSource_10 : decode cX3_leastSource 10 = .ok (.getfield 32, 3) := wn_at gdX3_leastSource_0 8 rfl
theorem dX3_leastSource_13 : decode cX3_leastSource 13 = .ok (.if_icmp .ge 68, 3) := wn_at gdX3_leastSource_0 9 rfl
theorem gdX3_leastSource_16 : ∀ e ∈ ([(16, .aload_n 0, 1), (17, .getfield 19, 3), (20, .iload 4, 2), (22, .iaload, 1), (23, .aload_n 0, 1), (24, .getfield 22, 3), (27, .iload 4, 2), (29, .iaload, 1), (30, .if_icmp .lt 6, 3), (33, .goto 42, 3)] : List (Nat × Instr × Nat)), decode cX3_leastSource e.1 = .ok e.2 := wn_all _ 16 (by decide +kernel)
theorem dX3_leastSource_16 : decode cX3_leastSource 16 = .ok (.aload_n 0, 1) := wn_at gdX3_leastSource_16 0 rfl
theorem dX3_leastSource_17 : decode cX3_leastSource 17 = .ok (.getfield 19, 3) := wn_at gdX3_leastSource_16 1 rfl
theorem dX3_leastSource_20 : decode cX3_leastSource 20 = .ok (.iload 4, 2) := wn_at gdX3_leastSource_16 2 rfl
theorem dX3_leastSource_22 : decode cX3_leastSource 22 = .ok (.iaload, 1) := wn_at gdX3_leastSource_16 3 rfl
theorem dX3_leastSource_23 : decode cX3_leastSource 23 = .ok (.aload_n 0, 1) := wn_at gdX3_leastSource_16 4 rfl
theorem dX3_leastSource_24 : decode cX3_leastSource 24 = .ok (.getfield 22, 3) := wn_at gdX3_leastSource_16 5 rfl
theorem dX3_leastSource_27 : decode cX3_leastSource 27 = .ok (.iload 4, 2) := wn_at gdX3_leastSource_16 6 rfl
theorem dX3_leastSource_29 : decode cX3_leastSource 29 = .ok (.iaload, 1) := wn_at gdX3_leastSource_16 7 rfl
theorem dX3_leastSource_30 : decode cX3_leastSource 30 = .ok (.if_icmp .lt 6, 3) := wn_at gdX3_leastSource_16 8 rfl
theorem dX3_leastSource_33 : decode cX3_leastSource 33 = .ok (.goto 42, 3) := wn_at gdX3_leastSource_16 9 rfl
theorem gdX3_leastSource_36 : ∀ e ∈ ([(36, .aload_n 0, 1), (37, .getfield 9, 3), (40, .aload_n 0, 1), (41, .getfield 19, 3), (44, .iload 4, 2), (46, .iaload, 1), (47, .laload, 1), (48, .aload_n 0, 1), (49, .getfield 25, 3), (52, .iload 4, 2)] : List (Nat × Instr × Nat)), decode cX3_leastSource e.1 = .ok e.2 := wn_all _ 36 (by decide +kernel)
theorem dX3_leastSource_36 : decode cX3_leastSource 36 = .ok (.aload_n 0, 1) := wn_at gdX3_leastSource_36 0 rfl
theorem dX3_leastSource_37 : decode cX3_leastSource 37 = .ok (.getfield 9, 3) := wn_at gdX3_leastSource_36 1 rfl
theorem dX3_leastSource_40 : decode cX3_leastSource 40 = .ok (.aload_n 0, 1) := wn_at gdX3_leastSource_36 2 rfl
theorem dX3_leastSource_41 : decode cX3_leastSource 41 = .ok (.getfield 19, 3) := wn_at gdX3_leastSource_36 3 rfl
theorem dX3_leastSource_44 : decode cX3_leastSource 44 = .ok (.iload 4, 2) := wn_at gdX3_leastSource_36 4 rfl
theorem dX3_leastSource_46 : decode cX3_leastSource 46 = .ok (.iaload, 1) := wn_at gdX3_leastSource_36 5 rfl
theorem dX3_leastSource_47 : decode cX3_leastSource 47 = .ok (.laload, 1) := wn_at gdX3_leastSource_36 6 rfl
theorem dX3_leastSource_48 : decode cX3_leastSource 48 = .ok (.aload_n 0, 1) := wn_at gdX3_leastSource_36 7 rfl
theorem dX3_leastSource_49 : decode cX3_leastSource 49 = .ok (.getfield 25, 3) := wn_at gdX3_leastSource_36 8 rfl
theorem dX3_leastSource_52 : decode cX3_leastSource 52 = .ok (.iload 4, 2) := wn_at gdX3_leastSource_36 9 rfl
theorem gdX3_leastSource_54 : ∀ e ∈ ([(54, .laload, 1), (55, .ladd, 1), (56, .lstore 5, 2), (58, .iload_n 1, 1), (59, .ifCond .lt 10, 3), (62, .lload 5, 2), (64, .lload_n 2, 1), (65, .lcmp, 1), (66, .ifCond .ge 9, 3), (69, .iload 4, 2)] : List (Nat × Instr × Nat)), decode cX3_leastSource e.1 = .ok e.2 := wn_all _ 54 (by decide +kernel)
theorem dX3_leastSource_54 : decode cX3_leastSource 54 = .ok (.laload, 1) := wn_at gdX3_leastSource_54 0 rfl
theorem dX3_leastSource_55 : decode cX3_leastSource 55 = .ok (.ladd, 1) := wn_at gdX3_leastSource_54 1 rfl
theorem dX3_leastSource_56 : decode cX3_leastSource 56 = .ok (.lstore 5, 2) := wn_at gdX3_leastSource_54 2 rfl
theorem dX3_leastSource_58 : decode cX3_leastSource 58 = .ok (.iload_n 1, 1) := wn_at gdX3_leastSource_54 3 rfl
theorem dX3_leastSource_59 : decode cX3_leastSource 59 = .ok (.ifCond .lt 10, 3) := wn_at gdX3_leastSource_54 4 rfl
theorem dX3_leastSource_62 : decode cX3_leastSource 62 = .ok (.lload 5, 2) := wn_at gdX3_leastSource_54 5 rfl
theorem dX3_leastSource_64 : decode cX3_leastSource 64 = .ok (.lload_n 2, 1) := wn_at gdX3_leastSource_54 6 rfl
theorem dX3_leastSource_65 : decode cX3_leastSource 65 = .ok (.lcmp, 1) := wn_at gdX3_leastSource_54 7 rfl
theorem dX3_leastSource_66 : decode cX3_leastSource 66 = .ok (.ifCond .ge 9, 3) := wn_at gdX3_leastSource_54 8 rfl
theorem dX3_leastSource_69 : decode cX3_leastSource 69 = .ok (.iload 4, 2) := wn_at gdX3_leastSource_54 9 rfl
theorem gdX3_leastSource_71 : ∀ e ∈ ([(71, .istore_n 1, 1), (72, .lload 5, 2), (74, .lstore_n 2, 1), (75, .iinc 4 1, 3), (78, .goto (-71), 3), (81, .iload_n 1, 1), (82, .ireturn, 1)] : List (Nat × Instr × Nat)), decode cX3_leastSource e.1 = .ok e.2 := wn_all _ 71 (by decide +kernel)
theorem dX3_leastSource_71 : decode cX3_leastSource 71 = .ok (.istore_n 1, 1) := wn_at gdX3_leastSource_71 0 rfl
theorem dX3_leastSource_72 : decode cX3_leastSource 72 = .ok (.lload 5, 2) := wn_at gdX3_leastSource_71 1 rfl
theorem dX3_leastSource_74 : decode cX3_leastSource 74 = .ok (.lstore_n 2, 1) := wn_at gdX3_leastSource_71 2 rfl
theorem dX3_leastSource_75 : decode cX3_leastSource 75 = .ok (.iinc 4 1, 3) := wn_at gdX3_leastSource_71 3 rfl
theorem dX3_leastSource_78 : decode cX3_leastSource 78 = .ok (.goto (-71), 3) := wn_at gdX3_leastSource_71 4 rfl
theorem dX3_leastSource_81 : decode cX3_leastSource 81 = .ok (.iload_n 1, 1) := wn_at gdX3_leastSource_71 5 rfl
theorem dX3_leastSource_82 : decode cX3_leastSource 82 = .ok (.ireturn, 1) := wn_at gdX3_leastSource_71 6 rfl
theorem gdX3_keep_0 : ∀ e ∈ ([(0, .aload_n 0, 1), (1, .getfield 28, 3), (4, .iload_n 1, 1), (5, .if_icmp .le 27, 3), (8, .aload_n 0, 1), (9, .getfield 9, 3), (12, .aload_n 0, 1), (13, .getfield 28, 3), (16, .iconst 1, 1), (17, .isub, 1)] : List (Nat × Instr × Nat)), decode cX3_keep e.1 = .ok e.2 := wn_all _ 0 (by decide +kernel)
theorem dX3_keep_0 : decode cX3_keep 0 = .ok (.aload_n 0, 1) := wn_at gdX3_keep_0 0 rfl
theorem dX3_keep_1 : decode cX3_keep 1 = .ok (.getfield 28, 3) := wn_at gdX3_keep_0 1 rfl
theorem dX3_keep_4 : decode cX3_keep 4 = .ok (.iload_n 1, 1) := wn_at gdX3_keep_0 2 rfl
theorem dX3_keep_5 : decode cX3_keep 5 = .ok (.if_icmp .le 27, 3) := wn_at gdX3_keep_0 3 rfl
theorem dX3_keep_8 : decode cX3_keep 8 = .ok (.aload_n 0, 1) := wn_at gdX3_keep_0 4 rfl
theorem dX3_keep_9 : decode cX3_keep 9 = .ok (.getfield 9, 3) := wn_at gdX3_keep_0 5 rfl
theorem dX3_keep_12 : decode cX3_keep 12 = .ok (.aload_n 0, 1) := wn_at gdX3_keep_0 6 rfl
theorem dX3_keep_13 : decode cX3_keep 13 = .ok (.getfield 28, 3) := wn_at gdX3_keep_0 7 rfl
theorem dX3_keep_16 : decode cX3_keep 16 = .ok (.iconst 1, 1) := wn_at gdX3_keep_0 8 rfl
theorem dX3_keep_17 : decode cX3_keep 17 = .ok (.isub, 1) := wn_at gdX3_keep_0 9 rfl
theorem gdX3_keep_18 : ∀ e ∈ ([(18, .laload, 1), (19, .invokestatic 83, 3), (22, .lload_n 2, 1), (23, .invokestatic 83, 3), (26, .lcmp, 1), (27, .ifCond .ne 5, 3), (30, .iconst 1, 1), (31, .ireturn, 1), (32, .aload_n 0, 1), (33, .getfield 28, 3)] : List (Nat × Instr × Nat)), decode cX3_keep e.1 = .ok e.2 := wn_all _ 18 (by decide +kernel)
theorem dX3_keep_18 : decode cX3_keep 18 = .ok (.laload, 1) := wn_at gdX3_keep_18 0 rfl
theorem dX3_keep_19 : decode cX3_keep 19 = .ok (.invokestatic 83, 3) := wn_at gdX3_keep_18 1 rfl
theorem dX3_keep_22 : decode cX3_keep 22 = .ok (.lload_n 2, 1) := wn_at gdX3_keep_18 2 rfl
theorem dX3_keep_23 : decode cX3_keep 23 = .ok (.invokestatic 83, 3) := wn_at gdX3_keep_18 3 rfl
theorem dX3_keep_26 : decode cX3_keep 26 = .ok (.lcmp, 1) := wn_at gdX3_keep_18 4 rfl
theorem dX3_keep_27 : decode cX3_keep 27 = .ok (.ifCond .ne 5, 3) := wn_at gdX3_keep_18 5 rfl
theorem dX3_keep_30 : decode cX3_keep 30 = .ok (.iconst 1, 1) := wn_at gdX3_keep_18 6 rfl
theorem dX3_keep_31 : decode cX3_keep 31 = .ok (.ireturn, 1) := wn_at gdX3_keep_18 7 rfl
theorem dX3_keep_32 : decode cX3_keep 32 = .ok (.aload_n 0, 1) := wn_at gdX3_keep_18 8 rfl
theorem dX3_keep_33 : decode cX3_keep 33 = .ok (.getfield 28, 3) := wn_at gdX3_keep_18 9 rfl
theorem gdX3_keep_36 : ∀ e ∈ ([(36, .sipush 4000, 3), (39, .if_icmp .lt 5, 3), (42, .iconst 0, 1), (43, .ireturn, 1), (44, .aload_n 0, 1), (45, .getfield 9, 3), (48, .aload_n 0, 1), (49, .getfield 28, 3), (52, .lload_n 2, 1), (53, .lastore, 1)] : List (Nat × Instr × Nat)), decode cX3_keep e.1 = .ok e.2 := wn_all _ 36 (by decide +kernel)
theorem dX3_keep_36 : decode cX3_keep 36 = .ok (.sipush 4000, 3) := wn_at gdX3_keep_36 0 rfl
theorem dX3_keep_39 : decode cX3_keep 39 = .ok (.if_icmp .lt 5, 3) := wn_at gdX3_keep_36 1 rfl
theorem dX3_keep_42 : decode cX3_keep 42 = .ok (.iconst 0, 1) := wn_at gdX3_keep_36 2 rfl
theorem dX3_keep_43 : decode cX3_keep 43 = .ok (.ireturn, 1) := wn_at gdX3_keep_36 3 rfl
theorem dX3_keep_44 : decode cX3_keep 44 = .ok (.aload_n 0, 1) := wn_at gdX3_keep_36 4 rfl
theorem dX3_keep_45 : decode cX3_keep 45 = .ok (.getfield 9, 3) := wn_at gdX3_keep_36 5 rfl
theorem dX3_keep_48 : decode cX3_keep 48 = .ok (.aload_n 0, 1) := wn_at gdX3_keep_36 6 rfl
theorem dX3_keep_49 : decode cX3_keep 49 = .ok (.getfield 28, 3) := wn_at gdX3_keep_36 7 rfl
theorem dX3_keep_52 : decode cX3_keep 52 = .ok (.lload_n 2, 1) := wn_at gdX3_keep_36 8 rfl
theorem dX3_keep_53 : decode cX3_keep 53 = .ok (.lastore, 1) := wn_at gdX3_keep_36 9 rfl
theorem gdX3_keep_54 : ∀ e ∈ ([(54, .aload_n 0, 1), (55, .dup, 1), (56, .getfield 28, 3), (59, .iconst 1, 1), (60, .iadd, 1), (61, .putfield 28, 3), (64, .iconst 1, 1), (65, .ireturn, 1)] : List (Nat × Instr × Nat)), decode cX3_keep e.1 = .ok e.2 := wn_all _ 54 (by decide +kernel)
theorem dX3_keep_54 : decode cX3_keep 54 = .ok (.aload_n 0, 1) := wn_at gdX3_keep_54 0 rfl
theorem dX3_keep_55 : decode cX3_keep 55 = .ok (.dup, 1) := wn_at gdX3_keep_54 1 rfl
theorem dX3_keep_56 : decode cX3_keep 56 = .ok (.getfield 28, 3) := wn_at gdX3_keep_54 2 rfl
theorem dX3_keep_59 : decode cX3_keep 59 = .ok (.iconst 1, 1) := wn_at gdX3_keep_54 3 rfl
theorem dX3_keep_60 : decode cX3_keep 60 = .ok (.iadd, 1) := wn_at gdX3_keep_54 4 rfl
theorem dX3_keep_61 : decode cX3_keep 61 = .ok (.putfield 28, 3) := wn_at gdX3_keep_54 5 rfl
theorem dX3_keep_64 : decode cX3_keep 64 = .ok (.iconst 1, 1) := wn_at gdX3_keep_54 6 rfl
theorem dX3_keep_65 : decode cX3_keep 65 = .ok (.ireturn, 1) := wn_at gdX3_keep_54 7 rfl
theorem gdX3_leastCarried_0 : ∀ e ∈ ([(0, .bipush (-2), 2), (2, .istore 8, 2), (4, .iload_n 3, 1), (5, .aload_n 1, 1), (6, .getfield 35, 3), (9, .imul, 1), (10, .iload_n 2, 1), (11, .iadd, 1), (12, .istore 9, 2), (14, .aload_n 0, 1)] : List (Nat × Instr × Nat)), decode cX3_leastCarried e.1 = .ok e.2 := wn_all _ 0 (by decide +kernel)
theorem dX3_leastCarried_0 : decode cX3_leastCarried 0 = .ok (.bipush (-2), 2) := wn_at gdX3_leastCarried_0 0 rfl
theorem dX3_leastCarried_2 : decode cX3_leastCarried 2 = .ok (.istore 8, 2) := wn_at gdX3_leastCarried_0 1 rfl
theorem dX3_leastCarried_4 : decode cX3_leastCarried 4 = .ok (.iload_n 3, 1) := wn_at gdX3_leastCarried_0 2 rfl
theorem dX3_leastCarried_5 : decode cX3_leastCarried 5 = .ok (.aload_n 1, 1) := wn_at gdX3_leastCarried_0 3 rfl
theorem dX3_leastCarried_6 : decode cX3_leastCarried 6 = .ok (.getfield 35, 3) := wn_at gdX3_leastCarried_0 4 rfl
theorem dX3_leastCarried_9 : decode cX3_leastCarried 9 = .ok (.imul, 1) := wn_at gdX3_leastCarried_0 5 rfl
theorem dX3_leastCarried_10 : decode cX3_leastCarried 10 = .ok (.iload_n 2, 1) := wn_at gdX3_leastCarried_0 6 rfl
theorem dX3_leastCarried_11 : decode cX3_leastCarried 11 = .ok (.iadd, 1) := wn_at gdX3_leastCarried_0 7 rfl
theorem dX3_leastCarried_12 : decode cX3_leastCarried 12 = .ok (.istore 9, 2) := wn_at gdX3_leastCarried_0 8 rfl
theorem dX3_leastCarried_14 : decode cX3_leastCarried 14 = .ok (.aload_n 0, 1) := wn_at gdX3_leastCarried_0 9 rfl
theorem gdX3_leastCarried_15 : ∀ e ∈ ([(15, .getfield 15, 3), (18, .iload 9, 2), (20, .iaload, 1), (21, .istore 10, 2), (23, .iload 10, 2), (25, .aload_n 0, 1), (26, .getfield 15, 3), (29, .iload 9, 2), (31, .iconst 1, 1), (32, .iadd, 1)] : List (Nat × Instr × Nat)), decode cX3_leastCarried e.1 = .ok e.2 := wn_all _ 15 (by decide +kernel)
theorem dX3_leastCarried_15 : decode cX3_leastCarried 15 = .ok (.getfield 15, 3) := wn_at gdX3_leastCarried_15 0 rfl
theorem dX3_leastCarried_18 : decode cX3_leastCarried 18 = .ok (.iload 9, 2) := wn_at gdX3_leastCarried_15 1 rfl
theorem dX3_leastCarried_20 : decode cX3_leastCarried 20 = .ok (.iaload, 1) := wn_at gdX3_leastCarried_15 2 rfl
theorem dX3_leastCarried_21 : decode cX3_leastCarried 21 = .ok (.istore 10, 2) := wn_at gdX3_leastCarried_15 3 rfl
theorem dX3_leastCarried_23 : decode cX3_leastCarried 23 = .ok (.iload 10, 2) := wn_at gdX3_leastCarried_15 4 rfl
theorem dX3_leastCarried_25 : decode cX3_leastCarried 25 = .ok (.aload_n 0, 1) := wn_at gdX3_leastCarried_15 5 rfl
theorem dX3_leastCarried_26 : decode cX3_leastCarried 26 = .ok (.getfield 15, 3) := wn_at gdX3_leastCarried_15 6 rfl
theorem dX3_leastCarried_29 : decode cX3_leastCarried 29 = .ok (.iload 9, 2) := wn_at gdX3_leastCarried_15 7 rfl
theorem dX3_leastCarried_31 : decode cX3_leastCarried 31 = .ok (.iconst 1, 1) := wn_at gdX3_leastCarried_15 8 rfl
theorem dX3_leastCarried_32 : decode cX3_leastCarried 32 = .ok (.iadd, 1) := wn_at gdX3_leastCarried_15 9 rfl
theorem gdX3_leastCarried_33 : ∀ e ∈ ([(33, .iaload, 1), (34, .if_icmp .ge 85, 3), (37, .aload_n 0, 1), (38, .getfield 9, 3), (41, .iload 10, 2), (43, .laload, 1), (44, .invokestatic 83, 3), (47, .lload 4, 2), (49, .lcmp, 1), (50, .ifCond .lt 23, 3)] : List (Nat × Instr × Nat)), decode cX3_leastCarried e.1 = .ok e.2 := wn_all _ 33 (by decide +kernel)
theorem dX3_leastCarried_33 : decode cX3_leastCarried 33 = .ok (.iaload, 1) := wn_at gdX3_leastCarried_33 0 rfl
theorem dX3_leastCarried_34 : decode cX3_leastCarried 34 = .ok (.if_icmp .ge 85, 3) := wn_at gdX3_leastCarried_33 1 rfl
theorem dX3_leastCarried_37 : decode cX3_leastCarried 37 = .ok (.aload_n 0, 1) := wn_at gdX3_leastCarried_33 2 rfl
theorem dX3_leastCarried_38 : decode cX3_leastCarried 38 = .ok (.getfield 9, 3) := wn_at gdX3_leastCarried_33 3 rfl
theorem dX3_leastCarried_41 : decode cX3_leastCarried 41 = .ok (.iload 10, 2) := wn_at gdX3_leastCarried_33 4 rfl
theorem dX3_leastCarried_43 : decode cX3_leastCarried 43 = .ok (.laload, 1) := wn_at gdX3_leastCarried_33 5 rfl
theorem dX3_leastCarried_44 : decode cX3_leastCarried 44 = .ok (.invokestatic 83, 3) := wn_at gdX3_leastCarried_33 6 rfl
theorem dX3_leastCarried_47 : decode cX3_leastCarried 47 = .ok (.lload 4, 2) := wn_at gdX3_leastCarried_33 7 rfl
theorem dX3_leastCarried_49 : decode cX3_leastCarried 49 = .ok (.lcmp, 1) := wn_at gdX3_leastCarried_33 8 rfl
theorem dX3_leastCarried_50 : decode cX3_leastCarried 50 = .ok (.ifCond .lt 23, 3) := wn_at gdX3_leastCarried_33 9 rfl
theorem gdX3_leastCarried_53 : ∀ e ∈ ([(53, .aload_n 0, 1), (54, .getfield 9, 3), (57, .iload 10, 2), (59, .laload, 1), (60, .invokestatic 83, 3), (63, .lload 6, 2), (65, .lcmp, 1), (66, .ifCond .gt 7, 3), (69, .iconst 1, 1), (70, .goto 4, 3)] : List (Nat × Instr × Nat)), decode cX3_leastCarried e.1 = .ok e.2 := wn_all _ 53 (by decide +kernel)
theorem dX3_leastCarried_53 : decode cX3_leastCarried 53 = .ok (.aload_n 0, 1) := wn_at gdX3_leastCarried_53 0 rfl
theorem dX3_leastCarried_54 : decode cX3_leastCarried 54 = .ok (.getfield 9, 3) := wn_at gdX3_leastCarried_53 1 rfl
theorem dX3_leastCarried_57 : decode cX3_leastCarried 57 = .ok (.iload 10, 2) := wn_at gdX3_leastCarried_53 2 rfl
theorem dX3_leastCarried_59 : decode cX3_leastCarried 59 = .ok (.laload, 1) := wn_at gdX3_leastCarried_53 3 rfl
theorem dX3_leastCarried_60 : decode cX3_leastCarried 60 = .ok (.invokestatic 83, 3) := wn_at gdX3_leastCarried_53 4 rfl
theorem dX3_leastCarried_63 : decode cX3_leastCarried 63 = .ok (.lload 6, 2) := wn_at gdX3_leastCarried_53 5 rfl
theorem dX3_leastCarried_65 : decode cX3_leastCarried 65 = .ok (.lcmp, 1) := wn_at gdX3_leastCarried_53 6 rfl
theorem dX3_leastCarried_66 : decode cX3_leastCarried 66 = .ok (.ifCond .gt 7, 3) := wn_at gdX3_leastCarried_53 7 rfl
theorem dX3_leastCarried_69 : decode cX3_leastCarried 69 = .ok (.iconst 1, 1) := wn_at gdX3_leastCarried_53 8 rfl
theorem dX3_leastCarried_70 : decode cX3_leastCarried 70 = .ok (.goto 4, 3) := wn_at gdX3_leastCarried_53 9 rfl
theorem gdX3_leastCarried_73 : ∀ e ∈ ([(73, .iconst 0, 1), (74, .istore 11, 2), (76, .iload 11, 2), (78, .ifCond .eq 35, 3), (81, .iload 8, 2), (83, .ifCond .lt 18, 3), (86, .aload_n 0, 1), (87, .getfield 9, 3), (90, .iload 10, 2), (92, .laload, 1)] : List (Nat × Instr × Nat)), decode cX3_leastCarried e.1 = .ok e.2 := wn_all _ 73 (by decide +kernel)
theorem dX3_leastCarried_73 : decode cX3_leastCarried 73 = .ok (.iconst 0, 1) := wn_at gdX3_leastCarried_73 0 rfl
theorem dX3_leastCarried_74 : decode cX3_leastCarried 74 = .ok (.istore 11, 2) := wn_at gdX3_leastCarried_73 1 rfl
theorem dX3_leastCarried_76 : decode cX3_leastCarried 76 = .ok (.iload 11, 2) := wn_at gdX3_leastCarried_73 2 rfl
theorem dX3_leastCarried_78 : decode cX3_leastCarried 78 = .ok (.ifCond .eq 35, 3) := wn_at gdX3_leastCarried_73 3 rfl
theorem dX3_leastCarried_81 : decode cX3_leastCarried 81 = .ok (.iload 8, 2) := wn_at gdX3_leastCarried_73 4 rfl
theorem dX3_leastCarried_83 : decode cX3_leastCarried 83 = .ok (.ifCond .lt 18, 3) := wn_at gdX3_leastCarried_73 5 rfl
theorem dX3_leastCarried_86 : decode cX3_leastCarried 86 = .ok (.aload_n 0, 1) := wn_at gdX3_leastCarried_73 6 rfl
theorem dX3_leastCarried_87 : decode cX3_leastCarried 87 = .ok (.getfield 9, 3) := wn_at gdX3_leastCarried_73 7 rfl
theorem dX3_leastCarried_90 : decode cX3_leastCarried 90 = .ok (.iload 10, 2) := wn_at gdX3_leastCarried_73 8 rfl
theorem dX3_leastCarried_92 : decode cX3_leastCarried 92 = .ok (.laload, 1) := wn_at gdX3_leastCarried_73 9 rfl
theorem gdX3_leastCarried_93 : ∀ e ∈ ([(93, .invokestatic 87, 3), (96, .iload 8, 2), (98, .if_icmp .ge 15, 3), (101, .aload_n 0, 1), (102, .getfield 9, 3), (105, .iload 10, 2), (107, .laload, 1), (108, .invokestatic 87, 3), (111, .istore 8, 2), (113, .iinc 10 1, 3)] : List (Nat × Instr × Nat)), decode cX3_leastCarried e.1 = .ok e.2 := wn_all _ 93 (by decide +kernel)
theorem dX3_leastCarried_93 : decode cX3_leastCarried 93 = .ok (.invokestatic 87, 3) := wn_at gdX3_leastCarried_93 0 rfl
theorem dX3_leastCarried_96 : decode cX3_leastCarried 96 = .ok (.iload 8, 2) := wn_at gdX3_leastCarried_93 1 rfl
theorem dX3_leastCarried_98 : decode cX3_leastCarried 98 = .ok (.if_icmp .ge 15, 3) := wn_at gdX3_leastCarried_93 2 rfl
theorem dX3_leastCarried_101 : decode cX3_leastCarried 101 = .ok (.aload_n 0, 1) := wn_at gdX3_leastCarried_93 3 rfl
theorem dX3_leastCarried_102 : decode cX3_leastCarried 102 = .ok (.getfield 9, 3) := wn_at gdX3_leastCarried_93 4 rfl
theorem dX3_leastCarried_105 : decode cX3_leastCarried 105 = .ok (.iload 10, 2) := wn_at gdX3_leastCarried_93 5 rfl
theorem dX3_leastCarried_107 : decode cX3_leastCarried 107 = .ok (.laload, 1) := wn_at gdX3_leastCarried_93 6 rfl
theorem dX3_leastCarried_108 : decode cX3_leastCarried 108 = .ok (.invokestatic 87, 3) := wn_at gdX3_leastCarried_93 7 rfl
theorem dX3_leastCarried_111 : decode cX3_leastCarried 111 = .ok (.istore 8, 2) := wn_at gdX3_leastCarried_93 8 rfl
theorem dX3_leastCarried_113 : decode cX3_leastCarried 113 = .ok (.iinc 10 1, 3) := wn_at gdX3_leastCarried_93 9 rfl
theorem gdX3_leastCarried_116 : ∀ e ∈ ([(116, .goto (-93), 3), (119, .iload 8, 2), (121, .ireturn, 1)] : List (Nat × Instr × Nat)), decode cX3_leastCarried e.1 = .ok e.2 := wn_all _ 116 (by decide +kernel)
theorem dX3_leastCarried_116 : decode cX3_leastCarried 116 = .ok (.goto (-93), 3) := wn_at gdX3_leastCarried_116 0 rfl
theorem dX3_leastCarried_119 : decode cX3_leastCarried 119 = .ok (.iload 8, 2) := wn_at gdX3_leastCarried_116 1 rfl
theorem dX3_leastCarried_121 : decode cX3_leastCarried 121 = .ok (.ireturn, 1) := wn_at gdX3_leastCarried_116 2 rfl
theorem gdX4_init_0 : ∀ e ∈ ([(0, .aload_n 0, 1), (1, .invokespecial 3, 3), (4, .aload_n 0, 1), (5, .sipush 400, 3), (8, .newarray .int, 2), (10, .putfield 9, 3), (13, .aload_n 0, 1), (14, .bipush 60, 2), (16, .newarray .long, 2), (18, .putfield 15, 3)] : List (Nat × Instr × Nat)), decode cX4_init e.1 = .ok e.2 := wn_all _ 0 (by decide +kernel)
theorem dX4_init_0 : decode cX4_init 0 = .ok (.aload_n 0, 1) := wn_at gdX4_init_0 0 rfl
theorem dX4_init_1 : decode cX4_init 1 = .ok (.invokespecial 3, 3) := wn_at gdX4_init_0 1 rfl
theorem dX4_init_4 : decode cX4_init 4 = .ok (.aload_n 0, 1) := wn_at gdX4_init_0 2 rfl
theorem dX4_init_5 : decode cX4_init 5 = .ok (.sipush 400, 3) := wn_at gdX4_init_0 3 rfl
theorem dX4_init_8 : decode cX4_init 8 = .ok (.newarray .int, 2) := wn_at gdX4_init_0 4 rfl
theorem dX4_init_10 : decode cX4_init 10 = .ok (.putfield 9, 3) := wn_at gdX4_init_0 5 rfl
theorem dX4_init_13 : decode cX4_init 13 = .ok (.aload_n 0, 1) := wn_at gdX4_init_0 6 rfl
theorem dX4_init_14 : decode cX4_init 14 = .ok (.bipush 60, 2) := wn_at gdX4_init_0 7 rfl
theorem dX4_init_16 : decode cX4_init 16 = .ok (.newarray .long, 2) := wn_at gdX4_init_0 8 rfl
theorem dX4_init_18 : decode cX4_init 18 = .ok (.putfield 15, 3) := wn_at gdX4_init_0 9 rfl
theorem gdX4_init_21 : ∀ e ∈ ([(21, .aload_n 0, 1), (22, .iconst 0, 1), (23, .putfield 19, 3), (26, .aload_n 0, 1), (27, .iconst 0, 1), (28, .putfield 23, 3), (31, .return_, 1)] : List (Nat × Instr × Nat)), decode cX4_init e.1 = .ok e.2 := wn_all _ 21 (by decide +kernel)
theorem dX4_init_21 : decode cX4_init 21 = .ok (.aload_n 0, 1) := wn_at gdX4_init_21 0 rfl
theorem dX4_init_22 : decode cX4_init 22 = .ok (.iconst 0, 1) := wn_at gdX4_init_21 1 rfl
theorem dX4_init_23 : decode cX4_init 23 = .ok (.putfield 19, 3) := wn_at gdX4_init_21 2 rfl
theorem dX4_init_26 : decode cX4_init 26 = .ok (.aload_n 0, 1) := wn_at gdX4_init_21 3 rfl
theorem dX4_init_27 : decode cX4_init 27 = .ok (.iconst 0, 1) := wn_at gdX4_init_21 4 rfl
theorem dX4_init_28 : decode cX4_init 28 = .ok (.putfield 23, 3) := wn_at gdX4_init_21 5 rfl
theorem dX4_init_31 : decode cX4_init 31 = .ok (.return_, 1) := wn_at gdX4_init_21 6 rfl
theorem gdX4_copyFrom_0 : ∀ e ∈ ([(0, .aload_n 1, 1), (1, .getfield 9, 3), (4, .iconst 0, 1), (5, .aload_n 0, 1), (6, .getfield 9, 3), (9, .iconst 0, 1), (10, .sipush 400, 3), (13, .invokestatic 26, 3), (16, .aload_n 0, 1), (17, .aload_n 1, 1)] : List (Nat × Instr × Nat)), decode cX4_copyFrom e.1 = .ok e.2 := wn_all _ 0 (by decide +kernel)
theorem dX4_copyFrom_0 : decode cX4_copyFrom 0 = .ok (.aload_n 1, 1) := wn_at gdX4_copyFrom_0 0 rfl
theorem dX4_copyFrom_1 : decode cX4_copyFrom 1 = .ok (.getfield 9, 3) := wn_at gdX4_copyFrom_0 1 rfl
theorem dX4_copyFrom_4 : decode cX4_copyFrom 4 = .ok (.iconst 0, 1) := wn_at gdX4_copyFrom_0 2 rfl
theorem dX4_copyFrom_5 : decode cX4_copyFrom 5 = .ok (.aload_n 0, 1) := wn_at gdX4_copyFrom_0 3 rfl
theorem dX4_copyFrom_6 : decode cX4_copyFrom 6 = .ok (.getfield 9, 3) := wn_at gdX4_copyFrom_0 4 rfl
theorem dX4_copyFrom_9 : decode cX4_copyFrom 9 = .ok (.iconst 0, 1) := wn_at gdX4_copyFrom_0 5 rfl
theorem dX4_copyFrom_10 : decode cX4_copyFrom 10 = .ok (.sipush 400, 3) := wn_at gdX4_copyFrom_0 6 rfl
theorem dX4_copyFrom_13 : decode cX4_copyFrom 13 = .ok (.invokestatic 26, 3) := wn_at gdX4_copyFrom_0 7 rfl
theorem dX4_copyFrom_16 : decode cX4_copyFrom 16 = .ok (.aload_n 0, 1) := wn_at gdX4_copyFrom_0 8 rfl
theorem dX4_copyFrom_17 : decode cX4_copyFrom 17 = .ok (.aload_n 1, 1) := wn_at gdX4_copyFrom_0 9 rfl
theorem gdX4_copyFrom_18 : ∀ e ∈ ([(18, .getfield 19, 3), (21, .putfield 19, 3), (24, .return_, 1)] : List (Nat × Instr × Nat)), decode cX4_copyFrom e.1 = .ok e.2 := wn_all _ 18 (by decide +kernel)
theorem dX4_copyFrom_18 : decode cX4_copyFrom 18 = .ok (.getfield 19, 3) := wn_at gdX4_copyFrom_18 0 rfl
theorem dX4_copyFrom_21 : decode cX4_copyFrom 21 = .ok (.putfield 19, 3) := wn_at gdX4_copyFrom_18 1 rfl
theorem dX4_copyFrom_24 : decode cX4_copyFrom 24 = .ok (.return_, 1) := wn_at gdX4_copyFrom_18 2 rfl
theorem gdX4_write_0 : ∀ e ∈ ([(0, .aload_n 0, 1), (1, .getfield 19, 3), (4, .sipush 400, 3), (7, .if_icmp .ge 27, 3), (10, .aload_n 0, 1), (11, .getfield 9, 3), (14, .aload_n 0, 1), (15, .getfield 19, 3), (18, .iload_n 2, 1), (19, .iconst 5, 1)] : List (Nat × Instr × Nat)), decode cX4_write e.1 = .ok e.2 := wn_all _ 0 (by decide +kernel)
theorem dX4_write_0 : decode cX4_write 0 = .ok (.aload_n 0, 1) := wn_at gdX4_write_0 0 rfl
theorem dX4_write_1 : decode cX4_write 1 = .ok (.getfield 19, 3) := wn_at gdX4_write_0 1 rfl
theorem dX4_write_4 : decode cX4_write 4 = .ok (.sipush 400, 3) := wn_at gdX4_write_0 2 rfl
theorem dX4_write_7 : decode cX4_write 7 = .ok (.if_icmp .ge 27, 3) := wn_at gdX4_write_0 3 rfl
theorem dX4_write_10 : decode cX4_write 10 = .ok (.aload_n 0, 1) := wn_at gdX4_write_0 4 rfl
theorem dX4_write_11 : decode cX4_write 11 = .ok (.getfield 9, 3) := wn_at gdX4_write_0 5 rfl
theorem dX4_write_14 : decode cX4_write 14 = .ok (.aload_n 0, 1) := wn_at gdX4_write_0 6 rfl
theorem dX4_write_15 : decode cX4_write 15 = .ok (.getfield 19, 3) := wn_at gdX4_write_0 7 rfl
theorem dX4_write_18 : decode cX4_write 18 = .ok (.iload_n 2, 1) := wn_at gdX4_write_0 8 rfl
theorem dX4_write_19 : decode cX4_write 19 = .ok (.iconst 5, 1) := wn_at gdX4_write_0 9 rfl
theorem gdX4_write_20 : ∀ e ∈ ([(20, .ishl, 1), (21, .iload_n 1, 1), (22, .ior, 1), (23, .iastore, 1), (24, .aload_n 0, 1), (25, .dup, 1), (26, .getfield 19, 3), (29, .iconst 1, 1), (30, .iadd, 1), (31, .putfield 19, 3)] : List (Nat × Instr × Nat)), decode cX4_write e.1 = .ok e.2 := wn_all _ 20 (by decide +kernel)
theorem dX4_write_20 : decode cX4_write 20 = .ok (.ishl, 1) := wn_at gdX4_write_20 0 rfl
theorem dX4_write_21 : decode cX4_write 21 = .ok (.iload_n 1, 1) := wn_at gdX4_write_20 1 rfl
theorem dX4_write_22 : decode cX4_write 22 = .ok (.ior, 1) := wn_at gdX4_write_20 2 rfl
theorem dX4_write_23 : decode cX4_write 23 = .ok (.iastore, 1) := wn_at gdX4_write_20 3 rfl
theorem dX4_write_24 : decode cX4_write 24 = .ok (.aload_n 0, 1) := wn_at gdX4_write_20 4 rfl
theorem dX4_write_25 : decode cX4_write 25 = .ok (.dup, 1) := wn_at gdX4_write_20 5 rfl
theorem dX4_write_26 : decode cX4_write 26 = .ok (.getfield 19, 3) := wn_at gdX4_write_20 6 rfl
theorem dX4_write_29 : decode cX4_write 29 = .ok (.iconst 1, 1) := wn_at gdX4_write_20 7 rfl
theorem dX4_write_30 : decode cX4_write 30 = .ok (.iadd, 1) := wn_at gdX4_write_20 8 rfl
theorem dX4_write_31 : decode cX4_write 31 = .ok (.putfield 19, 3) := wn_at gdX4_write_20 9 rfl
theorem gdX4_write_34 : ∀ e ∈ ([(34, .return_, 1)] : List (Nat × Instr × Nat)), decode cX4_write e.1 = .ok e.2 := wn_all _ 34 (by decide +kernel)
theorem dX4_write_34 : decode cX4_write 34 = .ok (.return_, 1) := wn_at gdX4_write_34 0 rfl
theorem gdX4_goalOf_0 : ∀ e ∈ ([(0, .aload_n 0, 1), (1, .iconst 0, 1), (2, .putfield 23, 3), (5, .iconst 0, 1), (6, .istore 4, 2), (8, .iload 4, 2), (10, .aload_n 0, 1), (11, .getfield 19, 3), (14, .if_icmp .ge 151, 3), (17, .iload 4, 2)] : List (Nat × Instr × Nat)), decode cX4_goalOf e.1 = .ok e.2 := wn_all _ 0 (by decide +kernel)
theorem dX4_goalOf_0 : decode cX4_goalOf 0 = .ok (.aload_n 0, 1) := wn_at gdX4_goalOf_0 0 rfl
theorem dX4_goalOf_1 : decode cX4_goalOf 1 = .ok (.iconst 0, 1) := wn_at gdX4_goalOf_0 1 rfl
theorem dX4_goalOf_2 : decode cX4_goalOf 2 = .ok (.putfield 23, 3) := wn_at gdX4_goalOf_0 2 rfl
theorem dX4_goalOf_5 : decode cX4_goalOf 5 = .ok (.iconst 0, 1) := wn_at gdX4_goalOf_0 3 rfl
theorem dX4_goalOf_6 : decode cX4_goalOf 6 = .ok (.istore 4, 2) := wn_at gdX4_goalOf_0 4 rfl
theorem dX4_goalOf_8 : decode cX4_goalOf 8 = .ok (.iload 4, 2) := wn_at gdX4_goalOf_0 5 rfl
theorem dX4_goalOf_10 : decode cX4_goalOf 10 = .ok (.aload_n 0, 1) := wn_at gdX4_goalOf_0 6 rfl
theorem dX4_goalOf_11 : decode cX4_goalOf 11 = .ok (.getfield 19, 3) := wn_at gdX4_goalOf_0 7 rfl
theorem dX4_goalOf_14 : decode cX4_goalOf 14 = .ok (.if_icmp .ge 151, 3) := wn_at gdX4_goalOf_0 8 rfl
theorem dX4_goalOf_17 : decode cX4_goalOf 17 = .ok (.iload 4, 2) := wn_at gdX4_goalOf_0 9 rfl
theorem gdX4_goalOf_19 : ∀ e ∈ ([(19, .sipush 400, 3), (22, .if_icmp .ge 143, 3), (25, .aload_n 0, 1), (26, .getfield 9, 3), (29, .iload 4, 2), (31, .iaload, 1), (32, .bipush 31, 2), (34, .iand, 1), (35, .istore 5, 2), (37, .aload_n 0, 1)] : List (Nat × Instr × Nat)), decode cX4_goalOf e.1 = .ok e.2 := wn_all _ 19 (by decide +kernel)
theorem dX4_goalOf_19 : decode cX4_goalOf 19 = .ok (.sipush 400, 3) := wn_at gdX4_goalOf_19 0 rfl
theorem dX4_goalOf_22 : decode cX4_goalOf 22 = .ok (.if_icmp .ge 143, 3) := wn_at gdX4_goalOf_19 1 rfl
theorem dX4_goalOf_25 : decode cX4_goalOf 25 = .ok (.aload_n 0, 1) := wn_at gdX4_goalOf_19 2 rfl
theorem dX4_goalOf_26 : decode cX4_goalOf 26 = .ok (.getfield 9, 3) := wn_at gdX4_goalOf_19 3 rfl
theorem dX4_goalOf_29 : decode cX4_goalOf 29 = .ok (.iload 4, 2) := wn_at gdX4_goalOf_19 4 rfl
theorem dX4_goalOf_31 : decode cX4_goalOf 31 = .ok (.iaload, 1) := wn_at gdX4_goalOf_19 5 rfl
theorem dX4_goalOf_32 : decode cX4_goalOf 32 = .ok (.bipush 31, 2) := wn_at gdX4_goalOf_19 6 rfl
theorem dX4_goalOf_34 : decode cX4_goalOf 34 = .ok (.iand, 1) := wn_at gdX4_goalOf_19 7 rfl
theorem dX4_goalOf_35 : decode cX4_goalOf 35 = .ok (.istore 5, 2) := wn_at gdX4_goalOf_19 8 rfl
theorem dX4_goalOf_37 : decode cX4_goalOf 37 = .ok (.aload_n 0, 1) := wn_at gdX4_goalOf_19 9 rfl
theorem gdX4_goalOf_38 : ∀ e ∈ ([(38, .getfield 9, 3), (41, .iload 4, 2), (43, .iaload, 1), (44, .iconst 5, 1), (45, .ishr, 1), (46, .istore 6, 2), (48, .iload 5, 2), (50, .ifCond .ne 6, 3), (53, .iload 6, 2), (55, .ireturn, 1)] : List (Nat × Instr × Nat)), decode cX4_goalOf e.1 = .ok e.2 := wn_all _ 38 (by decide +kernel)
theorem dX4_goalOf_38 : decode cX4_goalOf 38 = .ok (.getfield 9, 3) := wn_at gdX4_goalOf_38 0 rfl
theorem dX4_goalOf_41 : decode cX4_goalOf 41 = .ok (.iload 4, 2) := wn_at gdX4_goalOf_38 1 rfl
theorem dX4_goalOf_43 : decode cX4_goalOf 43 = .ok (.iaload, 1) := wn_at gdX4_goalOf_38 2 rfl
theorem dX4_goalOf_44 : decode cX4_goalOf 44 = .ok (.iconst 5, 1) := wn_at gdX4_goalOf_38 3 rfl
theorem dX4_goalOf_45 : decode cX4_goalOf 45 = .ok (.ishr, 1) := wn_at gdX4_goalOf_38 4 rfl
theorem dX4_goalOf_46 : decode cX4_goalOf 46 = .ok (.istore 6, 2) := wn_at gdX4_goalOf_38 5 rfl
theorem dX4_goalOf_48 : decode cX4_goalOf 48 = .ok (.iload 5, 2) := wn_at gdX4_goalOf_38 6 rfl
theorem dX4_goalOf_50 : decode cX4_goalOf 50 = .ok (.ifCond .ne 6, 3) := wn_at gdX4_goalOf_38 7 rfl
theorem dX4_goalOf_53 : decode cX4_goalOf 53 = .ok (.iload 6, 2) := wn_at gdX4_goalOf_38 8 rfl
theorem dX4_goalOf_55 : decode cX4_goalOf 55 = .ok (.ireturn, 1) := wn_at gdX4_goalOf_38 9 rfl
theorem gdX4_goalOf_56 : ∀ e ∈ ([(56, .iload 5, 2), (58, .iconst 1, 1), (59, .if_icmp .ne 15, 3), (62, .aload_n 0, 1), (63, .invokevirtual 32, 3), (66, .lconst 0, 1), (67, .lcmp, 1), (68, .ifCond .eq 91, 3), (71, .iload 6, 2), (73, .ireturn, 1)] : List (Nat × Instr × Nat)), decode cX4_goalOf e.1 = .ok e.2 := wn_all _ 56 (by decide +kernel)
theorem dX4_goalOf_56 : decode cX4_goalOf 56 = .ok (.iload 5, 2) := wn_at gdX4_goalOf_56 0 rfl
theorem dX4_goalOf_58 : decode cX4_goalOf 58 = .ok (.iconst 1, 1) := wn_at gdX4_goalOf_56 1 rfl
theorem dX4_goalOf_59 : decode cX4_goalOf 59 = .ok (.if_icmp .ne 15, 3) := wn_at gdX4_goalOf_56 2 rfl
theorem dX4_goalOf_62 : decode cX4_goalOf 62 = .ok (.aload_n 0, 1) := wn_at gdX4_goalOf_56 3 rfl
theorem dX4_goalOf_63 : decode cX4_goalOf 63 = .ok (.invokevirtual 32, 3) := wn_at gdX4_goalOf_56 4 rfl
theorem dX4_goalOf_66 : decode cX4_goalOf 66 = .ok (.lconst 0, 1) := wn_at gdX4_goalOf_56 5 rfl
theorem dX4_goalOf_67 : decode cX4_goalOf 67 = .ok (.lcmp, 1) := wn_at gdX4_goalOf_56 6 rfl
theorem dX4_goalOf_68 : decode cX4_goalOf 68 = .ok (.ifCond .eq 91, 3) := wn_at gdX4_goalOf_56 7 rfl
theorem dX4_goalOf_71 : decode cX4_goalOf 71 = .ok (.iload 6, 2) := wn_at gdX4_goalOf_56 8 rfl
theorem dX4_goalOf_73 : decode cX4_goalOf 73 = .ok (.ireturn, 1) := wn_at gdX4_goalOf_56 9 rfl
theorem gdX4_goalOf_74 : ∀ e ∈ ([(74, .iload 5, 2), (76, .iconst 2, 1), (77, .if_icmp .ne 13, 3), (80, .aload_n 0, 1), (81, .iload 6, 2), (83, .i2l, 1), (84, .invokevirtual 36, 3), (87, .goto 72, 3), (90, .iload 5, 2), (92, .iconst 3, 1)] : List (Nat × Instr × Nat)), decode cX4_goalOf e.1 = .ok e.2 := wn_all _ 74 (by decide +kernel)
theorem dX4_goalOf_74 : decode cX4_goalOf 74 = .ok (.iload 5, 2) := wn_at gdX4_goalOf_74 0 rfl
theorem dX4_goalOf_76 : decode cX4_goalOf 76 = .ok (.iconst 2, 1) := wn_at gdX4_goalOf_74 1 rfl
theorem dX4_goalOf_77 : decode cX4_goalOf 77 = .ok (.if_icmp .ne 13, 3) := wn_at gdX4_goalOf_74 2 rfl
theorem dX4_goalOf_80 : decode cX4_goalOf 80 = .ok (.aload_n 0, 1) := wn_at gdX4_goalOf_74 3 rfl
theorem dX4_goalOf_81 : decode cX4_goalOf 81 = .ok (.iload 6, 2) := wn_at gdX4_goalOf_74 4 rfl
theorem dX4_goalOf_83 : decode cX4_goalOf 83 = .ok (.i2l, 1) := wn_at gdX4_goalOf_74 5 rfl
theorem dX4_goalOf_84 : decode cX4_goalOf 84 = .ok (.invokevirtual 36, 3) := wn_at gdX4_goalOf_74 6 rfl
theorem dX4_goalOf_87 : decode cX4_goalOf 87 = .ok (.goto 72, 3) := wn_at gdX4_goalOf_74 7 rfl
theorem dX4_goalOf_90 : decode cX4_goalOf 90 = .ok (.iload 5, 2) := wn_at gdX4_goalOf_74 8 rfl
theorem dX4_goalOf_92 : decode cX4_goalOf 92 = .ok (.iconst 3, 1) := wn_at gdX4_goalOf_74 9 rfl
theorem gdX4_goalOf_93 : ∀ e ∈ ([(93, .if_icmp .ne 18, 3), (96, .aload_n 0, 1), (97, .aload_n 2, 1), (98, .aload_n 1, 1), (99, .iload_n 3, 1), (100, .iload 6, 2), (102, .invokevirtual 40, 3), (105, .invokevirtual 36, 3), (108, .goto 51, 3), (111, .iload 5, 2)] : List (Nat × Instr × Nat)), decode cX4_goalOf e.1 = .ok e.2 := wn_all _ 93 (by decide +kernel)
theorem dX4_goalOf_93 : decode cX4_goalOf 93 = .ok (.if_icmp .ne 18, 3) := wn_at gdX4_goalOf_93 0 rfl
theorem dX4_goalOf_96 : decode cX4_goalOf 96 = .ok (.aload_n 0, 1) := wn_at gdX4_goalOf_93 1 rfl
theorem dX4_goalOf_97 : decode cX4_goalOf 97 = .ok (.aload_n 2, 1) := wn_at gdX4_goalOf_93 2 rfl
theorem dX4_goalOf_98 : decode cX4_goalOf 98 = .ok (.aload_n 1, 1) := wn_at gdX4_goalOf_93 3 rfl
theorem dX4_goalOf_99 : decode cX4_goalOf 99 = .ok (.iload_n 3, 1) := wn_at gdX4_goalOf_93 4 rfl
theorem dX4_goalOf_100 : decode cX4_goalOf 100 = .ok (.iload 6, 2) := wn_at gdX4_goalOf_93 5 rfl
theorem dX4_goalOf_102 : decode cX4_goalOf 102 = .ok (.invokevirtual 40, 3) := wn_at gdX4_goalOf_93 6 rfl
theorem dX4_goalOf_105 : decode cX4_goalOf 105 = .ok (.invokevirtual 36, 3) := wn_at gdX4_goalOf_93 7 rfl
theorem dX4_goalOf_108 : decode cX4_goalOf 108 = .ok (.goto 51, 3) := wn_at gdX4_goalOf_93 8 rfl
theorem dX4_goalOf_111 : decode cX4_goalOf 111 = .ok (.iload 5, 2) := wn_at gdX4_goalOf_93 9 rfl
theorem gdX4_goalOf_113 : ∀ e ∈ ([(113, .iconst 4, 1), (114, .if_icmp .ne 24, 3), (117, .aload_n 0, 1), (118, .aload_n 0, 1), (119, .invokevirtual 32, 3), (122, .lconst 0, 1), (123, .lcmp, 1), (124, .ifCond .ne 7, 3), (127, .lconst 1, 1), (128, .goto 4, 3)] : List (Nat × Instr × Nat)), decode cX4_goalOf e.1 = .ok e.2 := wn_all _ 113 (by decide +kernel)
theorem dX4_goalOf_113 : decode cX4_goalOf 113 = .ok (.iconst 4, 1) := wn_at gdX4_goalOf_113 0 rfl
theorem dX4_goalOf_114 : decode cX4_goalOf 114 = .ok (.if_icmp .ne 24, 3) := wn_at gdX4_goalOf_113 1 rfl
theorem dX4_goalOf_117 : decode cX4_goalOf 117 = .ok (.aload_n 0, 1) := wn_at gdX4_goalOf_113 2 rfl
theorem dX4_goalOf_118 : decode cX4_goalOf 118 = .ok (.aload_n 0, 1) := wn_at gdX4_goalOf_113 3 rfl
theorem dX4_goalOf_119 : decode cX4_goalOf 119 = .ok (.invokevirtual 32, 3) := wn_at gdX4_goalOf_113 4 rfl
theorem dX4_goalOf_122 : decode cX4_goalOf 122 = .ok (.lconst 0, 1) := wn_at gdX4_goalOf_113 5 rfl
theorem dX4_goalOf_123 : decode cX4_goalOf 123 = .ok (.lcmp, 1) := wn_at gdX4_goalOf_113 6 rfl
theorem dX4_goalOf_124 : decode cX4_goalOf 124 = .ok (.ifCond .ne 7, 3) := wn_at gdX4_goalOf_113 7 rfl
theorem dX4_goalOf_127 : decode cX4_goalOf 127 = .ok (.lconst 1, 1) := wn_at gdX4_goalOf_113 8 rfl
theorem dX4_goalOf_128 : decode cX4_goalOf 128 = .ok (.goto 4, 3) := wn_at gdX4_goalOf_113 9 rfl
theorem gdX4_goalOf_131 : ∀ e ∈ ([(131, .lconst 0, 1), (132, .invokevirtual 36, 3), (135, .goto 24, 3), (138, .aload_n 0, 1), (139, .invokevirtual 32, 3), (142, .lstore 7, 2), (144, .aload_n 0, 1), (145, .iload 5, 2), (147, .aload_n 0, 1), (148, .invokevirtual 32, 3)] : List (Nat × Instr × Nat)), decode cX4_goalOf e.1 = .ok e.2 := wn_all _ 131 (by decide +kernel)
theorem dX4_goalOf_131 : decode cX4_goalOf 131 = .ok (.lconst 0, 1) := wn_at gdX4_goalOf_131 0 rfl
theorem dX4_goalOf_132 : decode cX4_goalOf 132 = .ok (.invokevirtual 36, 3) := wn_at gdX4_goalOf_131 1 rfl
theorem dX4_goalOf_135 : decode cX4_goalOf 135 = .ok (.goto 24, 3) := wn_at gdX4_goalOf_131 2 rfl
theorem dX4_goalOf_138 : decode cX4_goalOf 138 = .ok (.aload_n 0, 1) := wn_at gdX4_goalOf_131 3 rfl
theorem dX4_goalOf_139 : decode cX4_goalOf 139 = .ok (.invokevirtual 32, 3) := wn_at gdX4_goalOf_131 4 rfl
theorem dX4_goalOf_142 : decode cX4_goalOf 142 = .ok (.lstore 7, 2) := wn_at gdX4_goalOf_131 5 rfl
theorem dX4_goalOf_144 : decode cX4_goalOf 144 = .ok (.aload_n 0, 1) := wn_at gdX4_goalOf_131 6 rfl
theorem dX4_goalOf_145 : decode cX4_goalOf 145 = .ok (.iload 5, 2) := wn_at gdX4_goalOf_131 7 rfl
theorem dX4_goalOf_147 : decode cX4_goalOf 147 = .ok (.aload_n 0, 1) := wn_at gdX4_goalOf_131 8 rfl
theorem dX4_goalOf_148 : decode cX4_goalOf 148 = .ok (.invokevirtual 32, 3) := wn_at gdX4_goalOf_131 9 rfl
theorem gdX4_goalOf_151 : ∀ e ∈ ([(151, .lload 7, 2), (153, .invokestatic 46, 3), (156, .invokevirtual 36, 3), (159, .iinc 4 1, 3), (162, .goto (-154), 3), (165, .iconst (-1), 1), (166, .ireturn, 1)] : List (Nat × Instr × Nat)), decode cX4_goalOf e.1 = .ok e.2 := wn_all _ 151 (by decide +kernel)
theorem dX4_goalOf_151 : decode cX4_goalOf 151 = .ok (.lload 7, 2) := wn_at gdX4_goalOf_151 0 rfl
theorem dX4_goalOf_153 : decode cX4_goalOf 153 = .ok (.invokestatic 46, 3) := wn_at gdX4_goalOf_151 1 rfl
theorem dX4_goalOf_156 : decode cX4_goalOf 156 = .ok (.invokevirtual 36, 3) := wn_at gdX4_goalOf_151 2 rfl
theorem dX4_goalOf_159 : decode cX4_goalOf 159 = .ok (.iinc 4 1, 3) := wn_at gdX4_goalOf_151 3 rfl
theorem dX4_goalOf_162 : decode cX4_goalOf 162 = .ok (.goto (-154), 3) := wn_at gdX4_goalOf_151 4 rfl
theorem dX4_goalOf_165 : decode cX4_goalOf 165 = .ok (.iconst (-1), 1) := wn_at gdX4_goalOf_151 5 rfl
theorem dX4_goalOf_166 : decode cX4_goalOf 166 = .ok (.ireturn, 1) := wn_at gdX4_goalOf_151 6 rfl
theorem gdX4_push_0 : ∀ e ∈ ([(0, .aload_n 0, 1), (1, .getfield 23, 3), (4, .ifCond .lt 32, 3), (7, .aload_n 0, 1), (8, .getfield 23, 3), (11, .bipush 60, 2), (13, .if_icmp .ge 23, 3), (16, .aload_n 0, 1), (17, .getfield 15, 3), (20, .aload_n 0, 1)] : List (Nat × Instr × Nat)), decode cX4_push e.1 = .ok e.2 := wn_all _ 0 (by decide +kernel)
theorem dX4_push_0 : decode cX4_push 0 = .ok (.aload_n 0, 1) := wn_at gdX4_push_0 0 rfl
theorem dX4_push_1 : decode cX4_push 1 = .ok (.getfield 23, 3) := wn_at gdX4_push_0 1 rfl
theorem dX4_push_4 : decode cX4_push 4 = .ok (.ifCond .lt 32, 3) := wn_at gdX4_push_0 2 rfl
theorem dX4_push_7 : decode cX4_push 7 = .ok (.aload_n 0, 1) := wn_at gdX4_push_0 3 rfl
theorem dX4_push_8 : decode cX4_push 8 = .ok (.getfield 23, 3) := wn_at gdX4_push_0 4 rfl
theorem dX4_push_11 : decode cX4_push 11 = .ok (.bipush 60, 2) := wn_at gdX4_push_0 5 rfl
theorem dX4_push_13 : decode cX4_push 13 = .ok (.if_icmp .ge 23, 3) := wn_at gdX4_push_0 6 rfl
theorem dX4_push_16 : decode cX4_push 16 = .ok (.aload_n 0, 1) := wn_at gdX4_push_0 7 rfl
theorem dX4_push_17 : decode cX4_push 17 = .ok (.getfield 15, 3) := wn_at gdX4_push_0 8 rfl
theorem dX4_push_20 : decode cX4_push 20 = .ok (.aload_n 0, 1) := wn_at gdX4_push_0 9 rfl
theorem gdX4_push_21 : ∀ e ∈ ([(21, .getfield 23, 3), (24, .lload_n 1, 1), (25, .lastore, 1), (26, .aload_n 0, 1), (27, .dup, 1), (28, .getfield 23, 3), (31, .iconst 1, 1), (32, .iadd, 1), (33, .putfield 23, 3), (36, .return_, 1)] : List (Nat × Instr × Nat)), decode cX4_push e.1 = .ok e.2 := wn_all _ 21 (by decide +kernel)
theorem dX4_push_21 : decode cX4_push 21 = .ok (.getfield 23, 3) := wn_at gdX4_push_21 0 rfl
theorem dX4_push_24 : decode cX4_push 24 = .ok (.lload_n 1, 1) := wn_at gdX4_push_21 1 rfl
theorem dX4_push_25 : decode cX4_push 25 = .ok (.lastore, 1) := wn_at gdX4_push_21 2 rfl
theorem dX4_push_26 : decode cX4_push 26 = .ok (.aload_n 0, 1) := wn_at gdX4_push_21 3 rfl
theorem dX4_push_27 : decode cX4_push 27 = .ok (.dup, 1) := wn_at gdX4_push_21 4 rfl
theorem dX4_push_28 : decode cX4_push 28 = .ok (.getfield 23, 3) := wn_at gdX4_push_21 5 rfl
theorem dX4_push_31 : decode cX4_push 31 = .ok (.iconst 1, 1) := wn_at gdX4_push_21 6 rfl
theorem dX4_push_32 : decode cX4_push 32 = .ok (.iadd, 1) := wn_at gdX4_push_21 7 rfl
theorem dX4_push_33 : decode cX4_push 33 = .ok (.putfield 23, 3) := wn_at gdX4_push_21 8 rfl
theorem dX4_push_36 : decode cX4_push 36 = .ok (.return_, 1) := wn_at gdX4_push_21 9 rfl
theorem gdX4_pop_0 : ∀ e ∈ ([(0, .aload_n 0, 1), (1, .getfield 23, 3), (4, .ifCond .le 12, 3), (7, .aload_n 0, 1), (8, .getfield 23, 3), (11, .bipush 60, 2), (13, .if_icmp .le 5, 3), (16, .lconst 0, 1), (17, .lreturn, 1), (18, .aload_n 0, 1)] : List (Nat × Instr × Nat)), decode cX4_pop e.1 = .ok e.2 := wn_all _ 0 (by decide +kernel)
theorem dX4_pop_0 : decode cX4_pop 0 = .ok (.aload_n 0, 1) := wn_at gdX4_pop_0 0 rfl
theorem dX4_pop_1 : decode cX4_pop 1 = .ok (.getfield 23, 3) := wn_at gdX4_pop_0 1 rfl
theorem dX4_pop_4 : decode cX4_pop 4 = .ok (.ifCond .le 12, 3) := wn_at gdX4_pop_0 2 rfl
theorem dX4_pop_7 : decode cX4_pop 7 = .ok (.aload_n 0, 1) := wn_at gdX4_pop_0 3 rfl
theorem dX4_pop_8 : decode cX4_pop 8 = .ok (.getfield 23, 3) := wn_at gdX4_pop_0 4 rfl
theorem dX4_pop_11 : decode cX4_pop 11 = .ok (.bipush 60, 2) := wn_at gdX4_pop_0 5 rfl
theorem dX4_pop_13 : decode cX4_pop 13 = .ok (.if_icmp .le 5, 3) := wn_at gdX4_pop_0 6 rfl
theorem dX4_pop_16 : decode cX4_pop 16 = .ok (.lconst 0, 1) := wn_at gdX4_pop_0 7 rfl
theorem dX4_pop_17 : decode cX4_pop 17 = .ok (.lreturn, 1) := wn_at gdX4_pop_0 8 rfl
theorem dX4_pop_18 : decode cX4_pop 18 = .ok (.aload_n 0, 1) := wn_at gdX4_pop_0 9 rfl
theorem gdX4_pop_19 : ∀ e ∈ ([(19, .dup, 1), (20, .getfield 23, 3), (23, .iconst 1, 1), (24, .isub, 1), (25, .putfield 23, 3), (28, .aload_n 0, 1), (29, .getfield 15, 3), (32, .aload_n 0, 1), (33, .getfield 23, 3), (36, .laload, 1)] : List (Nat × Instr × Nat)), decode cX4_pop e.1 = .ok e.2 := wn_all _ 19 (by decide +kernel)
theorem dX4_pop_19 : decode cX4_pop 19 = .ok (.dup, 1) := wn_at gdX4_pop_19 0 rfl
theorem dX4_pop_20 : decode cX4_pop 20 = .ok (.getfield 23, 3) := wn_at gdX4_pop_19 1 rfl
theorem dX4_pop_23 : decode cX4_pop 23 = .ok (.iconst 1, 1) := wn_at gdX4_pop_19 2 rfl
theorem dX4_pop_24 : decode cX4_pop 24 = .ok (.isub, 1) := wn_at gdX4_pop_19 3 rfl
theorem dX4_pop_25 : decode cX4_pop 25 = .ok (.putfield 23, 3) := wn_at gdX4_pop_19 4 rfl
theorem dX4_pop_28 : decode cX4_pop 28 = .ok (.aload_n 0, 1) := wn_at gdX4_pop_19 5 rfl
theorem dX4_pop_29 : decode cX4_pop 29 = .ok (.getfield 15, 3) := wn_at gdX4_pop_19 6 rfl
theorem dX4_pop_32 : decode cX4_pop 32 = .ok (.aload_n 0, 1) := wn_at gdX4_pop_19 7 rfl
theorem dX4_pop_33 : decode cX4_pop 33 = .ok (.getfield 23, 3) := wn_at gdX4_pop_19 8 rfl
theorem dX4_pop_36 : decode cX4_pop 36 = .ok (.laload, 1) := wn_at gdX4_pop_19 9 rfl
theorem gdX4_pop_37 : ∀ e ∈ ([(37, .lreturn, 1)] : List (Nat × Instr × Nat)), decode cX4_pop e.1 = .ok e.2 := wn_all _ 37 (by decide +kernel)
theorem dX4_pop_37 : decode cX4_pop 37 = .ok (.lreturn, 1) := wn_at gdX4_pop_37 0 rfl
theorem gdX4_joined_0 : ∀ e ∈ ([(0, .iload_n 0, 1)] : List (Nat × Instr × Nat)), decode cX4_joined e.1 = .ok e.2 := wn_all _ 0 (by decide +kernel)
theorem dX4_joined_0 : decode cX4_joined 0 = .ok (.iload_n 0, 1) := wn_at gdX4_joined_0 0 rfl
theorem dX4_joined_1 : decode cX4_joined 1 = .ok (.tableswitch 57 7 10 #[31, 35, 39, 43], 31) := by decide +kernel
theorem gdX4_joined_32 : ∀ e ∈ ([(32, .lload_n 1, 1), (33, .lload_n 3, 1), (34, .ladd, 1), (35, .lreturn, 1), (36, .lload_n 1, 1), (37, .lload_n 3, 1), (38, .lsub, 1), (39, .lreturn, 1), (40, .lload_n 1, 1), (41, .lload_n 3, 1)] : List (Nat × Instr × Nat)), decode cX4_joined e.1 = .ok e.2 := wn_all _ 32 (by decide +kernel)
theorem dX4_joined_32 : decode cX4_joined 32 = .ok (.lload_n 1, 1) := wn_at gdX4_joined_32 0 rfl
theorem dX4_joined_33 : decode cX4_joined 33 = .ok (.lload_n 3, 1) := wn_at gdX4_joined_32 1 rfl
theorem dX4_joined_34 : decode cX4_joined 34 = .ok (.ladd, 1) := wn_at gdX4_joined_32 2 rfl
theorem dX4_joined_35 : decode cX4_joined 35 = .ok (.lreturn, 1) := wn_at gdX4_joined_32 3 rfl
theorem dX4_joined_36 : decode cX4_joined 36 = .ok (.lload_n 1, 1) := wn_at gdX4_joined_32 4 rfl
theorem dX4_joined_37 : decode cX4_joined 37 = .ok (.lload_n 3, 1) := wn_at gdX4_joined_32 5 rfl
theorem dX4_joined_38 : decode cX4_joined 38 = .ok (.lsub, 1) := wn_at gdX4_joined_32 6 rfl
theorem dX4_joined_39 : decode cX4_joined 39 = .ok (.lreturn, 1) := wn_at gdX4_joined_32 7 rfl
theorem dX4_joined_40 : decode cX4_joined 40 = .ok (.lload_n 1, 1) := wn_at gdX4_joined_32 8 rfl
theorem dX4_joined_41 : decode cX4_joined 41 = .ok (.lload_n 3, 1) := wn_at gdX4_joined_32 9 rfl
theorem gdX4_joined_42 : ∀ e ∈ ([(42, .lmul, 1), (43, .lreturn, 1), (44, .lload_n 3, 1), (45, .lconst 0, 1), (46, .lcmp, 1), (47, .ifCond .ne 7, 3), (50, .lconst 0, 1), (51, .goto 6, 3), (54, .lload_n 1, 1), (55, .lload_n 3, 1)] : List (Nat × Instr × Nat)), decode cX4_joined e.1 = .ok e.2 := wn_all _ 42 (by decide +kernel)
theorem dX4_joined_42 : decode cX4_joined 42 = .ok (.lmul, 1) := wn_at gdX4_joined_42 0 rfl
theorem dX4_joined_43 : decode cX4_joined 43 = .ok (.lreturn, 1) := wn_at gdX4_joined_42 1 rfl
theorem dX4_joined_44 : decode cX4_joined 44 = .ok (.lload_n 3, 1) := wn_at gdX4_joined_42 2 rfl
theorem dX4_joined_45 : decode cX4_joined 45 = .ok (.lconst 0, 1) := wn_at gdX4_joined_42 3 rfl
theorem dX4_joined_46 : decode cX4_joined 46 = .ok (.lcmp, 1) := wn_at gdX4_joined_42 4 rfl
theorem dX4_joined_47 : decode cX4_joined 47 = .ok (.ifCond .ne 7, 3) := wn_at gdX4_joined_42 5 rfl
theorem dX4_joined_50 : decode cX4_joined 50 = .ok (.lconst 0, 1) := wn_at gdX4_joined_42 6 rfl
theorem dX4_joined_51 : decode cX4_joined 51 = .ok (.goto 6, 3) := wn_at gdX4_joined_42 7 rfl
theorem dX4_joined_54 : decode cX4_joined 54 = .ok (.lload_n 1, 1) := wn_at gdX4_joined_42 8 rfl
theorem dX4_joined_55 : decode cX4_joined 55 = .ok (.lload_n 3, 1) := wn_at gdX4_joined_42 9 rfl
theorem gdX4_joined_56 : ∀ e ∈ ([(56, .ldiv, 1), (57, .lreturn, 1), (58, .iload_n 0, 1), (59, .lload_n 1, 1), (60, .lload_n 3, 1), (61, .invokestatic 50, 3), (64, .ifCond .eq 7, 3), (67, .lconst 1, 1), (68, .goto 4, 3), (71, .lconst 0, 1)] : List (Nat × Instr × Nat)), decode cX4_joined e.1 = .ok e.2 := wn_all _ 56 (by decide +kernel)
theorem dX4_joined_56 : decode cX4_joined 56 = .ok (.ldiv, 1) := wn_at gdX4_joined_56 0 rfl
theorem dX4_joined_57 : decode cX4_joined 57 = .ok (.lreturn, 1) := wn_at gdX4_joined_56 1 rfl
theorem dX4_joined_58 : decode cX4_joined 58 = .ok (.iload_n 0, 1) := wn_at gdX4_joined_56 2 rfl
theorem dX4_joined_59 : decode cX4_joined 59 = .ok (.lload_n 1, 1) := wn_at gdX4_joined_56 3 rfl
theorem dX4_joined_60 : decode cX4_joined 60 = .ok (.lload_n 3, 1) := wn_at gdX4_joined_56 4 rfl
theorem dX4_joined_61 : decode cX4_joined 61 = .ok (.invokestatic 50, 3) := wn_at gdX4_joined_56 5 rfl
theorem dX4_joined_64 : decode cX4_joined 64 = .ok (.ifCond .eq 7, 3) := wn_at gdX4_joined_56 6 rfl
theorem dX4_joined_67 : decode cX4_joined 67 = .ok (.lconst 1, 1) := wn_at gdX4_joined_56 7 rfl
theorem dX4_joined_68 : decode cX4_joined 68 = .ok (.goto 4, 3) := wn_at gdX4_joined_56 8 rfl
theorem dX4_joined_71 : decode cX4_joined 71 = .ok (.lconst 0, 1) := wn_at gdX4_joined_56 9 rfl
theorem gdX4_joined_72 : ∀ e ∈ ([(72, .lreturn, 1)] : List (Nat × Instr × Nat)), decode cX4_joined e.1 = .ok e.2 := wn_all _ 72 (by decide +kernel)
theorem dX4_joined_72 : decode cX4_joined 72 = .ok (.lreturn, 1) := wn_at gdX4_joined_72 0 rfl
theorem gdX4_isSo_0 : ∀ e ∈ ([(0, .iload_n 0, 1)] : List (Nat × Instr × Nat)), decode cX4_isSo e.1 = .ok e.2 := wn_all _ 0 (by decide +kernel)
theorem dX4_isSo_0 : decode cX4_isSo 0 = .ok (.iload_n 0, 1) := wn_at gdX4_isSo_0 0 rfl
theorem dX4_isSo_1 : decode cX4_isSo 1 = .ok (.tableswitch 139 5 14 #[55, 73, 139, 139, 139, 139, 91, 103, 115, 127], 55) := by decide +kernel
theorem gdX4_isSo_56 : ∀ e ∈ ([(56, .lload_n 1, 1), (57, .lconst 0, 1), (58, .lcmp, 1), (59, .ifCond .eq 13, 3), (62, .lload_n 3, 1), (63, .lconst 0, 1), (64, .lcmp, 1), (65, .ifCond .eq 7, 3), (68, .iconst 1, 1), (69, .goto 4, 3)] : List (Nat × Instr × Nat)), decode cX4_isSo e.1 = .ok e.2 := wn_all _ 56 (by decide +kernel)
theorem dX4_isSo_56 : decode cX4_isSo 56 = .ok (.lload_n 1, 1) := wn_at gdX4_isSo_56 0 rfl
theorem dX4_isSo_57 : decode cX4_isSo 57 = .ok (.lconst 0, 1) := wn_at gdX4_isSo_56 1 rfl
theorem dX4_isSo_58 : decode cX4_isSo 58 = .ok (.lcmp, 1) := wn_at gdX4_isSo_56 2 rfl
theorem dX4_isSo_59 : decode cX4_isSo 59 = .ok (.ifCond .eq 13, 3) := wn_at gdX4_isSo_56 3 rfl
theorem dX4_isSo_62 : decode cX4_isSo 62 = .ok (.lload_n 3, 1) := wn_at gdX4_isSo_56 4 rfl
theorem dX4_isSo_63 : decode cX4_isSo 63 = .ok (.lconst 0, 1) := wn_at gdX4_isSo_56 5 rfl
theorem dX4_isSo_64 : decode cX4_isSo 64 = .ok (.lcmp, 1) := wn_at gdX4_isSo_56 6 rfl
theorem dX4_isSo_65 : decode cX4_isSo 65 = .ok (.ifCond .eq 7, 3) := wn_at gdX4_isSo_56 7 rfl
theorem dX4_isSo_68 : decode cX4_isSo 68 = .ok (.iconst 1, 1) := wn_at gdX4_isSo_56 8 rfl
theorem dX4_isSo_69 : decode cX4_isSo 69 = .ok (.goto 4, 3) := wn_at gdX4_isSo_56 9 rfl
theorem gdX4_isSo_72 : ∀ e ∈ ([(72, .iconst 0, 1), (73, .ireturn, 1), (74, .lload_n 1, 1), (75, .lconst 0, 1), (76, .lcmp, 1), (77, .ifCond .ne 9, 3), (80, .lload_n 3, 1), (81, .lconst 0, 1), (82, .lcmp, 1), (83, .ifCond .eq 7, 3)] : List (Nat × Instr × Nat)), decode cX4_isSo e.1 = .ok e.2 := wn_all _ 72 (by decide +kernel)
theorem dX4_isSo_72 : decode cX4_isSo 72 = .ok (.iconst 0, 1) := wn_at gdX4_isSo_72 0 rfl
theorem dX4_isSo_73 : decode cX4_isSo 73 = .ok (.ireturn, 1) := wn_at gdX4_isSo_72 1 rfl
theorem dX4_isSo_74 : decode cX4_isSo 74 = .ok (.lload_n 1, 1) := wn_at gdX4_isSo_72 2 rfl
theorem dX4_isSo_75 : decode cX4_isSo 75 = .ok (.lconst 0, 1) := wn_at gdX4_isSo_72 3 rfl
theorem dX4_isSo_76 : decode cX4_isSo 76 = .ok (.lcmp, 1) := wn_at gdX4_isSo_72 4 rfl
theorem dX4_isSo_77 : decode cX4_isSo 77 = .ok (.ifCond .ne 9, 3) := wn_at gdX4_isSo_72 5 rfl
theorem dX4_isSo_80 : decode cX4_isSo 80 = .ok (.lload_n 3, 1) := wn_at gdX4_isSo_72 6 rfl
theorem dX4_isSo_81 : decode cX4_isSo 81 = .ok (.lconst 0, 1) := wn_at gdX4_isSo_72 7 rfl
theorem dX4_isSo_82 : decode cX4_isSo 82 = .ok (.lcmp, 1) := wn_at gdX4_isSo_72 8 rfl
theorem dX4_isSo_83 : decode cX4_isSo 83 = .ok (.ifCond .eq 7, 3) := wn_at gdX4_isSo_72 9 rfl
theorem gdX4_isSo_86 : ∀ e ∈ ([(86, .iconst 1, 1), (87, .goto 4, 3), (90, .iconst 0, 1), (91, .ireturn, 1), (92, .lload_n 1, 1), (93, .lload_n 3, 1), (94, .lcmp, 1), (95, .ifCond .ge 7, 3), (98, .iconst 1, 1), (99, .goto 4, 3)] : List (Nat × Instr × Nat)), decode cX4_isSo e.1 = .ok e.2 := wn_all _ 86 (by decide +kernel)
theorem dX4_isSo_86 : decode cX4_isSo 86 = .ok (.iconst 1, 1) := wn_at gdX4_isSo_86 0 rfl
theorem dX4_isSo_87 : decode cX4_isSo 87 = .ok (.goto 4, 3) := wn_at gdX4_isSo_86 1 rfl
theorem dX4_isSo_90 : decode cX4_isSo 90 = .ok (.iconst 0, 1) := wn_at gdX4_isSo_86 2 rfl
theorem dX4_isSo_91 : decode cX4_isSo 91 = .ok (.ireturn, 1) := wn_at gdX4_isSo_86 3 rfl
theorem dX4_isSo_92 : decode cX4_isSo 92 = .ok (.lload_n 1, 1) := wn_at gdX4_isSo_86 4 rfl
theorem dX4_isSo_93 : decode cX4_isSo 93 = .ok (.lload_n 3, 1) := wn_at gdX4_isSo_86 5 rfl
theorem dX4_isSo_94 : decode cX4_isSo 94 = .ok (.lcmp, 1) := wn_at gdX4_isSo_86 6 rfl
theorem dX4_isSo_95 : decode cX4_isSo 95 = .ok (.ifCond .ge 7, 3) := wn_at gdX4_isSo_86 7 rfl
theorem dX4_isSo_98 : decode cX4_isSo 98 = .ok (.iconst 1, 1) := wn_at gdX4_isSo_86 8 rfl
theorem dX4_isSo_99 : decode cX4_isSo 99 = .ok (.goto 4, 3) := wn_at gdX4_isSo_86 9 rfl
theorem gdX4_isSo_102 : ∀ e ∈ ([(102, .iconst 0, 1), (103, .ireturn, 1), (104, .lload_n 1, 1), (105, .lload_n 3, 1), (106, .lcmp, 1), (107, .ifCond .gt 7, 3), (110, .iconst 1, 1), (111, .goto 4, 3), (114, .iconst 0, 1), (115, .ireturn, 1)] : List (Nat × Instr × Nat)), decode cX4_isSo e.1 = .ok e.2 := wn_all _ 102 (by decide +kernel)
theorem dX4_isSo_102 : decode cX4_isSo 102 = .ok (.iconst 0, 1) := wn_at gdX4_isSo_102 0 rfl
theorem dX4_isSo_103 : decode cX4_isSo 103 = .ok (.ireturn, 1) := wn_at gdX4_isSo_102 1 rfl
theorem dX4_isSo_104 : decode cX4_isSo 104 = .ok (.lload_n 1, 1) := wn_at gdX4_isSo_102 2 rfl
theorem dX4_isSo_105 : decode cX4_isSo 105 = .ok (.lload_n 3, 1) := wn_at gdX4_isSo_102 3 rfl
theorem dX4_isSo_106 : decode cX4_isSo 106 = .ok (.lcmp, 1) := wn_at gdX4_isSo_102 4 rfl
theorem dX4_isSo_107 : decode cX4_isSo 107 = .ok (.ifCond .gt 7, 3) := wn_at gdX4_isSo_102 5 rfl
theorem dX4_isSo_110 : decode cX4_isSo 110 = .ok (.iconst 1, 1) := wn_at gdX4_isSo_102 6 rfl
theorem dX4_isSo_111 : decode cX4_isSo 111 = .ok (.goto 4, 3) := wn_at gdX4_isSo_102 7 rfl
theorem dX4_isSo_114 : decode cX4_isSo 114 = .ok (.iconst 0, 1) := wn_at gdX4_isSo_102 8 rfl
theorem dX4_isSo_115 : decode cX4_isSo 115 = .ok (.ireturn, 1) := wn_at gdX4_isSo_102 9 rfl
theorem gdX4_isSo_116 : ∀ e ∈ ([(116, .lload_n 1, 1), (117, .lload_n 3, 1), (118, .lcmp, 1), (119, .ifCond .ne 7, 3), (122, .iconst 1, 1), (123, .goto 4, 3), (126, .iconst 0, 1), (127, .ireturn, 1), (128, .lload_n 1, 1), (129, .lload_n 3, 1)] : List (Nat × Instr × Nat)), decode cX4_isSo e.1 = .ok e.2 := wn_all _ 116 (by decide +kernel)
theorem dX4_isSo_116 : decode cX4_isSo 116 = .ok (.lload_n 1, 1) := wn_at gdX4_isSo_116 0 rfl
theorem dX4_isSo_117 : decode cX4_isSo 117 = .ok (.lload_n 3, 1) := wn_at gdX4_isSo_116 1 rfl
theorem dX4_isSo_118 : decode cX4_isSo 118 = .ok (.lcmp, 1) := wn_at gdX4_isSo_116 2 rfl
theorem dX4_isSo_119 : decode cX4_isSo 119 = .ok (.ifCond .ne 7, 3) := wn_at gdX4_isSo_116 3 rfl
theorem dX4_isSo_122 : decode cX4_isSo 122 = .ok (.iconst 1, 1) := wn_at gdX4_isSo_116 4 rfl
theorem dX4_isSo_123 : decode cX4_isSo 123 = .ok (.goto 4, 3) := wn_at gdX4_isSo_116 5 rfl
theorem dX4_isSo_126 : decode cX4_isSo 126 = .ok (.iconst 0, 1) := wn_at gdX4_isSo_116 6 rfl
theorem dX4_isSo_127 : decode cX4_isSo 127 = .ok (.ireturn, 1) := wn_at gdX4_isSo_116 7 rfl
theorem dX4_isSo_128 : decode cX4_isSo 128 = .ok (.lload_n 1, 1) := wn_at gdX4_isSo_116 8 rfl
theorem dX4_isSo_129 : decode cX4_isSo 129 = .ok (.lload_n 3, 1) := wn_at gdX4_isSo_116 9 rfl
theorem gdX4_isSo_130 : ∀ e ∈ ([(130, .lcmp, 1), (131, .ifCond .lt 7, 3), (134, .iconst 1, 1), (135, .goto 4, 3), (138, .iconst 0, 1), (139, .ireturn, 1), (140, .lload_n 1, 1), (141, .lload_n 3, 1), (142, .lcmp, 1), (143, .ifCond .le 7, 3)] : List (Nat × Instr × Nat)), decode cX4_isSo e.1 = .ok e.2 := wn_all _ 130 (by decide +kernel)
theorem dX4_isSo_130 : decode cX4_isSo 130 = .ok (.lcmp, 1) := wn_at gdX4_isSo_130 0 rfl
theorem dX4_isSo_131 : decode cX4_isSo 131 = .ok (.ifCond .lt 7, 3) := wn_at gdX4_isSo_130 1 rfl
theorem dX4_isSo_134 : decode cX4_isSo 134 = .ok (.iconst 1, 1) := wn_at gdX4_isSo_130 2 rfl
theorem dX4_isSo_135 : decode cX4_isSo 135 = .ok (.goto 4, 3) := wn_at gdX4_isSo_130 3 rfl
theorem dX4_isSo_138 : decode cX4_isSo 138 = .ok (.iconst 0, 1) := wn_at gdX4_isSo_130 4 rfl
theorem dX4_isSo_139 : decode cX4_isSo 139 = .ok (.ireturn, 1) := wn_at gdX4_isSo_130 5 rfl
theorem dX4_isSo_140 : decode cX4_isSo 140 = .ok (.lload_n 1, 1) := wn_at gdX4_isSo_130 6 rfl
theorem dX4_isSo_141 : decode cX4_isSo 141 = .ok (.lload_n 3, 1) := wn_at gdX4_isSo_130 7 rfl
theorem dX4_isSo_142 : decode cX4_isSo 142 = .ok (.lcmp, 1) := wn_at gdX4_isSo_130 8 rfl
theorem dX4_isSo_143 : decode cX4_isSo 143 = .ok (.ifCond .le 7, 3) := wn_at gdX4_isSo_130 9 rfl
theorem gdX4_isSo_146 : ∀ e ∈ ([(146, .iconst 1, 1), (147, .goto 4, 3), (150, .iconst 0, 1), (151, .ireturn, 1)] : List (Nat × Instr × Nat)), decode cX4_isSo e.1 = .ok e.2 := wn_all _ 146 (by decide +kernel)
theorem dX4_isSo_146 : decode cX4_isSo 146 = .ok (.iconst 1, 1) := wn_at gdX4_isSo_146 0 rfl
theorem dX4_isSo_147 : decode cX4_isSo 147 = .ok (.goto 4, 3) := wn_at gdX4_isSo_146 1 rfl
theorem dX4_isSo_150 : decode cX4_isSo 150 = .ok (.iconst 0, 1) := wn_at gdX4_isSo_146 2 rfl
theorem dX4_isSo_151 : decode cX4_isSo 151 = .ok (.ireturn, 1) := wn_at gdX4_isSo_146 3 rfl
theorem gdX5_init_0 : ∀ e ∈ ([(0, .aload_n 0, 1), (1, .invokespecial 3, 3), (4, .aload_n 0, 1), (5, .bipush 64, 2), (7, .newarray .int, 2), (9, .putfield 9, 3), (12, .aload_n 0, 1), (13, .new 15, 3), (16, .dup, 1), (17, .invokespecial 17, 3)] : List (Nat × Instr × Nat)), decode cX5_init e.1 = .ok e.2 := wn_all _ 0 (by decide +kernel)
theorem dX5_init_0 : decode cX5_init 0 = .ok (.aload_n 0, 1) := wn_at gdX5_init_0 0 rfl
theorem dX5_init_1 : decode cX5_init 1 = .ok (.invokespecial 3, 3) := wn_at gdX5_init_0 1 rfl
theorem dX5_init_4 : decode cX5_init 4 = .ok (.aload_n 0, 1) := wn_at gdX5_init_0 2 rfl
theorem dX5_init_5 : decode cX5_init 5 = .ok (.bipush 64, 2) := wn_at gdX5_init_0 3 rfl
theorem dX5_init_7 : decode cX5_init 7 = .ok (.newarray .int, 2) := wn_at gdX5_init_0 4 rfl
theorem dX5_init_9 : decode cX5_init 9 = .ok (.putfield 9, 3) := wn_at gdX5_init_0 5 rfl
theorem dX5_init_12 : decode cX5_init 12 = .ok (.aload_n 0, 1) := wn_at gdX5_init_0 6 rfl
theorem dX5_init_13 : decode cX5_init 13 = .ok (.new 15, 3) := wn_at gdX5_init_0 7 rfl
theorem dX5_init_16 : decode cX5_init 16 = .ok (.dup, 1) := wn_at gdX5_init_0 8 rfl
theorem dX5_init_17 : decode cX5_init 17 = .ok (.invokespecial 17, 3) := wn_at gdX5_init_0 9 rfl
theorem gdX5_init_20 : ∀ e ∈ ([(20, .putfield 18, 3), (23, .aload_n 0, 1), (24, .iconst 0, 1), (25, .putfield 22, 3), (28, .aload_n 0, 1), (29, .iconst 0, 1), (30, .putfield 26, 3), (33, .aload_n 0, 1), (34, .iconst 0, 1), (35, .putfield 29, 3)] : List (Nat × Instr × Nat)), decode cX5_init e.1 = .ok e.2 := wn_all _ 20 (by decide +kernel)
theorem dX5_init_20 : decode cX5_init 20 = .ok (.putfield 18, 3) := wn_at gdX5_init_20 0 rfl
theorem dX5_init_23 : decode cX5_init 23 = .ok (.aload_n 0, 1) := wn_at gdX5_init_20 1 rfl
theorem dX5_init_24 : decode cX5_init 24 = .ok (.iconst 0, 1) := wn_at gdX5_init_20 2 rfl
theorem dX5_init_25 : decode cX5_init 25 = .ok (.putfield 22, 3) := wn_at gdX5_init_20 3 rfl
theorem dX5_init_28 : decode cX5_init 28 = .ok (.aload_n 0, 1) := wn_at gdX5_init_20 4 rfl
theorem dX5_init_29 : decode cX5_init 29 = .ok (.iconst 0, 1) := wn_at gdX5_init_20 5 rfl
theorem dX5_init_30 : decode cX5_init 30 = .ok (.putfield 26, 3) := wn_at gdX5_init_20 6 rfl
theorem dX5_init_33 : decode cX5_init 33 = .ok (.aload_n 0, 1) := wn_at gdX5_init_20 7 rfl
theorem dX5_init_34 : decode cX5_init 34 = .ok (.iconst 0, 1) := wn_at gdX5_init_20 8 rfl
theorem dX5_init_35 : decode cX5_init 35 = .ok (.putfield 29, 3) := wn_at gdX5_init_20 9 rfl
theorem gdX5_init_38 : ∀ e ∈ ([(38, .aload_n 0, 1), (39, .iconst 0, 1), (40, .putfield 32, 3), (43, .aload_n 0, 1), (44, .aload_n 1, 1), (45, .putfield 35, 3), (48, .return_, 1)] : List (Nat × Instr × Nat)), decode cX5_init e.1 = .ok e.2 := wn_all _ 38 (by decide +kernel)
theorem dX5_init_38 : decode cX5_init 38 = .ok (.aload_n 0, 1) := wn_at gdX5_init_38 0 rfl
theorem dX5_init_39 : decode cX5_init 39 = .ok (.iconst 0, 1) := wn_at gdX5_init_38 1 rfl
theorem dX5_init_40 : decode cX5_init 40 = .ok (.putfield 32, 3) := wn_at gdX5_init_38 2 rfl
theorem dX5_init_43 : decode cX5_init 43 = .ok (.aload_n 0, 1) := wn_at gdX5_init_38 3 rfl
theorem dX5_init_44 : decode cX5_init 44 = .ok (.aload_n 1, 1) := wn_at gdX5_init_38 4 rfl
theorem dX5_init_45 : decode cX5_init 45 = .ok (.putfield 35, 3) := wn_at gdX5_init_38 5 rfl
theorem dX5_init_48 : decode cX5_init 48 = .ok (.return_, 1) := wn_at gdX5_init_38 6 rfl
theorem gdX5_read_0 : ∀ e ∈ ([(0, .aload_n 0, 1), (1, .getfield 18, 3), (4, .iconst 0, 1), (5, .putfield 39, 3), (8, .aload_n 0, 1), (9, .iconst 0, 1), (10, .putfield 22, 3), (13, .aload_n 0, 1), (14, .getfield 35, 3), (17, .invokevirtual 42, 3)] : List (Nat × Instr × Nat)), decode cX5_read e.1 = .ok e.2 := wn_all _ 0 (by decide +kernel)
theorem dX5_read_0 : decode cX5_read 0 = .ok (.aload_n 0, 1) := wn_at gdX5_read_0 0 rfl
theorem dX5_read_1 : decode cX5_read 1 = .ok (.getfield 18, 3) := wn_at gdX5_read_0 1 rfl
theorem dX5_read_4 : decode cX5_read 4 = .ok (.iconst 0, 1) := wn_at gdX5_read_0 2 rfl
theorem dX5_read_5 : decode cX5_read 5 = .ok (.putfield 39, 3) := wn_at gdX5_read_0 3 rfl
theorem dX5_read_8 : decode cX5_read 8 = .ok (.aload_n 0, 1) := wn_at gdX5_read_0 4 rfl
theorem dX5_read_9 : decode cX5_read 9 = .ok (.iconst 0, 1) := wn_at gdX5_read_0 5 rfl
theorem dX5_read_10 : decode cX5_read 10 = .ok (.putfield 22, 3) := wn_at gdX5_read_0 6 rfl
theorem dX5_read_13 : decode cX5_read 13 = .ok (.aload_n 0, 1) := wn_at gdX5_read_0 7 rfl
theorem dX5_read_14 : decode cX5_read 14 = .ok (.getfield 35, 3) := wn_at gdX5_read_0 8 rfl
theorem dX5_read_17 : decode cX5_read 17 = .ok (.invokevirtual 42, 3) := wn_at gdX5_read_0 9 rfl
theorem gdX5_read_20 : ∀ e ∈ ([(20, .iconst 0, 1), (21, .istore_n 1, 1), (22, .iload_n 1, 1), (23, .bipush 12, 2), (25, .if_icmp .gt 59, 3), (28, .aload_n 0, 1), (29, .iload_n 1, 1), (30, .invokevirtual 47, 3), (33, .ifCond .ne 5, 3), (36, .iconst 0, 1)] : List (Nat × Instr × Nat)), decode cX5_read e.1 = .ok e.2 := wn_all _ 20 (by decide +kernel)
theorem dX5_read_20 : decode cX5_read 20 = .ok (.iconst 0, 1) := wn_at gdX5_read_20 0 rfl
theorem dX5_read_21 : decode cX5_read 21 = .ok (.istore_n 1, 1) := wn_at gdX5_read_20 1 rfl
theorem dX5_read_22 : decode cX5_read 22 = .ok (.iload_n 1, 1) := wn_at gdX5_read_20 2 rfl
theorem dX5_read_23 : decode cX5_read 23 = .ok (.bipush 12, 2) := wn_at gdX5_read_20 3 rfl
theorem dX5_read_25 : decode cX5_read 25 = .ok (.if_icmp .gt 59, 3) := wn_at gdX5_read_20 4 rfl
theorem dX5_read_28 : decode cX5_read 28 = .ok (.aload_n 0, 1) := wn_at gdX5_read_20 5 rfl
theorem dX5_read_29 : decode cX5_read 29 = .ok (.iload_n 1, 1) := wn_at gdX5_read_20 6 rfl
theorem dX5_read_30 : decode cX5_read 30 = .ok (.invokevirtual 47, 3) := wn_at gdX5_read_20 7 rfl
theorem dX5_read_33 : decode cX5_read 33 = .ok (.ifCond .ne 5, 3) := wn_at gdX5_read_20 8 rfl
theorem dX5_read_36 : decode cX5_read 36 = .ok (.iconst 0, 1) := wn_at gdX5_read_20 9 rfl
theorem gdX5_read_37 : ∀ e ∈ ([(37, .ireturn, 1), (38, .aload_n 0, 1), (39, .getfield 35, 3), (42, .invokevirtual 51, 3), (45, .ifCond .eq 5, 3), (48, .iconst 1, 1), (49, .ireturn, 1), (50, .aload_n 0, 1), (51, .getfield 35, 3), (54, .bipush 59, 2)] : List (Nat × Instr × Nat)), decode cX5_read e.1 = .ok e.2 := wn_all _ 37 (by decide +kernel)
theorem dX5_read_37 : decode cX5_read 37 = .ok (.ireturn, 1) := wn_at gdX5_read_37 0 rfl
theorem dX5_read_38 : decode cX5_read 38 = .ok (.aload_n 0, 1) := wn_at gdX5_read_37 1 rfl
theorem dX5_read_39 : decode cX5_read 39 = .ok (.getfield 35, 3) := wn_at gdX5_read_37 2 rfl
theorem dX5_read_42 : decode cX5_read 42 = .ok (.invokevirtual 51, 3) := wn_at gdX5_read_37 3 rfl
theorem dX5_read_45 : decode cX5_read 45 = .ok (.ifCond .eq 5, 3) := wn_at gdX5_read_37 4 rfl
theorem dX5_read_48 : decode cX5_read 48 = .ok (.iconst 1, 1) := wn_at gdX5_read_37 5 rfl
theorem dX5_read_49 : decode cX5_read 49 = .ok (.ireturn, 1) := wn_at gdX5_read_37 6 rfl
theorem dX5_read_50 : decode cX5_read 50 = .ok (.aload_n 0, 1) := wn_at gdX5_read_37 7 rfl
theorem dX5_read_51 : decode cX5_read 51 = .ok (.getfield 35, 3) := wn_at gdX5_read_37 8 rfl
theorem dX5_read_54 : decode cX5_read 54 = .ok (.bipush 59, 2) := wn_at gdX5_read_37 9 rfl
theorem gdX5_read_56 : ∀ e ∈ ([(56, .invokevirtual 55, 3), (59, .ifCond .ne 19, 3), (62, .aload_n 0, 1), (63, .getfield 35, 3), (66, .aload_n 0, 1), (67, .getfield 35, 3), (70, .getfield 59, 3), (73, .iconst 0, 1), (74, .invokevirtual 62, 3), (77, .ireturn, 1)] : List (Nat × Instr × Nat)), decode cX5_read e.1 = .ok e.2 := wn_all _ 56 (by decide +kernel)
theorem dX5_read_56 : decode cX5_read 56 = .ok (.invokevirtual 55, 3) := wn_at gdX5_read_56 0 rfl
theorem dX5_read_59 : decode cX5_read 59 = .ok (.ifCond .ne 19, 3) := wn_at gdX5_read_56 1 rfl
theorem dX5_read_62 : decode cX5_read 62 = .ok (.aload_n 0, 1) := wn_at gdX5_read_56 2 rfl
theorem dX5_read_63 : decode cX5_read 63 = .ok (.getfield 35, 3) := wn_at gdX5_read_56 3 rfl
theorem dX5_read_66 : decode cX5_read 66 = .ok (.aload_n 0, 1) := wn_at gdX5_read_56 4 rfl
theorem dX5_read_67 : decode cX5_read 67 = .ok (.getfield 35, 3) := wn_at gdX5_read_56 5 rfl
theorem dX5_read_70 : decode cX5_read 70 = .ok (.getfield 59, 3) := wn_at gdX5_read_56 6 rfl
theorem dX5_read_73 : decode cX5_read 73 = .ok (.iconst 0, 1) := wn_at gdX5_read_56 7 rfl
theorem dX5_read_74 : decode cX5_read 74 = .ok (.invokevirtual 62, 3) := wn_at gdX5_read_56 8 rfl
theorem dX5_read_77 : decode cX5_read 77 = .ok (.ireturn, 1) := wn_at gdX5_read_56 9 rfl
theorem gdX5_read_78 : ∀ e ∈ ([(78, .iinc 1 1, 3), (81, .goto (-59), 3), (84, .iconst 0, 1), (85, .ireturn, 1)] : List (Nat × Instr × Nat)), decode cX5_read e.1 = .ok e.2 := wn_all _ 78 (by decide +kernel)
theorem dX5_read_78 : decode cX5_read 78 = .ok (.iinc 1 1, 3) := wn_at gdX5_read_78 0 rfl
theorem dX5_read_81 : decode cX5_read 81 = .ok (.goto (-59), 3) := wn_at gdX5_read_78 1 rfl
theorem dX5_read_84 : decode cX5_read 84 = .ok (.iconst 0, 1) := wn_at gdX5_read_78 2 rfl
theorem dX5_read_85 : decode cX5_read 85 = .ok (.ireturn, 1) := wn_at gdX5_read_78 3 rfl
theorem gdX5_readClause_0 : ∀ e ∈ ([(0, .aload_n 0, 1), (1, .getfield 35, 3), (4, .ldc 66, 2), (6, .invokevirtual 68, 3), (9, .ifCond .ne 19, 3), (12, .aload_n 0, 1), (13, .getfield 35, 3), (16, .aload_n 0, 1), (17, .getfield 35, 3), (20, .getfield 59, 3)] : List (Nat × Instr × Nat)), decode cX5_readClause e.1 = .ok e.2 := wn_all _ 0 (by decide +kernel)
theorem dX5_readClause_0 : decode cX5_readClause 0 = .ok (.aload_n 0, 1) := wn_at gdX5_readClause_0 0 rfl
theorem dX5_readClause_1 : decode cX5_readClause 1 = .ok (.getfield 35, 3) := wn_at gdX5_readClause_0 1 rfl
theorem dX5_readClause_4 : decode cX5_readClause 4 = .ok (.ldc 66, 2) := wn_at gdX5_readClause_0 2 rfl
theorem dX5_readClause_6 : decode cX5_readClause 6 = .ok (.invokevirtual 68, 3) := wn_at gdX5_readClause_0 3 rfl
theorem dX5_readClause_9 : decode cX5_readClause 9 = .ok (.ifCond .ne 19, 3) := wn_at gdX5_readClause_0 4 rfl
theorem dX5_readClause_12 : decode cX5_readClause 12 = .ok (.aload_n 0, 1) := wn_at gdX5_readClause_0 5 rfl
theorem dX5_readClause_13 : decode cX5_readClause 13 = .ok (.getfield 35, 3) := wn_at gdX5_readClause_0 6 rfl
theorem dX5_readClause_16 : decode cX5_readClause 16 = .ok (.aload_n 0, 1) := wn_at gdX5_readClause_0 7 rfl
theorem dX5_readClause_17 : decode cX5_readClause 17 = .ok (.getfield 35, 3) := wn_at gdX5_readClause_0 8 rfl
theorem dX5_readClause_20 : decode cX5_readClause 20 = .ok (.getfield 59, 3) := wn_at gdX5_readClause_0 9 rfl
theorem gdX5_readClause_23 : ∀ e ∈ ([(23, .iconst 0, 1), (24, .invokevirtual 62, 3), (27, .ireturn, 1), (28, .iload_n 1, 1), (29, .bipush 12, 2), (31, .if_icmp .lt 19, 3), (34, .aload_n 0, 1), (35, .getfield 35, 3), (38, .aload_n 0, 1), (39, .getfield 35, 3)] : List (Nat × Instr × Nat)), decode cX5_readClause e.1 = .ok e.2 := wn_all _ 23 (by decide +kernel)
theorem dX5_readClause_23 : decode cX5_readClause 23 = .ok (.iconst 0, 1) := wn_at gdX5_readClause_23 0 rfl
theorem dX5_readClause_24 : decode cX5_readClause 24 = .ok (.invokevirtual 62, 3) := wn_at gdX5_readClause_23 1 rfl
theorem dX5_readClause_27 : decode cX5_readClause 27 = .ok (.ireturn, 1) := wn_at gdX5_readClause_23 2 rfl
theorem dX5_readClause_28 : decode cX5_readClause 28 = .ok (.iload_n 1, 1) := wn_at gdX5_readClause_23 3 rfl
theorem dX5_readClause_29 : decode cX5_readClause 29 = .ok (.bipush 12, 2) := wn_at gdX5_readClause_23 4 rfl
theorem dX5_readClause_31 : decode cX5_readClause 31 = .ok (.if_icmp .lt 19, 3) := wn_at gdX5_readClause_23 5 rfl
theorem dX5_readClause_34 : decode cX5_readClause 34 = .ok (.aload_n 0, 1) := wn_at gdX5_readClause_23 6 rfl
theorem dX5_readClause_35 : decode cX5_readClause 35 = .ok (.getfield 35, 3) := wn_at gdX5_readClause_23 7 rfl
theorem dX5_readClause_38 : decode cX5_readClause 38 = .ok (.aload_n 0, 1) := wn_at gdX5_readClause_23 8 rfl
theorem dX5_readClause_39 : decode cX5_readClause 39 = .ok (.getfield 35, 3) := wn_at gdX5_readClause_23 9 rfl
theorem gdX5_readClause_42 : ∀ e ∈ ([(42, .getfield 72, 3), (45, .iconst 4, 1), (46, .invokevirtual 62, 3), (49, .ireturn, 1), (50, .aload_n 0, 1), (51, .getfield 35, 3), (54, .iconst 0, 1), (55, .bipush 9, 2), (57, .invokevirtual 75, 3), (60, .istore_n 2, 1)] : List (Nat × Instr × Nat)), decode cX5_readClause e.1 = .ok e.2 := wn_all _ 42 (by decide +kernel)
theorem dX5_readClause_42 : decode cX5_readClause 42 = .ok (.getfield 72, 3) := wn_at gdX5_readClause_42 0 rfl
theorem dX5_readClause_45 : decode cX5_readClause 45 = .ok (.iconst 4, 1) := wn_at gdX5_readClause_42 1 rfl
theorem dX5_readClause_46 : decode cX5_readClause 46 = .ok (.invokevirtual 62, 3) := wn_at gdX5_readClause_42 2 rfl
theorem dX5_readClause_49 : decode cX5_readClause 49 = .ok (.ireturn, 1) := wn_at gdX5_readClause_42 3 rfl
theorem dX5_readClause_50 : decode cX5_readClause 50 = .ok (.aload_n 0, 1) := wn_at gdX5_readClause_42 4 rfl
theorem dX5_readClause_51 : decode cX5_readClause 51 = .ok (.getfield 35, 3) := wn_at gdX5_readClause_42 5 rfl
theorem dX5_readClause_54 : decode cX5_readClause 54 = .ok (.iconst 0, 1) := wn_at gdX5_readClause_42 6 rfl
theorem dX5_readClause_55 : decode cX5_readClause 55 = .ok (.bipush 9, 2) := wn_at gdX5_readClause_42 7 rfl
theorem dX5_readClause_57 : decode cX5_readClause 57 = .ok (.invokevirtual 75, 3) := wn_at gdX5_readClause_42 8 rfl
theorem dX5_readClause_60 : decode cX5_readClause 60 = .ok (.istore_n 2, 1) := wn_at gdX5_readClause_42 9 rfl
theorem gdX5_readClause_61 : ∀ e ∈ ([(61, .iload_n 2, 1), (62, .ifCond .ge 5, 3), (65, .iconst 0, 1), (66, .ireturn, 1), (67, .aload_n 0, 1), (68, .getfield 35, 3), (71, .ldc 79, 2), (73, .invokevirtual 68, 3), (76, .istore_n 3, 1), (77, .iload_n 3, 1)] : List (Nat × Instr × Nat)), decode cX5_readClause e.1 = .ok e.2 := wn_all _ 61 (by decide +kernel)
theorem dX5_readClause_61 : decode cX5_readClause 61 = .ok (.iload_n 2, 1) := wn_at gdX5_readClause_61 0 rfl
theorem dX5_readClause_62 : decode cX5_readClause 62 = .ok (.ifCond .ge 5, 3) := wn_at gdX5_readClause_61 1 rfl
theorem dX5_readClause_65 : decode cX5_readClause 65 = .ok (.iconst 0, 1) := wn_at gdX5_readClause_61 2 rfl
theorem dX5_readClause_66 : decode cX5_readClause 66 = .ok (.ireturn, 1) := wn_at gdX5_readClause_61 3 rfl
theorem dX5_readClause_67 : decode cX5_readClause 67 = .ok (.aload_n 0, 1) := wn_at gdX5_readClause_61 4 rfl
theorem dX5_readClause_68 : decode cX5_readClause 68 = .ok (.getfield 35, 3) := wn_at gdX5_readClause_61 5 rfl
theorem dX5_readClause_71 : decode cX5_readClause 71 = .ok (.ldc 79, 2) := wn_at gdX5_readClause_61 6 rfl
theorem dX5_readClause_73 : decode cX5_readClause 73 = .ok (.invokevirtual 68, 3) := wn_at gdX5_readClause_61 7 rfl
theorem dX5_readClause_76 : decode cX5_readClause 76 = .ok (.istore_n 3, 1) := wn_at gdX5_readClause_61 8 rfl
theorem dX5_readClause_77 : decode cX5_readClause 77 = .ok (.iload_n 3, 1) := wn_at gdX5_readClause_61 9 rfl
theorem gdX5_readClause_78 : ∀ e ∈ ([(78, .ifCond .eq 12, 3), (81, .aload_n 0, 1), (82, .invokevirtual 81, 3), (85, .ifCond .ne 5, 3), (88, .iconst 0, 1), (89, .ireturn, 1), (90, .aload_n 0, 1), (91, .getfield 18, 3), (94, .iload_n 3, 1), (95, .ifCond .eq 7, 3)] : List (Nat × Instr × Nat)), decode cX5_readClause e.1 = .ok e.2 := wn_all _ 78 (by decide +kernel)
theorem dX5_readClause_78 : decode cX5_readClause 78 = .ok (.ifCond .eq 12, 3) := wn_at gdX5_readClause_78 0 rfl
theorem dX5_readClause_81 : decode cX5_readClause 81 = .ok (.aload_n 0, 1) := wn_at gdX5_readClause_78 1 rfl
theorem dX5_readClause_82 : decode cX5_readClause 82 = .ok (.invokevirtual 81, 3) := wn_at gdX5_readClause_78 2 rfl
theorem dX5_readClause_85 : decode cX5_readClause 85 = .ok (.ifCond .ne 5, 3) := wn_at gdX5_readClause_78 3 rfl
theorem dX5_readClause_88 : decode cX5_readClause 88 = .ok (.iconst 0, 1) := wn_at gdX5_readClause_78 4 rfl
theorem dX5_readClause_89 : decode cX5_readClause 89 = .ok (.ireturn, 1) := wn_at gdX5_readClause_78 5 rfl
theorem dX5_readClause_90 : decode cX5_readClause 90 = .ok (.aload_n 0, 1) := wn_at gdX5_readClause_78 6 rfl
theorem dX5_readClause_91 : decode cX5_readClause 91 = .ok (.getfield 18, 3) := wn_at gdX5_readClause_78 7 rfl
theorem dX5_readClause_94 : decode cX5_readClause 94 = .ok (.iload_n 3, 1) := wn_at gdX5_readClause_78 8 rfl
theorem dX5_readClause_95 : decode cX5_readClause 95 = .ok (.ifCond .eq 7, 3) := wn_at gdX5_readClause_78 9 rfl
theorem gdX5_readClause_98 : ∀ e ∈ ([(98, .iconst 1, 1), (99, .goto 4, 3), (102, .iconst 0, 1), (103, .iload_n 2, 1), (104, .invokevirtual 84, 3), (107, .iconst 1, 1), (108, .ireturn, 1)] : List (Nat × Instr × Nat)), decode cX5_readClause e.1 = .ok e.2 := wn_all _ 98 (by decide +kernel)
theorem dX5_readClause_98 : decode cX5_readClause 98 = .ok (.iconst 1, 1) := wn_at gdX5_readClause_98 0 rfl
theorem dX5_readClause_99 : decode cX5_readClause 99 = .ok (.goto 4, 3) := wn_at gdX5_readClause_98 1 rfl
theorem dX5_readClause_102 : decode cX5_readClause 102 = .ok (.iconst 0, 1) := wn_at gdX5_readClause_98 2 rfl
theorem dX5_readClause_103 : decode cX5_readClause 103 = .ok (.iload_n 2, 1) := wn_at gdX5_readClause_98 3 rfl
theorem dX5_readClause_104 : decode cX5_readClause 104 = .ok (.invokevirtual 84, 3) := wn_at gdX5_readClause_98 4 rfl
theorem dX5_readClause_107 : decode cX5_readClause 107 = .ok (.iconst 1, 1) := wn_at gdX5_readClause_98 5 rfl
theorem dX5_readClause_108 : decode cX5_readClause 108 = .ok (.ireturn, 1) := wn_at gdX5_readClause_98 6 rfl
theorem gdX5_readTest_0 : ∀ e ∈ ([(0, .aload_n 0, 1), (1, .iconst 0, 1), (2, .putfield 26, 3), (5, .aload_n 0, 1), (6, .iconst 0, 1), (7, .putfield 29, 3), (10, .aload_n 0, 1), (11, .iconst 0, 1), (12, .putfield 32, 3), (15, .iconst 1, 1)] : List (Nat × Instr × Nat)), decode cX5_readTest e.1 = .ok e.2 := wn_all _ 0 (by decide +kernel)
theorem dX5_readTest_0 : decode cX5_readTest 0 = .ok (.aload_n 0, 1) := wn_at gdX5_readTest_0 0 rfl
theorem dX5_readTest_1 : decode cX5_readTest 1 = .ok (.iconst 0, 1) := wn_at gdX5_readTest_0 1 rfl
theorem dX5_readTest_2 : decode cX5_readTest 2 = .ok (.putfield 26, 3) := wn_at gdX5_readTest_0 2 rfl
theorem dX5_readTest_5 : decode cX5_readTest 5 = .ok (.aload_n 0, 1) := wn_at gdX5_readTest_0 3 rfl
theorem dX5_readTest_6 : decode cX5_readTest 6 = .ok (.iconst 0, 1) := wn_at gdX5_readTest_0 4 rfl
theorem dX5_readTest_7 : decode cX5_readTest 7 = .ok (.putfield 29, 3) := wn_at gdX5_readTest_0 5 rfl
theorem dX5_readTest_10 : decode cX5_readTest 10 = .ok (.aload_n 0, 1) := wn_at gdX5_readTest_0 6 rfl
theorem dX5_readTest_11 : decode cX5_readTest 11 = .ok (.iconst 0, 1) := wn_at gdX5_readTest_0 7 rfl
theorem dX5_readTest_12 : decode cX5_readTest 12 = .ok (.putfield 32, 3) := wn_at gdX5_readTest_0 8 rfl
theorem dX5_readTest_15 : decode cX5_readTest 15 = .ok (.iconst 1, 1) := wn_at gdX5_readTest_0 9 rfl
theorem gdX5_readTest_16 : ∀ e ∈ ([(16, .istore_n 1, 1), (17, .iconst 0, 1), (18, .istore_n 2, 1), (19, .iconst 0, 1), (20, .istore_n 3, 1), (21, .iload_n 3, 1), (22, .sipush 400, 3), (25, .if_icmp .ge 137, 3), (28, .iload_n 1, 1), (29, .ifCond .eq 14, 3)] : List (Nat × Instr × Nat)), decode cX5_readTest e.1 = .ok e.2 := wn_all _ 16 (by decide +kernel)
theorem dX5_readTest_16 : decode cX5_readTest 16 = .ok (.istore_n 1, 1) := wn_at gdX5_readTest_16 0 rfl
theorem dX5_readTest_17 : decode cX5_readTest 17 = .ok (.iconst 0, 1) := wn_at gdX5_readTest_16 1 rfl
theorem dX5_readTest_18 : decode cX5_readTest 18 = .ok (.istore_n 2, 1) := wn_at gdX5_readTest_16 2 rfl
theorem dX5_readTest_19 : decode cX5_readTest 19 = .ok (.iconst 0, 1) := wn_at gdX5_readTest_16 3 rfl
theorem dX5_readTest_20 : decode cX5_readTest 20 = .ok (.istore_n 3, 1) := wn_at gdX5_readTest_16 4 rfl
theorem dX5_readTest_21 : decode cX5_readTest 21 = .ok (.iload_n 3, 1) := wn_at gdX5_readTest_16 5 rfl
theorem dX5_readTest_22 : decode cX5_readTest 22 = .ok (.sipush 400, 3) := wn_at gdX5_readTest_16 6 rfl
theorem dX5_readTest_25 : decode cX5_readTest 25 = .ok (.if_icmp .ge 137, 3) := wn_at gdX5_readTest_16 7 rfl
theorem dX5_readTest_28 : decode cX5_readTest 28 = .ok (.iload_n 1, 1) := wn_at gdX5_readTest_16 8 rfl
theorem dX5_readTest_29 : decode cX5_readTest 29 = .ok (.ifCond .eq 14, 3) := wn_at gdX5_readTest_16 9 rfl
theorem gdX5_readTest_32 : ∀ e ∈ ([(32, .iconst 0, 1), (33, .istore_n 2, 1), (34, .aload_n 0, 1), (35, .invokevirtual 88, 3), (38, .ifCond .ne 5, 3), (41, .iconst 0, 1), (42, .ireturn, 1), (43, .aload_n 0, 1), (44, .invokevirtual 91, 3), (47, .ifCond .ne 5, 3)] : List (Nat × Instr × Nat)), decode cX5_readTest e.1 = .ok e.2 := wn_all _ 32 (by decide +kernel)
theorem dX5_readTest_32 : decode cX5_readTest 32 = .ok (.iconst 0, 1) := wn_at gdX5_readTest_32 0 rfl
theorem dX5_readTest_33 : decode cX5_readTest 33 = .ok (.istore_n 2, 1) := wn_at gdX5_readTest_32 1 rfl
theorem dX5_readTest_34 : decode cX5_readTest 34 = .ok (.aload_n 0, 1) := wn_at gdX5_readTest_32 2 rfl
theorem dX5_readTest_35 : decode cX5_readTest 35 = .ok (.invokevirtual 88, 3) := wn_at gdX5_readTest_32 3 rfl
theorem dX5_readTest_38 : decode cX5_readTest 38 = .ok (.ifCond .ne 5, 3) := wn_at gdX5_readTest_32 4 rfl
theorem dX5_readTest_41 : decode cX5_readTest 41 = .ok (.iconst 0, 1) := wn_at gdX5_readTest_32 5 rfl
theorem dX5_readTest_42 : decode cX5_readTest 42 = .ok (.ireturn, 1) := wn_at gdX5_readTest_32 6 rfl
theorem dX5_readTest_43 : decode cX5_readTest 43 = .ok (.aload_n 0, 1) := wn_at gdX5_readTest_32 7 rfl
theorem dX5_readTest_44 : decode cX5_readTest 44 = .ok (.invokevirtual 91, 3) := wn_at gdX5_readTest_32 8 rfl
theorem dX5_readTest_47 : decode cX5_readTest 47 = .ok (.ifCond .ne 5, 3) := wn_at gdX5_readTest_32 9 rfl
theorem gdX5_readTest_50 : ∀ e ∈ ([(50, .iconst 0, 1), (51, .ireturn, 1), (52, .aload_n 0, 1), (53, .invokevirtual 94, 3), (56, .istore 4, 2), (58, .iload 4, 2), (60, .ifCond .ge 11, 3), (63, .iload_n 2, 1), (64, .ifCond .eq 7, 3), (67, .iconst 1, 1)] : List (Nat × Instr × Nat)), decode cX5_readTest e.1 = .ok e.2 := wn_all _ 50 (by decide +kernel)
theorem dX5_readTest_50 : decode cX5_readTest 50 = .ok (.iconst 0, 1) := wn_at gdX5_readTest_50 0 rfl
theorem dX5_readTest_51 : decode cX5_readTest 51 = .ok (.ireturn, 1) := wn_at gdX5_readTest_50 1 rfl
theorem dX5_readTest_52 : decode cX5_readTest 52 = .ok (.aload_n 0, 1) := wn_at gdX5_readTest_50 2 rfl
theorem dX5_readTest_53 : decode cX5_readTest 53 = .ok (.invokevirtual 94, 3) := wn_at gdX5_readTest_50 3 rfl
theorem dX5_readTest_56 : decode cX5_readTest 56 = .ok (.istore 4, 2) := wn_at gdX5_readTest_50 4 rfl
theorem dX5_readTest_58 : decode cX5_readTest 58 = .ok (.iload 4, 2) := wn_at gdX5_readTest_50 5 rfl
theorem dX5_readTest_60 : decode cX5_readTest 60 = .ok (.ifCond .ge 11, 3) := wn_at gdX5_readTest_50 6 rfl
theorem dX5_readTest_63 : decode cX5_readTest 63 = .ok (.iload_n 2, 1) := wn_at gdX5_readTest_50 7 rfl
theorem dX5_readTest_64 : decode cX5_readTest 64 = .ok (.ifCond .eq 7, 3) := wn_at gdX5_readTest_50 8 rfl
theorem dX5_readTest_67 : decode cX5_readTest 67 = .ok (.iconst 1, 1) := wn_at gdX5_readTest_50 9 rfl
theorem gdX5_readTest_68 : ∀ e ∈ ([(68, .goto 4, 3), (71, .iconst 0, 1), (72, .istore_n 1, 1), (73, .iload_n 1, 1), (74, .ifCond .eq 23, 3), (77, .aload_n 0, 1), (78, .invokevirtual 98, 3), (81, .aload_n 0, 1), (82, .invokevirtual 101, 3), (85, .istore 4, 2)] : List (Nat × Instr × Nat)), decode cX5_readTest e.1 = .ok e.2 := wn_all _ 68 (by decide +kernel)
theorem dX5_readTest_68 : decode cX5_readTest 68 = .ok (.goto 4, 3) := wn_at gdX5_readTest_68 0 rfl
theorem dX5_readTest_71 : decode cX5_readTest 71 = .ok (.iconst 0, 1) := wn_at gdX5_readTest_68 1 rfl
theorem dX5_readTest_72 : decode cX5_readTest 72 = .ok (.istore_n 1, 1) := wn_at gdX5_readTest_68 2 rfl
theorem dX5_readTest_73 : decode cX5_readTest 73 = .ok (.iload_n 1, 1) := wn_at gdX5_readTest_68 3 rfl
theorem dX5_readTest_74 : decode cX5_readTest 74 = .ok (.ifCond .eq 23, 3) := wn_at gdX5_readTest_68 4 rfl
theorem dX5_readTest_77 : decode cX5_readTest 77 = .ok (.aload_n 0, 1) := wn_at gdX5_readTest_68 5 rfl
theorem dX5_readTest_78 : decode cX5_readTest 78 = .ok (.invokevirtual 98, 3) := wn_at gdX5_readTest_68 6 rfl
theorem dX5_readTest_81 : decode cX5_readTest 81 = .ok (.aload_n 0, 1) := wn_at gdX5_readTest_68 7 rfl
theorem dX5_readTest_82 : decode cX5_readTest 82 = .ok (.invokevirtual 101, 3) := wn_at gdX5_readTest_68 8 rfl
theorem dX5_readTest_85 : decode cX5_readTest 85 = .ok (.istore 4, 2) := wn_at gdX5_readTest_68 9 rfl
theorem gdX5_readTest_87 : ∀ e ∈ ([(87, .iload 4, 2), (89, .ifCond .ge 51, 3), (92, .aload_n 0, 1), (93, .invokevirtual 104, 3), (96, .ireturn, 1), (97, .iload 4, 2), (99, .ifCond .ge 41, 3), (102, .aload_n 0, 1), (103, .invokevirtual 107, 3), (106, .istore 4, 2)] : List (Nat × Instr × Nat)), decode cX5_readTest e.1 = .ok e.2 := wn_all _ 87 (by decide +kernel)
theorem dX5_readTest_87 : decode cX5_readTest 87 = .ok (.iload 4, 2) := wn_at gdX5_readTest_87 0 rfl
theorem dX5_readTest_89 : decode cX5_readTest 89 = .ok (.ifCond .ge 51, 3) := wn_at gdX5_readTest_87 1 rfl
theorem dX5_readTest_92 : decode cX5_readTest 92 = .ok (.aload_n 0, 1) := wn_at gdX5_readTest_87 2 rfl
theorem dX5_readTest_93 : decode cX5_readTest 93 = .ok (.invokevirtual 104, 3) := wn_at gdX5_readTest_87 3 rfl
theorem dX5_readTest_96 : decode cX5_readTest 96 = .ok (.ireturn, 1) := wn_at gdX5_readTest_87 4 rfl
theorem dX5_readTest_97 : decode cX5_readTest 97 = .ok (.iload 4, 2) := wn_at gdX5_readTest_87 5 rfl
theorem dX5_readTest_99 : decode cX5_readTest 99 = .ok (.ifCond .ge 41, 3) := wn_at gdX5_readTest_87 6 rfl
theorem dX5_readTest_102 : decode cX5_readTest 102 = .ok (.aload_n 0, 1) := wn_at gdX5_readTest_87 7 rfl
theorem dX5_readTest_103 : decode cX5_readTest 103 = .ok (.invokevirtual 107, 3) := wn_at gdX5_readTest_87 8 rfl
theorem dX5_readTest_106 : decode cX5_readTest 106 = .ok (.istore 4, 2) := wn_at gdX5_readTest_87 9 rfl
theorem gdX5_readTest_108 : ∀ e ∈ ([(108, .iload 4, 2), (110, .ifCond .ge 19, 3), (113, .aload_n 0, 1), (114, .getfield 35, 3), (117, .aload_n 0, 1), (118, .getfield 35, 3), (121, .getfield 59, 3), (124, .iconst 0, 1), (125, .invokevirtual 62, 3), (128, .ireturn, 1)] : List (Nat × Instr × Nat)), decode cX5_readTest e.1 = .ok e.2 := wn_all _ 108 (by decide +kernel)
theorem dX5_readTest_108 : decode cX5_readTest 108 = .ok (.iload 4, 2) := wn_at gdX5_readTest_108 0 rfl
theorem dX5_readTest_110 : decode cX5_readTest 110 = .ok (.ifCond .ge 19, 3) := wn_at gdX5_readTest_108 1 rfl
theorem dX5_readTest_113 : decode cX5_readTest 113 = .ok (.aload_n 0, 1) := wn_at gdX5_readTest_108 2 rfl
theorem dX5_readTest_114 : decode cX5_readTest 114 = .ok (.getfield 35, 3) := wn_at gdX5_readTest_108 3 rfl
theorem dX5_readTest_117 : decode cX5_readTest 117 = .ok (.aload_n 0, 1) := wn_at gdX5_readTest_108 4 rfl
theorem dX5_readTest_118 : decode cX5_readTest 118 = .ok (.getfield 35, 3) := wn_at gdX5_readTest_108 5 rfl
theorem dX5_readTest_121 : decode cX5_readTest 121 = .ok (.getfield 59, 3) := wn_at gdX5_readTest_108 6 rfl
theorem dX5_readTest_124 : decode cX5_readTest 124 = .ok (.iconst 0, 1) := wn_at gdX5_readTest_108 7 rfl
theorem dX5_readTest_125 : decode cX5_readTest 125 = .ok (.invokevirtual 62, 3) := wn_at gdX5_readTest_108 8 rfl
theorem dX5_readTest_128 : decode cX5_readTest 128 = .ok (.ireturn, 1) := wn_at gdX5_readTest_108 9 rfl
theorem gdX5_readTest_129 : ∀ e ∈ ([(129, .aload_n 0, 1), (130, .invokevirtual 110, 3), (133, .ifCond .ne 5, 3), (136, .iconst 0, 1), (137, .ireturn, 1), (138, .iconst 1, 1), (139, .istore_n 2, 1), (140, .aload_n 0, 1), (141, .getstatic 113, 3), (144, .iload 4, 2)] : List (Nat × Instr × Nat)), decode cX5_readTest e.1 = .ok e.2 := wn_all _ 129 (by decide +kernel)
theorem dX5_readTest_129 : decode cX5_readTest 129 = .ok (.aload_n 0, 1) := wn_at gdX5_readTest_129 0 rfl
theorem dX5_readTest_130 : decode cX5_readTest 130 = .ok (.invokevirtual 110, 3) := wn_at gdX5_readTest_129 1 rfl
theorem dX5_readTest_133 : decode cX5_readTest 133 = .ok (.ifCond .ne 5, 3) := wn_at gdX5_readTest_129 2 rfl
theorem dX5_readTest_136 : decode cX5_readTest 136 = .ok (.iconst 0, 1) := wn_at gdX5_readTest_129 3 rfl
theorem dX5_readTest_137 : decode cX5_readTest 137 = .ok (.ireturn, 1) := wn_at gdX5_readTest_129 4 rfl
theorem dX5_readTest_138 : decode cX5_readTest 138 = .ok (.iconst 1, 1) := wn_at gdX5_readTest_129 5 rfl
theorem dX5_readTest_139 : decode cX5_readTest 139 = .ok (.istore_n 2, 1) := wn_at gdX5_readTest_129 6 rfl
theorem dX5_readTest_140 : decode cX5_readTest 140 = .ok (.aload_n 0, 1) := wn_at gdX5_readTest_129 7 rfl
theorem dX5_readTest_141 : decode cX5_readTest 141 = .ok (.getstatic 113, 3) := wn_at gdX5_readTest_129 8 rfl
theorem dX5_readTest_144 : decode cX5_readTest 144 = .ok (.iload 4, 2) := wn_at gdX5_readTest_129 9 rfl
theorem gdX5_readTest_146 : ∀ e ∈ ([(146, .iaload, 1), (147, .invokevirtual 116, 3), (150, .aload_n 0, 1), (151, .iload 4, 2), (153, .invokevirtual 120, 3), (156, .iinc 3 1, 3), (159, .goto (-138), 3), (162, .iconst 0, 1), (163, .ireturn, 1)] : List (Nat × Instr × Nat)), decode cX5_readTest e.1 = .ok e.2 := wn_all _ 146 (by decide +kernel)
theorem dX5_readTest_146 : decode cX5_readTest 146 = .ok (.iaload, 1) := wn_at gdX5_readTest_146 0 rfl
theorem dX5_readTest_147 : decode cX5_readTest 147 = .ok (.invokevirtual 116, 3) := wn_at gdX5_readTest_146 1 rfl
theorem dX5_readTest_150 : decode cX5_readTest 150 = .ok (.aload_n 0, 1) := wn_at gdX5_readTest_146 2 rfl
theorem dX5_readTest_151 : decode cX5_readTest 151 = .ok (.iload 4, 2) := wn_at gdX5_readTest_146 3 rfl
theorem dX5_readTest_153 : decode cX5_readTest 153 = .ok (.invokevirtual 120, 3) := wn_at gdX5_readTest_146 4 rfl
theorem dX5_readTest_156 : decode cX5_readTest 156 = .ok (.iinc 3 1, 3) := wn_at gdX5_readTest_146 5 rfl
theorem dX5_readTest_159 : decode cX5_readTest 159 = .ok (.goto (-138), 3) := wn_at gdX5_readTest_146 6 rfl
theorem dX5_readTest_162 : decode cX5_readTest 162 = .ok (.iconst 0, 1) := wn_at gdX5_readTest_146 7 rfl
theorem dX5_readTest_163 : decode cX5_readTest 163 = .ok (.ireturn, 1) := wn_at gdX5_readTest_146 8 rfl
theorem gdX5_readOpenings_0 : ∀ e ∈ ([(0, .iconst 0, 1), (1, .istore_n 1, 1), (2, .iload_n 1, 1), (3, .bipush 10, 2), (5, .if_icmp .gt 104, 3), (8, .aload_n 0, 1), (9, .getfield 35, 3), (12, .ldc 123, 2), (14, .invokevirtual 68, 3), (17, .istore_n 2, 1)] : List (Nat × Instr × Nat)), decode cX5_readOpenings e.1 = .ok e.2 := wn_all _ 0 (by decide +kernel)
theorem dX5_readOpenings_0 : decode cX5_readOpenings 0 = .ok (.iconst 0, 1) := wn_at gdX5_readOpenings_0 0 rfl
theorem dX5_readOpenings_1 : decode cX5_readOpenings 1 = .ok (.istore_n 1, 1) := wn_at gdX5_readOpenings_0 1 rfl
theorem dX5_readOpenings_2 : decode cX5_readOpenings 2 = .ok (.iload_n 1, 1) := wn_at gdX5_readOpenings_0 2 rfl
theorem dX5_readOpenings_3 : decode cX5_readOpenings 3 = .ok (.bipush 10, 2) := wn_at gdX5_readOpenings_0 3 rfl
theorem dX5_readOpenings_5 : decode cX5_readOpenings 5 = .ok (.if_icmp .gt 104, 3) := wn_at gdX5_readOpenings_0 4 rfl
theorem dX5_readOpenings_8 : decode cX5_readOpenings 8 = .ok (.aload_n 0, 1) := wn_at gdX5_readOpenings_0 5 rfl
theorem dX5_readOpenings_9 : decode cX5_readOpenings 9 = .ok (.getfield 35, 3) := wn_at gdX5_readOpenings_0 6 rfl
theorem dX5_readOpenings_12 : decode cX5_readOpenings 12 = .ok (.ldc 123, 2) := wn_at gdX5_readOpenings_0 7 rfl
theorem dX5_readOpenings_14 : decode cX5_readOpenings 14 = .ok (.invokevirtual 68, 3) := wn_at gdX5_readOpenings_0 8 rfl
theorem dX5_readOpenings_17 : decode cX5_readOpenings 17 = .ok (.istore_n 2, 1) := wn_at gdX5_readOpenings_0 9 rfl
theorem gdX5_readOpenings_18 : ∀ e ∈ ([(18, .iload_n 2, 1), (19, .ifCond .ne 17, 3), (22, .aload_n 0, 1), (23, .getfield 35, 3), (26, .bipush 91, 2), (28, .invokevirtual 55, 3), (31, .ifCond .ne 5, 3), (34, .iconst 1, 1), (35, .ireturn, 1), (36, .aload_n 0, 1)] : List (Nat × Instr × Nat)), decode cX5_readOpenings e.1 = .ok e.2 := wn_all _ 18 (by decide +kernel)
theorem dX5_readOpenings_18 : decode cX5_readOpenings 18 = .ok (.iload_n 2, 1) := wn_at gdX5_readOpenings_18 0 rfl
theorem dX5_readOpenings_19 : decode cX5_readOpenings 19 = .ok (.ifCond .ne 17, 3) := wn_at gdX5_readOpenings_18 1 rfl
theorem dX5_readOpenings_22 : decode cX5_readOpenings 22 = .ok (.aload_n 0, 1) := wn_at gdX5_readOpenings_18 2 rfl
theorem dX5_readOpenings_23 : decode cX5_readOpenings 23 = .ok (.getfield 35, 3) := wn_at gdX5_readOpenings_18 3 rfl
theorem dX5_readOpenings_26 : decode cX5_readOpenings 26 = .ok (.bipush 91, 2) := wn_at gdX5_readOpenings_18 4 rfl
theorem dX5_readOpenings_28 : decode cX5_readOpenings 28 = .ok (.invokevirtual 55, 3) := wn_at gdX5_readOpenings_18 5 rfl
theorem dX5_readOpenings_31 : decode cX5_readOpenings 31 = .ok (.ifCond .ne 5, 3) := wn_at gdX5_readOpenings_18 6 rfl
theorem dX5_readOpenings_34 : decode cX5_readOpenings 34 = .ok (.iconst 1, 1) := wn_at gdX5_readOpenings_18 7 rfl
theorem dX5_readOpenings_35 : decode cX5_readOpenings 35 = .ok (.ireturn, 1) := wn_at gdX5_readOpenings_18 8 rfl
theorem dX5_readOpenings_36 : decode cX5_readOpenings 36 = .ok (.aload_n 0, 1) := wn_at gdX5_readOpenings_18 9 rfl
theorem gdX5_readOpenings_37 : ∀ e ∈ ([(37, .getfield 32, 3), (40, .bipush 10, 2), (42, .if_icmp .lt 19, 3), (45, .aload_n 0, 1), (46, .getfield 35, 3), (49, .aload_n 0, 1), (50, .getfield 35, 3), (53, .getfield 72, 3), (56, .iconst 2, 1), (57, .invokevirtual 62, 3)] : List (Nat × Instr × Nat)), decode cX5_readOpenings e.1 = .ok e.2 := wn_all _ 37 (by decide +kernel)
theorem dX5_readOpenings_37 : decode cX5_readOpenings 37 = .ok (.getfield 32, 3) := wn_at gdX5_readOpenings_37 0 rfl
theorem dX5_readOpenings_40 : decode cX5_readOpenings 40 = .ok (.bipush 10, 2) := wn_at gdX5_readOpenings_37 1 rfl
theorem dX5_readOpenings_42 : decode cX5_readOpenings 42 = .ok (.if_icmp .lt 19, 3) := wn_at gdX5_readOpenings_37 2 rfl
theorem dX5_readOpenings_45 : decode cX5_readOpenings 45 = .ok (.aload_n 0, 1) := wn_at gdX5_readOpenings_37 3 rfl
theorem dX5_readOpenings_46 : decode cX5_readOpenings 46 = .ok (.getfield 35, 3) := wn_at gdX5_readOpenings_37 4 rfl
theorem dX5_readOpenings_49 : decode cX5_readOpenings 49 = .ok (.aload_n 0, 1) := wn_at gdX5_readOpenings_37 5 rfl
theorem dX5_readOpenings_50 : decode cX5_readOpenings 50 = .ok (.getfield 35, 3) := wn_at gdX5_readOpenings_37 6 rfl
theorem dX5_readOpenings_53 : decode cX5_readOpenings 53 = .ok (.getfield 72, 3) := wn_at gdX5_readOpenings_37 7 rfl
theorem dX5_readOpenings_56 : decode cX5_readOpenings 56 = .ok (.iconst 2, 1) := wn_at gdX5_readOpenings_37 8 rfl
theorem dX5_readOpenings_57 : decode cX5_readOpenings 57 = .ok (.invokevirtual 62, 3) := wn_at gdX5_readOpenings_37 9 rfl
theorem gdX5_readOpenings_60 : ∀ e ∈ ([(60, .ireturn, 1), (61, .aload_n 0, 1), (62, .dup, 1), (63, .getfield 32, 3), (66, .iconst 1, 1), (67, .iadd, 1), (68, .putfield 32, 3), (71, .aload_n 0, 1), (72, .dup, 1), (73, .getfield 29, 3)] : List (Nat × Instr × Nat)), decode cX5_readOpenings e.1 = .ok e.2 := wn_all _ 60 (by decide +kernel)
theorem dX5_readOpenings_60 : decode cX5_readOpenings 60 = .ok (.ireturn, 1) := wn_at gdX5_readOpenings_60 0 rfl
theorem dX5_readOpenings_61 : decode cX5_readOpenings 61 = .ok (.aload_n 0, 1) := wn_at gdX5_readOpenings_60 1 rfl
theorem dX5_readOpenings_62 : decode cX5_readOpenings 62 = .ok (.dup, 1) := wn_at gdX5_readOpenings_60 2 rfl
theorem dX5_readOpenings_63 : decode cX5_readOpenings 63 = .ok (.getfield 32, 3) := wn_at gdX5_readOpenings_60 3 rfl
theorem dX5_readOpenings_66 : decode cX5_readOpenings 66 = .ok (.iconst 1, 1) := wn_at gdX5_readOpenings_60 4 rfl
theorem dX5_readOpenings_67 : decode cX5_readOpenings 67 = .ok (.iadd, 1) := wn_at gdX5_readOpenings_60 5 rfl
theorem dX5_readOpenings_68 : decode cX5_readOpenings 68 = .ok (.putfield 32, 3) := wn_at gdX5_readOpenings_60 6 rfl
theorem dX5_readOpenings_71 : decode cX5_readOpenings 71 = .ok (.aload_n 0, 1) := wn_at gdX5_readOpenings_60 7 rfl
theorem dX5_readOpenings_72 : decode cX5_readOpenings 72 = .ok (.dup, 1) := wn_at gdX5_readOpenings_60 8 rfl
theorem dX5_readOpenings_73 : decode cX5_readOpenings 73 = .ok (.getfield 29, 3) := wn_at gdX5_readOpenings_60 9 rfl
theorem gdX5_readOpenings_76 : ∀ e ∈ ([(76, .iload_n 2, 1), (77, .ifCond .eq 7, 3), (80, .iconst 0, 1), (81, .goto 4, 3), (84, .iconst 1, 1), (85, .iadd, 1), (86, .putfield 29, 3), (89, .aload_n 0, 1), (90, .iload_n 2, 1), (91, .ifCond .eq 7, 3)] : List (Nat × Instr × Nat)), decode cX5_readOpenings e.1 = .ok e.2 := wn_all _ 76 (by decide +kernel)
theorem dX5_readOpenings_76 : decode cX5_readOpenings 76 = .ok (.iload_n 2, 1) := wn_at gdX5_readOpenings_76 0 rfl
theorem dX5_readOpenings_77 : decode cX5_readOpenings 77 = .ok (.ifCond .eq 7, 3) := wn_at gdX5_readOpenings_76 1 rfl
theorem dX5_readOpenings_80 : decode cX5_readOpenings 80 = .ok (.iconst 0, 1) := wn_at gdX5_readOpenings_76 2 rfl
theorem dX5_readOpenings_81 : decode cX5_readOpenings 81 = .ok (.goto 4, 3) := wn_at gdX5_readOpenings_76 3 rfl
theorem dX5_readOpenings_84 : decode cX5_readOpenings 84 = .ok (.iconst 1, 1) := wn_at gdX5_readOpenings_76 4 rfl
theorem dX5_readOpenings_85 : decode cX5_readOpenings 85 = .ok (.iadd, 1) := wn_at gdX5_readOpenings_76 5 rfl
theorem dX5_readOpenings_86 : decode cX5_readOpenings 86 = .ok (.putfield 29, 3) := wn_at gdX5_readOpenings_76 6 rfl
theorem dX5_readOpenings_89 : decode cX5_readOpenings 89 = .ok (.aload_n 0, 1) := wn_at gdX5_readOpenings_76 7 rfl
theorem dX5_readOpenings_90 : decode cX5_readOpenings 90 = .ok (.iload_n 2, 1) := wn_at gdX5_readOpenings_76 8 rfl
theorem dX5_readOpenings_91 : decode cX5_readOpenings 91 = .ok (.ifCond .eq 7, 3) := wn_at gdX5_readOpenings_76 9 rfl
theorem gdX5_readOpenings_94 : ∀ e ∈ ([(94, .iconst 4, 1), (95, .goto 5, 3), (98, .bipush 16, 2), (100, .invokevirtual 120, 3), (103, .iinc 1 1, 3), (106, .goto (-104), 3), (109, .iconst 0, 1), (110, .ireturn, 1)] : List (Nat × Instr × Nat)), decode cX5_readOpenings e.1 = .ok e.2 := wn_all _ 94 (by decide +kernel)
theorem dX5_readOpenings_94 : decode cX5_readOpenings 94 = .ok (.iconst 4, 1) := wn_at gdX5_readOpenings_94 0 rfl
theorem dX5_readOpenings_95 : decode cX5_readOpenings 95 = .ok (.goto 5, 3) := wn_at gdX5_readOpenings_94 1 rfl
theorem dX5_readOpenings_98 : decode cX5_readOpenings 98 = .ok (.bipush 16, 2) := wn_at gdX5_readOpenings_94 2 rfl
theorem dX5_readOpenings_100 : decode cX5_readOpenings 100 = .ok (.invokevirtual 120, 3) := wn_at gdX5_readOpenings_94 3 rfl
theorem dX5_readOpenings_103 : decode cX5_readOpenings 103 = .ok (.iinc 1 1, 3) := wn_at gdX5_readOpenings_94 4 rfl
theorem dX5_readOpenings_106 : decode cX5_readOpenings 106 = .ok (.goto (-104), 3) := wn_at gdX5_readOpenings_94 5 rfl
theorem dX5_readOpenings_109 : decode cX5_readOpenings 109 = .ok (.iconst 0, 1) := wn_at gdX5_readOpenings_94 6 rfl
theorem dX5_readOpenings_110 : decode cX5_readOpenings 110 = .ok (.ireturn, 1) := wn_at gdX5_readOpenings_94 7 rfl
theorem gdX5_closeBrackets_0 : ∀ e ∈ ([(0, .aload_n 0, 1), (1, .getfield 29, 3), (4, .ifCond .le 62, 3), (7, .aload_n 0, 1), (8, .getfield 35, 3), (11, .bipush 93, 2), (13, .invokevirtual 55, 3), (16, .ifCond .eq 50, 3), (19, .aload_n 0, 1), (20, .getstatic 113, 3)] : List (Nat × Instr × Nat)), decode cX5_closeBrackets e.1 = .ok e.2 := wn_all _ 0 (by decide +kernel)
theorem dX5_closeBrackets_0 : decode cX5_closeBrackets 0 = .ok (.aload_n 0, 1) := wn_at gdX5_closeBrackets_0 0 rfl
theorem dX5_closeBrackets_1 : decode cX5_closeBrackets 1 = .ok (.getfield 29, 3) := wn_at gdX5_closeBrackets_0 1 rfl
theorem dX5_closeBrackets_4 : decode cX5_closeBrackets 4 = .ok (.ifCond .le 62, 3) := wn_at gdX5_closeBrackets_0 2 rfl
theorem dX5_closeBrackets_7 : decode cX5_closeBrackets 7 = .ok (.aload_n 0, 1) := wn_at gdX5_closeBrackets_0 3 rfl
theorem dX5_closeBrackets_8 : decode cX5_closeBrackets 8 = .ok (.getfield 35, 3) := wn_at gdX5_closeBrackets_0 4 rfl
theorem dX5_closeBrackets_11 : decode cX5_closeBrackets 11 = .ok (.bipush 93, 2) := wn_at gdX5_closeBrackets_0 5 rfl
theorem dX5_closeBrackets_13 : decode cX5_closeBrackets 13 = .ok (.invokevirtual 55, 3) := wn_at gdX5_closeBrackets_0 6 rfl
theorem dX5_closeBrackets_16 : decode cX5_closeBrackets 16 = .ok (.ifCond .eq 50, 3) := wn_at gdX5_closeBrackets_0 7 rfl
theorem dX5_closeBrackets_19 : decode cX5_closeBrackets 19 = .ok (.aload_n 0, 1) := wn_at gdX5_closeBrackets_0 8 rfl
theorem dX5_closeBrackets_20 : decode cX5_closeBrackets 20 = .ok (.getstatic 113, 3) := wn_at gdX5_closeBrackets_0 9 rfl
theorem gdX5_closeBrackets_23 : ∀ e ∈ ([(23, .bipush 6, 2), (25, .iaload, 1), (26, .invokevirtual 116, 3), (29, .aload_n 0, 1), (30, .aload_n 0, 1), (31, .getfield 26, 3), (34, .iconst 1, 1), (35, .isub, 1), (36, .iconst 0, 1), (37, .invokestatic 125, 3)] : List (Nat × Instr × Nat)), decode cX5_closeBrackets e.1 = .ok e.2 := wn_all _ 23 (by decide +kernel)
theorem dX5_closeBrackets_23 : decode cX5_closeBrackets 23 = .ok (.bipush 6, 2) := wn_at gdX5_closeBrackets_23 0 rfl
theorem dX5_closeBrackets_25 : decode cX5_closeBrackets 25 = .ok (.iaload, 1) := wn_at gdX5_closeBrackets_23 1 rfl
theorem dX5_closeBrackets_26 : decode cX5_closeBrackets 26 = .ok (.invokevirtual 116, 3) := wn_at gdX5_closeBrackets_23 2 rfl
theorem dX5_closeBrackets_29 : decode cX5_closeBrackets 29 = .ok (.aload_n 0, 1) := wn_at gdX5_closeBrackets_23 3 rfl
theorem dX5_closeBrackets_30 : decode cX5_closeBrackets 30 = .ok (.aload_n 0, 1) := wn_at gdX5_closeBrackets_23 4 rfl
theorem dX5_closeBrackets_31 : decode cX5_closeBrackets 31 = .ok (.getfield 26, 3) := wn_at gdX5_closeBrackets_23 5 rfl
theorem dX5_closeBrackets_34 : decode cX5_closeBrackets 34 = .ok (.iconst 1, 1) := wn_at gdX5_closeBrackets_23 6 rfl
theorem dX5_closeBrackets_35 : decode cX5_closeBrackets 35 = .ok (.isub, 1) := wn_at gdX5_closeBrackets_23 7 rfl
theorem dX5_closeBrackets_36 : decode cX5_closeBrackets 36 = .ok (.iconst 0, 1) := wn_at gdX5_closeBrackets_23 8 rfl
theorem dX5_closeBrackets_37 : decode cX5_closeBrackets 37 = .ok (.invokestatic 125, 3) := wn_at gdX5_closeBrackets_23 9 rfl
theorem gdX5_closeBrackets_40 : ∀ e ∈ ([(40, .putfield 26, 3), (43, .aload_n 0, 1), (44, .dup, 1), (45, .getfield 32, 3), (48, .iconst 1, 1), (49, .isub, 1), (50, .putfield 32, 3), (53, .aload_n 0, 1), (54, .dup, 1), (55, .getfield 29, 3)] : List (Nat × Instr × Nat)), decode cX5_closeBrackets e.1 = .ok e.2 := wn_all _ 40 (by decide +kernel)
theorem dX5_closeBrackets_40 : decode cX5_closeBrackets 40 = .ok (.putfield 26, 3) := wn_at gdX5_closeBrackets_40 0 rfl
theorem dX5_closeBrackets_43 : decode cX5_closeBrackets 43 = .ok (.aload_n 0, 1) := wn_at gdX5_closeBrackets_40 1 rfl
theorem dX5_closeBrackets_44 : decode cX5_closeBrackets 44 = .ok (.dup, 1) := wn_at gdX5_closeBrackets_40 2 rfl
theorem dX5_closeBrackets_45 : decode cX5_closeBrackets 45 = .ok (.getfield 32, 3) := wn_at gdX5_closeBrackets_40 3 rfl
theorem dX5_closeBrackets_48 : decode cX5_closeBrackets 48 = .ok (.iconst 1, 1) := wn_at gdX5_closeBrackets_40 4 rfl
theorem dX5_closeBrackets_49 : decode cX5_closeBrackets 49 = .ok (.isub, 1) := wn_at gdX5_closeBrackets_40 5 rfl
theorem dX5_closeBrackets_50 : decode cX5_closeBrackets 50 = .ok (.putfield 32, 3) := wn_at gdX5_closeBrackets_40 6 rfl
theorem dX5_closeBrackets_53 : decode cX5_closeBrackets 53 = .ok (.aload_n 0, 1) := wn_at gdX5_closeBrackets_40 7 rfl
theorem dX5_closeBrackets_54 : decode cX5_closeBrackets 54 = .ok (.dup, 1) := wn_at gdX5_closeBrackets_40 8 rfl
theorem dX5_closeBrackets_55 : decode cX5_closeBrackets 55 = .ok (.getfield 29, 3) := wn_at gdX5_closeBrackets_40 9 rfl
theorem gdX5_closeBrackets_58 : ∀ e ∈ ([(58, .iconst 1, 1), (59, .isub, 1), (60, .putfield 29, 3), (63, .goto (-63), 3), (66, .return_, 1)] : List (Nat × Instr × Nat)), decode cX5_closeBrackets e.1 = .ok e.2 := wn_all _ 58 (by decide +kernel)
theorem dX5_closeBrackets_58 : decode cX5_closeBrackets 58 = .ok (.iconst 1, 1) := wn_at gdX5_closeBrackets_58 0 rfl
theorem dX5_closeBrackets_59 : decode cX5_closeBrackets 59 = .ok (.isub, 1) := wn_at gdX5_closeBrackets_58 1 rfl
theorem dX5_closeBrackets_60 : decode cX5_closeBrackets 60 = .ok (.putfield 29, 3) := wn_at gdX5_closeBrackets_58 2 rfl
theorem dX5_closeBrackets_63 : decode cX5_closeBrackets 63 = .ok (.goto (-63), 3) := wn_at gdX5_closeBrackets_58 3 rfl
theorem dX5_closeBrackets_66 : decode cX5_closeBrackets 66 = .ok (.return_, 1) := wn_at gdX5_closeBrackets_58 4 rfl
theorem gdX5_isTestOver_0 : ∀ e ∈ ([(0, .aload_n 0, 1), (1, .getstatic 113, 3), (4, .bipush 6, 2), (6, .iaload, 1), (7, .invokevirtual 116, 3), (10, .aload_n 0, 1), (11, .getfield 29, 3), (14, .ifCond .eq 21, 3), (17, .aload_n 0, 1), (18, .getfield 35, 3)] : List (Nat × Instr × Nat)), decode cX5_isTestOver e.1 = .ok e.2 := wn_all _ 0 (by decide +kernel)
theorem dX5_isTestOver_0 : decode cX5_isTestOver 0 = .ok (.aload_n 0, 1) := wn_at gdX5_isTestOver_0 0 rfl
theorem dX5_isTestOver_1 : decode cX5_isTestOver 1 = .ok (.getstatic 113, 3) := wn_at gdX5_isTestOver_0 1 rfl
theorem dX5_isTestOver_4 : decode cX5_isTestOver 4 = .ok (.bipush 6, 2) := wn_at gdX5_isTestOver_0 2 rfl
theorem dX5_isTestOver_6 : decode cX5_isTestOver 6 = .ok (.iaload, 1) := wn_at gdX5_isTestOver_0 3 rfl
theorem dX5_isTestOver_7 : decode cX5_isTestOver 7 = .ok (.invokevirtual 116, 3) := wn_at gdX5_isTestOver_0 4 rfl
theorem dX5_isTestOver_10 : decode cX5_isTestOver 10 = .ok (.aload_n 0, 1) := wn_at gdX5_isTestOver_0 5 rfl
theorem dX5_isTestOver_11 : decode cX5_isTestOver 11 = .ok (.getfield 29, 3) := wn_at gdX5_isTestOver_0 6 rfl
theorem dX5_isTestOver_14 : decode cX5_isTestOver 14 = .ok (.ifCond .eq 21, 3) := wn_at gdX5_isTestOver_0 7 rfl
theorem dX5_isTestOver_17 : decode cX5_isTestOver 17 = .ok (.aload_n 0, 1) := wn_at gdX5_isTestOver_0 8 rfl
theorem dX5_isTestOver_18 : decode cX5_isTestOver 18 = .ok (.getfield 35, 3) := wn_at gdX5_isTestOver_0 9 rfl
theorem gdX5_isTestOver_21 : ∀ e ∈ ([(21, .aload_n 0, 1), (22, .getfield 35, 3), (25, .getfield 59, 3), (28, .iconst 0, 1), (29, .invokevirtual 62, 3), (32, .ifCond .eq 7, 3), (35, .iconst 1, 1), (36, .goto 4, 3), (39, .iconst 0, 1), (40, .ireturn, 1)] : List (Nat × Instr × Nat)), decode cX5_isTestOver e.1 = .ok e.2 := wn_all _ 21 (by decide +kernel)
theorem dX5_isTestOver_21 : decode cX5_isTestOver 21 = .ok (.aload_n 0, 1) := wn_at gdX5_isTestOver_21 0 rfl
theorem dX5_isTestOver_22 : decode cX5_isTestOver 22 = .ok (.getfield 35, 3) := wn_at gdX5_isTestOver_21 1 rfl
theorem dX5_isTestOver_25 : decode cX5_isTestOver 25 = .ok (.getfield 59, 3) := wn_at gdX5_isTestOver_21 2 rfl
theorem dX5_isTestOver_28 : decode cX5_isTestOver 28 = .ok (.iconst 0, 1) := wn_at gdX5_isTestOver_21 3 rfl
theorem dX5_isTestOver_29 : decode cX5_isTestOver 29 = .ok (.invokevirtual 62, 3) := wn_at gdX5_isTestOver_21 4 rfl
theorem dX5_isTestOver_32 : decode cX5_isTestOver 32 = .ok (.ifCond .eq 7, 3) := wn_at gdX5_isTestOver_21 5 rfl
theorem dX5_isTestOver_35 : decode cX5_isTestOver 35 = .ok (.iconst 1, 1) := wn_at gdX5_isTestOver_21 6 rfl
theorem dX5_isTestOver_36 : decode cX5_isTestOver 36 = .ok (.goto 4, 3) := wn_at gdX5_isTestOver_21 7 rfl
theorem dX5_isTestOver_39 : decode cX5_isTestOver 39 = .ok (.iconst 0, 1) := wn_at gdX5_isTestOver_21 8 rfl
theorem dX5_isTestOver_40 : decode cX5_isTestOver 40 = .ok (.ireturn, 1) := wn_at gdX5_isTestOver_21 9 rfl
theorem gdX5_hold_0 : ∀ e ∈ ([(0, .aload_n 0, 1), (1, .getfield 26, 3), (4, .ifCond .lt 32, 3), (7, .aload_n 0, 1), (8, .getfield 26, 3), (11, .bipush 64, 2), (13, .if_icmp .ge 23, 3), (16, .aload_n 0, 1), (17, .getfield 9, 3), (20, .aload_n 0, 1)] : List (Nat × Instr × Nat)), decode cX5_hold e.1 = .ok e.2 := wn_all _ 0 (by decide +kernel)
theorem dX5_hold_0 : decode cX5_hold 0 = .ok (.aload_n 0, 1) := wn_at gdX5_hold_0 0 rfl
theorem dX5_hold_1 : decode cX5_hold 1 = .ok (.getfield 26, 3) := wn_at gdX5_hold_0 1 rfl
theorem dX5_hold_4 : decode cX5_hold 4 = .ok (.ifCond .lt 32, 3) := wn_at gdX5_hold_0 2 rfl
theorem dX5_hold_7 : decode cX5_hold 7 = .ok (.aload_n 0, 1) := wn_at gdX5_hold_0 3 rfl
theorem dX5_hold_8 : decode cX5_hold 8 = .ok (.getfield 26, 3) := wn_at gdX5_hold_0 4 rfl
theorem dX5_hold_11 : decode cX5_hold 11 = .ok (.bipush 64, 2) := wn_at gdX5_hold_0 5 rfl
theorem dX5_hold_13 : decode cX5_hold 13 = .ok (.if_icmp .ge 23, 3) := wn_at gdX5_hold_0 6 rfl
theorem dX5_hold_16 : decode cX5_hold 16 = .ok (.aload_n 0, 1) := wn_at gdX5_hold_0 7 rfl
theorem dX5_hold_17 : decode cX5_hold 17 = .ok (.getfield 9, 3) := wn_at gdX5_hold_0 8 rfl
theorem dX5_hold_20 : decode cX5_hold 20 = .ok (.aload_n 0, 1) := wn_at gdX5_hold_0 9 rfl
theorem gdX5_hold_21 : ∀ e ∈ ([(21, .getfield 26, 3), (24, .iload_n 1, 1), (25, .iastore, 1), (26, .aload_n 0, 1), (27, .dup, 1), (28, .getfield 26, 3), (31, .iconst 1, 1), (32, .iadd, 1), (33, .putfield 26, 3), (36, .return_, 1)] : List (Nat × Instr × Nat)), decode cX5_hold e.1 = .ok e.2 := wn_all _ 21 (by decide +kernel)
theorem dX5_hold_21 : decode cX5_hold 21 = .ok (.getfield 26, 3) := wn_at gdX5_hold_21 0 rfl
theorem dX5_hold_24 : decode cX5_hold 24 = .ok (.iload_n 1, 1) := wn_at gdX5_hold_21 1 rfl
theorem dX5_hold_25 : decode cX5_hold 25 = .ok (.iastore, 1) := wn_at gdX5_hold_21 2 rfl
theorem dX5_hold_26 : decode cX5_hold 26 = .ok (.aload_n 0, 1) := wn_at gdX5_hold_21 3 rfl
theorem dX5_hold_27 : decode cX5_hold 27 = .ok (.dup, 1) := wn_at gdX5_hold_21 4 rfl
theorem dX5_hold_28 : decode cX5_hold 28 = .ok (.getfield 26, 3) := wn_at gdX5_hold_21 5 rfl
theorem dX5_hold_31 : decode cX5_hold 31 = .ok (.iconst 1, 1) := wn_at gdX5_hold_21 6 rfl
theorem dX5_hold_32 : decode cX5_hold 32 = .ok (.iadd, 1) := wn_at gdX5_hold_21 7 rfl
theorem dX5_hold_33 : decode cX5_hold 33 = .ok (.putfield 26, 3) := wn_at gdX5_hold_21 8 rfl
theorem dX5_hold_36 : decode cX5_hold 36 = .ok (.return_, 1) := wn_at gdX5_hold_21 9 rfl
theorem gdX5_settle_0 : ∀ e ∈ ([(0, .aload_n 0, 1), (1, .getfield 26, 3), (4, .ifCond .le 79, 3), (7, .getstatic 113, 3), (10, .aload_n 0, 1), (11, .getfield 9, 3), (14, .aload_n 0, 1), (15, .getfield 26, 3), (18, .iconst 1, 1), (19, .isub, 1)] : List (Nat × Instr × Nat)), decode cX5_settle e.1 = .ok e.2 := wn_all _ 0 (by decide +kernel)
theorem dX5_settle_0 : decode cX5_settle 0 = .ok (.aload_n 0, 1) := wn_at gdX5_settle_0 0 rfl
theorem dX5_settle_1 : decode cX5_settle 1 = .ok (.getfield 26, 3) := wn_at gdX5_settle_0 1 rfl
theorem dX5_settle_4 : decode cX5_settle 4 = .ok (.ifCond .le 79, 3) := wn_at gdX5_settle_0 2 rfl
theorem dX5_settle_7 : decode cX5_settle 7 = .ok (.getstatic 113, 3) := wn_at gdX5_settle_0 3 rfl
theorem dX5_settle_10 : decode cX5_settle 10 = .ok (.aload_n 0, 1) := wn_at gdX5_settle_0 4 rfl
theorem dX5_settle_11 : decode cX5_settle 11 = .ok (.getfield 9, 3) := wn_at gdX5_settle_0 5 rfl
theorem dX5_settle_14 : decode cX5_settle 14 = .ok (.aload_n 0, 1) := wn_at gdX5_settle_0 6 rfl
theorem dX5_settle_15 : decode cX5_settle 15 = .ok (.getfield 26, 3) := wn_at gdX5_settle_0 7 rfl
theorem dX5_settle_18 : decode cX5_settle 18 = .ok (.iconst 1, 1) := wn_at gdX5_settle_0 8 rfl
theorem dX5_settle_19 : decode cX5_settle 19 = .ok (.isub, 1) := wn_at gdX5_settle_0 9 rfl
theorem gdX5_settle_20 : ∀ e ∈ ([(20, .iaload, 1), (21, .iaload, 1), (22, .iload_n 1, 1), (23, .if_icmp .lt 60, 3), (26, .aload_n 0, 1), (27, .dup, 1), (28, .getfield 26, 3), (31, .iconst 1, 1), (32, .isub, 1), (33, .putfield 26, 3)] : List (Nat × Instr × Nat)), decode cX5_settle e.1 = .ok e.2 := wn_all _ 20 (by decide +kernel)
theorem dX5_settle_20 : decode cX5_settle 20 = .ok (.iaload, 1) := wn_at gdX5_settle_20 0 rfl
theorem dX5_settle_21 : decode cX5_settle 21 = .ok (.iaload, 1) := wn_at gdX5_settle_20 1 rfl
theorem dX5_settle_22 : decode cX5_settle 22 = .ok (.iload_n 1, 1) := wn_at gdX5_settle_20 2 rfl
theorem dX5_settle_23 : decode cX5_settle 23 = .ok (.if_icmp .lt 60, 3) := wn_at gdX5_settle_20 3 rfl
theorem dX5_settle_26 : decode cX5_settle 26 = .ok (.aload_n 0, 1) := wn_at gdX5_settle_20 4 rfl
theorem dX5_settle_27 : decode cX5_settle 27 = .ok (.dup, 1) := wn_at gdX5_settle_20 5 rfl
theorem dX5_settle_28 : decode cX5_settle 28 = .ok (.getfield 26, 3) := wn_at gdX5_settle_20 6 rfl
theorem dX5_settle_31 : decode cX5_settle 31 = .ok (.iconst 1, 1) := wn_at gdX5_settle_20 7 rfl
theorem dX5_settle_32 : decode cX5_settle 32 = .ok (.isub, 1) := wn_at gdX5_settle_20 8 rfl
theorem dX5_settle_33 : decode cX5_settle 33 = .ok (.putfield 26, 3) := wn_at gdX5_settle_20 9 rfl
theorem gdX5_settle_36 : ∀ e ∈ ([(36, .aload_n 0, 1), (37, .getfield 18, 3), (40, .aload_n 0, 1), (41, .getfield 9, 3), (44, .aload_n 0, 1), (45, .getfield 26, 3), (48, .iaload, 1), (49, .iconst 0, 1), (50, .invokevirtual 84, 3), (53, .aload_n 0, 1)] : List (Nat × Instr × Nat)), decode cX5_settle e.1 = .ok e.2 := wn_all _ 36 (by decide +kernel)
theorem dX5_settle_36 : decode cX5_settle 36 = .ok (.aload_n 0, 1) := wn_at gdX5_settle_36 0 rfl
theorem dX5_settle_37 : decode cX5_settle 37 = .ok (.getfield 18, 3) := wn_at gdX5_settle_36 1 rfl
theorem dX5_settle_40 : decode cX5_settle 40 = .ok (.aload_n 0, 1) := wn_at gdX5_settle_36 2 rfl
theorem dX5_settle_41 : decode cX5_settle 41 = .ok (.getfield 9, 3) := wn_at gdX5_settle_36 3 rfl
theorem dX5_settle_44 : decode cX5_settle 44 = .ok (.aload_n 0, 1) := wn_at gdX5_settle_36 4 rfl
theorem dX5_settle_45 : decode cX5_settle 45 = .ok (.getfield 26, 3) := wn_at gdX5_settle_36 5 rfl
theorem dX5_settle_48 : decode cX5_settle 48 = .ok (.iaload, 1) := wn_at gdX5_settle_36 6 rfl
theorem dX5_settle_49 : decode cX5_settle 49 = .ok (.iconst 0, 1) := wn_at gdX5_settle_36 7 rfl
theorem dX5_settle_50 : decode cX5_settle 50 = .ok (.invokevirtual 84, 3) := wn_at gdX5_settle_36 8 rfl
theorem dX5_settle_53 : decode cX5_settle 53 = .ok (.aload_n 0, 1) := wn_at gdX5_settle_36 9 rfl
theorem gdX5_settle_54 : ∀ e ∈ ([(54, .dup, 1), (55, .getfield 32, 3), (58, .aload_n 0, 1), (59, .getfield 9, 3), (62, .aload_n 0, 1), (63, .getfield 26, 3), (66, .iaload, 1), (67, .iconst 4, 1), (68, .if_icmp .ne 7, 3), (71, .iconst 1, 1)] : List (Nat × Instr × Nat)), decode cX5_settle e.1 = .ok e.2 := wn_all _ 54 (by decide +kernel)
theorem dX5_settle_54 : decode cX5_settle 54 = .ok (.dup, 1) := wn_at gdX5_settle_54 0 rfl
theorem dX5_settle_55 : decode cX5_settle 55 = .ok (.getfield 32, 3) := wn_at gdX5_settle_54 1 rfl
theorem dX5_settle_58 : decode cX5_settle 58 = .ok (.aload_n 0, 1) := wn_at gdX5_settle_54 2 rfl
theorem dX5_settle_59 : decode cX5_settle 59 = .ok (.getfield 9, 3) := wn_at gdX5_settle_54 3 rfl
theorem dX5_settle_62 : decode cX5_settle 62 = .ok (.aload_n 0, 1) := wn_at gdX5_settle_54 4 rfl
theorem dX5_settle_63 : decode cX5_settle 63 = .ok (.getfield 26, 3) := wn_at gdX5_settle_54 5 rfl
theorem dX5_settle_66 : decode cX5_settle 66 = .ok (.iaload, 1) := wn_at gdX5_settle_54 6 rfl
theorem dX5_settle_67 : decode cX5_settle 67 = .ok (.iconst 4, 1) := wn_at gdX5_settle_54 7 rfl
theorem dX5_settle_68 : decode cX5_settle 68 = .ok (.if_icmp .ne 7, 3) := wn_at gdX5_settle_54 8 rfl
theorem dX5_settle_71 : decode cX5_settle 71 = .ok (.iconst 1, 1) := wn_at gdX5_settle_54 9 rfl
theorem gdX5_settle_72 : ∀ e ∈ ([(72, .goto 4, 3), (75, .iconst 0, 1), (76, .isub, 1), (77, .putfield 32, 3), (80, .goto (-80), 3), (83, .return_, 1)] : List (Nat × Instr × Nat)), decode cX5_settle e.1 = .ok e.2 := wn_all _ 72 (by decide +kernel)
theorem dX5_settle_72 : decode cX5_settle 72 = .ok (.goto 4, 3) := wn_at gdX5_settle_72 0 rfl
theorem dX5_settle_75 : decode cX5_settle 75 = .ok (.iconst 0, 1) := wn_at gdX5_settle_72 1 rfl
theorem dX5_settle_76 : decode cX5_settle 76 = .ok (.isub, 1) := wn_at gdX5_settle_72 2 rfl
theorem dX5_settle_77 : decode cX5_settle 77 = .ok (.putfield 32, 3) := wn_at gdX5_settle_72 3 rfl
theorem dX5_settle_80 : decode cX5_settle 80 = .ok (.goto (-80), 3) := wn_at gdX5_settle_72 4 rfl
theorem dX5_settle_83 : decode cX5_settle 83 = .ok (.return_, 1) := wn_at gdX5_settle_72 5 rfl
theorem gdX5_takeReckoning_0 : ∀ e ∈ ([(0, .aload_n 0, 1), (1, .getfield 35, 3), (4, .bipush 43, 2), (6, .invokevirtual 55, 3), (9, .ifCond .eq 6, 3), (12, .bipush 7, 2), (14, .ireturn, 1), (15, .aload_n 0, 1), (16, .getfield 35, 3), (19, .bipush 45, 2)] : List (Nat × Instr × Nat)), decode cX5_takeReckoning e.1 = .ok e.2 := wn_all _ 0 (by decide +kernel)
theorem dX5_takeReckoning_0 : decode cX5_takeReckoning 0 = .ok (.aload_n 0, 1) := wn_at gdX5_takeReckoning_0 0 rfl
theorem dX5_takeReckoning_1 : decode cX5_takeReckoning 1 = .ok (.getfield 35, 3) := wn_at gdX5_takeReckoning_0 1 rfl
theorem dX5_takeReckoning_4 : decode cX5_takeReckoning 4 = .ok (.bipush 43, 2) := wn_at gdX5_takeReckoning_0 2 rfl
theorem dX5_takeReckoning_6 : decode cX5_takeReckoning 6 = .ok (.invokevirtual 55, 3) := wn_at gdX5_takeReckoning_0 3 rfl
theorem dX5_takeReckoning_9 : decode cX5_takeReckoning 9 = .ok (.ifCond .eq 6, 3) := wn_at gdX5_takeReckoning_0 4 rfl
theorem dX5_takeReckoning_12 : decode cX5_takeReckoning 12 = .ok (.bipush 7, 2) := wn_at gdX5_takeReckoning_0 5 rfl
theorem dX5_takeReckoning_14 : decode cX5_takeReckoning 14 = .ok (.ireturn, 1) := wn_at gdX5_takeReckoning_0 6 rfl
theorem dX5_takeReckoning_15 : decode cX5_takeReckoning 15 = .ok (.aload_n 0, 1) := wn_at gdX5_takeReckoning_0 7 rfl
theorem dX5_takeReckoning_16 : decode cX5_takeReckoning 16 = .ok (.getfield 35, 3) := wn_at gdX5_takeReckoning_0 8 rfl
theorem dX5_takeReckoning_19 : decode cX5_takeReckoning 19 = .ok (.bipush 45, 2) := wn_at gdX5_takeReckoning_0 9 rfl
theorem gdX5_takeReckoning_21 : ∀ e ∈ ([(21, .invokevirtual 55, 3), (24, .ifCond .eq 6, 3), (27, .bipush 8, 2), (29, .ireturn, 1), (30, .aload_n 0, 1), (31, .getfield 35, 3), (34, .bipush 42, 2), (36, .invokevirtual 55, 3), (39, .ifCond .eq 6, 3), (42, .bipush 9, 2)] : List (Nat × Instr × Nat)), decode cX5_takeReckoning e.1 = .ok e.2 := wn_all _ 21 (by decide +kernel)
theorem dX5_takeReckoning_21 : decode cX5_takeReckoning 21 = .ok (.invokevirtual 55, 3) := wn_at gdX5_takeReckoning_21 0 rfl
theorem dX5_takeReckoning_24 : decode cX5_takeReckoning 24 = .ok (.ifCond .eq 6, 3) := wn_at gdX5_takeReckoning_21 1 rfl
theorem dX5_takeReckoning_27 : decode cX5_takeReckoning 27 = .ok (.bipush 8, 2) := wn_at gdX5_takeReckoning_21 2 rfl
theorem dX5_takeReckoning_29 : decode cX5_takeReckoning 29 = .ok (.ireturn, 1) := wn_at gdX5_takeReckoning_21 3 rfl
theorem dX5_takeReckoning_30 : decode cX5_takeReckoning 30 = .ok (.aload_n 0, 1) := wn_at gdX5_takeReckoning_21 4 rfl
theorem dX5_takeReckoning_31 : decode cX5_takeReckoning 31 = .ok (.getfield 35, 3) := wn_at gdX5_takeReckoning_21 5 rfl
theorem dX5_takeReckoning_34 : decode cX5_takeReckoning 34 = .ok (.bipush 42, 2) := wn_at gdX5_takeReckoning_21 6 rfl
theorem dX5_takeReckoning_36 : decode cX5_takeReckoning 36 = .ok (.invokevirtual 55, 3) := wn_at gdX5_takeReckoning_21 7 rfl
theorem dX5_takeReckoning_39 : decode cX5_takeReckoning 39 = .ok (.ifCond .eq 6, 3) := wn_at gdX5_takeReckoning_21 8 rfl
theorem dX5_takeReckoning_42 : decode cX5_takeReckoning 42 = .ok (.bipush 9, 2) := wn_at gdX5_takeReckoning_21 9 rfl
theorem gdX5_takeReckoning_44 : ∀ e ∈ ([(44, .ireturn, 1), (45, .aload_n 0, 1), (46, .getfield 35, 3), (49, .bipush 47, 2), (51, .invokevirtual 55, 3), (54, .ifCond .eq 8, 3), (57, .bipush 10, 2), (59, .goto 4, 3), (62, .iconst (-1), 1), (63, .ireturn, 1)] : List (Nat × Instr × Nat)), decode cX5_takeReckoning e.1 = .ok e.2 := wn_all _ 44 (by decide +kernel)
theorem dX5_takeReckoning_44 : decode cX5_takeReckoning 44 = .ok (.ireturn, 1) := wn_at gdX5_takeReckoning_44 0 rfl
theorem dX5_takeReckoning_45 : decode cX5_takeReckoning 45 = .ok (.aload_n 0, 1) := wn_at gdX5_takeReckoning_44 1 rfl
theorem dX5_takeReckoning_46 : decode cX5_takeReckoning 46 = .ok (.getfield 35, 3) := wn_at gdX5_takeReckoning_44 2 rfl
theorem dX5_takeReckoning_49 : decode cX5_takeReckoning 49 = .ok (.bipush 47, 2) := wn_at gdX5_takeReckoning_44 3 rfl
theorem dX5_takeReckoning_51 : decode cX5_takeReckoning 51 = .ok (.invokevirtual 55, 3) := wn_at gdX5_takeReckoning_44 4 rfl
theorem dX5_takeReckoning_54 : decode cX5_takeReckoning 54 = .ok (.ifCond .eq 8, 3) := wn_at gdX5_takeReckoning_44 5 rfl
theorem dX5_takeReckoning_57 : decode cX5_takeReckoning 57 = .ok (.bipush 10, 2) := wn_at gdX5_takeReckoning_44 6 rfl
theorem dX5_takeReckoning_59 : decode cX5_takeReckoning 59 = .ok (.goto 4, 3) := wn_at gdX5_takeReckoning_44 7 rfl
theorem dX5_takeReckoning_62 : decode cX5_takeReckoning 62 = .ok (.iconst (-1), 1) := wn_at gdX5_takeReckoning_44 8 rfl
theorem dX5_takeReckoning_63 : decode cX5_takeReckoning 63 = .ok (.ireturn, 1) := wn_at gdX5_takeReckoning_44 9 rfl
theorem gdX5_takeJoining_0 : ∀ e ∈ ([(0, .aload_n 0, 1), (1, .getfield 35, 3), (4, .ldc 130, 2), (6, .invokevirtual 68, 3), (9, .ifCond .eq 5, 3), (12, .iconst 5, 1), (13, .ireturn, 1), (14, .aload_n 0, 1), (15, .getfield 35, 3), (18, .ldc 132, 2)] : List (Nat × Instr × Nat)), decode cX5_takeJoining e.1 = .ok e.2 := wn_all _ 0 (by decide +kernel)
theorem dX5_takeJoining_0 : decode cX5_takeJoining 0 = .ok (.aload_n 0, 1) := wn_at gdX5_takeJoining_0 0 rfl
theorem dX5_takeJoining_1 : decode cX5_takeJoining 1 = .ok (.getfield 35, 3) := wn_at gdX5_takeJoining_0 1 rfl
theorem dX5_takeJoining_4 : decode cX5_takeJoining 4 = .ok (.ldc 130, 2) := wn_at gdX5_takeJoining_0 2 rfl
theorem dX5_takeJoining_6 : decode cX5_takeJoining 6 = .ok (.invokevirtual 68, 3) := wn_at gdX5_takeJoining_0 3 rfl
theorem dX5_takeJoining_9 : decode cX5_takeJoining 9 = .ok (.ifCond .eq 5, 3) := wn_at gdX5_takeJoining_0 4 rfl
theorem dX5_takeJoining_12 : decode cX5_takeJoining 12 = .ok (.iconst 5, 1) := wn_at gdX5_takeJoining_0 5 rfl
theorem dX5_takeJoining_13 : decode cX5_takeJoining 13 = .ok (.ireturn, 1) := wn_at gdX5_takeJoining_0 6 rfl
theorem dX5_takeJoining_14 : decode cX5_takeJoining 14 = .ok (.aload_n 0, 1) := wn_at gdX5_takeJoining_0 7 rfl
theorem dX5_takeJoining_15 : decode cX5_takeJoining 15 = .ok (.getfield 35, 3) := wn_at gdX5_takeJoining_0 8 rfl
theorem dX5_takeJoining_18 : decode cX5_takeJoining 18 = .ok (.ldc 132, 2) := wn_at gdX5_takeJoining_0 9 rfl
theorem gdX5_takeJoining_20 : ∀ e ∈ ([(20, .invokevirtual 68, 3), (23, .ifCond .eq 8, 3), (26, .bipush 6, 2), (28, .goto 4, 3), (31, .iconst (-1), 1), (32, .ireturn, 1)] : List (Nat × Instr × Nat)), decode cX5_takeJoining e.1 = .ok e.2 := wn_all _ 20 (by decide +kernel)
theorem dX5_takeJoining_20 : decode cX5_takeJoining 20 = .ok (.invokevirtual 68, 3) := wn_at gdX5_takeJoining_20 0 rfl
theorem dX5_takeJoining_23 : decode cX5_takeJoining 23 = .ok (.ifCond .eq 8, 3) := wn_at gdX5_takeJoining_20 1 rfl
theorem dX5_takeJoining_26 : decode cX5_takeJoining 26 = .ok (.bipush 6, 2) := wn_at gdX5_takeJoining_20 2 rfl
theorem dX5_takeJoining_28 : decode cX5_takeJoining 28 = .ok (.goto 4, 3) := wn_at gdX5_takeJoining_20 3 rfl
theorem dX5_takeJoining_31 : decode cX5_takeJoining 31 = .ok (.iconst (-1), 1) := wn_at gdX5_takeJoining_20 4 rfl
theorem dX5_takeJoining_32 : decode cX5_takeJoining 32 = .ok (.ireturn, 1) := wn_at gdX5_takeJoining_20 5 rfl
theorem gdX5_takeComparing_0 : ∀ e ∈ ([(0, .aload_n 0, 1), (1, .getfield 35, 3), (4, .bipush 61, 2), (6, .invokevirtual 55, 3), (9, .ifCond .eq 6, 3), (12, .bipush 13, 2), (14, .ireturn, 1), (15, .aload_n 0, 1), (16, .getfield 35, 3), (19, .bipush 60, 2)] : List (Nat × Instr × Nat)), decode cX5_takeComparing e.1 = .ok e.2 := wn_all _ 0 (by decide +kernel)
theorem dX5_takeComparing_0 : decode cX5_takeComparing 0 = .ok (.aload_n 0, 1) := wn_at gdX5_takeComparing_0 0 rfl
theorem dX5_takeComparing_1 : decode cX5_takeComparing 1 = .ok (.getfield 35, 3) := wn_at gdX5_takeComparing_0 1 rfl
theorem dX5_takeComparing_4 : decode cX5_takeComparing 4 = .ok (.bipush 61, 2) := wn_at gdX5_takeComparing_0 2 rfl
theorem dX5_takeComparing_6 : decode cX5_takeComparing 6 = .ok (.invokevirtual 55, 3) := wn_at gdX5_takeComparing_0 3 rfl
theorem dX5_takeComparing_9 : decode cX5_takeComparing 9 = .ok (.ifCond .eq 6, 3) := wn_at gdX5_takeComparing_0 4 rfl
theorem dX5_takeComparing_12 : decode cX5_takeComparing 12 = .ok (.bipush 13, 2) := wn_at gdX5_takeComparing_0 5 rfl
theorem dX5_takeComparing_14 : decode cX5_takeComparing 14 = .ok (.ireturn, 1) := wn_at gdX5_takeComparing_0 6 rfl
theorem dX5_takeComparing_15 : decode cX5_takeComparing 15 = .ok (.aload_n 0, 1) := wn_at gdX5_takeComparing_0 7 rfl
theorem dX5_takeComparing_16 : decode cX5_takeComparing 16 = .ok (.getfield 35, 3) := wn_at gdX5_takeComparing_0 8 rfl
theorem dX5_takeComparing_19 : decode cX5_takeComparing 19 = .ok (.bipush 60, 2) := wn_at gdX5_takeComparing_0 9 rfl
theorem gdX5_takeComparing_21 : ∀ e ∈ ([(21, .invokevirtual 55, 3), (24, .istore_n 1, 1), (25, .iload_n 1, 1), (26, .ifCond .ne 17, 3), (29, .aload_n 0, 1), (30, .getfield 35, 3), (33, .bipush 62, 2), (35, .invokevirtual 55, 3), (38, .ifCond .ne 5, 3), (41, .iconst (-1), 1)] : List (Nat × Instr × Nat)), decode cX5_takeComparing e.1 = .ok e.2 := wn_all _ 21 (by decide +kernel)
theorem dX5_takeComparing_21 : decode cX5_takeComparing 21 = .ok (.invokevirtual 55, 3) := wn_at gdX5_takeComparing_21 0 rfl
theorem dX5_takeComparing_24 : decode cX5_takeComparing 24 = .ok (.istore_n 1, 1) := wn_at gdX5_takeComparing_21 1 rfl
theorem dX5_takeComparing_25 : decode cX5_takeComparing 25 = .ok (.iload_n 1, 1) := wn_at gdX5_takeComparing_21 2 rfl
theorem dX5_takeComparing_26 : decode cX5_takeComparing 26 = .ok (.ifCond .ne 17, 3) := wn_at gdX5_takeComparing_21 3 rfl
theorem dX5_takeComparing_29 : decode cX5_takeComparing 29 = .ok (.aload_n 0, 1) := wn_at gdX5_takeComparing_21 4 rfl
theorem dX5_takeComparing_30 : decode cX5_takeComparing 30 = .ok (.getfield 35, 3) := wn_at gdX5_takeComparing_21 5 rfl
theorem dX5_takeComparing_33 : decode cX5_takeComparing 33 = .ok (.bipush 62, 2) := wn_at gdX5_takeComparing_21 6 rfl
theorem dX5_takeComparing_35 : decode cX5_takeComparing 35 = .ok (.invokevirtual 55, 3) := wn_at gdX5_takeComparing_21 7 rfl
theorem dX5_takeComparing_38 : decode cX5_takeComparing 38 = .ok (.ifCond .ne 5, 3) := wn_at gdX5_takeComparing_21 8 rfl
theorem dX5_takeComparing_41 : decode cX5_takeComparing 41 = .ok (.iconst (-1), 1) := wn_at gdX5_takeComparing_21 9 rfl
theorem gdX5_takeComparing_42 : ∀ e ∈ ([(42, .ireturn, 1), (43, .aload_n 0, 1), (44, .getfield 35, 3), (47, .aload_n 0, 1), (48, .getfield 35, 3), (51, .getfield 59, 3), (54, .invokevirtual 134, 3), (57, .bipush 61, 2), (59, .if_icmp .eq 15, 3), (62, .iload_n 1, 1)] : List (Nat × Instr × Nat)), decode cX5_takeComparing e.1 = .ok e.2 := wn_all _ 42 (by decide +kernel)
theorem dX5_takeComparing_42 : decode cX5_takeComparing 42 = .ok (.ireturn, 1) := wn_at gdX5_takeComparing_42 0 rfl
theorem dX5_takeComparing_43 : decode cX5_takeComparing 43 = .ok (.aload_n 0, 1) := wn_at gdX5_takeComparing_42 1 rfl
theorem dX5_takeComparing_44 : decode cX5_takeComparing 44 = .ok (.getfield 35, 3) := wn_at gdX5_takeComparing_42 2 rfl
theorem dX5_takeComparing_47 : decode cX5_takeComparing 47 = .ok (.aload_n 0, 1) := wn_at gdX5_takeComparing_42 3 rfl
theorem dX5_takeComparing_48 : decode cX5_takeComparing 48 = .ok (.getfield 35, 3) := wn_at gdX5_takeComparing_42 4 rfl
theorem dX5_takeComparing_51 : decode cX5_takeComparing 51 = .ok (.getfield 59, 3) := wn_at gdX5_takeComparing_42 5 rfl
theorem dX5_takeComparing_54 : decode cX5_takeComparing 54 = .ok (.invokevirtual 134, 3) := wn_at gdX5_takeComparing_42 6 rfl
theorem dX5_takeComparing_57 : decode cX5_takeComparing 57 = .ok (.bipush 61, 2) := wn_at gdX5_takeComparing_42 7 rfl
theorem dX5_takeComparing_59 : decode cX5_takeComparing 59 = .ok (.if_icmp .eq 15, 3) := wn_at gdX5_takeComparing_42 8 rfl
theorem dX5_takeComparing_62 : decode cX5_takeComparing 62 = .ok (.iload_n 1, 1) := wn_at gdX5_takeComparing_42 9 rfl
theorem gdX5_takeComparing_63 : ∀ e ∈ ([(63, .ifCond .eq 8, 3), (66, .bipush 11, 2), (68, .goto 5, 3), (71, .bipush 15, 2), (73, .ireturn, 1), (74, .aload_n 0, 1), (75, .getfield 35, 3), (78, .dup, 1), (79, .getfield 59, 3), (82, .iconst 1, 1)] : List (Nat × Instr × Nat)), decode cX5_takeComparing e.1 = .ok e.2 := wn_all _ 63 (by decide +kernel)
theorem dX5_takeComparing_63 : decode cX5_takeComparing 63 = .ok (.ifCond .eq 8, 3) := wn_at gdX5_takeComparing_63 0 rfl
theorem dX5_takeComparing_66 : decode cX5_takeComparing 66 = .ok (.bipush 11, 2) := wn_at gdX5_takeComparing_63 1 rfl
theorem dX5_takeComparing_68 : decode cX5_takeComparing 68 = .ok (.goto 5, 3) := wn_at gdX5_takeComparing_63 2 rfl
theorem dX5_takeComparing_71 : decode cX5_takeComparing 71 = .ok (.bipush 15, 2) := wn_at gdX5_takeComparing_63 3 rfl
theorem dX5_takeComparing_73 : decode cX5_takeComparing 73 = .ok (.ireturn, 1) := wn_at gdX5_takeComparing_63 4 rfl
theorem dX5_takeComparing_74 : decode cX5_takeComparing 74 = .ok (.aload_n 0, 1) := wn_at gdX5_takeComparing_63 5 rfl
theorem dX5_takeComparing_75 : decode cX5_takeComparing 75 = .ok (.getfield 35, 3) := wn_at gdX5_takeComparing_63 6 rfl
theorem dX5_takeComparing_78 : decode cX5_takeComparing 78 = .ok (.dup, 1) := wn_at gdX5_takeComparing_63 7 rfl
theorem dX5_takeComparing_79 : decode cX5_takeComparing 79 = .ok (.getfield 59, 3) := wn_at gdX5_takeComparing_63 8 rfl
theorem dX5_takeComparing_82 : decode cX5_takeComparing 82 = .ok (.iconst 1, 1) := wn_at gdX5_takeComparing_63 9 rfl
theorem gdX5_takeComparing_83 : ∀ e ∈ ([(83, .iadd, 1), (84, .putfield 59, 3), (87, .iload_n 1, 1), (88, .ifCond .eq 8, 3), (91, .bipush 12, 2), (93, .goto 5, 3), (96, .bipush 14, 2), (98, .ireturn, 1)] : List (Nat × Instr × Nat)), decode cX5_takeComparing e.1 = .ok e.2 := wn_all _ 83 (by decide +kernel)
theorem dX5_takeComparing_83 : decode cX5_takeComparing 83 = .ok (.iadd, 1) := wn_at gdX5_takeComparing_83 0 rfl
theorem dX5_takeComparing_84 : decode cX5_takeComparing 84 = .ok (.putfield 59, 3) := wn_at gdX5_takeComparing_83 1 rfl
theorem dX5_takeComparing_87 : decode cX5_takeComparing 87 = .ok (.iload_n 1, 1) := wn_at gdX5_takeComparing_83 2 rfl
theorem dX5_takeComparing_88 : decode cX5_takeComparing 88 = .ok (.ifCond .eq 8, 3) := wn_at gdX5_takeComparing_83 3 rfl
theorem dX5_takeComparing_91 : decode cX5_takeComparing 91 = .ok (.bipush 12, 2) := wn_at gdX5_takeComparing_83 4 rfl
theorem dX5_takeComparing_93 : decode cX5_takeComparing 93 = .ok (.goto 5, 3) := wn_at gdX5_takeComparing_83 5 rfl
theorem dX5_takeComparing_96 : decode cX5_takeComparing 96 = .ok (.bipush 14, 2) := wn_at gdX5_takeComparing_83 6 rfl
theorem dX5_takeComparing_98 : decode cX5_takeComparing 98 = .ok (.ireturn, 1) := wn_at gdX5_takeComparing_83 7 rfl
theorem gdX5_readValue_0 : ∀ e ∈ ([(0, .aload_n 0, 1), (1, .getfield 35, 3), (4, .invokevirtual 138, 3), (7, .aload_n 0, 1), (8, .getfield 35, 3), (11, .aload_n 0, 1), (12, .getfield 35, 3), (15, .getfield 59, 3), (18, .invokevirtual 141, 3), (21, .istore_n 1, 1)] : List (Nat × Instr × Nat)), decode cX5_readValue e.1 = .ok e.2 := wn_all _ 0 (by decide +kernel)
theorem dX5_readValue_0 : decode cX5_readValue 0 = .ok (.aload_n 0, 1) := wn_at gdX5_readValue_0 0 rfl
theorem dX5_readValue_1 : decode cX5_readValue 1 = .ok (.getfield 35, 3) := wn_at gdX5_readValue_0 1 rfl
theorem dX5_readValue_4 : decode cX5_readValue 4 = .ok (.invokevirtual 138, 3) := wn_at gdX5_readValue_0 2 rfl
theorem dX5_readValue_7 : decode cX5_readValue 7 = .ok (.aload_n 0, 1) := wn_at gdX5_readValue_0 3 rfl
theorem dX5_readValue_8 : decode cX5_readValue 8 = .ok (.getfield 35, 3) := wn_at gdX5_readValue_0 4 rfl
theorem dX5_readValue_11 : decode cX5_readValue 11 = .ok (.aload_n 0, 1) := wn_at gdX5_readValue_0 5 rfl
theorem dX5_readValue_12 : decode cX5_readValue 12 = .ok (.getfield 35, 3) := wn_at gdX5_readValue_0 6 rfl
theorem dX5_readValue_15 : decode cX5_readValue 15 = .ok (.getfield 59, 3) := wn_at gdX5_readValue_0 7 rfl
theorem dX5_readValue_18 : decode cX5_readValue 18 = .ok (.invokevirtual 141, 3) := wn_at gdX5_readValue_0 8 rfl
theorem dX5_readValue_21 : decode cX5_readValue 21 = .ok (.istore_n 1, 1) := wn_at gdX5_readValue_0 9 rfl
theorem gdX5_readValue_22 : ∀ e ∈ ([(22, .iload_n 1, 1), (23, .ifCond .eq 16, 3), (26, .aload_n 0, 1), (27, .getfield 35, 3), (30, .iconst 0, 1), (31, .ldc 144, 2), (33, .invokevirtual 75, 3), (36, .goto 7, 3), (39, .aload_n 0, 1), (40, .invokevirtual 145, 3)] : List (Nat × Instr × Nat)), decode cX5_readValue e.1 = .ok e.2 := wn_all _ 22 (by decide +kernel)
theorem dX5_readValue_22 : decode cX5_readValue 22 = .ok (.iload_n 1, 1) := wn_at gdX5_readValue_22 0 rfl
theorem dX5_readValue_23 : decode cX5_readValue 23 = .ok (.ifCond .eq 16, 3) := wn_at gdX5_readValue_22 1 rfl
theorem dX5_readValue_26 : decode cX5_readValue 26 = .ok (.aload_n 0, 1) := wn_at gdX5_readValue_22 2 rfl
theorem dX5_readValue_27 : decode cX5_readValue 27 = .ok (.getfield 35, 3) := wn_at gdX5_readValue_22 3 rfl
theorem dX5_readValue_30 : decode cX5_readValue 30 = .ok (.iconst 0, 1) := wn_at gdX5_readValue_22 4 rfl
theorem dX5_readValue_31 : decode cX5_readValue 31 = .ok (.ldc 144, 2) := wn_at gdX5_readValue_22 5 rfl
theorem dX5_readValue_33 : decode cX5_readValue 33 = .ok (.invokevirtual 75, 3) := wn_at gdX5_readValue_22 6 rfl
theorem dX5_readValue_36 : decode cX5_readValue 36 = .ok (.goto 7, 3) := wn_at gdX5_readValue_22 7 rfl
theorem dX5_readValue_39 : decode cX5_readValue 39 = .ok (.aload_n 0, 1) := wn_at gdX5_readValue_22 8 rfl
theorem dX5_readValue_40 : decode cX5_readValue 40 = .ok (.invokevirtual 145, 3) := wn_at gdX5_readValue_22 9 rfl
theorem gdX5_readValue_43 : ∀ e ∈ ([(43, .istore_n 2, 1), (44, .iload_n 2, 1), (45, .ifCond .ge 23, 3), (48, .iload_n 1, 1), (49, .ifCond .ne 19, 3), (52, .aload_n 0, 1), (53, .getfield 35, 3), (56, .aload_n 0, 1), (57, .getfield 35, 3), (60, .getfield 59, 3)] : List (Nat × Instr × Nat)), decode cX5_readValue e.1 = .ok e.2 := wn_all _ 43 (by decide +kernel)
theorem dX5_readValue_43 : decode cX5_readValue 43 = .ok (.istore_n 2, 1) := wn_at gdX5_readValue_43 0 rfl
theorem dX5_readValue_44 : decode cX5_readValue 44 = .ok (.iload_n 2, 1) := wn_at gdX5_readValue_43 1 rfl
theorem dX5_readValue_45 : decode cX5_readValue 45 = .ok (.ifCond .ge 23, 3) := wn_at gdX5_readValue_43 2 rfl
theorem dX5_readValue_48 : decode cX5_readValue 48 = .ok (.iload_n 1, 1) := wn_at gdX5_readValue_43 3 rfl
theorem dX5_readValue_49 : decode cX5_readValue 49 = .ok (.ifCond .ne 19, 3) := wn_at gdX5_readValue_43 4 rfl
theorem dX5_readValue_52 : decode cX5_readValue 52 = .ok (.aload_n 0, 1) := wn_at gdX5_readValue_43 5 rfl
theorem dX5_readValue_53 : decode cX5_readValue 53 = .ok (.getfield 35, 3) := wn_at gdX5_readValue_43 6 rfl
theorem dX5_readValue_56 : decode cX5_readValue 56 = .ok (.aload_n 0, 1) := wn_at gdX5_readValue_43 7 rfl
theorem dX5_readValue_57 : decode cX5_readValue 57 = .ok (.getfield 35, 3) := wn_at gdX5_readValue_43 8 rfl
theorem dX5_readValue_60 : decode cX5_readValue 60 = .ok (.getfield 59, 3) := wn_at gdX5_readValue_43 9 rfl
theorem gdX5_readValue_63 : ∀ e ∈ ([(63, .iconst 0, 1), (64, .invokevirtual 62, 3), (67, .ireturn, 1), (68, .iload_n 2, 1), (69, .ifCond .ge 5, 3), (72, .iconst 0, 1), (73, .ireturn, 1), (74, .aload_n 0, 1), (75, .invokevirtual 110, 3), (78, .ifCond .ne 5, 3)] : List (Nat × Instr × Nat)), decode cX5_readValue e.1 = .ok e.2 := wn_all _ 63 (by decide +kernel)
theorem dX5_readValue_63 : decode cX5_readValue 63 = .ok (.iconst 0, 1) := wn_at gdX5_readValue_63 0 rfl
theorem dX5_readValue_64 : decode cX5_readValue 64 = .ok (.invokevirtual 62, 3) := wn_at gdX5_readValue_63 1 rfl
theorem dX5_readValue_67 : decode cX5_readValue 67 = .ok (.ireturn, 1) := wn_at gdX5_readValue_63 2 rfl
theorem dX5_readValue_68 : decode cX5_readValue 68 = .ok (.iload_n 2, 1) := wn_at gdX5_readValue_63 3 rfl
theorem dX5_readValue_69 : decode cX5_readValue 69 = .ok (.ifCond .ge 5, 3) := wn_at gdX5_readValue_63 4 rfl
theorem dX5_readValue_72 : decode cX5_readValue 72 = .ok (.iconst 0, 1) := wn_at gdX5_readValue_63 5 rfl
theorem dX5_readValue_73 : decode cX5_readValue 73 = .ok (.ireturn, 1) := wn_at gdX5_readValue_63 6 rfl
theorem dX5_readValue_74 : decode cX5_readValue 74 = .ok (.aload_n 0, 1) := wn_at gdX5_readValue_63 7 rfl
theorem dX5_readValue_75 : decode cX5_readValue 75 = .ok (.invokevirtual 110, 3) := wn_at gdX5_readValue_63 8 rfl
theorem dX5_readValue_78 : decode cX5_readValue 78 = .ok (.ifCond .ne 5, 3) := wn_at gdX5_readValue_63 9 rfl
theorem gdX5_readValue_81 : ∀ e ∈ ([(81, .iconst 0, 1), (82, .ireturn, 1), (83, .aload_n 0, 1), (84, .getfield 18, 3), (87, .iload_n 1, 1), (88, .ifCond .eq 7, 3), (91, .iconst 2, 1), (92, .goto 4, 3), (95, .iconst 3, 1), (96, .iload_n 2, 1)] : List (Nat × Instr × Nat)), decode cX5_readValue e.1 = .ok e.2 := wn_all _ 81 (by decide +kernel)
theorem dX5_readValue_81 : decode cX5_readValue 81 = .ok (.iconst 0, 1) := wn_at gdX5_readValue_81 0 rfl
theorem dX5_readValue_82 : decode cX5_readValue 82 = .ok (.ireturn, 1) := wn_at gdX5_readValue_81 1 rfl
theorem dX5_readValue_83 : decode cX5_readValue 83 = .ok (.aload_n 0, 1) := wn_at gdX5_readValue_81 2 rfl
theorem dX5_readValue_84 : decode cX5_readValue 84 = .ok (.getfield 18, 3) := wn_at gdX5_readValue_81 3 rfl
theorem dX5_readValue_87 : decode cX5_readValue 87 = .ok (.iload_n 1, 1) := wn_at gdX5_readValue_81 4 rfl
theorem dX5_readValue_88 : decode cX5_readValue 88 = .ok (.ifCond .eq 7, 3) := wn_at gdX5_readValue_81 5 rfl
theorem dX5_readValue_91 : decode cX5_readValue 91 = .ok (.iconst 2, 1) := wn_at gdX5_readValue_81 6 rfl
theorem dX5_readValue_92 : decode cX5_readValue 92 = .ok (.goto 4, 3) := wn_at gdX5_readValue_81 7 rfl
theorem dX5_readValue_95 : decode cX5_readValue 95 = .ok (.iconst 3, 1) := wn_at gdX5_readValue_81 8 rfl
theorem dX5_readValue_96 : decode cX5_readValue 96 = .ok (.iload_n 2, 1) := wn_at gdX5_readValue_81 9 rfl
theorem gdX5_readValue_97 : ∀ e ∈ ([(97, .invokevirtual 84, 3), (100, .iconst 1, 1), (101, .ireturn, 1)] : List (Nat × Instr × Nat)), decode cX5_readValue e.1 = .ok e.2 := wn_all _ 97 (by decide +kernel)
theorem dX5_readValue_97 : decode cX5_readValue 97 = .ok (.invokevirtual 84, 3) := wn_at gdX5_readValue_97 0 rfl
theorem dX5_readValue_100 : decode cX5_readValue 100 = .ok (.iconst 1, 1) := wn_at gdX5_readValue_97 1 rfl
theorem dX5_readValue_101 : decode cX5_readValue 101 = .ok (.ireturn, 1) := wn_at gdX5_readValue_97 2 rfl
theorem gdX5_takeName_0 : ∀ e ∈ ([(0, .aload_n 0, 1), (1, .getfield 35, 3), (4, .ldc 148, 2), (6, .invokevirtual 68, 3), (9, .ifCond .eq 5, 3), (12, .iconst 0, 1), (13, .ireturn, 1), (14, .aload_n 0, 1), (15, .getfield 35, 3), (18, .ldc 150, 2)] : List (Nat × Instr × Nat)), decode cX5_takeName e.1 = .ok e.2 := wn_all _ 0 (by decide +kernel)
theorem dX5_takeName_0 : decode cX5_takeName 0 = .ok (.aload_n 0, 1) := wn_at gdX5_takeName_0 0 rfl
theorem dX5_takeName_1 : decode cX5_takeName 1 = .ok (.getfield 35, 3) := wn_at gdX5_takeName_0 1 rfl
theorem dX5_takeName_4 : decode cX5_takeName 4 = .ok (.ldc 148, 2) := wn_at gdX5_takeName_0 2 rfl
theorem dX5_takeName_6 : decode cX5_takeName 6 = .ok (.invokevirtual 68, 3) := wn_at gdX5_takeName_0 3 rfl
theorem dX5_takeName_9 : decode cX5_takeName 9 = .ok (.ifCond .eq 5, 3) := wn_at gdX5_takeName_0 4 rfl
theorem dX5_takeName_12 : decode cX5_takeName 12 = .ok (.iconst 0, 1) := wn_at gdX5_takeName_0 5 rfl
theorem dX5_takeName_13 : decode cX5_takeName 13 = .ok (.ireturn, 1) := wn_at gdX5_takeName_0 6 rfl
theorem dX5_takeName_14 : decode cX5_takeName 14 = .ok (.aload_n 0, 1) := wn_at gdX5_takeName_0 7 rfl
theorem dX5_takeName_15 : decode cX5_takeName 15 = .ok (.getfield 35, 3) := wn_at gdX5_takeName_0 8 rfl
theorem dX5_takeName_18 : decode cX5_takeName 18 = .ok (.ldc 150, 2) := wn_at gdX5_takeName_0 9 rfl
theorem gdX5_takeName_20 : ∀ e ∈ ([(20, .invokevirtual 68, 3), (23, .ifCond .eq 5, 3), (26, .iconst 1, 1), (27, .ireturn, 1), (28, .aload_n 0, 1), (29, .getfield 35, 3), (32, .ldc 152, 2), (34, .invokevirtual 68, 3), (37, .ifCond .eq 5, 3), (40, .iconst 2, 1)] : List (Nat × Instr × Nat)), decode cX5_takeName e.1 = .ok e.2 := wn_all _ 20 (by decide +kernel)
theorem dX5_takeName_20 : decode cX5_takeName 20 = .ok (.invokevirtual 68, 3) := wn_at gdX5_takeName_20 0 rfl
theorem dX5_takeName_23 : decode cX5_takeName 23 = .ok (.ifCond .eq 5, 3) := wn_at gdX5_takeName_20 1 rfl
theorem dX5_takeName_26 : decode cX5_takeName 26 = .ok (.iconst 1, 1) := wn_at gdX5_takeName_20 2 rfl
theorem dX5_takeName_27 : decode cX5_takeName 27 = .ok (.ireturn, 1) := wn_at gdX5_takeName_20 3 rfl
theorem dX5_takeName_28 : decode cX5_takeName 28 = .ok (.aload_n 0, 1) := wn_at gdX5_takeName_20 4 rfl
theorem dX5_takeName_29 : decode cX5_takeName 29 = .ok (.getfield 35, 3) := wn_at gdX5_takeName_20 5 rfl
theorem dX5_takeName_32 : decode cX5_takeName 32 = .ok (.ldc 152, 2) := wn_at gdX5_takeName_20 6 rfl
theorem dX5_takeName_34 : decode cX5_takeName 34 = .ok (.invokevirtual 68, 3) := wn_at gdX5_takeName_20 7 rfl
theorem dX5_takeName_37 : decode cX5_takeName 37 = .ok (.ifCond .eq 5, 3) := wn_at gdX5_takeName_20 8 rfl
theorem dX5_takeName_40 : decode cX5_takeName 40 = .ok (.iconst 2, 1) := wn_at gdX5_takeName_20 9 rfl
theorem gdX5_takeName_41 : ∀ e ∈ ([(41, .ireturn, 1), (42, .aload_n 0, 1), (43, .getfield 35, 3), (46, .ldc 154, 2), (48, .invokevirtual 68, 3), (51, .ifCond .eq 5, 3), (54, .iconst 3, 1), (55, .ireturn, 1), (56, .aload_n 0, 1), (57, .getfield 35, 3)] : List (Nat × Instr × Nat)), decode cX5_takeName e.1 = .ok e.2 := wn_all _ 41 (by decide +kernel)
theorem dX5_takeName_41 : decode cX5_takeName 41 = .ok (.ireturn, 1) := wn_at gdX5_takeName_41 0 rfl
theorem dX5_takeName_42 : decode cX5_takeName 42 = .ok (.aload_n 0, 1) := wn_at gdX5_takeName_41 1 rfl
theorem dX5_takeName_43 : decode cX5_takeName 43 = .ok (.getfield 35, 3) := wn_at gdX5_takeName_41 2 rfl
theorem dX5_takeName_46 : decode cX5_takeName 46 = .ok (.ldc 154, 2) := wn_at gdX5_takeName_41 3 rfl
theorem dX5_takeName_48 : decode cX5_takeName 48 = .ok (.invokevirtual 68, 3) := wn_at gdX5_takeName_41 4 rfl
theorem dX5_takeName_51 : decode cX5_takeName 51 = .ok (.ifCond .eq 5, 3) := wn_at gdX5_takeName_41 5 rfl
theorem dX5_takeName_54 : decode cX5_takeName 54 = .ok (.iconst 3, 1) := wn_at gdX5_takeName_41 6 rfl
theorem dX5_takeName_55 : decode cX5_takeName 55 = .ok (.ireturn, 1) := wn_at gdX5_takeName_41 7 rfl
theorem dX5_takeName_56 : decode cX5_takeName 56 = .ok (.aload_n 0, 1) := wn_at gdX5_takeName_41 8 rfl
theorem dX5_takeName_57 : decode cX5_takeName 57 = .ok (.getfield 35, 3) := wn_at gdX5_takeName_41 9 rfl
theorem gdX5_takeName_60 : ∀ e ∈ ([(60, .ldc 156, 2), (62, .invokevirtual 68, 3), (65, .ifCond .eq 5, 3), (68, .iconst 4, 1), (69, .ireturn, 1), (70, .aload_n 0, 1), (71, .getfield 35, 3), (74, .ldc 158, 2), (76, .invokevirtual 68, 3), (79, .ifCond .eq 5, 3)] : List (Nat × Instr × Nat)), decode cX5_takeName e.1 = .ok e.2 := wn_all _ 60 (by decide +kernel)
theorem dX5_takeName_60 : decode cX5_takeName 60 = .ok (.ldc 156, 2) := wn_at gdX5_takeName_60 0 rfl
theorem dX5_takeName_62 : decode cX5_takeName 62 = .ok (.invokevirtual 68, 3) := wn_at gdX5_takeName_60 1 rfl
theorem dX5_takeName_65 : decode cX5_takeName 65 = .ok (.ifCond .eq 5, 3) := wn_at gdX5_takeName_60 2 rfl
theorem dX5_takeName_68 : decode cX5_takeName 68 = .ok (.iconst 4, 1) := wn_at gdX5_takeName_60 3 rfl
theorem dX5_takeName_69 : decode cX5_takeName 69 = .ok (.ireturn, 1) := wn_at gdX5_takeName_60 4 rfl
theorem dX5_takeName_70 : decode cX5_takeName 70 = .ok (.aload_n 0, 1) := wn_at gdX5_takeName_60 5 rfl
theorem dX5_takeName_71 : decode cX5_takeName 71 = .ok (.getfield 35, 3) := wn_at gdX5_takeName_60 6 rfl
theorem dX5_takeName_74 : decode cX5_takeName 74 = .ok (.ldc 158, 2) := wn_at gdX5_takeName_60 7 rfl
theorem dX5_takeName_76 : decode cX5_takeName 76 = .ok (.invokevirtual 68, 3) := wn_at gdX5_takeName_60 8 rfl
theorem dX5_takeName_79 : decode cX5_takeName 79 = .ok (.ifCond .eq 5, 3) := wn_at gdX5_takeName_60 9 rfl
theorem gdX5_takeName_82 : ∀ e ∈ ([(82, .iconst 5, 1), (83, .ireturn, 1), (84, .aload_n 0, 1), (85, .getfield 35, 3), (88, .ldc 160, 2), (90, .invokevirtual 68, 3), (93, .ifCond .eq 6, 3), (96, .bipush 6, 2), (98, .ireturn, 1), (99, .aload_n 0, 1)] : List (Nat × Instr × Nat)), decode cX5_takeName e.1 = .ok e.2 := wn_all _ 82 (by decide +kernel)
theorem dX5_takeName_82 : decode cX5_takeName 82 = .ok (.iconst 5, 1) := wn_at gdX5_takeName_82 0 rfl
theorem dX5_takeName_83 : decode cX5_takeName 83 = .ok (.ireturn, 1) := wn_at gdX5_takeName_82 1 rfl
theorem dX5_takeName_84 : decode cX5_takeName 84 = .ok (.aload_n 0, 1) := wn_at gdX5_takeName_82 2 rfl
theorem dX5_takeName_85 : decode cX5_takeName 85 = .ok (.getfield 35, 3) := wn_at gdX5_takeName_82 3 rfl
theorem dX5_takeName_88 : decode cX5_takeName 88 = .ok (.ldc 160, 2) := wn_at gdX5_takeName_82 4 rfl
theorem dX5_takeName_90 : decode cX5_takeName 90 = .ok (.invokevirtual 68, 3) := wn_at gdX5_takeName_82 5 rfl
theorem dX5_takeName_93 : decode cX5_takeName 93 = .ok (.ifCond .eq 6, 3) := wn_at gdX5_takeName_82 6 rfl
theorem dX5_takeName_96 : decode cX5_takeName 96 = .ok (.bipush 6, 2) := wn_at gdX5_takeName_82 7 rfl
theorem dX5_takeName_98 : decode cX5_takeName 98 = .ok (.ireturn, 1) := wn_at gdX5_takeName_82 8 rfl
theorem dX5_takeName_99 : decode cX5_takeName 99 = .ok (.aload_n 0, 1) := wn_at gdX5_takeName_82 9 rfl
theorem gdX5_takeName_100 : ∀ e ∈ ([(100, .getfield 35, 3), (103, .ldc 162, 2), (105, .invokevirtual 68, 3), (108, .ifCond .eq 8, 3), (111, .bipush 7, 2), (113, .goto 4, 3), (116, .iconst (-1), 1), (117, .ireturn, 1)] : List (Nat × Instr × Nat)), decode cX5_takeName e.1 = .ok e.2 := wn_all _ 100 (by decide +kernel)
theorem dX5_takeName_100 : decode cX5_takeName 100 = .ok (.getfield 35, 3) := wn_at gdX5_takeName_100 0 rfl
theorem dX5_takeName_103 : decode cX5_takeName 103 = .ok (.ldc 162, 2) := wn_at gdX5_takeName_100 1 rfl
theorem dX5_takeName_105 : decode cX5_takeName 105 = .ok (.invokevirtual 68, 3) := wn_at gdX5_takeName_100 2 rfl
theorem dX5_takeName_108 : decode cX5_takeName 108 = .ok (.ifCond .eq 8, 3) := wn_at gdX5_takeName_100 3 rfl
theorem dX5_takeName_111 : decode cX5_takeName 111 = .ok (.bipush 7, 2) := wn_at gdX5_takeName_100 4 rfl
theorem dX5_takeName_113 : decode cX5_takeName 113 = .ok (.goto 4, 3) := wn_at gdX5_takeName_100 5 rfl
theorem dX5_takeName_116 : decode cX5_takeName 116 = .ok (.iconst (-1), 1) := wn_at gdX5_takeName_100 6 rfl
theorem dX5_takeName_117 : decode cX5_takeName 117 = .ok (.ireturn, 1) := wn_at gdX5_takeName_100 7 rfl
theorem gdX5_isRoomForOne_0 : ∀ e ∈ ([(0, .aload_n 0, 1), (1, .getfield 22, 3), (4, .bipush 60, 2), (6, .if_icmp .lt 19, 3), (9, .aload_n 0, 1), (10, .getfield 35, 3), (13, .aload_n 0, 1), (14, .getfield 35, 3), (17, .getfield 72, 3), (20, .iconst 3, 1)] : List (Nat × Instr × Nat)), decode cX5_isRoomForOne e.1 = .ok e.2 := wn_all _ 0 (by decide +kernel)
theorem dX5_isRoomForOne_0 : decode cX5_isRoomForOne 0 = .ok (.aload_n 0, 1) := wn_at gdX5_isRoomForOne_0 0 rfl
theorem dX5_isRoomForOne_1 : decode cX5_isRoomForOne 1 = .ok (.getfield 22, 3) := wn_at gdX5_isRoomForOne_0 1 rfl
theorem dX5_isRoomForOne_4 : decode cX5_isRoomForOne 4 = .ok (.bipush 60, 2) := wn_at gdX5_isRoomForOne_0 2 rfl
theorem dX5_isRoomForOne_6 : decode cX5_isRoomForOne 6 = .ok (.if_icmp .lt 19, 3) := wn_at gdX5_isRoomForOne_0 3 rfl
theorem dX5_isRoomForOne_9 : decode cX5_isRoomForOne 9 = .ok (.aload_n 0, 1) := wn_at gdX5_isRoomForOne_0 4 rfl
theorem dX5_isRoomForOne_10 : decode cX5_isRoomForOne 10 = .ok (.getfield 35, 3) := wn_at gdX5_isRoomForOne_0 5 rfl
theorem dX5_isRoomForOne_13 : decode cX5_isRoomForOne 13 = .ok (.aload_n 0, 1) := wn_at gdX5_isRoomForOne_0 6 rfl
theorem dX5_isRoomForOne_14 : decode cX5_isRoomForOne 14 = .ok (.getfield 35, 3) := wn_at gdX5_isRoomForOne_0 7 rfl
theorem dX5_isRoomForOne_17 : decode cX5_isRoomForOne 17 = .ok (.getfield 72, 3) := wn_at gdX5_isRoomForOne_0 8 rfl
theorem dX5_isRoomForOne_20 : decode cX5_isRoomForOne 20 = .ok (.iconst 3, 1) := wn_at gdX5_isRoomForOne_0 9 rfl
theorem gdX5_isRoomForOne_21 : ∀ e ∈ ([(21, .invokevirtual 62, 3), (24, .ireturn, 1), (25, .aload_n 0, 1), (26, .dup, 1), (27, .getfield 22, 3), (30, .iconst 1, 1), (31, .iadd, 1), (32, .putfield 22, 3), (35, .iconst 1, 1), (36, .ireturn, 1)] : List (Nat × Instr × Nat)), decode cX5_isRoomForOne e.1 = .ok e.2 := wn_all _ 21 (by decide +kernel)
theorem dX5_isRoomForOne_21 : decode cX5_isRoomForOne 21 = .ok (.invokevirtual 62, 3) := wn_at gdX5_isRoomForOne_21 0 rfl
theorem dX5_isRoomForOne_24 : decode cX5_isRoomForOne 24 = .ok (.ireturn, 1) := wn_at gdX5_isRoomForOne_21 1 rfl
theorem dX5_isRoomForOne_25 : decode cX5_isRoomForOne 25 = .ok (.aload_n 0, 1) := wn_at gdX5_isRoomForOne_21 2 rfl
theorem dX5_isRoomForOne_26 : decode cX5_isRoomForOne 26 = .ok (.dup, 1) := wn_at gdX5_isRoomForOne_21 3 rfl
theorem dX5_isRoomForOne_27 : decode cX5_isRoomForOne 27 = .ok (.getfield 22, 3) := wn_at gdX5_isRoomForOne_21 4 rfl
theorem dX5_isRoomForOne_30 : decode cX5_isRoomForOne 30 = .ok (.iconst 1, 1) := wn_at gdX5_isRoomForOne_21 5 rfl
theorem dX5_isRoomForOne_31 : decode cX5_isRoomForOne 31 = .ok (.iadd, 1) := wn_at gdX5_isRoomForOne_21 6 rfl
theorem dX5_isRoomForOne_32 : decode cX5_isRoomForOne 32 = .ok (.putfield 22, 3) := wn_at gdX5_isRoomForOne_21 7 rfl
theorem dX5_isRoomForOne_35 : decode cX5_isRoomForOne 35 = .ok (.iconst 1, 1) := wn_at gdX5_isRoomForOne_21 8 rfl
theorem dX5_isRoomForOne_36 : decode cX5_isRoomForOne 36 = .ok (.ireturn, 1) := wn_at gdX5_isRoomForOne_21 9 rfl
theorem gdX6_init_0 : ∀ e ∈ ([(0, .aload_n 0, 1), (1, .invokespecial 1, 3), (4, .aload_n 0, 1), (5, .new 7, 3), (8, .dup, 1), (9, .invokespecial 9, 3), (12, .putfield 10, 3), (15, .aload_n 0, 1), (16, .new 16, 3), (19, .dup, 1)] : List (Nat × Instr × Nat)), decode cX6_init e.1 = .ok e.2 := wn_all _ 0 (by decide +kernel)
theorem dX6_init_0 : decode cX6_init 0 = .ok (.aload_n 0, 1) := wn_at gdX6_init_0 0 rfl
theorem dX6_init_1 : decode cX6_init 1 = .ok (.invokespecial 1, 3) := wn_at gdX6_init_0 1 rfl
theorem dX6_init_4 : decode cX6_init 4 = .ok (.aload_n 0, 1) := wn_at gdX6_init_0 2 rfl
theorem dX6_init_5 : decode cX6_init 5 = .ok (.new 7, 3) := wn_at gdX6_init_0 3 rfl
theorem dX6_init_8 : decode cX6_init 8 = .ok (.dup, 1) := wn_at gdX6_init_0 4 rfl
theorem dX6_init_9 : decode cX6_init 9 = .ok (.invokespecial 9, 3) := wn_at gdX6_init_0 5 rfl
theorem dX6_init_12 : decode cX6_init 12 = .ok (.putfield 10, 3) := wn_at gdX6_init_0 6 rfl
theorem dX6_init_15 : decode cX6_init 15 = .ok (.aload_n 0, 1) := wn_at gdX6_init_0 7 rfl
theorem dX6_init_16 : decode cX6_init 16 = .ok (.new 16, 3) := wn_at gdX6_init_0 8 rfl
theorem dX6_init_19 : decode cX6_init 19 = .ok (.dup, 1) := wn_at gdX6_init_0 9 rfl
theorem gdX6_init_20 : ∀ e ∈ ([(20, .invokespecial 18, 3), (23, .putfield 19, 3), (26, .aload_n 0, 1), (27, .new 23, 3), (30, .dup, 1), (31, .invokespecial 25, 3), (34, .putfield 26, 3), (37, .aload_n 0, 1), (38, .iconst 0, 1), (39, .putfield 30, 3)] : List (Nat × Instr × Nat)), decode cX6_init e.1 = .ok e.2 := wn_all _ 20 (by decide +kernel)
theorem dX6_init_20 : decode cX6_init 20 = .ok (.invokespecial 18, 3) := wn_at gdX6_init_20 0 rfl
theorem dX6_init_23 : decode cX6_init 23 = .ok (.putfield 19, 3) := wn_at gdX6_init_20 1 rfl
theorem dX6_init_26 : decode cX6_init 26 = .ok (.aload_n 0, 1) := wn_at gdX6_init_20 2 rfl
theorem dX6_init_27 : decode cX6_init 27 = .ok (.new 23, 3) := wn_at gdX6_init_20 3 rfl
theorem dX6_init_30 : decode cX6_init 30 = .ok (.dup, 1) := wn_at gdX6_init_20 4 rfl
theorem dX6_init_31 : decode cX6_init 31 = .ok (.invokespecial 25, 3) := wn_at gdX6_init_20 5 rfl
theorem dX6_init_34 : decode cX6_init 34 = .ok (.putfield 26, 3) := wn_at gdX6_init_20 6 rfl
theorem dX6_init_37 : decode cX6_init 37 = .ok (.aload_n 0, 1) := wn_at gdX6_init_20 7 rfl
theorem dX6_init_38 : decode cX6_init 38 = .ok (.iconst 0, 1) := wn_at gdX6_init_20 8 rfl
theorem dX6_init_39 : decode cX6_init 39 = .ok (.putfield 30, 3) := wn_at gdX6_init_20 9 rfl
theorem gdX6_init_42 : ∀ e ∈ ([(42, .aload_n 0, 1), (43, .iconst 0, 1), (44, .putfield 34, 3), (47, .return_, 1)] : List (Nat × Instr × Nat)), decode cX6_init e.1 = .ok e.2 := wn_all _ 42 (by decide +kernel)
theorem dX6_init_42 : decode cX6_init 42 = .ok (.aload_n 0, 1) := wn_at gdX6_init_42 0 rfl
theorem dX6_init_43 : decode cX6_init 43 = .ok (.iconst 0, 1) := wn_at gdX6_init_42 1 rfl
theorem dX6_init_44 : decode cX6_init 44 = .ok (.putfield 34, 3) := wn_at gdX6_init_42 2 rfl
theorem dX6_init_47 : decode cX6_init 47 = .ok (.return_, 1) := wn_at gdX6_init_42 3 rfl
theorem gdX6_copyFrom_0 : ∀ e ∈ ([(0, .aload_n 0, 1), (1, .getfield 10, 3), (4, .aload_n 1, 1), (5, .getfield 10, 3), (8, .invokevirtual 38, 3), (11, .aload_n 0, 1), (12, .getfield 19, 3), (15, .aload_n 1, 1), (16, .getfield 19, 3), (19, .invokevirtual 42, 3)] : List (Nat × Instr × Nat)), decode cX6_copyFrom e.1 = .ok e.2 := wn_all _ 0 (by decide +kernel)
theorem dX6_copyFrom_0 : decode cX6_copyFrom 0 = .ok (.aload_n 0, 1) := wn_at gdX6_copyFrom_0 0 rfl
theorem dX6_copyFrom_1 : decode cX6_copyFrom 1 = .ok (.getfield 10, 3) := wn_at gdX6_copyFrom_0 1 rfl
theorem dX6_copyFrom_4 : decode cX6_copyFrom 4 = .ok (.aload_n 1, 1) := wn_at gdX6_copyFrom_0 2 rfl
theorem dX6_copyFrom_5 : decode cX6_copyFrom 5 = .ok (.getfield 10, 3) := wn_at gdX6_copyFrom_0 3 rfl
theorem dX6_copyFrom_8 : decode cX6_copyFrom 8 = .ok (.invokevirtual 38, 3) := wn_at gdX6_copyFrom_0 4 rfl
theorem dX6_copyFrom_11 : decode cX6_copyFrom 11 = .ok (.aload_n 0, 1) := wn_at gdX6_copyFrom_0 5 rfl
theorem dX6_copyFrom_12 : decode cX6_copyFrom 12 = .ok (.getfield 19, 3) := wn_at gdX6_copyFrom_0 6 rfl
theorem dX6_copyFrom_15 : decode cX6_copyFrom 15 = .ok (.aload_n 1, 1) := wn_at gdX6_copyFrom_0 7 rfl
theorem dX6_copyFrom_16 : decode cX6_copyFrom 16 = .ok (.getfield 19, 3) := wn_at gdX6_copyFrom_0 8 rfl
theorem dX6_copyFrom_19 : decode cX6_copyFrom 19 = .ok (.invokevirtual 42, 3) := wn_at gdX6_copyFrom_0 9 rfl
theorem gdX6_copyFrom_22 : ∀ e ∈ ([(22, .aload_n 0, 1), (23, .getfield 26, 3), (26, .aload_n 1, 1), (27, .getfield 26, 3), (30, .invokevirtual 45, 3), (33, .aload_n 0, 1), (34, .aload_n 1, 1), (35, .getfield 30, 3), (38, .putfield 30, 3), (41, .return_, 1)] : List (Nat × Instr × Nat)), decode cX6_copyFrom e.1 = .ok e.2 := wn_all _ 22 (by decide +kernel)
theorem dX6_copyFrom_22 : decode cX6_copyFrom 22 = .ok (.aload_n 0, 1) := wn_at gdX6_copyFrom_22 0 rfl
theorem dX6_copyFrom_23 : decode cX6_copyFrom 23 = .ok (.getfield 26, 3) := wn_at gdX6_copyFrom_22 1 rfl
theorem dX6_copyFrom_26 : decode cX6_copyFrom 26 = .ok (.aload_n 1, 1) := wn_at gdX6_copyFrom_22 2 rfl
theorem dX6_copyFrom_27 : decode cX6_copyFrom 27 = .ok (.getfield 26, 3) := wn_at gdX6_copyFrom_22 3 rfl
theorem dX6_copyFrom_30 : decode cX6_copyFrom 30 = .ok (.invokevirtual 45, 3) := wn_at gdX6_copyFrom_22 4 rfl
theorem dX6_copyFrom_33 : decode cX6_copyFrom 33 = .ok (.aload_n 0, 1) := wn_at gdX6_copyFrom_22 5 rfl
theorem dX6_copyFrom_34 : decode cX6_copyFrom 34 = .ok (.aload_n 1, 1) := wn_at gdX6_copyFrom_22 6 rfl
theorem dX6_copyFrom_35 : decode cX6_copyFrom 35 = .ok (.getfield 30, 3) := wn_at gdX6_copyFrom_22 7 rfl
theorem dX6_copyFrom_38 : decode cX6_copyFrom 38 = .ok (.putfield 30, 3) := wn_at gdX6_copyFrom_22 8 rfl
theorem dX6_copyFrom_41 : decode cX6_copyFrom 41 = .ok (.return_, 1) := wn_at gdX6_copyFrom_22 9 rfl
theorem gdX6_draw_0 : ∀ e ∈ ([(0, .aload_n 0, 1), (1, .aload_n 0, 1), (2, .getfield 30, 3), (5, .i2l, 1), (6, .ldc2_w 48, 3), (9, .lmul, 1), (10, .ldc2_w 50, 3), (13, .ladd, 1), (14, .ldc2_w 52, 3), (17, .land, 1)] : List (Nat × Instr × Nat)), decode cX6_draw e.1 = .ok e.2 := wn_all _ 0 (by decide +kernel)
theorem dX6_draw_0 : decode cX6_draw 0 = .ok (.aload_n 0, 1) := wn_at gdX6_draw_0 0 rfl
theorem dX6_draw_1 : decode cX6_draw 1 = .ok (.aload_n 0, 1) := wn_at gdX6_draw_0 1 rfl
theorem dX6_draw_2 : decode cX6_draw 2 = .ok (.getfield 30, 3) := wn_at gdX6_draw_0 2 rfl
theorem dX6_draw_5 : decode cX6_draw 5 = .ok (.i2l, 1) := wn_at gdX6_draw_0 3 rfl
theorem dX6_draw_6 : decode cX6_draw 6 = .ok (.ldc2_w 48, 3) := wn_at gdX6_draw_0 4 rfl
theorem dX6_draw_9 : decode cX6_draw 9 = .ok (.lmul, 1) := wn_at gdX6_draw_0 5 rfl
theorem dX6_draw_10 : decode cX6_draw 10 = .ok (.ldc2_w 50, 3) := wn_at gdX6_draw_0 6 rfl
theorem dX6_draw_13 : decode cX6_draw 13 = .ok (.ladd, 1) := wn_at gdX6_draw_0 7 rfl
theorem dX6_draw_14 : decode cX6_draw 14 = .ok (.ldc2_w 52, 3) := wn_at gdX6_draw_0 8 rfl
theorem dX6_draw_17 : decode cX6_draw 17 = .ok (.land, 1) := wn_at gdX6_draw_0 9 rfl
theorem gdX6_draw_18 : ∀ e ∈ ([(18, .l2i, 1), (19, .putfield 30, 3), (22, .aload_n 0, 1), (23, .getfield 30, 3), (26, .ldc 54, 2), (28, .idiv, 1), (29, .ireturn, 1)] : List (Nat × Instr × Nat)), decode cX6_draw e.1 = .ok e.2 := wn_all _ 18 (by decide +kernel)
theorem dX6_draw_18 : decode cX6_draw 18 = .ok (.l2i, 1) := wn_at gdX6_draw_18 0 rfl
theorem dX6_draw_19 : decode cX6_draw 19 = .ok (.putfield 30, 3) := wn_at gdX6_draw_18 1 rfl
theorem dX6_draw_22 : decode cX6_draw 22 = .ok (.aload_n 0, 1) := wn_at gdX6_draw_18 2 rfl
theorem dX6_draw_23 : decode cX6_draw 23 = .ok (.getfield 30, 3) := wn_at gdX6_draw_18 3 rfl
theorem dX6_draw_26 : decode cX6_draw 26 = .ok (.ldc 54, 2) := wn_at gdX6_draw_18 4 rfl
theorem dX6_draw_28 : decode cX6_draw 28 = .ok (.idiv, 1) := wn_at gdX6_draw_18 5 rfl
theorem dX6_draw_29 : decode cX6_draw 29 = .ok (.ireturn, 1) := wn_at gdX6_draw_18 6 rfl
theorem gdX7_init_0 : ∀ e ∈ ([(0, .aload_n 0, 1), (1, .invokespecial 3, 3), (4, .aload_n 0, 1), (5, .sipush 400, 3), (8, .newarray .byte, 2), (10, .putfield 9, 3), (13, .aload_n 0, 1), (14, .iconst 0, 1), (15, .putfield 15, 3), (18, .aload_n 0, 1)] : List (Nat × Instr × Nat)), decode cX7_init e.1 = .ok e.2 := wn_all _ 0 (by decide +kernel)
theorem dX7_init_0 : decode cX7_init 0 = .ok (.aload_n 0, 1) := wn_at gdX7_init_0 0 rfl
theorem dX7_init_1 : decode cX7_init 1 = .ok (.invokespecial 3, 3) := wn_at gdX7_init_0 1 rfl
theorem dX7_init_4 : decode cX7_init 4 = .ok (.aload_n 0, 1) := wn_at gdX7_init_0 2 rfl
theorem dX7_init_5 : decode cX7_init 5 = .ok (.sipush 400, 3) := wn_at gdX7_init_0 3 rfl
theorem dX7_init_8 : decode cX7_init 8 = .ok (.newarray .byte, 2) := wn_at gdX7_init_0 4 rfl
theorem dX7_init_10 : decode cX7_init 10 = .ok (.putfield 9, 3) := wn_at gdX7_init_0 5 rfl
theorem dX7_init_13 : decode cX7_init 13 = .ok (.aload_n 0, 1) := wn_at gdX7_init_0 6 rfl
theorem dX7_init_14 : decode cX7_init 14 = .ok (.iconst 0, 1) := wn_at gdX7_init_0 7 rfl
theorem dX7_init_15 : decode cX7_init 15 = .ok (.putfield 15, 3) := wn_at gdX7_init_0 8 rfl
theorem dX7_init_18 : decode cX7_init 18 = .ok (.aload_n 0, 1) := wn_at gdX7_init_0 9 rfl
theorem gdX7_init_19 : ∀ e ∈ ([(19, .iconst 0, 1), (20, .putfield 19, 3), (23, .aload_n 0, 1), (24, .iconst 0, 1), (25, .putfield 22, 3), (28, .aload_n 0, 1), (29, .iconst 0, 1), (30, .putfield 25, 3), (33, .return_, 1)] : List (Nat × Instr × Nat)), decode cX7_init e.1 = .ok e.2 := wn_all _ 19 (by decide +kernel)
theorem dX7_init_19 : decode cX7_init 19 = .ok (.iconst 0, 1) := wn_at gdX7_init_19 0 rfl
theorem dX7_init_20 : decode cX7_init 20 = .ok (.putfield 19, 3) := wn_at gdX7_init_19 1 rfl
theorem dX7_init_23 : decode cX7_init 23 = .ok (.aload_n 0, 1) := wn_at gdX7_init_19 2 rfl
theorem dX7_init_24 : decode cX7_init 24 = .ok (.iconst 0, 1) := wn_at gdX7_init_19 3 rfl
theorem dX7_init_25 : decode cX7_init 25 = .ok (.putfield 22, 3) := wn_at gdX7_init_19 4 rfl
theorem dX7_init_28 : decode cX7_init 28 = .ok (.aload_n 0, 1) := wn_at gdX7_init_19 5 rfl
theorem dX7_init_29 : decode cX7_init 29 = .ok (.iconst 0, 1) := wn_at gdX7_init_19 6 rfl
theorem dX7_init_30 : decode cX7_init 30 = .ok (.putfield 25, 3) := wn_at gdX7_init_19 7 rfl
theorem dX7_init_33 : decode cX7_init 33 = .ok (.return_, 1) := wn_at gdX7_init_19 8 rfl
theorem gdX7_put_0 : ∀ e ∈ ([(0, .bipush 24, 2), (2, .istore_n 2, 1), (3, .iload_n 2, 1), (4, .ifCond .lt 42, 3), (7, .aload_n 0, 1), (8, .getfield 15, 3), (11, .sipush 400, 3), (14, .if_icmp .ge 26, 3), (17, .aload_n 0, 1), (18, .getfield 9, 3)] : List (Nat × Instr × Nat)), decode cX7_put e.1 = .ok e.2 := wn_all _ 0 (by decide +kernel)
theorem dX7_put_0 : decode cX7_put 0 = .ok (.bipush 24, 2) := wn_at gdX7_put_0 0 rfl
theorem dX7_put_2 : decode cX7_put 2 = .ok (.istore_n 2, 1) := wn_at gdX7_put_0 1 rfl
theorem dX7_put_3 : decode cX7_put 3 = .ok (.iload_n 2, 1) := wn_at gdX7_put_0 2 rfl
theorem dX7_put_4 : decode cX7_put 4 = .ok (.ifCond .lt 42, 3) := wn_at gdX7_put_0 3 rfl
theorem dX7_put_7 : decode cX7_put 7 = .ok (.aload_n 0, 1) := wn_at gdX7_put_0 4 rfl
theorem dX7_put_8 : decode cX7_put 8 = .ok (.getfield 15, 3) := wn_at gdX7_put_0 5 rfl
theorem dX7_put_11 : decode cX7_put 11 = .ok (.sipush 400, 3) := wn_at gdX7_put_0 6 rfl
theorem dX7_put_14 : decode cX7_put 14 = .ok (.if_icmp .ge 26, 3) := wn_at gdX7_put_0 7 rfl
theorem dX7_put_17 : decode cX7_put 17 = .ok (.aload_n 0, 1) := wn_at gdX7_put_0 8 rfl
theorem dX7_put_18 : decode cX7_put 18 = .ok (.getfield 9, 3) := wn_at gdX7_put_0 9 rfl
theorem gdX7_put_21 : ∀ e ∈ ([(21, .aload_n 0, 1), (22, .getfield 15, 3), (25, .iload_n 1, 1), (26, .iload_n 2, 1), (27, .ishr, 1), (28, .i2b, 1), (29, .bastore, 1), (30, .aload_n 0, 1), (31, .dup, 1), (32, .getfield 15, 3)] : List (Nat × Instr × Nat)), decode cX7_put e.1 = .ok e.2 := wn_all _ 21 (by decide +kernel)
theorem dX7_put_21 : decode cX7_put 21 = .ok (.aload_n 0, 1) := wn_at gdX7_put_21 0 rfl
theorem dX7_put_22 : decode cX7_put 22 = .ok (.getfield 15, 3) := wn_at gdX7_put_21 1 rfl
theorem dX7_put_25 : decode cX7_put 25 = .ok (.iload_n 1, 1) := wn_at gdX7_put_21 2 rfl
theorem dX7_put_26 : decode cX7_put 26 = .ok (.iload_n 2, 1) := wn_at gdX7_put_21 3 rfl
theorem dX7_put_27 : decode cX7_put 27 = .ok (.ishr, 1) := wn_at gdX7_put_21 4 rfl
theorem dX7_put_28 : decode cX7_put 28 = .ok (.i2b, 1) := wn_at gdX7_put_21 5 rfl
theorem dX7_put_29 : decode cX7_put 29 = .ok (.bastore, 1) := wn_at gdX7_put_21 6 rfl
theorem dX7_put_30 : decode cX7_put 30 = .ok (.aload_n 0, 1) := wn_at gdX7_put_21 7 rfl
theorem dX7_put_31 : decode cX7_put 31 = .ok (.dup, 1) := wn_at gdX7_put_21 8 rfl
theorem dX7_put_32 : decode cX7_put 32 = .ok (.getfield 15, 3) := wn_at gdX7_put_21 9 rfl
theorem gdX7_put_35 : ∀ e ∈ ([(35, .iconst 1, 1), (36, .iadd, 1), (37, .putfield 15, 3), (40, .iinc 2 (-8), 3), (43, .goto (-40), 3), (46, .return_, 1)] : List (Nat × Instr × Nat)), decode cX7_put e.1 = .ok e.2 := wn_all _ 35 (by decide +kernel)
theorem dX7_put_35 : decode cX7_put 35 = .ok (.iconst 1, 1) := wn_at gdX7_put_35 0 rfl
theorem dX7_put_36 : decode cX7_put 36 = .ok (.iadd, 1) := wn_at gdX7_put_35 1 rfl
theorem dX7_put_37 : decode cX7_put 37 = .ok (.putfield 15, 3) := wn_at gdX7_put_35 2 rfl
theorem dX7_put_40 : decode cX7_put 40 = .ok (.iinc 2 (-8), 3) := wn_at gdX7_put_35 3 rfl
theorem dX7_put_43 : decode cX7_put 43 = .ok (.goto (-40), 3) := wn_at gdX7_put_35 4 rfl
theorem dX7_put_46 : decode cX7_put 46 = .ok (.return_, 1) := wn_at gdX7_put_35 5 rfl
theorem gdX7_rewind_0 : ∀ e ∈ ([(0, .aload_n 0, 1), (1, .iconst 0, 1), (2, .putfield 19, 3), (5, .aload_n 0, 1), (6, .iconst 0, 1), (7, .putfield 22, 3), (10, .aload_n 0, 1), (11, .iconst 0, 1), (12, .putfield 25, 3), (15, .return_, 1)] : List (Nat × Instr × Nat)), decode cX7_rewind e.1 = .ok e.2 := wn_all _ 0 (by decide +kernel)
theorem dX7_rewind_0 : decode cX7_rewind 0 = .ok (.aload_n 0, 1) := wn_at gdX7_rewind_0 0 rfl
theorem dX7_rewind_1 : decode cX7_rewind 1 = .ok (.iconst 0, 1) := wn_at gdX7_rewind_0 1 rfl
theorem dX7_rewind_2 : decode cX7_rewind 2 = .ok (.putfield 19, 3) := wn_at gdX7_rewind_0 2 rfl
theorem dX7_rewind_5 : decode cX7_rewind 5 = .ok (.aload_n 0, 1) := wn_at gdX7_rewind_0 3 rfl
theorem dX7_rewind_6 : decode cX7_rewind 6 = .ok (.iconst 0, 1) := wn_at gdX7_rewind_0 4 rfl
theorem dX7_rewind_7 : decode cX7_rewind 7 = .ok (.putfield 22, 3) := wn_at gdX7_rewind_0 5 rfl
theorem dX7_rewind_10 : decode cX7_rewind 10 = .ok (.aload_n 0, 1) := wn_at gdX7_rewind_0 6 rfl
theorem dX7_rewind_11 : decode cX7_rewind 11 = .ok (.iconst 0, 1) := wn_at gdX7_rewind_0 7 rfl
theorem dX7_rewind_12 : decode cX7_rewind 12 = .ok (.putfield 25, 3) := wn_at gdX7_rewind_0 8 rfl
theorem dX7_rewind_15 : decode cX7_rewind 15 = .ok (.return_, 1) := wn_at gdX7_rewind_0 9 rfl
theorem gdX7_fail_0 : ∀ e ∈ ([(0, .aload_n 0, 1), (1, .iconst 1, 1), (2, .bipush 8, 2), (4, .iload_n 1, 1), (5, .imul, 1), (6, .iadd, 1), (7, .iload_n 2, 1), (8, .iadd, 1), (9, .putfield 25, 3), (12, .iconst 0, 1)] : List (Nat × Instr × Nat)), decode cX7_fail e.1 = .ok e.2 := wn_all _ 0 (by decide +kernel)
theorem dX7_fail_0 : decode cX7_fail 0 = .ok (.aload_n 0, 1) := wn_at gdX7_fail_0 0 rfl
theorem dX7_fail_1 : decode cX7_fail 1 = .ok (.iconst 1, 1) := wn_at gdX7_fail_0 1 rfl
theorem dX7_fail_2 : decode cX7_fail 2 = .ok (.bipush 8, 2) := wn_at gdX7_fail_0 2 rfl
theorem dX7_fail_4 : decode cX7_fail 4 = .ok (.iload_n 1, 1) := wn_at gdX7_fail_0 3 rfl
theorem dX7_fail_5 : decode cX7_fail 5 = .ok (.imul, 1) := wn_at gdX7_fail_0 4 rfl
theorem dX7_fail_6 : decode cX7_fail 6 = .ok (.iadd, 1) := wn_at gdX7_fail_0 5 rfl
theorem dX7_fail_7 : decode cX7_fail 7 = .ok (.iload_n 2, 1) := wn_at gdX7_fail_0 6 rfl
theorem dX7_fail_8 : decode cX7_fail 8 = .ok (.iadd, 1) := wn_at gdX7_fail_0 7 rfl
theorem dX7_fail_9 : decode cX7_fail 9 = .ok (.putfield 25, 3) := wn_at gdX7_fail_0 8 rfl
theorem dX7_fail_12 : decode cX7_fail 12 = .ok (.iconst 0, 1) := wn_at gdX7_fail_0 9 rfl
theorem gdX7_fail_13 : ∀ e ∈ ([(13, .ireturn, 1)] : List (Nat × Instr × Nat)), decode cX7_fail e.1 = .ok e.2 := wn_all _ 13 (by decide +kernel)
theorem dX7_fail_13 : decode cX7_fail 13 = .ok (.ireturn, 1) := wn_at gdX7_fail_13 0 rfl
theorem gdX7_byteAt_0 : ∀ e ∈ ([(0, .iload_n 1, 1), (1, .ifCond .lt 27, 3), (4, .iload_n 1, 1), (5, .aload_n 0, 1), (6, .getfield 15, 3), (9, .if_icmp .ge 19, 3), (12, .iload_n 1, 1), (13, .sipush 400, 3), (16, .if_icmp .ge 12, 3), (19, .aload_n 0, 1)] : List (Nat × Instr × Nat)), decode cX7_byteAt e.1 = .ok e.2 := wn_all _ 0 (by decide +kernel)
theorem dX7_byteAt_0 : decode cX7_byteAt 0 = .ok (.iload_n 1, 1) := wn_at gdX7_byteAt_0 0 rfl
theorem dX7_byteAt_1 : decode cX7_byteAt 1 = .ok (.ifCond .lt 27, 3) := wn_at gdX7_byteAt_0 1 rfl
theorem dX7_byteAt_4 : decode cX7_byteAt 4 = .ok (.iload_n 1, 1) := wn_at gdX7_byteAt_0 2 rfl
theorem dX7_byteAt_5 : decode cX7_byteAt 5 = .ok (.aload_n 0, 1) := wn_at gdX7_byteAt_0 3 rfl
theorem dX7_byteAt_6 : decode cX7_byteAt 6 = .ok (.getfield 15, 3) := wn_at gdX7_byteAt_0 4 rfl
theorem dX7_byteAt_9 : decode cX7_byteAt 9 = .ok (.if_icmp .ge 19, 3) := wn_at gdX7_byteAt_0 5 rfl
theorem dX7_byteAt_12 : decode cX7_byteAt 12 = .ok (.iload_n 1, 1) := wn_at gdX7_byteAt_0 6 rfl
theorem dX7_byteAt_13 : decode cX7_byteAt 13 = .ok (.sipush 400, 3) := wn_at gdX7_byteAt_0 7 rfl
theorem dX7_byteAt_16 : decode cX7_byteAt 16 = .ok (.if_icmp .ge 12, 3) := wn_at gdX7_byteAt_0 8 rfl
theorem dX7_byteAt_19 : decode cX7_byteAt 19 = .ok (.aload_n 0, 1) := wn_at gdX7_byteAt_0 9 rfl
theorem gdX7_byteAt_20 : ∀ e ∈ ([(20, .getfield 9, 3), (23, .iload_n 1, 1), (24, .baload, 1), (25, .goto 4, 3), (28, .iconst (-1), 1), (29, .ireturn, 1)] : List (Nat × Instr × Nat)), decode cX7_byteAt e.1 = .ok e.2 := wn_all _ 20 (by decide +kernel)
theorem dX7_byteAt_20 : decode cX7_byteAt 20 = .ok (.getfield 9, 3) := wn_at gdX7_byteAt_20 0 rfl
theorem dX7_byteAt_23 : decode cX7_byteAt 23 = .ok (.iload_n 1, 1) := wn_at gdX7_byteAt_20 1 rfl
theorem dX7_byteAt_24 : decode cX7_byteAt 24 = .ok (.baload, 1) := wn_at gdX7_byteAt_20 2 rfl
theorem dX7_byteAt_25 : decode cX7_byteAt 25 = .ok (.goto 4, 3) := wn_at gdX7_byteAt_20 3 rfl
theorem dX7_byteAt_28 : decode cX7_byteAt 28 = .ok (.iconst (-1), 1) := wn_at gdX7_byteAt_20 4 rfl
theorem dX7_byteAt_29 : decode cX7_byteAt 29 = .ok (.ireturn, 1) := wn_at gdX7_byteAt_20 5 rfl
theorem gdX7_isDigitAt_0 : ∀ e ∈ ([(0, .aload_n 0, 1), (1, .iload_n 1, 1), (2, .invokevirtual 28, 3), (5, .istore_n 2, 1), (6, .iload_n 2, 1), (7, .bipush 48, 2), (9, .if_icmp .lt 13, 3), (12, .iload_n 2, 1), (13, .bipush 57, 2), (15, .if_icmp .gt 7, 3)] : List (Nat × Instr × Nat)), decode cX7_isDigitAt e.1 = .ok e.2 := wn_all _ 0 (by decide +kernel)
theorem dX7_isDigitAt_0 : decode cX7_isDigitAt 0 = .ok (.aload_n 0, 1) := wn_at gdX7_isDigitAt_0 0 rfl
theorem dX7_isDigitAt_1 : decode cX7_isDigitAt 1 = .ok (.iload_n 1, 1) := wn_at gdX7_isDigitAt_0 1 rfl
theorem dX7_isDigitAt_2 : decode cX7_isDigitAt 2 = .ok (.invokevirtual 28, 3) := wn_at gdX7_isDigitAt_0 2 rfl
theorem dX7_isDigitAt_5 : decode cX7_isDigitAt 5 = .ok (.istore_n 2, 1) := wn_at gdX7_isDigitAt_0 3 rfl
theorem dX7_isDigitAt_6 : decode cX7_isDigitAt 6 = .ok (.iload_n 2, 1) := wn_at gdX7_isDigitAt_0 4 rfl
theorem dX7_isDigitAt_7 : decode cX7_isDigitAt 7 = .ok (.bipush 48, 2) := wn_at gdX7_isDigitAt_0 5 rfl
theorem dX7_isDigitAt_9 : decode cX7_isDigitAt 9 = .ok (.if_icmp .lt 13, 3) := wn_at gdX7_isDigitAt_0 6 rfl
theorem dX7_isDigitAt_12 : decode cX7_isDigitAt 12 = .ok (.iload_n 2, 1) := wn_at gdX7_isDigitAt_0 7 rfl
theorem dX7_isDigitAt_13 : decode cX7_isDigitAt 13 = .ok (.bipush 57, 2) := wn_at gdX7_isDigitAt_0 8 rfl
theorem dX7_isDigitAt_15 : decode cX7_isDigitAt 15 = .ok (.if_icmp .gt 7, 3) := wn_at gdX7_isDigitAt_0 9 rfl
theorem gdX7_isDigitAt_18 : ∀ e ∈ ([(18, .iconst 1, 1), (19, .goto 4, 3), (22, .iconst 0, 1), (23, .ireturn, 1)] : List (Nat × Instr × Nat)), decode cX7_isDigitAt e.1 = .ok e.2 := wn_all _ 18 (by decide +kernel)
theorem dX7_isDigitAt_18 : decode cX7_isDigitAt 18 = .ok (.iconst 1, 1) := wn_at gdX7_isDigitAt_18 0 rfl
theorem dX7_isDigitAt_19 : decode cX7_isDigitAt 19 = .ok (.goto 4, 3) := wn_at gdX7_isDigitAt_18 1 rfl
theorem dX7_isDigitAt_22 : decode cX7_isDigitAt 22 = .ok (.iconst 0, 1) := wn_at gdX7_isDigitAt_18 2 rfl
theorem dX7_isDigitAt_23 : decode cX7_isDigitAt 23 = .ok (.ireturn, 1) := wn_at gdX7_isDigitAt_18 3 rfl
theorem gdX7_skipBlanks_0 : ∀ e ∈ ([(0, .aload_n 0, 1), (1, .getfield 19, 3), (4, .aload_n 0, 1), (5, .getfield 15, 3), (8, .if_icmp .ge 40, 3), (11, .aload_n 0, 1), (12, .getfield 19, 3), (15, .sipush 400, 3), (18, .if_icmp .ge 30, 3), (21, .aload_n 0, 1)] : List (Nat × Instr × Nat)), decode cX7_skipBlanks e.1 = .ok e.2 := wn_all _ 0 (by decide +kernel)
theorem dX7_skipBlanks_0 : decode cX7_skipBlanks 0 = .ok (.aload_n 0, 1) := wn_at gdX7_skipBlanks_0 0 rfl
theorem dX7_skipBlanks_1 : decode cX7_skipBlanks 1 = .ok (.getfield 19, 3) := wn_at gdX7_skipBlanks_0 1 rfl
theorem dX7_skipBlanks_4 : decode cX7_skipBlanks 4 = .ok (.aload_n 0, 1) := wn_at gdX7_skipBlanks_0 2 rfl
theorem dX7_skipBlanks_5 : decode cX7_skipBlanks 5 = .ok (.getfield 15, 3) := wn_at gdX7_skipBlanks_0 3 rfl
theorem dX7_skipBlanks_8 : decode cX7_skipBlanks 8 = .ok (.if_icmp .ge 40, 3) := wn_at gdX7_skipBlanks_0 4 rfl
theorem dX7_skipBlanks_11 : decode cX7_skipBlanks 11 = .ok (.aload_n 0, 1) := wn_at gdX7_skipBlanks_0 5 rfl
theorem dX7_skipBlanks_12 : decode cX7_skipBlanks 12 = .ok (.getfield 19, 3) := wn_at gdX7_skipBlanks_0 6 rfl
theorem dX7_skipBlanks_15 : decode cX7_skipBlanks 15 = .ok (.sipush 400, 3) := wn_at gdX7_skipBlanks_0 7 rfl
theorem dX7_skipBlanks_18 : decode cX7_skipBlanks 18 = .ok (.if_icmp .ge 30, 3) := wn_at gdX7_skipBlanks_0 8 rfl
theorem dX7_skipBlanks_21 : decode cX7_skipBlanks 21 = .ok (.aload_n 0, 1) := wn_at gdX7_skipBlanks_0 9 rfl
theorem gdX7_skipBlanks_22 : ∀ e ∈ ([(22, .getfield 9, 3), (25, .aload_n 0, 1), (26, .getfield 19, 3), (29, .baload, 1), (30, .bipush 32, 2), (32, .if_icmp .ne 16, 3), (35, .aload_n 0, 1), (36, .dup, 1), (37, .getfield 19, 3), (40, .iconst 1, 1)] : List (Nat × Instr × Nat)), decode cX7_skipBlanks e.1 = .ok e.2 := wn_all _ 22 (by decide +kernel)
theorem dX7_skipBlanks_22 : decode cX7_skipBlanks 22 = .ok (.getfield 9, 3) := wn_at gdX7_skipBlanks_22 0 rfl
theorem dX7_skipBlanks_25 : decode cX7_skipBlanks 25 = .ok (.aload_n 0, 1) := wn_at gdX7_skipBlanks_22 1 rfl
theorem dX7_skipBlanks_26 : decode cX7_skipBlanks 26 = .ok (.getfield 19, 3) := wn_at gdX7_skipBlanks_22 2 rfl
theorem dX7_skipBlanks_29 : decode cX7_skipBlanks 29 = .ok (.baload, 1) := wn_at gdX7_skipBlanks_22 3 rfl
theorem dX7_skipBlanks_30 : decode cX7_skipBlanks 30 = .ok (.bipush 32, 2) := wn_at gdX7_skipBlanks_22 4 rfl
theorem dX7_skipBlanks_32 : decode cX7_skipBlanks 32 = .ok (.if_icmp .ne 16, 3) := wn_at gdX7_skipBlanks_22 5 rfl
theorem dX7_skipBlanks_35 : decode cX7_skipBlanks 35 = .ok (.aload_n 0, 1) := wn_at gdX7_skipBlanks_22 6 rfl
theorem dX7_skipBlanks_36 : decode cX7_skipBlanks 36 = .ok (.dup, 1) := wn_at gdX7_skipBlanks_22 7 rfl
theorem dX7_skipBlanks_37 : decode cX7_skipBlanks 37 = .ok (.getfield 19, 3) := wn_at gdX7_skipBlanks_22 8 rfl
theorem dX7_skipBlanks_40 : decode cX7_skipBlanks 40 = .ok (.iconst 1, 1) := wn_at gdX7_skipBlanks_22 9 rfl
theorem gdX7_skipBlanks_41 : ∀ e ∈ ([(41, .iadd, 1), (42, .putfield 19, 3), (45, .goto (-45), 3), (48, .return_, 1)] : List (Nat × Instr × Nat)), decode cX7_skipBlanks e.1 = .ok e.2 := wn_all _ 41 (by decide +kernel)
theorem dX7_skipBlanks_41 : decode cX7_skipBlanks 41 = .ok (.iadd, 1) := wn_at gdX7_skipBlanks_41 0 rfl
theorem dX7_skipBlanks_42 : decode cX7_skipBlanks 42 = .ok (.putfield 19, 3) := wn_at gdX7_skipBlanks_41 1 rfl
theorem dX7_skipBlanks_45 : decode cX7_skipBlanks 45 = .ok (.goto (-45), 3) := wn_at gdX7_skipBlanks_41 2 rfl
theorem dX7_skipBlanks_48 : decode cX7_skipBlanks 48 = .ok (.return_, 1) := wn_at gdX7_skipBlanks_41 3 rfl
theorem gdX7_isAtEnd_0 : ∀ e ∈ ([(0, .aload_n 0, 1), (1, .invokevirtual 32, 3), (4, .aload_n 0, 1), (5, .getfield 19, 3), (8, .aload_n 0, 1), (9, .getfield 15, 3), (12, .if_icmp .lt 7, 3), (15, .iconst 1, 1), (16, .goto 4, 3), (19, .iconst 0, 1)] : List (Nat × Instr × Nat)), decode cX7_isAtEnd e.1 = .ok e.2 := wn_all _ 0 (by decide +kernel)
theorem dX7_isAtEnd_0 : decode cX7_isAtEnd 0 = .ok (.aload_n 0, 1) := wn_at gdX7_isAtEnd_0 0 rfl
theorem dX7_isAtEnd_1 : decode cX7_isAtEnd 1 = .ok (.invokevirtual 32, 3) := wn_at gdX7_isAtEnd_0 1 rfl
theorem dX7_isAtEnd_4 : decode cX7_isAtEnd 4 = .ok (.aload_n 0, 1) := wn_at gdX7_isAtEnd_0 2 rfl
theorem dX7_isAtEnd_5 : decode cX7_isAtEnd 5 = .ok (.getfield 19, 3) := wn_at gdX7_isAtEnd_0 3 rfl
theorem dX7_isAtEnd_8 : decode cX7_isAtEnd 8 = .ok (.aload_n 0, 1) := wn_at gdX7_isAtEnd_0 4 rfl
theorem dX7_isAtEnd_9 : decode cX7_isAtEnd 9 = .ok (.getfield 15, 3) := wn_at gdX7_isAtEnd_0 5 rfl
theorem dX7_isAtEnd_12 : decode cX7_isAtEnd 12 = .ok (.if_icmp .lt 7, 3) := wn_at gdX7_isAtEnd_0 6 rfl
theorem dX7_isAtEnd_15 : decode cX7_isAtEnd 15 = .ok (.iconst 1, 1) := wn_at gdX7_isAtEnd_0 7 rfl
theorem dX7_isAtEnd_16 : decode cX7_isAtEnd 16 = .ok (.goto 4, 3) := wn_at gdX7_isAtEnd_0 8 rfl
theorem dX7_isAtEnd_19 : decode cX7_isAtEnd 19 = .ok (.iconst 0, 1) := wn_at gdX7_isAtEnd_0 9 rfl
theorem gdX7_isAtEnd_20 : ∀ e ∈ ([(20, .ireturn, 1)] : List (Nat × Instr × Nat)), decode cX7_isAtEnd e.1 = .ok e.2 := wn_all _ 20 (by decide +kernel)
theorem dX7_isAtEnd_20 : decode cX7_isAtEnd 20 = .ok (.ireturn, 1) := wn_at gdX7_isAtEnd_20 0 rfl
theorem gdX7_takeSign_0 : ∀ e ∈ ([(0, .aload_n 0, 1), (1, .invokevirtual 32, 3), (4, .aload_n 0, 1), (5, .aload_n 0, 1), (6, .getfield 19, 3), (9, .invokevirtual 28, 3), (12, .iload_n 1, 1), (13, .if_icmp .eq 5, 3), (16, .iconst 0, 1), (17, .ireturn, 1)] : List (Nat × Instr × Nat)), decode cX7_takeSign e.1 = .ok e.2 := wn_all _ 0 (by decide +kernel)
theorem dX7_takeSign_0 : decode cX7_takeSign 0 = .ok (.aload_n 0, 1) := wn_at gdX7_takeSign_0 0 rfl
theorem dX7_takeSign_1 : decode cX7_takeSign 1 = .ok (.invokevirtual 32, 3) := wn_at gdX7_takeSign_0 1 rfl
theorem dX7_takeSign_4 : decode cX7_takeSign 4 = .ok (.aload_n 0, 1) := wn_at gdX7_takeSign_0 2 rfl
theorem dX7_takeSign_5 : decode cX7_takeSign 5 = .ok (.aload_n 0, 1) := wn_at gdX7_takeSign_0 3 rfl
theorem dX7_takeSign_6 : decode cX7_takeSign 6 = .ok (.getfield 19, 3) := wn_at gdX7_takeSign_0 4 rfl
theorem dX7_takeSign_9 : decode cX7_takeSign 9 = .ok (.invokevirtual 28, 3) := wn_at gdX7_takeSign_0 5 rfl
theorem dX7_takeSign_12 : decode cX7_takeSign 12 = .ok (.iload_n 1, 1) := wn_at gdX7_takeSign_0 6 rfl
theorem dX7_takeSign_13 : decode cX7_takeSign 13 = .ok (.if_icmp .eq 5, 3) := wn_at gdX7_takeSign_0 7 rfl
theorem dX7_takeSign_16 : decode cX7_takeSign 16 = .ok (.iconst 0, 1) := wn_at gdX7_takeSign_0 8 rfl
theorem dX7_takeSign_17 : decode cX7_takeSign 17 = .ok (.ireturn, 1) := wn_at gdX7_takeSign_0 9 rfl
theorem gdX7_takeSign_18 : ∀ e ∈ ([(18, .aload_n 0, 1), (19, .aload_n 0, 1), (20, .getfield 19, 3), (23, .putfield 22, 3), (26, .aload_n 0, 1), (27, .dup, 1), (28, .getfield 19, 3), (31, .iconst 1, 1), (32, .iadd, 1), (33, .putfield 19, 3)] : List (Nat × Instr × Nat)), decode cX7_takeSign e.1 = .ok e.2 := wn_all _ 18 (by decide +kernel)
theorem dX7_takeSign_18 : decode cX7_takeSign 18 = .ok (.aload_n 0, 1) := wn_at gdX7_takeSign_18 0 rfl
theorem dX7_takeSign_19 : decode cX7_takeSign 19 = .ok (.aload_n 0, 1) := wn_at gdX7_takeSign_18 1 rfl
theorem dX7_takeSign_20 : decode cX7_takeSign 20 = .ok (.getfield 19, 3) := wn_at gdX7_takeSign_18 2 rfl
theorem dX7_takeSign_23 : decode cX7_takeSign 23 = .ok (.putfield 22, 3) := wn_at gdX7_takeSign_18 3 rfl
theorem dX7_takeSign_26 : decode cX7_takeSign 26 = .ok (.aload_n 0, 1) := wn_at gdX7_takeSign_18 4 rfl
theorem dX7_takeSign_27 : decode cX7_takeSign 27 = .ok (.dup, 1) := wn_at gdX7_takeSign_18 5 rfl
theorem dX7_takeSign_28 : decode cX7_takeSign 28 = .ok (.getfield 19, 3) := wn_at gdX7_takeSign_18 6 rfl
theorem dX7_takeSign_31 : decode cX7_takeSign 31 = .ok (.iconst 1, 1) := wn_at gdX7_takeSign_18 7 rfl
theorem dX7_takeSign_32 : decode cX7_takeSign 32 = .ok (.iadd, 1) := wn_at gdX7_takeSign_18 8 rfl
theorem dX7_takeSign_33 : decode cX7_takeSign 33 = .ok (.putfield 19, 3) := wn_at gdX7_takeSign_18 9 rfl
theorem gdX7_takeSign_36 : ∀ e ∈ ([(36, .iconst 1, 1), (37, .ireturn, 1)] : List (Nat × Instr × Nat)), decode cX7_takeSign e.1 = .ok e.2 := wn_all _ 36 (by decide +kernel)
theorem dX7_takeSign_36 : decode cX7_takeSign 36 = .ok (.iconst 1, 1) := wn_at gdX7_takeSign_36 0 rfl
theorem dX7_takeSign_37 : decode cX7_takeSign 37 = .ok (.ireturn, 1) := wn_at gdX7_takeSign_36 1 rfl
theorem gdX7_takeWord_0 : ∀ e ∈ ([(0, .aload_n 0, 1), (1, .invokevirtual 32, 3), (4, .aload_n 1, 1), (5, .invokevirtual 35, 3), (8, .istore_n 2, 1), (9, .iconst 0, 1), (10, .istore_n 3, 1), (11, .iload_n 3, 1), (12, .iload_n 2, 1), (13, .if_icmp .ge 29, 3)] : List (Nat × Instr × Nat)), decode cX7_takeWord e.1 = .ok e.2 := wn_all _ 0 (by decide +kernel)
theorem dX7_takeWord_0 : decode cX7_takeWord 0 = .ok (.aload_n 0, 1) := wn_at gdX7_takeWord_0 0 rfl
theorem dX7_takeWord_1 : decode cX7_takeWord 1 = .ok (.invokevirtual 32, 3) := wn_at gdX7_takeWord_0 1 rfl
theorem dX7_takeWord_4 : decode cX7_takeWord 4 = .ok (.aload_n 1, 1) := wn_at gdX7_takeWord_0 2 rfl
theorem dX7_takeWord_5 : decode cX7_takeWord 5 = .ok (.invokevirtual 35, 3) := wn_at gdX7_takeWord_0 3 rfl
theorem dX7_takeWord_8 : decode cX7_takeWord 8 = .ok (.istore_n 2, 1) := wn_at gdX7_takeWord_0 4 rfl
theorem dX7_takeWord_9 : decode cX7_takeWord 9 = .ok (.iconst 0, 1) := wn_at gdX7_takeWord_0 5 rfl
theorem dX7_takeWord_10 : decode cX7_takeWord 10 = .ok (.istore_n 3, 1) := wn_at gdX7_takeWord_0 6 rfl
theorem dX7_takeWord_11 : decode cX7_takeWord 11 = .ok (.iload_n 3, 1) := wn_at gdX7_takeWord_0 7 rfl
theorem dX7_takeWord_12 : decode cX7_takeWord 12 = .ok (.iload_n 2, 1) := wn_at gdX7_takeWord_0 8 rfl
theorem dX7_takeWord_13 : decode cX7_takeWord 13 = .ok (.if_icmp .ge 29, 3) := wn_at gdX7_takeWord_0 9 rfl
theorem gdX7_takeWord_16 : ∀ e ∈ ([(16, .aload_n 0, 1), (17, .aload_n 0, 1), (18, .getfield 19, 3), (21, .iload_n 3, 1), (22, .iadd, 1), (23, .invokevirtual 28, 3), (26, .aload_n 1, 1), (27, .iload_n 3, 1), (28, .invokevirtual 41, 3), (31, .if_icmp .eq 5, 3)] : List (Nat × Instr × Nat)), decode cX7_takeWord e.1 = .ok e.2 := wn_all _ 16 (by decide +kernel)
theorem dX7_takeWord_16 : decode cX7_takeWord 16 = .ok (.aload_n 0, 1) := wn_at gdX7_takeWord_16 0 rfl
theorem dX7_takeWord_17 : decode cX7_takeWord 17 = .ok (.aload_n 0, 1) := wn_at gdX7_takeWord_16 1 rfl
theorem dX7_takeWord_18 : decode cX7_takeWord 18 = .ok (.getfield 19, 3) := wn_at gdX7_takeWord_16 2 rfl
theorem dX7_takeWord_21 : decode cX7_takeWord 21 = .ok (.iload_n 3, 1) := wn_at gdX7_takeWord_16 3 rfl
theorem dX7_takeWord_22 : decode cX7_takeWord 22 = .ok (.iadd, 1) := wn_at gdX7_takeWord_16 4 rfl
theorem dX7_takeWord_23 : decode cX7_takeWord 23 = .ok (.invokevirtual 28, 3) := wn_at gdX7_takeWord_16 5 rfl
theorem dX7_takeWord_26 : decode cX7_takeWord 26 = .ok (.aload_n 1, 1) := wn_at gdX7_takeWord_16 6 rfl
theorem dX7_takeWord_27 : decode cX7_takeWord 27 = .ok (.iload_n 3, 1) := wn_at gdX7_takeWord_16 7 rfl
theorem dX7_takeWord_28 : decode cX7_takeWord 28 = .ok (.invokevirtual 41, 3) := wn_at gdX7_takeWord_16 8 rfl
theorem dX7_takeWord_31 : decode cX7_takeWord 31 = .ok (.if_icmp .eq 5, 3) := wn_at gdX7_takeWord_16 9 rfl
theorem gdX7_takeWord_34 : ∀ e ∈ ([(34, .iconst 0, 1), (35, .ireturn, 1), (36, .iinc 3 1, 3), (39, .goto (-28), 3), (42, .aload_n 0, 1), (43, .aload_n 0, 1), (44, .getfield 19, 3), (47, .iload_n 2, 1), (48, .iadd, 1), (49, .invokevirtual 28, 3)] : List (Nat × Instr × Nat)), decode cX7_takeWord e.1 = .ok e.2 := wn_all _ 34 (by decide +kernel)
theorem dX7_takeWord_34 : decode cX7_takeWord 34 = .ok (.iconst 0, 1) := wn_at gdX7_takeWord_34 0 rfl
theorem dX7_takeWord_35 : decode cX7_takeWord 35 = .ok (.ireturn, 1) := wn_at gdX7_takeWord_34 1 rfl
theorem dX7_takeWord_36 : decode cX7_takeWord 36 = .ok (.iinc 3 1, 3) := wn_at gdX7_takeWord_34 2 rfl
theorem dX7_takeWord_39 : decode cX7_takeWord 39 = .ok (.goto (-28), 3) := wn_at gdX7_takeWord_34 3 rfl
theorem dX7_takeWord_42 : decode cX7_takeWord 42 = .ok (.aload_n 0, 1) := wn_at gdX7_takeWord_34 4 rfl
theorem dX7_takeWord_43 : decode cX7_takeWord 43 = .ok (.aload_n 0, 1) := wn_at gdX7_takeWord_34 5 rfl
theorem dX7_takeWord_44 : decode cX7_takeWord 44 = .ok (.getfield 19, 3) := wn_at gdX7_takeWord_34 6 rfl
theorem dX7_takeWord_47 : decode cX7_takeWord 47 = .ok (.iload_n 2, 1) := wn_at gdX7_takeWord_34 7 rfl
theorem dX7_takeWord_48 : decode cX7_takeWord 48 = .ok (.iadd, 1) := wn_at gdX7_takeWord_34 8 rfl
theorem dX7_takeWord_49 : decode cX7_takeWord 49 = .ok (.invokevirtual 28, 3) := wn_at gdX7_takeWord_34 9 rfl
theorem gdX7_takeWord_52 : ∀ e ∈ ([(52, .istore_n 3, 1), (53, .iload_n 3, 1), (54, .bipush 97, 2), (56, .if_icmp .lt 11, 3), (59, .iload_n 3, 1), (60, .bipush 122, 2), (62, .if_icmp .gt 5, 3), (65, .iconst 0, 1), (66, .ireturn, 1), (67, .aload_n 0, 1)] : List (Nat × Instr × Nat)), decode cX7_takeWord e.1 = .ok e.2 := wn_all _ 52 (by decide +kernel)
theorem dX7_takeWord_52 : decode cX7_takeWord 52 = .ok (.istore_n 3, 1) := wn_at gdX7_takeWord_52 0 rfl
theorem dX7_takeWord_53 : decode cX7_takeWord 53 = .ok (.iload_n 3, 1) := wn_at gdX7_takeWord_52 1 rfl
theorem dX7_takeWord_54 : decode cX7_takeWord 54 = .ok (.bipush 97, 2) := wn_at gdX7_takeWord_52 2 rfl
theorem dX7_takeWord_56 : decode cX7_takeWord 56 = .ok (.if_icmp .lt 11, 3) := wn_at gdX7_takeWord_52 3 rfl
theorem dX7_takeWord_59 : decode cX7_takeWord 59 = .ok (.iload_n 3, 1) := wn_at gdX7_takeWord_52 4 rfl
theorem dX7_takeWord_60 : decode cX7_takeWord 60 = .ok (.bipush 122, 2) := wn_at gdX7_takeWord_52 5 rfl
theorem dX7_takeWord_62 : decode cX7_takeWord 62 = .ok (.if_icmp .gt 5, 3) := wn_at gdX7_takeWord_52 6 rfl
theorem dX7_takeWord_65 : decode cX7_takeWord 65 = .ok (.iconst 0, 1) := wn_at gdX7_takeWord_52 7 rfl
theorem dX7_takeWord_66 : decode cX7_takeWord 66 = .ok (.ireturn, 1) := wn_at gdX7_takeWord_52 8 rfl
theorem dX7_takeWord_67 : decode cX7_takeWord 67 = .ok (.aload_n 0, 1) := wn_at gdX7_takeWord_52 9 rfl
theorem gdX7_takeWord_68 : ∀ e ∈ ([(68, .aload_n 0, 1), (69, .getfield 19, 3), (72, .putfield 22, 3), (75, .aload_n 0, 1), (76, .dup, 1), (77, .getfield 19, 3), (80, .iload_n 2, 1), (81, .iadd, 1), (82, .putfield 19, 3), (85, .iconst 1, 1)] : List (Nat × Instr × Nat)), decode cX7_takeWord e.1 = .ok e.2 := wn_all _ 68 (by decide +kernel)
theorem dX7_takeWord_68 : decode cX7_takeWord 68 = .ok (.aload_n 0, 1) := wn_at gdX7_takeWord_68 0 rfl
theorem dX7_takeWord_69 : decode cX7_takeWord 69 = .ok (.getfield 19, 3) := wn_at gdX7_takeWord_68 1 rfl
theorem dX7_takeWord_72 : decode cX7_takeWord 72 = .ok (.putfield 22, 3) := wn_at gdX7_takeWord_68 2 rfl
theorem dX7_takeWord_75 : decode cX7_takeWord 75 = .ok (.aload_n 0, 1) := wn_at gdX7_takeWord_68 3 rfl
theorem dX7_takeWord_76 : decode cX7_takeWord 76 = .ok (.dup, 1) := wn_at gdX7_takeWord_68 4 rfl
theorem dX7_takeWord_77 : decode cX7_takeWord 77 = .ok (.getfield 19, 3) := wn_at gdX7_takeWord_68 5 rfl
theorem dX7_takeWord_80 : decode cX7_takeWord 80 = .ok (.iload_n 2, 1) := wn_at gdX7_takeWord_68 6 rfl
theorem dX7_takeWord_81 : decode cX7_takeWord 81 = .ok (.iadd, 1) := wn_at gdX7_takeWord_68 7 rfl
theorem dX7_takeWord_82 : decode cX7_takeWord 82 = .ok (.putfield 19, 3) := wn_at gdX7_takeWord_68 8 rfl
theorem dX7_takeWord_85 : decode cX7_takeWord 85 = .ok (.iconst 1, 1) := wn_at gdX7_takeWord_68 9 rfl
theorem gdX7_takeWord_86 : ∀ e ∈ ([(86, .ireturn, 1)] : List (Nat × Instr × Nat)), decode cX7_takeWord e.1 = .ok e.2 := wn_all _ 86 (by decide +kernel)
theorem dX7_takeWord_86 : decode cX7_takeWord 86 = .ok (.ireturn, 1) := wn_at gdX7_takeWord_86 0 rfl
theorem gdX7_takeNumber_0 : ∀ e ∈ ([(0, .aload_n 0, 1), (1, .invokevirtual 32, 3), (4, .aload_n 0, 1), (5, .aload_n 0, 1), (6, .getfield 19, 3), (9, .putfield 22, 3), (12, .iconst 0, 1), (13, .istore_n 3, 1), (14, .aload_n 0, 1), (15, .getfield 19, 3)] : List (Nat × Instr × Nat)), decode cX7_takeNumber e.1 = .ok e.2 := wn_all _ 0 (by decide +kernel)
theorem dX7_takeNumber_0 : decode cX7_takeNumber 0 = .ok (.aload_n 0, 1) := wn_at gdX7_takeNumber_0 0 rfl
theorem dX7_takeNumber_1 : decode cX7_takeNumber 1 = .ok (.invokevirtual 32, 3) := wn_at gdX7_takeNumber_0 1 rfl
theorem dX7_takeNumber_4 : decode cX7_takeNumber 4 = .ok (.aload_n 0, 1) := wn_at gdX7_takeNumber_0 2 rfl
theorem dX7_takeNumber_5 : decode cX7_takeNumber 5 = .ok (.aload_n 0, 1) := wn_at gdX7_takeNumber_0 3 rfl
theorem dX7_takeNumber_6 : decode cX7_takeNumber 6 = .ok (.getfield 19, 3) := wn_at gdX7_takeNumber_0 4 rfl
theorem dX7_takeNumber_9 : decode cX7_takeNumber 9 = .ok (.putfield 22, 3) := wn_at gdX7_takeNumber_0 5 rfl
theorem dX7_takeNumber_12 : decode cX7_takeNumber 12 = .ok (.iconst 0, 1) := wn_at gdX7_takeNumber_0 6 rfl
theorem dX7_takeNumber_13 : decode cX7_takeNumber 13 = .ok (.istore_n 3, 1) := wn_at gdX7_takeNumber_0 7 rfl
theorem dX7_takeNumber_14 : decode cX7_takeNumber 14 = .ok (.aload_n 0, 1) := wn_at gdX7_takeNumber_0 8 rfl
theorem dX7_takeNumber_15 : decode cX7_takeNumber 15 = .ok (.getfield 19, 3) := wn_at gdX7_takeNumber_0 9 rfl
theorem gdX7_takeNumber_18 : ∀ e ∈ ([(18, .aload_n 0, 1), (19, .getfield 15, 3), (22, .if_icmp .ge 57, 3), (25, .aload_n 0, 1), (26, .aload_n 0, 1), (27, .getfield 19, 3), (30, .invokevirtual 45, 3), (33, .ifCond .eq 46, 3), (36, .aload_n 0, 1), (37, .getfield 19, 3)] : List (Nat × Instr × Nat)), decode cX7_takeNumber e.1 = .ok e.2 := wn_all _ 18 (by decide +kernel)
theorem dX7_takeNumber_18 : decode cX7_takeNumber 18 = .ok (.aload_n 0, 1) := wn_at gdX7_takeNumber_18 0 rfl
theorem dX7_takeNumber_19 : decode cX7_takeNumber 19 = .ok (.getfield 15, 3) := wn_at gdX7_takeNumber_18 1 rfl
theorem dX7_takeNumber_22 : decode cX7_takeNumber 22 = .ok (.if_icmp .ge 57, 3) := wn_at gdX7_takeNumber_18 2 rfl
theorem dX7_takeNumber_25 : decode cX7_takeNumber 25 = .ok (.aload_n 0, 1) := wn_at gdX7_takeNumber_18 3 rfl
theorem dX7_takeNumber_26 : decode cX7_takeNumber 26 = .ok (.aload_n 0, 1) := wn_at gdX7_takeNumber_18 4 rfl
theorem dX7_takeNumber_27 : decode cX7_takeNumber 27 = .ok (.getfield 19, 3) := wn_at gdX7_takeNumber_18 5 rfl
theorem dX7_takeNumber_30 : decode cX7_takeNumber 30 = .ok (.invokevirtual 45, 3) := wn_at gdX7_takeNumber_18 6 rfl
theorem dX7_takeNumber_33 : decode cX7_takeNumber 33 = .ok (.ifCond .eq 46, 3) := wn_at gdX7_takeNumber_18 7 rfl
theorem dX7_takeNumber_36 : decode cX7_takeNumber 36 = .ok (.aload_n 0, 1) := wn_at gdX7_takeNumber_18 8 rfl
theorem dX7_takeNumber_37 : decode cX7_takeNumber 37 = .ok (.getfield 19, 3) := wn_at gdX7_takeNumber_18 9 rfl
theorem gdX7_takeNumber_40 : ∀ e ∈ ([(40, .aload_n 0, 1), (41, .getfield 22, 3), (44, .isub, 1), (45, .iconst 5, 1), (46, .if_icmp .ge 20, 3), (49, .iload_n 3, 1), (50, .bipush 10, 2), (52, .imul, 1), (53, .aload_n 0, 1), (54, .aload_n 0, 1)] : List (Nat × Instr × Nat)), decode cX7_takeNumber e.1 = .ok e.2 := wn_all _ 40 (by decide +kernel)
theorem dX7_takeNumber_40 : decode cX7_takeNumber 40 = .ok (.aload_n 0, 1) := wn_at gdX7_takeNumber_40 0 rfl
theorem dX7_takeNumber_41 : decode cX7_takeNumber 41 = .ok (.getfield 22, 3) := wn_at gdX7_takeNumber_40 1 rfl
theorem dX7_takeNumber_44 : decode cX7_takeNumber 44 = .ok (.isub, 1) := wn_at gdX7_takeNumber_40 2 rfl
theorem dX7_takeNumber_45 : decode cX7_takeNumber 45 = .ok (.iconst 5, 1) := wn_at gdX7_takeNumber_40 3 rfl
theorem dX7_takeNumber_46 : decode cX7_takeNumber 46 = .ok (.if_icmp .ge 20, 3) := wn_at gdX7_takeNumber_40 4 rfl
theorem dX7_takeNumber_49 : decode cX7_takeNumber 49 = .ok (.iload_n 3, 1) := wn_at gdX7_takeNumber_40 5 rfl
theorem dX7_takeNumber_50 : decode cX7_takeNumber 50 = .ok (.bipush 10, 2) := wn_at gdX7_takeNumber_40 6 rfl
theorem dX7_takeNumber_52 : decode cX7_takeNumber 52 = .ok (.imul, 1) := wn_at gdX7_takeNumber_40 7 rfl
theorem dX7_takeNumber_53 : decode cX7_takeNumber 53 = .ok (.aload_n 0, 1) := wn_at gdX7_takeNumber_40 8 rfl
theorem dX7_takeNumber_54 : decode cX7_takeNumber 54 = .ok (.aload_n 0, 1) := wn_at gdX7_takeNumber_40 9 rfl
theorem gdX7_takeNumber_55 : ∀ e ∈ ([(55, .getfield 19, 3), (58, .invokevirtual 28, 3), (61, .iadd, 1), (62, .bipush 48, 2), (64, .isub, 1), (65, .istore_n 3, 1), (66, .aload_n 0, 1), (67, .dup, 1), (68, .getfield 19, 3), (71, .iconst 1, 1)] : List (Nat × Instr × Nat)), decode cX7_takeNumber e.1 = .ok e.2 := wn_all _ 55 (by decide +kernel)
theorem dX7_takeNumber_55 : decode cX7_takeNumber 55 = .ok (.getfield 19, 3) := wn_at gdX7_takeNumber_55 0 rfl
theorem dX7_takeNumber_58 : decode cX7_takeNumber 58 = .ok (.invokevirtual 28, 3) := wn_at gdX7_takeNumber_55 1 rfl
theorem dX7_takeNumber_61 : decode cX7_takeNumber 61 = .ok (.iadd, 1) := wn_at gdX7_takeNumber_55 2 rfl
theorem dX7_takeNumber_62 : decode cX7_takeNumber 62 = .ok (.bipush 48, 2) := wn_at gdX7_takeNumber_55 3 rfl
theorem dX7_takeNumber_64 : decode cX7_takeNumber 64 = .ok (.isub, 1) := wn_at gdX7_takeNumber_55 4 rfl
theorem dX7_takeNumber_65 : decode cX7_takeNumber 65 = .ok (.istore_n 3, 1) := wn_at gdX7_takeNumber_55 5 rfl
theorem dX7_takeNumber_66 : decode cX7_takeNumber 66 = .ok (.aload_n 0, 1) := wn_at gdX7_takeNumber_55 6 rfl
theorem dX7_takeNumber_67 : decode cX7_takeNumber 67 = .ok (.dup, 1) := wn_at gdX7_takeNumber_55 7 rfl
theorem dX7_takeNumber_68 : decode cX7_takeNumber 68 = .ok (.getfield 19, 3) := wn_at gdX7_takeNumber_55 8 rfl
theorem dX7_takeNumber_71 : decode cX7_takeNumber 71 = .ok (.iconst 1, 1) := wn_at gdX7_takeNumber_55 9 rfl
theorem gdX7_takeNumber_72 : ∀ e ∈ ([(72, .iadd, 1), (73, .putfield 19, 3), (76, .goto (-62), 3), (79, .aload_n 0, 1), (80, .getfield 19, 3), (83, .aload_n 0, 1), (84, .getfield 22, 3), (87, .if_icmp .ne 15, 3), (90, .aload_n 0, 1), (91, .aload_n 0, 1)] : List (Nat × Instr × Nat)), decode cX7_takeNumber e.1 = .ok e.2 := wn_all _ 72 (by decide +kernel)
theorem dX7_takeNumber_72 : decode cX7_takeNumber 72 = .ok (.iadd, 1) := wn_at gdX7_takeNumber_72 0 rfl
theorem dX7_takeNumber_73 : decode cX7_takeNumber 73 = .ok (.putfield 19, 3) := wn_at gdX7_takeNumber_72 1 rfl
theorem dX7_takeNumber_76 : decode cX7_takeNumber 76 = .ok (.goto (-62), 3) := wn_at gdX7_takeNumber_72 2 rfl
theorem dX7_takeNumber_79 : decode cX7_takeNumber 79 = .ok (.aload_n 0, 1) := wn_at gdX7_takeNumber_72 3 rfl
theorem dX7_takeNumber_80 : decode cX7_takeNumber 80 = .ok (.getfield 19, 3) := wn_at gdX7_takeNumber_72 4 rfl
theorem dX7_takeNumber_83 : decode cX7_takeNumber 83 = .ok (.aload_n 0, 1) := wn_at gdX7_takeNumber_72 5 rfl
theorem dX7_takeNumber_84 : decode cX7_takeNumber 84 = .ok (.getfield 22, 3) := wn_at gdX7_takeNumber_72 6 rfl
theorem dX7_takeNumber_87 : decode cX7_takeNumber 87 = .ok (.if_icmp .ne 15, 3) := wn_at gdX7_takeNumber_72 7 rfl
theorem dX7_takeNumber_90 : decode cX7_takeNumber 90 = .ok (.aload_n 0, 1) := wn_at gdX7_takeNumber_72 8 rfl
theorem dX7_takeNumber_91 : decode cX7_takeNumber 91 = .ok (.aload_n 0, 1) := wn_at gdX7_takeNumber_72 9 rfl
theorem gdX7_takeNumber_92 : ∀ e ∈ ([(92, .getfield 22, 3), (95, .iconst 0, 1), (96, .invokevirtual 49, 3), (99, .pop, 1), (100, .iconst (-1), 1), (101, .ireturn, 1), (102, .aload_n 0, 1), (103, .getfield 19, 3), (106, .aload_n 0, 1), (107, .getfield 22, 3)] : List (Nat × Instr × Nat)), decode cX7_takeNumber e.1 = .ok e.2 := wn_all _ 92 (by decide +kernel)
theorem dX7_takeNumber_92 : decode cX7_takeNumber 92 = .ok (.getfield 22, 3) := wn_at gdX7_takeNumber_92 0 rfl
theorem dX7_takeNumber_95 : decode cX7_takeNumber 95 = .ok (.iconst 0, 1) := wn_at gdX7_takeNumber_92 1 rfl
theorem dX7_takeNumber_96 : decode cX7_takeNumber 96 = .ok (.invokevirtual 49, 3) := wn_at gdX7_takeNumber_92 2 rfl
theorem dX7_takeNumber_99 : decode cX7_takeNumber 99 = .ok (.pop, 1) := wn_at gdX7_takeNumber_92 3 rfl
theorem dX7_takeNumber_100 : decode cX7_takeNumber 100 = .ok (.iconst (-1), 1) := wn_at gdX7_takeNumber_92 4 rfl
theorem dX7_takeNumber_101 : decode cX7_takeNumber 101 = .ok (.ireturn, 1) := wn_at gdX7_takeNumber_92 5 rfl
theorem dX7_takeNumber_102 : decode cX7_takeNumber 102 = .ok (.aload_n 0, 1) := wn_at gdX7_takeNumber_92 6 rfl
theorem dX7_takeNumber_103 : decode cX7_takeNumber 103 = .ok (.getfield 19, 3) := wn_at gdX7_takeNumber_92 7 rfl
theorem dX7_takeNumber_106 : decode cX7_takeNumber 106 = .ok (.aload_n 0, 1) := wn_at gdX7_takeNumber_92 8 rfl
theorem dX7_takeNumber_107 : decode cX7_takeNumber 107 = .ok (.getfield 22, 3) := wn_at gdX7_takeNumber_92 9 rfl
theorem gdX7_takeNumber_110 : ∀ e ∈ ([(110, .isub, 1), (111, .iconst 5, 1), (112, .if_icmp .gt 12, 3), (115, .iload_n 3, 1), (116, .iload_n 1, 1), (117, .iload_n 2, 1), (118, .invokestatic 53, 3), (121, .ifCond .ne 15, 3), (124, .aload_n 0, 1), (125, .aload_n 0, 1)] : List (Nat × Instr × Nat)), decode cX7_takeNumber e.1 = .ok e.2 := wn_all _ 110 (by decide +kernel)
theorem dX7_takeNumber_110 : decode cX7_takeNumber 110 = .ok (.isub, 1) := wn_at gdX7_takeNumber_110 0 rfl
theorem dX7_takeNumber_111 : decode cX7_takeNumber 111 = .ok (.iconst 5, 1) := wn_at gdX7_takeNumber_110 1 rfl
theorem dX7_takeNumber_112 : decode cX7_takeNumber 112 = .ok (.if_icmp .gt 12, 3) := wn_at gdX7_takeNumber_110 2 rfl
theorem dX7_takeNumber_115 : decode cX7_takeNumber 115 = .ok (.iload_n 3, 1) := wn_at gdX7_takeNumber_110 3 rfl
theorem dX7_takeNumber_116 : decode cX7_takeNumber 116 = .ok (.iload_n 1, 1) := wn_at gdX7_takeNumber_110 4 rfl
theorem dX7_takeNumber_117 : decode cX7_takeNumber 117 = .ok (.iload_n 2, 1) := wn_at gdX7_takeNumber_110 5 rfl
theorem dX7_takeNumber_118 : decode cX7_takeNumber 118 = .ok (.invokestatic 53, 3) := wn_at gdX7_takeNumber_110 6 rfl
theorem dX7_takeNumber_121 : decode cX7_takeNumber 121 = .ok (.ifCond .ne 15, 3) := wn_at gdX7_takeNumber_110 7 rfl
theorem dX7_takeNumber_124 : decode cX7_takeNumber 124 = .ok (.aload_n 0, 1) := wn_at gdX7_takeNumber_110 8 rfl
theorem dX7_takeNumber_125 : decode cX7_takeNumber 125 = .ok (.aload_n 0, 1) := wn_at gdX7_takeNumber_110 9 rfl
theorem gdX7_takeNumber_126 : ∀ e ∈ ([(126, .getfield 22, 3), (129, .iconst 1, 1), (130, .invokevirtual 49, 3), (133, .pop, 1), (134, .iconst (-1), 1), (135, .ireturn, 1), (136, .iload_n 3, 1), (137, .ireturn, 1)] : List (Nat × Instr × Nat)), decode cX7_takeNumber e.1 = .ok e.2 := wn_all _ 126 (by decide +kernel)
theorem dX7_takeNumber_126 : decode cX7_takeNumber 126 = .ok (.getfield 22, 3) := wn_at gdX7_takeNumber_126 0 rfl
theorem dX7_takeNumber_129 : decode cX7_takeNumber 129 = .ok (.iconst 1, 1) := wn_at gdX7_takeNumber_126 1 rfl
theorem dX7_takeNumber_130 : decode cX7_takeNumber 130 = .ok (.invokevirtual 49, 3) := wn_at gdX7_takeNumber_126 2 rfl
theorem dX7_takeNumber_133 : decode cX7_takeNumber 133 = .ok (.pop, 1) := wn_at gdX7_takeNumber_126 3 rfl
theorem dX7_takeNumber_134 : decode cX7_takeNumber 134 = .ok (.iconst (-1), 1) := wn_at gdX7_takeNumber_126 4 rfl
theorem dX7_takeNumber_135 : decode cX7_takeNumber 135 = .ok (.ireturn, 1) := wn_at gdX7_takeNumber_126 5 rfl
theorem dX7_takeNumber_136 : decode cX7_takeNumber 136 = .ok (.iload_n 3, 1) := wn_at gdX7_takeNumber_126 6 rfl
theorem dX7_takeNumber_137 : decode cX7_takeNumber 137 = .ok (.ireturn, 1) := wn_at gdX7_takeNumber_126 7 rfl
theorem gdX8_init_0 : ∀ e ∈ ([(0, .aload_n 0, 1), (1, .invokespecial 3, 3), (4, .aload_n 0, 1), (5, .bipush 10, 2), (7, .newarray .long, 2), (9, .putfield 9, 3), (12, .aload_n 0, 1), (13, .bipush 12, 2), (15, .newarray .int, 2), (17, .putfield 15, 3)] : List (Nat × Instr × Nat)), decode cX8_init e.1 = .ok e.2 := wn_all _ 0 (by decide +kernel)
theorem dX8_init_0 : decode cX8_init 0 = .ok (.aload_n 0, 1) := wn_at gdX8_init_0 0 rfl
theorem dX8_init_1 : decode cX8_init 1 = .ok (.invokespecial 3, 3) := wn_at gdX8_init_0 1 rfl
theorem dX8_init_4 : decode cX8_init 4 = .ok (.aload_n 0, 1) := wn_at gdX8_init_0 2 rfl
theorem dX8_init_5 : decode cX8_init 5 = .ok (.bipush 10, 2) := wn_at gdX8_init_0 3 rfl
theorem dX8_init_7 : decode cX8_init 7 = .ok (.newarray .long, 2) := wn_at gdX8_init_0 4 rfl
theorem dX8_init_9 : decode cX8_init 9 = .ok (.putfield 9, 3) := wn_at gdX8_init_0 5 rfl
theorem dX8_init_12 : decode cX8_init 12 = .ok (.aload_n 0, 1) := wn_at gdX8_init_0 6 rfl
theorem dX8_init_13 : decode cX8_init 13 = .ok (.bipush 12, 2) := wn_at gdX8_init_0 7 rfl
theorem dX8_init_15 : decode cX8_init 15 = .ok (.newarray .int, 2) := wn_at gdX8_init_0 8 rfl
theorem dX8_init_17 : decode cX8_init 17 = .ok (.putfield 15, 3) := wn_at gdX8_init_0 9 rfl
theorem gdX8_init_20 : ∀ e ∈ ([(20, .aload_n 0, 1), (21, .bipush 12, 2), (23, .newarray .int, 2), (25, .putfield 19, 3), (28, .aload_n 0, 1), (29, .bipush 12, 2), (31, .newarray .int, 2), (33, .putfield 22, 3), (36, .aload_n 0, 1), (37, .bipush 12, 2)] : List (Nat × Instr × Nat)), decode cX8_init e.1 = .ok e.2 := wn_all _ 20 (by decide +kernel)
theorem dX8_init_20 : decode cX8_init 20 = .ok (.aload_n 0, 1) := wn_at gdX8_init_20 0 rfl
theorem dX8_init_21 : decode cX8_init 21 = .ok (.bipush 12, 2) := wn_at gdX8_init_20 1 rfl
theorem dX8_init_23 : decode cX8_init 23 = .ok (.newarray .int, 2) := wn_at gdX8_init_20 2 rfl
theorem dX8_init_25 : decode cX8_init 25 = .ok (.putfield 19, 3) := wn_at gdX8_init_20 3 rfl
theorem dX8_init_28 : decode cX8_init 28 = .ok (.aload_n 0, 1) := wn_at gdX8_init_20 4 rfl
theorem dX8_init_29 : decode cX8_init 29 = .ok (.bipush 12, 2) := wn_at gdX8_init_20 5 rfl
theorem dX8_init_31 : decode cX8_init 31 = .ok (.newarray .int, 2) := wn_at gdX8_init_20 6 rfl
theorem dX8_init_33 : decode cX8_init 33 = .ok (.putfield 22, 3) := wn_at gdX8_init_20 7 rfl
theorem dX8_init_36 : decode cX8_init 36 = .ok (.aload_n 0, 1) := wn_at gdX8_init_20 8 rfl
theorem dX8_init_37 : decode cX8_init 37 = .ok (.bipush 12, 2) := wn_at gdX8_init_20 9 rfl
theorem gdX8_init_39 : ∀ e ∈ ([(39, .newarray .long, 2), (41, .putfield 25, 3), (44, .aload_n 0, 1), (45, .bipush 100, 2), (47, .newarray .int, 2), (49, .putfield 28, 3), (52, .aload_n 0, 1), (53, .iconst 0, 1), (54, .putfield 31, 3), (57, .aload_n 0, 1)] : List (Nat × Instr × Nat)), decode cX8_init e.1 = .ok e.2 := wn_all _ 39 (by decide +kernel)
theorem dX8_init_39 : decode cX8_init 39 = .ok (.newarray .long, 2) := wn_at gdX8_init_39 0 rfl
theorem dX8_init_41 : decode cX8_init 41 = .ok (.putfield 25, 3) := wn_at gdX8_init_39 1 rfl
theorem dX8_init_44 : decode cX8_init 44 = .ok (.aload_n 0, 1) := wn_at gdX8_init_39 2 rfl
theorem dX8_init_45 : decode cX8_init 45 = .ok (.bipush 100, 2) := wn_at gdX8_init_39 3 rfl
theorem dX8_init_47 : decode cX8_init 47 = .ok (.newarray .int, 2) := wn_at gdX8_init_39 4 rfl
theorem dX8_init_49 : decode cX8_init 49 = .ok (.putfield 28, 3) := wn_at gdX8_init_39 5 rfl
theorem dX8_init_52 : decode cX8_init 52 = .ok (.aload_n 0, 1) := wn_at gdX8_init_39 6 rfl
theorem dX8_init_53 : decode cX8_init 53 = .ok (.iconst 0, 1) := wn_at gdX8_init_39 7 rfl
theorem dX8_init_54 : decode cX8_init 54 = .ok (.putfield 31, 3) := wn_at gdX8_init_39 8 rfl
theorem dX8_init_57 : decode cX8_init 57 = .ok (.aload_n 0, 1) := wn_at gdX8_init_39 9 rfl
theorem gdX8_init_58 : ∀ e ∈ ([(58, .iconst 0, 1), (59, .putfield 35, 3), (62, .return_, 1)] : List (Nat × Instr × Nat)), decode cX8_init e.1 = .ok e.2 := wn_all _ 58 (by decide +kernel)
theorem dX8_init_58 : decode cX8_init 58 = .ok (.iconst 0, 1) := wn_at gdX8_init_58 0 rfl
theorem dX8_init_59 : decode cX8_init 59 = .ok (.putfield 35, 3) := wn_at gdX8_init_58 1 rfl
theorem dX8_init_62 : decode cX8_init 62 = .ok (.return_, 1) := wn_at gdX8_init_58 2 rfl
theorem gdX8_copyFrom_0 : ∀ e ∈ ([(0, .aload_n 1, 1), (1, .getfield 9, 3), (4, .iconst 0, 1), (5, .aload_n 0, 1), (6, .getfield 9, 3), (9, .iconst 0, 1), (10, .bipush 10, 2), (12, .invokestatic 38, 3), (15, .aload_n 1, 1), (16, .getfield 15, 3)] : List (Nat × Instr × Nat)), decode cX8_copyFrom e.1 = .ok e.2 := wn_all _ 0 (by decide +kernel)
theorem dX8_copyFrom_0 : decode cX8_copyFrom 0 = .ok (.aload_n 1, 1) := wn_at gdX8_copyFrom_0 0 rfl
theorem dX8_copyFrom_1 : decode cX8_copyFrom 1 = .ok (.getfield 9, 3) := wn_at gdX8_copyFrom_0 1 rfl
theorem dX8_copyFrom_4 : decode cX8_copyFrom 4 = .ok (.iconst 0, 1) := wn_at gdX8_copyFrom_0 2 rfl
theorem dX8_copyFrom_5 : decode cX8_copyFrom 5 = .ok (.aload_n 0, 1) := wn_at gdX8_copyFrom_0 3 rfl
theorem dX8_copyFrom_6 : decode cX8_copyFrom 6 = .ok (.getfield 9, 3) := wn_at gdX8_copyFrom_0 4 rfl
theorem dX8_copyFrom_9 : decode cX8_copyFrom 9 = .ok (.iconst 0, 1) := wn_at gdX8_copyFrom_0 5 rfl
theorem dX8_copyFrom_10 : decode cX8_copyFrom 10 = .ok (.bipush 10, 2) := wn_at gdX8_copyFrom_0 6 rfl
theorem dX8_copyFrom_12 : decode cX8_copyFrom 12 = .ok (.invokestatic 38, 3) := wn_at gdX8_copyFrom_0 7 rfl
theorem dX8_copyFrom_15 : decode cX8_copyFrom 15 = .ok (.aload_n 1, 1) := wn_at gdX8_copyFrom_0 8 rfl
theorem dX8_copyFrom_16 : decode cX8_copyFrom 16 = .ok (.getfield 15, 3) := wn_at gdX8_copyFrom_0 9 rfl
theorem gdX8_copyFrom_19 : ∀ e ∈ ([(19, .iconst 0, 1), (20, .aload_n 0, 1), (21, .getfield 15, 3), (24, .iconst 0, 1), (25, .bipush 12, 2), (27, .invokestatic 38, 3), (30, .aload_n 1, 1), (31, .getfield 19, 3), (34, .iconst 0, 1), (35, .aload_n 0, 1)] : List (Nat × Instr × Nat)), decode cX8_copyFrom e.1 = .ok e.2 := wn_all _ 19 (by decide +kernel)
theorem dX8_copyFrom_19 : decode cX8_copyFrom 19 = .ok (.iconst 0, 1) := wn_at gdX8_copyFrom_19 0 rfl
theorem dX8_copyFrom_20 : decode cX8_copyFrom 20 = .ok (.aload_n 0, 1) := wn_at gdX8_copyFrom_19 1 rfl
theorem dX8_copyFrom_21 : decode cX8_copyFrom 21 = .ok (.getfield 15, 3) := wn_at gdX8_copyFrom_19 2 rfl
theorem dX8_copyFrom_24 : decode cX8_copyFrom 24 = .ok (.iconst 0, 1) := wn_at gdX8_copyFrom_19 3 rfl
theorem dX8_copyFrom_25 : decode cX8_copyFrom 25 = .ok (.bipush 12, 2) := wn_at gdX8_copyFrom_19 4 rfl
theorem dX8_copyFrom_27 : decode cX8_copyFrom 27 = .ok (.invokestatic 38, 3) := wn_at gdX8_copyFrom_19 5 rfl
theorem dX8_copyFrom_30 : decode cX8_copyFrom 30 = .ok (.aload_n 1, 1) := wn_at gdX8_copyFrom_19 6 rfl
theorem dX8_copyFrom_31 : decode cX8_copyFrom 31 = .ok (.getfield 19, 3) := wn_at gdX8_copyFrom_19 7 rfl
theorem dX8_copyFrom_34 : decode cX8_copyFrom 34 = .ok (.iconst 0, 1) := wn_at gdX8_copyFrom_19 8 rfl
theorem dX8_copyFrom_35 : decode cX8_copyFrom 35 = .ok (.aload_n 0, 1) := wn_at gdX8_copyFrom_19 9 rfl
theorem gdX8_copyFrom_36 : ∀ e ∈ ([(36, .getfield 19, 3), (39, .iconst 0, 1), (40, .bipush 12, 2), (42, .invokestatic 38, 3), (45, .aload_n 1, 1), (46, .getfield 22, 3), (49, .iconst 0, 1), (50, .aload_n 0, 1), (51, .getfield 22, 3), (54, .iconst 0, 1)] : List (Nat × Instr × Nat)), decode cX8_copyFrom e.1 = .ok e.2 := wn_all _ 36 (by decide +kernel)
theorem dX8_copyFrom_36 : decode cX8_copyFrom 36 = .ok (.getfield 19, 3) := wn_at gdX8_copyFrom_36 0 rfl
theorem dX8_copyFrom_39 : decode cX8_copyFrom 39 = .ok (.iconst 0, 1) := wn_at gdX8_copyFrom_36 1 rfl
theorem dX8_copyFrom_40 : decode cX8_copyFrom 40 = .ok (.bipush 12, 2) := wn_at gdX8_copyFrom_36 2 rfl
theorem dX8_copyFrom_42 : decode cX8_copyFrom 42 = .ok (.invokestatic 38, 3) := wn_at gdX8_copyFrom_36 3 rfl
theorem dX8_copyFrom_45 : decode cX8_copyFrom 45 = .ok (.aload_n 1, 1) := wn_at gdX8_copyFrom_36 4 rfl
theorem dX8_copyFrom_46 : decode cX8_copyFrom 46 = .ok (.getfield 22, 3) := wn_at gdX8_copyFrom_36 5 rfl
theorem dX8_copyFrom_49 : decode cX8_copyFrom 49 = .ok (.iconst 0, 1) := wn_at gdX8_copyFrom_36 6 rfl
theorem dX8_copyFrom_50 : decode cX8_copyFrom 50 = .ok (.aload_n 0, 1) := wn_at gdX8_copyFrom_36 7 rfl
theorem dX8_copyFrom_51 : decode cX8_copyFrom 51 = .ok (.getfield 22, 3) := wn_at gdX8_copyFrom_36 8 rfl
theorem dX8_copyFrom_54 : decode cX8_copyFrom 54 = .ok (.iconst 0, 1) := wn_at gdX8_copyFrom_36 9 rfl
theorem gdX8_copyFrom_55 : ∀ e ∈ ([(55, .bipush 12, 2), (57, .invokestatic 38, 3), (60, .aload_n 1, 1), (61, .getfield 25, 3), (64, .iconst 0, 1), (65, .aload_n 0, 1), (66, .getfield 25, 3), (69, .iconst 0, 1), (70, .bipush 12, 2), (72, .invokestatic 38, 3)] : List (Nat × Instr × Nat)), decode cX8_copyFrom e.1 = .ok e.2 := wn_all _ 55 (by decide +kernel)
theorem dX8_copyFrom_55 : decode cX8_copyFrom 55 = .ok (.bipush 12, 2) := wn_at gdX8_copyFrom_55 0 rfl
theorem dX8_copyFrom_57 : decode cX8_copyFrom 57 = .ok (.invokestatic 38, 3) := wn_at gdX8_copyFrom_55 1 rfl
theorem dX8_copyFrom_60 : decode cX8_copyFrom 60 = .ok (.aload_n 1, 1) := wn_at gdX8_copyFrom_55 2 rfl
theorem dX8_copyFrom_61 : decode cX8_copyFrom 61 = .ok (.getfield 25, 3) := wn_at gdX8_copyFrom_55 3 rfl
theorem dX8_copyFrom_64 : decode cX8_copyFrom 64 = .ok (.iconst 0, 1) := wn_at gdX8_copyFrom_55 4 rfl
theorem dX8_copyFrom_65 : decode cX8_copyFrom 65 = .ok (.aload_n 0, 1) := wn_at gdX8_copyFrom_55 5 rfl
theorem dX8_copyFrom_66 : decode cX8_copyFrom 66 = .ok (.getfield 25, 3) := wn_at gdX8_copyFrom_55 6 rfl
theorem dX8_copyFrom_69 : decode cX8_copyFrom 69 = .ok (.iconst 0, 1) := wn_at gdX8_copyFrom_55 7 rfl
theorem dX8_copyFrom_70 : decode cX8_copyFrom 70 = .ok (.bipush 12, 2) := wn_at gdX8_copyFrom_55 8 rfl
theorem dX8_copyFrom_72 : decode cX8_copyFrom 72 = .ok (.invokestatic 38, 3) := wn_at gdX8_copyFrom_55 9 rfl
theorem gdX8_copyFrom_75 : ∀ e ∈ ([(75, .aload_n 1, 1), (76, .getfield 28, 3), (79, .iconst 0, 1), (80, .aload_n 0, 1), (81, .getfield 28, 3), (84, .iconst 0, 1), (85, .bipush 100, 2), (87, .invokestatic 38, 3), (90, .aload_n 0, 1), (91, .aload_n 1, 1)] : List (Nat × Instr × Nat)), decode cX8_copyFrom e.1 = .ok e.2 := wn_all _ 75 (by decide +kernel)
theorem dX8_copyFrom_75 : decode cX8_copyFrom 75 = .ok (.aload_n 1, 1) := wn_at gdX8_copyFrom_75 0 rfl
theorem dX8_copyFrom_76 : decode cX8_copyFrom 76 = .ok (.getfield 28, 3) := wn_at gdX8_copyFrom_75 1 rfl
theorem dX8_copyFrom_79 : decode cX8_copyFrom 79 = .ok (.iconst 0, 1) := wn_at gdX8_copyFrom_75 2 rfl
theorem dX8_copyFrom_80 : decode cX8_copyFrom 80 = .ok (.aload_n 0, 1) := wn_at gdX8_copyFrom_75 3 rfl
theorem dX8_copyFrom_81 : decode cX8_copyFrom 81 = .ok (.getfield 28, 3) := wn_at gdX8_copyFrom_75 4 rfl
theorem dX8_copyFrom_84 : decode cX8_copyFrom 84 = .ok (.iconst 0, 1) := wn_at gdX8_copyFrom_75 5 rfl
theorem dX8_copyFrom_85 : decode cX8_copyFrom 85 = .ok (.bipush 100, 2) := wn_at gdX8_copyFrom_75 6 rfl
theorem dX8_copyFrom_87 : decode cX8_copyFrom 87 = .ok (.invokestatic 38, 3) := wn_at gdX8_copyFrom_75 7 rfl
theorem dX8_copyFrom_90 : decode cX8_copyFrom 90 = .ok (.aload_n 0, 1) := wn_at gdX8_copyFrom_75 8 rfl
theorem dX8_copyFrom_91 : decode cX8_copyFrom 91 = .ok (.aload_n 1, 1) := wn_at gdX8_copyFrom_75 9 rfl
theorem gdX8_copyFrom_92 : ∀ e ∈ ([(92, .getfield 31, 3), (95, .putfield 31, 3), (98, .aload_n 0, 1), (99, .aload_n 1, 1), (100, .getfield 35, 3), (103, .putfield 35, 3), (106, .return_, 1)] : List (Nat × Instr × Nat)), decode cX8_copyFrom e.1 = .ok e.2 := wn_all _ 92 (by decide +kernel)
theorem dX8_copyFrom_92 : decode cX8_copyFrom 92 = .ok (.getfield 31, 3) := wn_at gdX8_copyFrom_92 0 rfl
theorem dX8_copyFrom_95 : decode cX8_copyFrom 95 = .ok (.putfield 31, 3) := wn_at gdX8_copyFrom_92 1 rfl
theorem dX8_copyFrom_98 : decode cX8_copyFrom 98 = .ok (.aload_n 0, 1) := wn_at gdX8_copyFrom_92 2 rfl
theorem dX8_copyFrom_99 : decode cX8_copyFrom 99 = .ok (.aload_n 1, 1) := wn_at gdX8_copyFrom_92 3 rfl
theorem dX8_copyFrom_100 : decode cX8_copyFrom 100 = .ok (.getfield 35, 3) := wn_at gdX8_copyFrom_92 4 rfl
theorem dX8_copyFrom_103 : decode cX8_copyFrom 103 = .ok (.putfield 35, 3) := wn_at gdX8_copyFrom_92 5 rfl
theorem dX8_copyFrom_106 : decode cX8_copyFrom 106 = .ok (.return_, 1) := wn_at gdX8_copyFrom_92 6 rfl
theorem gdX8_addStair_0 : ∀ e ∈ ([(0, .aload_n 0, 1), (1, .getfield 35, 3), (4, .bipush 12, 2), (6, .if_icmp .ge 54, 3), (9, .aload_n 0, 1), (10, .getfield 15, 3), (13, .aload_n 0, 1), (14, .getfield 35, 3), (17, .iload_n 1, 1), (18, .iastore, 1)] : List (Nat × Instr × Nat)), decode cX8_addStair e.1 = .ok e.2 := wn_all _ 0 (by decide +kernel)
theorem dX8_addStair_0 : decode cX8_addStair 0 = .ok (.aload_n 0, 1) := wn_at gdX8_addStair_0 0 rfl
theorem dX8_addStair_1 : decode cX8_addStair 1 = .ok (.getfield 35, 3) := wn_at gdX8_addStair_0 1 rfl
theorem dX8_addStair_4 : decode cX8_addStair 4 = .ok (.bipush 12, 2) := wn_at gdX8_addStair_0 2 rfl
theorem dX8_addStair_6 : decode cX8_addStair 6 = .ok (.if_icmp .ge 54, 3) := wn_at gdX8_addStair_0 3 rfl
theorem dX8_addStair_9 : decode cX8_addStair 9 = .ok (.aload_n 0, 1) := wn_at gdX8_addStair_0 4 rfl
theorem dX8_addStair_10 : decode cX8_addStair 10 = .ok (.getfield 15, 3) := wn_at gdX8_addStair_0 5 rfl
theorem dX8_addStair_13 : decode cX8_addStair 13 = .ok (.aload_n 0, 1) := wn_at gdX8_addStair_0 6 rfl
theorem dX8_addStair_14 : decode cX8_addStair 14 = .ok (.getfield 35, 3) := wn_at gdX8_addStair_0 7 rfl
theorem dX8_addStair_17 : decode cX8_addStair 17 = .ok (.iload_n 1, 1) := wn_at gdX8_addStair_0 8 rfl
theorem dX8_addStair_18 : decode cX8_addStair 18 = .ok (.iastore, 1) := wn_at gdX8_addStair_0 9 rfl
theorem gdX8_addStair_19 : ∀ e ∈ ([(19, .aload_n 0, 1), (20, .getfield 19, 3), (23, .aload_n 0, 1), (24, .getfield 35, 3), (27, .iload_n 2, 1), (28, .iastore, 1), (29, .aload_n 0, 1), (30, .getfield 22, 3), (33, .aload_n 0, 1), (34, .getfield 35, 3)] : List (Nat × Instr × Nat)), decode cX8_addStair e.1 = .ok e.2 := wn_all _ 19 (by decide +kernel)
theorem dX8_addStair_19 : decode cX8_addStair 19 = .ok (.aload_n 0, 1) := wn_at gdX8_addStair_19 0 rfl
theorem dX8_addStair_20 : decode cX8_addStair 20 = .ok (.getfield 19, 3) := wn_at gdX8_addStair_19 1 rfl
theorem dX8_addStair_23 : decode cX8_addStair 23 = .ok (.aload_n 0, 1) := wn_at gdX8_addStair_19 2 rfl
theorem dX8_addStair_24 : decode cX8_addStair 24 = .ok (.getfield 35, 3) := wn_at gdX8_addStair_19 3 rfl
theorem dX8_addStair_27 : decode cX8_addStair 27 = .ok (.iload_n 2, 1) := wn_at gdX8_addStair_19 4 rfl
theorem dX8_addStair_28 : decode cX8_addStair 28 = .ok (.iastore, 1) := wn_at gdX8_addStair_19 5 rfl
theorem dX8_addStair_29 : decode cX8_addStair 29 = .ok (.aload_n 0, 1) := wn_at gdX8_addStair_19 6 rfl
theorem dX8_addStair_30 : decode cX8_addStair 30 = .ok (.getfield 22, 3) := wn_at gdX8_addStair_19 7 rfl
theorem dX8_addStair_33 : decode cX8_addStair 33 = .ok (.aload_n 0, 1) := wn_at gdX8_addStair_19 8 rfl
theorem dX8_addStair_34 : decode cX8_addStair 34 = .ok (.getfield 35, 3) := wn_at gdX8_addStair_19 9 rfl
theorem gdX8_addStair_37 : ∀ e ∈ ([(37, .iload_n 3, 1), (38, .iastore, 1), (39, .aload_n 0, 1), (40, .getfield 25, 3), (43, .aload_n 0, 1), (44, .getfield 35, 3), (47, .lload 4, 2), (49, .lastore, 1), (50, .aload_n 0, 1), (51, .dup, 1)] : List (Nat × Instr × Nat)), decode cX8_addStair e.1 = .ok e.2 := wn_all _ 37 (by decide +kernel)
theorem dX8_addStair_37 : decode cX8_addStair 37 = .ok (.iload_n 3, 1) := wn_at gdX8_addStair_37 0 rfl
theorem dX8_addStair_38 : decode cX8_addStair 38 = .ok (.iastore, 1) := wn_at gdX8_addStair_37 1 rfl
theorem dX8_addStair_39 : decode cX8_addStair 39 = .ok (.aload_n 0, 1) := wn_at gdX8_addStair_37 2 rfl
theorem dX8_addStair_40 : decode cX8_addStair 40 = .ok (.getfield 25, 3) := wn_at gdX8_addStair_37 3 rfl
theorem dX8_addStair_43 : decode cX8_addStair 43 = .ok (.aload_n 0, 1) := wn_at gdX8_addStair_37 4 rfl
theorem dX8_addStair_44 : decode cX8_addStair 44 = .ok (.getfield 35, 3) := wn_at gdX8_addStair_37 5 rfl
theorem dX8_addStair_47 : decode cX8_addStair 47 = .ok (.lload 4, 2) := wn_at gdX8_addStair_37 6 rfl
theorem dX8_addStair_49 : decode cX8_addStair 49 = .ok (.lastore, 1) := wn_at gdX8_addStair_37 7 rfl
theorem dX8_addStair_50 : decode cX8_addStair 50 = .ok (.aload_n 0, 1) := wn_at gdX8_addStair_37 8 rfl
theorem dX8_addStair_51 : decode cX8_addStair 51 = .ok (.dup, 1) := wn_at gdX8_addStair_37 9 rfl
theorem gdX8_addStair_52 : ∀ e ∈ ([(52, .getfield 35, 3), (55, .iconst 1, 1), (56, .iadd, 1), (57, .putfield 35, 3), (60, .return_, 1)] : List (Nat × Instr × Nat)), decode cX8_addStair e.1 = .ok e.2 := wn_all _ 52 (by decide +kernel)
theorem dX8_addStair_52 : decode cX8_addStair 52 = .ok (.getfield 35, 3) := wn_at gdX8_addStair_52 0 rfl
theorem dX8_addStair_55 : decode cX8_addStair 55 = .ok (.iconst 1, 1) := wn_at gdX8_addStair_52 1 rfl
theorem dX8_addStair_56 : decode cX8_addStair 56 = .ok (.iadd, 1) := wn_at gdX8_addStair_52 2 rfl
theorem dX8_addStair_57 : decode cX8_addStair 57 = .ok (.putfield 35, 3) := wn_at gdX8_addStair_52 3 rfl
theorem dX8_addStair_60 : decode cX8_addStair 60 = .ok (.return_, 1) := wn_at gdX8_addStair_52 4 rfl
theorem gdX8_measureWays_0 : ∀ e ∈ ([(0, .iconst 0, 1), (1, .istore_n 1, 1), (2, .iload_n 1, 1), (3, .bipush 100, 2), (5, .if_icmp .ge 31, 3), (8, .aload_n 0, 1), (9, .getfield 28, 3), (12, .iload_n 1, 1), (13, .iload_n 1, 1), (14, .bipush 10, 2)] : List (Nat × Instr × Nat)), decode cX8_measureWays e.1 = .ok e.2 := wn_all _ 0 (by decide +kernel)
theorem dX8_measureWays_0 : decode cX8_measureWays 0 = .ok (.iconst 0, 1) := wn_at gdX8_measureWays_0 0 rfl
theorem dX8_measureWays_1 : decode cX8_measureWays 1 = .ok (.istore_n 1, 1) := wn_at gdX8_measureWays_0 1 rfl
theorem dX8_measureWays_2 : decode cX8_measureWays 2 = .ok (.iload_n 1, 1) := wn_at gdX8_measureWays_0 2 rfl
theorem dX8_measureWays_3 : decode cX8_measureWays 3 = .ok (.bipush 100, 2) := wn_at gdX8_measureWays_0 3 rfl
theorem dX8_measureWays_5 : decode cX8_measureWays 5 = .ok (.if_icmp .ge 31, 3) := wn_at gdX8_measureWays_0 4 rfl
theorem dX8_measureWays_8 : decode cX8_measureWays 8 = .ok (.aload_n 0, 1) := wn_at gdX8_measureWays_0 5 rfl
theorem dX8_measureWays_9 : decode cX8_measureWays 9 = .ok (.getfield 28, 3) := wn_at gdX8_measureWays_0 6 rfl
theorem dX8_measureWays_12 : decode cX8_measureWays 12 = .ok (.iload_n 1, 1) := wn_at gdX8_measureWays_0 7 rfl
theorem dX8_measureWays_13 : decode cX8_measureWays 13 = .ok (.iload_n 1, 1) := wn_at gdX8_measureWays_0 8 rfl
theorem dX8_measureWays_14 : decode cX8_measureWays 14 = .ok (.bipush 10, 2) := wn_at gdX8_measureWays_0 9 rfl
theorem gdX8_measureWays_16 : ∀ e ∈ ([(16, .idiv, 1), (17, .iload_n 1, 1), (18, .bipush 10, 2), (20, .irem, 1), (21, .if_icmp .ne 7, 3), (24, .iconst 0, 1), (25, .goto 4, 3), (28, .iconst (-1), 1), (29, .iastore, 1), (30, .iinc 1 1, 3)] : List (Nat × Instr × Nat)), decode cX8_measureWays e.1 = .ok e.2 := wn_all _ 16 (by decide +kernel)
theorem dX8_measureWays_16 : decode cX8_measureWays 16 = .ok (.idiv, 1) := wn_at gdX8_measureWays_16 0 rfl
theorem dX8_measureWays_17 : decode cX8_measureWays 17 = .ok (.iload_n 1, 1) := wn_at gdX8_measureWays_16 1 rfl
theorem dX8_measureWays_18 : decode cX8_measureWays 18 = .ok (.bipush 10, 2) := wn_at gdX8_measureWays_16 2 rfl
theorem dX8_measureWays_20 : decode cX8_measureWays 20 = .ok (.irem, 1) := wn_at gdX8_measureWays_16 3 rfl
theorem dX8_measureWays_21 : decode cX8_measureWays 21 = .ok (.if_icmp .ne 7, 3) := wn_at gdX8_measureWays_16 4 rfl
theorem dX8_measureWays_24 : decode cX8_measureWays 24 = .ok (.iconst 0, 1) := wn_at gdX8_measureWays_16 5 rfl
theorem dX8_measureWays_25 : decode cX8_measureWays 25 = .ok (.goto 4, 3) := wn_at gdX8_measureWays_16 6 rfl
theorem dX8_measureWays_28 : decode cX8_measureWays 28 = .ok (.iconst (-1), 1) := wn_at gdX8_measureWays_16 7 rfl
theorem dX8_measureWays_29 : decode cX8_measureWays 29 = .ok (.iastore, 1) := wn_at gdX8_measureWays_16 8 rfl
theorem dX8_measureWays_30 : decode cX8_measureWays 30 = .ok (.iinc 1 1, 3) := wn_at gdX8_measureWays_16 9 rfl
theorem gdX8_measureWays_33 : ∀ e ∈ ([(33, .goto (-31), 3), (36, .iconst 0, 1), (37, .istore_n 1, 1), (38, .iload_n 1, 1), (39, .aload_n 0, 1), (40, .getfield 35, 3), (43, .if_icmp .ge 53, 3), (46, .aload_n 0, 1), (47, .aload_n 0, 1), (48, .getfield 15, 3)] : List (Nat × Instr × Nat)), decode cX8_measureWays e.1 = .ok e.2 := wn_all _ 33 (by decide +kernel)
theorem dX8_measureWays_33 : decode cX8_measureWays 33 = .ok (.goto (-31), 3) := wn_at gdX8_measureWays_33 0 rfl
theorem dX8_measureWays_36 : decode cX8_measureWays 36 = .ok (.iconst 0, 1) := wn_at gdX8_measureWays_33 1 rfl
theorem dX8_measureWays_37 : decode cX8_measureWays 37 = .ok (.istore_n 1, 1) := wn_at gdX8_measureWays_33 2 rfl
theorem dX8_measureWays_38 : decode cX8_measureWays 38 = .ok (.iload_n 1, 1) := wn_at gdX8_measureWays_33 3 rfl
theorem dX8_measureWays_39 : decode cX8_measureWays 39 = .ok (.aload_n 0, 1) := wn_at gdX8_measureWays_33 4 rfl
theorem dX8_measureWays_40 : decode cX8_measureWays 40 = .ok (.getfield 35, 3) := wn_at gdX8_measureWays_33 5 rfl
theorem dX8_measureWays_43 : decode cX8_measureWays 43 = .ok (.if_icmp .ge 53, 3) := wn_at gdX8_measureWays_33 6 rfl
theorem dX8_measureWays_46 : decode cX8_measureWays 46 = .ok (.aload_n 0, 1) := wn_at gdX8_measureWays_33 7 rfl
theorem dX8_measureWays_47 : decode cX8_measureWays 47 = .ok (.aload_n 0, 1) := wn_at gdX8_measureWays_33 8 rfl
theorem dX8_measureWays_48 : decode cX8_measureWays 48 = .ok (.getfield 15, 3) := wn_at gdX8_measureWays_33 9 rfl
theorem gdX8_measureWays_51 : ∀ e ∈ ([(51, .iload_n 1, 1), (52, .iaload, 1), (53, .aload_n 0, 1), (54, .getfield 19, 3), (57, .iload_n 1, 1), (58, .iaload, 1), (59, .aload_n 0, 1), (60, .getfield 22, 3), (63, .iload_n 1, 1), (64, .iaload, 1)] : List (Nat × Instr × Nat)), decode cX8_measureWays e.1 = .ok e.2 := wn_all _ 51 (by decide +kernel)
theorem dX8_measureWays_51 : decode cX8_measureWays 51 = .ok (.iload_n 1, 1) := wn_at gdX8_measureWays_51 0 rfl
theorem dX8_measureWays_52 : decode cX8_measureWays 52 = .ok (.iaload, 1) := wn_at gdX8_measureWays_51 1 rfl
theorem dX8_measureWays_53 : decode cX8_measureWays 53 = .ok (.aload_n 0, 1) := wn_at gdX8_measureWays_51 2 rfl
theorem dX8_measureWays_54 : decode cX8_measureWays 54 = .ok (.getfield 19, 3) := wn_at gdX8_measureWays_51 3 rfl
theorem dX8_measureWays_57 : decode cX8_measureWays 57 = .ok (.iload_n 1, 1) := wn_at gdX8_measureWays_51 4 rfl
theorem dX8_measureWays_58 : decode cX8_measureWays 58 = .ok (.iaload, 1) := wn_at gdX8_measureWays_51 5 rfl
theorem dX8_measureWays_59 : decode cX8_measureWays 59 = .ok (.aload_n 0, 1) := wn_at gdX8_measureWays_51 6 rfl
theorem dX8_measureWays_60 : decode cX8_measureWays 60 = .ok (.getfield 22, 3) := wn_at gdX8_measureWays_51 7 rfl
theorem dX8_measureWays_63 : decode cX8_measureWays 63 = .ok (.iload_n 1, 1) := wn_at gdX8_measureWays_51 8 rfl
theorem dX8_measureWays_64 : decode cX8_measureWays 64 = .ok (.iaload, 1) := wn_at gdX8_measureWays_51 9 rfl
theorem gdX8_measureWays_65 : ∀ e ∈ ([(65, .invokevirtual 44, 3), (68, .aload_n 0, 1), (69, .aload_n 0, 1), (70, .getfield 19, 3), (73, .iload_n 1, 1), (74, .iaload, 1), (75, .aload_n 0, 1), (76, .getfield 15, 3), (79, .iload_n 1, 1), (80, .iaload, 1)] : List (Nat × Instr × Nat)), decode cX8_measureWays e.1 = .ok e.2 := wn_all _ 65 (by decide +kernel)
theorem dX8_measureWays_65 : decode cX8_measureWays 65 = .ok (.invokevirtual 44, 3) := wn_at gdX8_measureWays_65 0 rfl
theorem dX8_measureWays_68 : decode cX8_measureWays 68 = .ok (.aload_n 0, 1) := wn_at gdX8_measureWays_65 1 rfl
theorem dX8_measureWays_69 : decode cX8_measureWays 69 = .ok (.aload_n 0, 1) := wn_at gdX8_measureWays_65 2 rfl
theorem dX8_measureWays_70 : decode cX8_measureWays 70 = .ok (.getfield 19, 3) := wn_at gdX8_measureWays_65 3 rfl
theorem dX8_measureWays_73 : decode cX8_measureWays 73 = .ok (.iload_n 1, 1) := wn_at gdX8_measureWays_65 4 rfl
theorem dX8_measureWays_74 : decode cX8_measureWays 74 = .ok (.iaload, 1) := wn_at gdX8_measureWays_65 5 rfl
theorem dX8_measureWays_75 : decode cX8_measureWays 75 = .ok (.aload_n 0, 1) := wn_at gdX8_measureWays_65 6 rfl
theorem dX8_measureWays_76 : decode cX8_measureWays 76 = .ok (.getfield 15, 3) := wn_at gdX8_measureWays_65 7 rfl
theorem dX8_measureWays_79 : decode cX8_measureWays 79 = .ok (.iload_n 1, 1) := wn_at gdX8_measureWays_65 8 rfl
theorem dX8_measureWays_80 : decode cX8_measureWays 80 = .ok (.iaload, 1) := wn_at gdX8_measureWays_65 9 rfl
theorem gdX8_measureWays_81 : ∀ e ∈ ([(81, .aload_n 0, 1), (82, .getfield 22, 3), (85, .iload_n 1, 1), (86, .iaload, 1), (87, .invokevirtual 44, 3), (90, .iinc 1 1, 3), (93, .goto (-55), 3), (96, .iconst 0, 1), (97, .istore_n 1, 1), (98, .iload_n 1, 1)] : List (Nat × Instr × Nat)), decode cX8_measureWays e.1 = .ok e.2 := wn_all _ 81 (by decide +kernel)
theorem dX8_measureWays_81 : decode cX8_measureWays 81 = .ok (.aload_n 0, 1) := wn_at gdX8_measureWays_81 0 rfl
theorem dX8_measureWays_82 : decode cX8_measureWays 82 = .ok (.getfield 22, 3) := wn_at gdX8_measureWays_81 1 rfl
theorem dX8_measureWays_85 : decode cX8_measureWays 85 = .ok (.iload_n 1, 1) := wn_at gdX8_measureWays_81 2 rfl
theorem dX8_measureWays_86 : decode cX8_measureWays 86 = .ok (.iaload, 1) := wn_at gdX8_measureWays_81 3 rfl
theorem dX8_measureWays_87 : decode cX8_measureWays 87 = .ok (.invokevirtual 44, 3) := wn_at gdX8_measureWays_81 4 rfl
theorem dX8_measureWays_90 : decode cX8_measureWays 90 = .ok (.iinc 1 1, 3) := wn_at gdX8_measureWays_81 5 rfl
theorem dX8_measureWays_93 : decode cX8_measureWays 93 = .ok (.goto (-55), 3) := wn_at gdX8_measureWays_81 6 rfl
theorem dX8_measureWays_96 : decode cX8_measureWays 96 = .ok (.iconst 0, 1) := wn_at gdX8_measureWays_81 7 rfl
theorem dX8_measureWays_97 : decode cX8_measureWays 97 = .ok (.istore_n 1, 1) := wn_at gdX8_measureWays_81 8 rfl
theorem dX8_measureWays_98 : decode cX8_measureWays 98 = .ok (.iload_n 1, 1) := wn_at gdX8_measureWays_81 9 rfl
theorem gdX8_measureWays_99 : ∀ e ∈ ([(99, .aload_n 0, 1), (100, .getfield 31, 3), (103, .if_icmp .ge 78, 3), (106, .iconst 0, 1), (107, .istore_n 2, 1), (108, .iload_n 2, 1), (109, .aload_n 0, 1), (110, .getfield 31, 3), (113, .if_icmp .ge 62, 3), (116, .iconst 0, 1)] : List (Nat × Instr × Nat)), decode cX8_measureWays e.1 = .ok e.2 := wn_all _ 99 (by decide +kernel)
theorem dX8_measureWays_99 : decode cX8_measureWays 99 = .ok (.aload_n 0, 1) := wn_at gdX8_measureWays_99 0 rfl
theorem dX8_measureWays_100 : decode cX8_measureWays 100 = .ok (.getfield 31, 3) := wn_at gdX8_measureWays_99 1 rfl
theorem dX8_measureWays_103 : decode cX8_measureWays 103 = .ok (.if_icmp .ge 78, 3) := wn_at gdX8_measureWays_99 2 rfl
theorem dX8_measureWays_106 : decode cX8_measureWays 106 = .ok (.iconst 0, 1) := wn_at gdX8_measureWays_99 3 rfl
theorem dX8_measureWays_107 : decode cX8_measureWays 107 = .ok (.istore_n 2, 1) := wn_at gdX8_measureWays_99 4 rfl
theorem dX8_measureWays_108 : decode cX8_measureWays 108 = .ok (.iload_n 2, 1) := wn_at gdX8_measureWays_99 5 rfl
theorem dX8_measureWays_109 : decode cX8_measureWays 109 = .ok (.aload_n 0, 1) := wn_at gdX8_measureWays_99 6 rfl
theorem dX8_measureWays_110 : decode cX8_measureWays 110 = .ok (.getfield 31, 3) := wn_at gdX8_measureWays_99 7 rfl
theorem dX8_measureWays_113 : decode cX8_measureWays 113 = .ok (.if_icmp .ge 62, 3) := wn_at gdX8_measureWays_99 8 rfl
theorem dX8_measureWays_116 : decode cX8_measureWays 116 = .ok (.iconst 0, 1) := wn_at gdX8_measureWays_99 9 rfl
theorem gdX8_measureWays_117 : ∀ e ∈ ([(117, .istore_n 3, 1), (118, .iload_n 3, 1), (119, .aload_n 0, 1), (120, .getfield 31, 3), (123, .if_icmp .ge 46, 3), (126, .aload_n 0, 1), (127, .iload_n 2, 1), (128, .iload_n 1, 1), (129, .invokevirtual 48, 3), (132, .istore 4, 2)] : List (Nat × Instr × Nat)), decode cX8_measureWays e.1 = .ok e.2 := wn_all _ 117 (by decide +kernel)
theorem dX8_measureWays_117 : decode cX8_measureWays 117 = .ok (.istore_n 3, 1) := wn_at gdX8_measureWays_117 0 rfl
theorem dX8_measureWays_118 : decode cX8_measureWays 118 = .ok (.iload_n 3, 1) := wn_at gdX8_measureWays_117 1 rfl
theorem dX8_measureWays_119 : decode cX8_measureWays 119 = .ok (.aload_n 0, 1) := wn_at gdX8_measureWays_117 2 rfl
theorem dX8_measureWays_120 : decode cX8_measureWays 120 = .ok (.getfield 31, 3) := wn_at gdX8_measureWays_117 3 rfl
theorem dX8_measureWays_123 : decode cX8_measureWays 123 = .ok (.if_icmp .ge 46, 3) := wn_at gdX8_measureWays_117 4 rfl
theorem dX8_measureWays_126 : decode cX8_measureWays 126 = .ok (.aload_n 0, 1) := wn_at gdX8_measureWays_117 5 rfl
theorem dX8_measureWays_127 : decode cX8_measureWays 127 = .ok (.iload_n 2, 1) := wn_at gdX8_measureWays_117 6 rfl
theorem dX8_measureWays_128 : decode cX8_measureWays 128 = .ok (.iload_n 1, 1) := wn_at gdX8_measureWays_117 7 rfl
theorem dX8_measureWays_129 : decode cX8_measureWays 129 = .ok (.invokevirtual 48, 3) := wn_at gdX8_measureWays_117 8 rfl
theorem dX8_measureWays_132 : decode cX8_measureWays 132 = .ok (.istore 4, 2) := wn_at gdX8_measureWays_117 9 rfl
theorem gdX8_measureWays_134 : ∀ e ∈ ([(134, .aload_n 0, 1), (135, .iload_n 1, 1), (136, .iload_n 3, 1), (137, .invokevirtual 48, 3), (140, .istore 5, 2), (142, .iload 4, 2), (144, .ifCond .lt 19, 3), (147, .iload 5, 2), (149, .ifCond .lt 14, 3), (152, .aload_n 0, 1)] : List (Nat × Instr × Nat)), decode cX8_measureWays e.1 = .ok e.2 := wn_all _ 134 (by decide +kernel)
theorem dX8_measureWays_134 : decode cX8_measureWays 134 = .ok (.aload_n 0, 1) := wn_at gdX8_measureWays_134 0 rfl
theorem dX8_measureWays_135 : decode cX8_measureWays 135 = .ok (.iload_n 1, 1) := wn_at gdX8_measureWays_134 1 rfl
theorem dX8_measureWays_136 : decode cX8_measureWays 136 = .ok (.iload_n 3, 1) := wn_at gdX8_measureWays_134 2 rfl
theorem dX8_measureWays_137 : decode cX8_measureWays 137 = .ok (.invokevirtual 48, 3) := wn_at gdX8_measureWays_134 3 rfl
theorem dX8_measureWays_140 : decode cX8_measureWays 140 = .ok (.istore 5, 2) := wn_at gdX8_measureWays_134 4 rfl
theorem dX8_measureWays_142 : decode cX8_measureWays 142 = .ok (.iload 4, 2) := wn_at gdX8_measureWays_134 5 rfl
theorem dX8_measureWays_144 : decode cX8_measureWays 144 = .ok (.ifCond .lt 19, 3) := wn_at gdX8_measureWays_134 6 rfl
theorem dX8_measureWays_147 : decode cX8_measureWays 147 = .ok (.iload 5, 2) := wn_at gdX8_measureWays_134 7 rfl
theorem dX8_measureWays_149 : decode cX8_measureWays 149 = .ok (.ifCond .lt 14, 3) := wn_at gdX8_measureWays_134 8 rfl
theorem dX8_measureWays_152 : decode cX8_measureWays 152 = .ok (.aload_n 0, 1) := wn_at gdX8_measureWays_134 9 rfl
theorem gdX8_measureWays_153 : ∀ e ∈ ([(153, .iload_n 2, 1), (154, .iload_n 3, 1), (155, .iload 4, 2), (157, .iload 5, 2), (159, .iadd, 1), (160, .invokevirtual 44, 3), (163, .iinc 3 1, 3), (166, .goto (-48), 3), (169, .iinc 2 1, 3), (172, .goto (-64), 3)] : List (Nat × Instr × Nat)), decode cX8_measureWays e.1 = .ok e.2 := wn_all _ 153 (by decide +kernel)
theorem dX8_measureWays_153 : decode cX8_measureWays 153 = .ok (.iload_n 2, 1) := wn_at gdX8_measureWays_153 0 rfl
theorem dX8_measureWays_154 : decode cX8_measureWays 154 = .ok (.iload_n 3, 1) := wn_at gdX8_measureWays_153 1 rfl
theorem dX8_measureWays_155 : decode cX8_measureWays 155 = .ok (.iload 4, 2) := wn_at gdX8_measureWays_153 2 rfl
theorem dX8_measureWays_157 : decode cX8_measureWays 157 = .ok (.iload 5, 2) := wn_at gdX8_measureWays_153 3 rfl
theorem dX8_measureWays_159 : decode cX8_measureWays 159 = .ok (.iadd, 1) := wn_at gdX8_measureWays_153 4 rfl
theorem dX8_measureWays_160 : decode cX8_measureWays 160 = .ok (.invokevirtual 44, 3) := wn_at gdX8_measureWays_153 5 rfl
theorem dX8_measureWays_163 : decode cX8_measureWays 163 = .ok (.iinc 3 1, 3) := wn_at gdX8_measureWays_153 6 rfl
theorem dX8_measureWays_166 : decode cX8_measureWays 166 = .ok (.goto (-48), 3) := wn_at gdX8_measureWays_153 7 rfl
theorem dX8_measureWays_169 : decode cX8_measureWays 169 = .ok (.iinc 2 1, 3) := wn_at gdX8_measureWays_153 8 rfl
theorem dX8_measureWays_172 : decode cX8_measureWays 172 = .ok (.goto (-64), 3) := wn_at gdX8_measureWays_153 9 rfl
theorem gdX8_measureWays_175 : ∀ e ∈ ([(175, .iinc 1 1, 3), (178, .goto (-80), 3), (181, .return_, 1)] : List (Nat × Instr × Nat)), decode cX8_measureWays e.1 = .ok e.2 := wn_all _ 175 (by decide +kernel)
theorem dX8_measureWays_175 : decode cX8_measureWays 175 = .ok (.iinc 1 1, 3) := wn_at gdX8_measureWays_175 0 rfl
theorem dX8_measureWays_178 : decode cX8_measureWays 178 = .ok (.goto (-80), 3) := wn_at gdX8_measureWays_175 1 rfl
theorem dX8_measureWays_181 : decode cX8_measureWays 181 = .ok (.return_, 1) := wn_at gdX8_measureWays_175 2 rfl
theorem gdX8_shorten_0 : ∀ e ∈ ([(0, .aload_n 0, 1), (1, .iload_n 1, 1), (2, .iload_n 2, 1), (3, .invokevirtual 48, 3), (6, .istore 4, 2), (8, .iload 4, 2), (10, .ifCond .lt 9, 3), (13, .iload_n 3, 1), (14, .iload 4, 2), (16, .if_icmp .ge 15, 3)] : List (Nat × Instr × Nat)), decode cX8_shorten e.1 = .ok e.2 := wn_all _ 0 (by decide +kernel)
theorem dX8_shorten_0 : decode cX8_shorten 0 = .ok (.aload_n 0, 1) := wn_at gdX8_shorten_0 0 rfl
theorem dX8_shorten_1 : decode cX8_shorten 1 = .ok (.iload_n 1, 1) := wn_at gdX8_shorten_0 1 rfl
theorem dX8_shorten_2 : decode cX8_shorten 2 = .ok (.iload_n 2, 1) := wn_at gdX8_shorten_0 2 rfl
theorem dX8_shorten_3 : decode cX8_shorten 3 = .ok (.invokevirtual 48, 3) := wn_at gdX8_shorten_0 3 rfl
theorem dX8_shorten_6 : decode cX8_shorten 6 = .ok (.istore 4, 2) := wn_at gdX8_shorten_0 4 rfl
theorem dX8_shorten_8 : decode cX8_shorten 8 = .ok (.iload 4, 2) := wn_at gdX8_shorten_0 5 rfl
theorem dX8_shorten_10 : decode cX8_shorten 10 = .ok (.ifCond .lt 9, 3) := wn_at gdX8_shorten_0 6 rfl
theorem dX8_shorten_13 : decode cX8_shorten 13 = .ok (.iload_n 3, 1) := wn_at gdX8_shorten_0 7 rfl
theorem dX8_shorten_14 : decode cX8_shorten 14 = .ok (.iload 4, 2) := wn_at gdX8_shorten_0 8 rfl
theorem dX8_shorten_16 : decode cX8_shorten 16 = .ok (.if_icmp .ge 15, 3) := wn_at gdX8_shorten_0 9 rfl
theorem gdX8_shorten_19 : ∀ e ∈ ([(19, .aload_n 0, 1), (20, .getfield 28, 3), (23, .iload_n 1, 1), (24, .bipush 10, 2), (26, .imul, 1), (27, .iload_n 2, 1), (28, .iadd, 1), (29, .iload_n 3, 1), (30, .iastore, 1), (31, .return_, 1)] : List (Nat × Instr × Nat)), decode cX8_shorten e.1 = .ok e.2 := wn_all _ 19 (by decide +kernel)
theorem dX8_shorten_19 : decode cX8_shorten 19 = .ok (.aload_n 0, 1) := wn_at gdX8_shorten_19 0 rfl
theorem dX8_shorten_20 : decode cX8_shorten 20 = .ok (.getfield 28, 3) := wn_at gdX8_shorten_19 1 rfl
theorem dX8_shorten_23 : decode cX8_shorten 23 = .ok (.iload_n 1, 1) := wn_at gdX8_shorten_19 2 rfl
theorem dX8_shorten_24 : decode cX8_shorten 24 = .ok (.bipush 10, 2) := wn_at gdX8_shorten_19 3 rfl
theorem dX8_shorten_26 : decode cX8_shorten 26 = .ok (.imul, 1) := wn_at gdX8_shorten_19 4 rfl
theorem dX8_shorten_27 : decode cX8_shorten 27 = .ok (.iload_n 2, 1) := wn_at gdX8_shorten_19 5 rfl
theorem dX8_shorten_28 : decode cX8_shorten 28 = .ok (.iadd, 1) := wn_at gdX8_shorten_19 6 rfl
theorem dX8_shorten_29 : decode cX8_shorten 29 = .ok (.iload_n 3, 1) := wn_at gdX8_shorten_19 7 rfl
theorem dX8_shorten_30 : decode cX8_shorten 30 = .ok (.iastore, 1) := wn_at gdX8_shorten_19 8 rfl
theorem dX8_shorten_31 : decode cX8_shorten 31 = .ok (.return_, 1) := wn_at gdX8_shorten_19 9 rfl
theorem gdX8_hoursBetween_0 : ∀ e ∈ ([(0, .aload_n 0, 1), (1, .getfield 28, 3), (4, .iload_n 1, 1), (5, .bipush 10, 2), (7, .imul, 1), (8, .iload_n 2, 1), (9, .iadd, 1), (10, .iaload, 1), (11, .ireturn, 1)] : List (Nat × Instr × Nat)), decode cX8_hoursBetween e.1 = .ok e.2 := wn_all _ 0 (by decide +kernel)
theorem dX8_hoursBetween_0 : decode cX8_hoursBetween 0 = .ok (.aload_n 0, 1) := wn_at gdX8_hoursBetween_0 0 rfl
theorem dX8_hoursBetween_1 : decode cX8_hoursBetween 1 = .ok (.getfield 28, 3) := wn_at gdX8_hoursBetween_0 1 rfl
theorem dX8_hoursBetween_4 : decode cX8_hoursBetween 4 = .ok (.iload_n 1, 1) := wn_at gdX8_hoursBetween_0 2 rfl
theorem dX8_hoursBetween_5 : decode cX8_hoursBetween 5 = .ok (.bipush 10, 2) := wn_at gdX8_hoursBetween_0 3 rfl
theorem dX8_hoursBetween_7 : decode cX8_hoursBetween 7 = .ok (.imul, 1) := wn_at gdX8_hoursBetween_0 4 rfl
theorem dX8_hoursBetween_8 : decode cX8_hoursBetween 8 = .ok (.iload_n 2, 1) := wn_at gdX8_hoursBetween_0 5 rfl
theorem dX8_hoursBetween_9 : decode cX8_hoursBetween 9 = .ok (.iadd, 1) := wn_at gdX8_hoursBetween_0 6 rfl
theorem dX8_hoursBetween_10 : decode cX8_hoursBetween 10 = .ok (.iaload, 1) := wn_at gdX8_hoursBetween_0 7 rfl
theorem dX8_hoursBetween_11 : decode cX8_hoursBetween 11 = .ok (.ireturn, 1) := wn_at gdX8_hoursBetween_0 8 rfl
theorem gdX8_otherEnd_0 : ∀ e ∈ ([(0, .aload_n 0, 1), (1, .getfield 15, 3), (4, .iload_n 1, 1), (5, .iaload, 1), (6, .iload_n 2, 1), (7, .if_icmp .ne 10, 3), (10, .aload_n 0, 1), (11, .getfield 19, 3), (14, .iload_n 1, 1), (15, .iaload, 1)] : List (Nat × Instr × Nat)), decode cX8_otherEnd e.1 = .ok e.2 := wn_all _ 0 (by decide +kernel)
theorem dX8_otherEnd_0 : decode cX8_otherEnd 0 = .ok (.aload_n 0, 1) := wn_at gdX8_otherEnd_0 0 rfl
theorem dX8_otherEnd_1 : decode cX8_otherEnd 1 = .ok (.getfield 15, 3) := wn_at gdX8_otherEnd_0 1 rfl
theorem dX8_otherEnd_4 : decode cX8_otherEnd 4 = .ok (.iload_n 1, 1) := wn_at gdX8_otherEnd_0 2 rfl
theorem dX8_otherEnd_5 : decode cX8_otherEnd 5 = .ok (.iaload, 1) := wn_at gdX8_otherEnd_0 3 rfl
theorem dX8_otherEnd_6 : decode cX8_otherEnd 6 = .ok (.iload_n 2, 1) := wn_at gdX8_otherEnd_0 4 rfl
theorem dX8_otherEnd_7 : decode cX8_otherEnd 7 = .ok (.if_icmp .ne 10, 3) := wn_at gdX8_otherEnd_0 5 rfl
theorem dX8_otherEnd_10 : decode cX8_otherEnd 10 = .ok (.aload_n 0, 1) := wn_at gdX8_otherEnd_0 6 rfl
theorem dX8_otherEnd_11 : decode cX8_otherEnd 11 = .ok (.getfield 19, 3) := wn_at gdX8_otherEnd_0 7 rfl
theorem dX8_otherEnd_14 : decode cX8_otherEnd 14 = .ok (.iload_n 1, 1) := wn_at gdX8_otherEnd_0 8 rfl
theorem dX8_otherEnd_15 : decode cX8_otherEnd 15 = .ok (.iaload, 1) := wn_at gdX8_otherEnd_0 9 rfl
theorem gdX8_otherEnd_16 : ∀ e ∈ ([(16, .ireturn, 1), (17, .aload_n 0, 1), (18, .getfield 19, 3), (21, .iload_n 1, 1), (22, .iaload, 1), (23, .iload_n 2, 1), (24, .if_icmp .ne 12, 3), (27, .aload_n 0, 1), (28, .getfield 15, 3), (31, .iload_n 1, 1)] : List (Nat × Instr × Nat)), decode cX8_otherEnd e.1 = .ok e.2 := wn_all _ 16 (by decide +kernel)
theorem dX8_otherEnd_16 : decode cX8_otherEnd 16 = .ok (.ireturn, 1) := wn_at gdX8_otherEnd_16 0 rfl
theorem dX8_otherEnd_17 : decode cX8_otherEnd 17 = .ok (.aload_n 0, 1) := wn_at gdX8_otherEnd_16 1 rfl
theorem dX8_otherEnd_18 : decode cX8_otherEnd 18 = .ok (.getfield 19, 3) := wn_at gdX8_otherEnd_16 2 rfl
theorem dX8_otherEnd_21 : decode cX8_otherEnd 21 = .ok (.iload_n 1, 1) := wn_at gdX8_otherEnd_16 3 rfl
theorem dX8_otherEnd_22 : decode cX8_otherEnd 22 = .ok (.iaload, 1) := wn_at gdX8_otherEnd_16 4 rfl
theorem dX8_otherEnd_23 : decode cX8_otherEnd 23 = .ok (.iload_n 2, 1) := wn_at gdX8_otherEnd_16 5 rfl
theorem dX8_otherEnd_24 : decode cX8_otherEnd 24 = .ok (.if_icmp .ne 12, 3) := wn_at gdX8_otherEnd_16 6 rfl
theorem dX8_otherEnd_27 : decode cX8_otherEnd 27 = .ok (.aload_n 0, 1) := wn_at gdX8_otherEnd_16 7 rfl
theorem dX8_otherEnd_28 : decode cX8_otherEnd 28 = .ok (.getfield 15, 3) := wn_at gdX8_otherEnd_16 8 rfl
theorem dX8_otherEnd_31 : decode cX8_otherEnd 31 = .ok (.iload_n 1, 1) := wn_at gdX8_otherEnd_16 9 rfl
