theorem gdX0_init_0 : (decode cX0_init 0 = .ok (.aload_n 0, 1)) ∧ (decode cX0_init 1 = .ok (.invokespecial 3, 3)) ∧ (decode cX0_init 4 = .ok (.aload_n 0, 1)) ∧ (decode cX0_init 5 = .ok (.bipush 8, 2)) ∧ (decode cX0_init 7 = .ok (.newarray .int, 2)) ∧ (decode cX0_init 9 = .ok (.putfield 9, 3)) ∧ (decode cX0_init 12 = .ok (.aload_n 0, 1)) ∧ (decode cX0_init 13 = .ok (.bipush 8, 2)) ∧ (decode cX0_init 15 = .ok (.newarray .int, 2)) ∧ (decode cX0_init 17 = .ok (.putfield 15, 3)) ∧ (decode cX0_init 20 = .ok (.aload_n 0, 1)) ∧ (decode cX0_init 21 = .ok (.bipush 8, 2)) ∧ (decode cX0_init 23 = .ok (.newarray .int, 2)) ∧ (decode cX0_init 25 = .ok (.putfield 18, 3)) ∧ (decode cX0_init 28 = .ok (.aload_n 0, 1)) ∧ (decode cX0_init 29 = .ok (.bipush 8, 2)) := by decide +kernel
theorem dX0_init_0 : decode cX0_init 0 = .ok (.aload_n 0, 1) := gdX0_init_0.1
theorem dX0_init_1 : decode cX0_init 1 = .ok (.invokespecial 3, 3) := gdX0_init_0.2.1
theorem dX0_init_4 : decode cX0_init 4 = .ok (.aload_n 0, 1) := gdX0_init_0.2.2.1
theorem dX0_init_5 : decode cX0_init 5 = .ok (.bipush 8, 2) := gdX0_init_0.2.2.2.1
theorem dX0_init_7 : decode cX0_init 7 = .ok (.newarray .int, 2) := gdX0_init_0.2.2.2.2.1
theorem dX0_init_9 : decode cX0_init 9 = .ok (.putfield 9, 3) := gdX0_init_0.2.2.2.2.2.1
theorem dX0_init_12 : decode cX0_init 12 = .ok (.aload_n 0, 1) := gdX0_init_0.2.2.2.2.2.2.1
theorem dX0_init_13 : decode cX0_init 13 = .ok (.bipush 8, 2) := gdX0_init_0.2.2.2.2.2.2.2.1
theorem dX0_init_15 : decode cX0_init 15 = .ok (.newarray .int, 2) := gdX0_init_0.2.2.2.2.2.2.2.2.1
theorem dX0_init_17 : decode cX0_init 17 = .ok (.putfield 15, 3) := gdX0_init_0.2.2.2.2.2.2.2.2.2.1
theorem dX0_init_20 : decode cX0_init 20 = .ok (.aload_n 0, 1) := gdX0_init_0.2.2.2.2.2.2.2.2.2.2.1
theorem dX0_init_21 : decode cX0_init 21 = .ok (.bipush 8, 2) := gdX0_init_0.2.2.2.2.2.2.2.2.2.2.2.1
theorem dX0_init_23 : decode cX0_init 23 = .ok (.newarray .int, 2) := gdX0_init_0.2.2.2.2.2.2.2.2.2.2.2.2.1
theorem dX0_init_25 : decode cX0_init 25 = .ok (.putfield 18, 3) := gdX0_init_0.2.2.2.2.2.2.2.2.2.2.2.2.2.1
theorem dX0_init_28 : decode cX0_init 28 = .ok (.aload_n 0, 1) := gdX0_init_0.2.2.2.2.2.2.2.2.2.2.2.2.2.2.1
theorem dX0_init_29 : decode cX0_init 29 = .ok (.bipush 8, 2) := gdX0_init_0.2.2.2.2.2.2.2.2.2.2.2.2.2.2.2
theorem gdX0_init_31 : (decode cX0_init 31 = .ok (.newarray .int, 2)) ∧ (decode cX0_init 33 = .ok (.putfield 21, 3)) ∧ (decode cX0_init 36 = .ok (.aload_n 0, 1)) ∧ (decode cX0_init 37 = .ok (.bipush 8, 2)) ∧ (decode cX0_init 39 = .ok (.newarray .long, 2)) ∧ (decode cX0_init 41 = .ok (.putfield 24, 3)) ∧ (decode cX0_init 44 = .ok (.aload_n 0, 1)) ∧ (decode cX0_init 45 = .ok (.iconst 0, 1)) ∧ (decode cX0_init 46 = .ok (.putfield 28, 3)) ∧ (decode cX0_init 49 = .ok (.aload_n 0, 1)) ∧ (decode cX0_init 50 = .ok (.iconst 0, 1)) ∧ (decode cX0_init 51 = .ok (.putfield 32, 3)) ∧ (decode cX0_init 54 = .ok (.return_, 1)) := by decide +kernel
theorem dX0_init_31 : decode cX0_init 31 = .ok (.newarray .int, 2) := gdX0_init_31.1
theorem dX0_init_33 : decode cX0_init 33 = .ok (.putfield 21, 3) := gdX0_init_31.2.1
theorem dX0_init_36 : decode cX0_init 36 = .ok (.aload_n 0, 1) := gdX0_init_31.2.2.1
theorem dX0_init_37 : decode cX0_init 37 = .ok (.bipush 8, 2) := gdX0_init_31.2.2.2.1
theorem dX0_init_39 : decode cX0_init 39 = .ok (.newarray .long, 2) := gdX0_init_31.2.2.2.2.1
theorem dX0_init_41 : decode cX0_init 41 = .ok (.putfield 24, 3) := gdX0_init_31.2.2.2.2.2.1
theorem dX0_init_44 : decode cX0_init 44 = .ok (.aload_n 0, 1) := gdX0_init_31.2.2.2.2.2.2.1
theorem dX0_init_45 : decode cX0_init 45 = .ok (.iconst 0, 1) := gdX0_init_31.2.2.2.2.2.2.2.1
theorem dX0_init_46 : decode cX0_init 46 = .ok (.putfield 28, 3) := gdX0_init_31.2.2.2.2.2.2.2.2.1
theorem dX0_init_49 : decode cX0_init 49 = .ok (.aload_n 0, 1) := gdX0_init_31.2.2.2.2.2.2.2.2.2.1
theorem dX0_init_50 : decode cX0_init 50 = .ok (.iconst 0, 1) := gdX0_init_31.2.2.2.2.2.2.2.2.2.2.1
theorem dX0_init_51 : decode cX0_init 51 = .ok (.putfield 32, 3) := gdX0_init_31.2.2.2.2.2.2.2.2.2.2.2.1
theorem dX0_init_54 : decode cX0_init 54 = .ok (.return_, 1) := gdX0_init_31.2.2.2.2.2.2.2.2.2.2.2.2
theorem gdX0_copyFrom_0 : (decode cX0_copyFrom 0 = .ok (.aload_n 1, 1)) ∧ (decode cX0_copyFrom 1 = .ok (.getfield 9, 3)) ∧ (decode cX0_copyFrom 4 = .ok (.iconst 0, 1)) ∧ (decode cX0_copyFrom 5 = .ok (.aload_n 0, 1)) ∧ (decode cX0_copyFrom 6 = .ok (.getfield 9, 3)) ∧ (decode cX0_copyFrom 9 = .ok (.iconst 0, 1)) ∧ (decode cX0_copyFrom 10 = .ok (.bipush 8, 2)) ∧ (decode cX0_copyFrom 12 = .ok (.invokestatic 35, 3)) ∧ (decode cX0_copyFrom 15 = .ok (.aload_n 1, 1)) ∧ (decode cX0_copyFrom 16 = .ok (.getfield 15, 3)) ∧ (decode cX0_copyFrom 19 = .ok (.iconst 0, 1)) ∧ (decode cX0_copyFrom 20 = .ok (.aload_n 0, 1)) ∧ (decode cX0_copyFrom 21 = .ok (.getfield 15, 3)) ∧ (decode cX0_copyFrom 24 = .ok (.iconst 0, 1)) ∧ (decode cX0_copyFrom 25 = .ok (.bipush 8, 2)) ∧ (decode cX0_copyFrom 27 = .ok (.invokestatic 35, 3)) := by decide +kernel
theorem dX0_copyFrom_0 : decode cX0_copyFrom 0 = .ok (.aload_n 1, 1) := gdX0_copyFrom_0.1
theorem dX0_copyFrom_1 : decode cX0_copyFrom 1 = .ok (.getfield 9, 3) := gdX0_copyFrom_0.2.1
theorem dX0_copyFrom_4 : decode cX0_copyFrom 4 = .ok (.iconst 0, 1) := gdX0_copyFrom_0.2.2.1
theorem dX0_copyFrom_5 : decode cX0_copyFrom 5 = .ok (.aload_n 0, 1) := gdX0_copyFrom_0.2.2.2.1
theorem dX0_copyFrom_6 : decode cX0_copyFrom 6 = .ok (.getfield 9, 3) := gdX0_copyFrom_0.2.2.2.2.1
theorem dX0_copyFrom_9 : decode cX0_copyFrom 9 = .ok (.iconst 0, 1) := gdX0_copyFrom_0.2.2.2.2.2.1
theorem dX0_copyFrom_10 : decode cX0_copyFrom 10 = .ok (.bipush 8, 2) := gdX0_copyFrom_0.2.2.2.2.2.2.1
theorem dX0_copyFrom_12 : decode cX0_copyFrom 12 = .ok (.invokestatic 35, 3) := gdX0_copyFrom_0.2.2.2.2.2.2.2.1
theorem dX0_copyFrom_15 : decode cX0_copyFrom 15 = .ok (.aload_n 1, 1) := gdX0_copyFrom_0.2.2.2.2.2.2.2.2.1
theorem dX0_copyFrom_16 : decode cX0_copyFrom 16 = .ok (.getfield 15, 3) := gdX0_copyFrom_0.2.2.2.2.2.2.2.2.2.1
theorem dX0_copyFrom_19 : decode cX0_copyFrom 19 = .ok (.iconst 0, 1) := gdX0_copyFrom_0.2.2.2.2.2.2.2.2.2.2.1
theorem dX0_copyFrom_20 : decode cX0_copyFrom 20 = .ok (.aload_n 0, 1) := gdX0_copyFrom_0.2.2.2.2.2.2.2.2.2.2.2.1
theorem dX0_copyFrom_21 : decode cX0_copyFrom 21 = .ok (.getfield 15, 3) := gdX0_copyFrom_0.2.2.2.2.2.2.2.2.2.2.2.2.1
theorem dX0_copyFrom_24 : decode cX0_copyFrom 24 = .ok (.iconst 0, 1) := gdX0_copyFrom_0.2.2.2.2.2.2.2.2.2.2.2.2.2.1
theorem dX0_copyFrom_25 : decode cX0_copyFrom 25 = .ok (.bipush 8, 2) := gdX0_copyFrom_0.2.2.2.2.2.2.2.2.2.2.2.2.2.2.1
theorem dX0_copyFrom_27 : decode cX0_copyFrom 27 = .ok (.invokestatic 35, 3) := gdX0_copyFrom_0.2.2.2.2.2.2.2.2.2.2.2.2.2.2.2
theorem gdX0_copyFrom_30 : (decode cX0_copyFrom 30 = .ok (.aload_n 1, 1)) ∧ (decode cX0_copyFrom 31 = .ok (.getfield 18, 3)) ∧ (decode cX0_copyFrom 34 = .ok (.iconst 0, 1)) ∧ (decode cX0_copyFrom 35 = .ok (.aload_n 0, 1)) ∧ (decode cX0_copyFrom 36 = .ok (.getfield 18, 3)) ∧ (decode cX0_copyFrom 39 = .ok (.iconst 0, 1)) ∧ (decode cX0_copyFrom 40 = .ok (.bipush 8, 2)) ∧ (decode cX0_copyFrom 42 = .ok (.invokestatic 35, 3)) ∧ (decode cX0_copyFrom 45 = .ok (.aload_n 1, 1)) ∧ (decode cX0_copyFrom 46 = .ok (.getfield 21, 3)) ∧ (decode cX0_copyFrom 49 = .ok (.iconst 0, 1)) ∧ (decode cX0_copyFrom 50 = .ok (.aload_n 0, 1)) ∧ (decode cX0_copyFrom 51 = .ok (.getfield 21, 3)) ∧ (decode cX0_copyFrom 54 = .ok (.iconst 0, 1)) ∧ (decode cX0_copyFrom 55 = .ok (.bipush 8, 2)) ∧ (decode cX0_copyFrom 57 = .ok (.invokestatic 35, 3)) := by decide +kernel
theorem dX0_copyFrom_30 : decode cX0_copyFrom 30 = .ok (.aload_n 1, 1) := gdX0_copyFrom_30.1
theorem dX0_copyFrom_31 : decode cX0_copyFrom 31 = .ok (.getfield 18, 3) := gdX0_copyFrom_30.2.1
theorem dX0_copyFrom_34 : decode cX0_copyFrom 34 = .ok (.iconst 0, 1) := gdX0_copyFrom_30.2.2.1
theorem dX0_copyFrom_35 : decode cX0_copyFrom 35 = .ok (.aload_n 0, 1) := gdX0_copyFrom_30.2.2.2.1
theorem dX0_copyFrom_36 : decode cX0_copyFrom 36 = .ok (.getfield 18, 3) := gdX0_copyFrom_30.2.2.2.2.1
theorem dX0_copyFrom_39 : decode cX0_copyFrom 39 = .ok (.iconst 0, 1) := gdX0_copyFrom_30.2.2.2.2.2.1
theorem dX0_copyFrom_40 : decode cX0_copyFrom 40 = .ok (.bipush 8, 2) := gdX0_copyFrom_30.2.2.2.2.2.2.1
theorem dX0_copyFrom_42 : decode cX0_copyFrom 42 = .ok (.invokestatic 35, 3) := gdX0_copyFrom_30.2.2.2.2.2.2.2.1
theorem dX0_copyFrom_45 : decode cX0_copyFrom 45 = .ok (.aload_n 1, 1) := gdX0_copyFrom_30.2.2.2.2.2.2.2.2.1
theorem dX0_copyFrom_46 : decode cX0_copyFrom 46 = .ok (.getfield 21, 3) := gdX0_copyFrom_30.2.2.2.2.2.2.2.2.2.1
theorem dX0_copyFrom_49 : decode cX0_copyFrom 49 = .ok (.iconst 0, 1) := gdX0_copyFrom_30.2.2.2.2.2.2.2.2.2.2.1
theorem dX0_copyFrom_50 : decode cX0_copyFrom 50 = .ok (.aload_n 0, 1) := gdX0_copyFrom_30.2.2.2.2.2.2.2.2.2.2.2.1
theorem dX0_copyFrom_51 : decode cX0_copyFrom 51 = .ok (.getfield 21, 3) := gdX0_copyFrom_30.2.2.2.2.2.2.2.2.2.2.2.2.1
theorem dX0_copyFrom_54 : decode cX0_copyFrom 54 = .ok (.iconst 0, 1) := gdX0_copyFrom_30.2.2.2.2.2.2.2.2.2.2.2.2.2.1
theorem dX0_copyFrom_55 : decode cX0_copyFrom 55 = .ok (.bipush 8, 2) := gdX0_copyFrom_30.2.2.2.2.2.2.2.2.2.2.2.2.2.2.1
theorem dX0_copyFrom_57 : decode cX0_copyFrom 57 = .ok (.invokestatic 35, 3) := gdX0_copyFrom_30.2.2.2.2.2.2.2.2.2.2.2.2.2.2.2
theorem gdX0_copyFrom_60 : (decode cX0_copyFrom 60 = .ok (.aload_n 1, 1)) ∧ (decode cX0_copyFrom 61 = .ok (.getfield 24, 3)) ∧ (decode cX0_copyFrom 64 = .ok (.iconst 0, 1)) ∧ (decode cX0_copyFrom 65 = .ok (.aload_n 0, 1)) ∧ (decode cX0_copyFrom 66 = .ok (.getfield 24, 3)) ∧ (decode cX0_copyFrom 69 = .ok (.iconst 0, 1)) ∧ (decode cX0_copyFrom 70 = .ok (.bipush 8, 2)) ∧ (decode cX0_copyFrom 72 = .ok (.invokestatic 35, 3)) ∧ (decode cX0_copyFrom 75 = .ok (.aload_n 0, 1)) ∧ (decode cX0_copyFrom 76 = .ok (.aload_n 1, 1)) ∧ (decode cX0_copyFrom 77 = .ok (.getfield 28, 3)) ∧ (decode cX0_copyFrom 80 = .ok (.putfield 28, 3)) ∧ (decode cX0_copyFrom 83 = .ok (.aload_n 0, 1)) ∧ (decode cX0_copyFrom 84 = .ok (.aload_n 1, 1)) ∧ (decode cX0_copyFrom 85 = .ok (.getfield 32, 3)) ∧ (decode cX0_copyFrom 88 = .ok (.putfield 32, 3)) := by decide +kernel
theorem dX0_copyFrom_60 : decode cX0_copyFrom 60 = .ok (.aload_n 1, 1) := gdX0_copyFrom_60.1
theorem dX0_copyFrom_61 : decode cX0_copyFrom 61 = .ok (.getfield 24, 3) := gdX0_copyFrom_60.2.1
theorem dX0_copyFrom_64 : decode cX0_copyFrom 64 = .ok (.iconst 0, 1) := gdX0_copyFrom_60.2.2.1
theorem dX0_copyFrom_65 : decode cX0_copyFrom 65 = .ok (.aload_n 0, 1) := gdX0_copyFrom_60.2.2.2.1
theorem dX0_copyFrom_66 : decode cX0_copyFrom 66 = .ok (.getfield 24, 3) := gdX0_copyFrom_60.2.2.2.2.1
theorem dX0_copyFrom_69 : decode cX0_copyFrom 69 = .ok (.iconst 0, 1) := gdX0_copyFrom_60.2.2.2.2.2.1
theorem dX0_copyFrom_70 : decode cX0_copyFrom 70 = .ok (.bipush 8, 2) := gdX0_copyFrom_60.2.2.2.2.2.2.1
theorem dX0_copyFrom_72 : decode cX0_copyFrom 72 = .ok (.invokestatic 35, 3) := gdX0_copyFrom_60.2.2.2.2.2.2.2.1
theorem dX0_copyFrom_75 : decode cX0_copyFrom 75 = .ok (.aload_n 0, 1) := gdX0_copyFrom_60.2.2.2.2.2.2.2.2.1
theorem dX0_copyFrom_76 : decode cX0_copyFrom 76 = .ok (.aload_n 1, 1) := gdX0_copyFrom_60.2.2.2.2.2.2.2.2.2.1
theorem dX0_copyFrom_77 : decode cX0_copyFrom 77 = .ok (.getfield 28, 3) := gdX0_copyFrom_60.2.2.2.2.2.2.2.2.2.2.1
theorem dX0_copyFrom_80 : decode cX0_copyFrom 80 = .ok (.putfield 28, 3) := gdX0_copyFrom_60.2.2.2.2.2.2.2.2.2.2.2.1
theorem dX0_copyFrom_83 : decode cX0_copyFrom 83 = .ok (.aload_n 0, 1) := gdX0_copyFrom_60.2.2.2.2.2.2.2.2.2.2.2.2.1
theorem dX0_copyFrom_84 : decode cX0_copyFrom 84 = .ok (.aload_n 1, 1) := gdX0_copyFrom_60.2.2.2.2.2.2.2.2.2.2.2.2.2.1
theorem dX0_copyFrom_85 : decode cX0_copyFrom 85 = .ok (.getfield 32, 3) := gdX0_copyFrom_60.2.2.2.2.2.2.2.2.2.2.2.2.2.2.1
theorem dX0_copyFrom_88 : decode cX0_copyFrom 88 = .ok (.putfield 32, 3) := gdX0_copyFrom_60.2.2.2.2.2.2.2.2.2.2.2.2.2.2.2
theorem dX0_copyFrom_91 : decode cX0_copyFrom 91 = .ok (.return_, 1) := by decide +kernel
theorem gdX0_addThing_0 : (decode cX0_addThing 0 = .ok (.aload_n 0, 1)) ∧ (decode cX0_addThing 1 = .ok (.getfield 28, 3)) ∧ (decode cX0_addThing 4 = .ok (.bipush 8, 2)) ∧ (decode cX0_addThing 6 = .ok (.if_icmp .ge 32, 3)) ∧ (decode cX0_addThing 9 = .ok (.aload_n 0, 1)) ∧ (decode cX0_addThing 10 = .ok (.aload_n 0, 1)) ∧ (decode cX0_addThing 11 = .ok (.getfield 28, 3)) ∧ (decode cX0_addThing 14 = .ok (.iload_n 1, 1)) ∧ (decode cX0_addThing 15 = .ok (.invokevirtual 41, 3)) ∧ (decode cX0_addThing 18 = .ok (.aload_n 0, 1)) ∧ (decode cX0_addThing 19 = .ok (.getfield 24, 3)) ∧ (decode cX0_addThing 22 = .ok (.aload_n 0, 1)) ∧ (decode cX0_addThing 23 = .ok (.getfield 28, 3)) ∧ (decode cX0_addThing 26 = .ok (.lconst 0, 1)) ∧ (decode cX0_addThing 27 = .ok (.lastore, 1)) ∧ (decode cX0_addThing 28 = .ok (.aload_n 0, 1)) := by decide +kernel
theorem dX0_addThing_0 : decode cX0_addThing 0 = .ok (.aload_n 0, 1) := gdX0_addThing_0.1
theorem dX0_addThing_1 : decode cX0_addThing 1 = .ok (.getfield 28, 3) := gdX0_addThing_0.2.1
theorem dX0_addThing_4 : decode cX0_addThing 4 = .ok (.bipush 8, 2) := gdX0_addThing_0.2.2.1
theorem dX0_addThing_6 : decode cX0_addThing 6 = .ok (.if_icmp .ge 32, 3) := gdX0_addThing_0.2.2.2.1
theorem dX0_addThing_9 : decode cX0_addThing 9 = .ok (.aload_n 0, 1) := gdX0_addThing_0.2.2.2.2.1
theorem dX0_addThing_10 : decode cX0_addThing 10 = .ok (.aload_n 0, 1) := gdX0_addThing_0.2.2.2.2.2.1
theorem dX0_addThing_11 : decode cX0_addThing 11 = .ok (.getfield 28, 3) := gdX0_addThing_0.2.2.2.2.2.2.1
theorem dX0_addThing_14 : decode cX0_addThing 14 = .ok (.iload_n 1, 1) := gdX0_addThing_0.2.2.2.2.2.2.2.1
theorem dX0_addThing_15 : decode cX0_addThing 15 = .ok (.invokevirtual 41, 3) := gdX0_addThing_0.2.2.2.2.2.2.2.2.1
theorem dX0_addThing_18 : decode cX0_addThing 18 = .ok (.aload_n 0, 1) := gdX0_addThing_0.2.2.2.2.2.2.2.2.2.1
theorem dX0_addThing_19 : decode cX0_addThing 19 = .ok (.getfield 24, 3) := gdX0_addThing_0.2.2.2.2.2.2.2.2.2.2.1
theorem dX0_addThing_22 : decode cX0_addThing 22 = .ok (.aload_n 0, 1) := gdX0_addThing_0.2.2.2.2.2.2.2.2.2.2.2.1
theorem dX0_addThing_23 : decode cX0_addThing 23 = .ok (.getfield 28, 3) := gdX0_addThing_0.2.2.2.2.2.2.2.2.2.2.2.2.1
theorem dX0_addThing_26 : decode cX0_addThing 26 = .ok (.lconst 0, 1) := gdX0_addThing_0.2.2.2.2.2.2.2.2.2.2.2.2.2.1
theorem dX0_addThing_27 : decode cX0_addThing 27 = .ok (.lastore, 1) := gdX0_addThing_0.2.2.2.2.2.2.2.2.2.2.2.2.2.2.1
theorem dX0_addThing_28 : decode cX0_addThing 28 = .ok (.aload_n 0, 1) := gdX0_addThing_0.2.2.2.2.2.2.2.2.2.2.2.2.2.2.2
theorem gdX0_addThing_29 : (decode cX0_addThing 29 = .ok (.dup, 1)) ∧ (decode cX0_addThing 30 = .ok (.getfield 28, 3)) ∧ (decode cX0_addThing 33 = .ok (.iconst 1, 1)) ∧ (decode cX0_addThing 34 = .ok (.iadd, 1)) ∧ (decode cX0_addThing 35 = .ok (.putfield 28, 3)) ∧ (decode cX0_addThing 38 = .ok (.return_, 1)) := by decide +kernel
theorem dX0_addThing_29 : decode cX0_addThing 29 = .ok (.dup, 1) := gdX0_addThing_29.1
theorem dX0_addThing_30 : decode cX0_addThing 30 = .ok (.getfield 28, 3) := gdX0_addThing_29.2.1
theorem dX0_addThing_33 : decode cX0_addThing 33 = .ok (.iconst 1, 1) := gdX0_addThing_29.2.2.1
theorem dX0_addThing_34 : decode cX0_addThing 34 = .ok (.iadd, 1) := gdX0_addThing_29.2.2.2.1
theorem dX0_addThing_35 : decode cX0_addThing 35 = .ok (.putfield 28, 3) := gdX0_addThing_29.2.2.2.2.1
theorem dX0_addThing_38 : decode cX0_addThing 38 = .ok (.return_, 1) := gdX0_addThing_29.2.2.2.2.2
theorem gdX0_putOn_0 : (decode cX0_putOn 0 = .ok (.aload_n 0, 1)) ∧ (decode cX0_putOn 1 = .ok (.getfield 9, 3)) ∧ (decode cX0_putOn 4 = .ok (.iload_n 1, 1)) ∧ (decode cX0_putOn 5 = .ok (.iload_n 2, 1)) ∧ (decode cX0_putOn 6 = .ok (.iastore, 1)) ∧ (decode cX0_putOn 7 = .ok (.aload_n 0, 1)) ∧ (decode cX0_putOn 8 = .ok (.getfield 15, 3)) ∧ (decode cX0_putOn 11 = .ok (.iload_n 1, 1)) ∧ (decode cX0_putOn 12 = .ok (.iconst (-1), 1)) ∧ (decode cX0_putOn 13 = .ok (.iastore, 1)) ∧ (decode cX0_putOn 14 = .ok (.aload_n 0, 1)) ∧ (decode cX0_putOn 15 = .ok (.getfield 18, 3)) ∧ (decode cX0_putOn 18 = .ok (.iload_n 1, 1)) ∧ (decode cX0_putOn 19 = .ok (.iconst 0, 1)) ∧ (decode cX0_putOn 20 = .ok (.iastore, 1)) ∧ (decode cX0_putOn 21 = .ok (.aload_n 0, 1)) := by decide +kernel
theorem dX0_putOn_0 : decode cX0_putOn 0 = .ok (.aload_n 0, 1) := gdX0_putOn_0.1
theorem dX0_putOn_1 : decode cX0_putOn 1 = .ok (.getfield 9, 3) := gdX0_putOn_0.2.1
theorem dX0_putOn_4 : decode cX0_putOn 4 = .ok (.iload_n 1, 1) := gdX0_putOn_0.2.2.1
theorem dX0_putOn_5 : decode cX0_putOn 5 = .ok (.iload_n 2, 1) := gdX0_putOn_0.2.2.2.1
theorem dX0_putOn_6 : decode cX0_putOn 6 = .ok (.iastore, 1) := gdX0_putOn_0.2.2.2.2.1
theorem dX0_putOn_7 : decode cX0_putOn 7 = .ok (.aload_n 0, 1) := gdX0_putOn_0.2.2.2.2.2.1
theorem dX0_putOn_8 : decode cX0_putOn 8 = .ok (.getfield 15, 3) := gdX0_putOn_0.2.2.2.2.2.2.1
theorem dX0_putOn_11 : decode cX0_putOn 11 = .ok (.iload_n 1, 1) := gdX0_putOn_0.2.2.2.2.2.2.2.1
theorem dX0_putOn_12 : decode cX0_putOn 12 = .ok (.iconst (-1), 1) := gdX0_putOn_0.2.2.2.2.2.2.2.2.1
theorem dX0_putOn_13 : decode cX0_putOn 13 = .ok (.iastore, 1) := gdX0_putOn_0.2.2.2.2.2.2.2.2.2.1
theorem dX0_putOn_14 : decode cX0_putOn 14 = .ok (.aload_n 0, 1) := gdX0_putOn_0.2.2.2.2.2.2.2.2.2.2.1
theorem dX0_putOn_15 : decode cX0_putOn 15 = .ok (.getfield 18, 3) := gdX0_putOn_0.2.2.2.2.2.2.2.2.2.2.2.1
theorem dX0_putOn_18 : decode cX0_putOn 18 = .ok (.iload_n 1, 1) := gdX0_putOn_0.2.2.2.2.2.2.2.2.2.2.2.2.1
theorem dX0_putOn_19 : decode cX0_putOn 19 = .ok (.iconst 0, 1) := gdX0_putOn_0.2.2.2.2.2.2.2.2.2.2.2.2.2.1
theorem dX0_putOn_20 : decode cX0_putOn 20 = .ok (.iastore, 1) := gdX0_putOn_0.2.2.2.2.2.2.2.2.2.2.2.2.2.2.1
theorem dX0_putOn_21 : decode cX0_putOn 21 = .ok (.aload_n 0, 1) := gdX0_putOn_0.2.2.2.2.2.2.2.2.2.2.2.2.2.2.2
theorem gdX0_putOn_22 : (decode cX0_putOn 22 = .ok (.getfield 21, 3)) ∧ (decode cX0_putOn 25 = .ok (.iload_n 1, 1)) ∧ (decode cX0_putOn 26 = .ok (.iconst (-1), 1)) ∧ (decode cX0_putOn 27 = .ok (.iastore, 1)) ∧ (decode cX0_putOn 28 = .ok (.return_, 1)) := by decide +kernel
theorem dX0_putOn_22 : decode cX0_putOn 22 = .ok (.getfield 21, 3) := gdX0_putOn_22.1
theorem dX0_putOn_25 : decode cX0_putOn 25 = .ok (.iload_n 1, 1) := gdX0_putOn_22.2.1
theorem dX0_putOn_26 : decode cX0_putOn 26 = .ok (.iconst (-1), 1) := gdX0_putOn_22.2.2.1
theorem dX0_putOn_27 : decode cX0_putOn 27 = .ok (.iastore, 1) := gdX0_putOn_22.2.2.2.1
theorem dX0_putOn_28 : decode cX0_putOn 28 = .ok (.return_, 1) := gdX0_putOn_22.2.2.2.2
theorem gdX0_isStanding_0 : (decode cX0_isStanding 0 = .ok (.aload_n 0, 1)) ∧ (decode cX0_isStanding 1 = .ok (.getfield 9, 3)) ∧ (decode cX0_isStanding 4 = .ok (.iload_n 1, 1)) ∧ (decode cX0_isStanding 5 = .ok (.iaload, 1)) ∧ (decode cX0_isStanding 6 = .ok (.ifCond .lt 7, 3)) ∧ (decode cX0_isStanding 9 = .ok (.iconst 1, 1)) ∧ (decode cX0_isStanding 10 = .ok (.goto 4, 3)) ∧ (decode cX0_isStanding 13 = .ok (.iconst 0, 1)) ∧ (decode cX0_isStanding 14 = .ok (.ireturn, 1)) := by decide +kernel
theorem dX0_isStanding_0 : decode cX0_isStanding 0 = .ok (.aload_n 0, 1) := gdX0_isStanding_0.1
theorem dX0_isStanding_1 : decode cX0_isStanding 1 = .ok (.getfield 9, 3) := gdX0_isStanding_0.2.1
theorem dX0_isStanding_4 : decode cX0_isStanding 4 = .ok (.iload_n 1, 1) := gdX0_isStanding_0.2.2.1
theorem dX0_isStanding_5 : decode cX0_isStanding 5 = .ok (.iaload, 1) := gdX0_isStanding_0.2.2.2.1
theorem dX0_isStanding_6 : decode cX0_isStanding 6 = .ok (.ifCond .lt 7, 3) := gdX0_isStanding_0.2.2.2.2.1
theorem dX0_isStanding_9 : decode cX0_isStanding 9 = .ok (.iconst 1, 1) := gdX0_isStanding_0.2.2.2.2.2.1
theorem dX0_isStanding_10 : decode cX0_isStanding 10 = .ok (.goto 4, 3) := gdX0_isStanding_0.2.2.2.2.2.2.1
theorem dX0_isStanding_13 : decode cX0_isStanding 13 = .ok (.iconst 0, 1) := gdX0_isStanding_0.2.2.2.2.2.2.2.1
theorem dX0_isStanding_14 : decode cX0_isStanding 14 = .ok (.ireturn, 1) := gdX0_isStanding_0.2.2.2.2.2.2.2.2
theorem gdX0_isTogether_0 : (decode cX0_isTogether 0 = .ok (.aload_n 0, 1)) ∧ (decode cX0_isTogether 1 = .ok (.iload_n 1, 1)) ∧ (decode cX0_isTogether 2 = .ok (.invokevirtual 45, 3)) ∧ (decode cX0_isTogether 5 = .ok (.ifCond .eq 22, 3)) ∧ (decode cX0_isTogether 8 = .ok (.aload_n 0, 1)) ∧ (decode cX0_isTogether 9 = .ok (.getfield 9, 3)) ∧ (decode cX0_isTogether 12 = .ok (.iload_n 1, 1)) ∧ (decode cX0_isTogether 13 = .ok (.iaload, 1)) ∧ (decode cX0_isTogether 14 = .ok (.aload_n 0, 1)) ∧ (decode cX0_isTogether 15 = .ok (.getfield 9, 3)) ∧ (decode cX0_isTogether 18 = .ok (.iload_n 2, 1)) ∧ (decode cX0_isTogether 19 = .ok (.iaload, 1)) ∧ (decode cX0_isTogether 20 = .ok (.if_icmp .ne 7, 3)) ∧ (decode cX0_isTogether 23 = .ok (.iconst 1, 1)) ∧ (decode cX0_isTogether 24 = .ok (.goto 4, 3)) ∧ (decode cX0_isTogether 27 = .ok (.iconst 0, 1)) := by decide +kernel
theorem dX0_isTogether_0 : decode cX0_isTogether 0 = .ok (.aload_n 0, 1) := gdX0_isTogether_0.1
theorem dX0_isTogether_1 : decode cX0_isTogether 1 = .ok (.iload_n 1, 1) := gdX0_isTogether_0.2.1
theorem dX0_isTogether_2 : decode cX0_isTogether 2 = .ok (.invokevirtual 45, 3) := gdX0_isTogether_0.2.2.1
theorem dX0_isTogether_5 : decode cX0_isTogether 5 = .ok (.ifCond .eq 22, 3) := gdX0_isTogether_0.2.2.2.1
theorem dX0_isTogether_8 : decode cX0_isTogether 8 = .ok (.aload_n 0, 1) := gdX0_isTogether_0.2.2.2.2.1
theorem dX0_isTogether_9 : decode cX0_isTogether 9 = .ok (.getfield 9, 3) := gdX0_isTogether_0.2.2.2.2.2.1
theorem dX0_isTogether_12 : decode cX0_isTogether 12 = .ok (.iload_n 1, 1) := gdX0_isTogether_0.2.2.2.2.2.2.1
theorem dX0_isTogether_13 : decode cX0_isTogether 13 = .ok (.iaload, 1) := gdX0_isTogether_0.2.2.2.2.2.2.2.1
theorem dX0_isTogether_14 : decode cX0_isTogether 14 = .ok (.aload_n 0, 1) := gdX0_isTogether_0.2.2.2.2.2.2.2.2.1
theorem dX0_isTogether_15 : decode cX0_isTogether 15 = .ok (.getfield 9, 3) := gdX0_isTogether_0.2.2.2.2.2.2.2.2.2.1
theorem dX0_isTogether_18 : decode cX0_isTogether 18 = .ok (.iload_n 2, 1) := gdX0_isTogether_0.2.2.2.2.2.2.2.2.2.2.1
theorem dX0_isTogether_19 : decode cX0_isTogether 19 = .ok (.iaload, 1) := gdX0_isTogether_0.2.2.2.2.2.2.2.2.2.2.2.1
theorem dX0_isTogether_20 : decode cX0_isTogether 20 = .ok (.if_icmp .ne 7, 3) := gdX0_isTogether_0.2.2.2.2.2.2.2.2.2.2.2.2.1
theorem dX0_isTogether_23 : decode cX0_isTogether 23 = .ok (.iconst 1, 1) := gdX0_isTogether_0.2.2.2.2.2.2.2.2.2.2.2.2.2.1
theorem dX0_isTogether_24 : decode cX0_isTogether 24 = .ok (.goto 4, 3) := gdX0_isTogether_0.2.2.2.2.2.2.2.2.2.2.2.2.2.2.1
theorem dX0_isTogether_27 : decode cX0_isTogether 27 = .ok (.iconst 0, 1) := gdX0_isTogether_0.2.2.2.2.2.2.2.2.2.2.2.2.2.2.2
theorem dX0_isTogether_28 : decode cX0_isTogether 28 = .ok (.ireturn, 1) := by decide +kernel
theorem gdX0_setOff_0 : (decode cX0_setOff 0 = .ok (.iload_n 3, 1)) ∧ (decode cX0_setOff 1 = .ok (.ifCond .ge 7, 3)) ∧ (decode cX0_setOff 4 = .ok (.iconst (-1), 1)) ∧ (decode cX0_setOff 5 = .ok (.goto 14, 3)) ∧ (decode cX0_setOff 8 = .ok (.aload_n 1, 1)) ∧ (decode cX0_setOff 9 = .ok (.iload_n 3, 1)) ∧ (decode cX0_setOff 10 = .ok (.aload_n 0, 1)) ∧ (decode cX0_setOff 11 = .ok (.getfield 9, 3)) ∧ (decode cX0_setOff 14 = .ok (.iload_n 2, 1)) ∧ (decode cX0_setOff 15 = .ok (.iaload, 1)) ∧ (decode cX0_setOff 16 = .ok (.invokevirtual 49, 3)) ∧ (decode cX0_setOff 19 = .ok (.istore 4, 2)) ∧ (decode cX0_setOff 21 = .ok (.iload 4, 2)) ∧ (decode cX0_setOff 23 = .ok (.ifCond .ge 5, 3)) ∧ (decode cX0_setOff 26 = .ok (.iconst 0, 1)) ∧ (decode cX0_setOff 27 = .ok (.ireturn, 1)) := by decide +kernel
theorem dX0_setOff_0 : decode cX0_setOff 0 = .ok (.iload_n 3, 1) := gdX0_setOff_0.1
theorem dX0_setOff_1 : decode cX0_setOff 1 = .ok (.ifCond .ge 7, 3) := gdX0_setOff_0.2.1
theorem dX0_setOff_4 : decode cX0_setOff 4 = .ok (.iconst (-1), 1) := gdX0_setOff_0.2.2.1
theorem dX0_setOff_5 : decode cX0_setOff 5 = .ok (.goto 14, 3) := gdX0_setOff_0.2.2.2.1
theorem dX0_setOff_8 : decode cX0_setOff 8 = .ok (.aload_n 1, 1) := gdX0_setOff_0.2.2.2.2.1
theorem dX0_setOff_9 : decode cX0_setOff 9 = .ok (.iload_n 3, 1) := gdX0_setOff_0.2.2.2.2.2.1
theorem dX0_setOff_10 : decode cX0_setOff 10 = .ok (.aload_n 0, 1) := gdX0_setOff_0.2.2.2.2.2.2.1
theorem dX0_setOff_11 : decode cX0_setOff 11 = .ok (.getfield 9, 3) := gdX0_setOff_0.2.2.2.2.2.2.2.1
theorem dX0_setOff_14 : decode cX0_setOff 14 = .ok (.iload_n 2, 1) := gdX0_setOff_0.2.2.2.2.2.2.2.2.1
theorem dX0_setOff_15 : decode cX0_setOff 15 = .ok (.iaload, 1) := gdX0_setOff_0.2.2.2.2.2.2.2.2.2.1
theorem dX0_setOff_16 : decode cX0_setOff 16 = .ok (.invokevirtual 49, 3) := gdX0_setOff_0.2.2.2.2.2.2.2.2.2.2.1
theorem dX0_setOff_19 : decode cX0_setOff 19 = .ok (.istore 4, 2) := gdX0_setOff_0.2.2.2.2.2.2.2.2.2.2.2.1
theorem dX0_setOff_21 : decode cX0_setOff 21 = .ok (.iload 4, 2) := gdX0_setOff_0.2.2.2.2.2.2.2.2.2.2.2.2.1
theorem dX0_setOff_23 : decode cX0_setOff 23 = .ok (.ifCond .ge 5, 3) := gdX0_setOff_0.2.2.2.2.2.2.2.2.2.2.2.2.2.1
theorem dX0_setOff_26 : decode cX0_setOff 26 = .ok (.iconst 0, 1) := gdX0_setOff_0.2.2.2.2.2.2.2.2.2.2.2.2.2.2.1
theorem dX0_setOff_27 : decode cX0_setOff 27 = .ok (.ireturn, 1) := gdX0_setOff_0.2.2.2.2.2.2.2.2.2.2.2.2.2.2.2
theorem gdX0_setOff_28 : (decode cX0_setOff 28 = .ok (.aload_n 0, 1)) ∧ (decode cX0_setOff 29 = .ok (.getfield 9, 3)) ∧ (decode cX0_setOff 32 = .ok (.iload_n 2, 1)) ∧ (decode cX0_setOff 33 = .ok (.iconst (-1), 1)) ∧ (decode cX0_setOff 34 = .ok (.iastore, 1)) ∧ (decode cX0_setOff 35 = .ok (.aload_n 0, 1)) ∧ (decode cX0_setOff 36 = .ok (.getfield 15, 3)) ∧ (decode cX0_setOff 39 = .ok (.iload_n 2, 1)) ∧ (decode cX0_setOff 40 = .ok (.iload_n 3, 1)) ∧ (decode cX0_setOff 41 = .ok (.iastore, 1)) ∧ (decode cX0_setOff 42 = .ok (.aload_n 0, 1)) ∧ (decode cX0_setOff 43 = .ok (.getfield 18, 3)) ∧ (decode cX0_setOff 46 = .ok (.iload_n 2, 1)) ∧ (decode cX0_setOff 47 = .ok (.iconst 0, 1)) ∧ (decode cX0_setOff 48 = .ok (.iastore, 1)) ∧ (decode cX0_setOff 49 = .ok (.aload_n 0, 1)) := by decide +kernel
theorem dX0_setOff_28 : decode cX0_setOff 28 = .ok (.aload_n 0, 1) := gdX0_setOff_28.1
theorem dX0_setOff_29 : decode cX0_setOff 29 = .ok (.getfield 9, 3) := gdX0_setOff_28.2.1
theorem dX0_setOff_32 : decode cX0_setOff 32 = .ok (.iload_n 2, 1) := gdX0_setOff_28.2.2.1
theorem dX0_setOff_33 : decode cX0_setOff 33 = .ok (.iconst (-1), 1) := gdX0_setOff_28.2.2.2.1
theorem dX0_setOff_34 : decode cX0_setOff 34 = .ok (.iastore, 1) := gdX0_setOff_28.2.2.2.2.1
theorem dX0_setOff_35 : decode cX0_setOff 35 = .ok (.aload_n 0, 1) := gdX0_setOff_28.2.2.2.2.2.1
theorem dX0_setOff_36 : decode cX0_setOff 36 = .ok (.getfield 15, 3) := gdX0_setOff_28.2.2.2.2.2.2.1
theorem dX0_setOff_39 : decode cX0_setOff 39 = .ok (.iload_n 2, 1) := gdX0_setOff_28.2.2.2.2.2.2.2.1
theorem dX0_setOff_40 : decode cX0_setOff 40 = .ok (.iload_n 3, 1) := gdX0_setOff_28.2.2.2.2.2.2.2.2.1
theorem dX0_setOff_41 : decode cX0_setOff 41 = .ok (.iastore, 1) := gdX0_setOff_28.2.2.2.2.2.2.2.2.2.1
theorem dX0_setOff_42 : decode cX0_setOff 42 = .ok (.aload_n 0, 1) := gdX0_setOff_28.2.2.2.2.2.2.2.2.2.2.1
theorem dX0_setOff_43 : decode cX0_setOff 43 = .ok (.getfield 18, 3) := gdX0_setOff_28.2.2.2.2.2.2.2.2.2.2.2.1
theorem dX0_setOff_46 : decode cX0_setOff 46 = .ok (.iload_n 2, 1) := gdX0_setOff_28.2.2.2.2.2.2.2.2.2.2.2.2.1
theorem dX0_setOff_47 : decode cX0_setOff 47 = .ok (.iconst 0, 1) := gdX0_setOff_28.2.2.2.2.2.2.2.2.2.2.2.2.2.1
theorem dX0_setOff_48 : decode cX0_setOff 48 = .ok (.iastore, 1) := gdX0_setOff_28.2.2.2.2.2.2.2.2.2.2.2.2.2.2.1
theorem dX0_setOff_49 : decode cX0_setOff 49 = .ok (.aload_n 0, 1) := gdX0_setOff_28.2.2.2.2.2.2.2.2.2.2.2.2.2.2.2
theorem gdX0_setOff_50 : (decode cX0_setOff 50 = .ok (.getfield 21, 3)) ∧ (decode cX0_setOff 53 = .ok (.iload_n 2, 1)) ∧ (decode cX0_setOff 54 = .ok (.iload 4, 2)) ∧ (decode cX0_setOff 56 = .ok (.iastore, 1)) ∧ (decode cX0_setOff 57 = .ok (.iconst 1, 1)) ∧ (decode cX0_setOff 58 = .ok (.ireturn, 1)) := by decide +kernel
theorem dX0_setOff_50 : decode cX0_setOff 50 = .ok (.getfield 21, 3) := gdX0_setOff_50.1
theorem dX0_setOff_53 : decode cX0_setOff 53 = .ok (.iload_n 2, 1) := gdX0_setOff_50.2.1
theorem dX0_setOff_54 : decode cX0_setOff 54 = .ok (.iload 4, 2) := gdX0_setOff_50.2.2.1
theorem dX0_setOff_56 : decode cX0_setOff 56 = .ok (.iastore, 1) := gdX0_setOff_50.2.2.2.1
theorem dX0_setOff_57 : decode cX0_setOff 57 = .ok (.iconst 1, 1) := gdX0_setOff_50.2.2.2.2.1
theorem dX0_setOff_58 : decode cX0_setOff 58 = .ok (.ireturn, 1) := gdX0_setOff_50.2.2.2.2.2
theorem gdX0_live_0 : (decode cX0_live 0 = .ok (.iconst 0, 1)) ∧ (decode cX0_live 1 = .ok (.istore 4, 2)) ∧ (decode cX0_live 3 = .ok (.iload 4, 2)) ∧ (decode cX0_live 5 = .ok (.iload_n 3, 1)) ∧ (decode cX0_live 6 = .ok (.if_icmp .ge 24, 3)) ∧ (decode cX0_live 9 = .ok (.aload_n 2, 1)) ∧ (decode cX0_live 10 = .ok (.ifnull 9, 3)) ∧ (decode cX0_live 13 = .ok (.aload_n 0, 1)) ∧ (decode cX0_live 14 = .ok (.aload_n 1, 1)) ∧ (decode cX0_live 15 = .ok (.aload_n 2, 1)) ∧ (decode cX0_live 16 = .ok (.invokevirtual 55, 3)) ∧ (decode cX0_live 19 = .ok (.aload_n 0, 1)) ∧ (decode cX0_live 20 = .ok (.aload_n 1, 1)) ∧ (decode cX0_live 21 = .ok (.invokevirtual 59, 3)) ∧ (decode cX0_live 24 = .ok (.iinc 4 1, 3)) ∧ (decode cX0_live 27 = .ok (.goto (-24), 3)) := by decide +kernel
theorem dX0_live_0 : decode cX0_live 0 = .ok (.iconst 0, 1) := gdX0_live_0.1
theorem dX0_live_1 : decode cX0_live 1 = .ok (.istore 4, 2) := gdX0_live_0.2.1
theorem dX0_live_3 : decode cX0_live 3 = .ok (.iload 4, 2) := gdX0_live_0.2.2.1
theorem dX0_live_5 : decode cX0_live 5 = .ok (.iload_n 3, 1) := gdX0_live_0.2.2.2.1
theorem dX0_live_6 : decode cX0_live 6 = .ok (.if_icmp .ge 24, 3) := gdX0_live_0.2.2.2.2.1
theorem dX0_live_9 : decode cX0_live 9 = .ok (.aload_n 2, 1) := gdX0_live_0.2.2.2.2.2.1
theorem dX0_live_10 : decode cX0_live 10 = .ok (.ifnull 9, 3) := gdX0_live_0.2.2.2.2.2.2.1
theorem dX0_live_13 : decode cX0_live 13 = .ok (.aload_n 0, 1) := gdX0_live_0.2.2.2.2.2.2.2.1
theorem dX0_live_14 : decode cX0_live 14 = .ok (.aload_n 1, 1) := gdX0_live_0.2.2.2.2.2.2.2.2.1
theorem dX0_live_15 : decode cX0_live 15 = .ok (.aload_n 2, 1) := gdX0_live_0.2.2.2.2.2.2.2.2.2.1
theorem dX0_live_16 : decode cX0_live 16 = .ok (.invokevirtual 55, 3) := gdX0_live_0.2.2.2.2.2.2.2.2.2.2.1
theorem dX0_live_19 : decode cX0_live 19 = .ok (.aload_n 0, 1) := gdX0_live_0.2.2.2.2.2.2.2.2.2.2.2.1
theorem dX0_live_20 : decode cX0_live 20 = .ok (.aload_n 1, 1) := gdX0_live_0.2.2.2.2.2.2.2.2.2.2.2.2.1
theorem dX0_live_21 : decode cX0_live 21 = .ok (.invokevirtual 59, 3) := gdX0_live_0.2.2.2.2.2.2.2.2.2.2.2.2.2.1
theorem dX0_live_24 : decode cX0_live 24 = .ok (.iinc 4 1, 3) := gdX0_live_0.2.2.2.2.2.2.2.2.2.2.2.2.2.2.1
theorem dX0_live_27 : decode cX0_live 27 = .ok (.goto (-24), 3) := gdX0_live_0.2.2.2.2.2.2.2.2.2.2.2.2.2.2.2
theorem dX0_live_30 : decode cX0_live 30 = .ok (.return_, 1) := by decide +kernel
theorem gdX0_obey_0 : (decode cX0_obey 0 = .ok (.iconst 0, 1)) ∧ (decode cX0_obey 1 = .ok (.istore_n 3, 1)) ∧ (decode cX0_obey 2 = .ok (.iload_n 3, 1)) ∧ (decode cX0_obey 3 = .ok (.aload_n 0, 1)) ∧ (decode cX0_obey 4 = .ok (.getfield 28, 3)) ∧ (decode cX0_obey 7 = .ok (.if_icmp .ge 63, 3)) ∧ (decode cX0_obey 10 = .ok (.aload_n 0, 1)) ∧ (decode cX0_obey 11 = .ok (.iload_n 3, 1)) ∧ (decode cX0_obey 12 = .ok (.invokevirtual 45, 3)) ∧ (decode cX0_obey 15 = .ok (.ifCond .ne 6, 3)) ∧ (decode cX0_obey 18 = .ok (.goto 46, 3)) ∧ (decode cX0_obey 21 = .ok (.aload_n 2, 1)) ∧ (decode cX0_obey 22 = .ok (.aload_n 1, 1)) ∧ (decode cX0_obey 23 = .ok (.aload_n 0, 1)) ∧ (decode cX0_obey 24 = .ok (.iload_n 3, 1)) ∧ (decode cX0_obey 25 = .ok (.invokevirtual 63, 3)) := by decide +kernel
theorem dX0_obey_0 : decode cX0_obey 0 = .ok (.iconst 0, 1) := gdX0_obey_0.1
theorem dX0_obey_1 : decode cX0_obey 1 = .ok (.istore_n 3, 1) := gdX0_obey_0.2.1
theorem dX0_obey_2 : decode cX0_obey 2 = .ok (.iload_n 3, 1) := gdX0_obey_0.2.2.1
theorem dX0_obey_3 : decode cX0_obey 3 = .ok (.aload_n 0, 1) := gdX0_obey_0.2.2.2.1
theorem dX0_obey_4 : decode cX0_obey 4 = .ok (.getfield 28, 3) := gdX0_obey_0.2.2.2.2.1
theorem dX0_obey_7 : decode cX0_obey 7 = .ok (.if_icmp .ge 63, 3) := gdX0_obey_0.2.2.2.2.2.1
theorem dX0_obey_10 : decode cX0_obey 10 = .ok (.aload_n 0, 1) := gdX0_obey_0.2.2.2.2.2.2.1
theorem dX0_obey_11 : decode cX0_obey 11 = .ok (.iload_n 3, 1) := gdX0_obey_0.2.2.2.2.2.2.2.1
theorem dX0_obey_12 : decode cX0_obey 12 = .ok (.invokevirtual 45, 3) := gdX0_obey_0.2.2.2.2.2.2.2.2.1
theorem dX0_obey_15 : decode cX0_obey 15 = .ok (.ifCond .ne 6, 3) := gdX0_obey_0.2.2.2.2.2.2.2.2.2.1
theorem dX0_obey_18 : decode cX0_obey 18 = .ok (.goto 46, 3) := gdX0_obey_0.2.2.2.2.2.2.2.2.2.2.1
theorem dX0_obey_21 : decode cX0_obey 21 = .ok (.aload_n 2, 1) := gdX0_obey_0.2.2.2.2.2.2.2.2.2.2.2.1
theorem dX0_obey_22 : decode cX0_obey 22 = .ok (.aload_n 1, 1) := gdX0_obey_0.2.2.2.2.2.2.2.2.2.2.2.2.1
theorem dX0_obey_23 : decode cX0_obey 23 = .ok (.aload_n 0, 1) := gdX0_obey_0.2.2.2.2.2.2.2.2.2.2.2.2.2.1
theorem dX0_obey_24 : decode cX0_obey 24 = .ok (.iload_n 3, 1) := gdX0_obey_0.2.2.2.2.2.2.2.2.2.2.2.2.2.2.1
theorem dX0_obey_25 : decode cX0_obey 25 = .ok (.invokevirtual 63, 3) := gdX0_obey_0.2.2.2.2.2.2.2.2.2.2.2.2.2.2.2
theorem gdX0_obey_28 : (decode cX0_obey 28 = .ok (.istore 4, 2)) ∧ (decode cX0_obey 30 = .ok (.iload 4, 2)) ∧ (decode cX0_obey 32 = .ok (.iconst 0, 1)) ∧ (decode cX0_obey 33 = .ok (.aload_n 1, 1)) ∧ (decode cX0_obey 34 = .ok (.getfield 69, 3)) ∧ (decode cX0_obey 37 = .ok (.iconst 1, 1)) ∧ (decode cX0_obey 38 = .ok (.isub, 1)) ∧ (decode cX0_obey 39 = .ok (.invokestatic 72, 3)) ∧ (decode cX0_obey 42 = .ok (.ifCond .eq 22, 3)) ∧ (decode cX0_obey 45 = .ok (.aload_n 0, 1)) ∧ (decode cX0_obey 46 = .ok (.aload_n 1, 1)) ∧ (decode cX0_obey 47 = .ok (.iload_n 3, 1)) ∧ (decode cX0_obey 48 = .ok (.aload_n 1, 1)) ∧ (decode cX0_obey 49 = .ok (.aload_n 0, 1)) ∧ (decode cX0_obey 50 = .ok (.getfield 9, 3)) ∧ (decode cX0_obey 53 = .ok (.iload_n 3, 1)) := by decide +kernel
theorem dX0_obey_28 : decode cX0_obey 28 = .ok (.istore 4, 2) := gdX0_obey_28.1
theorem dX0_obey_30 : decode cX0_obey 30 = .ok (.iload 4, 2) := gdX0_obey_28.2.1
theorem dX0_obey_32 : decode cX0_obey 32 = .ok (.iconst 0, 1) := gdX0_obey_28.2.2.1
theorem dX0_obey_33 : decode cX0_obey 33 = .ok (.aload_n 1, 1) := gdX0_obey_28.2.2.2.1
theorem dX0_obey_34 : decode cX0_obey 34 = .ok (.getfield 69, 3) := gdX0_obey_28.2.2.2.2.1
theorem dX0_obey_37 : decode cX0_obey 37 = .ok (.iconst 1, 1) := gdX0_obey_28.2.2.2.2.2.1
theorem dX0_obey_38 : decode cX0_obey 38 = .ok (.isub, 1) := gdX0_obey_28.2.2.2.2.2.2.1
theorem dX0_obey_39 : decode cX0_obey 39 = .ok (.invokestatic 72, 3) := gdX0_obey_28.2.2.2.2.2.2.2.1
theorem dX0_obey_42 : decode cX0_obey 42 = .ok (.ifCond .eq 22, 3) := gdX0_obey_28.2.2.2.2.2.2.2.2.1
theorem dX0_obey_45 : decode cX0_obey 45 = .ok (.aload_n 0, 1) := gdX0_obey_28.2.2.2.2.2.2.2.2.2.1
theorem dX0_obey_46 : decode cX0_obey 46 = .ok (.aload_n 1, 1) := gdX0_obey_28.2.2.2.2.2.2.2.2.2.2.1
theorem dX0_obey_47 : decode cX0_obey 47 = .ok (.iload_n 3, 1) := gdX0_obey_28.2.2.2.2.2.2.2.2.2.2.2.1
theorem dX0_obey_48 : decode cX0_obey 48 = .ok (.aload_n 1, 1) := gdX0_obey_28.2.2.2.2.2.2.2.2.2.2.2.2.1
theorem dX0_obey_49 : decode cX0_obey 49 = .ok (.aload_n 0, 1) := gdX0_obey_28.2.2.2.2.2.2.2.2.2.2.2.2.2.1
theorem dX0_obey_50 : decode cX0_obey 50 = .ok (.getfield 9, 3) := gdX0_obey_28.2.2.2.2.2.2.2.2.2.2.2.2.2.2.1
theorem dX0_obey_53 : decode cX0_obey 53 = .ok (.iload_n 3, 1) := gdX0_obey_28.2.2.2.2.2.2.2.2.2.2.2.2.2.2.2
theorem gdX0_obey_54 : (decode cX0_obey 54 = .ok (.iaload, 1)) ∧ (decode cX0_obey 55 = .ok (.iload 4, 2)) ∧ (decode cX0_obey 57 = .ok (.invokevirtual 76, 3)) ∧ (decode cX0_obey 60 = .ok (.invokevirtual 79, 3)) ∧ (decode cX0_obey 63 = .ok (.pop, 1)) ∧ (decode cX0_obey 64 = .ok (.iinc 3 1, 3)) ∧ (decode cX0_obey 67 = .ok (.goto (-65), 3)) ∧ (decode cX0_obey 70 = .ok (.return_, 1)) := by decide +kernel
theorem dX0_obey_54 : decode cX0_obey 54 = .ok (.iaload, 1) := gdX0_obey_54.1
theorem dX0_obey_55 : decode cX0_obey 55 = .ok (.iload 4, 2) := gdX0_obey_54.2.1
theorem dX0_obey_57 : decode cX0_obey 57 = .ok (.invokevirtual 76, 3) := gdX0_obey_54.2.2.1
theorem dX0_obey_60 : decode cX0_obey 60 = .ok (.invokevirtual 79, 3) := gdX0_obey_54.2.2.2.1
theorem dX0_obey_63 : decode cX0_obey 63 = .ok (.pop, 1) := gdX0_obey_54.2.2.2.2.1
theorem dX0_obey_64 : decode cX0_obey 64 = .ok (.iinc 3 1, 3) := gdX0_obey_54.2.2.2.2.2.1
theorem dX0_obey_67 : decode cX0_obey 67 = .ok (.goto (-65), 3) := gdX0_obey_54.2.2.2.2.2.2.1
theorem dX0_obey_70 : decode cX0_obey 70 = .ok (.return_, 1) := gdX0_obey_54.2.2.2.2.2.2.2
theorem gdX0_passHour_0 : (decode cX0_passHour 0 = .ok (.iconst 0, 1)) ∧ (decode cX0_passHour 1 = .ok (.istore_n 2, 1)) ∧ (decode cX0_passHour 2 = .ok (.iload_n 2, 1)) ∧ (decode cX0_passHour 3 = .ok (.aload_n 0, 1)) ∧ (decode cX0_passHour 4 = .ok (.getfield 28, 3)) ∧ (decode cX0_passHour 7 = .ok (.if_icmp .ge 98, 3)) ∧ (decode cX0_passHour 10 = .ok (.aload_n 0, 1)) ∧ (decode cX0_passHour 11 = .ok (.iload_n 2, 1)) ∧ (decode cX0_passHour 12 = .ok (.invokevirtual 45, 3)) ∧ (decode cX0_passHour 15 = .ok (.ifCond .eq 26, 3)) ∧ (decode cX0_passHour 18 = .ok (.aload_n 0, 1)) ∧ (decode cX0_passHour 19 = .ok (.getfield 24, 3)) ∧ (decode cX0_passHour 22 = .ok (.iload_n 2, 1)) ∧ (decode cX0_passHour 23 = .ok (.dup2, 1)) ∧ (decode cX0_passHour 24 = .ok (.laload, 1)) ∧ (decode cX0_passHour 25 = .ok (.aload_n 1, 1)) := by decide +kernel
theorem dX0_passHour_0 : decode cX0_passHour 0 = .ok (.iconst 0, 1) := gdX0_passHour_0.1
theorem dX0_passHour_1 : decode cX0_passHour 1 = .ok (.istore_n 2, 1) := gdX0_passHour_0.2.1
theorem dX0_passHour_2 : decode cX0_passHour 2 = .ok (.iload_n 2, 1) := gdX0_passHour_0.2.2.1
theorem dX0_passHour_3 : decode cX0_passHour 3 = .ok (.aload_n 0, 1) := gdX0_passHour_0.2.2.2.1
theorem dX0_passHour_4 : decode cX0_passHour 4 = .ok (.getfield 28, 3) := gdX0_passHour_0.2.2.2.2.1
theorem dX0_passHour_7 : decode cX0_passHour 7 = .ok (.if_icmp .ge 98, 3) := gdX0_passHour_0.2.2.2.2.2.1
theorem dX0_passHour_10 : decode cX0_passHour 10 = .ok (.aload_n 0, 1) := gdX0_passHour_0.2.2.2.2.2.2.1
theorem dX0_passHour_11 : decode cX0_passHour 11 = .ok (.iload_n 2, 1) := gdX0_passHour_0.2.2.2.2.2.2.2.1
theorem dX0_passHour_12 : decode cX0_passHour 12 = .ok (.invokevirtual 45, 3) := gdX0_passHour_0.2.2.2.2.2.2.2.2.1
theorem dX0_passHour_15 : decode cX0_passHour 15 = .ok (.ifCond .eq 26, 3) := gdX0_passHour_0.2.2.2.2.2.2.2.2.2.1
theorem dX0_passHour_18 : decode cX0_passHour 18 = .ok (.aload_n 0, 1) := gdX0_passHour_0.2.2.2.2.2.2.2.2.2.2.1
theorem dX0_passHour_19 : decode cX0_passHour 19 = .ok (.getfield 24, 3) := gdX0_passHour_0.2.2.2.2.2.2.2.2.2.2.2.1
theorem dX0_passHour_22 : decode cX0_passHour 22 = .ok (.iload_n 2, 1) := gdX0_passHour_0.2.2.2.2.2.2.2.2.2.2.2.2.1
theorem dX0_passHour_23 : decode cX0_passHour 23 = .ok (.dup2, 1) := gdX0_passHour_0.2.2.2.2.2.2.2.2.2.2.2.2.2.1
theorem dX0_passHour_24 : decode cX0_passHour 24 = .ok (.laload, 1) := gdX0_passHour_0.2.2.2.2.2.2.2.2.2.2.2.2.2.2.1
theorem dX0_passHour_25 : decode cX0_passHour 25 = .ok (.aload_n 1, 1) := gdX0_passHour_0.2.2.2.2.2.2.2.2.2.2.2.2.2.2.2
theorem gdX0_passHour_26 : (decode cX0_passHour 26 = .ok (.getfield 83, 3)) ∧ (decode cX0_passHour 29 = .ok (.aload_n 0, 1)) ∧ (decode cX0_passHour 30 = .ok (.getfield 9, 3)) ∧ (decode cX0_passHour 33 = .ok (.iload_n 2, 1)) ∧ (decode cX0_passHour 34 = .ok (.iaload, 1)) ∧ (decode cX0_passHour 35 = .ok (.laload, 1)) ∧ (decode cX0_passHour 36 = .ok (.ladd, 1)) ∧ (decode cX0_passHour 37 = .ok (.lastore, 1)) ∧ (decode cX0_passHour 38 = .ok (.goto 61, 3)) ∧ (decode cX0_passHour 41 = .ok (.aload_n 0, 1)) ∧ (decode cX0_passHour 42 = .ok (.getfield 15, 3)) ∧ (decode cX0_passHour 45 = .ok (.iload_n 2, 1)) ∧ (decode cX0_passHour 46 = .ok (.iaload, 1)) ∧ (decode cX0_passHour 47 = .ok (.istore_n 3, 1)) ∧ (decode cX0_passHour 48 = .ok (.aload_n 0, 1)) ∧ (decode cX0_passHour 49 = .ok (.getfield 24, 3)) := by decide +kernel
theorem dX0_passHour_26 : decode cX0_passHour 26 = .ok (.getfield 83, 3) := gdX0_passHour_26.1
theorem dX0_passHour_29 : decode cX0_passHour 29 = .ok (.aload_n 0, 1) := gdX0_passHour_26.2.1
theorem dX0_passHour_30 : decode cX0_passHour 30 = .ok (.getfield 9, 3) := gdX0_passHour_26.2.2.1
theorem dX0_passHour_33 : decode cX0_passHour 33 = .ok (.iload_n 2, 1) := gdX0_passHour_26.2.2.2.1
theorem dX0_passHour_34 : decode cX0_passHour 34 = .ok (.iaload, 1) := gdX0_passHour_26.2.2.2.2.1
theorem dX0_passHour_35 : decode cX0_passHour 35 = .ok (.laload, 1) := gdX0_passHour_26.2.2.2.2.2.1
theorem dX0_passHour_36 : decode cX0_passHour 36 = .ok (.ladd, 1) := gdX0_passHour_26.2.2.2.2.2.2.1
theorem dX0_passHour_37 : decode cX0_passHour 37 = .ok (.lastore, 1) := gdX0_passHour_26.2.2.2.2.2.2.2.1
theorem dX0_passHour_38 : decode cX0_passHour 38 = .ok (.goto 61, 3) := gdX0_passHour_26.2.2.2.2.2.2.2.2.1
theorem dX0_passHour_41 : decode cX0_passHour 41 = .ok (.aload_n 0, 1) := gdX0_passHour_26.2.2.2.2.2.2.2.2.2.1
theorem dX0_passHour_42 : decode cX0_passHour 42 = .ok (.getfield 15, 3) := gdX0_passHour_26.2.2.2.2.2.2.2.2.2.2.1
theorem dX0_passHour_45 : decode cX0_passHour 45 = .ok (.iload_n 2, 1) := gdX0_passHour_26.2.2.2.2.2.2.2.2.2.2.2.1
theorem dX0_passHour_46 : decode cX0_passHour 46 = .ok (.iaload, 1) := gdX0_passHour_26.2.2.2.2.2.2.2.2.2.2.2.2.1
theorem dX0_passHour_47 : decode cX0_passHour 47 = .ok (.istore_n 3, 1) := gdX0_passHour_26.2.2.2.2.2.2.2.2.2.2.2.2.2.1
theorem dX0_passHour_48 : decode cX0_passHour 48 = .ok (.aload_n 0, 1) := gdX0_passHour_26.2.2.2.2.2.2.2.2.2.2.2.2.2.2.1
theorem dX0_passHour_49 : decode cX0_passHour 49 = .ok (.getfield 24, 3) := gdX0_passHour_26.2.2.2.2.2.2.2.2.2.2.2.2.2.2.2
theorem gdX0_passHour_52 : (decode cX0_passHour 52 = .ok (.iload_n 2, 1)) ∧ (decode cX0_passHour 53 = .ok (.dup2, 1)) ∧ (decode cX0_passHour 54 = .ok (.laload, 1)) ∧ (decode cX0_passHour 55 = .ok (.aload_n 1, 1)) ∧ (decode cX0_passHour 56 = .ok (.getfield 86, 3)) ∧ (decode cX0_passHour 59 = .ok (.iload_n 3, 1)) ∧ (decode cX0_passHour 60 = .ok (.laload, 1)) ∧ (decode cX0_passHour 61 = .ok (.ladd, 1)) ∧ (decode cX0_passHour 62 = .ok (.lastore, 1)) ∧ (decode cX0_passHour 63 = .ok (.aload_n 0, 1)) ∧ (decode cX0_passHour 64 = .ok (.getfield 18, 3)) ∧ (decode cX0_passHour 67 = .ok (.iload_n 2, 1)) ∧ (decode cX0_passHour 68 = .ok (.dup2, 1)) ∧ (decode cX0_passHour 69 = .ok (.iaload, 1)) ∧ (decode cX0_passHour 70 = .ok (.iconst 1, 1)) ∧ (decode cX0_passHour 71 = .ok (.iadd, 1)) := by decide +kernel
theorem dX0_passHour_52 : decode cX0_passHour 52 = .ok (.iload_n 2, 1) := gdX0_passHour_52.1
theorem dX0_passHour_53 : decode cX0_passHour 53 = .ok (.dup2, 1) := gdX0_passHour_52.2.1
theorem dX0_passHour_54 : decode cX0_passHour 54 = .ok (.laload, 1) := gdX0_passHour_52.2.2.1
theorem dX0_passHour_55 : decode cX0_passHour 55 = .ok (.aload_n 1, 1) := gdX0_passHour_52.2.2.2.1
theorem dX0_passHour_56 : decode cX0_passHour 56 = .ok (.getfield 86, 3) := gdX0_passHour_52.2.2.2.2.1
theorem dX0_passHour_59 : decode cX0_passHour 59 = .ok (.iload_n 3, 1) := gdX0_passHour_52.2.2.2.2.2.1
theorem dX0_passHour_60 : decode cX0_passHour 60 = .ok (.laload, 1) := gdX0_passHour_52.2.2.2.2.2.2.1
theorem dX0_passHour_61 : decode cX0_passHour 61 = .ok (.ladd, 1) := gdX0_passHour_52.2.2.2.2.2.2.2.1
theorem dX0_passHour_62 : decode cX0_passHour 62 = .ok (.lastore, 1) := gdX0_passHour_52.2.2.2.2.2.2.2.2.1
theorem dX0_passHour_63 : decode cX0_passHour 63 = .ok (.aload_n 0, 1) := gdX0_passHour_52.2.2.2.2.2.2.2.2.2.1
theorem dX0_passHour_64 : decode cX0_passHour 64 = .ok (.getfield 18, 3) := gdX0_passHour_52.2.2.2.2.2.2.2.2.2.2.1
theorem dX0_passHour_67 : decode cX0_passHour 67 = .ok (.iload_n 2, 1) := gdX0_passHour_52.2.2.2.2.2.2.2.2.2.2.2.1
theorem dX0_passHour_68 : decode cX0_passHour 68 = .ok (.dup2, 1) := gdX0_passHour_52.2.2.2.2.2.2.2.2.2.2.2.2.1
theorem dX0_passHour_69 : decode cX0_passHour 69 = .ok (.iaload, 1) := gdX0_passHour_52.2.2.2.2.2.2.2.2.2.2.2.2.2.1
theorem dX0_passHour_70 : decode cX0_passHour 70 = .ok (.iconst 1, 1) := gdX0_passHour_52.2.2.2.2.2.2.2.2.2.2.2.2.2.2.1
theorem dX0_passHour_71 : decode cX0_passHour 71 = .ok (.iadd, 1) := gdX0_passHour_52.2.2.2.2.2.2.2.2.2.2.2.2.2.2.2
theorem gdX0_passHour_72 : (decode cX0_passHour 72 = .ok (.iastore, 1)) ∧ (decode cX0_passHour 73 = .ok (.aload_n 0, 1)) ∧ (decode cX0_passHour 74 = .ok (.getfield 18, 3)) ∧ (decode cX0_passHour 77 = .ok (.iload_n 2, 1)) ∧ (decode cX0_passHour 78 = .ok (.iaload, 1)) ∧ (decode cX0_passHour 79 = .ok (.aload_n 1, 1)) ∧ (decode cX0_passHour 80 = .ok (.getfield 89, 3)) ∧ (decode cX0_passHour 83 = .ok (.iload_n 3, 1)) ∧ (decode cX0_passHour 84 = .ok (.iaload, 1)) ∧ (decode cX0_passHour 85 = .ok (.if_icmp .lt 14, 3)) ∧ (decode cX0_passHour 88 = .ok (.aload_n 0, 1)) ∧ (decode cX0_passHour 89 = .ok (.iload_n 2, 1)) ∧ (decode cX0_passHour 90 = .ok (.aload_n 0, 1)) ∧ (decode cX0_passHour 91 = .ok (.getfield 21, 3)) ∧ (decode cX0_passHour 94 = .ok (.iload_n 2, 1)) ∧ (decode cX0_passHour 95 = .ok (.iaload, 1)) := by decide +kernel
theorem dX0_passHour_72 : decode cX0_passHour 72 = .ok (.iastore, 1) := gdX0_passHour_72.1
theorem dX0_passHour_73 : decode cX0_passHour 73 = .ok (.aload_n 0, 1) := gdX0_passHour_72.2.1
theorem dX0_passHour_74 : decode cX0_passHour 74 = .ok (.getfield 18, 3) := gdX0_passHour_72.2.2.1
theorem dX0_passHour_77 : decode cX0_passHour 77 = .ok (.iload_n 2, 1) := gdX0_passHour_72.2.2.2.1
theorem dX0_passHour_78 : decode cX0_passHour 78 = .ok (.iaload, 1) := gdX0_passHour_72.2.2.2.2.1
theorem dX0_passHour_79 : decode cX0_passHour 79 = .ok (.aload_n 1, 1) := gdX0_passHour_72.2.2.2.2.2.1
theorem dX0_passHour_80 : decode cX0_passHour 80 = .ok (.getfield 89, 3) := gdX0_passHour_72.2.2.2.2.2.2.1
theorem dX0_passHour_83 : decode cX0_passHour 83 = .ok (.iload_n 3, 1) := gdX0_passHour_72.2.2.2.2.2.2.2.1
theorem dX0_passHour_84 : decode cX0_passHour 84 = .ok (.iaload, 1) := gdX0_passHour_72.2.2.2.2.2.2.2.2.1
theorem dX0_passHour_85 : decode cX0_passHour 85 = .ok (.if_icmp .lt 14, 3) := gdX0_passHour_72.2.2.2.2.2.2.2.2.2.1
theorem dX0_passHour_88 : decode cX0_passHour 88 = .ok (.aload_n 0, 1) := gdX0_passHour_72.2.2.2.2.2.2.2.2.2.2.1
theorem dX0_passHour_89 : decode cX0_passHour 89 = .ok (.iload_n 2, 1) := gdX0_passHour_72.2.2.2.2.2.2.2.2.2.2.2.1
theorem dX0_passHour_90 : decode cX0_passHour 90 = .ok (.aload_n 0, 1) := gdX0_passHour_72.2.2.2.2.2.2.2.2.2.2.2.2.1
theorem dX0_passHour_91 : decode cX0_passHour 91 = .ok (.getfield 21, 3) := gdX0_passHour_72.2.2.2.2.2.2.2.2.2.2.2.2.2.1
theorem dX0_passHour_94 : decode cX0_passHour 94 = .ok (.iload_n 2, 1) := gdX0_passHour_72.2.2.2.2.2.2.2.2.2.2.2.2.2.2.1
theorem dX0_passHour_95 : decode cX0_passHour 95 = .ok (.iaload, 1) := gdX0_passHour_72.2.2.2.2.2.2.2.2.2.2.2.2.2.2.2
theorem gdX0_passHour_96 : (decode cX0_passHour 96 = .ok (.invokevirtual 41, 3)) ∧ (decode cX0_passHour 99 = .ok (.iinc 2 1, 3)) ∧ (decode cX0_passHour 102 = .ok (.goto (-100), 3)) ∧ (decode cX0_passHour 105 = .ok (.aload_n 0, 1)) ∧ (decode cX0_passHour 106 = .ok (.dup, 1)) ∧ (decode cX0_passHour 107 = .ok (.getfield 32, 3)) ∧ (decode cX0_passHour 110 = .ok (.iconst 1, 1)) ∧ (decode cX0_passHour 111 = .ok (.iadd, 1)) ∧ (decode cX0_passHour 112 = .ok (.putfield 32, 3)) ∧ (decode cX0_passHour 115 = .ok (.return_, 1)) := by decide +kernel
theorem dX0_passHour_96 : decode cX0_passHour 96 = .ok (.invokevirtual 41, 3) := gdX0_passHour_96.1
theorem dX0_passHour_99 : decode cX0_passHour 99 = .ok (.iinc 2 1, 3) := gdX0_passHour_96.2.1
theorem dX0_passHour_102 : decode cX0_passHour 102 = .ok (.goto (-100), 3) := gdX0_passHour_96.2.2.1
theorem dX0_passHour_105 : decode cX0_passHour 105 = .ok (.aload_n 0, 1) := gdX0_passHour_96.2.2.2.1
theorem dX0_passHour_106 : decode cX0_passHour 106 = .ok (.dup, 1) := gdX0_passHour_96.2.2.2.2.1
theorem dX0_passHour_107 : decode cX0_passHour 107 = .ok (.getfield 32, 3) := gdX0_passHour_96.2.2.2.2.2.1
theorem dX0_passHour_110 : decode cX0_passHour 110 = .ok (.iconst 1, 1) := gdX0_passHour_96.2.2.2.2.2.2.1
theorem dX0_passHour_111 : decode cX0_passHour 111 = .ok (.iadd, 1) := gdX0_passHour_96.2.2.2.2.2.2.2.1
theorem dX0_passHour_112 : decode cX0_passHour 112 = .ok (.putfield 32, 3) := gdX0_passHour_96.2.2.2.2.2.2.2.2.1
theorem dX0_passHour_115 : decode cX0_passHour 115 = .ok (.return_, 1) := gdX0_passHour_96.2.2.2.2.2.2.2.2.2
theorem gdX0_standingOn_0 : (decode cX0_standingOn 0 = .ok (.iconst 0, 1)) ∧ (decode cX0_standingOn 1 = .ok (.istore_n 2, 1)) ∧ (decode cX0_standingOn 2 = .ok (.iconst 0, 1)) ∧ (decode cX0_standingOn 3 = .ok (.istore_n 3, 1)) ∧ (decode cX0_standingOn 4 = .ok (.iload_n 3, 1)) ∧ (decode cX0_standingOn 5 = .ok (.aload_n 0, 1)) ∧ (decode cX0_standingOn 6 = .ok (.getfield 28, 3)) ∧ (decode cX0_standingOn 9 = .ok (.if_icmp .ge 27, 3)) ∧ (decode cX0_standingOn 12 = .ok (.iload_n 2, 1)) ∧ (decode cX0_standingOn 13 = .ok (.aload_n 0, 1)) ∧ (decode cX0_standingOn 14 = .ok (.getfield 9, 3)) ∧ (decode cX0_standingOn 17 = .ok (.iload_n 3, 1)) ∧ (decode cX0_standingOn 18 = .ok (.iaload, 1)) ∧ (decode cX0_standingOn 19 = .ok (.iload_n 1, 1)) ∧ (decode cX0_standingOn 20 = .ok (.if_icmp .ne 7, 3)) ∧ (decode cX0_standingOn 23 = .ok (.iconst 1, 1)) := by decide +kernel
theorem dX0_standingOn_0 : decode cX0_standingOn 0 = .ok (.iconst 0, 1) := gdX0_standingOn_0.1
theorem dX0_standingOn_1 : decode cX0_standingOn 1 = .ok (.istore_n 2, 1) := gdX0_standingOn_0.2.1
theorem dX0_standingOn_2 : decode cX0_standingOn 2 = .ok (.iconst 0, 1) := gdX0_standingOn_0.2.2.1
theorem dX0_standingOn_3 : decode cX0_standingOn 3 = .ok (.istore_n 3, 1) := gdX0_standingOn_0.2.2.2.1
theorem dX0_standingOn_4 : decode cX0_standingOn 4 = .ok (.iload_n 3, 1) := gdX0_standingOn_0.2.2.2.2.1
theorem dX0_standingOn_5 : decode cX0_standingOn 5 = .ok (.aload_n 0, 1) := gdX0_standingOn_0.2.2.2.2.2.1
theorem dX0_standingOn_6 : decode cX0_standingOn 6 = .ok (.getfield 28, 3) := gdX0_standingOn_0.2.2.2.2.2.2.1
theorem dX0_standingOn_9 : decode cX0_standingOn 9 = .ok (.if_icmp .ge 27, 3) := gdX0_standingOn_0.2.2.2.2.2.2.2.1
theorem dX0_standingOn_12 : decode cX0_standingOn 12 = .ok (.iload_n 2, 1) := gdX0_standingOn_0.2.2.2.2.2.2.2.2.1
theorem dX0_standingOn_13 : decode cX0_standingOn 13 = .ok (.aload_n 0, 1) := gdX0_standingOn_0.2.2.2.2.2.2.2.2.2.1
theorem dX0_standingOn_14 : decode cX0_standingOn 14 = .ok (.getfield 9, 3) := gdX0_standingOn_0.2.2.2.2.2.2.2.2.2.2.1
theorem dX0_standingOn_17 : decode cX0_standingOn 17 = .ok (.iload_n 3, 1) := gdX0_standingOn_0.2.2.2.2.2.2.2.2.2.2.2.1
theorem dX0_standingOn_18 : decode cX0_standingOn 18 = .ok (.iaload, 1) := gdX0_standingOn_0.2.2.2.2.2.2.2.2.2.2.2.2.1
theorem dX0_standingOn_19 : decode cX0_standingOn 19 = .ok (.iload_n 1, 1) := gdX0_standingOn_0.2.2.2.2.2.2.2.2.2.2.2.2.2.1
theorem dX0_standingOn_20 : decode cX0_standingOn 20 = .ok (.if_icmp .ne 7, 3) := gdX0_standingOn_0.2.2.2.2.2.2.2.2.2.2.2.2.2.2.1
theorem dX0_standingOn_23 : decode cX0_standingOn 23 = .ok (.iconst 1, 1) := gdX0_standingOn_0.2.2.2.2.2.2.2.2.2.2.2.2.2.2.2
theorem gdX0_standingOn_24 : (decode cX0_standingOn 24 = .ok (.goto 4, 3)) ∧ (decode cX0_standingOn 27 = .ok (.iconst 0, 1)) ∧ (decode cX0_standingOn 28 = .ok (.iadd, 1)) ∧ (decode cX0_standingOn 29 = .ok (.istore_n 2, 1)) ∧ (decode cX0_standingOn 30 = .ok (.iinc 3 1, 3)) ∧ (decode cX0_standingOn 33 = .ok (.goto (-29), 3)) ∧ (decode cX0_standingOn 36 = .ok (.iload_n 2, 1)) ∧ (decode cX0_standingOn 37 = .ok (.ireturn, 1)) := by decide +kernel
theorem dX0_standingOn_24 : decode cX0_standingOn 24 = .ok (.goto 4, 3) := gdX0_standingOn_24.1
theorem dX0_standingOn_27 : decode cX0_standingOn 27 = .ok (.iconst 0, 1) := gdX0_standingOn_24.2.1
theorem dX0_standingOn_28 : decode cX0_standingOn 28 = .ok (.iadd, 1) := gdX0_standingOn_24.2.2.1
theorem dX0_standingOn_29 : decode cX0_standingOn 29 = .ok (.istore_n 2, 1) := gdX0_standingOn_24.2.2.2.1
theorem dX0_standingOn_30 : decode cX0_standingOn 30 = .ok (.iinc 3 1, 3) := gdX0_standingOn_24.2.2.2.2.1
theorem dX0_standingOn_33 : decode cX0_standingOn 33 = .ok (.goto (-29), 3) := gdX0_standingOn_24.2.2.2.2.2.1
theorem dX0_standingOn_36 : decode cX0_standingOn 36 = .ok (.iload_n 2, 1) := gdX0_standingOn_24.2.2.2.2.2.2.1
theorem dX0_standingOn_37 : decode cX0_standingOn 37 = .ok (.ireturn, 1) := gdX0_standingOn_24.2.2.2.2.2.2.2
theorem gdX0_accompanied_0 : (decode cX0_accompanied 0 = .ok (.iconst 0, 1)) ∧ (decode cX0_accompanied 1 = .ok (.istore_n 1, 1)) ∧ (decode cX0_accompanied 2 = .ok (.iconst 0, 1)) ∧ (decode cX0_accompanied 3 = .ok (.istore_n 2, 1)) ∧ (decode cX0_accompanied 4 = .ok (.iload_n 2, 1)) ∧ (decode cX0_accompanied 5 = .ok (.aload_n 0, 1)) ∧ (decode cX0_accompanied 6 = .ok (.getfield 28, 3)) ∧ (decode cX0_accompanied 9 = .ok (.if_icmp .ge 39, 3)) ∧ (decode cX0_accompanied 12 = .ok (.iload_n 1, 1)) ∧ (decode cX0_accompanied 13 = .ok (.aload_n 0, 1)) ∧ (decode cX0_accompanied 14 = .ok (.iload_n 2, 1)) ∧ (decode cX0_accompanied 15 = .ok (.invokevirtual 45, 3)) ∧ (decode cX0_accompanied 18 = .ok (.ifCond .eq 21, 3)) ∧ (decode cX0_accompanied 21 = .ok (.aload_n 0, 1)) ∧ (decode cX0_accompanied 22 = .ok (.aload_n 0, 1)) ∧ (decode cX0_accompanied 23 = .ok (.getfield 9, 3)) := by decide +kernel
theorem dX0_accompanied_0 : decode cX0_accompanied 0 = .ok (.iconst 0, 1) := gdX0_accompanied_0.1
theorem dX0_accompanied_1 : decode cX0_accompanied 1 = .ok (.istore_n 1, 1) := gdX0_accompanied_0.2.1
theorem dX0_accompanied_2 : decode cX0_accompanied 2 = .ok (.iconst 0, 1) := gdX0_accompanied_0.2.2.1
theorem dX0_accompanied_3 : decode cX0_accompanied 3 = .ok (.istore_n 2, 1) := gdX0_accompanied_0.2.2.2.1
theorem dX0_accompanied_4 : decode cX0_accompanied 4 = .ok (.iload_n 2, 1) := gdX0_accompanied_0.2.2.2.2.1
theorem dX0_accompanied_5 : decode cX0_accompanied 5 = .ok (.aload_n 0, 1) := gdX0_accompanied_0.2.2.2.2.2.1
theorem dX0_accompanied_6 : decode cX0_accompanied 6 = .ok (.getfield 28, 3) := gdX0_accompanied_0.2.2.2.2.2.2.1
theorem dX0_accompanied_9 : decode cX0_accompanied 9 = .ok (.if_icmp .ge 39, 3) := gdX0_accompanied_0.2.2.2.2.2.2.2.1
theorem dX0_accompanied_12 : decode cX0_accompanied 12 = .ok (.iload_n 1, 1) := gdX0_accompanied_0.2.2.2.2.2.2.2.2.1
theorem dX0_accompanied_13 : decode cX0_accompanied 13 = .ok (.aload_n 0, 1) := gdX0_accompanied_0.2.2.2.2.2.2.2.2.2.1
theorem dX0_accompanied_14 : decode cX0_accompanied 14 = .ok (.iload_n 2, 1) := gdX0_accompanied_0.2.2.2.2.2.2.2.2.2.2.1
theorem dX0_accompanied_15 : decode cX0_accompanied 15 = .ok (.invokevirtual 45, 3) := gdX0_accompanied_0.2.2.2.2.2.2.2.2.2.2.2.1
theorem dX0_accompanied_18 : decode cX0_accompanied 18 = .ok (.ifCond .eq 21, 3) := gdX0_accompanied_0.2.2.2.2.2.2.2.2.2.2.2.2.1
theorem dX0_accompanied_21 : decode cX0_accompanied 21 = .ok (.aload_n 0, 1) := gdX0_accompanied_0.2.2.2.2.2.2.2.2.2.2.2.2.2.1
theorem dX0_accompanied_22 : decode cX0_accompanied 22 = .ok (.aload_n 0, 1) := gdX0_accompanied_0.2.2.2.2.2.2.2.2.2.2.2.2.2.2.1
theorem dX0_accompanied_23 : decode cX0_accompanied 23 = .ok (.getfield 9, 3) := gdX0_accompanied_0.2.2.2.2.2.2.2.2.2.2.2.2.2.2.2
theorem gdX0_accompanied_26 : (decode cX0_accompanied 26 = .ok (.iload_n 2, 1)) ∧ (decode cX0_accompanied 27 = .ok (.iaload, 1)) ∧ (decode cX0_accompanied 28 = .ok (.invokevirtual 92, 3)) ∧ (decode cX0_accompanied 31 = .ok (.iconst 1, 1)) ∧ (decode cX0_accompanied 32 = .ok (.if_icmp .le 7, 3)) ∧ (decode cX0_accompanied 35 = .ok (.iconst 1, 1)) ∧ (decode cX0_accompanied 36 = .ok (.goto 4, 3)) ∧ (decode cX0_accompanied 39 = .ok (.iconst 0, 1)) ∧ (decode cX0_accompanied 40 = .ok (.iadd, 1)) ∧ (decode cX0_accompanied 41 = .ok (.istore_n 1, 1)) ∧ (decode cX0_accompanied 42 = .ok (.iinc 2 1, 3)) ∧ (decode cX0_accompanied 45 = .ok (.goto (-41), 3)) ∧ (decode cX0_accompanied 48 = .ok (.iload_n 1, 1)) ∧ (decode cX0_accompanied 49 = .ok (.ireturn, 1)) := by decide +kernel
theorem dX0_accompanied_26 : decode cX0_accompanied 26 = .ok (.iload_n 2, 1) := gdX0_accompanied_26.1
theorem dX0_accompanied_27 : decode cX0_accompanied 27 = .ok (.iaload, 1) := gdX0_accompanied_26.2.1
theorem dX0_accompanied_28 : decode cX0_accompanied 28 = .ok (.invokevirtual 92, 3) := gdX0_accompanied_26.2.2.1
theorem dX0_accompanied_31 : decode cX0_accompanied 31 = .ok (.iconst 1, 1) := gdX0_accompanied_26.2.2.2.1
theorem dX0_accompanied_32 : decode cX0_accompanied 32 = .ok (.if_icmp .le 7, 3) := gdX0_accompanied_26.2.2.2.2.1
theorem dX0_accompanied_35 : decode cX0_accompanied 35 = .ok (.iconst 1, 1) := gdX0_accompanied_26.2.2.2.2.2.1
theorem dX0_accompanied_36 : decode cX0_accompanied 36 = .ok (.goto 4, 3) := gdX0_accompanied_26.2.2.2.2.2.2.1
theorem dX0_accompanied_39 : decode cX0_accompanied 39 = .ok (.iconst 0, 1) := gdX0_accompanied_26.2.2.2.2.2.2.2.1
theorem dX0_accompanied_40 : decode cX0_accompanied 40 = .ok (.iadd, 1) := gdX0_accompanied_26.2.2.2.2.2.2.2.2.1
theorem dX0_accompanied_41 : decode cX0_accompanied 41 = .ok (.istore_n 1, 1) := gdX0_accompanied_26.2.2.2.2.2.2.2.2.2.1
theorem dX0_accompanied_42 : decode cX0_accompanied 42 = .ok (.iinc 2 1, 3) := gdX0_accompanied_26.2.2.2.2.2.2.2.2.2.2.1
theorem dX0_accompanied_45 : decode cX0_accompanied 45 = .ok (.goto (-41), 3) := gdX0_accompanied_26.2.2.2.2.2.2.2.2.2.2.2.1
theorem dX0_accompanied_48 : decode cX0_accompanied 48 = .ok (.iload_n 1, 1) := gdX0_accompanied_26.2.2.2.2.2.2.2.2.2.2.2.2.1
theorem dX0_accompanied_49 : decode cX0_accompanied 49 = .ok (.ireturn, 1) := gdX0_accompanied_26.2.2.2.2.2.2.2.2.2.2.2.2.2
theorem gdX0_going_0 : (decode cX0_going 0 = .ok (.iconst 0, 1)) ∧ (decode cX0_going 1 = .ok (.istore_n 1, 1)) ∧ (decode cX0_going 2 = .ok (.iconst 0, 1)) ∧ (decode cX0_going 3 = .ok (.istore_n 2, 1)) ∧ (decode cX0_going 4 = .ok (.iload_n 2, 1)) ∧ (decode cX0_going 5 = .ok (.aload_n 0, 1)) ∧ (decode cX0_going 6 = .ok (.getfield 28, 3)) ∧ (decode cX0_going 9 = .ok (.if_icmp .ge 25, 3)) ∧ (decode cX0_going 12 = .ok (.iload_n 1, 1)) ∧ (decode cX0_going 13 = .ok (.aload_n 0, 1)) ∧ (decode cX0_going 14 = .ok (.iload_n 2, 1)) ∧ (decode cX0_going 15 = .ok (.invokevirtual 45, 3)) ∧ (decode cX0_going 18 = .ok (.ifCond .eq 7, 3)) ∧ (decode cX0_going 21 = .ok (.iconst 0, 1)) ∧ (decode cX0_going 22 = .ok (.goto 4, 3)) ∧ (decode cX0_going 25 = .ok (.iconst 1, 1)) := by decide +kernel
theorem dX0_going_0 : decode cX0_going 0 = .ok (.iconst 0, 1) := gdX0_going_0.1
theorem dX0_going_1 : decode cX0_going 1 = .ok (.istore_n 1, 1) := gdX0_going_0.2.1
theorem dX0_going_2 : decode cX0_going 2 = .ok (.iconst 0, 1) := gdX0_going_0.2.2.1
theorem dX0_going_3 : decode cX0_going 3 = .ok (.istore_n 2, 1) := gdX0_going_0.2.2.2.1
theorem dX0_going_4 : decode cX0_going 4 = .ok (.iload_n 2, 1) := gdX0_going_0.2.2.2.2.1
theorem dX0_going_5 : decode cX0_going 5 = .ok (.aload_n 0, 1) := gdX0_going_0.2.2.2.2.2.1
theorem dX0_going_6 : decode cX0_going 6 = .ok (.getfield 28, 3) := gdX0_going_0.2.2.2.2.2.2.1
theorem dX0_going_9 : decode cX0_going 9 = .ok (.if_icmp .ge 25, 3) := gdX0_going_0.2.2.2.2.2.2.2.1
theorem dX0_going_12 : decode cX0_going 12 = .ok (.iload_n 1, 1) := gdX0_going_0.2.2.2.2.2.2.2.2.1
theorem dX0_going_13 : decode cX0_going 13 = .ok (.aload_n 0, 1) := gdX0_going_0.2.2.2.2.2.2.2.2.2.1
theorem dX0_going_14 : decode cX0_going 14 = .ok (.iload_n 2, 1) := gdX0_going_0.2.2.2.2.2.2.2.2.2.2.1
theorem dX0_going_15 : decode cX0_going 15 = .ok (.invokevirtual 45, 3) := gdX0_going_0.2.2.2.2.2.2.2.2.2.2.2.1
theorem dX0_going_18 : decode cX0_going 18 = .ok (.ifCond .eq 7, 3) := gdX0_going_0.2.2.2.2.2.2.2.2.2.2.2.2.1
theorem dX0_going_21 : decode cX0_going 21 = .ok (.iconst 0, 1) := gdX0_going_0.2.2.2.2.2.2.2.2.2.2.2.2.2.1
theorem dX0_going_22 : decode cX0_going 22 = .ok (.goto 4, 3) := gdX0_going_0.2.2.2.2.2.2.2.2.2.2.2.2.2.2.1
theorem dX0_going_25 : decode cX0_going 25 = .ok (.iconst 1, 1) := gdX0_going_0.2.2.2.2.2.2.2.2.2.2.2.2.2.2.2
theorem gdX0_going_26 : (decode cX0_going 26 = .ok (.iadd, 1)) ∧ (decode cX0_going 27 = .ok (.istore_n 1, 1)) ∧ (decode cX0_going 28 = .ok (.iinc 2 1, 3)) ∧ (decode cX0_going 31 = .ok (.goto (-27), 3)) ∧ (decode cX0_going 34 = .ok (.iload_n 1, 1)) ∧ (decode cX0_going 35 = .ok (.ireturn, 1)) := by decide +kernel
theorem dX0_going_26 : decode cX0_going 26 = .ok (.iadd, 1) := gdX0_going_26.1
theorem dX0_going_27 : decode cX0_going 27 = .ok (.istore_n 1, 1) := gdX0_going_26.2.1
theorem dX0_going_28 : decode cX0_going 28 = .ok (.iinc 2 1, 3) := gdX0_going_26.2.2.1
theorem dX0_going_31 : decode cX0_going 31 = .ok (.goto (-27), 3) := gdX0_going_26.2.2.2.1
theorem dX0_going_34 : decode cX0_going 34 = .ok (.iload_n 1, 1) := gdX0_going_26.2.2.2.2.1
theorem dX0_going_35 : decode cX0_going 35 = .ok (.ireturn, 1) := gdX0_going_26.2.2.2.2.2
theorem gdX0_eldest_0 : (decode cX0_eldest 0 = .ok (.iconst 0, 1)) ∧ (decode cX0_eldest 1 = .ok (.istore_n 1, 1)) ∧ (decode cX0_eldest 2 = .ok (.iconst 1, 1)) ∧ (decode cX0_eldest 3 = .ok (.istore_n 2, 1)) ∧ (decode cX0_eldest 4 = .ok (.iload_n 2, 1)) ∧ (decode cX0_eldest 5 = .ok (.aload_n 0, 1)) ∧ (decode cX0_eldest 6 = .ok (.getfield 28, 3)) ∧ (decode cX0_eldest 9 = .ok (.if_icmp .ge 31, 3)) ∧ (decode cX0_eldest 12 = .ok (.aload_n 0, 1)) ∧ (decode cX0_eldest 13 = .ok (.getfield 24, 3)) ∧ (decode cX0_eldest 16 = .ok (.iload_n 2, 1)) ∧ (decode cX0_eldest 17 = .ok (.laload, 1)) ∧ (decode cX0_eldest 18 = .ok (.aload_n 0, 1)) ∧ (decode cX0_eldest 19 = .ok (.getfield 24, 3)) ∧ (decode cX0_eldest 22 = .ok (.iload_n 1, 1)) ∧ (decode cX0_eldest 23 = .ok (.laload, 1)) := by decide +kernel
theorem dX0_eldest_0 : decode cX0_eldest 0 = .ok (.iconst 0, 1) := gdX0_eldest_0.1
theorem dX0_eldest_1 : decode cX0_eldest 1 = .ok (.istore_n 1, 1) := gdX0_eldest_0.2.1
theorem dX0_eldest_2 : decode cX0_eldest 2 = .ok (.iconst 1, 1) := gdX0_eldest_0.2.2.1
theorem dX0_eldest_3 : decode cX0_eldest 3 = .ok (.istore_n 2, 1) := gdX0_eldest_0.2.2.2.1
theorem dX0_eldest_4 : decode cX0_eldest 4 = .ok (.iload_n 2, 1) := gdX0_eldest_0.2.2.2.2.1
theorem dX0_eldest_5 : decode cX0_eldest 5 = .ok (.aload_n 0, 1) := gdX0_eldest_0.2.2.2.2.2.1
theorem dX0_eldest_6 : decode cX0_eldest 6 = .ok (.getfield 28, 3) := gdX0_eldest_0.2.2.2.2.2.2.1
theorem dX0_eldest_9 : decode cX0_eldest 9 = .ok (.if_icmp .ge 31, 3) := gdX0_eldest_0.2.2.2.2.2.2.2.1
theorem dX0_eldest_12 : decode cX0_eldest 12 = .ok (.aload_n 0, 1) := gdX0_eldest_0.2.2.2.2.2.2.2.2.1
theorem dX0_eldest_13 : decode cX0_eldest 13 = .ok (.getfield 24, 3) := gdX0_eldest_0.2.2.2.2.2.2.2.2.2.1
theorem dX0_eldest_16 : decode cX0_eldest 16 = .ok (.iload_n 2, 1) := gdX0_eldest_0.2.2.2.2.2.2.2.2.2.2.1
theorem dX0_eldest_17 : decode cX0_eldest 17 = .ok (.laload, 1) := gdX0_eldest_0.2.2.2.2.2.2.2.2.2.2.2.1
theorem dX0_eldest_18 : decode cX0_eldest 18 = .ok (.aload_n 0, 1) := gdX0_eldest_0.2.2.2.2.2.2.2.2.2.2.2.2.1
theorem dX0_eldest_19 : decode cX0_eldest 19 = .ok (.getfield 24, 3) := gdX0_eldest_0.2.2.2.2.2.2.2.2.2.2.2.2.2.1
theorem dX0_eldest_22 : decode cX0_eldest 22 = .ok (.iload_n 1, 1) := gdX0_eldest_0.2.2.2.2.2.2.2.2.2.2.2.2.2.2.1
theorem dX0_eldest_23 : decode cX0_eldest 23 = .ok (.laload, 1) := gdX0_eldest_0.2.2.2.2.2.2.2.2.2.2.2.2.2.2.2
theorem gdX0_eldest_24 : (decode cX0_eldest 24 = .ok (.lcmp, 1)) ∧ (decode cX0_eldest 25 = .ok (.ifCond .le 7, 3)) ∧ (decode cX0_eldest 28 = .ok (.iload_n 2, 1)) ∧ (decode cX0_eldest 29 = .ok (.goto 4, 3)) ∧ (decode cX0_eldest 32 = .ok (.iload_n 1, 1)) ∧ (decode cX0_eldest 33 = .ok (.istore_n 1, 1)) ∧ (decode cX0_eldest 34 = .ok (.iinc 2 1, 3)) ∧ (decode cX0_eldest 37 = .ok (.goto (-33), 3)) ∧ (decode cX0_eldest 40 = .ok (.iload_n 1, 1)) ∧ (decode cX0_eldest 41 = .ok (.ireturn, 1)) := by decide +kernel
theorem dX0_eldest_24 : decode cX0_eldest 24 = .ok (.lcmp, 1) := gdX0_eldest_24.1
theorem dX0_eldest_25 : decode cX0_eldest 25 = .ok (.ifCond .le 7, 3) := gdX0_eldest_24.2.1
theorem dX0_eldest_28 : decode cX0_eldest 28 = .ok (.iload_n 2, 1) := gdX0_eldest_24.2.2.1
theorem dX0_eldest_29 : decode cX0_eldest 29 = .ok (.goto 4, 3) := gdX0_eldest_24.2.2.2.1
theorem dX0_eldest_32 : decode cX0_eldest 32 = .ok (.iload_n 1, 1) := gdX0_eldest_24.2.2.2.2.1
theorem dX0_eldest_33 : decode cX0_eldest 33 = .ok (.istore_n 1, 1) := gdX0_eldest_24.2.2.2.2.2.1
theorem dX0_eldest_34 : decode cX0_eldest 34 = .ok (.iinc 2 1, 3) := gdX0_eldest_24.2.2.2.2.2.2.1
theorem dX0_eldest_37 : decode cX0_eldest 37 = .ok (.goto (-33), 3) := gdX0_eldest_24.2.2.2.2.2.2.2.1
theorem dX0_eldest_40 : decode cX0_eldest 40 = .ok (.iload_n 1, 1) := gdX0_eldest_24.2.2.2.2.2.2.2.2.1
theorem dX0_eldest_41 : decode cX0_eldest 41 = .ok (.ireturn, 1) := gdX0_eldest_24.2.2.2.2.2.2.2.2.2
theorem gdX0_youngest_0 : (decode cX0_youngest 0 = .ok (.iconst 0, 1)) ∧ (decode cX0_youngest 1 = .ok (.istore_n 1, 1)) ∧ (decode cX0_youngest 2 = .ok (.iconst 1, 1)) ∧ (decode cX0_youngest 3 = .ok (.istore_n 2, 1)) ∧ (decode cX0_youngest 4 = .ok (.iload_n 2, 1)) ∧ (decode cX0_youngest 5 = .ok (.aload_n 0, 1)) ∧ (decode cX0_youngest 6 = .ok (.getfield 28, 3)) ∧ (decode cX0_youngest 9 = .ok (.if_icmp .ge 31, 3)) ∧ (decode cX0_youngest 12 = .ok (.aload_n 0, 1)) ∧ (decode cX0_youngest 13 = .ok (.getfield 24, 3)) ∧ (decode cX0_youngest 16 = .ok (.iload_n 2, 1)) ∧ (decode cX0_youngest 17 = .ok (.laload, 1)) ∧ (decode cX0_youngest 18 = .ok (.aload_n 0, 1)) ∧ (decode cX0_youngest 19 = .ok (.getfield 24, 3)) ∧ (decode cX0_youngest 22 = .ok (.iload_n 1, 1)) ∧ (decode cX0_youngest 23 = .ok (.laload, 1)) := by decide +kernel
theorem dX0_youngest_0 : decode cX0_youngest 0 = .ok (.iconst 0, 1) := gdX0_youngest_0.1
theorem dX0_youngest_1 : decode cX0_youngest 1 = .ok (.istore_n 1, 1) := gdX0_youngest_0.2.1
theorem dX0_youngest_2 : decode cX0_youngest 2 = .ok (.iconst 1, 1) := gdX0_youngest_0.2.2.1
theorem dX0_youngest_3 : decode cX0_youngest 3 = .ok (.istore_n 2, 1) := gdX0_youngest_0.2.2.2.1
theorem dX0_youngest_4 : decode cX0_youngest 4 = .ok (.iload_n 2, 1) := gdX0_youngest_0.2.2.2.2.1
theorem dX0_youngest_5 : decode cX0_youngest 5 = .ok (.aload_n 0, 1) := gdX0_youngest_0.2.2.2.2.2.1
theorem dX0_youngest_6 : decode cX0_youngest 6 = .ok (.getfield 28, 3) := gdX0_youngest_0.2.2.2.2.2.2.1
theorem dX0_youngest_9 : decode cX0_youngest 9 = .ok (.if_icmp .ge 31, 3) := gdX0_youngest_0.2.2.2.2.2.2.2.1
theorem dX0_youngest_12 : decode cX0_youngest 12 = .ok (.aload_n 0, 1) := gdX0_youngest_0.2.2.2.2.2.2.2.2.1
theorem dX0_youngest_13 : decode cX0_youngest 13 = .ok (.getfield 24, 3) := gdX0_youngest_0.2.2.2.2.2.2.2.2.2.1
theorem dX0_youngest_16 : decode cX0_youngest 16 = .ok (.iload_n 2, 1) := gdX0_youngest_0.2.2.2.2.2.2.2.2.2.2.1
theorem dX0_youngest_17 : decode cX0_youngest 17 = .ok (.laload, 1) := gdX0_youngest_0.2.2.2.2.2.2.2.2.2.2.2.1
theorem dX0_youngest_18 : decode cX0_youngest 18 = .ok (.aload_n 0, 1) := gdX0_youngest_0.2.2.2.2.2.2.2.2.2.2.2.2.1
theorem dX0_youngest_19 : decode cX0_youngest 19 = .ok (.getfield 24, 3) := gdX0_youngest_0.2.2.2.2.2.2.2.2.2.2.2.2.2.1
theorem dX0_youngest_22 : decode cX0_youngest 22 = .ok (.iload_n 1, 1) := gdX0_youngest_0.2.2.2.2.2.2.2.2.2.2.2.2.2.2.1
theorem dX0_youngest_23 : decode cX0_youngest 23 = .ok (.laload, 1) := gdX0_youngest_0.2.2.2.2.2.2.2.2.2.2.2.2.2.2.2
theorem gdX0_youngest_24 : (decode cX0_youngest 24 = .ok (.lcmp, 1)) ∧ (decode cX0_youngest 25 = .ok (.ifCond .ge 7, 3)) ∧ (decode cX0_youngest 28 = .ok (.iload_n 2, 1)) ∧ (decode cX0_youngest 29 = .ok (.goto 4, 3)) ∧ (decode cX0_youngest 32 = .ok (.iload_n 1, 1)) ∧ (decode cX0_youngest 33 = .ok (.istore_n 1, 1)) ∧ (decode cX0_youngest 34 = .ok (.iinc 2 1, 3)) ∧ (decode cX0_youngest 37 = .ok (.goto (-33), 3)) ∧ (decode cX0_youngest 40 = .ok (.iload_n 1, 1)) ∧ (decode cX0_youngest 41 = .ok (.ireturn, 1)) := by decide +kernel
theorem dX0_youngest_24 : decode cX0_youngest 24 = .ok (.lcmp, 1) := gdX0_youngest_24.1
theorem dX0_youngest_25 : decode cX0_youngest 25 = .ok (.ifCond .ge 7, 3) := gdX0_youngest_24.2.1
theorem dX0_youngest_28 : decode cX0_youngest 28 = .ok (.iload_n 2, 1) := gdX0_youngest_24.2.2.1
theorem dX0_youngest_29 : decode cX0_youngest 29 = .ok (.goto 4, 3) := gdX0_youngest_24.2.2.2.1
theorem dX0_youngest_32 : decode cX0_youngest 32 = .ok (.iload_n 1, 1) := gdX0_youngest_24.2.2.2.2.1
theorem dX0_youngest_33 : decode cX0_youngest 33 = .ok (.istore_n 1, 1) := gdX0_youngest_24.2.2.2.2.2.1
theorem dX0_youngest_34 : decode cX0_youngest 34 = .ok (.iinc 2 1, 3) := gdX0_youngest_24.2.2.2.2.2.2.1
theorem dX0_youngest_37 : decode cX0_youngest 37 = .ok (.goto (-33), 3) := gdX0_youngest_24.2.2.2.2.2.2.2.1
theorem dX0_youngest_40 : decode cX0_youngest 40 = .ok (.iload_n 1, 1) := gdX0_youngest_24.2.2.2.2.2.2.2.2.1
theorem dX0_youngest_41 : decode cX0_youngest 41 = .ok (.ireturn, 1) := gdX0_youngest_24.2.2.2.2.2.2.2.2.2
theorem gdX0_wordOf_0 : (decode cX0_wordOf 0 = .ok (.iload_n 3, 1)) ∧ (decode cX0_wordOf 1 = .ok (.tableswitch 128 0 6 #[43, 49, 52, 60, 71, 83, 103], 43)) ∧ (decode cX0_wordOf 44 = .ok (.aload_n 0, 1)) ∧ (decode cX0_wordOf 45 = .ok (.getfield 32, 3)) ∧ (decode cX0_wordOf 48 = .ok (.i2l, 1)) ∧ (decode cX0_wordOf 49 = .ok (.lreturn, 1)) ∧ (decode cX0_wordOf 50 = .ok (.iload_n 2, 1)) ∧ (decode cX0_wordOf 51 = .ok (.i2l, 1)) ∧ (decode cX0_wordOf 52 = .ok (.lreturn, 1)) ∧ (decode cX0_wordOf 53 = .ok (.aload_n 0, 1)) ∧ (decode cX0_wordOf 54 = .ok (.getfield 9, 3)) ∧ (decode cX0_wordOf 57 = .ok (.iload_n 2, 1)) ∧ (decode cX0_wordOf 58 = .ok (.iaload, 1)) ∧ (decode cX0_wordOf 59 = .ok (.i2l, 1)) ∧ (decode cX0_wordOf 60 = .ok (.lreturn, 1)) ∧ (decode cX0_wordOf 61 = .ok (.aload_n 0, 1)) := by decide +kernel
theorem dX0_wordOf_0 : decode cX0_wordOf 0 = .ok (.iload_n 3, 1) := gdX0_wordOf_0.1
theorem dX0_wordOf_1 : decode cX0_wordOf 1 = .ok (.tableswitch 128 0 6 #[43, 49, 52, 60, 71, 83, 103], 43) := gdX0_wordOf_0.2.1
theorem dX0_wordOf_44 : decode cX0_wordOf 44 = .ok (.aload_n 0, 1) := gdX0_wordOf_0.2.2.1
theorem dX0_wordOf_45 : decode cX0_wordOf 45 = .ok (.getfield 32, 3) := gdX0_wordOf_0.2.2.2.1
theorem dX0_wordOf_48 : decode cX0_wordOf 48 = .ok (.i2l, 1) := gdX0_wordOf_0.2.2.2.2.1
theorem dX0_wordOf_49 : decode cX0_wordOf 49 = .ok (.lreturn, 1) := gdX0_wordOf_0.2.2.2.2.2.1
theorem dX0_wordOf_50 : decode cX0_wordOf 50 = .ok (.iload_n 2, 1) := gdX0_wordOf_0.2.2.2.2.2.2.1
theorem dX0_wordOf_51 : decode cX0_wordOf 51 = .ok (.i2l, 1) := gdX0_wordOf_0.2.2.2.2.2.2.2.1
theorem dX0_wordOf_52 : decode cX0_wordOf 52 = .ok (.lreturn, 1) := gdX0_wordOf_0.2.2.2.2.2.2.2.2.1
theorem dX0_wordOf_53 : decode cX0_wordOf 53 = .ok (.aload_n 0, 1) := gdX0_wordOf_0.2.2.2.2.2.2.2.2.2.1
theorem dX0_wordOf_54 : decode cX0_wordOf 54 = .ok (.getfield 9, 3) := gdX0_wordOf_0.2.2.2.2.2.2.2.2.2.2.1
theorem dX0_wordOf_57 : decode cX0_wordOf 57 = .ok (.iload_n 2, 1) := gdX0_wordOf_0.2.2.2.2.2.2.2.2.2.2.2.1
theorem dX0_wordOf_58 : decode cX0_wordOf 58 = .ok (.iaload, 1) := gdX0_wordOf_0.2.2.2.2.2.2.2.2.2.2.2.2.1
theorem dX0_wordOf_59 : decode cX0_wordOf 59 = .ok (.i2l, 1) := gdX0_wordOf_0.2.2.2.2.2.2.2.2.2.2.2.2.2.1
theorem dX0_wordOf_60 : decode cX0_wordOf 60 = .ok (.lreturn, 1) := gdX0_wordOf_0.2.2.2.2.2.2.2.2.2.2.2.2.2.2.1
theorem dX0_wordOf_61 : decode cX0_wordOf 61 = .ok (.aload_n 0, 1) := gdX0_wordOf_0.2.2.2.2.2.2.2.2.2.2.2.2.2.2.2
theorem gdX0_wordOf_62 : (decode cX0_wordOf 62 = .ok (.getfield 24, 3)) ∧ (decode cX0_wordOf 65 = .ok (.iload_n 2, 1)) ∧ (decode cX0_wordOf 66 = .ok (.laload, 1)) ∧ (decode cX0_wordOf 67 = .ok (.ldc2_w 96, 3)) ∧ (decode cX0_wordOf 70 = .ok (.ldiv, 1)) ∧ (decode cX0_wordOf 71 = .ok (.lreturn, 1)) ∧ (decode cX0_wordOf 72 = .ok (.aload_n 0, 1)) ∧ (decode cX0_wordOf 73 = .ok (.aload_n 0, 1)) ∧ (decode cX0_wordOf 74 = .ok (.getfield 9, 3)) ∧ (decode cX0_wordOf 77 = .ok (.iload_n 2, 1)) ∧ (decode cX0_wordOf 78 = .ok (.iaload, 1)) ∧ (decode cX0_wordOf 79 = .ok (.invokevirtual 92, 3)) ∧ (decode cX0_wordOf 82 = .ok (.i2l, 1)) ∧ (decode cX0_wordOf 83 = .ok (.lreturn, 1)) ∧ (decode cX0_wordOf 84 = .ok (.ldc2_w 98, 3)) ∧ (decode cX0_wordOf 87 = .ok (.aload_n 1, 1)) := by decide +kernel
theorem dX0_wordOf_62 : decode cX0_wordOf 62 = .ok (.getfield 24, 3) := gdX0_wordOf_62.1
theorem dX0_wordOf_65 : decode cX0_wordOf 65 = .ok (.iload_n 2, 1) := gdX0_wordOf_62.2.1
theorem dX0_wordOf_66 : decode cX0_wordOf 66 = .ok (.laload, 1) := gdX0_wordOf_62.2.2.1
theorem dX0_wordOf_67 : decode cX0_wordOf 67 = .ok (.ldc2_w 96, 3) := gdX0_wordOf_62.2.2.2.1
theorem dX0_wordOf_70 : decode cX0_wordOf 70 = .ok (.ldiv, 1) := gdX0_wordOf_62.2.2.2.2.1
theorem dX0_wordOf_71 : decode cX0_wordOf 71 = .ok (.lreturn, 1) := gdX0_wordOf_62.2.2.2.2.2.1
theorem dX0_wordOf_72 : decode cX0_wordOf 72 = .ok (.aload_n 0, 1) := gdX0_wordOf_62.2.2.2.2.2.2.1
theorem dX0_wordOf_73 : decode cX0_wordOf 73 = .ok (.aload_n 0, 1) := gdX0_wordOf_62.2.2.2.2.2.2.2.1
theorem dX0_wordOf_74 : decode cX0_wordOf 74 = .ok (.getfield 9, 3) := gdX0_wordOf_62.2.2.2.2.2.2.2.2.1
theorem dX0_wordOf_77 : decode cX0_wordOf 77 = .ok (.iload_n 2, 1) := gdX0_wordOf_62.2.2.2.2.2.2.2.2.2.1
theorem dX0_wordOf_78 : decode cX0_wordOf 78 = .ok (.iaload, 1) := gdX0_wordOf_62.2.2.2.2.2.2.2.2.2.2.1
theorem dX0_wordOf_79 : decode cX0_wordOf 79 = .ok (.invokevirtual 92, 3) := gdX0_wordOf_62.2.2.2.2.2.2.2.2.2.2.2.1
theorem dX0_wordOf_82 : decode cX0_wordOf 82 = .ok (.i2l, 1) := gdX0_wordOf_62.2.2.2.2.2.2.2.2.2.2.2.2.1
theorem dX0_wordOf_83 : decode cX0_wordOf 83 = .ok (.lreturn, 1) := gdX0_wordOf_62.2.2.2.2.2.2.2.2.2.2.2.2.2.1
theorem dX0_wordOf_84 : decode cX0_wordOf 84 = .ok (.ldc2_w 98, 3) := gdX0_wordOf_62.2.2.2.2.2.2.2.2.2.2.2.2.2.2.1
theorem dX0_wordOf_87 : decode cX0_wordOf 87 = .ok (.aload_n 1, 1) := gdX0_wordOf_62.2.2.2.2.2.2.2.2.2.2.2.2.2.2.2
theorem gdX0_wordOf_88 : (decode cX0_wordOf 88 = .ok (.getfield 83, 3)) ∧ (decode cX0_wordOf 91 = .ok (.aload_n 0, 1)) ∧ (decode cX0_wordOf 92 = .ok (.getfield 9, 3)) ∧ (decode cX0_wordOf 95 = .ok (.iload_n 2, 1)) ∧ (decode cX0_wordOf 96 = .ok (.iaload, 1)) ∧ (decode cX0_wordOf 97 = .ok (.laload, 1)) ∧ (decode cX0_wordOf 98 = .ok (.lmul, 1)) ∧ (decode cX0_wordOf 99 = .ok (.ldc2_w 96, 3)) ∧ (decode cX0_wordOf 102 = .ok (.ldiv, 1)) ∧ (decode cX0_wordOf 103 = .ok (.lreturn, 1)) ∧ (decode cX0_wordOf 104 = .ok (.aload_n 0, 1)) ∧ (decode cX0_wordOf 105 = .ok (.getfield 24, 3)) ∧ (decode cX0_wordOf 108 = .ok (.iload_n 2, 1)) ∧ (decode cX0_wordOf 109 = .ok (.laload, 1)) ∧ (decode cX0_wordOf 110 = .ok (.aload_n 0, 1)) ∧ (decode cX0_wordOf 111 = .ok (.getfield 24, 3)) := by decide +kernel
theorem dX0_wordOf_88 : decode cX0_wordOf 88 = .ok (.getfield 83, 3) := gdX0_wordOf_88.1
theorem dX0_wordOf_91 : decode cX0_wordOf 91 = .ok (.aload_n 0, 1) := gdX0_wordOf_88.2.1
theorem dX0_wordOf_92 : decode cX0_wordOf 92 = .ok (.getfield 9, 3) := gdX0_wordOf_88.2.2.1
theorem dX0_wordOf_95 : decode cX0_wordOf 95 = .ok (.iload_n 2, 1) := gdX0_wordOf_88.2.2.2.1
theorem dX0_wordOf_96 : decode cX0_wordOf 96 = .ok (.iaload, 1) := gdX0_wordOf_88.2.2.2.2.1
theorem dX0_wordOf_97 : decode cX0_wordOf 97 = .ok (.laload, 1) := gdX0_wordOf_88.2.2.2.2.2.1
theorem dX0_wordOf_98 : decode cX0_wordOf 98 = .ok (.lmul, 1) := gdX0_wordOf_88.2.2.2.2.2.2.1
theorem dX0_wordOf_99 : decode cX0_wordOf 99 = .ok (.ldc2_w 96, 3) := gdX0_wordOf_88.2.2.2.2.2.2.2.1
theorem dX0_wordOf_102 : decode cX0_wordOf 102 = .ok (.ldiv, 1) := gdX0_wordOf_88.2.2.2.2.2.2.2.2.1
theorem dX0_wordOf_103 : decode cX0_wordOf 103 = .ok (.lreturn, 1) := gdX0_wordOf_88.2.2.2.2.2.2.2.2.2.1
theorem dX0_wordOf_104 : decode cX0_wordOf 104 = .ok (.aload_n 0, 1) := gdX0_wordOf_88.2.2.2.2.2.2.2.2.2.2.1
theorem dX0_wordOf_105 : decode cX0_wordOf 105 = .ok (.getfield 24, 3) := gdX0_wordOf_88.2.2.2.2.2.2.2.2.2.2.2.1
theorem dX0_wordOf_108 : decode cX0_wordOf 108 = .ok (.iload_n 2, 1) := gdX0_wordOf_88.2.2.2.2.2.2.2.2.2.2.2.2.1
theorem dX0_wordOf_109 : decode cX0_wordOf 109 = .ok (.laload, 1) := gdX0_wordOf_88.2.2.2.2.2.2.2.2.2.2.2.2.2.1
theorem dX0_wordOf_110 : decode cX0_wordOf 110 = .ok (.aload_n 0, 1) := gdX0_wordOf_88.2.2.2.2.2.2.2.2.2.2.2.2.2.2.1
theorem dX0_wordOf_111 : decode cX0_wordOf 111 = .ok (.getfield 24, 3) := gdX0_wordOf_88.2.2.2.2.2.2.2.2.2.2.2.2.2.2.2
theorem gdX0_wordOf_114 : (decode cX0_wordOf 114 = .ok (.aload_n 0, 1)) ∧ (decode cX0_wordOf 115 = .ok (.invokevirtual 100, 3)) ∧ (decode cX0_wordOf 118 = .ok (.laload, 1)) ∧ (decode cX0_wordOf 119 = .ok (.lcmp, 1)) ∧ (decode cX0_wordOf 120 = .ok (.ifCond .ne 7, 3)) ∧ (decode cX0_wordOf 123 = .ok (.lconst 1, 1)) ∧ (decode cX0_wordOf 124 = .ok (.goto 4, 3)) ∧ (decode cX0_wordOf 127 = .ok (.lconst 0, 1)) ∧ (decode cX0_wordOf 128 = .ok (.lreturn, 1)) ∧ (decode cX0_wordOf 129 = .ok (.aload_n 0, 1)) ∧ (decode cX0_wordOf 130 = .ok (.getfield 24, 3)) ∧ (decode cX0_wordOf 133 = .ok (.iload_n 2, 1)) ∧ (decode cX0_wordOf 134 = .ok (.laload, 1)) ∧ (decode cX0_wordOf 135 = .ok (.aload_n 0, 1)) ∧ (decode cX0_wordOf 136 = .ok (.getfield 24, 3)) ∧ (decode cX0_wordOf 139 = .ok (.aload_n 0, 1)) := by decide +kernel
theorem dX0_wordOf_114 : decode cX0_wordOf 114 = .ok (.aload_n 0, 1) := gdX0_wordOf_114.1
theorem dX0_wordOf_115 : decode cX0_wordOf 115 = .ok (.invokevirtual 100, 3) := gdX0_wordOf_114.2.1
theorem dX0_wordOf_118 : decode cX0_wordOf 118 = .ok (.laload, 1) := gdX0_wordOf_114.2.2.1
theorem dX0_wordOf_119 : decode cX0_wordOf 119 = .ok (.lcmp, 1) := gdX0_wordOf_114.2.2.2.1
theorem dX0_wordOf_120 : decode cX0_wordOf 120 = .ok (.ifCond .ne 7, 3) := gdX0_wordOf_114.2.2.2.2.1
theorem dX0_wordOf_123 : decode cX0_wordOf 123 = .ok (.lconst 1, 1) := gdX0_wordOf_114.2.2.2.2.2.1
theorem dX0_wordOf_124 : decode cX0_wordOf 124 = .ok (.goto 4, 3) := gdX0_wordOf_114.2.2.2.2.2.2.1
theorem dX0_wordOf_127 : decode cX0_wordOf 127 = .ok (.lconst 0, 1) := gdX0_wordOf_114.2.2.2.2.2.2.2.1
theorem dX0_wordOf_128 : decode cX0_wordOf 128 = .ok (.lreturn, 1) := gdX0_wordOf_114.2.2.2.2.2.2.2.2.1
theorem dX0_wordOf_129 : decode cX0_wordOf 129 = .ok (.aload_n 0, 1) := gdX0_wordOf_114.2.2.2.2.2.2.2.2.2.1
theorem dX0_wordOf_130 : decode cX0_wordOf 130 = .ok (.getfield 24, 3) := gdX0_wordOf_114.2.2.2.2.2.2.2.2.2.2.1
theorem dX0_wordOf_133 : decode cX0_wordOf 133 = .ok (.iload_n 2, 1) := gdX0_wordOf_114.2.2.2.2.2.2.2.2.2.2.2.1
theorem dX0_wordOf_134 : decode cX0_wordOf 134 = .ok (.laload, 1) := gdX0_wordOf_114.2.2.2.2.2.2.2.2.2.2.2.2.1
theorem dX0_wordOf_135 : decode cX0_wordOf 135 = .ok (.aload_n 0, 1) := gdX0_wordOf_114.2.2.2.2.2.2.2.2.2.2.2.2.2.1
theorem dX0_wordOf_136 : decode cX0_wordOf 136 = .ok (.getfield 24, 3) := gdX0_wordOf_114.2.2.2.2.2.2.2.2.2.2.2.2.2.2.1
theorem dX0_wordOf_139 : decode cX0_wordOf 139 = .ok (.aload_n 0, 1) := gdX0_wordOf_114.2.2.2.2.2.2.2.2.2.2.2.2.2.2.2
theorem gdX0_wordOf_140 : (decode cX0_wordOf 140 = .ok (.invokevirtual 104, 3)) ∧ (decode cX0_wordOf 143 = .ok (.laload, 1)) ∧ (decode cX0_wordOf 144 = .ok (.lcmp, 1)) ∧ (decode cX0_wordOf 145 = .ok (.ifCond .ne 7, 3)) ∧ (decode cX0_wordOf 148 = .ok (.lconst 1, 1)) ∧ (decode cX0_wordOf 149 = .ok (.goto 4, 3)) ∧ (decode cX0_wordOf 152 = .ok (.lconst 0, 1)) ∧ (decode cX0_wordOf 153 = .ok (.lreturn, 1)) := by decide +kernel
theorem dX0_wordOf_140 : decode cX0_wordOf 140 = .ok (.invokevirtual 104, 3) := gdX0_wordOf_140.1
theorem dX0_wordOf_143 : decode cX0_wordOf 143 = .ok (.laload, 1) := gdX0_wordOf_140.2.1
theorem dX0_wordOf_144 : decode cX0_wordOf 144 = .ok (.lcmp, 1) := gdX0_wordOf_140.2.2.1
theorem dX0_wordOf_145 : decode cX0_wordOf 145 = .ok (.ifCond .ne 7, 3) := gdX0_wordOf_140.2.2.2.1
theorem dX0_wordOf_148 : decode cX0_wordOf 148 = .ok (.lconst 1, 1) := gdX0_wordOf_140.2.2.2.2.1
theorem dX0_wordOf_149 : decode cX0_wordOf 149 = .ok (.goto 4, 3) := gdX0_wordOf_140.2.2.2.2.2.1
theorem dX0_wordOf_152 : decode cX0_wordOf 152 = .ok (.lconst 0, 1) := gdX0_wordOf_140.2.2.2.2.2.2.1
theorem dX0_wordOf_153 : decode cX0_wordOf 153 = .ok (.lreturn, 1) := gdX0_wordOf_140.2.2.2.2.2.2.2
theorem gdX1_init_0 : (decode cX1_init 0 = .ok (.aload_n 0, 1)) ∧ (decode cX1_init 1 = .ok (.invokespecial 3, 3)) ∧ (decode cX1_init 4 = .ok (.aload_n 0, 1)) ∧ (decode cX1_init 5 = .ok (.sipush 1210, 3)) ∧ (decode cX1_init 8 = .ok (.newarray .long, 2)) ∧ (decode cX1_init 10 = .ok (.putfield 9, 3)) ∧ (decode cX1_init 13 = .ok (.return_, 1)) := by decide +kernel
theorem dX1_init_0 : decode cX1_init 0 = .ok (.aload_n 0, 1) := gdX1_init_0.1
theorem dX1_init_1 : decode cX1_init 1 = .ok (.invokespecial 3, 3) := gdX1_init_0.2.1
theorem dX1_init_4 : decode cX1_init 4 = .ok (.aload_n 0, 1) := gdX1_init_0.2.2.1
theorem dX1_init_5 : decode cX1_init 5 = .ok (.sipush 1210, 3) := gdX1_init_0.2.2.2.1
theorem dX1_init_8 : decode cX1_init 8 = .ok (.newarray .long, 2) := gdX1_init_0.2.2.2.2.1
theorem dX1_init_10 : decode cX1_init 10 = .ok (.putfield 9, 3) := gdX1_init_0.2.2.2.2.2.1
theorem dX1_init_13 : decode cX1_init 13 = .ok (.return_, 1) := gdX1_init_0.2.2.2.2.2.2
theorem gdX1_measure_0 : (decode cX1_measure 0 = .ok (.iconst 0, 1)) ∧ (decode cX1_measure 1 = .ok (.istore 5, 2)) ∧ (decode cX1_measure 3 = .ok (.iload 5, 2)) ∧ (decode cX1_measure 5 = .ok (.bipush 10, 2)) ∧ (decode cX1_measure 7 = .ok (.if_icmp .ge 29, 3)) ∧ (decode cX1_measure 10 = .ok (.aload_n 0, 1)) ∧ (decode cX1_measure 11 = .ok (.getfield 9, 3)) ∧ (decode cX1_measure 14 = .ok (.iload 5, 2)) ∧ (decode cX1_measure 16 = .ok (.iload 5, 2)) ∧ (decode cX1_measure 18 = .ok (.iload_n 2, 1)) ∧ (decode cX1_measure 19 = .ok (.if_icmp .ne 7, 3)) ∧ (decode cX1_measure 22 = .ok (.lconst 0, 1)) ∧ (decode cX1_measure 23 = .ok (.goto 6, 3)) ∧ (decode cX1_measure 26 = .ok (.ldc2_w 15, 3)) ∧ (decode cX1_measure 29 = .ok (.lastore, 1)) ∧ (decode cX1_measure 30 = .ok (.iinc 5 1, 3)) := by decide +kernel
theorem dX1_measure_0 : decode cX1_measure 0 = .ok (.iconst 0, 1) := gdX1_measure_0.1
theorem dX1_measure_1 : decode cX1_measure 1 = .ok (.istore 5, 2) := gdX1_measure_0.2.1
theorem dX1_measure_3 : decode cX1_measure 3 = .ok (.iload 5, 2) := gdX1_measure_0.2.2.1
theorem dX1_measure_5 : decode cX1_measure 5 = .ok (.bipush 10, 2) := gdX1_measure_0.2.2.2.1
theorem dX1_measure_7 : decode cX1_measure 7 = .ok (.if_icmp .ge 29, 3) := gdX1_measure_0.2.2.2.2.1
theorem dX1_measure_10 : decode cX1_measure 10 = .ok (.aload_n 0, 1) := gdX1_measure_0.2.2.2.2.2.1
theorem dX1_measure_11 : decode cX1_measure 11 = .ok (.getfield 9, 3) := gdX1_measure_0.2.2.2.2.2.2.1
theorem dX1_measure_14 : decode cX1_measure 14 = .ok (.iload 5, 2) := gdX1_measure_0.2.2.2.2.2.2.2.1
theorem dX1_measure_16 : decode cX1_measure 16 = .ok (.iload 5, 2) := gdX1_measure_0.2.2.2.2.2.2.2.2.1
theorem dX1_measure_18 : decode cX1_measure 18 = .ok (.iload_n 2, 1) := gdX1_measure_0.2.2.2.2.2.2.2.2.2.1
theorem dX1_measure_19 : decode cX1_measure 19 = .ok (.if_icmp .ne 7, 3) := gdX1_measure_0.2.2.2.2.2.2.2.2.2.2.1
theorem dX1_measure_22 : decode cX1_measure 22 = .ok (.lconst 0, 1) := gdX1_measure_0.2.2.2.2.2.2.2.2.2.2.2.1
theorem dX1_measure_23 : decode cX1_measure 23 = .ok (.goto 6, 3) := gdX1_measure_0.2.2.2.2.2.2.2.2.2.2.2.2.1
theorem dX1_measure_26 : decode cX1_measure 26 = .ok (.ldc2_w 15, 3) := gdX1_measure_0.2.2.2.2.2.2.2.2.2.2.2.2.2.1
theorem dX1_measure_29 : decode cX1_measure 29 = .ok (.lastore, 1) := gdX1_measure_0.2.2.2.2.2.2.2.2.2.2.2.2.2.2.1
theorem dX1_measure_30 : decode cX1_measure 30 = .ok (.iinc 5 1, 3) := gdX1_measure_0.2.2.2.2.2.2.2.2.2.2.2.2.2.2.2
theorem gdX1_measure_33 : (decode cX1_measure 33 = .ok (.goto (-30), 3)) ∧ (decode cX1_measure 36 = .ok (.iconst 1, 1)) ∧ (decode cX1_measure 37 = .ok (.istore 5, 2)) ∧ (decode cX1_measure 39 = .ok (.iload 5, 2)) ∧ (decode cX1_measure 41 = .ok (.iload_n 3, 1)) ∧ (decode cX1_measure 42 = .ok (.if_icmp .gt 58, 3)) ∧ (decode cX1_measure 45 = .ok (.iload 5, 2)) ∧ (decode cX1_measure 47 = .ok (.bipush 120, 2)) ∧ (decode cX1_measure 49 = .ok (.if_icmp .gt 51, 3)) ∧ (decode cX1_measure 52 = .ok (.iconst 0, 1)) ∧ (decode cX1_measure 53 = .ok (.istore 6, 2)) ∧ (decode cX1_measure 55 = .ok (.iload 6, 2)) ∧ (decode cX1_measure 57 = .ok (.aload_n 1, 1)) ∧ (decode cX1_measure 58 = .ok (.getfield 17, 3)) ∧ (decode cX1_measure 61 = .ok (.if_icmp .ge 33, 3)) ∧ (decode cX1_measure 64 = .ok (.aload_n 0, 1)) := by decide +kernel
theorem dX1_measure_33 : decode cX1_measure 33 = .ok (.goto (-30), 3) := gdX1_measure_33.1
theorem dX1_measure_36 : decode cX1_measure 36 = .ok (.iconst 1, 1) := gdX1_measure_33.2.1
theorem dX1_measure_37 : decode cX1_measure 37 = .ok (.istore 5, 2) := gdX1_measure_33.2.2.1
theorem dX1_measure_39 : decode cX1_measure 39 = .ok (.iload 5, 2) := gdX1_measure_33.2.2.2.1
theorem dX1_measure_41 : decode cX1_measure 41 = .ok (.iload_n 3, 1) := gdX1_measure_33.2.2.2.2.1
theorem dX1_measure_42 : decode cX1_measure 42 = .ok (.if_icmp .gt 58, 3) := gdX1_measure_33.2.2.2.2.2.1
theorem dX1_measure_45 : decode cX1_measure 45 = .ok (.iload 5, 2) := gdX1_measure_33.2.2.2.2.2.2.1
theorem dX1_measure_47 : decode cX1_measure 47 = .ok (.bipush 120, 2) := gdX1_measure_33.2.2.2.2.2.2.2.1
theorem dX1_measure_49 : decode cX1_measure 49 = .ok (.if_icmp .gt 51, 3) := gdX1_measure_33.2.2.2.2.2.2.2.2.1
theorem dX1_measure_52 : decode cX1_measure 52 = .ok (.iconst 0, 1) := gdX1_measure_33.2.2.2.2.2.2.2.2.2.1
theorem dX1_measure_53 : decode cX1_measure 53 = .ok (.istore 6, 2) := gdX1_measure_33.2.2.2.2.2.2.2.2.2.2.1
theorem dX1_measure_55 : decode cX1_measure 55 = .ok (.iload 6, 2) := gdX1_measure_33.2.2.2.2.2.2.2.2.2.2.2.1
theorem dX1_measure_57 : decode cX1_measure 57 = .ok (.aload_n 1, 1) := gdX1_measure_33.2.2.2.2.2.2.2.2.2.2.2.2.1
theorem dX1_measure_58 : decode cX1_measure 58 = .ok (.getfield 17, 3) := gdX1_measure_33.2.2.2.2.2.2.2.2.2.2.2.2.2.1
theorem dX1_measure_61 : decode cX1_measure 61 = .ok (.if_icmp .ge 33, 3) := gdX1_measure_33.2.2.2.2.2.2.2.2.2.2.2.2.2.2.1
theorem dX1_measure_64 : decode cX1_measure 64 = .ok (.aload_n 0, 1) := gdX1_measure_33.2.2.2.2.2.2.2.2.2.2.2.2.2.2.2
theorem gdX1_measure_65 : (decode cX1_measure 65 = .ok (.getfield 9, 3)) ∧ (decode cX1_measure 68 = .ok (.iload 5, 2)) ∧ (decode cX1_measure 70 = .ok (.bipush 10, 2)) ∧ (decode cX1_measure 72 = .ok (.imul, 1)) ∧ (decode cX1_measure 73 = .ok (.iload 6, 2)) ∧ (decode cX1_measure 75 = .ok (.iadd, 1)) ∧ (decode cX1_measure 76 = .ok (.aload_n 0, 1)) ∧ (decode cX1_measure 77 = .ok (.aload_n 1, 1)) ∧ (decode cX1_measure 78 = .ok (.iload 5, 2)) ∧ (decode cX1_measure 80 = .ok (.iload 6, 2)) ∧ (decode cX1_measure 82 = .ok (.iload 4, 2)) ∧ (decode cX1_measure 84 = .ok (.invokevirtual 23, 3)) ∧ (decode cX1_measure 87 = .ok (.lastore, 1)) ∧ (decode cX1_measure 88 = .ok (.iinc 6 1, 3)) ∧ (decode cX1_measure 91 = .ok (.goto (-36), 3)) ∧ (decode cX1_measure 94 = .ok (.iinc 5 1, 3)) := by decide +kernel
theorem dX1_measure_65 : decode cX1_measure 65 = .ok (.getfield 9, 3) := gdX1_measure_65.1
theorem dX1_measure_68 : decode cX1_measure 68 = .ok (.iload 5, 2) := gdX1_measure_65.2.1
theorem dX1_measure_70 : decode cX1_measure 70 = .ok (.bipush 10, 2) := gdX1_measure_65.2.2.1
theorem dX1_measure_72 : decode cX1_measure 72 = .ok (.imul, 1) := gdX1_measure_65.2.2.2.1
theorem dX1_measure_73 : decode cX1_measure 73 = .ok (.iload 6, 2) := gdX1_measure_65.2.2.2.2.1
theorem dX1_measure_75 : decode cX1_measure 75 = .ok (.iadd, 1) := gdX1_measure_65.2.2.2.2.2.1
theorem dX1_measure_76 : decode cX1_measure 76 = .ok (.aload_n 0, 1) := gdX1_measure_65.2.2.2.2.2.2.1
theorem dX1_measure_77 : decode cX1_measure 77 = .ok (.aload_n 1, 1) := gdX1_measure_65.2.2.2.2.2.2.2.1
theorem dX1_measure_78 : decode cX1_measure 78 = .ok (.iload 5, 2) := gdX1_measure_65.2.2.2.2.2.2.2.2.1
theorem dX1_measure_80 : decode cX1_measure 80 = .ok (.iload 6, 2) := gdX1_measure_65.2.2.2.2.2.2.2.2.2.1
theorem dX1_measure_82 : decode cX1_measure 82 = .ok (.iload 4, 2) := gdX1_measure_65.2.2.2.2.2.2.2.2.2.2.1
theorem dX1_measure_84 : decode cX1_measure 84 = .ok (.invokevirtual 23, 3) := gdX1_measure_65.2.2.2.2.2.2.2.2.2.2.2.1
theorem dX1_measure_87 : decode cX1_measure 87 = .ok (.lastore, 1) := gdX1_measure_65.2.2.2.2.2.2.2.2.2.2.2.2.1
theorem dX1_measure_88 : decode cX1_measure 88 = .ok (.iinc 6 1, 3) := gdX1_measure_65.2.2.2.2.2.2.2.2.2.2.2.2.2.1
theorem dX1_measure_91 : decode cX1_measure 91 = .ok (.goto (-36), 3) := gdX1_measure_65.2.2.2.2.2.2.2.2.2.2.2.2.2.2.1
theorem dX1_measure_94 : decode cX1_measure 94 = .ok (.iinc 5 1, 3) := gdX1_measure_65.2.2.2.2.2.2.2.2.2.2.2.2.2.2.2
theorem gdX1_measure_97 : (decode cX1_measure 97 = .ok (.goto (-58), 3)) ∧ (decode cX1_measure 100 = .ok (.return_, 1)) := by decide +kernel
theorem dX1_measure_97 : decode cX1_measure 97 = .ok (.goto (-58), 3) := gdX1_measure_97.1
theorem dX1_measure_100 : decode cX1_measure 100 = .ok (.return_, 1) := gdX1_measure_97.2
theorem gdX1_bestGain_0 : (decode cX1_bestGain 0 = .ok (.aload_n 0, 1)) ∧ (decode cX1_bestGain 1 = .ok (.aload_n 1, 1)) ∧ (decode cX1_bestGain 2 = .ok (.iload_n 2, 1)) ∧ (decode cX1_bestGain 3 = .ok (.iload_n 3, 1)) ∧ (decode cX1_bestGain 4 = .ok (.invokevirtual 27, 3)) ∧ (decode cX1_bestGain 7 = .ok (.lstore 5, 2)) ∧ (decode cX1_bestGain 9 = .ok (.iconst 0, 1)) ∧ (decode cX1_bestGain 10 = .ok (.istore 7, 2)) ∧ (decode cX1_bestGain 12 = .ok (.iload 7, 2)) ∧ (decode cX1_bestGain 14 = .ok (.aload_n 1, 1)) ∧ (decode cX1_bestGain 15 = .ok (.getfield 31, 3)) ∧ (decode cX1_bestGain 18 = .ok (.if_icmp .ge 41, 3)) ∧ (decode cX1_bestGain 21 = .ok (.aload_n 0, 1)) ∧ (decode cX1_bestGain 22 = .ok (.aload_n 1, 1)) ∧ (decode cX1_bestGain 23 = .ok (.iload_n 2, 1)) ∧ (decode cX1_bestGain 24 = .ok (.iload_n 3, 1)) := by decide +kernel
theorem dX1_bestGain_0 : decode cX1_bestGain 0 = .ok (.aload_n 0, 1) := gdX1_bestGain_0.1
theorem dX1_bestGain_1 : decode cX1_bestGain 1 = .ok (.aload_n 1, 1) := gdX1_bestGain_0.2.1
theorem dX1_bestGain_2 : decode cX1_bestGain 2 = .ok (.iload_n 2, 1) := gdX1_bestGain_0.2.2.1
theorem dX1_bestGain_3 : decode cX1_bestGain 3 = .ok (.iload_n 3, 1) := gdX1_bestGain_0.2.2.2.1
theorem dX1_bestGain_4 : decode cX1_bestGain 4 = .ok (.invokevirtual 27, 3) := gdX1_bestGain_0.2.2.2.2.1
theorem dX1_bestGain_7 : decode cX1_bestGain 7 = .ok (.lstore 5, 2) := gdX1_bestGain_0.2.2.2.2.2.1
theorem dX1_bestGain_9 : decode cX1_bestGain 9 = .ok (.iconst 0, 1) := gdX1_bestGain_0.2.2.2.2.2.2.1
theorem dX1_bestGain_10 : decode cX1_bestGain 10 = .ok (.istore 7, 2) := gdX1_bestGain_0.2.2.2.2.2.2.2.1
theorem dX1_bestGain_12 : decode cX1_bestGain 12 = .ok (.iload 7, 2) := gdX1_bestGain_0.2.2.2.2.2.2.2.2.1
theorem dX1_bestGain_14 : decode cX1_bestGain 14 = .ok (.aload_n 1, 1) := gdX1_bestGain_0.2.2.2.2.2.2.2.2.2.1
theorem dX1_bestGain_15 : decode cX1_bestGain 15 = .ok (.getfield 31, 3) := gdX1_bestGain_0.2.2.2.2.2.2.2.2.2.2.1
theorem dX1_bestGain_18 : decode cX1_bestGain 18 = .ok (.if_icmp .ge 41, 3) := gdX1_bestGain_0.2.2.2.2.2.2.2.2.2.2.2.1
theorem dX1_bestGain_21 : decode cX1_bestGain 21 = .ok (.aload_n 0, 1) := gdX1_bestGain_0.2.2.2.2.2.2.2.2.2.2.2.2.1
theorem dX1_bestGain_22 : decode cX1_bestGain 22 = .ok (.aload_n 1, 1) := gdX1_bestGain_0.2.2.2.2.2.2.2.2.2.2.2.2.2.1
theorem dX1_bestGain_23 : decode cX1_bestGain 23 = .ok (.iload_n 2, 1) := gdX1_bestGain_0.2.2.2.2.2.2.2.2.2.2.2.2.2.2.1
theorem dX1_bestGain_24 : decode cX1_bestGain 24 = .ok (.iload_n 3, 1) := gdX1_bestGain_0.2.2.2.2.2.2.2.2.2.2.2.2.2.2.2
theorem gdX1_bestGain_25 : (decode cX1_bestGain 25 = .ok (.iload 7, 2)) ∧ (decode cX1_bestGain 27 = .ok (.invokevirtual 34, 3)) ∧ (decode cX1_bestGain 30 = .ok (.lstore 8, 2)) ∧ (decode cX1_bestGain 32 = .ok (.lload 8, 2)) ∧ (decode cX1_bestGain 34 = .ok (.lload 5, 2)) ∧ (decode cX1_bestGain 36 = .ok (.iload 4, 2)) ∧ (decode cX1_bestGain 38 = .ok (.invokestatic 38, 3)) ∧ (decode cX1_bestGain 41 = .ok (.ifCond .eq 8, 3)) ∧ (decode cX1_bestGain 44 = .ok (.lload 8, 2)) ∧ (decode cX1_bestGain 46 = .ok (.goto 5, 3)) ∧ (decode cX1_bestGain 49 = .ok (.lload 5, 2)) ∧ (decode cX1_bestGain 51 = .ok (.lstore 5, 2)) ∧ (decode cX1_bestGain 53 = .ok (.iinc 7 1, 3)) ∧ (decode cX1_bestGain 56 = .ok (.goto (-44), 3)) ∧ (decode cX1_bestGain 59 = .ok (.lload 5, 2)) ∧ (decode cX1_bestGain 61 = .ok (.lreturn, 1)) := by decide +kernel
theorem dX1_bestGain_25 : decode cX1_bestGain 25 = .ok (.iload 7, 2) := gdX1_bestGain_25.1
theorem dX1_bestGain_27 : decode cX1_bestGain 27 = .ok (.invokevirtual 34, 3) := gdX1_bestGain_25.2.1
theorem dX1_bestGain_30 : decode cX1_bestGain 30 = .ok (.lstore 8, 2) := gdX1_bestGain_25.2.2.1
theorem dX1_bestGain_32 : decode cX1_bestGain 32 = .ok (.lload 8, 2) := gdX1_bestGain_25.2.2.2.1
theorem dX1_bestGain_34 : decode cX1_bestGain 34 = .ok (.lload 5, 2) := gdX1_bestGain_25.2.2.2.2.1
theorem dX1_bestGain_36 : decode cX1_bestGain 36 = .ok (.iload 4, 2) := gdX1_bestGain_25.2.2.2.2.2.1
theorem dX1_bestGain_38 : decode cX1_bestGain 38 = .ok (.invokestatic 38, 3) := gdX1_bestGain_25.2.2.2.2.2.2.1
theorem dX1_bestGain_41 : decode cX1_bestGain 41 = .ok (.ifCond .eq 8, 3) := gdX1_bestGain_25.2.2.2.2.2.2.2.1
theorem dX1_bestGain_44 : decode cX1_bestGain 44 = .ok (.lload 8, 2) := gdX1_bestGain_25.2.2.2.2.2.2.2.2.1
theorem dX1_bestGain_46 : decode cX1_bestGain 46 = .ok (.goto 5, 3) := gdX1_bestGain_25.2.2.2.2.2.2.2.2.2.1
theorem dX1_bestGain_49 : decode cX1_bestGain 49 = .ok (.lload 5, 2) := gdX1_bestGain_25.2.2.2.2.2.2.2.2.2.2.1
theorem dX1_bestGain_51 : decode cX1_bestGain 51 = .ok (.lstore 5, 2) := gdX1_bestGain_25.2.2.2.2.2.2.2.2.2.2.2.1
theorem dX1_bestGain_53 : decode cX1_bestGain 53 = .ok (.iinc 7 1, 3) := gdX1_bestGain_25.2.2.2.2.2.2.2.2.2.2.2.2.1
theorem dX1_bestGain_56 : decode cX1_bestGain 56 = .ok (.goto (-44), 3) := gdX1_bestGain_25.2.2.2.2.2.2.2.2.2.2.2.2.2.1
theorem dX1_bestGain_59 : decode cX1_bestGain 59 = .ok (.lload 5, 2) := gdX1_bestGain_25.2.2.2.2.2.2.2.2.2.2.2.2.2.2.1
theorem dX1_bestGain_61 : decode cX1_bestGain 61 = .ok (.lreturn, 1) := gdX1_bestGain_25.2.2.2.2.2.2.2.2.2.2.2.2.2.2.2
theorem gdX1_isBetter_0 : (decode cX1_isBetter 0 = .ok (.lload_n 0, 1)) ∧ (decode cX1_isBetter 1 = .ok (.lconst 0, 1)) ∧ (decode cX1_isBetter 2 = .ok (.lcmp, 1)) ∧ (decode cX1_isBetter 3 = .ok (.ifCond .lt 9, 3)) ∧ (decode cX1_isBetter 6 = .ok (.lload_n 2, 1)) ∧ (decode cX1_isBetter 7 = .ok (.lconst 0, 1)) ∧ (decode cX1_isBetter 8 = .ok (.lcmp, 1)) ∧ (decode cX1_isBetter 9 = .ok (.ifCond .ge 15, 3)) ∧ (decode cX1_isBetter 12 = .ok (.lload_n 0, 1)) ∧ (decode cX1_isBetter 13 = .ok (.lconst 0, 1)) ∧ (decode cX1_isBetter 14 = .ok (.lcmp, 1)) ∧ (decode cX1_isBetter 15 = .ok (.ifCond .lt 7, 3)) ∧ (decode cX1_isBetter 18 = .ok (.iconst 1, 1)) ∧ (decode cX1_isBetter 19 = .ok (.goto 4, 3)) ∧ (decode cX1_isBetter 22 = .ok (.iconst 0, 1)) ∧ (decode cX1_isBetter 23 = .ok (.ireturn, 1)) := by decide +kernel
theorem dX1_isBetter_0 : decode cX1_isBetter 0 = .ok (.lload_n 0, 1) := gdX1_isBetter_0.1
theorem dX1_isBetter_1 : decode cX1_isBetter 1 = .ok (.lconst 0, 1) := gdX1_isBetter_0.2.1
theorem dX1_isBetter_2 : decode cX1_isBetter 2 = .ok (.lcmp, 1) := gdX1_isBetter_0.2.2.1
theorem dX1_isBetter_3 : decode cX1_isBetter 3 = .ok (.ifCond .lt 9, 3) := gdX1_isBetter_0.2.2.2.1
theorem dX1_isBetter_6 : decode cX1_isBetter 6 = .ok (.lload_n 2, 1) := gdX1_isBetter_0.2.2.2.2.1
theorem dX1_isBetter_7 : decode cX1_isBetter 7 = .ok (.lconst 0, 1) := gdX1_isBetter_0.2.2.2.2.2.1
theorem dX1_isBetter_8 : decode cX1_isBetter 8 = .ok (.lcmp, 1) := gdX1_isBetter_0.2.2.2.2.2.2.1
theorem dX1_isBetter_9 : decode cX1_isBetter 9 = .ok (.ifCond .ge 15, 3) := gdX1_isBetter_0.2.2.2.2.2.2.2.1
theorem dX1_isBetter_12 : decode cX1_isBetter 12 = .ok (.lload_n 0, 1) := gdX1_isBetter_0.2.2.2.2.2.2.2.2.1
theorem dX1_isBetter_13 : decode cX1_isBetter 13 = .ok (.lconst 0, 1) := gdX1_isBetter_0.2.2.2.2.2.2.2.2.2.1
theorem dX1_isBetter_14 : decode cX1_isBetter 14 = .ok (.lcmp, 1) := gdX1_isBetter_0.2.2.2.2.2.2.2.2.2.2.1
theorem dX1_isBetter_15 : decode cX1_isBetter 15 = .ok (.ifCond .lt 7, 3) := gdX1_isBetter_0.2.2.2.2.2.2.2.2.2.2.2.1
theorem dX1_isBetter_18 : decode cX1_isBetter 18 = .ok (.iconst 1, 1) := gdX1_isBetter_0.2.2.2.2.2.2.2.2.2.2.2.2.1
theorem dX1_isBetter_19 : decode cX1_isBetter 19 = .ok (.goto 4, 3) := gdX1_isBetter_0.2.2.2.2.2.2.2.2.2.2.2.2.2.1
theorem dX1_isBetter_22 : decode cX1_isBetter 22 = .ok (.iconst 0, 1) := gdX1_isBetter_0.2.2.2.2.2.2.2.2.2.2.2.2.2.2.1
theorem dX1_isBetter_23 : decode cX1_isBetter 23 = .ok (.ireturn, 1) := gdX1_isBetter_0.2.2.2.2.2.2.2.2.2.2.2.2.2.2.2
theorem gdX1_isBetter_24 : (decode cX1_isBetter 24 = .ok (.iload 4, 2)) ∧ (decode cX1_isBetter 26 = .ok (.ifCond .eq 17, 3)) ∧ (decode cX1_isBetter 29 = .ok (.lload_n 0, 1)) ∧ (decode cX1_isBetter 30 = .ok (.lload_n 2, 1)) ∧ (decode cX1_isBetter 31 = .ok (.lcmp, 1)) ∧ (decode cX1_isBetter 32 = .ok (.ifCond .le 7, 3)) ∧ (decode cX1_isBetter 35 = .ok (.iconst 1, 1)) ∧ (decode cX1_isBetter 36 = .ok (.goto 18, 3)) ∧ (decode cX1_isBetter 39 = .ok (.iconst 0, 1)) ∧ (decode cX1_isBetter 40 = .ok (.goto 14, 3)) ∧ (decode cX1_isBetter 43 = .ok (.lload_n 0, 1)) ∧ (decode cX1_isBetter 44 = .ok (.lload_n 2, 1)) ∧ (decode cX1_isBetter 45 = .ok (.lcmp, 1)) ∧ (decode cX1_isBetter 46 = .ok (.ifCond .ge 7, 3)) ∧ (decode cX1_isBetter 49 = .ok (.iconst 1, 1)) ∧ (decode cX1_isBetter 50 = .ok (.goto 4, 3)) := by decide +kernel
theorem dX1_isBetter_24 : decode cX1_isBetter 24 = .ok (.iload 4, 2) := gdX1_isBetter_24.1
theorem dX1_isBetter_26 : decode cX1_isBetter 26 = .ok (.ifCond .eq 17, 3) := gdX1_isBetter_24.2.1
theorem dX1_isBetter_29 : decode cX1_isBetter 29 = .ok (.lload_n 0, 1) := gdX1_isBetter_24.2.2.1
theorem dX1_isBetter_30 : decode cX1_isBetter 30 = .ok (.lload_n 2, 1) := gdX1_isBetter_24.2.2.2.1
theorem dX1_isBetter_31 : decode cX1_isBetter 31 = .ok (.lcmp, 1) := gdX1_isBetter_24.2.2.2.2.1
theorem dX1_isBetter_32 : decode cX1_isBetter 32 = .ok (.ifCond .le 7, 3) := gdX1_isBetter_24.2.2.2.2.2.1
theorem dX1_isBetter_35 : decode cX1_isBetter 35 = .ok (.iconst 1, 1) := gdX1_isBetter_24.2.2.2.2.2.2.1
theorem dX1_isBetter_36 : decode cX1_isBetter 36 = .ok (.goto 18, 3) := gdX1_isBetter_24.2.2.2.2.2.2.2.1
theorem dX1_isBetter_39 : decode cX1_isBetter 39 = .ok (.iconst 0, 1) := gdX1_isBetter_24.2.2.2.2.2.2.2.2.1
theorem dX1_isBetter_40 : decode cX1_isBetter 40 = .ok (.goto 14, 3) := gdX1_isBetter_24.2.2.2.2.2.2.2.2.2.1
theorem dX1_isBetter_43 : decode cX1_isBetter 43 = .ok (.lload_n 0, 1) := gdX1_isBetter_24.2.2.2.2.2.2.2.2.2.2.1
theorem dX1_isBetter_44 : decode cX1_isBetter 44 = .ok (.lload_n 2, 1) := gdX1_isBetter_24.2.2.2.2.2.2.2.2.2.2.2.1
theorem dX1_isBetter_45 : decode cX1_isBetter 45 = .ok (.lcmp, 1) := gdX1_isBetter_24.2.2.2.2.2.2.2.2.2.2.2.2.1
theorem dX1_isBetter_46 : decode cX1_isBetter 46 = .ok (.ifCond .ge 7, 3) := gdX1_isBetter_24.2.2.2.2.2.2.2.2.2.2.2.2.2.1
theorem dX1_isBetter_49 : decode cX1_isBetter 49 = .ok (.iconst 1, 1) := gdX1_isBetter_24.2.2.2.2.2.2.2.2.2.2.2.2.2.2.1
theorem dX1_isBetter_50 : decode cX1_isBetter 50 = .ok (.goto 4, 3) := gdX1_isBetter_24.2.2.2.2.2.2.2.2.2.2.2.2.2.2.2
theorem gdX1_isBetter_53 : (decode cX1_isBetter 53 = .ok (.iconst 0, 1)) ∧ (decode cX1_isBetter 54 = .ok (.ireturn, 1)) := by decide +kernel
theorem dX1_isBetter_53 : decode cX1_isBetter 53 = .ok (.iconst 0, 1) := gdX1_isBetter_53.1
theorem dX1_isBetter_54 : decode cX1_isBetter 54 = .ok (.ireturn, 1) := gdX1_isBetter_53.2
theorem gdX1_gainByStaying_0 : (decode cX1_gainByStaying 0 = .ok (.aload_n 0, 1)) ∧ (decode cX1_gainByStaying 1 = .ok (.iload_n 2, 1)) ∧ (decode cX1_gainByStaying 2 = .ok (.iconst 1, 1)) ∧ (decode cX1_gainByStaying 3 = .ok (.isub, 1)) ∧ (decode cX1_gainByStaying 4 = .ok (.iload_n 3, 1)) ∧ (decode cX1_gainByStaying 5 = .ok (.invokevirtual 42, 3)) ∧ (decode cX1_gainByStaying 8 = .ok (.lstore 4, 2)) ∧ (decode cX1_gainByStaying 10 = .ok (.lload 4, 2)) ∧ (decode cX1_gainByStaying 12 = .ok (.lconst 0, 1)) ∧ (decode cX1_gainByStaying 13 = .ok (.lcmp, 1)) ∧ (decode cX1_gainByStaying 14 = .ok (.ifCond .ge 9, 3)) ∧ (decode cX1_gainByStaying 17 = .ok (.ldc2_w 15, 3)) ∧ (decode cX1_gainByStaying 20 = .ok (.goto 12, 3)) ∧ (decode cX1_gainByStaying 23 = .ok (.lload 4, 2)) ∧ (decode cX1_gainByStaying 25 = .ok (.aload_n 1, 1)) ∧ (decode cX1_gainByStaying 26 = .ok (.getfield 46, 3)) := by decide +kernel
theorem dX1_gainByStaying_0 : decode cX1_gainByStaying 0 = .ok (.aload_n 0, 1) := gdX1_gainByStaying_0.1
theorem dX1_gainByStaying_1 : decode cX1_gainByStaying 1 = .ok (.iload_n 2, 1) := gdX1_gainByStaying_0.2.1
theorem dX1_gainByStaying_2 : decode cX1_gainByStaying 2 = .ok (.iconst 1, 1) := gdX1_gainByStaying_0.2.2.1
theorem dX1_gainByStaying_3 : decode cX1_gainByStaying 3 = .ok (.isub, 1) := gdX1_gainByStaying_0.2.2.2.1
theorem dX1_gainByStaying_4 : decode cX1_gainByStaying 4 = .ok (.iload_n 3, 1) := gdX1_gainByStaying_0.2.2.2.2.1
theorem dX1_gainByStaying_5 : decode cX1_gainByStaying 5 = .ok (.invokevirtual 42, 3) := gdX1_gainByStaying_0.2.2.2.2.2.1
theorem dX1_gainByStaying_8 : decode cX1_gainByStaying 8 = .ok (.lstore 4, 2) := gdX1_gainByStaying_0.2.2.2.2.2.2.1
theorem dX1_gainByStaying_10 : decode cX1_gainByStaying 10 = .ok (.lload 4, 2) := gdX1_gainByStaying_0.2.2.2.2.2.2.2.1
theorem dX1_gainByStaying_12 : decode cX1_gainByStaying 12 = .ok (.lconst 0, 1) := gdX1_gainByStaying_0.2.2.2.2.2.2.2.2.1
theorem dX1_gainByStaying_13 : decode cX1_gainByStaying 13 = .ok (.lcmp, 1) := gdX1_gainByStaying_0.2.2.2.2.2.2.2.2.2.1
theorem dX1_gainByStaying_14 : decode cX1_gainByStaying 14 = .ok (.ifCond .ge 9, 3) := gdX1_gainByStaying_0.2.2.2.2.2.2.2.2.2.2.1
theorem dX1_gainByStaying_17 : decode cX1_gainByStaying 17 = .ok (.ldc2_w 15, 3) := gdX1_gainByStaying_0.2.2.2.2.2.2.2.2.2.2.2.1
theorem dX1_gainByStaying_20 : decode cX1_gainByStaying 20 = .ok (.goto 12, 3) := gdX1_gainByStaying_0.2.2.2.2.2.2.2.2.2.2.2.2.1
theorem dX1_gainByStaying_23 : decode cX1_gainByStaying 23 = .ok (.lload 4, 2) := gdX1_gainByStaying_0.2.2.2.2.2.2.2.2.2.2.2.2.2.1
theorem dX1_gainByStaying_25 : decode cX1_gainByStaying 25 = .ok (.aload_n 1, 1) := gdX1_gainByStaying_0.2.2.2.2.2.2.2.2.2.2.2.2.2.2.1
theorem dX1_gainByStaying_26 : decode cX1_gainByStaying 26 = .ok (.getfield 46, 3) := gdX1_gainByStaying_0.2.2.2.2.2.2.2.2.2.2.2.2.2.2.2
theorem gdX1_gainByStaying_29 : (decode cX1_gainByStaying 29 = .ok (.iload_n 3, 1)) ∧ (decode cX1_gainByStaying 30 = .ok (.laload, 1)) ∧ (decode cX1_gainByStaying 31 = .ok (.ladd, 1)) ∧ (decode cX1_gainByStaying 32 = .ok (.lreturn, 1)) := by decide +kernel
theorem dX1_gainByStaying_29 : decode cX1_gainByStaying 29 = .ok (.iload_n 3, 1) := gdX1_gainByStaying_29.1
theorem dX1_gainByStaying_30 : decode cX1_gainByStaying 30 = .ok (.laload, 1) := gdX1_gainByStaying_29.2.1
theorem dX1_gainByStaying_31 : decode cX1_gainByStaying 31 = .ok (.ladd, 1) := gdX1_gainByStaying_29.2.2.1
theorem dX1_gainByStaying_32 : decode cX1_gainByStaying 32 = .ok (.lreturn, 1) := gdX1_gainByStaying_29.2.2.2
theorem gdX1_gainByStair_0 : (decode cX1_gainByStair 0 = .ok (.aload_n 1, 1)) ∧ (decode cX1_gainByStair 1 = .ok (.iload 4, 2)) ∧ (decode cX1_gainByStair 3 = .ok (.iload_n 3, 1)) ∧ (decode cX1_gainByStair 4 = .ok (.invokevirtual 49, 3)) ∧ (decode cX1_gainByStair 7 = .ok (.istore 5, 2)) ∧ (decode cX1_gainByStair 9 = .ok (.aload_n 1, 1)) ∧ (decode cX1_gainByStair 10 = .ok (.getfield 53, 3)) ∧ (decode cX1_gainByStair 13 = .ok (.iload 4, 2)) ∧ (decode cX1_gainByStair 15 = .ok (.iaload, 1)) ∧ (decode cX1_gainByStair 16 = .ok (.istore 6, 2)) ∧ (decode cX1_gainByStair 18 = .ok (.iload 5, 2)) ∧ (decode cX1_gainByStair 20 = .ok (.ifCond .ge 9, 3)) ∧ (decode cX1_gainByStair 23 = .ok (.ldc2_w 15, 3)) ∧ (decode cX1_gainByStair 26 = .ok (.goto 13, 3)) ∧ (decode cX1_gainByStair 29 = .ok (.aload_n 0, 1)) ∧ (decode cX1_gainByStair 30 = .ok (.iload_n 2, 1)) := by decide +kernel
theorem dX1_gainByStair_0 : decode cX1_gainByStair 0 = .ok (.aload_n 1, 1) := gdX1_gainByStair_0.1
theorem dX1_gainByStair_1 : decode cX1_gainByStair 1 = .ok (.iload 4, 2) := gdX1_gainByStair_0.2.1
theorem dX1_gainByStair_3 : decode cX1_gainByStair 3 = .ok (.iload_n 3, 1) := gdX1_gainByStair_0.2.2.1
theorem dX1_gainByStair_4 : decode cX1_gainByStair 4 = .ok (.invokevirtual 49, 3) := gdX1_gainByStair_0.2.2.2.1
theorem dX1_gainByStair_7 : decode cX1_gainByStair 7 = .ok (.istore 5, 2) := gdX1_gainByStair_0.2.2.2.2.1
theorem dX1_gainByStair_9 : decode cX1_gainByStair 9 = .ok (.aload_n 1, 1) := gdX1_gainByStair_0.2.2.2.2.2.1
theorem dX1_gainByStair_10 : decode cX1_gainByStair 10 = .ok (.getfield 53, 3) := gdX1_gainByStair_0.2.2.2.2.2.2.1
theorem dX1_gainByStair_13 : decode cX1_gainByStair 13 = .ok (.iload 4, 2) := gdX1_gainByStair_0.2.2.2.2.2.2.2.1
theorem dX1_gainByStair_15 : decode cX1_gainByStair 15 = .ok (.iaload, 1) := gdX1_gainByStair_0.2.2.2.2.2.2.2.2.1
theorem dX1_gainByStair_16 : decode cX1_gainByStair 16 = .ok (.istore 6, 2) := gdX1_gainByStair_0.2.2.2.2.2.2.2.2.2.1
theorem dX1_gainByStair_18 : decode cX1_gainByStair 18 = .ok (.iload 5, 2) := gdX1_gainByStair_0.2.2.2.2.2.2.2.2.2.2.1
theorem dX1_gainByStair_20 : decode cX1_gainByStair 20 = .ok (.ifCond .ge 9, 3) := gdX1_gainByStair_0.2.2.2.2.2.2.2.2.2.2.2.1
theorem dX1_gainByStair_23 : decode cX1_gainByStair 23 = .ok (.ldc2_w 15, 3) := gdX1_gainByStair_0.2.2.2.2.2.2.2.2.2.2.2.2.1
theorem dX1_gainByStair_26 : decode cX1_gainByStair 26 = .ok (.goto 13, 3) := gdX1_gainByStair_0.2.2.2.2.2.2.2.2.2.2.2.2.2.1
theorem dX1_gainByStair_29 : decode cX1_gainByStair 29 = .ok (.aload_n 0, 1) := gdX1_gainByStair_0.2.2.2.2.2.2.2.2.2.2.2.2.2.2.1
theorem dX1_gainByStair_30 : decode cX1_gainByStair 30 = .ok (.iload_n 2, 1) := gdX1_gainByStair_0.2.2.2.2.2.2.2.2.2.2.2.2.2.2.2
theorem gdX1_gainByStair_31 : (decode cX1_gainByStair 31 = .ok (.iload 6, 2)) ∧ (decode cX1_gainByStair 33 = .ok (.isub, 1)) ∧ (decode cX1_gainByStair 34 = .ok (.iload 5, 2)) ∧ (decode cX1_gainByStair 36 = .ok (.invokevirtual 42, 3)) ∧ (decode cX1_gainByStair 39 = .ok (.lstore 7, 2)) ∧ (decode cX1_gainByStair 41 = .ok (.lload 7, 2)) ∧ (decode cX1_gainByStair 43 = .ok (.lconst 0, 1)) ∧ (decode cX1_gainByStair 44 = .ok (.lcmp, 1)) ∧ (decode cX1_gainByStair 45 = .ok (.ifCond .ge 9, 3)) ∧ (decode cX1_gainByStair 48 = .ok (.ldc2_w 15, 3)) ∧ (decode cX1_gainByStair 51 = .ok (.goto 17, 3)) ∧ (decode cX1_gainByStair 54 = .ok (.lload 7, 2)) ∧ (decode cX1_gainByStair 56 = .ok (.iload 6, 2)) ∧ (decode cX1_gainByStair 58 = .ok (.i2l, 1)) ∧ (decode cX1_gainByStair 59 = .ok (.aload_n 1, 1)) ∧ (decode cX1_gainByStair 60 = .ok (.getfield 57, 3)) := by decide +kernel
theorem dX1_gainByStair_31 : decode cX1_gainByStair 31 = .ok (.iload 6, 2) := gdX1_gainByStair_31.1
theorem dX1_gainByStair_33 : decode cX1_gainByStair 33 = .ok (.isub, 1) := gdX1_gainByStair_31.2.1
theorem dX1_gainByStair_34 : decode cX1_gainByStair 34 = .ok (.iload 5, 2) := gdX1_gainByStair_31.2.2.1
theorem dX1_gainByStair_36 : decode cX1_gainByStair 36 = .ok (.invokevirtual 42, 3) := gdX1_gainByStair_31.2.2.2.1
theorem dX1_gainByStair_39 : decode cX1_gainByStair 39 = .ok (.lstore 7, 2) := gdX1_gainByStair_31.2.2.2.2.1
theorem dX1_gainByStair_41 : decode cX1_gainByStair 41 = .ok (.lload 7, 2) := gdX1_gainByStair_31.2.2.2.2.2.1
theorem dX1_gainByStair_43 : decode cX1_gainByStair 43 = .ok (.lconst 0, 1) := gdX1_gainByStair_31.2.2.2.2.2.2.1
theorem dX1_gainByStair_44 : decode cX1_gainByStair 44 = .ok (.lcmp, 1) := gdX1_gainByStair_31.2.2.2.2.2.2.2.1
theorem dX1_gainByStair_45 : decode cX1_gainByStair 45 = .ok (.ifCond .ge 9, 3) := gdX1_gainByStair_31.2.2.2.2.2.2.2.2.1
theorem dX1_gainByStair_48 : decode cX1_gainByStair 48 = .ok (.ldc2_w 15, 3) := gdX1_gainByStair_31.2.2.2.2.2.2.2.2.2.1
theorem dX1_gainByStair_51 : decode cX1_gainByStair 51 = .ok (.goto 17, 3) := gdX1_gainByStair_31.2.2.2.2.2.2.2.2.2.2.1
theorem dX1_gainByStair_54 : decode cX1_gainByStair 54 = .ok (.lload 7, 2) := gdX1_gainByStair_31.2.2.2.2.2.2.2.2.2.2.2.1
theorem dX1_gainByStair_56 : decode cX1_gainByStair 56 = .ok (.iload 6, 2) := gdX1_gainByStair_31.2.2.2.2.2.2.2.2.2.2.2.2.1
theorem dX1_gainByStair_58 : decode cX1_gainByStair 58 = .ok (.i2l, 1) := gdX1_gainByStair_31.2.2.2.2.2.2.2.2.2.2.2.2.2.1
theorem dX1_gainByStair_59 : decode cX1_gainByStair 59 = .ok (.aload_n 1, 1) := gdX1_gainByStair_31.2.2.2.2.2.2.2.2.2.2.2.2.2.2.1
theorem dX1_gainByStair_60 : decode cX1_gainByStair 60 = .ok (.getfield 57, 3) := gdX1_gainByStair_31.2.2.2.2.2.2.2.2.2.2.2.2.2.2.2
theorem gdX1_gainByStair_63 : (decode cX1_gainByStair 63 = .ok (.iload 4, 2)) ∧ (decode cX1_gainByStair 65 = .ok (.laload, 1)) ∧ (decode cX1_gainByStair 66 = .ok (.lmul, 1)) ∧ (decode cX1_gainByStair 67 = .ok (.ladd, 1)) ∧ (decode cX1_gainByStair 68 = .ok (.lreturn, 1)) := by decide +kernel
theorem dX1_gainByStair_63 : decode cX1_gainByStair 63 = .ok (.iload 4, 2) := gdX1_gainByStair_63.1
theorem dX1_gainByStair_65 : decode cX1_gainByStair 65 = .ok (.laload, 1) := gdX1_gainByStair_63.2.1
theorem dX1_gainByStair_66 : decode cX1_gainByStair 66 = .ok (.lmul, 1) := gdX1_gainByStair_63.2.2.1
theorem dX1_gainByStair_67 : decode cX1_gainByStair 67 = .ok (.ladd, 1) := gdX1_gainByStair_63.2.2.2.1
theorem dX1_gainByStair_68 : decode cX1_gainByStair 68 = .ok (.lreturn, 1) := gdX1_gainByStair_63.2.2.2.2
theorem gdX1_gainOf_0 : (decode cX1_gainOf 0 = .ok (.iload_n 1, 1)) ∧ (decode cX1_gainOf 1 = .ok (.ifCond .lt 9, 3)) ∧ (decode cX1_gainOf 4 = .ok (.iload_n 1, 1)) ∧ (decode cX1_gainOf 5 = .ok (.bipush 120, 2)) ∧ (decode cX1_gainOf 7 = .ok (.if_icmp .le 9, 3)) ∧ (decode cX1_gainOf 10 = .ok (.ldc2_w 15, 3)) ∧ (decode cX1_gainOf 13 = .ok (.goto 14, 3)) ∧ (decode cX1_gainOf 16 = .ok (.aload_n 0, 1)) ∧ (decode cX1_gainOf 17 = .ok (.getfield 9, 3)) ∧ (decode cX1_gainOf 20 = .ok (.iload_n 1, 1)) ∧ (decode cX1_gainOf 21 = .ok (.bipush 10, 2)) ∧ (decode cX1_gainOf 23 = .ok (.imul, 1)) ∧ (decode cX1_gainOf 24 = .ok (.iload_n 2, 1)) ∧ (decode cX1_gainOf 25 = .ok (.iadd, 1)) ∧ (decode cX1_gainOf 26 = .ok (.laload, 1)) ∧ (decode cX1_gainOf 27 = .ok (.lreturn, 1)) := by decide +kernel
theorem dX1_gainOf_0 : decode cX1_gainOf 0 = .ok (.iload_n 1, 1) := gdX1_gainOf_0.1
theorem dX1_gainOf_1 : decode cX1_gainOf 1 = .ok (.ifCond .lt 9, 3) := gdX1_gainOf_0.2.1
theorem dX1_gainOf_4 : decode cX1_gainOf 4 = .ok (.iload_n 1, 1) := gdX1_gainOf_0.2.2.1
theorem dX1_gainOf_5 : decode cX1_gainOf 5 = .ok (.bipush 120, 2) := gdX1_gainOf_0.2.2.2.1
theorem dX1_gainOf_7 : decode cX1_gainOf 7 = .ok (.if_icmp .le 9, 3) := gdX1_gainOf_0.2.2.2.2.1
theorem dX1_gainOf_10 : decode cX1_gainOf 10 = .ok (.ldc2_w 15, 3) := gdX1_gainOf_0.2.2.2.2.2.1
theorem dX1_gainOf_13 : decode cX1_gainOf 13 = .ok (.goto 14, 3) := gdX1_gainOf_0.2.2.2.2.2.2.1
theorem dX1_gainOf_16 : decode cX1_gainOf 16 = .ok (.aload_n 0, 1) := gdX1_gainOf_0.2.2.2.2.2.2.2.1
theorem dX1_gainOf_17 : decode cX1_gainOf 17 = .ok (.getfield 9, 3) := gdX1_gainOf_0.2.2.2.2.2.2.2.2.1
theorem dX1_gainOf_20 : decode cX1_gainOf 20 = .ok (.iload_n 1, 1) := gdX1_gainOf_0.2.2.2.2.2.2.2.2.2.1
theorem dX1_gainOf_21 : decode cX1_gainOf 21 = .ok (.bipush 10, 2) := gdX1_gainOf_0.2.2.2.2.2.2.2.2.2.2.1
theorem dX1_gainOf_23 : decode cX1_gainOf 23 = .ok (.imul, 1) := gdX1_gainOf_0.2.2.2.2.2.2.2.2.2.2.2.1
theorem dX1_gainOf_24 : decode cX1_gainOf 24 = .ok (.iload_n 2, 1) := gdX1_gainOf_0.2.2.2.2.2.2.2.2.2.2.2.2.1
theorem dX1_gainOf_25 : decode cX1_gainOf 25 = .ok (.iadd, 1) := gdX1_gainOf_0.2.2.2.2.2.2.2.2.2.2.2.2.2.1
theorem dX1_gainOf_26 : decode cX1_gainOf 26 = .ok (.laload, 1) := gdX1_gainOf_0.2.2.2.2.2.2.2.2.2.2.2.2.2.2.1
theorem dX1_gainOf_27 : decode cX1_gainOf 27 = .ok (.lreturn, 1) := gdX1_gainOf_0.2.2.2.2.2.2.2.2.2.2.2.2.2.2.2
theorem gdX1_firstStep_0 : (decode cX1_firstStep 0 = .ok (.iload_n 2, 1)) ∧ (decode cX1_firstStep 1 = .ok (.ifCond .ne 6, 3)) ∧ (decode cX1_firstStep 4 = .ok (.bipush (-4), 2)) ∧ (decode cX1_firstStep 6 = .ok (.ireturn, 1)) ∧ (decode cX1_firstStep 7 = .ok (.aload_n 0, 1)) ∧ (decode cX1_firstStep 8 = .ok (.iload_n 2, 1)) ∧ (decode cX1_firstStep 9 = .ok (.iload_n 3, 1)) ∧ (decode cX1_firstStep 10 = .ok (.invokevirtual 42, 3)) ∧ (decode cX1_firstStep 13 = .ok (.lstore 4, 2)) ∧ (decode cX1_firstStep 15 = .ok (.aload_n 0, 1)) ∧ (decode cX1_firstStep 16 = .ok (.aload_n 1, 1)) ∧ (decode cX1_firstStep 17 = .ok (.iload_n 2, 1)) ∧ (decode cX1_firstStep 18 = .ok (.iload_n 3, 1)) ∧ (decode cX1_firstStep 19 = .ok (.invokevirtual 27, 3)) ∧ (decode cX1_firstStep 22 = .ok (.lload 4, 2)) ∧ (decode cX1_firstStep 24 = .ok (.lcmp, 1)) := by decide +kernel
theorem dX1_firstStep_0 : decode cX1_firstStep 0 = .ok (.iload_n 2, 1) := gdX1_firstStep_0.1
theorem dX1_firstStep_1 : decode cX1_firstStep 1 = .ok (.ifCond .ne 6, 3) := gdX1_firstStep_0.2.1
theorem dX1_firstStep_4 : decode cX1_firstStep 4 = .ok (.bipush (-4), 2) := gdX1_firstStep_0.2.2.1
theorem dX1_firstStep_6 : decode cX1_firstStep 6 = .ok (.ireturn, 1) := gdX1_firstStep_0.2.2.2.1
theorem dX1_firstStep_7 : decode cX1_firstStep 7 = .ok (.aload_n 0, 1) := gdX1_firstStep_0.2.2.2.2.1
theorem dX1_firstStep_8 : decode cX1_firstStep 8 = .ok (.iload_n 2, 1) := gdX1_firstStep_0.2.2.2.2.2.1
theorem dX1_firstStep_9 : decode cX1_firstStep 9 = .ok (.iload_n 3, 1) := gdX1_firstStep_0.2.2.2.2.2.2.1
theorem dX1_firstStep_10 : decode cX1_firstStep 10 = .ok (.invokevirtual 42, 3) := gdX1_firstStep_0.2.2.2.2.2.2.2.1
theorem dX1_firstStep_13 : decode cX1_firstStep 13 = .ok (.lstore 4, 2) := gdX1_firstStep_0.2.2.2.2.2.2.2.2.1
theorem dX1_firstStep_15 : decode cX1_firstStep 15 = .ok (.aload_n 0, 1) := gdX1_firstStep_0.2.2.2.2.2.2.2.2.2.1
theorem dX1_firstStep_16 : decode cX1_firstStep 16 = .ok (.aload_n 1, 1) := gdX1_firstStep_0.2.2.2.2.2.2.2.2.2.2.1
theorem dX1_firstStep_17 : decode cX1_firstStep 17 = .ok (.iload_n 2, 1) := gdX1_firstStep_0.2.2.2.2.2.2.2.2.2.2.2.1
theorem dX1_firstStep_18 : decode cX1_firstStep 18 = .ok (.iload_n 3, 1) := gdX1_firstStep_0.2.2.2.2.2.2.2.2.2.2.2.2.1
theorem dX1_firstStep_19 : decode cX1_firstStep 19 = .ok (.invokevirtual 27, 3) := gdX1_firstStep_0.2.2.2.2.2.2.2.2.2.2.2.2.2.1
theorem dX1_firstStep_22 : decode cX1_firstStep 22 = .ok (.lload 4, 2) := gdX1_firstStep_0.2.2.2.2.2.2.2.2.2.2.2.2.2.2.1
theorem dX1_firstStep_24 : decode cX1_firstStep 24 = .ok (.lcmp, 1) := gdX1_firstStep_0.2.2.2.2.2.2.2.2.2.2.2.2.2.2.2
theorem gdX1_firstStep_25 : (decode cX1_firstStep 25 = .ok (.ifCond .ne 6, 3)) ∧ (decode cX1_firstStep 28 = .ok (.bipush (-3), 2)) ∧ (decode cX1_firstStep 30 = .ok (.ireturn, 1)) ∧ (decode cX1_firstStep 31 = .ok (.iconst 0, 1)) ∧ (decode cX1_firstStep 32 = .ok (.istore 6, 2)) ∧ (decode cX1_firstStep 34 = .ok (.iload 6, 2)) ∧ (decode cX1_firstStep 36 = .ok (.aload_n 1, 1)) ∧ (decode cX1_firstStep 37 = .ok (.getfield 31, 3)) ∧ (decode cX1_firstStep 40 = .ok (.if_icmp .ge 27, 3)) ∧ (decode cX1_firstStep 43 = .ok (.aload_n 0, 1)) ∧ (decode cX1_firstStep 44 = .ok (.aload_n 1, 1)) ∧ (decode cX1_firstStep 45 = .ok (.iload_n 2, 1)) ∧ (decode cX1_firstStep 46 = .ok (.iload_n 3, 1)) ∧ (decode cX1_firstStep 47 = .ok (.iload 6, 2)) ∧ (decode cX1_firstStep 49 = .ok (.invokevirtual 34, 3)) ∧ (decode cX1_firstStep 52 = .ok (.lload 4, 2)) := by decide +kernel
theorem dX1_firstStep_25 : decode cX1_firstStep 25 = .ok (.ifCond .ne 6, 3) := gdX1_firstStep_25.1
theorem dX1_firstStep_28 : decode cX1_firstStep 28 = .ok (.bipush (-3), 2) := gdX1_firstStep_25.2.1
theorem dX1_firstStep_30 : decode cX1_firstStep 30 = .ok (.ireturn, 1) := gdX1_firstStep_25.2.2.1
theorem dX1_firstStep_31 : decode cX1_firstStep 31 = .ok (.iconst 0, 1) := gdX1_firstStep_25.2.2.2.1
theorem dX1_firstStep_32 : decode cX1_firstStep 32 = .ok (.istore 6, 2) := gdX1_firstStep_25.2.2.2.2.1
theorem dX1_firstStep_34 : decode cX1_firstStep 34 = .ok (.iload 6, 2) := gdX1_firstStep_25.2.2.2.2.2.1
theorem dX1_firstStep_36 : decode cX1_firstStep 36 = .ok (.aload_n 1, 1) := gdX1_firstStep_25.2.2.2.2.2.2.1
theorem dX1_firstStep_37 : decode cX1_firstStep 37 = .ok (.getfield 31, 3) := gdX1_firstStep_25.2.2.2.2.2.2.2.1
theorem dX1_firstStep_40 : decode cX1_firstStep 40 = .ok (.if_icmp .ge 27, 3) := gdX1_firstStep_25.2.2.2.2.2.2.2.2.1
theorem dX1_firstStep_43 : decode cX1_firstStep 43 = .ok (.aload_n 0, 1) := gdX1_firstStep_25.2.2.2.2.2.2.2.2.2.1
theorem dX1_firstStep_44 : decode cX1_firstStep 44 = .ok (.aload_n 1, 1) := gdX1_firstStep_25.2.2.2.2.2.2.2.2.2.2.1
theorem dX1_firstStep_45 : decode cX1_firstStep 45 = .ok (.iload_n 2, 1) := gdX1_firstStep_25.2.2.2.2.2.2.2.2.2.2.2.1
theorem dX1_firstStep_46 : decode cX1_firstStep 46 = .ok (.iload_n 3, 1) := gdX1_firstStep_25.2.2.2.2.2.2.2.2.2.2.2.2.1
theorem dX1_firstStep_47 : decode cX1_firstStep 47 = .ok (.iload 6, 2) := gdX1_firstStep_25.2.2.2.2.2.2.2.2.2.2.2.2.2.1
theorem dX1_firstStep_49 : decode cX1_firstStep 49 = .ok (.invokevirtual 34, 3) := gdX1_firstStep_25.2.2.2.2.2.2.2.2.2.2.2.2.2.2.1
theorem dX1_firstStep_52 : decode cX1_firstStep 52 = .ok (.lload 4, 2) := gdX1_firstStep_25.2.2.2.2.2.2.2.2.2.2.2.2.2.2.2
theorem gdX1_firstStep_54 : (decode cX1_firstStep 54 = .ok (.lcmp, 1)) ∧ (decode cX1_firstStep 55 = .ok (.ifCond .ne 6, 3)) ∧ (decode cX1_firstStep 58 = .ok (.iload 6, 2)) ∧ (decode cX1_firstStep 60 = .ok (.ireturn, 1)) ∧ (decode cX1_firstStep 61 = .ok (.iinc 6 1, 3)) ∧ (decode cX1_firstStep 64 = .ok (.goto (-30), 3)) ∧ (decode cX1_firstStep 67 = .ok (.bipush (-2), 2)) ∧ (decode cX1_firstStep 69 = .ok (.ireturn, 1)) := by decide +kernel
theorem dX1_firstStep_54 : decode cX1_firstStep 54 = .ok (.lcmp, 1) := gdX1_firstStep_54.1
theorem dX1_firstStep_55 : decode cX1_firstStep 55 = .ok (.ifCond .ne 6, 3) := gdX1_firstStep_54.2.1
theorem dX1_firstStep_58 : decode cX1_firstStep 58 = .ok (.iload 6, 2) := gdX1_firstStep_54.2.2.1
theorem dX1_firstStep_60 : decode cX1_firstStep 60 = .ok (.ireturn, 1) := gdX1_firstStep_54.2.2.2.1
theorem dX1_firstStep_61 : decode cX1_firstStep 61 = .ok (.iinc 6 1, 3) := gdX1_firstStep_54.2.2.2.2.1
theorem dX1_firstStep_64 : decode cX1_firstStep 64 = .ok (.goto (-30), 3) := gdX1_firstStep_54.2.2.2.2.2.1
theorem dX1_firstStep_67 : decode cX1_firstStep 67 = .ok (.bipush (-2), 2) := gdX1_firstStep_54.2.2.2.2.2.2.1
theorem dX1_firstStep_69 : decode cX1_firstStep 69 = .ok (.ireturn, 1) := gdX1_firstStep_54.2.2.2.2.2.2.2
theorem gdX1_bestFloor_0 : (decode cX1_bestFloor 0 = .ok (.iconst 0, 1)) ∧ (decode cX1_bestFloor 1 = .ok (.istore 4, 2)) ∧ (decode cX1_bestFloor 3 = .ok (.iconst 1, 1)) ∧ (decode cX1_bestFloor 4 = .ok (.istore 5, 2)) ∧ (decode cX1_bestFloor 6 = .ok (.iload 5, 2)) ∧ (decode cX1_bestFloor 8 = .ok (.aload_n 1, 1)) ∧ (decode cX1_bestFloor 9 = .ok (.getfield 17, 3)) ∧ (decode cX1_bestFloor 12 = .ok (.if_icmp .ge 39, 3)) ∧ (decode cX1_bestFloor 15 = .ok (.aload_n 0, 1)) ∧ (decode cX1_bestFloor 16 = .ok (.iload_n 2, 1)) ∧ (decode cX1_bestFloor 17 = .ok (.iload 5, 2)) ∧ (decode cX1_bestFloor 19 = .ok (.invokevirtual 42, 3)) ∧ (decode cX1_bestFloor 22 = .ok (.aload_n 0, 1)) ∧ (decode cX1_bestFloor 23 = .ok (.iload_n 2, 1)) ∧ (decode cX1_bestFloor 24 = .ok (.iload 4, 2)) ∧ (decode cX1_bestFloor 26 = .ok (.invokevirtual 42, 3)) := by decide +kernel
theorem dX1_bestFloor_0 : decode cX1_bestFloor 0 = .ok (.iconst 0, 1) := gdX1_bestFloor_0.1
theorem dX1_bestFloor_1 : decode cX1_bestFloor 1 = .ok (.istore 4, 2) := gdX1_bestFloor_0.2.1
theorem dX1_bestFloor_3 : decode cX1_bestFloor 3 = .ok (.iconst 1, 1) := gdX1_bestFloor_0.2.2.1
theorem dX1_bestFloor_4 : decode cX1_bestFloor 4 = .ok (.istore 5, 2) := gdX1_bestFloor_0.2.2.2.1
theorem dX1_bestFloor_6 : decode cX1_bestFloor 6 = .ok (.iload 5, 2) := gdX1_bestFloor_0.2.2.2.2.1
theorem dX1_bestFloor_8 : decode cX1_bestFloor 8 = .ok (.aload_n 1, 1) := gdX1_bestFloor_0.2.2.2.2.2.1
theorem dX1_bestFloor_9 : decode cX1_bestFloor 9 = .ok (.getfield 17, 3) := gdX1_bestFloor_0.2.2.2.2.2.2.1
theorem dX1_bestFloor_12 : decode cX1_bestFloor 12 = .ok (.if_icmp .ge 39, 3) := gdX1_bestFloor_0.2.2.2.2.2.2.2.1
theorem dX1_bestFloor_15 : decode cX1_bestFloor 15 = .ok (.aload_n 0, 1) := gdX1_bestFloor_0.2.2.2.2.2.2.2.2.1
theorem dX1_bestFloor_16 : decode cX1_bestFloor 16 = .ok (.iload_n 2, 1) := gdX1_bestFloor_0.2.2.2.2.2.2.2.2.2.1
theorem dX1_bestFloor_17 : decode cX1_bestFloor 17 = .ok (.iload 5, 2) := gdX1_bestFloor_0.2.2.2.2.2.2.2.2.2.2.1
theorem dX1_bestFloor_19 : decode cX1_bestFloor 19 = .ok (.invokevirtual 42, 3) := gdX1_bestFloor_0.2.2.2.2.2.2.2.2.2.2.2.1
theorem dX1_bestFloor_22 : decode cX1_bestFloor 22 = .ok (.aload_n 0, 1) := gdX1_bestFloor_0.2.2.2.2.2.2.2.2.2.2.2.2.1
theorem dX1_bestFloor_23 : decode cX1_bestFloor 23 = .ok (.iload_n 2, 1) := gdX1_bestFloor_0.2.2.2.2.2.2.2.2.2.2.2.2.2.1
theorem dX1_bestFloor_24 : decode cX1_bestFloor 24 = .ok (.iload 4, 2) := gdX1_bestFloor_0.2.2.2.2.2.2.2.2.2.2.2.2.2.2.1
theorem dX1_bestFloor_26 : decode cX1_bestFloor 26 = .ok (.invokevirtual 42, 3) := gdX1_bestFloor_0.2.2.2.2.2.2.2.2.2.2.2.2.2.2.2
theorem gdX1_bestFloor_29 : (decode cX1_bestFloor 29 = .ok (.iload_n 3, 1)) ∧ (decode cX1_bestFloor 30 = .ok (.invokestatic 38, 3)) ∧ (decode cX1_bestFloor 33 = .ok (.ifCond .eq 8, 3)) ∧ (decode cX1_bestFloor 36 = .ok (.iload 5, 2)) ∧ (decode cX1_bestFloor 38 = .ok (.goto 5, 3)) ∧ (decode cX1_bestFloor 41 = .ok (.iload 4, 2)) ∧ (decode cX1_bestFloor 43 = .ok (.istore 4, 2)) ∧ (decode cX1_bestFloor 45 = .ok (.iinc 5 1, 3)) ∧ (decode cX1_bestFloor 48 = .ok (.goto (-42), 3)) ∧ (decode cX1_bestFloor 51 = .ok (.iload 4, 2)) ∧ (decode cX1_bestFloor 53 = .ok (.ireturn, 1)) := by decide +kernel
theorem dX1_bestFloor_29 : decode cX1_bestFloor 29 = .ok (.iload_n 3, 1) := gdX1_bestFloor_29.1
theorem dX1_bestFloor_30 : decode cX1_bestFloor 30 = .ok (.invokestatic 38, 3) := gdX1_bestFloor_29.2.1
theorem dX1_bestFloor_33 : decode cX1_bestFloor 33 = .ok (.ifCond .eq 8, 3) := gdX1_bestFloor_29.2.2.1
theorem dX1_bestFloor_36 : decode cX1_bestFloor 36 = .ok (.iload 5, 2) := gdX1_bestFloor_29.2.2.2.1
theorem dX1_bestFloor_38 : decode cX1_bestFloor 38 = .ok (.goto 5, 3) := gdX1_bestFloor_29.2.2.2.2.1
theorem dX1_bestFloor_41 : decode cX1_bestFloor 41 = .ok (.iload 4, 2) := gdX1_bestFloor_29.2.2.2.2.2.1
theorem dX1_bestFloor_43 : decode cX1_bestFloor 43 = .ok (.istore 4, 2) := gdX1_bestFloor_29.2.2.2.2.2.2.1
theorem dX1_bestFloor_45 : decode cX1_bestFloor 45 = .ok (.iinc 5 1, 3) := gdX1_bestFloor_29.2.2.2.2.2.2.2.1
theorem dX1_bestFloor_48 : decode cX1_bestFloor 48 = .ok (.goto (-42), 3) := gdX1_bestFloor_29.2.2.2.2.2.2.2.2.1
theorem dX1_bestFloor_51 : decode cX1_bestFloor 51 = .ok (.iload 4, 2) := gdX1_bestFloor_29.2.2.2.2.2.2.2.2.2.1
theorem dX1_bestFloor_53 : decode cX1_bestFloor 53 = .ok (.ireturn, 1) := gdX1_bestFloor_29.2.2.2.2.2.2.2.2.2.2
theorem gdX2_init_0 : (decode cX2_init 0 = .ok (.aload_n 0, 1)) ∧ (decode cX2_init 1 = .ok (.invokespecial 3, 3)) ∧ (decode cX2_init 4 = .ok (.aload_n 0, 1)) ∧ (decode cX2_init 5 = .ok (.bipush 12, 2)) ∧ (decode cX2_init 7 = .ok (.newarray .int, 2)) ∧ (decode cX2_init 9 = .ok (.putfield 9, 3)) ∧ (decode cX2_init 12 = .ok (.aload_n 0, 1)) ∧ (decode cX2_init 13 = .ok (.bipush 12, 2)) ∧ (decode cX2_init 15 = .ok (.newarray .int, 2)) ∧ (decode cX2_init 17 = .ok (.putfield 15, 3)) ∧ (decode cX2_init 20 = .ok (.aload_n 0, 1)) ∧ (decode cX2_init 21 = .ok (.bipush 12, 2)) ∧ (decode cX2_init 23 = .ok (.newarray .int, 2)) ∧ (decode cX2_init 25 = .ok (.putfield 18, 3)) ∧ (decode cX2_init 28 = .ok (.aload_n 0, 1)) ∧ (decode cX2_init 29 = .ok (.bipush 12, 2)) := by decide +kernel
theorem dX2_init_0 : decode cX2_init 0 = .ok (.aload_n 0, 1) := gdX2_init_0.1
theorem dX2_init_1 : decode cX2_init 1 = .ok (.invokespecial 3, 3) := gdX2_init_0.2.1
theorem dX2_init_4 : decode cX2_init 4 = .ok (.aload_n 0, 1) := gdX2_init_0.2.2.1
theorem dX2_init_5 : decode cX2_init 5 = .ok (.bipush 12, 2) := gdX2_init_0.2.2.2.1
theorem dX2_init_7 : decode cX2_init 7 = .ok (.newarray .int, 2) := gdX2_init_0.2.2.2.2.1
theorem dX2_init_9 : decode cX2_init 9 = .ok (.putfield 9, 3) := gdX2_init_0.2.2.2.2.2.1
theorem dX2_init_12 : decode cX2_init 12 = .ok (.aload_n 0, 1) := gdX2_init_0.2.2.2.2.2.2.1
theorem dX2_init_13 : decode cX2_init 13 = .ok (.bipush 12, 2) := gdX2_init_0.2.2.2.2.2.2.2.1
theorem dX2_init_15 : decode cX2_init 15 = .ok (.newarray .int, 2) := gdX2_init_0.2.2.2.2.2.2.2.2.1
theorem dX2_init_17 : decode cX2_init 17 = .ok (.putfield 15, 3) := gdX2_init_0.2.2.2.2.2.2.2.2.2.1
theorem dX2_init_20 : decode cX2_init 20 = .ok (.aload_n 0, 1) := gdX2_init_0.2.2.2.2.2.2.2.2.2.2.1
theorem dX2_init_21 : decode cX2_init 21 = .ok (.bipush 12, 2) := gdX2_init_0.2.2.2.2.2.2.2.2.2.2.2.1
theorem dX2_init_23 : decode cX2_init 23 = .ok (.newarray .int, 2) := gdX2_init_0.2.2.2.2.2.2.2.2.2.2.2.2.1
theorem dX2_init_25 : decode cX2_init 25 = .ok (.putfield 18, 3) := gdX2_init_0.2.2.2.2.2.2.2.2.2.2.2.2.2.1
theorem dX2_init_28 : decode cX2_init 28 = .ok (.aload_n 0, 1) := gdX2_init_0.2.2.2.2.2.2.2.2.2.2.2.2.2.2.1
theorem dX2_init_29 : decode cX2_init 29 = .ok (.bipush 12, 2) := gdX2_init_0.2.2.2.2.2.2.2.2.2.2.2.2.2.2.2
theorem gdX2_init_31 : (decode cX2_init 31 = .ok (.newarray .int, 2)) ∧ (decode cX2_init 33 = .ok (.putfield 21, 3)) ∧ (decode cX2_init 36 = .ok (.aload_n 0, 1)) ∧ (decode cX2_init 37 = .ok (.iconst 0, 1)) ∧ (decode cX2_init 38 = .ok (.putfield 24, 3)) ∧ (decode cX2_init 41 = .ok (.return_, 1)) := by decide +kernel
theorem dX2_init_31 : decode cX2_init 31 = .ok (.newarray .int, 2) := gdX2_init_31.1
theorem dX2_init_33 : decode cX2_init 33 = .ok (.putfield 21, 3) := gdX2_init_31.2.1
theorem dX2_init_36 : decode cX2_init 36 = .ok (.aload_n 0, 1) := gdX2_init_31.2.2.1
theorem dX2_init_37 : decode cX2_init 37 = .ok (.iconst 0, 1) := gdX2_init_31.2.2.2.1
theorem dX2_init_38 : decode cX2_init 38 = .ok (.putfield 24, 3) := gdX2_init_31.2.2.2.2.1
theorem dX2_init_41 : decode cX2_init 41 = .ok (.return_, 1) := gdX2_init_31.2.2.2.2.2
theorem gdX2_copyFrom_0 : (decode cX2_copyFrom 0 = .ok (.aload_n 1, 1)) ∧ (decode cX2_copyFrom 1 = .ok (.getfield 9, 3)) ∧ (decode cX2_copyFrom 4 = .ok (.iconst 0, 1)) ∧ (decode cX2_copyFrom 5 = .ok (.aload_n 0, 1)) ∧ (decode cX2_copyFrom 6 = .ok (.getfield 9, 3)) ∧ (decode cX2_copyFrom 9 = .ok (.iconst 0, 1)) ∧ (decode cX2_copyFrom 10 = .ok (.bipush 12, 2)) ∧ (decode cX2_copyFrom 12 = .ok (.invokestatic 28, 3)) ∧ (decode cX2_copyFrom 15 = .ok (.aload_n 1, 1)) ∧ (decode cX2_copyFrom 16 = .ok (.getfield 15, 3)) ∧ (decode cX2_copyFrom 19 = .ok (.iconst 0, 1)) ∧ (decode cX2_copyFrom 20 = .ok (.aload_n 0, 1)) ∧ (decode cX2_copyFrom 21 = .ok (.getfield 15, 3)) ∧ (decode cX2_copyFrom 24 = .ok (.iconst 0, 1)) ∧ (decode cX2_copyFrom 25 = .ok (.bipush 12, 2)) ∧ (decode cX2_copyFrom 27 = .ok (.invokestatic 28, 3)) := by decide +kernel
theorem dX2_copyFrom_0 : decode cX2_copyFrom 0 = .ok (.aload_n 1, 1) := gdX2_copyFrom_0.1
theorem dX2_copyFrom_1 : decode cX2_copyFrom 1 = .ok (.getfield 9, 3) := gdX2_copyFrom_0.2.1
theorem dX2_copyFrom_4 : decode cX2_copyFrom 4 = .ok (.iconst 0, 1) := gdX2_copyFrom_0.2.2.1
theorem dX2_copyFrom_5 : decode cX2_copyFrom 5 = .ok (.aload_n 0, 1) := gdX2_copyFrom_0.2.2.2.1
theorem dX2_copyFrom_6 : decode cX2_copyFrom 6 = .ok (.getfield 9, 3) := gdX2_copyFrom_0.2.2.2.2.1
theorem dX2_copyFrom_9 : decode cX2_copyFrom 9 = .ok (.iconst 0, 1) := gdX2_copyFrom_0.2.2.2.2.2.1
theorem dX2_copyFrom_10 : decode cX2_copyFrom 10 = .ok (.bipush 12, 2) := gdX2_copyFrom_0.2.2.2.2.2.2.1
theorem dX2_copyFrom_12 : decode cX2_copyFrom 12 = .ok (.invokestatic 28, 3) := gdX2_copyFrom_0.2.2.2.2.2.2.2.1
theorem dX2_copyFrom_15 : decode cX2_copyFrom 15 = .ok (.aload_n 1, 1) := gdX2_copyFrom_0.2.2.2.2.2.2.2.2.1
theorem dX2_copyFrom_16 : decode cX2_copyFrom 16 = .ok (.getfield 15, 3) := gdX2_copyFrom_0.2.2.2.2.2.2.2.2.2.1
theorem dX2_copyFrom_19 : decode cX2_copyFrom 19 = .ok (.iconst 0, 1) := gdX2_copyFrom_0.2.2.2.2.2.2.2.2.2.2.1
theorem dX2_copyFrom_20 : decode cX2_copyFrom 20 = .ok (.aload_n 0, 1) := gdX2_copyFrom_0.2.2.2.2.2.2.2.2.2.2.2.1
theorem dX2_copyFrom_21 : decode cX2_copyFrom 21 = .ok (.getfield 15, 3) := gdX2_copyFrom_0.2.2.2.2.2.2.2.2.2.2.2.2.1
theorem dX2_copyFrom_24 : decode cX2_copyFrom 24 = .ok (.iconst 0, 1) := gdX2_copyFrom_0.2.2.2.2.2.2.2.2.2.2.2.2.2.1
theorem dX2_copyFrom_25 : decode cX2_copyFrom 25 = .ok (.bipush 12, 2) := gdX2_copyFrom_0.2.2.2.2.2.2.2.2.2.2.2.2.2.2.1
theorem dX2_copyFrom_27 : decode cX2_copyFrom 27 = .ok (.invokestatic 28, 3) := gdX2_copyFrom_0.2.2.2.2.2.2.2.2.2.2.2.2.2.2.2
theorem gdX2_copyFrom_30 : (decode cX2_copyFrom 30 = .ok (.aload_n 1, 1)) ∧ (decode cX2_copyFrom 31 = .ok (.getfield 18, 3)) ∧ (decode cX2_copyFrom 34 = .ok (.iconst 0, 1)) ∧ (decode cX2_copyFrom 35 = .ok (.aload_n 0, 1)) ∧ (decode cX2_copyFrom 36 = .ok (.getfield 18, 3)) ∧ (decode cX2_copyFrom 39 = .ok (.iconst 0, 1)) ∧ (decode cX2_copyFrom 40 = .ok (.bipush 12, 2)) ∧ (decode cX2_copyFrom 42 = .ok (.invokestatic 28, 3)) ∧ (decode cX2_copyFrom 45 = .ok (.aload_n 1, 1)) ∧ (decode cX2_copyFrom 46 = .ok (.getfield 21, 3)) ∧ (decode cX2_copyFrom 49 = .ok (.iconst 0, 1)) ∧ (decode cX2_copyFrom 50 = .ok (.aload_n 0, 1)) ∧ (decode cX2_copyFrom 51 = .ok (.getfield 21, 3)) ∧ (decode cX2_copyFrom 54 = .ok (.iconst 0, 1)) ∧ (decode cX2_copyFrom 55 = .ok (.bipush 12, 2)) ∧ (decode cX2_copyFrom 57 = .ok (.invokestatic 28, 3)) := by decide +kernel
theorem dX2_copyFrom_30 : decode cX2_copyFrom 30 = .ok (.aload_n 1, 1) := gdX2_copyFrom_30.1
theorem dX2_copyFrom_31 : decode cX2_copyFrom 31 = .ok (.getfield 18, 3) := gdX2_copyFrom_30.2.1
theorem dX2_copyFrom_34 : decode cX2_copyFrom 34 = .ok (.iconst 0, 1) := gdX2_copyFrom_30.2.2.1
theorem dX2_copyFrom_35 : decode cX2_copyFrom 35 = .ok (.aload_n 0, 1) := gdX2_copyFrom_30.2.2.2.1
theorem dX2_copyFrom_36 : decode cX2_copyFrom 36 = .ok (.getfield 18, 3) := gdX2_copyFrom_30.2.2.2.2.1
theorem dX2_copyFrom_39 : decode cX2_copyFrom 39 = .ok (.iconst 0, 1) := gdX2_copyFrom_30.2.2.2.2.2.1
theorem dX2_copyFrom_40 : decode cX2_copyFrom 40 = .ok (.bipush 12, 2) := gdX2_copyFrom_30.2.2.2.2.2.2.1
theorem dX2_copyFrom_42 : decode cX2_copyFrom 42 = .ok (.invokestatic 28, 3) := gdX2_copyFrom_30.2.2.2.2.2.2.2.1
theorem dX2_copyFrom_45 : decode cX2_copyFrom 45 = .ok (.aload_n 1, 1) := gdX2_copyFrom_30.2.2.2.2.2.2.2.2.1
theorem dX2_copyFrom_46 : decode cX2_copyFrom 46 = .ok (.getfield 21, 3) := gdX2_copyFrom_30.2.2.2.2.2.2.2.2.2.1
theorem dX2_copyFrom_49 : decode cX2_copyFrom 49 = .ok (.iconst 0, 1) := gdX2_copyFrom_30.2.2.2.2.2.2.2.2.2.2.1
theorem dX2_copyFrom_50 : decode cX2_copyFrom 50 = .ok (.aload_n 0, 1) := gdX2_copyFrom_30.2.2.2.2.2.2.2.2.2.2.2.1
theorem dX2_copyFrom_51 : decode cX2_copyFrom 51 = .ok (.getfield 21, 3) := gdX2_copyFrom_30.2.2.2.2.2.2.2.2.2.2.2.2.1
theorem dX2_copyFrom_54 : decode cX2_copyFrom 54 = .ok (.iconst 0, 1) := gdX2_copyFrom_30.2.2.2.2.2.2.2.2.2.2.2.2.2.1
theorem dX2_copyFrom_55 : decode cX2_copyFrom 55 = .ok (.bipush 12, 2) := gdX2_copyFrom_30.2.2.2.2.2.2.2.2.2.2.2.2.2.2.1
theorem dX2_copyFrom_57 : decode cX2_copyFrom 57 = .ok (.invokestatic 28, 3) := gdX2_copyFrom_30.2.2.2.2.2.2.2.2.2.2.2.2.2.2.2
theorem gdX2_copyFrom_60 : (decode cX2_copyFrom 60 = .ok (.aload_n 0, 1)) ∧ (decode cX2_copyFrom 61 = .ok (.aload_n 1, 1)) ∧ (decode cX2_copyFrom 62 = .ok (.getfield 24, 3)) ∧ (decode cX2_copyFrom 65 = .ok (.putfield 24, 3)) ∧ (decode cX2_copyFrom 68 = .ok (.return_, 1)) := by decide +kernel
theorem dX2_copyFrom_60 : decode cX2_copyFrom 60 = .ok (.aload_n 0, 1) := gdX2_copyFrom_60.1
theorem dX2_copyFrom_61 : decode cX2_copyFrom 61 = .ok (.aload_n 1, 1) := gdX2_copyFrom_60.2.1
theorem dX2_copyFrom_62 : decode cX2_copyFrom 62 = .ok (.getfield 24, 3) := gdX2_copyFrom_60.2.2.1
theorem dX2_copyFrom_65 : decode cX2_copyFrom 65 = .ok (.putfield 24, 3) := gdX2_copyFrom_60.2.2.2.1
theorem dX2_copyFrom_68 : decode cX2_copyFrom 68 = .ok (.return_, 1) := gdX2_copyFrom_60.2.2.2.2
theorem gdX2_send_0 : (decode cX2_send 0 = .ok (.aload_n 0, 1)) ∧ (decode cX2_send 1 = .ok (.getfield 24, 3)) ∧ (decode cX2_send 4 = .ok (.bipush 12, 2)) ∧ (decode cX2_send 6 = .ok (.if_icmp .ge 54, 3)) ∧ (decode cX2_send 9 = .ok (.aload_n 0, 1)) ∧ (decode cX2_send 10 = .ok (.getfield 9, 3)) ∧ (decode cX2_send 13 = .ok (.aload_n 0, 1)) ∧ (decode cX2_send 14 = .ok (.getfield 24, 3)) ∧ (decode cX2_send 17 = .ok (.iload_n 1, 1)) ∧ (decode cX2_send 18 = .ok (.iastore, 1)) ∧ (decode cX2_send 19 = .ok (.aload_n 0, 1)) ∧ (decode cX2_send 20 = .ok (.getfield 15, 3)) ∧ (decode cX2_send 23 = .ok (.aload_n 0, 1)) ∧ (decode cX2_send 24 = .ok (.getfield 24, 3)) ∧ (decode cX2_send 27 = .ok (.iload_n 2, 1)) ∧ (decode cX2_send 28 = .ok (.iastore, 1)) := by decide +kernel
theorem dX2_send_0 : decode cX2_send 0 = .ok (.aload_n 0, 1) := gdX2_send_0.1
theorem dX2_send_1 : decode cX2_send 1 = .ok (.getfield 24, 3) := gdX2_send_0.2.1
theorem dX2_send_4 : decode cX2_send 4 = .ok (.bipush 12, 2) := gdX2_send_0.2.2.1
theorem dX2_send_6 : decode cX2_send 6 = .ok (.if_icmp .ge 54, 3) := gdX2_send_0.2.2.2.1
theorem dX2_send_9 : decode cX2_send 9 = .ok (.aload_n 0, 1) := gdX2_send_0.2.2.2.2.1
theorem dX2_send_10 : decode cX2_send 10 = .ok (.getfield 9, 3) := gdX2_send_0.2.2.2.2.2.1
theorem dX2_send_13 : decode cX2_send 13 = .ok (.aload_n 0, 1) := gdX2_send_0.2.2.2.2.2.2.1
theorem dX2_send_14 : decode cX2_send 14 = .ok (.getfield 24, 3) := gdX2_send_0.2.2.2.2.2.2.2.1
theorem dX2_send_17 : decode cX2_send 17 = .ok (.iload_n 1, 1) := gdX2_send_0.2.2.2.2.2.2.2.2.1
theorem dX2_send_18 : decode cX2_send 18 = .ok (.iastore, 1) := gdX2_send_0.2.2.2.2.2.2.2.2.2.1
theorem dX2_send_19 : decode cX2_send 19 = .ok (.aload_n 0, 1) := gdX2_send_0.2.2.2.2.2.2.2.2.2.2.1
theorem dX2_send_20 : decode cX2_send 20 = .ok (.getfield 15, 3) := gdX2_send_0.2.2.2.2.2.2.2.2.2.2.2.1
theorem dX2_send_23 : decode cX2_send 23 = .ok (.aload_n 0, 1) := gdX2_send_0.2.2.2.2.2.2.2.2.2.2.2.2.1
theorem dX2_send_24 : decode cX2_send 24 = .ok (.getfield 24, 3) := gdX2_send_0.2.2.2.2.2.2.2.2.2.2.2.2.2.1
theorem dX2_send_27 : decode cX2_send 27 = .ok (.iload_n 2, 1) := gdX2_send_0.2.2.2.2.2.2.2.2.2.2.2.2.2.2.1
theorem dX2_send_28 : decode cX2_send 28 = .ok (.iastore, 1) := gdX2_send_0.2.2.2.2.2.2.2.2.2.2.2.2.2.2.2
theorem gdX2_send_29 : (decode cX2_send 29 = .ok (.aload_n 0, 1)) ∧ (decode cX2_send 30 = .ok (.getfield 18, 3)) ∧ (decode cX2_send 33 = .ok (.aload_n 0, 1)) ∧ (decode cX2_send 34 = .ok (.getfield 24, 3)) ∧ (decode cX2_send 37 = .ok (.iload_n 3, 1)) ∧ (decode cX2_send 38 = .ok (.iastore, 1)) ∧ (decode cX2_send 39 = .ok (.aload_n 0, 1)) ∧ (decode cX2_send 40 = .ok (.getfield 21, 3)) ∧ (decode cX2_send 43 = .ok (.aload_n 0, 1)) ∧ (decode cX2_send 44 = .ok (.getfield 24, 3)) ∧ (decode cX2_send 47 = .ok (.iload 4, 2)) ∧ (decode cX2_send 49 = .ok (.iastore, 1)) ∧ (decode cX2_send 50 = .ok (.aload_n 0, 1)) ∧ (decode cX2_send 51 = .ok (.dup, 1)) ∧ (decode cX2_send 52 = .ok (.getfield 24, 3)) ∧ (decode cX2_send 55 = .ok (.iconst 1, 1)) := by decide +kernel
theorem dX2_send_29 : decode cX2_send 29 = .ok (.aload_n 0, 1) := gdX2_send_29.1
theorem dX2_send_30 : decode cX2_send 30 = .ok (.getfield 18, 3) := gdX2_send_29.2.1
theorem dX2_send_33 : decode cX2_send 33 = .ok (.aload_n 0, 1) := gdX2_send_29.2.2.1
theorem dX2_send_34 : decode cX2_send 34 = .ok (.getfield 24, 3) := gdX2_send_29.2.2.2.1
theorem dX2_send_37 : decode cX2_send 37 = .ok (.iload_n 3, 1) := gdX2_send_29.2.2.2.2.1
theorem dX2_send_38 : decode cX2_send 38 = .ok (.iastore, 1) := gdX2_send_29.2.2.2.2.2.1
theorem dX2_send_39 : decode cX2_send 39 = .ok (.aload_n 0, 1) := gdX2_send_29.2.2.2.2.2.2.1
theorem dX2_send_40 : decode cX2_send 40 = .ok (.getfield 21, 3) := gdX2_send_29.2.2.2.2.2.2.2.1
theorem dX2_send_43 : decode cX2_send 43 = .ok (.aload_n 0, 1) := gdX2_send_29.2.2.2.2.2.2.2.2.1
theorem dX2_send_44 : decode cX2_send 44 = .ok (.getfield 24, 3) := gdX2_send_29.2.2.2.2.2.2.2.2.2.1
theorem dX2_send_47 : decode cX2_send 47 = .ok (.iload 4, 2) := gdX2_send_29.2.2.2.2.2.2.2.2.2.2.1
theorem dX2_send_49 : decode cX2_send 49 = .ok (.iastore, 1) := gdX2_send_29.2.2.2.2.2.2.2.2.2.2.2.1
theorem dX2_send_50 : decode cX2_send 50 = .ok (.aload_n 0, 1) := gdX2_send_29.2.2.2.2.2.2.2.2.2.2.2.2.1
theorem dX2_send_51 : decode cX2_send 51 = .ok (.dup, 1) := gdX2_send_29.2.2.2.2.2.2.2.2.2.2.2.2.2.1
theorem dX2_send_52 : decode cX2_send 52 = .ok (.getfield 24, 3) := gdX2_send_29.2.2.2.2.2.2.2.2.2.2.2.2.2.2.1
theorem dX2_send_55 : decode cX2_send 55 = .ok (.iconst 1, 1) := gdX2_send_29.2.2.2.2.2.2.2.2.2.2.2.2.2.2.2
theorem gdX2_send_56 : (decode cX2_send 56 = .ok (.iadd, 1)) ∧ (decode cX2_send 57 = .ok (.putfield 24, 3)) ∧ (decode cX2_send 60 = .ok (.return_, 1)) := by decide +kernel
theorem dX2_send_56 : decode cX2_send 56 = .ok (.iadd, 1) := gdX2_send_56.1
theorem dX2_send_57 : decode cX2_send 57 = .ok (.putfield 24, 3) := gdX2_send_56.2.1
theorem dX2_send_60 : decode cX2_send 60 = .ok (.return_, 1) := gdX2_send_56.2.2
theorem gdX2_sentByClock_0 : (decode cX2_sentByClock 0 = .ok (.aload_n 1, 1)) ∧ (decode cX2_sentByClock 1 = .ok (.aload_n 0, 1)) ∧ (decode cX2_sentByClock 2 = .ok (.getfield 9, 3)) ∧ (decode cX2_sentByClock 5 = .ok (.iload_n 2, 1)) ∧ (decode cX2_sentByClock 6 = .ok (.iaload, 1)) ∧ (decode cX2_sentByClock 7 = .ok (.aload_n 0, 1)) ∧ (decode cX2_sentByClock 8 = .ok (.getfield 18, 3)) ∧ (decode cX2_sentByClock 11 = .ok (.iload_n 2, 1)) ∧ (decode cX2_sentByClock 12 = .ok (.iaload, 1)) ∧ (decode cX2_sentByClock 13 = .ok (.invokevirtual 34, 3)) ∧ (decode cX2_sentByClock 16 = .ok (.lreturn, 1)) := by decide +kernel
theorem dX2_sentByClock_0 : decode cX2_sentByClock 0 = .ok (.aload_n 1, 1) := gdX2_sentByClock_0.1
theorem dX2_sentByClock_1 : decode cX2_sentByClock 1 = .ok (.aload_n 0, 1) := gdX2_sentByClock_0.2.1
theorem dX2_sentByClock_2 : decode cX2_sentByClock 2 = .ok (.getfield 9, 3) := gdX2_sentByClock_0.2.2.1
theorem dX2_sentByClock_5 : decode cX2_sentByClock 5 = .ok (.iload_n 2, 1) := gdX2_sentByClock_0.2.2.2.1
theorem dX2_sentByClock_6 : decode cX2_sentByClock 6 = .ok (.iaload, 1) := gdX2_sentByClock_0.2.2.2.2.1
theorem dX2_sentByClock_7 : decode cX2_sentByClock 7 = .ok (.aload_n 0, 1) := gdX2_sentByClock_0.2.2.2.2.2.1
theorem dX2_sentByClock_8 : decode cX2_sentByClock 8 = .ok (.getfield 18, 3) := gdX2_sentByClock_0.2.2.2.2.2.2.1
theorem dX2_sentByClock_11 : decode cX2_sentByClock 11 = .ok (.iload_n 2, 1) := gdX2_sentByClock_0.2.2.2.2.2.2.2.1
theorem dX2_sentByClock_12 : decode cX2_sentByClock 12 = .ok (.iaload, 1) := gdX2_sentByClock_0.2.2.2.2.2.2.2.2.1
theorem dX2_sentByClock_13 : decode cX2_sentByClock 13 = .ok (.invokevirtual 34, 3) := gdX2_sentByClock_0.2.2.2.2.2.2.2.2.2.1
theorem dX2_sentByClock_16 : decode cX2_sentByClock 16 = .ok (.lreturn, 1) := gdX2_sentByClock_0.2.2.2.2.2.2.2.2.2.2
theorem gdX2_isEarly_0 : (decode cX2_isEarly 0 = .ok (.aload_n 1, 1)) ∧ (decode cX2_isEarly 1 = .ok (.aload_n 0, 1)) ∧ (decode cX2_isEarly 2 = .ok (.getfield 15, 3)) ∧ (decode cX2_isEarly 5 = .ok (.iload_n 2, 1)) ∧ (decode cX2_isEarly 6 = .ok (.iaload, 1)) ∧ (decode cX2_isEarly 7 = .ok (.aload_n 0, 1)) ∧ (decode cX2_isEarly 8 = .ok (.getfield 21, 3)) ∧ (decode cX2_isEarly 11 = .ok (.iload_n 2, 1)) ∧ (decode cX2_isEarly 12 = .ok (.iaload, 1)) ∧ (decode cX2_isEarly 13 = .ok (.invokevirtual 34, 3)) ∧ (decode cX2_isEarly 16 = .ok (.aload_n 0, 1)) ∧ (decode cX2_isEarly 17 = .ok (.aload_n 1, 1)) ∧ (decode cX2_isEarly 18 = .ok (.iload_n 2, 1)) ∧ (decode cX2_isEarly 19 = .ok (.invokevirtual 40, 3)) ∧ (decode cX2_isEarly 22 = .ok (.lcmp, 1)) ∧ (decode cX2_isEarly 23 = .ok (.ifCond .ge 7, 3)) := by decide +kernel
theorem dX2_isEarly_0 : decode cX2_isEarly 0 = .ok (.aload_n 1, 1) := gdX2_isEarly_0.1
theorem dX2_isEarly_1 : decode cX2_isEarly 1 = .ok (.aload_n 0, 1) := gdX2_isEarly_0.2.1
theorem dX2_isEarly_2 : decode cX2_isEarly 2 = .ok (.getfield 15, 3) := gdX2_isEarly_0.2.2.1
theorem dX2_isEarly_5 : decode cX2_isEarly 5 = .ok (.iload_n 2, 1) := gdX2_isEarly_0.2.2.2.1
theorem dX2_isEarly_6 : decode cX2_isEarly 6 = .ok (.iaload, 1) := gdX2_isEarly_0.2.2.2.2.1
theorem dX2_isEarly_7 : decode cX2_isEarly 7 = .ok (.aload_n 0, 1) := gdX2_isEarly_0.2.2.2.2.2.1
theorem dX2_isEarly_8 : decode cX2_isEarly 8 = .ok (.getfield 21, 3) := gdX2_isEarly_0.2.2.2.2.2.2.1
theorem dX2_isEarly_11 : decode cX2_isEarly 11 = .ok (.iload_n 2, 1) := gdX2_isEarly_0.2.2.2.2.2.2.2.1
theorem dX2_isEarly_12 : decode cX2_isEarly 12 = .ok (.iaload, 1) := gdX2_isEarly_0.2.2.2.2.2.2.2.2.1
theorem dX2_isEarly_13 : decode cX2_isEarly 13 = .ok (.invokevirtual 34, 3) := gdX2_isEarly_0.2.2.2.2.2.2.2.2.2.1
theorem dX2_isEarly_16 : decode cX2_isEarly 16 = .ok (.aload_n 0, 1) := gdX2_isEarly_0.2.2.2.2.2.2.2.2.2.2.1
theorem dX2_isEarly_17 : decode cX2_isEarly 17 = .ok (.aload_n 1, 1) := gdX2_isEarly_0.2.2.2.2.2.2.2.2.2.2.2.1
theorem dX2_isEarly_18 : decode cX2_isEarly 18 = .ok (.iload_n 2, 1) := gdX2_isEarly_0.2.2.2.2.2.2.2.2.2.2.2.2.1
theorem dX2_isEarly_19 : decode cX2_isEarly 19 = .ok (.invokevirtual 40, 3) := gdX2_isEarly_0.2.2.2.2.2.2.2.2.2.2.2.2.2.1
theorem dX2_isEarly_22 : decode cX2_isEarly 22 = .ok (.lcmp, 1) := gdX2_isEarly_0.2.2.2.2.2.2.2.2.2.2.2.2.2.2.1
theorem dX2_isEarly_23 : decode cX2_isEarly 23 = .ok (.ifCond .ge 7, 3) := gdX2_isEarly_0.2.2.2.2.2.2.2.2.2.2.2.2.2.2.2
theorem gdX2_isEarly_26 : (decode cX2_isEarly 26 = .ok (.iconst 1, 1)) ∧ (decode cX2_isEarly 27 = .ok (.goto 4, 3)) ∧ (decode cX2_isEarly 30 = .ok (.iconst 0, 1)) ∧ (decode cX2_isEarly 31 = .ok (.ireturn, 1)) := by decide +kernel
theorem dX2_isEarly_26 : decode cX2_isEarly 26 = .ok (.iconst 1, 1) := gdX2_isEarly_26.1
theorem dX2_isEarly_27 : decode cX2_isEarly 27 = .ok (.goto 4, 3) := gdX2_isEarly_26.2.1
theorem dX2_isEarly_30 : decode cX2_isEarly 30 = .ok (.iconst 0, 1) := gdX2_isEarly_26.2.2.1
theorem dX2_isEarly_31 : decode cX2_isEarly 31 = .ok (.ireturn, 1) := gdX2_isEarly_26.2.2.2
theorem gdX2_earlyOnes_0 : (decode cX2_earlyOnes 0 = .ok (.iconst 0, 1)) ∧ (decode cX2_earlyOnes 1 = .ok (.istore_n 2, 1)) ∧ (decode cX2_earlyOnes 2 = .ok (.iconst 0, 1)) ∧ (decode cX2_earlyOnes 3 = .ok (.istore_n 3, 1)) ∧ (decode cX2_earlyOnes 4 = .ok (.iload_n 3, 1)) ∧ (decode cX2_earlyOnes 5 = .ok (.aload_n 0, 1)) ∧ (decode cX2_earlyOnes 6 = .ok (.getfield 24, 3)) ∧ (decode cX2_earlyOnes 9 = .ok (.if_icmp .ge 26, 3)) ∧ (decode cX2_earlyOnes 12 = .ok (.iload_n 2, 1)) ∧ (decode cX2_earlyOnes 13 = .ok (.aload_n 0, 1)) ∧ (decode cX2_earlyOnes 14 = .ok (.aload_n 1, 1)) ∧ (decode cX2_earlyOnes 15 = .ok (.iload_n 3, 1)) ∧ (decode cX2_earlyOnes 16 = .ok (.invokevirtual 44, 3)) ∧ (decode cX2_earlyOnes 19 = .ok (.ifCond .eq 7, 3)) ∧ (decode cX2_earlyOnes 22 = .ok (.iconst 1, 1)) ∧ (decode cX2_earlyOnes 23 = .ok (.goto 4, 3)) := by decide +kernel
theorem dX2_earlyOnes_0 : decode cX2_earlyOnes 0 = .ok (.iconst 0, 1) := gdX2_earlyOnes_0.1
theorem dX2_earlyOnes_1 : decode cX2_earlyOnes 1 = .ok (.istore_n 2, 1) := gdX2_earlyOnes_0.2.1
theorem dX2_earlyOnes_2 : decode cX2_earlyOnes 2 = .ok (.iconst 0, 1) := gdX2_earlyOnes_0.2.2.1
theorem dX2_earlyOnes_3 : decode cX2_earlyOnes 3 = .ok (.istore_n 3, 1) := gdX2_earlyOnes_0.2.2.2.1
theorem dX2_earlyOnes_4 : decode cX2_earlyOnes 4 = .ok (.iload_n 3, 1) := gdX2_earlyOnes_0.2.2.2.2.1
theorem dX2_earlyOnes_5 : decode cX2_earlyOnes 5 = .ok (.aload_n 0, 1) := gdX2_earlyOnes_0.2.2.2.2.2.1
theorem dX2_earlyOnes_6 : decode cX2_earlyOnes 6 = .ok (.getfield 24, 3) := gdX2_earlyOnes_0.2.2.2.2.2.2.1
theorem dX2_earlyOnes_9 : decode cX2_earlyOnes 9 = .ok (.if_icmp .ge 26, 3) := gdX2_earlyOnes_0.2.2.2.2.2.2.2.1
theorem dX2_earlyOnes_12 : decode cX2_earlyOnes 12 = .ok (.iload_n 2, 1) := gdX2_earlyOnes_0.2.2.2.2.2.2.2.2.1
theorem dX2_earlyOnes_13 : decode cX2_earlyOnes 13 = .ok (.aload_n 0, 1) := gdX2_earlyOnes_0.2.2.2.2.2.2.2.2.2.1
theorem dX2_earlyOnes_14 : decode cX2_earlyOnes 14 = .ok (.aload_n 1, 1) := gdX2_earlyOnes_0.2.2.2.2.2.2.2.2.2.2.1
theorem dX2_earlyOnes_15 : decode cX2_earlyOnes 15 = .ok (.iload_n 3, 1) := gdX2_earlyOnes_0.2.2.2.2.2.2.2.2.2.2.2.1
theorem dX2_earlyOnes_16 : decode cX2_earlyOnes 16 = .ok (.invokevirtual 44, 3) := gdX2_earlyOnes_0.2.2.2.2.2.2.2.2.2.2.2.2.1
theorem dX2_earlyOnes_19 : decode cX2_earlyOnes 19 = .ok (.ifCond .eq 7, 3) := gdX2_earlyOnes_0.2.2.2.2.2.2.2.2.2.2.2.2.2.1
theorem dX2_earlyOnes_22 : decode cX2_earlyOnes 22 = .ok (.iconst 1, 1) := gdX2_earlyOnes_0.2.2.2.2.2.2.2.2.2.2.2.2.2.2.1
theorem dX2_earlyOnes_23 : decode cX2_earlyOnes 23 = .ok (.goto 4, 3) := gdX2_earlyOnes_0.2.2.2.2.2.2.2.2.2.2.2.2.2.2.2
theorem gdX2_earlyOnes_26 : (decode cX2_earlyOnes 26 = .ok (.iconst 0, 1)) ∧ (decode cX2_earlyOnes 27 = .ok (.iadd, 1)) ∧ (decode cX2_earlyOnes 28 = .ok (.istore_n 2, 1)) ∧ (decode cX2_earlyOnes 29 = .ok (.iinc 3 1, 3)) ∧ (decode cX2_earlyOnes 32 = .ok (.goto (-28), 3)) ∧ (decode cX2_earlyOnes 35 = .ok (.iload_n 2, 1)) ∧ (decode cX2_earlyOnes 36 = .ok (.ireturn, 1)) := by decide +kernel
theorem dX2_earlyOnes_26 : decode cX2_earlyOnes 26 = .ok (.iconst 0, 1) := gdX2_earlyOnes_26.1
theorem dX2_earlyOnes_27 : decode cX2_earlyOnes 27 = .ok (.iadd, 1) := gdX2_earlyOnes_26.2.1
theorem dX2_earlyOnes_28 : decode cX2_earlyOnes 28 = .ok (.istore_n 2, 1) := gdX2_earlyOnes_26.2.2.1
theorem dX2_earlyOnes_29 : decode cX2_earlyOnes 29 = .ok (.iinc 3 1, 3) := gdX2_earlyOnes_26.2.2.2.1
theorem dX2_earlyOnes_32 : decode cX2_earlyOnes 32 = .ok (.goto (-28), 3) := gdX2_earlyOnes_26.2.2.2.2.1
theorem dX2_earlyOnes_35 : decode cX2_earlyOnes 35 = .ok (.iload_n 2, 1) := gdX2_earlyOnes_26.2.2.2.2.2.1
theorem dX2_earlyOnes_36 : decode cX2_earlyOnes 36 = .ok (.ireturn, 1) := gdX2_earlyOnes_26.2.2.2.2.2.2
theorem gdX2_isOvertaken_0 : (decode cX2_isOvertaken 0 = .ok (.aload_n 0, 1)) ∧ (decode cX2_isOvertaken 1 = .ok (.aload_n 1, 1)) ∧ (decode cX2_isOvertaken 2 = .ok (.iload_n 2, 1)) ∧ (decode cX2_isOvertaken 3 = .ok (.invokevirtual 40, 3)) ∧ (decode cX2_isOvertaken 6 = .ok (.aload_n 0, 1)) ∧ (decode cX2_isOvertaken 7 = .ok (.aload_n 1, 1)) ∧ (decode cX2_isOvertaken 8 = .ok (.iload_n 3, 1)) ∧ (decode cX2_isOvertaken 9 = .ok (.invokevirtual 40, 3)) ∧ (decode cX2_isOvertaken 12 = .ok (.lcmp, 1)) ∧ (decode cX2_isOvertaken 13 = .ok (.ifCond .ge 22, 3)) ∧ (decode cX2_isOvertaken 16 = .ok (.aload_n 0, 1)) ∧ (decode cX2_isOvertaken 17 = .ok (.getfield 21, 3)) ∧ (decode cX2_isOvertaken 20 = .ok (.iload_n 2, 1)) ∧ (decode cX2_isOvertaken 21 = .ok (.iaload, 1)) ∧ (decode cX2_isOvertaken 22 = .ok (.aload_n 0, 1)) ∧ (decode cX2_isOvertaken 23 = .ok (.getfield 21, 3)) := by decide +kernel
theorem dX2_isOvertaken_0 : decode cX2_isOvertaken 0 = .ok (.aload_n 0, 1) := gdX2_isOvertaken_0.1
theorem dX2_isOvertaken_1 : decode cX2_isOvertaken 1 = .ok (.aload_n 1, 1) := gdX2_isOvertaken_0.2.1
theorem dX2_isOvertaken_2 : decode cX2_isOvertaken 2 = .ok (.iload_n 2, 1) := gdX2_isOvertaken_0.2.2.1
theorem dX2_isOvertaken_3 : decode cX2_isOvertaken 3 = .ok (.invokevirtual 40, 3) := gdX2_isOvertaken_0.2.2.2.1
theorem dX2_isOvertaken_6 : decode cX2_isOvertaken 6 = .ok (.aload_n 0, 1) := gdX2_isOvertaken_0.2.2.2.2.1
theorem dX2_isOvertaken_7 : decode cX2_isOvertaken 7 = .ok (.aload_n 1, 1) := gdX2_isOvertaken_0.2.2.2.2.2.1
theorem dX2_isOvertaken_8 : decode cX2_isOvertaken 8 = .ok (.iload_n 3, 1) := gdX2_isOvertaken_0.2.2.2.2.2.2.1
theorem dX2_isOvertaken_9 : decode cX2_isOvertaken 9 = .ok (.invokevirtual 40, 3) := gdX2_isOvertaken_0.2.2.2.2.2.2.2.1
theorem dX2_isOvertaken_12 : decode cX2_isOvertaken 12 = .ok (.lcmp, 1) := gdX2_isOvertaken_0.2.2.2.2.2.2.2.2.1
theorem dX2_isOvertaken_13 : decode cX2_isOvertaken 13 = .ok (.ifCond .ge 22, 3) := gdX2_isOvertaken_0.2.2.2.2.2.2.2.2.2.1
theorem dX2_isOvertaken_16 : decode cX2_isOvertaken 16 = .ok (.aload_n 0, 1) := gdX2_isOvertaken_0.2.2.2.2.2.2.2.2.2.2.1
theorem dX2_isOvertaken_17 : decode cX2_isOvertaken 17 = .ok (.getfield 21, 3) := gdX2_isOvertaken_0.2.2.2.2.2.2.2.2.2.2.2.1
theorem dX2_isOvertaken_20 : decode cX2_isOvertaken 20 = .ok (.iload_n 2, 1) := gdX2_isOvertaken_0.2.2.2.2.2.2.2.2.2.2.2.2.1
theorem dX2_isOvertaken_21 : decode cX2_isOvertaken 21 = .ok (.iaload, 1) := gdX2_isOvertaken_0.2.2.2.2.2.2.2.2.2.2.2.2.2.1
theorem dX2_isOvertaken_22 : decode cX2_isOvertaken 22 = .ok (.aload_n 0, 1) := gdX2_isOvertaken_0.2.2.2.2.2.2.2.2.2.2.2.2.2.2.1
theorem dX2_isOvertaken_23 : decode cX2_isOvertaken 23 = .ok (.getfield 21, 3) := gdX2_isOvertaken_0.2.2.2.2.2.2.2.2.2.2.2.2.2.2.2
theorem gdX2_isOvertaken_26 : (decode cX2_isOvertaken 26 = .ok (.iload_n 3, 1)) ∧ (decode cX2_isOvertaken 27 = .ok (.iaload, 1)) ∧ (decode cX2_isOvertaken 28 = .ok (.if_icmp .le 7, 3)) ∧ (decode cX2_isOvertaken 31 = .ok (.iconst 1, 1)) ∧ (decode cX2_isOvertaken 32 = .ok (.goto 4, 3)) ∧ (decode cX2_isOvertaken 35 = .ok (.iconst 0, 1)) ∧ (decode cX2_isOvertaken 36 = .ok (.ireturn, 1)) := by decide +kernel
theorem dX2_isOvertaken_26 : decode cX2_isOvertaken 26 = .ok (.iload_n 3, 1) := gdX2_isOvertaken_26.1
theorem dX2_isOvertaken_27 : decode cX2_isOvertaken 27 = .ok (.iaload, 1) := gdX2_isOvertaken_26.2.1
theorem dX2_isOvertaken_28 : decode cX2_isOvertaken 28 = .ok (.if_icmp .le 7, 3) := gdX2_isOvertaken_26.2.2.1
theorem dX2_isOvertaken_31 : decode cX2_isOvertaken 31 = .ok (.iconst 1, 1) := gdX2_isOvertaken_26.2.2.2.1
theorem dX2_isOvertaken_32 : decode cX2_isOvertaken 32 = .ok (.goto 4, 3) := gdX2_isOvertaken_26.2.2.2.2.1
theorem dX2_isOvertaken_35 : decode cX2_isOvertaken 35 = .ok (.iconst 0, 1) := gdX2_isOvertaken_26.2.2.2.2.2.1
theorem dX2_isOvertaken_36 : decode cX2_isOvertaken 36 = .ok (.ireturn, 1) := gdX2_isOvertaken_26.2.2.2.2.2.2
theorem gdX2_comingBefore_0 : (decode cX2_comingBefore 0 = .ok (.iconst 0, 1)) ∧ (decode cX2_comingBefore 1 = .ok (.istore_n 2, 1)) ∧ (decode cX2_comingBefore 2 = .ok (.iconst 0, 1)) ∧ (decode cX2_comingBefore 3 = .ok (.istore_n 3, 1)) ∧ (decode cX2_comingBefore 4 = .ok (.iload_n 3, 1)) ∧ (decode cX2_comingBefore 5 = .ok (.aload_n 0, 1)) ∧ (decode cX2_comingBefore 6 = .ok (.getfield 24, 3)) ∧ (decode cX2_comingBefore 9 = .ok (.if_icmp .ge 64, 3)) ∧ (decode cX2_comingBefore 12 = .ok (.aload_n 0, 1)) ∧ (decode cX2_comingBefore 13 = .ok (.getfield 21, 3)) ∧ (decode cX2_comingBefore 16 = .ok (.iload_n 3, 1)) ∧ (decode cX2_comingBefore 17 = .ok (.iaload, 1)) ∧ (decode cX2_comingBefore 18 = .ok (.aload_n 0, 1)) ∧ (decode cX2_comingBefore 19 = .ok (.getfield 21, 3)) ∧ (decode cX2_comingBefore 22 = .ok (.iload_n 1, 1)) ∧ (decode cX2_comingBefore 23 = .ok (.iaload, 1)) := by decide +kernel
theorem dX2_comingBefore_0 : decode cX2_comingBefore 0 = .ok (.iconst 0, 1) := gdX2_comingBefore_0.1
theorem dX2_comingBefore_1 : decode cX2_comingBefore 1 = .ok (.istore_n 2, 1) := gdX2_comingBefore_0.2.1
theorem dX2_comingBefore_2 : decode cX2_comingBefore 2 = .ok (.iconst 0, 1) := gdX2_comingBefore_0.2.2.1
theorem dX2_comingBefore_3 : decode cX2_comingBefore 3 = .ok (.istore_n 3, 1) := gdX2_comingBefore_0.2.2.2.1
theorem dX2_comingBefore_4 : decode cX2_comingBefore 4 = .ok (.iload_n 3, 1) := gdX2_comingBefore_0.2.2.2.2.1
theorem dX2_comingBefore_5 : decode cX2_comingBefore 5 = .ok (.aload_n 0, 1) := gdX2_comingBefore_0.2.2.2.2.2.1
theorem dX2_comingBefore_6 : decode cX2_comingBefore 6 = .ok (.getfield 24, 3) := gdX2_comingBefore_0.2.2.2.2.2.2.1
theorem dX2_comingBefore_9 : decode cX2_comingBefore 9 = .ok (.if_icmp .ge 64, 3) := gdX2_comingBefore_0.2.2.2.2.2.2.2.1
theorem dX2_comingBefore_12 : decode cX2_comingBefore 12 = .ok (.aload_n 0, 1) := gdX2_comingBefore_0.2.2.2.2.2.2.2.2.1
theorem dX2_comingBefore_13 : decode cX2_comingBefore 13 = .ok (.getfield 21, 3) := gdX2_comingBefore_0.2.2.2.2.2.2.2.2.2.1
theorem dX2_comingBefore_16 : decode cX2_comingBefore 16 = .ok (.iload_n 3, 1) := gdX2_comingBefore_0.2.2.2.2.2.2.2.2.2.2.1
theorem dX2_comingBefore_17 : decode cX2_comingBefore 17 = .ok (.iaload, 1) := gdX2_comingBefore_0.2.2.2.2.2.2.2.2.2.2.2.1
theorem dX2_comingBefore_18 : decode cX2_comingBefore 18 = .ok (.aload_n 0, 1) := gdX2_comingBefore_0.2.2.2.2.2.2.2.2.2.2.2.2.1
theorem dX2_comingBefore_19 : decode cX2_comingBefore 19 = .ok (.getfield 21, 3) := gdX2_comingBefore_0.2.2.2.2.2.2.2.2.2.2.2.2.2.1
theorem dX2_comingBefore_22 : decode cX2_comingBefore 22 = .ok (.iload_n 1, 1) := gdX2_comingBefore_0.2.2.2.2.2.2.2.2.2.2.2.2.2.2.1
theorem dX2_comingBefore_23 : decode cX2_comingBefore 23 = .ok (.iaload, 1) := gdX2_comingBefore_0.2.2.2.2.2.2.2.2.2.2.2.2.2.2.2
theorem gdX2_comingBefore_24 : (decode cX2_comingBefore 24 = .ok (.if_icmp .lt 23, 3)) ∧ (decode cX2_comingBefore 27 = .ok (.aload_n 0, 1)) ∧ (decode cX2_comingBefore 28 = .ok (.getfield 21, 3)) ∧ (decode cX2_comingBefore 31 = .ok (.iload_n 3, 1)) ∧ (decode cX2_comingBefore 32 = .ok (.iaload, 1)) ∧ (decode cX2_comingBefore 33 = .ok (.aload_n 0, 1)) ∧ (decode cX2_comingBefore 34 = .ok (.getfield 21, 3)) ∧ (decode cX2_comingBefore 37 = .ok (.iload_n 1, 1)) ∧ (decode cX2_comingBefore 38 = .ok (.iaload, 1)) ∧ (decode cX2_comingBefore 39 = .ok (.if_icmp .ne 12, 3)) ∧ (decode cX2_comingBefore 42 = .ok (.iload_n 3, 1)) ∧ (decode cX2_comingBefore 43 = .ok (.iload_n 1, 1)) ∧ (decode cX2_comingBefore 44 = .ok (.if_icmp .ge 7, 3)) ∧ (decode cX2_comingBefore 47 = .ok (.iconst 1, 1)) ∧ (decode cX2_comingBefore 48 = .ok (.goto 4, 3)) ∧ (decode cX2_comingBefore 51 = .ok (.iconst 0, 1)) := by decide +kernel
theorem dX2_comingBefore_24 : decode cX2_comingBefore 24 = .ok (.if_icmp .lt 23, 3) := gdX2_comingBefore_24.1
theorem dX2_comingBefore_27 : decode cX2_comingBefore 27 = .ok (.aload_n 0, 1) := gdX2_comingBefore_24.2.1
theorem dX2_comingBefore_28 : decode cX2_comingBefore 28 = .ok (.getfield 21, 3) := gdX2_comingBefore_24.2.2.1
theorem dX2_comingBefore_31 : decode cX2_comingBefore 31 = .ok (.iload_n 3, 1) := gdX2_comingBefore_24.2.2.2.1
theorem dX2_comingBefore_32 : decode cX2_comingBefore 32 = .ok (.iaload, 1) := gdX2_comingBefore_24.2.2.2.2.1
theorem dX2_comingBefore_33 : decode cX2_comingBefore 33 = .ok (.aload_n 0, 1) := gdX2_comingBefore_24.2.2.2.2.2.1
theorem dX2_comingBefore_34 : decode cX2_comingBefore 34 = .ok (.getfield 21, 3) := gdX2_comingBefore_24.2.2.2.2.2.2.1
theorem dX2_comingBefore_37 : decode cX2_comingBefore 37 = .ok (.iload_n 1, 1) := gdX2_comingBefore_24.2.2.2.2.2.2.2.1
theorem dX2_comingBefore_38 : decode cX2_comingBefore 38 = .ok (.iaload, 1) := gdX2_comingBefore_24.2.2.2.2.2.2.2.2.1
theorem dX2_comingBefore_39 : decode cX2_comingBefore 39 = .ok (.if_icmp .ne 12, 3) := gdX2_comingBefore_24.2.2.2.2.2.2.2.2.2.1
theorem dX2_comingBefore_42 : decode cX2_comingBefore 42 = .ok (.iload_n 3, 1) := gdX2_comingBefore_24.2.2.2.2.2.2.2.2.2.2.1
theorem dX2_comingBefore_43 : decode cX2_comingBefore 43 = .ok (.iload_n 1, 1) := gdX2_comingBefore_24.2.2.2.2.2.2.2.2.2.2.2.1
theorem dX2_comingBefore_44 : decode cX2_comingBefore 44 = .ok (.if_icmp .ge 7, 3) := gdX2_comingBefore_24.2.2.2.2.2.2.2.2.2.2.2.2.1
theorem dX2_comingBefore_47 : decode cX2_comingBefore 47 = .ok (.iconst 1, 1) := gdX2_comingBefore_24.2.2.2.2.2.2.2.2.2.2.2.2.2.1
theorem dX2_comingBefore_48 : decode cX2_comingBefore 48 = .ok (.goto 4, 3) := gdX2_comingBefore_24.2.2.2.2.2.2.2.2.2.2.2.2.2.2.1
theorem dX2_comingBefore_51 : decode cX2_comingBefore 51 = .ok (.iconst 0, 1) := gdX2_comingBefore_24.2.2.2.2.2.2.2.2.2.2.2.2.2.2.2
theorem gdX2_comingBefore_52 : (decode cX2_comingBefore 52 = .ok (.istore 4, 2)) ∧ (decode cX2_comingBefore 54 = .ok (.iload_n 2, 1)) ∧ (decode cX2_comingBefore 55 = .ok (.iload 4, 2)) ∧ (decode cX2_comingBefore 57 = .ok (.ifCond .eq 7, 3)) ∧ (decode cX2_comingBefore 60 = .ok (.iconst 1, 1)) ∧ (decode cX2_comingBefore 61 = .ok (.goto 4, 3)) ∧ (decode cX2_comingBefore 64 = .ok (.iconst 0, 1)) ∧ (decode cX2_comingBefore 65 = .ok (.iadd, 1)) ∧ (decode cX2_comingBefore 66 = .ok (.istore_n 2, 1)) ∧ (decode cX2_comingBefore 67 = .ok (.iinc 3 1, 3)) ∧ (decode cX2_comingBefore 70 = .ok (.goto (-66), 3)) ∧ (decode cX2_comingBefore 73 = .ok (.iload_n 2, 1)) ∧ (decode cX2_comingBefore 74 = .ok (.ireturn, 1)) := by decide +kernel
theorem dX2_comingBefore_52 : decode cX2_comingBefore 52 = .ok (.istore 4, 2) := gdX2_comingBefore_52.1
theorem dX2_comingBefore_54 : decode cX2_comingBefore 54 = .ok (.iload_n 2, 1) := gdX2_comingBefore_52.2.1
theorem dX2_comingBefore_55 : decode cX2_comingBefore 55 = .ok (.iload 4, 2) := gdX2_comingBefore_52.2.2.1
theorem dX2_comingBefore_57 : decode cX2_comingBefore 57 = .ok (.ifCond .eq 7, 3) := gdX2_comingBefore_52.2.2.2.1
theorem dX2_comingBefore_60 : decode cX2_comingBefore 60 = .ok (.iconst 1, 1) := gdX2_comingBefore_52.2.2.2.2.1
theorem dX2_comingBefore_61 : decode cX2_comingBefore 61 = .ok (.goto 4, 3) := gdX2_comingBefore_52.2.2.2.2.2.1
theorem dX2_comingBefore_64 : decode cX2_comingBefore 64 = .ok (.iconst 0, 1) := gdX2_comingBefore_52.2.2.2.2.2.2.1
theorem dX2_comingBefore_65 : decode cX2_comingBefore 65 = .ok (.iadd, 1) := gdX2_comingBefore_52.2.2.2.2.2.2.2.1
theorem dX2_comingBefore_66 : decode cX2_comingBefore 66 = .ok (.istore_n 2, 1) := gdX2_comingBefore_52.2.2.2.2.2.2.2.2.1
theorem dX2_comingBefore_67 : decode cX2_comingBefore 67 = .ok (.iinc 3 1, 3) := gdX2_comingBefore_52.2.2.2.2.2.2.2.2.2.1
theorem dX2_comingBefore_70 : decode cX2_comingBefore 70 = .ok (.goto (-66), 3) := gdX2_comingBefore_52.2.2.2.2.2.2.2.2.2.2.1
theorem dX2_comingBefore_73 : decode cX2_comingBefore 73 = .ok (.iload_n 2, 1) := gdX2_comingBefore_52.2.2.2.2.2.2.2.2.2.2.2.1
theorem dX2_comingBefore_74 : decode cX2_comingBefore 74 = .ok (.ireturn, 1) := gdX2_comingBefore_52.2.2.2.2.2.2.2.2.2.2.2.2
theorem gdX3_init_0 : (decode cX3_init 0 = .ok (.aload_n 0, 1)) ∧ (decode cX3_init 1 = .ok (.invokespecial 3, 3)) ∧ (decode cX3_init 4 = .ok (.aload_n 0, 1)) ∧ (decode cX3_init 5 = .ok (.sipush 4000, 3)) ∧ (decode cX3_init 8 = .ok (.newarray .long, 2)) ∧ (decode cX3_init 10 = .ok (.putfield 9, 3)) ∧ (decode cX3_init 13 = .ok (.aload_n 0, 1)) ∧ (decode cX3_init 14 = .ok (.sipush 171, 3)) ∧ (decode cX3_init 17 = .ok (.newarray .int, 2)) ∧ (decode cX3_init 19 = .ok (.putfield 15, 3)) ∧ (decode cX3_init 22 = .ok (.aload_n 0, 1)) ∧ (decode cX3_init 23 = .ok (.bipush 13, 2)) ∧ (decode cX3_init 25 = .ok (.newarray .int, 2)) ∧ (decode cX3_init 27 = .ok (.putfield 19, 3)) ∧ (decode cX3_init 30 = .ok (.aload_n 0, 1)) ∧ (decode cX3_init 31 = .ok (.bipush 13, 2)) := by decide +kernel
theorem dX3_init_0 : decode cX3_init 0 = .ok (.aload_n 0, 1) := gdX3_init_0.1
theorem dX3_init_1 : decode cX3_init 1 = .ok (.invokespecial 3, 3) := gdX3_init_0.2.1
theorem dX3_init_4 : decode cX3_init 4 = .ok (.aload_n 0, 1) := gdX3_init_0.2.2.1
theorem dX3_init_5 : decode cX3_init 5 = .ok (.sipush 4000, 3) := gdX3_init_0.2.2.2.1
theorem dX3_init_8 : decode cX3_init 8 = .ok (.newarray .long, 2) := gdX3_init_0.2.2.2.2.1
theorem dX3_init_10 : decode cX3_init 10 = .ok (.putfield 9, 3) := gdX3_init_0.2.2.2.2.2.1
theorem dX3_init_13 : decode cX3_init 13 = .ok (.aload_n 0, 1) := gdX3_init_0.2.2.2.2.2.2.1
theorem dX3_init_14 : decode cX3_init 14 = .ok (.sipush 171, 3) := gdX3_init_0.2.2.2.2.2.2.2.1
theorem dX3_init_17 : decode cX3_init 17 = .ok (.newarray .int, 2) := gdX3_init_0.2.2.2.2.2.2.2.2.1
theorem dX3_init_19 : decode cX3_init 19 = .ok (.putfield 15, 3) := gdX3_init_0.2.2.2.2.2.2.2.2.2.1
theorem dX3_init_22 : decode cX3_init 22 = .ok (.aload_n 0, 1) := gdX3_init_0.2.2.2.2.2.2.2.2.2.2.1
theorem dX3_init_23 : decode cX3_init 23 = .ok (.bipush 13, 2) := gdX3_init_0.2.2.2.2.2.2.2.2.2.2.2.1
theorem dX3_init_25 : decode cX3_init 25 = .ok (.newarray .int, 2) := gdX3_init_0.2.2.2.2.2.2.2.2.2.2.2.2.1
theorem dX3_init_27 : decode cX3_init 27 = .ok (.putfield 19, 3) := gdX3_init_0.2.2.2.2.2.2.2.2.2.2.2.2.2.1
theorem dX3_init_30 : decode cX3_init 30 = .ok (.aload_n 0, 1) := gdX3_init_0.2.2.2.2.2.2.2.2.2.2.2.2.2.2.1
theorem dX3_init_31 : decode cX3_init 31 = .ok (.bipush 13, 2) := gdX3_init_0.2.2.2.2.2.2.2.2.2.2.2.2.2.2.2
theorem gdX3_init_33 : (decode cX3_init 33 = .ok (.newarray .int, 2)) ∧ (decode cX3_init 35 = .ok (.putfield 22, 3)) ∧ (decode cX3_init 38 = .ok (.aload_n 0, 1)) ∧ (decode cX3_init 39 = .ok (.bipush 13, 2)) ∧ (decode cX3_init 41 = .ok (.newarray .long, 2)) ∧ (decode cX3_init 43 = .ok (.putfield 25, 3)) ∧ (decode cX3_init 46 = .ok (.aload_n 0, 1)) ∧ (decode cX3_init 47 = .ok (.iconst 0, 1)) ∧ (decode cX3_init 48 = .ok (.putfield 28, 3)) ∧ (decode cX3_init 51 = .ok (.aload_n 0, 1)) ∧ (decode cX3_init 52 = .ok (.iconst 0, 1)) ∧ (decode cX3_init 53 = .ok (.putfield 32, 3)) ∧ (decode cX3_init 56 = .ok (.return_, 1)) := by decide +kernel
theorem dX3_init_33 : decode cX3_init 33 = .ok (.newarray .int, 2) := gdX3_init_33.1
theorem dX3_init_35 : decode cX3_init 35 = .ok (.putfield 22, 3) := gdX3_init_33.2.1
theorem dX3_init_38 : decode cX3_init 38 = .ok (.aload_n 0, 1) := gdX3_init_33.2.2.1
theorem dX3_init_39 : decode cX3_init 39 = .ok (.bipush 13, 2) := gdX3_init_33.2.2.2.1
theorem dX3_init_41 : decode cX3_init 41 = .ok (.newarray .long, 2) := gdX3_init_33.2.2.2.2.1
theorem dX3_init_43 : decode cX3_init 43 = .ok (.putfield 25, 3) := gdX3_init_33.2.2.2.2.2.1
theorem dX3_init_46 : decode cX3_init 46 = .ok (.aload_n 0, 1) := gdX3_init_33.2.2.2.2.2.2.1
theorem dX3_init_47 : decode cX3_init 47 = .ok (.iconst 0, 1) := gdX3_init_33.2.2.2.2.2.2.2.1
theorem dX3_init_48 : decode cX3_init 48 = .ok (.putfield 28, 3) := gdX3_init_33.2.2.2.2.2.2.2.2.1
theorem dX3_init_51 : decode cX3_init 51 = .ok (.aload_n 0, 1) := gdX3_init_33.2.2.2.2.2.2.2.2.2.1
theorem dX3_init_52 : decode cX3_init 52 = .ok (.iconst 0, 1) := gdX3_init_33.2.2.2.2.2.2.2.2.2.2.1
theorem dX3_init_53 : decode cX3_init 53 = .ok (.putfield 32, 3) := gdX3_init_33.2.2.2.2.2.2.2.2.2.2.2.1
theorem dX3_init_56 : decode cX3_init 56 = .ok (.return_, 1) := gdX3_init_33.2.2.2.2.2.2.2.2.2.2.2.2
theorem gdX3_spread_0 : (decode cX3_spread 0 = .ok (.aload_n 0, 1)) ∧ (decode cX3_spread 1 = .ok (.iconst 0, 1)) ∧ (decode cX3_spread 2 = .ok (.putfield 28, 3)) ∧ (decode cX3_spread 5 = .ok (.iconst 0, 1)) ∧ (decode cX3_spread 6 = .ok (.istore 4, 2)) ∧ (decode cX3_spread 8 = .ok (.iload 4, 2)) ∧ (decode cX3_spread 10 = .ok (.iload_n 3, 1)) ∧ (decode cX3_spread 11 = .ok (.if_icmp .gt 135, 3)) ∧ (decode cX3_spread 14 = .ok (.iload 4, 2)) ∧ (decode cX3_spread 16 = .ok (.bipush 16, 2)) ∧ (decode cX3_spread 18 = .ok (.if_icmp .gt 128, 3)) ∧ (decode cX3_spread 21 = .ok (.iconst 0, 1)) ∧ (decode cX3_spread 22 = .ok (.istore 5, 2)) ∧ (decode cX3_spread 24 = .ok (.iload 5, 2)) ∧ (decode cX3_spread 26 = .ok (.aload_n 1, 1)) ∧ (decode cX3_spread 27 = .ok (.getfield 35, 3)) := by decide +kernel
theorem dX3_spread_0 : decode cX3_spread 0 = .ok (.aload_n 0, 1) := gdX3_spread_0.1
theorem dX3_spread_1 : decode cX3_spread 1 = .ok (.iconst 0, 1) := gdX3_spread_0.2.1
theorem dX3_spread_2 : decode cX3_spread 2 = .ok (.putfield 28, 3) := gdX3_spread_0.2.2.1
theorem dX3_spread_5 : decode cX3_spread 5 = .ok (.iconst 0, 1) := gdX3_spread_0.2.2.2.1
theorem dX3_spread_6 : decode cX3_spread 6 = .ok (.istore 4, 2) := gdX3_spread_0.2.2.2.2.1
theorem dX3_spread_8 : decode cX3_spread 8 = .ok (.iload 4, 2) := gdX3_spread_0.2.2.2.2.2.1
theorem dX3_spread_10 : decode cX3_spread 10 = .ok (.iload_n 3, 1) := gdX3_spread_0.2.2.2.2.2.2.1
theorem dX3_spread_11 : decode cX3_spread 11 = .ok (.if_icmp .gt 135, 3) := gdX3_spread_0.2.2.2.2.2.2.2.1
theorem dX3_spread_14 : decode cX3_spread 14 = .ok (.iload 4, 2) := gdX3_spread_0.2.2.2.2.2.2.2.2.1
theorem dX3_spread_16 : decode cX3_spread 16 = .ok (.bipush 16, 2) := gdX3_spread_0.2.2.2.2.2.2.2.2.2.1
theorem dX3_spread_18 : decode cX3_spread 18 = .ok (.if_icmp .gt 128, 3) := gdX3_spread_0.2.2.2.2.2.2.2.2.2.2.1
theorem dX3_spread_21 : decode cX3_spread 21 = .ok (.iconst 0, 1) := gdX3_spread_0.2.2.2.2.2.2.2.2.2.2.2.1
theorem dX3_spread_22 : decode cX3_spread 22 = .ok (.istore 5, 2) := gdX3_spread_0.2.2.2.2.2.2.2.2.2.2.2.2.1
theorem dX3_spread_24 : decode cX3_spread 24 = .ok (.iload 5, 2) := gdX3_spread_0.2.2.2.2.2.2.2.2.2.2.2.2.2.1
theorem dX3_spread_26 : decode cX3_spread 26 = .ok (.aload_n 1, 1) := gdX3_spread_0.2.2.2.2.2.2.2.2.2.2.2.2.2.2.1
theorem dX3_spread_27 : decode cX3_spread 27 = .ok (.getfield 35, 3) := gdX3_spread_0.2.2.2.2.2.2.2.2.2.2.2.2.2.2.2
theorem gdX3_spread_30 : (decode cX3_spread 30 = .ok (.if_icmp .ge 110, 3)) ∧ (decode cX3_spread 33 = .ok (.aload_n 0, 1)) ∧ (decode cX3_spread 34 = .ok (.getfield 28, 3)) ∧ (decode cX3_spread 37 = .ok (.istore 6, 2)) ∧ (decode cX3_spread 39 = .ok (.aload_n 0, 1)) ∧ (decode cX3_spread 40 = .ok (.getfield 15, 3)) ∧ (decode cX3_spread 43 = .ok (.iload 4, 2)) ∧ (decode cX3_spread 45 = .ok (.aload_n 1, 1)) ∧ (decode cX3_spread 46 = .ok (.getfield 35, 3)) ∧ (decode cX3_spread 49 = .ok (.imul, 1)) ∧ (decode cX3_spread 50 = .ok (.iload 5, 2)) ∧ (decode cX3_spread 52 = .ok (.iadd, 1)) ∧ (decode cX3_spread 53 = .ok (.iload 6, 2)) ∧ (decode cX3_spread 55 = .ok (.iastore, 1)) ∧ (decode cX3_spread 56 = .ok (.iload 4, 2)) ∧ (decode cX3_spread 58 = .ok (.ifCond .gt 23, 3)) := by decide +kernel
theorem dX3_spread_30 : decode cX3_spread 30 = .ok (.if_icmp .ge 110, 3) := gdX3_spread_30.1
theorem dX3_spread_33 : decode cX3_spread 33 = .ok (.aload_n 0, 1) := gdX3_spread_30.2.1
theorem dX3_spread_34 : decode cX3_spread 34 = .ok (.getfield 28, 3) := gdX3_spread_30.2.2.1
theorem dX3_spread_37 : decode cX3_spread 37 = .ok (.istore 6, 2) := gdX3_spread_30.2.2.2.1
theorem dX3_spread_39 : decode cX3_spread 39 = .ok (.aload_n 0, 1) := gdX3_spread_30.2.2.2.2.1
theorem dX3_spread_40 : decode cX3_spread 40 = .ok (.getfield 15, 3) := gdX3_spread_30.2.2.2.2.2.1
theorem dX3_spread_43 : decode cX3_spread 43 = .ok (.iload 4, 2) := gdX3_spread_30.2.2.2.2.2.2.1
theorem dX3_spread_45 : decode cX3_spread 45 = .ok (.aload_n 1, 1) := gdX3_spread_30.2.2.2.2.2.2.2.1
theorem dX3_spread_46 : decode cX3_spread 46 = .ok (.getfield 35, 3) := gdX3_spread_30.2.2.2.2.2.2.2.2.1
theorem dX3_spread_49 : decode cX3_spread 49 = .ok (.imul, 1) := gdX3_spread_30.2.2.2.2.2.2.2.2.2.1
theorem dX3_spread_50 : decode cX3_spread 50 = .ok (.iload 5, 2) := gdX3_spread_30.2.2.2.2.2.2.2.2.2.2.1
theorem dX3_spread_52 : decode cX3_spread 52 = .ok (.iadd, 1) := gdX3_spread_30.2.2.2.2.2.2.2.2.2.2.2.1
theorem dX3_spread_53 : decode cX3_spread 53 = .ok (.iload 6, 2) := gdX3_spread_30.2.2.2.2.2.2.2.2.2.2.2.2.1
theorem dX3_spread_55 : decode cX3_spread 55 = .ok (.iastore, 1) := gdX3_spread_30.2.2.2.2.2.2.2.2.2.2.2.2.2.1
theorem dX3_spread_56 : decode cX3_spread 56 = .ok (.iload 4, 2) := gdX3_spread_30.2.2.2.2.2.2.2.2.2.2.2.2.2.2.1
theorem dX3_spread_58 : decode cX3_spread 58 = .ok (.ifCond .gt 23, 3) := gdX3_spread_30.2.2.2.2.2.2.2.2.2.2.2.2.2.2.2
theorem gdX3_spread_61 : (decode cX3_spread 61 = .ok (.iload 5, 2)) ∧ (decode cX3_spread 63 = .ok (.iload_n 2, 1)) ∧ (decode cX3_spread 64 = .ok (.if_icmp .ne 17, 3)) ∧ (decode cX3_spread 67 = .ok (.aload_n 0, 1)) ∧ (decode cX3_spread 68 = .ok (.iload 6, 2)) ∧ (decode cX3_spread 70 = .ok (.lconst 0, 1)) ∧ (decode cX3_spread 71 = .ok (.iconst 0, 1)) ∧ (decode cX3_spread 72 = .ok (.invokestatic 40, 3)) ∧ (decode cX3_spread 75 = .ok (.invokevirtual 44, 3)) ∧ (decode cX3_spread 78 = .ok (.ifCond .eq 7, 3)) ∧ (decode cX3_spread 81 = .ok (.iconst 1, 1)) ∧ (decode cX3_spread 82 = .ok (.goto 4, 3)) ∧ (decode cX3_spread 85 = .ok (.iconst 0, 1)) ∧ (decode cX3_spread 86 = .ok (.istore 7, 2)) ∧ (decode cX3_spread 88 = .ok (.aload_n 0, 1)) ∧ (decode cX3_spread 89 = .ok (.aload_n 1, 1)) := by decide +kernel
theorem dX3_spread_61 : decode cX3_spread 61 = .ok (.iload 5, 2) := gdX3_spread_61.1
theorem dX3_spread_63 : decode cX3_spread 63 = .ok (.iload_n 2, 1) := gdX3_spread_61.2.1
theorem dX3_spread_64 : decode cX3_spread 64 = .ok (.if_icmp .ne 17, 3) := gdX3_spread_61.2.2.1
theorem dX3_spread_67 : decode cX3_spread 67 = .ok (.aload_n 0, 1) := gdX3_spread_61.2.2.2.1
theorem dX3_spread_68 : decode cX3_spread 68 = .ok (.iload 6, 2) := gdX3_spread_61.2.2.2.2.1
theorem dX3_spread_70 : decode cX3_spread 70 = .ok (.lconst 0, 1) := gdX3_spread_61.2.2.2.2.2.1
theorem dX3_spread_71 : decode cX3_spread 71 = .ok (.iconst 0, 1) := gdX3_spread_61.2.2.2.2.2.2.1
theorem dX3_spread_72 : decode cX3_spread 72 = .ok (.invokestatic 40, 3) := gdX3_spread_61.2.2.2.2.2.2.2.1
theorem dX3_spread_75 : decode cX3_spread 75 = .ok (.invokevirtual 44, 3) := gdX3_spread_61.2.2.2.2.2.2.2.2.1
theorem dX3_spread_78 : decode cX3_spread 78 = .ok (.ifCond .eq 7, 3) := gdX3_spread_61.2.2.2.2.2.2.2.2.2.1
theorem dX3_spread_81 : decode cX3_spread 81 = .ok (.iconst 1, 1) := gdX3_spread_61.2.2.2.2.2.2.2.2.2.2.1
theorem dX3_spread_82 : decode cX3_spread 82 = .ok (.goto 4, 3) := gdX3_spread_61.2.2.2.2.2.2.2.2.2.2.2.1
theorem dX3_spread_85 : decode cX3_spread 85 = .ok (.iconst 0, 1) := gdX3_spread_61.2.2.2.2.2.2.2.2.2.2.2.2.1
theorem dX3_spread_86 : decode cX3_spread 86 = .ok (.istore 7, 2) := gdX3_spread_61.2.2.2.2.2.2.2.2.2.2.2.2.2.1
theorem dX3_spread_88 : decode cX3_spread 88 = .ok (.aload_n 0, 1) := gdX3_spread_61.2.2.2.2.2.2.2.2.2.2.2.2.2.2.1
theorem dX3_spread_89 : decode cX3_spread 89 = .ok (.aload_n 1, 1) := gdX3_spread_61.2.2.2.2.2.2.2.2.2.2.2.2.2.2.2
theorem gdX3_spread_90 : (decode cX3_spread 90 = .ok (.iload 4, 2)) ∧ (decode cX3_spread 92 = .ok (.iload 5, 2)) ∧ (decode cX3_spread 94 = .ok (.invokevirtual 48, 3)) ∧ (decode cX3_spread 97 = .ok (.iload 7, 2)) ∧ (decode cX3_spread 99 = .ok (.ifCond .eq 12, 3)) ∧ (decode cX3_spread 102 = .ok (.aload_n 0, 1)) ∧ (decode cX3_spread 103 = .ok (.iload 6, 2)) ∧ (decode cX3_spread 105 = .ok (.invokevirtual 52, 3)) ∧ (decode cX3_spread 108 = .ok (.ifCond .ne 5, 3)) ∧ (decode cX3_spread 111 = .ok (.iconst 0, 1)) ∧ (decode cX3_spread 112 = .ok (.ireturn, 1)) ∧ (decode cX3_spread 113 = .ok (.aload_n 0, 1)) ∧ (decode cX3_spread 114 = .ok (.getfield 15, 3)) ∧ (decode cX3_spread 117 = .ok (.iload 4, 2)) ∧ (decode cX3_spread 119 = .ok (.aload_n 1, 1)) ∧ (decode cX3_spread 120 = .ok (.getfield 35, 3)) := by decide +kernel
theorem dX3_spread_90 : decode cX3_spread 90 = .ok (.iload 4, 2) := gdX3_spread_90.1
theorem dX3_spread_92 : decode cX3_spread 92 = .ok (.iload 5, 2) := gdX3_spread_90.2.1
theorem dX3_spread_94 : decode cX3_spread 94 = .ok (.invokevirtual 48, 3) := gdX3_spread_90.2.2.1
theorem dX3_spread_97 : decode cX3_spread 97 = .ok (.iload 7, 2) := gdX3_spread_90.2.2.2.1
theorem dX3_spread_99 : decode cX3_spread 99 = .ok (.ifCond .eq 12, 3) := gdX3_spread_90.2.2.2.2.1
theorem dX3_spread_102 : decode cX3_spread 102 = .ok (.aload_n 0, 1) := gdX3_spread_90.2.2.2.2.2.1
theorem dX3_spread_103 : decode cX3_spread 103 = .ok (.iload 6, 2) := gdX3_spread_90.2.2.2.2.2.2.1
theorem dX3_spread_105 : decode cX3_spread 105 = .ok (.invokevirtual 52, 3) := gdX3_spread_90.2.2.2.2.2.2.2.1
theorem dX3_spread_108 : decode cX3_spread 108 = .ok (.ifCond .ne 5, 3) := gdX3_spread_90.2.2.2.2.2.2.2.2.1
theorem dX3_spread_111 : decode cX3_spread 111 = .ok (.iconst 0, 1) := gdX3_spread_90.2.2.2.2.2.2.2.2.2.1
theorem dX3_spread_112 : decode cX3_spread 112 = .ok (.ireturn, 1) := gdX3_spread_90.2.2.2.2.2.2.2.2.2.2.1
theorem dX3_spread_113 : decode cX3_spread 113 = .ok (.aload_n 0, 1) := gdX3_spread_90.2.2.2.2.2.2.2.2.2.2.2.1
theorem dX3_spread_114 : decode cX3_spread 114 = .ok (.getfield 15, 3) := gdX3_spread_90.2.2.2.2.2.2.2.2.2.2.2.2.1
theorem dX3_spread_117 : decode cX3_spread 117 = .ok (.iload 4, 2) := gdX3_spread_90.2.2.2.2.2.2.2.2.2.2.2.2.2.1
theorem dX3_spread_119 : decode cX3_spread 119 = .ok (.aload_n 1, 1) := gdX3_spread_90.2.2.2.2.2.2.2.2.2.2.2.2.2.2.1
theorem dX3_spread_120 : decode cX3_spread 120 = .ok (.getfield 35, 3) := gdX3_spread_90.2.2.2.2.2.2.2.2.2.2.2.2.2.2.2
theorem gdX3_spread_123 : (decode cX3_spread 123 = .ok (.imul, 1)) ∧ (decode cX3_spread 124 = .ok (.iload 5, 2)) ∧ (decode cX3_spread 126 = .ok (.iadd, 1)) ∧ (decode cX3_spread 127 = .ok (.iconst 1, 1)) ∧ (decode cX3_spread 128 = .ok (.iadd, 1)) ∧ (decode cX3_spread 129 = .ok (.aload_n 0, 1)) ∧ (decode cX3_spread 130 = .ok (.getfield 28, 3)) ∧ (decode cX3_spread 133 = .ok (.iastore, 1)) ∧ (decode cX3_spread 134 = .ok (.iinc 5 1, 3)) ∧ (decode cX3_spread 137 = .ok (.goto (-113), 3)) ∧ (decode cX3_spread 140 = .ok (.iinc 4 1, 3)) ∧ (decode cX3_spread 143 = .ok (.goto (-135), 3)) ∧ (decode cX3_spread 146 = .ok (.iconst 1, 1)) ∧ (decode cX3_spread 147 = .ok (.ireturn, 1)) := by decide +kernel
theorem dX3_spread_123 : decode cX3_spread 123 = .ok (.imul, 1) := gdX3_spread_123.1
theorem dX3_spread_124 : decode cX3_spread 124 = .ok (.iload 5, 2) := gdX3_spread_123.2.1
theorem dX3_spread_126 : decode cX3_spread 126 = .ok (.iadd, 1) := gdX3_spread_123.2.2.1
theorem dX3_spread_127 : decode cX3_spread 127 = .ok (.iconst 1, 1) := gdX3_spread_123.2.2.2.1
theorem dX3_spread_128 : decode cX3_spread 128 = .ok (.iadd, 1) := gdX3_spread_123.2.2.2.2.1
theorem dX3_spread_129 : decode cX3_spread 129 = .ok (.aload_n 0, 1) := gdX3_spread_123.2.2.2.2.2.1
theorem dX3_spread_130 : decode cX3_spread 130 = .ok (.getfield 28, 3) := gdX3_spread_123.2.2.2.2.2.2.1
theorem dX3_spread_133 : decode cX3_spread 133 = .ok (.iastore, 1) := gdX3_spread_123.2.2.2.2.2.2.2.1
theorem dX3_spread_134 : decode cX3_spread 134 = .ok (.iinc 5 1, 3) := gdX3_spread_123.2.2.2.2.2.2.2.2.1
theorem dX3_spread_137 : decode cX3_spread 137 = .ok (.goto (-113), 3) := gdX3_spread_123.2.2.2.2.2.2.2.2.2.1
theorem dX3_spread_140 : decode cX3_spread 140 = .ok (.iinc 4 1, 3) := gdX3_spread_123.2.2.2.2.2.2.2.2.2.2.1
theorem dX3_spread_143 : decode cX3_spread 143 = .ok (.goto (-135), 3) := gdX3_spread_123.2.2.2.2.2.2.2.2.2.2.2.1
theorem dX3_spread_146 : decode cX3_spread 146 = .ok (.iconst 1, 1) := gdX3_spread_123.2.2.2.2.2.2.2.2.2.2.2.2.1
theorem dX3_spread_147 : decode cX3_spread 147 = .ok (.ireturn, 1) := gdX3_spread_123.2.2.2.2.2.2.2.2.2.2.2.2.2
theorem gdX3_stateOf_0 : (decode cX3_stateOf 0 = .ok (.lload_n 0, 1)) ∧ (decode cX3_stateOf 1 = .ok (.iconst 5, 1)) ∧ (decode cX3_stateOf 2 = .ok (.lshl, 1)) ∧ (decode cX3_stateOf 3 = .ok (.iload_n 2, 1)) ∧ (decode cX3_stateOf 4 = .ok (.i2l, 1)) ∧ (decode cX3_stateOf 5 = .ok (.lor, 1)) ∧ (decode cX3_stateOf 6 = .ok (.lreturn, 1)) := by decide +kernel
theorem dX3_stateOf_0 : decode cX3_stateOf 0 = .ok (.lload_n 0, 1) := gdX3_stateOf_0.1
theorem dX3_stateOf_1 : decode cX3_stateOf 1 = .ok (.iconst 5, 1) := gdX3_stateOf_0.2.1
theorem dX3_stateOf_2 : decode cX3_stateOf 2 = .ok (.lshl, 1) := gdX3_stateOf_0.2.2.1
theorem dX3_stateOf_3 : decode cX3_stateOf 3 = .ok (.iload_n 2, 1) := gdX3_stateOf_0.2.2.2.1
theorem dX3_stateOf_4 : decode cX3_stateOf 4 = .ok (.i2l, 1) := gdX3_stateOf_0.2.2.2.2.1
theorem dX3_stateOf_5 : decode cX3_stateOf 5 = .ok (.lor, 1) := gdX3_stateOf_0.2.2.2.2.2.1
theorem dX3_stateOf_6 : decode cX3_stateOf 6 = .ok (.lreturn, 1) := gdX3_stateOf_0.2.2.2.2.2.2
theorem gdX3_ageOf_0 : (decode cX3_ageOf 0 = .ok (.lload_n 0, 1)) ∧ (decode cX3_ageOf 1 = .ok (.iconst 5, 1)) ∧ (decode cX3_ageOf 2 = .ok (.lshr, 1)) ∧ (decode cX3_ageOf 3 = .ok (.lreturn, 1)) := by decide +kernel
theorem dX3_ageOf_0 : decode cX3_ageOf 0 = .ok (.lload_n 0, 1) := gdX3_ageOf_0.1
theorem dX3_ageOf_1 : decode cX3_ageOf 1 = .ok (.iconst 5, 1) := gdX3_ageOf_0.2.1
theorem dX3_ageOf_2 : decode cX3_ageOf 2 = .ok (.lshr, 1) := gdX3_ageOf_0.2.2.1
theorem dX3_ageOf_3 : decode cX3_ageOf 3 = .ok (.lreturn, 1) := gdX3_ageOf_0.2.2.2
theorem gdX3_carriedOf_0 : (decode cX3_carriedOf 0 = .ok (.lload_n 0, 1)) ∧ (decode cX3_carriedOf 1 = .ok (.ldc2_w 56, 3)) ∧ (decode cX3_carriedOf 4 = .ok (.land, 1)) ∧ (decode cX3_carriedOf 5 = .ok (.l2i, 1)) ∧ (decode cX3_carriedOf 6 = .ok (.ireturn, 1)) := by decide +kernel
theorem dX3_carriedOf_0 : decode cX3_carriedOf 0 = .ok (.lload_n 0, 1) := gdX3_carriedOf_0.1
theorem dX3_carriedOf_1 : decode cX3_carriedOf 1 = .ok (.ldc2_w 56, 3) := gdX3_carriedOf_0.2.1
theorem dX3_carriedOf_4 : decode cX3_carriedOf 4 = .ok (.land, 1) := gdX3_carriedOf_0.2.2.1
theorem dX3_carriedOf_5 : decode cX3_carriedOf 5 = .ok (.l2i, 1) := gdX3_carriedOf_0.2.2.2.1
theorem dX3_carriedOf_6 : decode cX3_carriedOf 6 = .ok (.ireturn, 1) := gdX3_carriedOf_0.2.2.2.2
theorem gdX3_gatherSources_0 : (decode cX3_gatherSources 0 = .ok (.aload_n 0, 1)) ∧ (decode cX3_gatherSources 1 = .ok (.iconst 0, 1)) ∧ (decode cX3_gatherSources 2 = .ok (.putfield 32, 3)) ∧ (decode cX3_gatherSources 5 = .ok (.iload_n 2, 1)) ∧ (decode cX3_gatherSources 6 = .ok (.iconst 1, 1)) ∧ (decode cX3_gatherSources 7 = .ok (.if_icmp .lt 27, 3)) ∧ (decode cX3_gatherSources 10 = .ok (.aload_n 0, 1)) ∧ (decode cX3_gatherSources 11 = .ok (.iload_n 2, 1)) ∧ (decode cX3_gatherSources 12 = .ok (.iconst 1, 1)) ∧ (decode cX3_gatherSources 13 = .ok (.isub, 1)) ∧ (decode cX3_gatherSources 14 = .ok (.aload_n 1, 1)) ∧ (decode cX3_gatherSources 15 = .ok (.getfield 35, 3)) ∧ (decode cX3_gatherSources 18 = .ok (.imul, 1)) ∧ (decode cX3_gatherSources 19 = .ok (.iload_n 3, 1)) ∧ (decode cX3_gatherSources 20 = .ok (.iadd, 1)) ∧ (decode cX3_gatherSources 21 = .ok (.aload_n 1, 1)) := by decide +kernel
theorem dX3_gatherSources_0 : decode cX3_gatherSources 0 = .ok (.aload_n 0, 1) := gdX3_gatherSources_0.1
theorem dX3_gatherSources_1 : decode cX3_gatherSources 1 = .ok (.iconst 0, 1) := gdX3_gatherSources_0.2.1
theorem dX3_gatherSources_2 : decode cX3_gatherSources 2 = .ok (.putfield 32, 3) := gdX3_gatherSources_0.2.2.1
theorem dX3_gatherSources_5 : decode cX3_gatherSources 5 = .ok (.iload_n 2, 1) := gdX3_gatherSources_0.2.2.2.1
theorem dX3_gatherSources_6 : decode cX3_gatherSources 6 = .ok (.iconst 1, 1) := gdX3_gatherSources_0.2.2.2.2.1
theorem dX3_gatherSources_7 : decode cX3_gatherSources 7 = .ok (.if_icmp .lt 27, 3) := gdX3_gatherSources_0.2.2.2.2.2.1
theorem dX3_gatherSources_10 : decode cX3_gatherSources 10 = .ok (.aload_n 0, 1) := gdX3_gatherSources_0.2.2.2.2.2.2.1
theorem dX3_gatherSources_11 : decode cX3_gatherSources 11 = .ok (.iload_n 2, 1) := gdX3_gatherSources_0.2.2.2.2.2.2.2.1
theorem dX3_gatherSources_12 : decode cX3_gatherSources 12 = .ok (.iconst 1, 1) := gdX3_gatherSources_0.2.2.2.2.2.2.2.2.1
theorem dX3_gatherSources_13 : decode cX3_gatherSources 13 = .ok (.isub, 1) := gdX3_gatherSources_0.2.2.2.2.2.2.2.2.2.1
theorem dX3_gatherSources_14 : decode cX3_gatherSources 14 = .ok (.aload_n 1, 1) := gdX3_gatherSources_0.2.2.2.2.2.2.2.2.2.2.1
theorem dX3_gatherSources_15 : decode cX3_gatherSources 15 = .ok (.getfield 35, 3) := gdX3_gatherSources_0.2.2.2.2.2.2.2.2.2.2.2.1
theorem dX3_gatherSources_18 : decode cX3_gatherSources 18 = .ok (.imul, 1) := gdX3_gatherSources_0.2.2.2.2.2.2.2.2.2.2.2.2.1
theorem dX3_gatherSources_19 : decode cX3_gatherSources 19 = .ok (.iload_n 3, 1) := gdX3_gatherSources_0.2.2.2.2.2.2.2.2.2.2.2.2.2.1
theorem dX3_gatherSources_20 : decode cX3_gatherSources 20 = .ok (.iadd, 1) := gdX3_gatherSources_0.2.2.2.2.2.2.2.2.2.2.2.2.2.2.1
theorem dX3_gatherSources_21 : decode cX3_gatherSources 21 = .ok (.aload_n 1, 1) := gdX3_gatherSources_0.2.2.2.2.2.2.2.2.2.2.2.2.2.2.2
theorem gdX3_gatherSources_22 : (decode cX3_gatherSources 22 = .ok (.getfield 58, 3)) ∧ (decode cX3_gatherSources 25 = .ok (.iload_n 3, 1)) ∧ (decode cX3_gatherSources 26 = .ok (.laload, 1)) ∧ (decode cX3_gatherSources 27 = .ok (.iconst 0, 1)) ∧ (decode cX3_gatherSources 28 = .ok (.invokestatic 40, 3)) ∧ (decode cX3_gatherSources 31 = .ok (.invokevirtual 61, 3)) ∧ (decode cX3_gatherSources 34 = .ok (.iconst 0, 1)) ∧ (decode cX3_gatherSources 35 = .ok (.istore 4, 2)) ∧ (decode cX3_gatherSources 37 = .ok (.iload 4, 2)) ∧ (decode cX3_gatherSources 39 = .ok (.aload_n 1, 1)) ∧ (decode cX3_gatherSources 40 = .ok (.getfield 65, 3)) ∧ (decode cX3_gatherSources 43 = .ok (.if_icmp .ge 70, 3)) ∧ (decode cX3_gatherSources 46 = .ok (.aload_n 1, 1)) ∧ (decode cX3_gatherSources 47 = .ok (.iload 4, 2)) ∧ (decode cX3_gatherSources 49 = .ok (.iload_n 3, 1)) ∧ (decode cX3_gatherSources 50 = .ok (.invokevirtual 68, 3)) := by decide +kernel
theorem dX3_gatherSources_22 : decode cX3_gatherSources 22 = .ok (.getfield 58, 3) := gdX3_gatherSources_22.1
theorem dX3_gatherSources_25 : decode cX3_gatherSources 25 = .ok (.iload_n 3, 1) := gdX3_gatherSources_22.2.1
theorem dX3_gatherSources_26 : decode cX3_gatherSources 26 = .ok (.laload, 1) := gdX3_gatherSources_22.2.2.1
theorem dX3_gatherSources_27 : decode cX3_gatherSources 27 = .ok (.iconst 0, 1) := gdX3_gatherSources_22.2.2.2.1
theorem dX3_gatherSources_28 : decode cX3_gatherSources 28 = .ok (.invokestatic 40, 3) := gdX3_gatherSources_22.2.2.2.2.1
theorem dX3_gatherSources_31 : decode cX3_gatherSources 31 = .ok (.invokevirtual 61, 3) := gdX3_gatherSources_22.2.2.2.2.2.1
theorem dX3_gatherSources_34 : decode cX3_gatherSources 34 = .ok (.iconst 0, 1) := gdX3_gatherSources_22.2.2.2.2.2.2.1
theorem dX3_gatherSources_35 : decode cX3_gatherSources 35 = .ok (.istore 4, 2) := gdX3_gatherSources_22.2.2.2.2.2.2.2.1
theorem dX3_gatherSources_37 : decode cX3_gatherSources 37 = .ok (.iload 4, 2) := gdX3_gatherSources_22.2.2.2.2.2.2.2.2.1
theorem dX3_gatherSources_39 : decode cX3_gatherSources 39 = .ok (.aload_n 1, 1) := gdX3_gatherSources_22.2.2.2.2.2.2.2.2.2.1
theorem dX3_gatherSources_40 : decode cX3_gatherSources 40 = .ok (.getfield 65, 3) := gdX3_gatherSources_22.2.2.2.2.2.2.2.2.2.2.1
theorem dX3_gatherSources_43 : decode cX3_gatherSources 43 = .ok (.if_icmp .ge 70, 3) := gdX3_gatherSources_22.2.2.2.2.2.2.2.2.2.2.2.1
theorem dX3_gatherSources_46 : decode cX3_gatherSources 46 = .ok (.aload_n 1, 1) := gdX3_gatherSources_22.2.2.2.2.2.2.2.2.2.2.2.2.1
theorem dX3_gatherSources_47 : decode cX3_gatherSources 47 = .ok (.iload 4, 2) := gdX3_gatherSources_22.2.2.2.2.2.2.2.2.2.2.2.2.2.1
theorem dX3_gatherSources_49 : decode cX3_gatherSources 49 = .ok (.iload_n 3, 1) := gdX3_gatherSources_22.2.2.2.2.2.2.2.2.2.2.2.2.2.2.1
theorem dX3_gatherSources_50 : decode cX3_gatherSources 50 = .ok (.invokevirtual 68, 3) := gdX3_gatherSources_22.2.2.2.2.2.2.2.2.2.2.2.2.2.2.2
theorem gdX3_gatherSources_53 : (decode cX3_gatherSources 53 = .ok (.istore 5, 2)) ∧ (decode cX3_gatherSources 55 = .ok (.aload_n 1, 1)) ∧ (decode cX3_gatherSources 56 = .ok (.getfield 72, 3)) ∧ (decode cX3_gatherSources 59 = .ok (.iload 4, 2)) ∧ (decode cX3_gatherSources 61 = .ok (.iaload, 1)) ∧ (decode cX3_gatherSources 62 = .ok (.istore 6, 2)) ∧ (decode cX3_gatherSources 64 = .ok (.iload 5, 2)) ∧ (decode cX3_gatherSources 66 = .ok (.ifCond .lt 41, 3)) ∧ (decode cX3_gatherSources 69 = .ok (.iload 6, 2)) ∧ (decode cX3_gatherSources 71 = .ok (.iload_n 2, 1)) ∧ (decode cX3_gatherSources 72 = .ok (.if_icmp .gt 35, 3)) ∧ (decode cX3_gatherSources 75 = .ok (.aload_n 0, 1)) ∧ (decode cX3_gatherSources 76 = .ok (.iload_n 2, 1)) ∧ (decode cX3_gatherSources 77 = .ok (.iload 6, 2)) ∧ (decode cX3_gatherSources 79 = .ok (.isub, 1)) ∧ (decode cX3_gatherSources 80 = .ok (.aload_n 1, 1)) := by decide +kernel
theorem dX3_gatherSources_53 : decode cX3_gatherSources 53 = .ok (.istore 5, 2) := gdX3_gatherSources_53.1
theorem dX3_gatherSources_55 : decode cX3_gatherSources 55 = .ok (.aload_n 1, 1) := gdX3_gatherSources_53.2.1
theorem dX3_gatherSources_56 : decode cX3_gatherSources 56 = .ok (.getfield 72, 3) := gdX3_gatherSources_53.2.2.1
theorem dX3_gatherSources_59 : decode cX3_gatherSources 59 = .ok (.iload 4, 2) := gdX3_gatherSources_53.2.2.2.1
theorem dX3_gatherSources_61 : decode cX3_gatherSources 61 = .ok (.iaload, 1) := gdX3_gatherSources_53.2.2.2.2.1
theorem dX3_gatherSources_62 : decode cX3_gatherSources 62 = .ok (.istore 6, 2) := gdX3_gatherSources_53.2.2.2.2.2.1
theorem dX3_gatherSources_64 : decode cX3_gatherSources 64 = .ok (.iload 5, 2) := gdX3_gatherSources_53.2.2.2.2.2.2.1
theorem dX3_gatherSources_66 : decode cX3_gatherSources 66 = .ok (.ifCond .lt 41, 3) := gdX3_gatherSources_53.2.2.2.2.2.2.2.1
theorem dX3_gatherSources_69 : decode cX3_gatherSources 69 = .ok (.iload 6, 2) := gdX3_gatherSources_53.2.2.2.2.2.2.2.2.1
theorem dX3_gatherSources_71 : decode cX3_gatherSources 71 = .ok (.iload_n 2, 1) := gdX3_gatherSources_53.2.2.2.2.2.2.2.2.2.1
theorem dX3_gatherSources_72 : decode cX3_gatherSources 72 = .ok (.if_icmp .gt 35, 3) := gdX3_gatherSources_53.2.2.2.2.2.2.2.2.2.2.1
theorem dX3_gatherSources_75 : decode cX3_gatherSources 75 = .ok (.aload_n 0, 1) := gdX3_gatherSources_53.2.2.2.2.2.2.2.2.2.2.2.1
theorem dX3_gatherSources_76 : decode cX3_gatherSources 76 = .ok (.iload_n 2, 1) := gdX3_gatherSources_53.2.2.2.2.2.2.2.2.2.2.2.2.1
theorem dX3_gatherSources_77 : decode cX3_gatherSources 77 = .ok (.iload 6, 2) := gdX3_gatherSources_53.2.2.2.2.2.2.2.2.2.2.2.2.2.1
theorem dX3_gatherSources_79 : decode cX3_gatherSources 79 = .ok (.isub, 1) := gdX3_gatherSources_53.2.2.2.2.2.2.2.2.2.2.2.2.2.2.1
theorem dX3_gatherSources_80 : decode cX3_gatherSources 80 = .ok (.aload_n 1, 1) := gdX3_gatherSources_53.2.2.2.2.2.2.2.2.2.2.2.2.2.2.2
theorem gdX3_gatherSources_81 : (decode cX3_gatherSources 81 = .ok (.getfield 35, 3)) ∧ (decode cX3_gatherSources 84 = .ok (.imul, 1)) ∧ (decode cX3_gatherSources 85 = .ok (.iload 5, 2)) ∧ (decode cX3_gatherSources 87 = .ok (.iadd, 1)) ∧ (decode cX3_gatherSources 88 = .ok (.iload 6, 2)) ∧ (decode cX3_gatherSources 90 = .ok (.i2l, 1)) ∧ (decode cX3_gatherSources 91 = .ok (.aload_n 1, 1)) ∧ (decode cX3_gatherSources 92 = .ok (.getfield 75, 3)) ∧ (decode cX3_gatherSources 95 = .ok (.iload 4, 2)) ∧ (decode cX3_gatherSources 97 = .ok (.laload, 1)) ∧ (decode cX3_gatherSources 98 = .ok (.lmul, 1)) ∧ (decode cX3_gatherSources 99 = .ok (.iload 6, 2)) ∧ (decode cX3_gatherSources 101 = .ok (.invokestatic 40, 3)) ∧ (decode cX3_gatherSources 104 = .ok (.invokevirtual 61, 3)) ∧ (decode cX3_gatherSources 107 = .ok (.iinc 4 1, 3)) ∧ (decode cX3_gatherSources 110 = .ok (.goto (-73), 3)) := by decide +kernel
theorem dX3_gatherSources_81 : decode cX3_gatherSources 81 = .ok (.getfield 35, 3) := gdX3_gatherSources_81.1
theorem dX3_gatherSources_84 : decode cX3_gatherSources 84 = .ok (.imul, 1) := gdX3_gatherSources_81.2.1
theorem dX3_gatherSources_85 : decode cX3_gatherSources 85 = .ok (.iload 5, 2) := gdX3_gatherSources_81.2.2.1
theorem dX3_gatherSources_87 : decode cX3_gatherSources 87 = .ok (.iadd, 1) := gdX3_gatherSources_81.2.2.2.1
theorem dX3_gatherSources_88 : decode cX3_gatherSources 88 = .ok (.iload 6, 2) := gdX3_gatherSources_81.2.2.2.2.1
theorem dX3_gatherSources_90 : decode cX3_gatherSources 90 = .ok (.i2l, 1) := gdX3_gatherSources_81.2.2.2.2.2.1
theorem dX3_gatherSources_91 : decode cX3_gatherSources 91 = .ok (.aload_n 1, 1) := gdX3_gatherSources_81.2.2.2.2.2.2.1
theorem dX3_gatherSources_92 : decode cX3_gatherSources 92 = .ok (.getfield 75, 3) := gdX3_gatherSources_81.2.2.2.2.2.2.2.1
theorem dX3_gatherSources_95 : decode cX3_gatherSources 95 = .ok (.iload 4, 2) := gdX3_gatherSources_81.2.2.2.2.2.2.2.2.1
theorem dX3_gatherSources_97 : decode cX3_gatherSources 97 = .ok (.laload, 1) := gdX3_gatherSources_81.2.2.2.2.2.2.2.2.2.1
theorem dX3_gatherSources_98 : decode cX3_gatherSources 98 = .ok (.lmul, 1) := gdX3_gatherSources_81.2.2.2.2.2.2.2.2.2.2.1
theorem dX3_gatherSources_99 : decode cX3_gatherSources 99 = .ok (.iload 6, 2) := gdX3_gatherSources_81.2.2.2.2.2.2.2.2.2.2.2.1
theorem dX3_gatherSources_101 : decode cX3_gatherSources 101 = .ok (.invokestatic 40, 3) := gdX3_gatherSources_81.2.2.2.2.2.2.2.2.2.2.2.2.1
theorem dX3_gatherSources_104 : decode cX3_gatherSources 104 = .ok (.invokevirtual 61, 3) := gdX3_gatherSources_81.2.2.2.2.2.2.2.2.2.2.2.2.2.1
theorem dX3_gatherSources_107 : decode cX3_gatherSources 107 = .ok (.iinc 4 1, 3) := gdX3_gatherSources_81.2.2.2.2.2.2.2.2.2.2.2.2.2.2.1
theorem dX3_gatherSources_110 : decode cX3_gatherSources 110 = .ok (.goto (-73), 3) := gdX3_gatherSources_81.2.2.2.2.2.2.2.2.2.2.2.2.2.2.2
theorem dX3_gatherSources_113 : decode cX3_gatherSources 113 = .ok (.return_, 1) := by decide +kernel
theorem gdX3_addSource_0 : (decode cX3_addSource 0 = .ok (.aload_n 0, 1)) ∧ (decode cX3_addSource 1 = .ok (.getfield 32, 3)) ∧ (decode cX3_addSource 4 = .ok (.bipush 13, 2)) ∧ (decode cX3_addSource 6 = .ok (.if_icmp .ge 72, 3)) ∧ (decode cX3_addSource 9 = .ok (.aload_n 0, 1)) ∧ (decode cX3_addSource 10 = .ok (.getfield 15, 3)) ∧ (decode cX3_addSource 13 = .ok (.iload_n 1, 1)) ∧ (decode cX3_addSource 14 = .ok (.iaload, 1)) ∧ (decode cX3_addSource 15 = .ok (.aload_n 0, 1)) ∧ (decode cX3_addSource 16 = .ok (.getfield 15, 3)) ∧ (decode cX3_addSource 19 = .ok (.iload_n 1, 1)) ∧ (decode cX3_addSource 20 = .ok (.iconst 1, 1)) ∧ (decode cX3_addSource 21 = .ok (.iadd, 1)) ∧ (decode cX3_addSource 22 = .ok (.iaload, 1)) ∧ (decode cX3_addSource 23 = .ok (.if_icmp .ge 55, 3)) ∧ (decode cX3_addSource 26 = .ok (.aload_n 0, 1)) := by decide +kernel
theorem dX3_addSource_0 : decode cX3_addSource 0 = .ok (.aload_n 0, 1) := gdX3_addSource_0.1
theorem dX3_addSource_1 : decode cX3_addSource 1 = .ok (.getfield 32, 3) := gdX3_addSource_0.2.1
theorem dX3_addSource_4 : decode cX3_addSource 4 = .ok (.bipush 13, 2) := gdX3_addSource_0.2.2.1
theorem dX3_addSource_6 : decode cX3_addSource 6 = .ok (.if_icmp .ge 72, 3) := gdX3_addSource_0.2.2.2.1
theorem dX3_addSource_9 : decode cX3_addSource 9 = .ok (.aload_n 0, 1) := gdX3_addSource_0.2.2.2.2.1
theorem dX3_addSource_10 : decode cX3_addSource 10 = .ok (.getfield 15, 3) := gdX3_addSource_0.2.2.2.2.2.1
theorem dX3_addSource_13 : decode cX3_addSource 13 = .ok (.iload_n 1, 1) := gdX3_addSource_0.2.2.2.2.2.2.1
theorem dX3_addSource_14 : decode cX3_addSource 14 = .ok (.iaload, 1) := gdX3_addSource_0.2.2.2.2.2.2.2.1
theorem dX3_addSource_15 : decode cX3_addSource 15 = .ok (.aload_n 0, 1) := gdX3_addSource_0.2.2.2.2.2.2.2.2.1
theorem dX3_addSource_16 : decode cX3_addSource 16 = .ok (.getfield 15, 3) := gdX3_addSource_0.2.2.2.2.2.2.2.2.2.1
theorem dX3_addSource_19 : decode cX3_addSource 19 = .ok (.iload_n 1, 1) := gdX3_addSource_0.2.2.2.2.2.2.2.2.2.2.1
theorem dX3_addSource_20 : decode cX3_addSource 20 = .ok (.iconst 1, 1) := gdX3_addSource_0.2.2.2.2.2.2.2.2.2.2.2.1
theorem dX3_addSource_21 : decode cX3_addSource 21 = .ok (.iadd, 1) := gdX3_addSource_0.2.2.2.2.2.2.2.2.2.2.2.2.1
theorem dX3_addSource_22 : decode cX3_addSource 22 = .ok (.iaload, 1) := gdX3_addSource_0.2.2.2.2.2.2.2.2.2.2.2.2.2.1
theorem dX3_addSource_23 : decode cX3_addSource 23 = .ok (.if_icmp .ge 55, 3) := gdX3_addSource_0.2.2.2.2.2.2.2.2.2.2.2.2.2.2.1
theorem dX3_addSource_26 : decode cX3_addSource 26 = .ok (.aload_n 0, 1) := gdX3_addSource_0.2.2.2.2.2.2.2.2.2.2.2.2.2.2.2
theorem gdX3_addSource_27 : (decode cX3_addSource 27 = .ok (.getfield 19, 3)) ∧ (decode cX3_addSource 30 = .ok (.aload_n 0, 1)) ∧ (decode cX3_addSource 31 = .ok (.getfield 32, 3)) ∧ (decode cX3_addSource 34 = .ok (.aload_n 0, 1)) ∧ (decode cX3_addSource 35 = .ok (.getfield 15, 3)) ∧ (decode cX3_addSource 38 = .ok (.iload_n 1, 1)) ∧ (decode cX3_addSource 39 = .ok (.iaload, 1)) ∧ (decode cX3_addSource 40 = .ok (.iastore, 1)) ∧ (decode cX3_addSource 41 = .ok (.aload_n 0, 1)) ∧ (decode cX3_addSource 42 = .ok (.getfield 22, 3)) ∧ (decode cX3_addSource 45 = .ok (.aload_n 0, 1)) ∧ (decode cX3_addSource 46 = .ok (.getfield 32, 3)) ∧ (decode cX3_addSource 49 = .ok (.aload_n 0, 1)) ∧ (decode cX3_addSource 50 = .ok (.getfield 15, 3)) ∧ (decode cX3_addSource 53 = .ok (.iload_n 1, 1)) ∧ (decode cX3_addSource 54 = .ok (.iconst 1, 1)) := by decide +kernel
theorem dX3_addSource_27 : decode cX3_addSource 27 = .ok (.getfield 19, 3) := gdX3_addSource_27.1
theorem dX3_addSource_30 : decode cX3_addSource 30 = .ok (.aload_n 0, 1) := gdX3_addSource_27.2.1
theorem dX3_addSource_31 : decode cX3_addSource 31 = .ok (.getfield 32, 3) := gdX3_addSource_27.2.2.1
theorem dX3_addSource_34 : decode cX3_addSource 34 = .ok (.aload_n 0, 1) := gdX3_addSource_27.2.2.2.1
theorem dX3_addSource_35 : decode cX3_addSource 35 = .ok (.getfield 15, 3) := gdX3_addSource_27.2.2.2.2.1
theorem dX3_addSource_38 : decode cX3_addSource 38 = .ok (.iload_n 1, 1) := gdX3_addSource_27.2.2.2.2.2.1
theorem dX3_addSource_39 : decode cX3_addSource 39 = .ok (.iaload, 1) := gdX3_addSource_27.2.2.2.2.2.2.1
theorem dX3_addSource_40 : decode cX3_addSource 40 = .ok (.iastore, 1) := gdX3_addSource_27.2.2.2.2.2.2.2.1
theorem dX3_addSource_41 : decode cX3_addSource 41 = .ok (.aload_n 0, 1) := gdX3_addSource_27.2.2.2.2.2.2.2.2.1
theorem dX3_addSource_42 : decode cX3_addSource 42 = .ok (.getfield 22, 3) := gdX3_addSource_27.2.2.2.2.2.2.2.2.2.1
theorem dX3_addSource_45 : decode cX3_addSource 45 = .ok (.aload_n 0, 1) := gdX3_addSource_27.2.2.2.2.2.2.2.2.2.2.1
theorem dX3_addSource_46 : decode cX3_addSource 46 = .ok (.getfield 32, 3) := gdX3_addSource_27.2.2.2.2.2.2.2.2.2.2.2.1
theorem dX3_addSource_49 : decode cX3_addSource 49 = .ok (.aload_n 0, 1) := gdX3_addSource_27.2.2.2.2.2.2.2.2.2.2.2.2.1
theorem dX3_addSource_50 : decode cX3_addSource 50 = .ok (.getfield 15, 3) := gdX3_addSource_27.2.2.2.2.2.2.2.2.2.2.2.2.2.1
theorem dX3_addSource_53 : decode cX3_addSource 53 = .ok (.iload_n 1, 1) := gdX3_addSource_27.2.2.2.2.2.2.2.2.2.2.2.2.2.2.1
theorem dX3_addSource_54 : decode cX3_addSource 54 = .ok (.iconst 1, 1) := gdX3_addSource_27.2.2.2.2.2.2.2.2.2.2.2.2.2.2.2
theorem gdX3_addSource_55 : (decode cX3_addSource 55 = .ok (.iadd, 1)) ∧ (decode cX3_addSource 56 = .ok (.iaload, 1)) ∧ (decode cX3_addSource 57 = .ok (.iastore, 1)) ∧ (decode cX3_addSource 58 = .ok (.aload_n 0, 1)) ∧ (decode cX3_addSource 59 = .ok (.getfield 25, 3)) ∧ (decode cX3_addSource 62 = .ok (.aload_n 0, 1)) ∧ (decode cX3_addSource 63 = .ok (.getfield 32, 3)) ∧ (decode cX3_addSource 66 = .ok (.lload_n 2, 1)) ∧ (decode cX3_addSource 67 = .ok (.lastore, 1)) ∧ (decode cX3_addSource 68 = .ok (.aload_n 0, 1)) ∧ (decode cX3_addSource 69 = .ok (.dup, 1)) ∧ (decode cX3_addSource 70 = .ok (.getfield 32, 3)) ∧ (decode cX3_addSource 73 = .ok (.iconst 1, 1)) ∧ (decode cX3_addSource 74 = .ok (.iadd, 1)) ∧ (decode cX3_addSource 75 = .ok (.putfield 32, 3)) ∧ (decode cX3_addSource 78 = .ok (.return_, 1)) := by decide +kernel
theorem dX3_addSource_55 : decode cX3_addSource 55 = .ok (.iadd, 1) := gdX3_addSource_55.1
theorem dX3_addSource_56 : decode cX3_addSource 56 = .ok (.iaload, 1) := gdX3_addSource_55.2.1
theorem dX3_addSource_57 : decode cX3_addSource 57 = .ok (.iastore, 1) := gdX3_addSource_55.2.2.1
theorem dX3_addSource_58 : decode cX3_addSource 58 = .ok (.aload_n 0, 1) := gdX3_addSource_55.2.2.2.1
theorem dX3_addSource_59 : decode cX3_addSource 59 = .ok (.getfield 25, 3) := gdX3_addSource_55.2.2.2.2.1
theorem dX3_addSource_62 : decode cX3_addSource 62 = .ok (.aload_n 0, 1) := gdX3_addSource_55.2.2.2.2.2.1
theorem dX3_addSource_63 : decode cX3_addSource 63 = .ok (.getfield 32, 3) := gdX3_addSource_55.2.2.2.2.2.2.1
theorem dX3_addSource_66 : decode cX3_addSource 66 = .ok (.lload_n 2, 1) := gdX3_addSource_55.2.2.2.2.2.2.2.1
theorem dX3_addSource_67 : decode cX3_addSource 67 = .ok (.lastore, 1) := gdX3_addSource_55.2.2.2.2.2.2.2.2.1
theorem dX3_addSource_68 : decode cX3_addSource 68 = .ok (.aload_n 0, 1) := gdX3_addSource_55.2.2.2.2.2.2.2.2.2.1
theorem dX3_addSource_69 : decode cX3_addSource 69 = .ok (.dup, 1) := gdX3_addSource_55.2.2.2.2.2.2.2.2.2.2.1
theorem dX3_addSource_70 : decode cX3_addSource 70 = .ok (.getfield 32, 3) := gdX3_addSource_55.2.2.2.2.2.2.2.2.2.2.2.1
theorem dX3_addSource_73 : decode cX3_addSource 73 = .ok (.iconst 1, 1) := gdX3_addSource_55.2.2.2.2.2.2.2.2.2.2.2.2.1
theorem dX3_addSource_74 : decode cX3_addSource 74 = .ok (.iadd, 1) := gdX3_addSource_55.2.2.2.2.2.2.2.2.2.2.2.2.2.1
theorem dX3_addSource_75 : decode cX3_addSource 75 = .ok (.putfield 32, 3) := gdX3_addSource_55.2.2.2.2.2.2.2.2.2.2.2.2.2.2.1
theorem dX3_addSource_78 : decode cX3_addSource 78 = .ok (.return_, 1) := gdX3_addSource_55.2.2.2.2.2.2.2.2.2.2.2.2.2.2.2
theorem gdX3_merge_0 : (decode cX3_merge 0 = .ok (.iconst 0, 1)) ∧ (decode cX3_merge 1 = .ok (.istore_n 2, 1)) ∧ (decode cX3_merge 2 = .ok (.iload_n 2, 1)) ∧ (decode cX3_merge 3 = .ok (.ldc 78, 2)) ∧ (decode cX3_merge 5 = .ok (.if_icmp .gt 62, 3)) ∧ (decode cX3_merge 8 = .ok (.aload_n 0, 1)) ∧ (decode cX3_merge 9 = .ok (.invokevirtual 79, 3)) ∧ (decode cX3_merge 12 = .ok (.istore_n 3, 1)) ∧ (decode cX3_merge 13 = .ok (.iload_n 3, 1)) ∧ (decode cX3_merge 14 = .ok (.ifCond .ge 5, 3)) ∧ (decode cX3_merge 17 = .ok (.iconst 1, 1)) ∧ (decode cX3_merge 18 = .ok (.ireturn, 1)) ∧ (decode cX3_merge 19 = .ok (.aload_n 0, 1)) ∧ (decode cX3_merge 20 = .ok (.getfield 19, 3)) ∧ (decode cX3_merge 23 = .ok (.iload_n 3, 1)) ∧ (decode cX3_merge 24 = .ok (.iaload, 1)) := by decide +kernel
theorem dX3_merge_0 : decode cX3_merge 0 = .ok (.iconst 0, 1) := gdX3_merge_0.1
theorem dX3_merge_1 : decode cX3_merge 1 = .ok (.istore_n 2, 1) := gdX3_merge_0.2.1
theorem dX3_merge_2 : decode cX3_merge 2 = .ok (.iload_n 2, 1) := gdX3_merge_0.2.2.1
theorem dX3_merge_3 : decode cX3_merge 3 = .ok (.ldc 78, 2) := gdX3_merge_0.2.2.2.1
theorem dX3_merge_5 : decode cX3_merge 5 = .ok (.if_icmp .gt 62, 3) := gdX3_merge_0.2.2.2.2.1
theorem dX3_merge_8 : decode cX3_merge 8 = .ok (.aload_n 0, 1) := gdX3_merge_0.2.2.2.2.2.1
theorem dX3_merge_9 : decode cX3_merge 9 = .ok (.invokevirtual 79, 3) := gdX3_merge_0.2.2.2.2.2.2.1
theorem dX3_merge_12 : decode cX3_merge 12 = .ok (.istore_n 3, 1) := gdX3_merge_0.2.2.2.2.2.2.2.1
theorem dX3_merge_13 : decode cX3_merge 13 = .ok (.iload_n 3, 1) := gdX3_merge_0.2.2.2.2.2.2.2.2.1
theorem dX3_merge_14 : decode cX3_merge 14 = .ok (.ifCond .ge 5, 3) := gdX3_merge_0.2.2.2.2.2.2.2.2.2.1
theorem dX3_merge_17 : decode cX3_merge 17 = .ok (.iconst 1, 1) := gdX3_merge_0.2.2.2.2.2.2.2.2.2.2.1
theorem dX3_merge_18 : decode cX3_merge 18 = .ok (.ireturn, 1) := gdX3_merge_0.2.2.2.2.2.2.2.2.2.2.2.1
theorem dX3_merge_19 : decode cX3_merge 19 = .ok (.aload_n 0, 1) := gdX3_merge_0.2.2.2.2.2.2.2.2.2.2.2.2.1
theorem dX3_merge_20 : decode cX3_merge 20 = .ok (.getfield 19, 3) := gdX3_merge_0.2.2.2.2.2.2.2.2.2.2.2.2.2.1
theorem dX3_merge_23 : decode cX3_merge 23 = .ok (.iload_n 3, 1) := gdX3_merge_0.2.2.2.2.2.2.2.2.2.2.2.2.2.2.1
theorem dX3_merge_24 : decode cX3_merge 24 = .ok (.iaload, 1) := gdX3_merge_0.2.2.2.2.2.2.2.2.2.2.2.2.2.2.2
theorem gdX3_merge_25 : (decode cX3_merge 25 = .ok (.istore 4, 2)) ∧ (decode cX3_merge 27 = .ok (.aload_n 0, 1)) ∧ (decode cX3_merge 28 = .ok (.getfield 19, 3)) ∧ (decode cX3_merge 31 = .ok (.iload_n 3, 1)) ∧ (decode cX3_merge 32 = .ok (.dup2, 1)) ∧ (decode cX3_merge 33 = .ok (.iaload, 1)) ∧ (decode cX3_merge 34 = .ok (.iconst 1, 1)) ∧ (decode cX3_merge 35 = .ok (.iadd, 1)) ∧ (decode cX3_merge 36 = .ok (.iastore, 1)) ∧ (decode cX3_merge 37 = .ok (.aload_n 0, 1)) ∧ (decode cX3_merge 38 = .ok (.iload_n 1, 1)) ∧ (decode cX3_merge 39 = .ok (.aload_n 0, 1)) ∧ (decode cX3_merge 40 = .ok (.getfield 9, 3)) ∧ (decode cX3_merge 43 = .ok (.iload 4, 2)) ∧ (decode cX3_merge 45 = .ok (.laload, 1)) ∧ (decode cX3_merge 46 = .ok (.aload_n 0, 1)) := by decide +kernel
theorem dX3_merge_25 : decode cX3_merge 25 = .ok (.istore 4, 2) := gdX3_merge_25.1
theorem dX3_merge_27 : decode cX3_merge 27 = .ok (.aload_n 0, 1) := gdX3_merge_25.2.1
theorem dX3_merge_28 : decode cX3_merge 28 = .ok (.getfield 19, 3) := gdX3_merge_25.2.2.1
theorem dX3_merge_31 : decode cX3_merge 31 = .ok (.iload_n 3, 1) := gdX3_merge_25.2.2.2.1
theorem dX3_merge_32 : decode cX3_merge 32 = .ok (.dup2, 1) := gdX3_merge_25.2.2.2.2.1
theorem dX3_merge_33 : decode cX3_merge 33 = .ok (.iaload, 1) := gdX3_merge_25.2.2.2.2.2.1
theorem dX3_merge_34 : decode cX3_merge 34 = .ok (.iconst 1, 1) := gdX3_merge_25.2.2.2.2.2.2.1
theorem dX3_merge_35 : decode cX3_merge 35 = .ok (.iadd, 1) := gdX3_merge_25.2.2.2.2.2.2.2.1
theorem dX3_merge_36 : decode cX3_merge 36 = .ok (.iastore, 1) := gdX3_merge_25.2.2.2.2.2.2.2.2.1
theorem dX3_merge_37 : decode cX3_merge 37 = .ok (.aload_n 0, 1) := gdX3_merge_25.2.2.2.2.2.2.2.2.2.1
theorem dX3_merge_38 : decode cX3_merge 38 = .ok (.iload_n 1, 1) := gdX3_merge_25.2.2.2.2.2.2.2.2.2.2.1
theorem dX3_merge_39 : decode cX3_merge 39 = .ok (.aload_n 0, 1) := gdX3_merge_25.2.2.2.2.2.2.2.2.2.2.2.1
theorem dX3_merge_40 : decode cX3_merge 40 = .ok (.getfield 9, 3) := gdX3_merge_25.2.2.2.2.2.2.2.2.2.2.2.2.1
theorem dX3_merge_43 : decode cX3_merge 43 = .ok (.iload 4, 2) := gdX3_merge_25.2.2.2.2.2.2.2.2.2.2.2.2.2.1
theorem dX3_merge_45 : decode cX3_merge 45 = .ok (.laload, 1) := gdX3_merge_25.2.2.2.2.2.2.2.2.2.2.2.2.2.2.1
theorem dX3_merge_46 : decode cX3_merge 46 = .ok (.aload_n 0, 1) := gdX3_merge_25.2.2.2.2.2.2.2.2.2.2.2.2.2.2.2
theorem gdX3_merge_47 : (decode cX3_merge 47 = .ok (.getfield 25, 3)) ∧ (decode cX3_merge 50 = .ok (.iload_n 3, 1)) ∧ (decode cX3_merge 51 = .ok (.laload, 1)) ∧ (decode cX3_merge 52 = .ok (.ladd, 1)) ∧ (decode cX3_merge 53 = .ok (.invokevirtual 44, 3)) ∧ (decode cX3_merge 56 = .ok (.ifCond .ne 5, 3)) ∧ (decode cX3_merge 59 = .ok (.iconst 0, 1)) ∧ (decode cX3_merge 60 = .ok (.ireturn, 1)) ∧ (decode cX3_merge 61 = .ok (.iinc 2 1, 3)) ∧ (decode cX3_merge 64 = .ok (.goto (-62), 3)) ∧ (decode cX3_merge 67 = .ok (.iconst 0, 1)) ∧ (decode cX3_merge 68 = .ok (.ireturn, 1)) := by decide +kernel
theorem dX3_merge_47 : decode cX3_merge 47 = .ok (.getfield 25, 3) := gdX3_merge_47.1
theorem dX3_merge_50 : decode cX3_merge 50 = .ok (.iload_n 3, 1) := gdX3_merge_47.2.1
theorem dX3_merge_51 : decode cX3_merge 51 = .ok (.laload, 1) := gdX3_merge_47.2.2.1
theorem dX3_merge_52 : decode cX3_merge 52 = .ok (.ladd, 1) := gdX3_merge_47.2.2.2.1
theorem dX3_merge_53 : decode cX3_merge 53 = .ok (.invokevirtual 44, 3) := gdX3_merge_47.2.2.2.2.1
theorem dX3_merge_56 : decode cX3_merge 56 = .ok (.ifCond .ne 5, 3) := gdX3_merge_47.2.2.2.2.2.1
theorem dX3_merge_59 : decode cX3_merge 59 = .ok (.iconst 0, 1) := gdX3_merge_47.2.2.2.2.2.2.1
theorem dX3_merge_60 : decode cX3_merge 60 = .ok (.ireturn, 1) := gdX3_merge_47.2.2.2.2.2.2.2.1
theorem dX3_merge_61 : decode cX3_merge 61 = .ok (.iinc 2 1, 3) := gdX3_merge_47.2.2.2.2.2.2.2.2.1
theorem dX3_merge_64 : decode cX3_merge 64 = .ok (.goto (-62), 3) := gdX3_merge_47.2.2.2.2.2.2.2.2.2.1
theorem dX3_merge_67 : decode cX3_merge 67 = .ok (.iconst 0, 1) := gdX3_merge_47.2.2.2.2.2.2.2.2.2.2.1
theorem dX3_merge_68 : decode cX3_merge 68 = .ok (.ireturn, 1) := gdX3_merge_47.2.2.2.2.2.2.2.2.2.2.2
theorem gdX3_leastSource_0 : (decode cX3_leastSource 0 = .ok (.iconst (-1), 1)) ∧ (decode cX3_leastSource 1 = .ok (.istore_n 1, 1)) ∧ (decode cX3_leastSource 2 = .ok (.lconst 0, 1)) ∧ (decode cX3_leastSource 3 = .ok (.lstore_n 2, 1)) ∧ (decode cX3_leastSource 4 = .ok (.iconst 0, 1)) ∧ (decode cX3_leastSource 5 = .ok (.istore 4, 2)) ∧ (decode cX3_leastSource 7 = .ok (.iload 4, 2)) ∧ (decode cX3_leastSource 9 = .ok (.aload_n 0, 1)) ∧ (decode cX3_leastSource 10 = .ok (.getfield 32, 3)) ∧ (decode cX3_leastSource 13 = .ok (.if_icmp .ge 68, 3)) ∧ (decode cX3_leastSource 16 = .ok (.aload_n 0, 1)) ∧ (decode cX3_leastSource 17 = .ok (.getfield 19, 3)) ∧ (decode cX3_leastSource 20 = .ok (.iload 4, 2)) ∧ (decode cX3_leastSource 22 = .ok (.iaload, 1)) ∧ (decode cX3_leastSource 23 = .ok (.aload_n 0, 1)) ∧ (decode cX3_leastSource 24 = .ok (.getfield 22, 3)) := by decide +kernel
theorem dX3_leastSource_0 : decode cX3_leastSource 0 = .ok (.iconst (-1), 1) := gdX3_leastSource_0.1
theorem dX3_leastSource_1 : decode cX3_leastSource 1 = .ok (.istore_n 1, 1) := gdX3_leastSource_0.2.1
theorem dX3_leastSource_2 : decode cX3_leastSource 2 = .ok (.lconst 0, 1) := gdX3_leastSource_0.2.2.1
theorem dX3_leastSource_3 : decode cX3_leastSource 3 = .ok (.lstore_n 2, 1) := gdX3_leastSource_0.2.2.2.1
theorem dX3_leastSource_4 : decode cX3_leastSource 4 = .ok (.iconst 0, 1) := gdX3_leastSource_0.2.2.2.2.1
theorem dX3_leastSource_5 : decode cX3_leastSource 5 = .ok (.istore 4, 2) := gdX3_leastSource_0.2.2.2.2.2.1
theorem dX3_leastSource_7 : decode cX3_leastSource 7 = .ok (.iload 4, 2) := gdX3_leastSource_0.2.2.2.2.2.2.1
theorem dX3_leastSource_9 : decode cX3_leastSource 9 = .ok (.aload_n 0, 1) := gdX3_leastSource_0.2.2.2.2.2.2.2.1
theorem dX3_leastSource_10 : decode cX3_leastSource 10 = .ok (.getfield 32, 3) := gdX3_leastSource_0.2.2.2.2.2.2.2.2.1
theorem dX3_leastSource_13 : decode cX3_leastSource 13 = .ok (.if_icmp .ge 68, 3) := gdX3_leastSource_0.2.2.2.2.2.2.2.2.2.1
theorem dX3_leastSource_16 : decode cX3_leastSource 16 = .ok (.aload_n 0, 1) := gdX3_leastSource_0.2.2.2.2.2.2.2.2.2.2.1
theorem dX3_leastSource_17 : decode cX3_leastSource 17 = .ok (.getfield 19, 3) := gdX3_leastSource_0.2.2.2.2.2.2.2.2.2.2.2.1
theorem dX3_leastSource_20 : decode cX3_leastSource 20 = .ok (.iload 4, 2) := gdX3_leastSource_0.2.2.2.2.2.2.2.2.2.2.2.2.1
theorem dX3_leastSource_22 : decode cX3_leastSource 22 = .ok (.iaload, 1) := gdX3_leastSource_0.2.2.2.2.2.2.2.2.2.2.2.2.2.1
theorem dX3_leastSource_23 : decode cX3_leastSource 23 = .ok (.aload_n 0, 1) := gdX3_leastSource_0.2.2.2.2.2.2.2.2.2.2.2.2.2.2.1
theorem dX3_leastSource_24 : decode cX3_leastSource 24 = .ok (.getfield 22, 3) := gdX3_leastSource_0.2.2.2.2.2.2.2.2.2.2.2.2.2.2.2
theorem gdX3_leastSource_27 : (decode cX3_leastSource 27 = .ok (.iload 4, 2)) ∧ (decode cX3_leastSource 29 = .ok (.iaload, 1)) ∧ (decode cX3_leastSource 30 = .ok (.if_icmp .lt 6, 3)) ∧ (decode cX3_leastSource 33 = .ok (.goto 42, 3)) ∧ (decode cX3_leastSource 36 = .ok (.aload_n 0, 1)) ∧ (decode cX3_leastSource 37 = .ok (.getfield 9, 3)) ∧ (decode cX3_leastSource 40 = .ok (.aload_n 0, 1)) ∧ (decode cX3_leastSource 41 = .ok (.getfield 19, 3)) ∧ (decode cX3_leastSource 44 = .ok (.iload 4, 2)) ∧ (decode cX3_leastSource 46 = .ok (.iaload, 1)) ∧ (decode cX3_leastSource 47 = .ok (.laload, 1)) ∧ (decode cX3_leastSource 48 = .ok (.aload_n 0, 1)) ∧ (decode cX3_leastSource 49 = .ok (.getfield 25, 3)) ∧ (decode cX3_leastSource 52 = .ok (.iload 4, 2)) ∧ (decode cX3_leastSource 54 = .ok (.laload, 1)) ∧ (decode cX3_leastSource 55 = .ok (.ladd, 1)) := by decide +kernel
theorem dX3_leastSource_27 : decode cX3_leastSource 27 = .ok (.iload 4, 2) := gdX3_leastSource_27.1
theorem dX3_leastSource_29 : decode cX3_leastSource 29 = .ok (.iaload, 1) := gdX3_leastSource_27.2.1
theorem dX3_leastSource_30 : decode cX3_leastSource 30 = .ok (.if_icmp .lt 6, 3) := gdX3_leastSource_27.2.2.1
theorem dX3_leastSource_33 : decode cX3_leastSource 33 = .ok (.goto 42, 3) := gdX3_leastSource_27.2.2.2.1
theorem dX3_leastSource_36 : decode cX3_leastSource 36 = .ok (.aload_n 0, 1) := gdX3_leastSource_27.2.2.2.2.1
theorem dX3_leastSource_37 : decode cX3_leastSource 37 = .ok (.getfield 9, 3) := gdX3_leastSource_27.2.2.2.2.2.1
theorem dX3_leastSource_40 : decode cX3_leastSource 40 = .ok (.aload_n 0, 1) := gdX3_leastSource_27.2.2.2.2.2.2.1
theorem dX3_leastSource_41 : decode cX3_leastSource 41 = .ok (.getfield 19, 3) := gdX3_leastSource_27.2.2.2.2.2.2.2.1
theorem dX3_leastSource_44 : decode cX3_leastSource 44 = .ok (.iload 4, 2) := gdX3_leastSource_27.2.2.2.2.2.2.2.2.1
theorem dX3_leastSource_46 : decode cX3_leastSource 46 = .ok (.iaload, 1) := gdX3_leastSource_27.2.2.2.2.2.2.2.2.2.1
theorem dX3_leastSource_47 : decode cX3_leastSource 47 = .ok (.laload, 1) := gdX3_leastSource_27.2.2.2.2.2.2.2.2.2.2.1
theorem dX3_leastSource_48 : decode cX3_leastSource 48 = .ok (.aload_n 0, 1) := gdX3_leastSource_27.2.2.2.2.2.2.2.2.2.2.2.1
theorem dX3_leastSource_49 : decode cX3_leastSource 49 = .ok (.getfield 25, 3) := gdX3_leastSource_27.2.2.2.2.2.2.2.2.2.2.2.2.1
theorem dX3_leastSource_52 : decode cX3_leastSource 52 = .ok (.iload 4, 2) := gdX3_leastSource_27.2.2.2.2.2.2.2.2.2.2.2.2.2.1
theorem dX3_leastSource_54 : decode cX3_leastSource 54 = .ok (.laload, 1) := gdX3_leastSource_27.2.2.2.2.2.2.2.2.2.2.2.2.2.2.1
theorem dX3_leastSource_55 : decode cX3_leastSource 55 = .ok (.ladd, 1) := gdX3_leastSource_27.2.2.2.2.2.2.2.2.2.2.2.2.2.2.2
theorem gdX3_leastSource_56 : (decode cX3_leastSource 56 = .ok (.lstore 5, 2)) ∧ (decode cX3_leastSource 58 = .ok (.iload_n 1, 1)) ∧ (decode cX3_leastSource 59 = .ok (.ifCond .lt 10, 3)) ∧ (decode cX3_leastSource 62 = .ok (.lload 5, 2)) ∧ (decode cX3_leastSource 64 = .ok (.lload_n 2, 1)) ∧ (decode cX3_leastSource 65 = .ok (.lcmp, 1)) ∧ (decode cX3_leastSource 66 = .ok (.ifCond .ge 9, 3)) ∧ (decode cX3_leastSource 69 = .ok (.iload 4, 2)) ∧ (decode cX3_leastSource 71 = .ok (.istore_n 1, 1)) ∧ (decode cX3_leastSource 72 = .ok (.lload 5, 2)) ∧ (decode cX3_leastSource 74 = .ok (.lstore_n 2, 1)) ∧ (decode cX3_leastSource 75 = .ok (.iinc 4 1, 3)) ∧ (decode cX3_leastSource 78 = .ok (.goto (-71), 3)) ∧ (decode cX3_leastSource 81 = .ok (.iload_n 1, 1)) ∧ (decode cX3_leastSource 82 = .ok (.ireturn, 1)) := by decide +kernel
theorem dX3_leastSource_56 : decode cX3_leastSource 56 = .ok (.lstore 5, 2) := gdX3_leastSource_56.1
theorem dX3_leastSource_58 : decode cX3_leastSource 58 = .ok (.iload_n 1, 1) := gdX3_leastSource_56.2.1
theorem dX3_leastSource_59 : decode cX3_leastSource 59 = .ok (.ifCond .lt 10, 3) := gdX3_leastSource_56.2.2.1
theorem dX3_leastSource_62 : decode cX3_leastSource 62 = .ok (.lload 5, 2) := gdX3_leastSource_56.2.2.2.1
theorem dX3_leastSource_64 : decode cX3_leastSource 64 = .ok (.lload_n 2, 1) := gdX3_leastSource_56.2.2.2.2.1
theorem dX3_leastSource_65 : decode cX3_leastSource 65 = .ok (.lcmp, 1) := gdX3_leastSource_56.2.2.2.2.2.1
theorem dX3_leastSource_66 : decode cX3_leastSource 66 = .ok (.ifCond .ge 9, 3) := gdX3_leastSource_56.2.2.2.2.2.2.1
theorem dX3_leastSource_69 : decode cX3_leastSource 69 = .ok (.iload 4, 2) := gdX3_leastSource_56.2.2.2.2.2.2.2.1
theorem dX3_leastSource_71 : decode cX3_leastSource 71 = .ok (.istore_n 1, 1) := gdX3_leastSource_56.2.2.2.2.2.2.2.2.1
theorem dX3_leastSource_72 : decode cX3_leastSource 72 = .ok (.lload 5, 2) := gdX3_leastSource_56.2.2.2.2.2.2.2.2.2.1
theorem dX3_leastSource_74 : decode cX3_leastSource 74 = .ok (.lstore_n 2, 1) := gdX3_leastSource_56.2.2.2.2.2.2.2.2.2.2.1
theorem dX3_leastSource_75 : decode cX3_leastSource 75 = .ok (.iinc 4 1, 3) := gdX3_leastSource_56.2.2.2.2.2.2.2.2.2.2.2.1
theorem dX3_leastSource_78 : decode cX3_leastSource 78 = .ok (.goto (-71), 3) := gdX3_leastSource_56.2.2.2.2.2.2.2.2.2.2.2.2.1
theorem dX3_leastSource_81 : decode cX3_leastSource 81 = .ok (.iload_n 1, 1) := gdX3_leastSource_56.2.2.2.2.2.2.2.2.2.2.2.2.2.1
theorem dX3_leastSource_82 : decode cX3_leastSource 82 = .ok (.ireturn, 1) := gdX3_leastSource_56.2.2.2.2.2.2.2.2.2.2.2.2.2.2
theorem gdX3_keep_0 : (decode cX3_keep 0 = .ok (.aload_n 0, 1)) ∧ (decode cX3_keep 1 = .ok (.getfield 28, 3)) ∧ (decode cX3_keep 4 = .ok (.iload_n 1, 1)) ∧ (decode cX3_keep 5 = .ok (.if_icmp .le 27, 3)) ∧ (decode cX3_keep 8 = .ok (.aload_n 0, 1)) ∧ (decode cX3_keep 9 = .ok (.getfield 9, 3)) ∧ (decode cX3_keep 12 = .ok (.aload_n 0, 1)) ∧ (decode cX3_keep 13 = .ok (.getfield 28, 3)) ∧ (decode cX3_keep 16 = .ok (.iconst 1, 1)) ∧ (decode cX3_keep 17 = .ok (.isub, 1)) ∧ (decode cX3_keep 18 = .ok (.laload, 1)) ∧ (decode cX3_keep 19 = .ok (.invokestatic 83, 3)) ∧ (decode cX3_keep 22 = .ok (.lload_n 2, 1)) ∧ (decode cX3_keep 23 = .ok (.invokestatic 83, 3)) ∧ (decode cX3_keep 26 = .ok (.lcmp, 1)) ∧ (decode cX3_keep 27 = .ok (.ifCond .ne 5, 3)) := by decide +kernel
theorem dX3_keep_0 : decode cX3_keep 0 = .ok (.aload_n 0, 1) := gdX3_keep_0.1
theorem dX3_keep_1 : decode cX3_keep 1 = .ok (.getfield 28, 3) := gdX3_keep_0.2.1
theorem dX3_keep_4 : decode cX3_keep 4 = .ok (.iload_n 1, 1) := gdX3_keep_0.2.2.1
theorem dX3_keep_5 : decode cX3_keep 5 = .ok (.if_icmp .le 27, 3) := gdX3_keep_0.2.2.2.1
theorem dX3_keep_8 : decode cX3_keep 8 = .ok (.aload_n 0, 1) := gdX3_keep_0.2.2.2.2.1
theorem dX3_keep_9 : decode cX3_keep 9 = .ok (.getfield 9, 3) := gdX3_keep_0.2.2.2.2.2.1
theorem dX3_keep_12 : decode cX3_keep 12 = .ok (.aload_n 0, 1) := gdX3_keep_0.2.2.2.2.2.2.1
theorem dX3_keep_13 : decode cX3_keep 13 = .ok (.getfield 28, 3) := gdX3_keep_0.2.2.2.2.2.2.2.1
theorem dX3_keep_16 : decode cX3_keep 16 = .ok (.iconst 1, 1) := gdX3_keep_0.2.2.2.2.2.2.2.2.1
theorem dX3_keep_17 : decode cX3_keep 17 = .ok (.isub, 1) := gdX3_keep_0.2.2.2.2.2.2.2.2.2.1
theorem dX3_keep_18 : decode cX3_keep 18 = .ok (.laload, 1) := gdX3_keep_0.2.2.2.2.2.2.2.2.2.2.1
theorem dX3_keep_19 : decode cX3_keep 19 = .ok (.invokestatic 83, 3) := gdX3_keep_0.2.2.2.2.2.2.2.2.2.2.2.1
theorem dX3_keep_22 : decode cX3_keep 22 = .ok (.lload_n 2, 1) := gdX3_keep_0.2.2.2.2.2.2.2.2.2.2.2.2.1
theorem dX3_keep_23 : decode cX3_keep 23 = .ok (.invokestatic 83, 3) := gdX3_keep_0.2.2.2.2.2.2.2.2.2.2.2.2.2.1
theorem dX3_keep_26 : decode cX3_keep 26 = .ok (.lcmp, 1) := gdX3_keep_0.2.2.2.2.2.2.2.2.2.2.2.2.2.2.1
theorem dX3_keep_27 : decode cX3_keep 27 = .ok (.ifCond .ne 5, 3) := gdX3_keep_0.2.2.2.2.2.2.2.2.2.2.2.2.2.2.2
theorem gdX3_keep_30 : (decode cX3_keep 30 = .ok (.iconst 1, 1)) ∧ (decode cX3_keep 31 = .ok (.ireturn, 1)) ∧ (decode cX3_keep 32 = .ok (.aload_n 0, 1)) ∧ (decode cX3_keep 33 = .ok (.getfield 28, 3)) ∧ (decode cX3_keep 36 = .ok (.sipush 4000, 3)) ∧ (decode cX3_keep 39 = .ok (.if_icmp .lt 5, 3)) ∧ (decode cX3_keep 42 = .ok (.iconst 0, 1)) ∧ (decode cX3_keep 43 = .ok (.ireturn, 1)) ∧ (decode cX3_keep 44 = .ok (.aload_n 0, 1)) ∧ (decode cX3_keep 45 = .ok (.getfield 9, 3)) ∧ (decode cX3_keep 48 = .ok (.aload_n 0, 1)) ∧ (decode cX3_keep 49 = .ok (.getfield 28, 3)) ∧ (decode cX3_keep 52 = .ok (.lload_n 2, 1)) ∧ (decode cX3_keep 53 = .ok (.lastore, 1)) ∧ (decode cX3_keep 54 = .ok (.aload_n 0, 1)) ∧ (decode cX3_keep 55 = .ok (.dup, 1)) := by decide +kernel
theorem dX3_keep_30 : decode cX3_keep 30 = .ok (.iconst 1, 1) := gdX3_keep_30.1
theorem dX3_keep_31 : decode cX3_keep 31 = .ok (.ireturn, 1) := gdX3_keep_30.2.1
theorem dX3_keep_32 : decode cX3_keep 32 = .ok (.aload_n 0, 1) := gdX3_keep_30.2.2.1
theorem dX3_keep_33 : decode cX3_keep 33 = .ok (.getfield 28, 3) := gdX3_keep_30.2.2.2.1
theorem dX3_keep_36 : decode cX3_keep 36 = .ok (.sipush 4000, 3) := gdX3_keep_30.2.2.2.2.1
theorem dX3_keep_39 : decode cX3_keep 39 = .ok (.if_icmp .lt 5, 3) := gdX3_keep_30.2.2.2.2.2.1
theorem dX3_keep_42 : decode cX3_keep 42 = .ok (.iconst 0, 1) := gdX3_keep_30.2.2.2.2.2.2.1
theorem dX3_keep_43 : decode cX3_keep 43 = .ok (.ireturn, 1) := gdX3_keep_30.2.2.2.2.2.2.2.1
theorem dX3_keep_44 : decode cX3_keep 44 = .ok (.aload_n 0, 1) := gdX3_keep_30.2.2.2.2.2.2.2.2.1
theorem dX3_keep_45 : decode cX3_keep 45 = .ok (.getfield 9, 3) := gdX3_keep_30.2.2.2.2.2.2.2.2.2.1
theorem dX3_keep_48 : decode cX3_keep 48 = .ok (.aload_n 0, 1) := gdX3_keep_30.2.2.2.2.2.2.2.2.2.2.1
theorem dX3_keep_49 : decode cX3_keep 49 = .ok (.getfield 28, 3) := gdX3_keep_30.2.2.2.2.2.2.2.2.2.2.2.1
theorem dX3_keep_52 : decode cX3_keep 52 = .ok (.lload_n 2, 1) := gdX3_keep_30.2.2.2.2.2.2.2.2.2.2.2.2.1
theorem dX3_keep_53 : decode cX3_keep 53 = .ok (.lastore, 1) := gdX3_keep_30.2.2.2.2.2.2.2.2.2.2.2.2.2.1
theorem dX3_keep_54 : decode cX3_keep 54 = .ok (.aload_n 0, 1) := gdX3_keep_30.2.2.2.2.2.2.2.2.2.2.2.2.2.2.1
theorem dX3_keep_55 : decode cX3_keep 55 = .ok (.dup, 1) := gdX3_keep_30.2.2.2.2.2.2.2.2.2.2.2.2.2.2.2
theorem gdX3_keep_56 : (decode cX3_keep 56 = .ok (.getfield 28, 3)) ∧ (decode cX3_keep 59 = .ok (.iconst 1, 1)) ∧ (decode cX3_keep 60 = .ok (.iadd, 1)) ∧ (decode cX3_keep 61 = .ok (.putfield 28, 3)) ∧ (decode cX3_keep 64 = .ok (.iconst 1, 1)) ∧ (decode cX3_keep 65 = .ok (.ireturn, 1)) := by decide +kernel
theorem dX3_keep_56 : decode cX3_keep 56 = .ok (.getfield 28, 3) := gdX3_keep_56.1
theorem dX3_keep_59 : decode cX3_keep 59 = .ok (.iconst 1, 1) := gdX3_keep_56.2.1
theorem dX3_keep_60 : decode cX3_keep 60 = .ok (.iadd, 1) := gdX3_keep_56.2.2.1
theorem dX3_keep_61 : decode cX3_keep 61 = .ok (.putfield 28, 3) := gdX3_keep_56.2.2.2.1
theorem dX3_keep_64 : decode cX3_keep 64 = .ok (.iconst 1, 1) := gdX3_keep_56.2.2.2.2.1
theorem dX3_keep_65 : decode cX3_keep 65 = .ok (.ireturn, 1) := gdX3_keep_56.2.2.2.2.2
theorem gdX3_leastCarried_0 : (decode cX3_leastCarried 0 = .ok (.bipush (-2), 2)) ∧ (decode cX3_leastCarried 2 = .ok (.istore 8, 2)) ∧ (decode cX3_leastCarried 4 = .ok (.iload_n 3, 1)) ∧ (decode cX3_leastCarried 5 = .ok (.aload_n 1, 1)) ∧ (decode cX3_leastCarried 6 = .ok (.getfield 35, 3)) ∧ (decode cX3_leastCarried 9 = .ok (.imul, 1)) ∧ (decode cX3_leastCarried 10 = .ok (.iload_n 2, 1)) ∧ (decode cX3_leastCarried 11 = .ok (.iadd, 1)) ∧ (decode cX3_leastCarried 12 = .ok (.istore 9, 2)) ∧ (decode cX3_leastCarried 14 = .ok (.aload_n 0, 1)) ∧ (decode cX3_leastCarried 15 = .ok (.getfield 15, 3)) ∧ (decode cX3_leastCarried 18 = .ok (.iload 9, 2)) ∧ (decode cX3_leastCarried 20 = .ok (.iaload, 1)) ∧ (decode cX3_leastCarried 21 = .ok (.istore 10, 2)) ∧ (decode cX3_leastCarried 23 = .ok (.iload 10, 2)) ∧ (decode cX3_leastCarried 25 = .ok (.aload_n 0, 1)) := by decide +kernel
theorem dX3_leastCarried_0 : decode cX3_leastCarried 0 = .ok (.bipush (-2), 2) := gdX3_leastCarried_0.1
theorem dX3_leastCarried_2 : decode cX3_leastCarried 2 = .ok (.istore 8, 2) := gdX3_leastCarried_0.2.1
theorem dX3_leastCarried_4 : decode cX3_leastCarried 4 = .ok (.iload_n 3, 1) := gdX3_leastCarried_0.2.2.1
theorem dX3_leastCarried_5 : decode cX3_leastCarried 5 = .ok (.aload_n 1, 1) := gdX3_leastCarried_0.2.2.2.1
theorem dX3_leastCarried_6 : decode cX3_leastCarried 6 = .ok (.getfield 35, 3) := gdX3_leastCarried_0.2.2.2.2.1
theorem dX3_leastCarried_9 : decode cX3_leastCarried 9 = .ok (.imul, 1) := gdX3_leastCarried_0.2.2.2.2.2.1
theorem dX3_leastCarried_10 : decode cX3_leastCarried 10 = .ok (.iload_n 2, 1) := gdX3_leastCarried_0.2.2.2.2.2.2.1
theorem dX3_leastCarried_11 : decode cX3_leastCarried 11 = .ok (.iadd, 1) := gdX3_leastCarried_0.2.2.2.2.2.2.2.1
theorem dX3_leastCarried_12 : decode cX3_leastCarried 12 = .ok (.istore 9, 2) := gdX3_leastCarried_0.2.2.2.2.2.2.2.2.1
theorem dX3_leastCarried_14 : decode cX3_leastCarried 14 = .ok (.aload_n 0, 1) := gdX3_leastCarried_0.2.2.2.2.2.2.2.2.2.1
theorem dX3_leastCarried_15 : decode cX3_leastCarried 15 = .ok (.getfield 15, 3) := gdX3_leastCarried_0.2.2.2.2.2.2.2.2.2.2.1
theorem dX3_leastCarried_18 : decode cX3_leastCarried 18 = .ok (.iload 9, 2) := gdX3_leastCarried_0.2.2.2.2.2.2.2.2.2.2.2.1
theorem dX3_leastCarried_20 : decode cX3_leastCarried 20 = .ok (.iaload, 1) := gdX3_leastCarried_0.2.2.2.2.2.2.2.2.2.2.2.2.1
theorem dX3_leastCarried_21 : decode cX3_leastCarried 21 = .ok (.istore 10, 2) := gdX3_leastCarried_0.2.2.2.2.2.2.2.2.2.2.2.2.2.1
theorem dX3_leastCarried_23 : decode cX3_leastCarried 23 = .ok (.iload 10, 2) := gdX3_leastCarried_0.2.2.2.2.2.2.2.2.2.2.2.2.2.2.1
theorem dX3_leastCarried_25 : decode cX3_leastCarried 25 = .ok (.aload_n 0, 1) := gdX3_leastCarried_0.2.2.2.2.2.2.2.2.2.2.2.2.2.2.2
theorem gdX3_leastCarried_26 : (decode cX3_leastCarried 26 = .ok (.getfield 15, 3)) ∧ (decode cX3_leastCarried 29 = .ok (.iload 9, 2)) ∧ (decode cX3_leastCarried 31 = .ok (.iconst 1, 1)) ∧ (decode cX3_leastCarried 32 = .ok (.iadd, 1)) ∧ (decode cX3_leastCarried 33 = .ok (.iaload, 1)) ∧ (decode cX3_leastCarried 34 = .ok (.if_icmp .ge 85, 3)) ∧ (decode cX3_leastCarried 37 = .ok (.aload_n 0, 1)) ∧ (decode cX3_leastCarried 38 = .ok (.getfield 9, 3)) ∧ (decode cX3_leastCarried 41 = .ok (.iload 10, 2)) ∧ (decode cX3_leastCarried 43 = .ok (.laload, 1)) ∧ (decode cX3_leastCarried 44 = .ok (.invokestatic 83, 3)) ∧ (decode cX3_leastCarried 47 = .ok (.lload 4, 2)) ∧ (decode cX3_leastCarried 49 = .ok (.lcmp, 1)) ∧ (decode cX3_leastCarried 50 = .ok (.ifCond .lt 23, 3)) ∧ (decode cX3_leastCarried 53 = .ok (.aload_n 0, 1)) ∧ (decode cX3_leastCarried 54 = .ok (.getfield 9, 3)) := by decide +kernel
theorem dX3_leastCarried_26 : decode cX3_leastCarried 26 = .ok (.getfield 15, 3) := gdX3_leastCarried_26.1
theorem dX3_leastCarried_29 : decode cX3_leastCarried 29 = .ok (.iload 9, 2) := gdX3_leastCarried_26.2.1
theorem dX3_leastCarried_31 : decode cX3_leastCarried 31 = .ok (.iconst 1, 1) := gdX3_leastCarried_26.2.2.1
theorem dX3_leastCarried_32 : decode cX3_leastCarried 32 = .ok (.iadd, 1) := gdX3_leastCarried_26.2.2.2.1
theorem dX3_leastCarried_33 : decode cX3_leastCarried 33 = .ok (.iaload, 1) := gdX3_leastCarried_26.2.2.2.2.1
theorem dX3_leastCarried_34 : decode cX3_leastCarried 34 = .ok (.if_icmp .ge 85, 3) := gdX3_leastCarried_26.2.2.2.2.2.1
theorem dX3_leastCarried_37 : decode cX3_leastCarried 37 = .ok (.aload_n 0, 1) := gdX3_leastCarried_26.2.2.2.2.2.2.1
theorem dX3_leastCarried_38 : decode cX3_leastCarried 38 = .ok (.getfield 9, 3) := gdX3_leastCarried_26.2.2.2.2.2.2.2.1
theorem dX3_leastCarried_41 : decode cX3_leastCarried 41 = .ok (.iload 10, 2) := gdX3_leastCarried_26.2.2.2.2.2.2.2.2.1
theorem dX3_leastCarried_43 : decode cX3_leastCarried 43 = .ok (.laload, 1) := gdX3_leastCarried_26.2.2.2.2.2.2.2.2.2.1
theorem dX3_leastCarried_44 : decode cX3_leastCarried 44 = .ok (.invokestatic 83, 3) := gdX3_leastCarried_26.2.2.2.2.2.2.2.2.2.2.1
theorem dX3_leastCarried_47 : decode cX3_leastCarried 47 = .ok (.lload 4, 2) := gdX3_leastCarried_26.2.2.2.2.2.2.2.2.2.2.2.1
theorem dX3_leastCarried_49 : decode cX3_leastCarried 49 = .ok (.lcmp, 1) := gdX3_leastCarried_26.2.2.2.2.2.2.2.2.2.2.2.2.1
theorem dX3_leastCarried_50 : decode cX3_leastCarried 50 = .ok (.ifCond .lt 23, 3) := gdX3_leastCarried_26.2.2.2.2.2.2.2.2.2.2.2.2.2.1
theorem dX3_leastCarried_53 : decode cX3_leastCarried 53 = .ok (.aload_n 0, 1) := gdX3_leastCarried_26.2.2.2.2.2.2.2.2.2.2.2.2.2.2.1
theorem dX3_leastCarried_54 : decode cX3_leastCarried 54 = .ok (.getfield 9, 3) := gdX3_leastCarried_26.2.2.2.2.2.2.2.2.2.2.2.2.2.2.2
theorem gdX3_leastCarried_57 : (decode cX3_leastCarried 57 = .ok (.iload 10, 2)) ∧ (decode cX3_leastCarried 59 = .ok (.laload, 1)) ∧ (decode cX3_leastCarried 60 = .ok (.invokestatic 83, 3)) ∧ (decode cX3_leastCarried 63 = .ok (.lload 6, 2)) ∧ (decode cX3_leastCarried 65 = .ok (.lcmp, 1)) ∧ (decode cX3_leastCarried 66 = .ok (.ifCond .gt 7, 3)) ∧ (decode cX3_leastCarried 69 = .ok (.iconst 1, 1)) ∧ (decode cX3_leastCarried 70 = .ok (.goto 4, 3)) ∧ (decode cX3_leastCarried 73 = .ok (.iconst 0, 1)) ∧ (decode cX3_leastCarried 74 = .ok (.istore 11, 2)) ∧ (decode cX3_leastCarried 76 = .ok (.iload 11, 2)) ∧ (decode cX3_leastCarried 78 = .ok (.ifCond .eq 35, 3)) ∧ (decode cX3_leastCarried 81 = .ok (.iload 8, 2)) ∧ (decode cX3_leastCarried 83 = .ok (.ifCond .lt 18, 3)) ∧ (decode cX3_leastCarried 86 = .ok (.aload_n 0, 1)) ∧ (decode cX3_leastCarried 87 = .ok (.getfield 9, 3)) := by decide +kernel
theorem dX3_leastCarried_57 : decode cX3_leastCarried 57 = .ok (.iload 10, 2) := gdX3_leastCarried_57.1
theorem dX3_leastCarried_59 : decode cX3_leastCarried 59 = .ok (.laload, 1) := gdX3_leastCarried_57.2.1
theorem dX3_leastCarried_60 : decode cX3_leastCarried 60 = .ok (.invokestatic 83, 3) := gdX3_leastCarried_57.2.2.1
theorem dX3_leastCarried_63 : decode cX3_leastCarried 63 = .ok (.lload 6, 2) := gdX3_leastCarried_57.2.2.2.1
theorem dX3_leastCarried_65 : decode cX3_leastCarried 65 = .ok (.lcmp, 1) := gdX3_leastCarried_57.2.2.2.2.1
theorem dX3_leastCarried_66 : decode cX3_leastCarried 66 = .ok (.ifCond .gt 7, 3) := gdX3_leastCarried_57.2.2.2.2.2.1
theorem dX3_leastCarried_69 : decode cX3_leastCarried 69 = .ok (.iconst 1, 1) := gdX3_leastCarried_57.2.2.2.2.2.2.1
theorem dX3_leastCarried_70 : decode cX3_leastCarried 70 = .ok (.goto 4, 3) := gdX3_leastCarried_57.2.2.2.2.2.2.2.1
theorem dX3_leastCarried_73 : decode cX3_leastCarried 73 = .ok (.iconst 0, 1) := gdX3_leastCarried_57.2.2.2.2.2.2.2.2.1
theorem dX3_leastCarried_74 : decode cX3_leastCarried 74 = .ok (.istore 11, 2) := gdX3_leastCarried_57.2.2.2.2.2.2.2.2.2.1
theorem dX3_leastCarried_76 : decode cX3_leastCarried 76 = .ok (.iload 11, 2) := gdX3_leastCarried_57.2.2.2.2.2.2.2.2.2.2.1
theorem dX3_leastCarried_78 : decode cX3_leastCarried 78 = .ok (.ifCond .eq 35, 3) := gdX3_leastCarried_57.2.2.2.2.2.2.2.2.2.2.2.1
theorem dX3_leastCarried_81 : decode cX3_leastCarried 81 = .ok (.iload 8, 2) := gdX3_leastCarried_57.2.2.2.2.2.2.2.2.2.2.2.2.1
theorem dX3_leastCarried_83 : decode cX3_leastCarried 83 = .ok (.ifCond .lt 18, 3) := gdX3_leastCarried_57.2.2.2.2.2.2.2.2.2.2.2.2.2.1
theorem dX3_leastCarried_86 : decode cX3_leastCarried 86 = .ok (.aload_n 0, 1) := gdX3_leastCarried_57.2.2.2.2.2.2.2.2.2.2.2.2.2.2.1
theorem dX3_leastCarried_87 : decode cX3_leastCarried 87 = .ok (.getfield 9, 3) := gdX3_leastCarried_57.2.2.2.2.2.2.2.2.2.2.2.2.2.2.2
theorem gdX3_leastCarried_90 : (decode cX3_leastCarried 90 = .ok (.iload 10, 2)) ∧ (decode cX3_leastCarried 92 = .ok (.laload, 1)) ∧ (decode cX3_leastCarried 93 = .ok (.invokestatic 87, 3)) ∧ (decode cX3_leastCarried 96 = .ok (.iload 8, 2)) ∧ (decode cX3_leastCarried 98 = .ok (.if_icmp .ge 15, 3)) ∧ (decode cX3_leastCarried 101 = .ok (.aload_n 0, 1)) ∧ (decode cX3_leastCarried 102 = .ok (.getfield 9, 3)) ∧ (decode cX3_leastCarried 105 = .ok (.iload 10, 2)) ∧ (decode cX3_leastCarried 107 = .ok (.laload, 1)) ∧ (decode cX3_leastCarried 108 = .ok (.invokestatic 87, 3)) ∧ (decode cX3_leastCarried 111 = .ok (.istore 8, 2)) ∧ (decode cX3_leastCarried 113 = .ok (.iinc 10 1, 3)) ∧ (decode cX3_leastCarried 116 = .ok (.goto (-93), 3)) ∧ (decode cX3_leastCarried 119 = .ok (.iload 8, 2)) ∧ (decode cX3_leastCarried 121 = .ok (.ireturn, 1)) := by decide +kernel
theorem dX3_leastCarried_90 : decode cX3_leastCarried 90 = .ok (.iload 10, 2) := gdX3_leastCarried_90.1
theorem dX3_leastCarried_92 : decode cX3_leastCarried 92 = .ok (.laload, 1) := gdX3_leastCarried_90.2.1
theorem dX3_leastCarried_93 : decode cX3_leastCarried 93 = .ok (.invokestatic 87, 3) := gdX3_leastCarried_90.2.2.1
theorem dX3_leastCarried_96 : decode cX3_leastCarried 96 = .ok (.iload 8, 2) := gdX3_leastCarried_90.2.2.2.1
theorem dX3_leastCarried_98 : decode cX3_leastCarried 98 = .ok (.if_icmp .ge 15, 3) := gdX3_leastCarried_90.2.2.2.2.1
theorem dX3_leastCarried_101 : decode cX3_leastCarried 101 = .ok (.aload_n 0, 1) := gdX3_leastCarried_90.2.2.2.2.2.1
theorem dX3_leastCarried_102 : decode cX3_leastCarried 102 = .ok (.getfield 9, 3) := gdX3_leastCarried_90.2.2.2.2.2.2.1
theorem dX3_leastCarried_105 : decode cX3_leastCarried 105 = .ok (.iload 10, 2) := gdX3_leastCarried_90.2.2.2.2.2.2.2.1
theorem dX3_leastCarried_107 : decode cX3_leastCarried 107 = .ok (.laload, 1) := gdX3_leastCarried_90.2.2.2.2.2.2.2.2.1
theorem dX3_leastCarried_108 : decode cX3_leastCarried 108 = .ok (.invokestatic 87, 3) := gdX3_leastCarried_90.2.2.2.2.2.2.2.2.2.1
theorem dX3_leastCarried_111 : decode cX3_leastCarried 111 = .ok (.istore 8, 2) := gdX3_leastCarried_90.2.2.2.2.2.2.2.2.2.2.1
theorem dX3_leastCarried_113 : decode cX3_leastCarried 113 = .ok (.iinc 10 1, 3) := gdX3_leastCarried_90.2.2.2.2.2.2.2.2.2.2.2.1
theorem dX3_leastCarried_116 : decode cX3_leastCarried 116 = .ok (.goto (-93), 3) := gdX3_leastCarried_90.2.2.2.2.2.2.2.2.2.2.2.2.1
theorem dX3_leastCarried_119 : decode cX3_leastCarried 119 = .ok (.iload 8, 2) := gdX3_leastCarried_90.2.2.2.2.2.2.2.2.2.2.2.2.2.1
theorem dX3_leastCarried_121 : decode cX3_leastCarried 121 = .ok (.ireturn, 1) := gdX3_leastCarried_90.2.2.2.2.2.2.2.2.2.2.2.2.2.2
theorem gdX4_init_0 : (decode cX4_init 0 = .ok (.aload_n 0, 1)) ∧ (decode cX4_init 1 = .ok (.invokespecial 3, 3)) ∧ (decode cX4_init 4 = .ok (.aload_n 0, 1)) ∧ (decode cX4_init 5 = .ok (.sipush 400, 3)) ∧ (decode cX4_init 8 = .ok (.newarray .int, 2)) ∧ (decode cX4_init 10 = .ok (.putfield 9, 3)) ∧ (decode cX4_init 13 = .ok (.aload_n 0, 1)) ∧ (decode cX4_init 14 = .ok (.bipush 60, 2)) ∧ (decode cX4_init 16 = .ok (.newarray .long, 2)) ∧ (decode cX4_init 18 = .ok (.putfield 15, 3)) ∧ (decode cX4_init 21 = .ok (.aload_n 0, 1)) ∧ (decode cX4_init 22 = .ok (.iconst 0, 1)) ∧ (decode cX4_init 23 = .ok (.putfield 19, 3)) ∧ (decode cX4_init 26 = .ok (.aload_n 0, 1)) ∧ (decode cX4_init 27 = .ok (.iconst 0, 1)) ∧ (decode cX4_init 28 = .ok (.putfield 23, 3)) := by decide +kernel
theorem dX4_init_0 : decode cX4_init 0 = .ok (.aload_n 0, 1) := gdX4_init_0.1
theorem dX4_init_1 : decode cX4_init 1 = .ok (.invokespecial 3, 3) := gdX4_init_0.2.1
theorem dX4_init_4 : decode cX4_init 4 = .ok (.aload_n 0, 1) := gdX4_init_0.2.2.1
theorem dX4_init_5 : decode cX4_init 5 = .ok (.sipush 400, 3) := gdX4_init_0.2.2.2.1
theorem dX4_init_8 : decode cX4_init 8 = .ok (.newarray .int, 2) := gdX4_init_0.2.2.2.2.1
theorem dX4_init_10 : decode cX4_init 10 = .ok (.putfield 9, 3) := gdX4_init_0.2.2.2.2.2.1
theorem dX4_init_13 : decode cX4_init 13 = .ok (.aload_n 0, 1) := gdX4_init_0.2.2.2.2.2.2.1
theorem dX4_init_14 : decode cX4_init 14 = .ok (.bipush 60, 2) := gdX4_init_0.2.2.2.2.2.2.2.1
theorem dX4_init_16 : decode cX4_init 16 = .ok (.newarray .long, 2) := gdX4_init_0.2.2.2.2.2.2.2.2.1
theorem dX4_init_18 : decode cX4_init 18 = .ok (.putfield 15, 3) := gdX4_init_0.2.2.2.2.2.2.2.2.2.1
theorem dX4_init_21 : decode cX4_init 21 = .ok (.aload_n 0, 1) := gdX4_init_0.2.2.2.2.2.2.2.2.2.2.1
theorem dX4_init_22 : decode cX4_init 22 = .ok (.iconst 0, 1) := gdX4_init_0.2.2.2.2.2.2.2.2.2.2.2.1
theorem dX4_init_23 : decode cX4_init 23 = .ok (.putfield 19, 3) := gdX4_init_0.2.2.2.2.2.2.2.2.2.2.2.2.1
theorem dX4_init_26 : decode cX4_init 26 = .ok (.aload_n 0, 1) := gdX4_init_0.2.2.2.2.2.2.2.2.2.2.2.2.2.1
theorem dX4_init_27 : decode cX4_init 27 = .ok (.iconst 0, 1) := gdX4_init_0.2.2.2.2.2.2.2.2.2.2.2.2.2.2.1
theorem dX4_init_28 : decode cX4_init 28 = .ok (.putfield 23, 3) := gdX4_init_0.2.2.2.2.2.2.2.2.2.2.2.2.2.2.2
theorem dX4_init_31 : decode cX4_init 31 = .ok (.return_, 1) := by decide +kernel
theorem gdX4_copyFrom_0 : (decode cX4_copyFrom 0 = .ok (.aload_n 1, 1)) ∧ (decode cX4_copyFrom 1 = .ok (.getfield 9, 3)) ∧ (decode cX4_copyFrom 4 = .ok (.iconst 0, 1)) ∧ (decode cX4_copyFrom 5 = .ok (.aload_n 0, 1)) ∧ (decode cX4_copyFrom 6 = .ok (.getfield 9, 3)) ∧ (decode cX4_copyFrom 9 = .ok (.iconst 0, 1)) ∧ (decode cX4_copyFrom 10 = .ok (.sipush 400, 3)) ∧ (decode cX4_copyFrom 13 = .ok (.invokestatic 26, 3)) ∧ (decode cX4_copyFrom 16 = .ok (.aload_n 0, 1)) ∧ (decode cX4_copyFrom 17 = .ok (.aload_n 1, 1)) ∧ (decode cX4_copyFrom 18 = .ok (.getfield 19, 3)) ∧ (decode cX4_copyFrom 21 = .ok (.putfield 19, 3)) ∧ (decode cX4_copyFrom 24 = .ok (.return_, 1)) := by decide +kernel
theorem dX4_copyFrom_0 : decode cX4_copyFrom 0 = .ok (.aload_n 1, 1) := gdX4_copyFrom_0.1
theorem dX4_copyFrom_1 : decode cX4_copyFrom 1 = .ok (.getfield 9, 3) := gdX4_copyFrom_0.2.1
theorem dX4_copyFrom_4 : decode cX4_copyFrom 4 = .ok (.iconst 0, 1) := gdX4_copyFrom_0.2.2.1
theorem dX4_copyFrom_5 : decode cX4_copyFrom 5 = .ok (.aload_n 0, 1) := gdX4_copyFrom_0.2.2.2.1
theorem dX4_copyFrom_6 : decode cX4_copyFrom 6 = .ok (.getfield 9, 3) := gdX4_copyFrom_0.2.2.2.2.1
theorem dX4_copyFrom_9 : decode cX4_copyFrom 9 = .ok (.iconst 0, 1) := gdX4_copyFrom_0.2.2.2.2.2.1
theorem dX4_copyFrom_10 : decode cX4_copyFrom 10 = .ok (.sipush 400, 3) := gdX4_copyFrom_0.2.2.2.2.2.2.1
theorem dX4_copyFrom_13 : decode cX4_copyFrom 13 = .ok (.invokestatic 26, 3) := gdX4_copyFrom_0.2.2.2.2.2.2.2.1
theorem dX4_copyFrom_16 : decode cX4_copyFrom 16 = .ok (.aload_n 0, 1) := gdX4_copyFrom_0.2.2.2.2.2.2.2.2.1
theorem dX4_copyFrom_17 : decode cX4_copyFrom 17 = .ok (.aload_n 1, 1) := gdX4_copyFrom_0.2.2.2.2.2.2.2.2.2.1
theorem dX4_copyFrom_18 : decode cX4_copyFrom 18 = .ok (.getfield 19, 3) := gdX4_copyFrom_0.2.2.2.2.2.2.2.2.2.2.1
theorem dX4_copyFrom_21 : decode cX4_copyFrom 21 = .ok (.putfield 19, 3) := gdX4_copyFrom_0.2.2.2.2.2.2.2.2.2.2.2.1
theorem dX4_copyFrom_24 : decode cX4_copyFrom 24 = .ok (.return_, 1) := gdX4_copyFrom_0.2.2.2.2.2.2.2.2.2.2.2.2
theorem gdX4_write_0 : (decode cX4_write 0 = .ok (.aload_n 0, 1)) ∧ (decode cX4_write 1 = .ok (.getfield 19, 3)) ∧ (decode cX4_write 4 = .ok (.sipush 400, 3)) ∧ (decode cX4_write 7 = .ok (.if_icmp .ge 27, 3)) ∧ (decode cX4_write 10 = .ok (.aload_n 0, 1)) ∧ (decode cX4_write 11 = .ok (.getfield 9, 3)) ∧ (decode cX4_write 14 = .ok (.aload_n 0, 1)) ∧ (decode cX4_write 15 = .ok (.getfield 19, 3)) ∧ (decode cX4_write 18 = .ok (.iload_n 2, 1)) ∧ (decode cX4_write 19 = .ok (.iconst 5, 1)) ∧ (decode cX4_write 20 = .ok (.ishl, 1)) ∧ (decode cX4_write 21 = .ok (.iload_n 1, 1)) ∧ (decode cX4_write 22 = .ok (.ior, 1)) ∧ (decode cX4_write 23 = .ok (.iastore, 1)) ∧ (decode cX4_write 24 = .ok (.aload_n 0, 1)) ∧ (decode cX4_write 25 = .ok (.dup, 1)) := by decide +kernel
theorem dX4_write_0 : decode cX4_write 0 = .ok (.aload_n 0, 1) := gdX4_write_0.1
theorem dX4_write_1 : decode cX4_write 1 = .ok (.getfield 19, 3) := gdX4_write_0.2.1
theorem dX4_write_4 : decode cX4_write 4 = .ok (.sipush 400, 3) := gdX4_write_0.2.2.1
theorem dX4_write_7 : decode cX4_write 7 = .ok (.if_icmp .ge 27, 3) := gdX4_write_0.2.2.2.1
theorem dX4_write_10 : decode cX4_write 10 = .ok (.aload_n 0, 1) := gdX4_write_0.2.2.2.2.1
theorem dX4_write_11 : decode cX4_write 11 = .ok (.getfield 9, 3) := gdX4_write_0.2.2.2.2.2.1
theorem dX4_write_14 : decode cX4_write 14 = .ok (.aload_n 0, 1) := gdX4_write_0.2.2.2.2.2.2.1
theorem dX4_write_15 : decode cX4_write 15 = .ok (.getfield 19, 3) := gdX4_write_0.2.2.2.2.2.2.2.1
theorem dX4_write_18 : decode cX4_write 18 = .ok (.iload_n 2, 1) := gdX4_write_0.2.2.2.2.2.2.2.2.1
theorem dX4_write_19 : decode cX4_write 19 = .ok (.iconst 5, 1) := gdX4_write_0.2.2.2.2.2.2.2.2.2.1
theorem dX4_write_20 : decode cX4_write 20 = .ok (.ishl, 1) := gdX4_write_0.2.2.2.2.2.2.2.2.2.2.1
theorem dX4_write_21 : decode cX4_write 21 = .ok (.iload_n 1, 1) := gdX4_write_0.2.2.2.2.2.2.2.2.2.2.2.1
theorem dX4_write_22 : decode cX4_write 22 = .ok (.ior, 1) := gdX4_write_0.2.2.2.2.2.2.2.2.2.2.2.2.1
theorem dX4_write_23 : decode cX4_write 23 = .ok (.iastore, 1) := gdX4_write_0.2.2.2.2.2.2.2.2.2.2.2.2.2.1
theorem dX4_write_24 : decode cX4_write 24 = .ok (.aload_n 0, 1) := gdX4_write_0.2.2.2.2.2.2.2.2.2.2.2.2.2.2.1
theorem dX4_write_25 : decode cX4_write 25 = .ok (.dup, 1) := gdX4_write_0.2.2.2.2.2.2.2.2.2.2.2.2.2.2.2
