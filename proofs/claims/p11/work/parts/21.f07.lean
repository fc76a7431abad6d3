def f_X4_isSo (v0 : Int32) (v1 : Int64) (v3 : Int64) (S : fS) : Option (Int32) :=
  if v0 = (5 : Int32) then (if v1 = (0 : Int64) then (some (0 : Int32)) else
  (if v3 = (0 : Int64) then (some (0 : Int32)) else
  (some (1 : Int32)))) else
  if v0 = (6 : Int32) then (if v1 = (0 : Int64) then (if v3 = (0 : Int64) then (some (0 : Int32)) else
  (some (1 : Int32))) else
  (some (1 : Int32))) else
  if v0 = (7 : Int32) then (if v1 ≤ v3 then (some (0 : Int32)) else
  (some (1 : Int32))) else
  if v0 = (8 : Int32) then (if v1 ≤ v3 then (some (0 : Int32)) else
  (some (1 : Int32))) else
  if v0 = (9 : Int32) then (if v1 ≤ v3 then (some (0 : Int32)) else
  (some (1 : Int32))) else
  if v0 = (10 : Int32) then (if v1 ≤ v3 then (some (0 : Int32)) else
  (some (1 : Int32))) else
  if v0 = (11 : Int32) then (if v3 ≤ v1 then (some (0 : Int32)) else
  (some (1 : Int32))) else
  if v0 = (12 : Int32) then (if v3 < v1 then (some (0 : Int32)) else
  (some (1 : Int32))) else
  if v0 = (13 : Int32) then (if v1 = v3 then (some (1 : Int32)) else
  (some (0 : Int32))) else
  if v0 = (14 : Int32) then (if v1 < v3 then (some (0 : Int32)) else
  (some (1 : Int32))) else
  (if v1 ≤ v3 then (some (0 : Int32)) else
  (some (1 : Int32)))
set_option maxHeartbeats 4000000 in
set_option maxRecDepth 100000 in
theorem ok_X4_isSo {X : mm_C} {RR : Nat → Nat → Option Nat} (hR : RRok RR) {v0 : Int32} {v1 : Int64} {v3 : Int64}  {S : fS} {r : Int32} (h : f_X4_isSo v0 v1 v3 S = some r) : mr X 0 mY_X4_isSo 0 (lv_args 0 [.int v0, .long v1, .long v3]) [] (MM RR S) (some (.int r), MM RR S) := by
  unfold f_X4_isSo at h
  show mr X _ _ 0 [(0, .int v0), (1, .long v1), (3, .long v3)] [] (MM RR S) _
  refine mr_iload_n (pc' := 1) dX4_isSo_0 rfl rfl ?_
  by_cases c1 : v0 = (5 : Int32)
  · rw [if_pos c1] at h
    refine mr_sw_in (t := 56) (v := (5 : Int32)) dX4_isSo_1 c1 rfl ?_
    refine mr_lload_n (pc' := 57) dX4_isSo_56 rfl rfl ?_
    refine mr_lconst (pc' := 58) (v := (0 : Int64)) dX4_isSo_57 rfl (by decide) ?_
    by_cases c2 : v1 = (0 : Int64)
    · rw [if_pos c2] at h
      refine mr_lcmp_eq_t (t := 72) dX4_isSo_58 rfl dX4_isSo_59 (by decide) c2 ?_
      refine mr_iconst (pc' := 73) (v := (0 : Int32)) dX4_isSo_72 rfl (by decide) ?_
      obtain rfl := Option.some.inj h
      exact mr_zreturn dX4_isSo_73 rfl (by decide)
    · rw [if_neg c2] at h
      refine mr_lcmp_eq_f (t := 72) (pc' := 62) dX4_isSo_58 rfl dX4_isSo_59 (by decide) rfl c2 ?_
      refine mr_lload_n (pc' := 63) dX4_isSo_62 rfl rfl ?_
      refine mr_lconst (pc' := 64) (v := (0 : Int64)) dX4_isSo_63 rfl (by decide) ?_
      by_cases c3 : v3 = (0 : Int64)
      · rw [if_pos c3] at h
        refine mr_lcmp_eq_t (t := 72) dX4_isSo_64 rfl dX4_isSo_65 (by decide) c3 ?_
        refine mr_iconst (pc' := 73) (v := (0 : Int32)) dX4_isSo_72 rfl (by decide) ?_
        obtain rfl := Option.some.inj h
        exact mr_zreturn dX4_isSo_73 rfl (by decide)
      · rw [if_neg c3] at h
        refine mr_lcmp_eq_f (t := 72) (pc' := 68) dX4_isSo_64 rfl dX4_isSo_65 (by decide) rfl c3 ?_
        refine mr_iconst (pc' := 69) (v := (1 : Int32)) dX4_isSo_68 rfl (by decide) ?_
        refine mr_goto (t := 73) dX4_isSo_69 (by decide) ?_
        obtain rfl := Option.some.inj h
        exact mr_zreturn dX4_isSo_73 rfl (by decide)
  rw [if_neg c1] at h
  by_cases c4 : v0 = (6 : Int32)
  · rw [if_pos c4] at h
    refine mr_sw_in (t := 74) (v := (6 : Int32)) dX4_isSo_1 c4 rfl ?_
    refine mr_lload_n (pc' := 75) dX4_isSo_74 rfl rfl ?_
    refine mr_lconst (pc' := 76) (v := (0 : Int64)) dX4_isSo_75 rfl (by decide) ?_
    by_cases c5 : v1 = (0 : Int64)
    · rw [if_pos c5] at h
      refine mr_lcmp_ne_f (t := 86) (pc' := 80) dX4_isSo_76 rfl dX4_isSo_77 (by decide) rfl (not_not_intro c5) ?_
      refine mr_lload_n (pc' := 81) dX4_isSo_80 rfl rfl ?_
      refine mr_lconst (pc' := 82) (v := (0 : Int64)) dX4_isSo_81 rfl (by decide) ?_
      by_cases c6 : v3 = (0 : Int64)
      · rw [if_pos c6] at h
        refine mr_lcmp_eq_t (t := 90) dX4_isSo_82 rfl dX4_isSo_83 (by decide) c6 ?_
        refine mr_iconst (pc' := 91) (v := (0 : Int32)) dX4_isSo_90 rfl (by decide) ?_
        obtain rfl := Option.some.inj h
        exact mr_zreturn dX4_isSo_91 rfl (by decide)
      · rw [if_neg c6] at h
        refine mr_lcmp_eq_f (t := 90) (pc' := 86) dX4_isSo_82 rfl dX4_isSo_83 (by decide) rfl c6 ?_
        refine mr_iconst (pc' := 87) (v := (1 : Int32)) dX4_isSo_86 rfl (by decide) ?_
        refine mr_goto (t := 91) dX4_isSo_87 (by decide) ?_
        obtain rfl := Option.some.inj h
        exact mr_zreturn dX4_isSo_91 rfl (by decide)
    · rw [if_neg c5] at h
      refine mr_lcmp_ne_t (t := 86) dX4_isSo_76 rfl dX4_isSo_77 (by decide) c5 ?_
      refine mr_iconst (pc' := 87) (v := (1 : Int32)) dX4_isSo_86 rfl (by decide) ?_
      refine mr_goto (t := 91) dX4_isSo_87 (by decide) ?_
      obtain rfl := Option.some.inj h
      exact mr_zreturn dX4_isSo_91 rfl (by decide)
  rw [if_neg c4] at h
  by_cases c7 : v0 = (7 : Int32)
  · rw [if_pos c7] at h
    refine mr_sw_in (t := 140) (v := (7 : Int32)) dX4_isSo_1 c7 rfl ?_
    refine mr_lload_n (pc' := 141) dX4_isSo_140 rfl rfl ?_
    refine mr_lload_n (pc' := 142) dX4_isSo_141 rfl rfl ?_
    by_cases c8 : v1 ≤ v3
    · rw [if_pos c8] at h
      refine mr_lcmp_le_t (t := 150) dX4_isSo_142 rfl dX4_isSo_143 (by decide) c8 ?_
      refine mr_iconst (pc' := 151) (v := (0 : Int32)) dX4_isSo_150 rfl (by decide) ?_
      obtain rfl := Option.some.inj h
      exact mr_zreturn dX4_isSo_151 rfl (by decide)
    · rw [if_neg c8] at h
      refine mr_lcmp_le_f (t := 150) (pc' := 146) dX4_isSo_142 rfl dX4_isSo_143 (by decide) rfl c8 ?_
      refine mr_iconst (pc' := 147) (v := (1 : Int32)) dX4_isSo_146 rfl (by decide) ?_
      refine mr_goto (t := 151) dX4_isSo_147 (by decide) ?_
      obtain rfl := Option.some.inj h
      exact mr_zreturn dX4_isSo_151 rfl (by decide)
  rw [if_neg c7] at h
  by_cases c9 : v0 = (8 : Int32)
  · rw [if_pos c9] at h
    refine mr_sw_in (t := 140) (v := (8 : Int32)) dX4_isSo_1 c9 rfl ?_
    refine mr_lload_n (pc' := 141) dX4_isSo_140 rfl rfl ?_
    refine mr_lload_n (pc' := 142) dX4_isSo_141 rfl rfl ?_
    by_cases c10 : v1 ≤ v3
    · rw [if_pos c10] at h
      refine mr_lcmp_le_t (t := 150) dX4_isSo_142 rfl dX4_isSo_143 (by decide) c10 ?_
      refine mr_iconst (pc' := 151) (v := (0 : Int32)) dX4_isSo_150 rfl (by decide) ?_
      obtain rfl := Option.some.inj h
      exact mr_zreturn dX4_isSo_151 rfl (by decide)
    · rw [if_neg c10] at h
      refine mr_lcmp_le_f (t := 150) (pc' := 146) dX4_isSo_142 rfl dX4_isSo_143 (by decide) rfl c10 ?_
      refine mr_iconst (pc' := 147) (v := (1 : Int32)) dX4_isSo_146 rfl (by decide) ?_
      refine mr_goto (t := 151) dX4_isSo_147 (by decide) ?_
      obtain rfl := Option.some.inj h
      exact mr_zreturn dX4_isSo_151 rfl (by decide)
  rw [if_neg c9] at h
  by_cases c11 : v0 = (9 : Int32)
  · rw [if_pos c11] at h
    refine mr_sw_in (t := 140) (v := (9 : Int32)) dX4_isSo_1 c11 rfl ?_
    refine mr_lload_n (pc' := 141) dX4_isSo_140 rfl rfl ?_
    refine mr_lload_n (pc' := 142) dX4_isSo_141 rfl rfl ?_
    by_cases c12 : v1 ≤ v3
    · rw [if_pos c12] at h
      refine mr_lcmp_le_t (t := 150) dX4_isSo_142 rfl dX4_isSo_143 (by decide) c12 ?_
      refine mr_iconst (pc' := 151) (v := (0 : Int32)) dX4_isSo_150 rfl (by decide) ?_
      obtain rfl := Option.some.inj h
      exact mr_zreturn dX4_isSo_151 rfl (by decide)
    · rw [if_neg c12] at h
      refine mr_lcmp_le_f (t := 150) (pc' := 146) dX4_isSo_142 rfl dX4_isSo_143 (by decide) rfl c12 ?_
      refine mr_iconst (pc' := 147) (v := (1 : Int32)) dX4_isSo_146 rfl (by decide) ?_
      refine mr_goto (t := 151) dX4_isSo_147 (by decide) ?_
      obtain rfl := Option.some.inj h
      exact mr_zreturn dX4_isSo_151 rfl (by decide)
  rw [if_neg c11] at h
  by_cases c13 : v0 = (10 : Int32)
  · rw [if_pos c13] at h
    refine mr_sw_in (t := 140) (v := (10 : Int32)) dX4_isSo_1 c13 rfl ?_
    refine mr_lload_n (pc' := 141) dX4_isSo_140 rfl rfl ?_
    refine mr_lload_n (pc' := 142) dX4_isSo_141 rfl rfl ?_
    by_cases c14 : v1 ≤ v3
    · rw [if_pos c14] at h
      refine mr_lcmp_le_t (t := 150) dX4_isSo_142 rfl dX4_isSo_143 (by decide) c14 ?_
      refine mr_iconst (pc' := 151) (v := (0 : Int32)) dX4_isSo_150 rfl (by decide) ?_
      obtain rfl := Option.some.inj h
      exact mr_zreturn dX4_isSo_151 rfl (by decide)
    · rw [if_neg c14] at h
      refine mr_lcmp_le_f (t := 150) (pc' := 146) dX4_isSo_142 rfl dX4_isSo_143 (by decide) rfl c14 ?_
      refine mr_iconst (pc' := 147) (v := (1 : Int32)) dX4_isSo_146 rfl (by decide) ?_
      refine mr_goto (t := 151) dX4_isSo_147 (by decide) ?_
      obtain rfl := Option.some.inj h
      exact mr_zreturn dX4_isSo_151 rfl (by decide)
  rw [if_neg c13] at h
  by_cases c15 : v0 = (11 : Int32)
  · rw [if_pos c15] at h
    refine mr_sw_in (t := 92) (v := (11 : Int32)) dX4_isSo_1 c15 rfl ?_
    refine mr_lload_n (pc' := 93) dX4_isSo_92 rfl rfl ?_
    refine mr_lload_n (pc' := 94) dX4_isSo_93 rfl rfl ?_
    by_cases c16 : v3 ≤ v1
    · rw [if_pos c16] at h
      refine mr_lcmp_ge_t (t := 102) dX4_isSo_94 rfl dX4_isSo_95 (by decide) c16 ?_
      refine mr_iconst (pc' := 103) (v := (0 : Int32)) dX4_isSo_102 rfl (by decide) ?_
      obtain rfl := Option.some.inj h
      exact mr_zreturn dX4_isSo_103 rfl (by decide)
    · rw [if_neg c16] at h
      refine mr_lcmp_ge_f (t := 102) (pc' := 98) dX4_isSo_94 rfl dX4_isSo_95 (by decide) rfl c16 ?_
      refine mr_iconst (pc' := 99) (v := (1 : Int32)) dX4_isSo_98 rfl (by decide) ?_
      refine mr_goto (t := 103) dX4_isSo_99 (by decide) ?_
      obtain rfl := Option.some.inj h
      exact mr_zreturn dX4_isSo_103 rfl (by decide)
  rw [if_neg c15] at h
  by_cases c17 : v0 = (12 : Int32)
  · rw [if_pos c17] at h
    refine mr_sw_in (t := 104) (v := (12 : Int32)) dX4_isSo_1 c17 rfl ?_
    refine mr_lload_n (pc' := 105) dX4_isSo_104 rfl rfl ?_
    refine mr_lload_n (pc' := 106) dX4_isSo_105 rfl rfl ?_
    by_cases c18 : v3 < v1
    · rw [if_pos c18] at h
      refine mr_lcmp_gt_t (t := 114) dX4_isSo_106 rfl dX4_isSo_107 (by decide) c18 ?_
      refine mr_iconst (pc' := 115) (v := (0 : Int32)) dX4_isSo_114 rfl (by decide) ?_
      obtain rfl := Option.some.inj h
      exact mr_zreturn dX4_isSo_115 rfl (by decide)
    · rw [if_neg c18] at h
      refine mr_lcmp_gt_f (t := 114) (pc' := 110) dX4_isSo_106 rfl dX4_isSo_107 (by decide) rfl c18 ?_
      refine mr_iconst (pc' := 111) (v := (1 : Int32)) dX4_isSo_110 rfl (by decide) ?_
      refine mr_goto (t := 115) dX4_isSo_111 (by decide) ?_
      obtain rfl := Option.some.inj h
      exact mr_zreturn dX4_isSo_115 rfl (by decide)
  rw [if_neg c17] at h
  by_cases c19 : v0 = (13 : Int32)
  · rw [if_pos c19] at h
    refine mr_sw_in (t := 116) (v := (13 : Int32)) dX4_isSo_1 c19 rfl ?_
    refine mr_lload_n (pc' := 117) dX4_isSo_116 rfl rfl ?_
    refine mr_lload_n (pc' := 118) dX4_isSo_117 rfl rfl ?_
    by_cases c20 : v1 = v3
    · rw [if_pos c20] at h
      refine mr_lcmp_ne_f (t := 126) (pc' := 122) dX4_isSo_118 rfl dX4_isSo_119 (by decide) rfl (not_not_intro c20) ?_
      refine mr_iconst (pc' := 123) (v := (1 : Int32)) dX4_isSo_122 rfl (by decide) ?_
      refine mr_goto (t := 127) dX4_isSo_123 (by decide) ?_
      obtain rfl := Option.some.inj h
      exact mr_zreturn dX4_isSo_127 rfl (by decide)
    · rw [if_neg c20] at h
      refine mr_lcmp_ne_t (t := 126) dX4_isSo_118 rfl dX4_isSo_119 (by decide) c20 ?_
      refine mr_iconst (pc' := 127) (v := (0 : Int32)) dX4_isSo_126 rfl (by decide) ?_
      obtain rfl := Option.some.inj h
      exact mr_zreturn dX4_isSo_127 rfl (by decide)
  rw [if_neg c19] at h
  by_cases c21 : v0 = (14 : Int32)
  · rw [if_pos c21] at h
    refine mr_sw_in (t := 128) (v := (14 : Int32)) dX4_isSo_1 c21 rfl ?_
    refine mr_lload_n (pc' := 129) dX4_isSo_128 rfl rfl ?_
    refine mr_lload_n (pc' := 130) dX4_isSo_129 rfl rfl ?_
    by_cases c22 : v1 < v3
    · rw [if_pos c22] at h
      refine mr_lcmp_lt_t (t := 138) dX4_isSo_130 rfl dX4_isSo_131 (by decide) c22 ?_
      refine mr_iconst (pc' := 139) (v := (0 : Int32)) dX4_isSo_138 rfl (by decide) ?_
      obtain rfl := Option.some.inj h
      exact mr_zreturn dX4_isSo_139 rfl (by decide)
    · rw [if_neg c22] at h
      refine mr_lcmp_lt_f (t := 138) (pc' := 134) dX4_isSo_130 rfl dX4_isSo_131 (by decide) rfl c22 ?_
      refine mr_iconst (pc' := 135) (v := (1 : Int32)) dX4_isSo_134 rfl (by decide) ?_
      refine mr_goto (t := 139) dX4_isSo_135 (by decide) ?_
      obtain rfl := Option.some.inj h
      exact mr_zreturn dX4_isSo_139 rfl (by decide)
  rw [if_neg c21] at h
  refine mr_sw_out (t := 140) dX4_isSo_1 (by have := i32ne c1 (k := 5) (by decide); have := i32ne c4 (k := 6) (by decide); have := i32ne c7 (k := 7) (by decide); have := i32ne c9 (k := 8) (by decide); have := i32ne c11 (k := 9) (by decide); have := i32ne c13 (k := 10) (by decide); have := i32ne c15 (k := 11) (by decide); have := i32ne c17 (k := 12) (by decide); have := i32ne c19 (k := 13) (by decide); have := i32ne c21 (k := 14) (by decide); omega) (by decide) ?_
  refine mr_lload_n (pc' := 141) dX4_isSo_140 rfl rfl ?_
  refine mr_lload_n (pc' := 142) dX4_isSo_141 rfl rfl ?_
  by_cases c23 : v1 ≤ v3
  · rw [if_pos c23] at h
    refine mr_lcmp_le_t (t := 150) dX4_isSo_142 rfl dX4_isSo_143 (by decide) c23 ?_
    refine mr_iconst (pc' := 151) (v := (0 : Int32)) dX4_isSo_150 rfl (by decide) ?_
    obtain rfl := Option.some.inj h
    exact mr_zreturn dX4_isSo_151 rfl (by decide)
  · rw [if_neg c23] at h
    refine mr_lcmp_le_f (t := 150) (pc' := 146) dX4_isSo_142 rfl dX4_isSo_143 (by decide) rfl c23 ?_
    refine mr_iconst (pc' := 147) (v := (1 : Int32)) dX4_isSo_146 rfl (by decide) ?_
    refine mr_goto (t := 151) dX4_isSo_147 (by decide) ?_
    obtain rfl := Option.some.inj h
    exact mr_zreturn dX4_isSo_151 rfl (by decide)
def f_X4_joined (v0 : Int32) (v1 : Int64) (v3 : Int64) (S : fS) : Option (Int64) :=
  if v0 = (7 : Int32) then (some (v1 + v3)) else
  if v0 = (8 : Int32) then (some (v1 - v3)) else
  if v0 = (9 : Int32) then (some (v1 * v3)) else
  if v0 = (10 : Int32) then (if v3 = (0 : Int64) then (some (0 : Int64)) else
  ((dL v1 v3).bind fun a6 =>
  some a6)) else
  ((f_X4_isSo v0 v1 v3 S).bind fun q9 =>
  if q9 = (0 : Int32) then (some (0 : Int64)) else
  (some (1 : Int64)))
set_option maxHeartbeats 4000000 in
set_option maxRecDepth 100000 in
theorem ok_X4_joined {X : mm_C} {RR : Nat → Nat → Option Nat} (hR : RRok RR) {v0 : Int32} {v1 : Int64} {v3 : Int64}  {S : fS} {r : Int64} (h : f_X4_joined v0 v1 v3 S = some r) : mr X 1 mY_X4_joined 0 (lv_args 0 [.int v0, .long v1, .long v3]) [] (MM RR S) (some (.long r), MM RR S) := by
  unfold f_X4_joined at h
  show mr X _ _ 0 [(0, .int v0), (1, .long v1), (3, .long v3)] [] (MM RR S) _
  refine mr_iload_n (pc' := 1) dX4_joined_0 rfl rfl ?_
  by_cases c1 : v0 = (7 : Int32)
  · rw [if_pos c1] at h
    refine mr_sw_in (t := 32) (v := (7 : Int32)) dX4_joined_1 c1 rfl ?_
    refine mr_lload_n (pc' := 33) dX4_joined_32 rfl rfl ?_
    refine mr_lload_n (pc' := 34) dX4_joined_33 rfl rfl ?_
    refine mr_ladd (pc' := 35) dX4_joined_34 rfl ?_
    obtain rfl := Option.some.inj h
    exact mr_lreturn dX4_joined_35 rfl
  rw [if_neg c1] at h
  by_cases c2 : v0 = (8 : Int32)
  · rw [if_pos c2] at h
    refine mr_sw_in (t := 36) (v := (8 : Int32)) dX4_joined_1 c2 rfl ?_
    refine mr_lload_n (pc' := 37) dX4_joined_36 rfl rfl ?_
    refine mr_lload_n (pc' := 38) dX4_joined_37 rfl rfl ?_
    refine mr_lsub (pc' := 39) dX4_joined_38 rfl ?_
    obtain rfl := Option.some.inj h
    exact mr_lreturn dX4_joined_39 rfl
  rw [if_neg c2] at h
  by_cases c3 : v0 = (9 : Int32)
  · rw [if_pos c3] at h
    refine mr_sw_in (t := 40) (v := (9 : Int32)) dX4_joined_1 c3 rfl ?_
    refine mr_lload_n (pc' := 41) dX4_joined_40 rfl rfl ?_
    refine mr_lload_n (pc' := 42) dX4_joined_41 rfl rfl ?_
    refine mr_lmul (pc' := 43) dX4_joined_42 rfl ?_
    obtain rfl := Option.some.inj h
    exact mr_lreturn dX4_joined_43 rfl
  rw [if_neg c3] at h
  by_cases c4 : v0 = (10 : Int32)
  · rw [if_pos c4] at h
    refine mr_sw_in (t := 44) (v := (10 : Int32)) dX4_joined_1 c4 rfl ?_
    refine mr_lload_n (pc' := 45) dX4_joined_44 rfl rfl ?_
    refine mr_lconst (pc' := 46) (v := (0 : Int64)) dX4_joined_45 rfl (by decide) ?_
    by_cases c5 : v3 = (0 : Int64)
    · rw [if_pos c5] at h
      refine mr_lcmp_ne_f (t := 54) (pc' := 50) dX4_joined_46 rfl dX4_joined_47 (by decide) rfl (not_not_intro c5) ?_
      refine mr_lconst (pc' := 51) (v := (0 : Int64)) dX4_joined_50 rfl (by decide) ?_
      refine mr_goto (t := 57) dX4_joined_51 (by decide) ?_
      obtain rfl := Option.some.inj h
      exact mr_lreturn dX4_joined_57 rfl
    · rw [if_neg c5] at h
      refine mr_lcmp_ne_t (t := 54) dX4_joined_46 rfl dX4_joined_47 (by decide) c5 ?_
      refine mr_lload_n (pc' := 55) dX4_joined_54 rfl rfl ?_
      refine mr_lload_n (pc' := 56) dX4_joined_55 rfl rfl ?_
      obtain ⟨a6, g7, h8⟩ := Option.bind_eq_some_iff.mp h
      refine mr_ldiv (pc' := 57) dX4_joined_56 rfl g7 ?_
      obtain rfl := Option.some.inj h8
      exact mr_lreturn dX4_joined_57 rfl
  rw [if_neg c4] at h
  refine mr_sw_out (t := 58) dX4_joined_1 (by have := i32ne c1 (k := 7) (by decide); have := i32ne c2 (k := 8) (by decide); have := i32ne c3 (k := 9) (by decide); have := i32ne c4 (k := 10) (by decide); omega) (by decide) ?_
  refine mr_iload_n (pc' := 59) dX4_joined_58 rfl rfl ?_
  refine mr_lload_n (pc' := 60) dX4_joined_59 rfl rfl ?_
  refine mr_lload_n (pc' := 61) dX4_joined_60 rfl rfl ?_
  obtain ⟨q9, g10, h11⟩ := Option.bind_eq_some_iff.mp h
  refine mr_cs (pc' := 64) (d1 := 0) dX4_joined_61 rfl rfl rfl rfl (by decide) (Nat.le_of_ble_eq_true rfl) rfl rfl rfl (by decide) (ok_X4_isSo hR  g10) ?_
  show mr X _ _ 64 _ [.int q9] (MM RR S) _
  by_cases c12 : q9 = (0 : Int32)
  · rw [if_pos c12] at h11
    refine mr_if_eq_t (t := 71) dX4_joined_64 (by decide) c12 ?_
    refine mr_lconst (pc' := 72) (v := (0 : Int64)) dX4_joined_71 rfl (by decide) ?_
    obtain rfl := Option.some.inj h11
    exact mr_lreturn dX4_joined_72 rfl
  · rw [if_neg c12] at h11
    refine mr_if_eq_f (t := 71) (pc' := 67) dX4_joined_64 (by decide) rfl c12 ?_
    refine mr_lconst (pc' := 68) (v := (1 : Int64)) dX4_joined_67 rfl (by decide) ?_
    refine mr_goto (t := 72) dX4_joined_68 (by decide) ?_
    obtain rfl := Option.some.inj h11
    exact mr_lreturn dX4_joined_72 rfl
def lp_X4_goalOf_8 (p0 : Nat) (p1 : Nat) (p2 : Nat) (p3 : Int32) (K : fS → Option (Int32 × fS)) : Nat → Int32 → fS → Option (Int32 × fS)
  | 0, _, _ => none
  | n + 1, p4, S0 =>
    if (S0.1 p0 2) ≤ p4 then (K S0) else
    (if (400 : Int32) ≤ p4 then (K S0) else
    ((gI S0 (p0 + 1) 400 p4).bind fun a6 =>
    (gI S0 (p0 + 1) 400 p4).bind fun a9 =>
    if (a6 &&& (31 : Int32)) = (0 : Int32) then (some ((a9 >>> ((5 : Int32) &&& 31)), S0)) else
    (if (a6 &&& (31 : Int32)) = (1 : Int32) then ((f_X4_pop p0 S0).bind fun q48 =>
    if q48.1 = (0 : Int64) then (lp_X4_goalOf_8 p0 p1 p2 p3 K n (p4 + (1 : Int32)) q48.2) else
    (some ((a9 >>> ((5 : Int32) &&& 31)), q48.2))) else
    (if (a6 &&& (31 : Int32)) = (2 : Int32) then ((f_X4_push p0 (Int32.toInt64 (a9 >>> ((5 : Int32) &&& 31))) S0).bind fun q45 =>
    lp_X4_goalOf_8 p0 p1 p2 p3 K n (p4 + (1 : Int32)) q45) else
    (if (a6 &&& (31 : Int32)) = (3 : Int32) then ((f_X0_wordOf p2 p1 p3 (a9 >>> ((5 : Int32) &&& 31)) S0).bind fun q39 =>
    (f_X4_push p0 q39 S0).bind fun q42 =>
    lp_X4_goalOf_8 p0 p1 p2 p3 K n (p4 + (1 : Int32)) q42) else
    (if (a6 &&& (31 : Int32)) = (4 : Int32) then ((f_X4_pop p0 S0).bind fun q29 =>
    if q29.1 = (0 : Int64) then ((f_X4_push p0 (1 : Int64) q29.2).bind fun q36 =>
    lp_X4_goalOf_8 p0 p1 p2 p3 K n (p4 + (1 : Int32)) q36) else
    ((f_X4_push p0 (0 : Int64) q29.2).bind fun q33 =>
    lp_X4_goalOf_8 p0 p1 p2 p3 K n (p4 + (1 : Int32)) q33)) else
    ((f_X4_pop p0 S0).bind fun q17 =>
    (f_X4_pop p0 q17.2).bind fun q20 =>
    (f_X4_joined (a6 &&& (31 : Int32)) q20.1 q17.1 q20.2).bind fun q23 =>
    (f_X4_push p0 q23 q20.2).bind fun q26 =>
    lp_X4_goalOf_8 p0 p1 p2 p3 K n (p4 + (1 : Int32)) q26)))))))
set_option maxHeartbeats 4000000 in
set_option maxRecDepth 100000 in
theorem ok_lp_X4_goalOf_8 {X : mm_C} {RR : Nat → Nat → Option Nat} (hR : RRok RR) {p0 : Nat} {p1 : Nat} {p2 : Nat} {p3 : Int32} (t0 : tg p0 = 4) (t1 : tg p1 = 8) (t2 : tg p2 = 0) {K : fS → Option (Int32 × fS)} {r : Int32 × fS} (hK : ∀ (Sk : fS), K Sk = some r → mr X 2 mY_X4_goalOf 165 [] [] (MM RR Sk) (some (.int r.1), MM RR r.2)) : ∀ (n : Nat) (p4 : Int32) (S0 : fS), lp_X4_goalOf_8 p0 p1 p2 p3 K n p4 S0 = some r → mr X 2 mY_X4_goalOf 8 [(0, .ref p0), (1, .ref p1), (2, .ref p2), (3, .int p3), (4, .int p4)] [] (MM RR S0) (some (.int r.1), MM RR r.2) := by
  intro n
  induction n with
  | zero => intro p4 S0 h; exact mm_no h
  | succ n ih =>
    intro p4 S0 h
    unfold lp_X4_goalOf_8 at h
    refine mr_iload (pc' := 10) dX4_goalOf_8 rfl rfl ?_
    refine mr_aload_n (pc' := 11) dX4_goalOf_10 rfl rfl ?_
    refine mr_getI (pc' := 14) (ci := 4) (j := 2) dX4_goalOf_11 rfl rfl t0 (by decide) (by decide) rfl ?_
    by_cases c4 : (S0.1 p0 2) ≤ p4
    · rw [if_pos c4] at h
      refine mr_icmp_ge_t (t := 165) dX4_goalOf_14 (by decide) c4 ?_
      exact mr_sub [] trivial rfl (hK _  h)
    · rw [if_neg c4] at h
      refine mr_icmp_ge_f (t := 165) (pc' := 17) dX4_goalOf_14 (by decide) rfl c4 ?_
      refine mr_iload (pc' := 19) dX4_goalOf_17 rfl rfl ?_
      refine mr_sipush (pc' := 22) (v := (400 : Int32)) dX4_goalOf_19 rfl (by decide) ?_
      by_cases c5 : (400 : Int32) ≤ p4
      · rw [if_pos c5] at h
        refine mr_icmp_ge_t (t := 165) dX4_goalOf_22 (by decide) c5 ?_
        exact mr_sub [] trivial rfl (hK _  h)
      · rw [if_neg c5] at h
        refine mr_icmp_ge_f (t := 165) (pc' := 25) dX4_goalOf_22 (by decide) rfl c5 ?_
        refine mr_aload_n (pc' := 26) dX4_goalOf_25 rfl rfl ?_
        refine mr_getR (pc' := 29) (ci := 4) (j := 0) (b := (p0 + 1)) hR dX4_goalOf_26 rfl rfl t0 (by decide) (by decide) (by decide) rfl (ly4_0 t0).1 ?_
        refine mr_iload (pc' := 31) dX4_goalOf_29 rfl rfl ?_
        obtain ⟨a6, g7, h8⟩ := Option.bind_eq_some_iff.mp h
        refine mr_iald (pc' := 32) dX4_goalOf_31 rfl (ly4_0 t0).2.1 (ly4_0 t0).2.2 g7 ?_
        refine mr_bipush (pc' := 34) (v := (31 : Int32)) dX4_goalOf_32 rfl (by decide) ?_
        refine mr_iand (pc' := 35) dX4_goalOf_34 rfl ?_
        refine mr_istore (pc' := 37) (lv' := [(5, .int (a6 &&& (31 : Int32))), (0, .ref p0), (1, .ref p1), (2, .ref p2), (3, .int p3), (4, .int p4)]) dX4_goalOf_35 rfl (by decide) rfl ?_
        refine mr_aload_n (pc' := 38) dX4_goalOf_37 rfl rfl ?_
        refine mr_getR (pc' := 41) (ci := 4) (j := 0) (b := (p0 + 1)) hR dX4_goalOf_38 rfl rfl t0 (by decide) (by decide) (by decide) rfl (ly4_0 t0).1 ?_
        refine mr_iload (pc' := 43) dX4_goalOf_41 rfl rfl ?_
        obtain ⟨a9, g10, h11⟩ := Option.bind_eq_some_iff.mp h8
        refine mr_iald (pc' := 44) dX4_goalOf_43 rfl (ly4_0 t0).2.1 (ly4_0 t0).2.2 g10 ?_
        refine mr_iconst (pc' := 45) (v := (5 : Int32)) dX4_goalOf_44 rfl (by decide) ?_
        refine mr_ishr (pc' := 46) dX4_goalOf_45 rfl ?_
        refine mr_istore (pc' := 48) (lv' := [(6, .int (a9 >>> ((5 : Int32) &&& 31))), (5, .int (a6 &&& (31 : Int32))), (0, .ref p0), (1, .ref p1), (2, .ref p2), (3, .int p3), (4, .int p4)]) dX4_goalOf_46 rfl (by decide) rfl ?_
        refine mr_iload (pc' := 50) dX4_goalOf_48 rfl rfl ?_
        by_cases c12 : (a6 &&& (31 : Int32)) = (0 : Int32)
        · rw [if_pos c12] at h11
          refine mr_if_ne_f (t := 56) (pc' := 53) dX4_goalOf_50 (by decide) rfl (not_not_intro c12) ?_
          refine mr_iload (pc' := 55) dX4_goalOf_53 rfl rfl ?_
          obtain rfl := Option.some.inj h11
          exact mr_ireturn dX4_goalOf_55 rfl
        · rw [if_neg c12] at h11
          refine mr_if_ne_t (t := 56) dX4_goalOf_50 (by decide) c12 ?_
          refine mr_iload (pc' := 58) dX4_goalOf_56 rfl rfl ?_
          refine mr_iconst (pc' := 59) (v := (1 : Int32)) dX4_goalOf_58 rfl (by decide) ?_
          by_cases c13 : (a6 &&& (31 : Int32)) = (1 : Int32)
          · rw [if_pos c13] at h11
            refine mr_icmp_ne_f (t := 74) (pc' := 62) dX4_goalOf_59 (by decide) rfl (not_not_intro c13) ?_
            refine mr_aload_n (pc' := 63) dX4_goalOf_62 rfl rfl ?_
            obtain ⟨q48, g49, h50⟩ := Option.bind_eq_some_iff.mp h11
            refine mr_cv (pc' := 66) (a := p0) (d1 := 0) dX4_goalOf_63 rfl rfl rfl rfl rfl t0 (by decide) rfl (by decide) (ok_X4_pop hR t0 g49) ?_
            show mr X _ _ 66 _ [.long q48.1] (MM RR q48.2) _
            refine mr_lconst (pc' := 67) (v := (0 : Int64)) dX4_goalOf_66 rfl (by decide) ?_
            by_cases c51 : q48.1 = (0 : Int64)
            · rw [if_pos c51] at h50
              refine mr_lcmp_eq_t (t := 159) dX4_goalOf_67 rfl dX4_goalOf_68 (by decide) c51 ?_
              refine mr_iinc (pc' := 162) (x' := (p4 + (1 : Int32))) (lv' := [(4, .int (p4 + (1 : Int32))), (6, .int (a9 >>> ((5 : Int32) &&& 31))), (5, .int (a6 &&& (31 : Int32))), (0, .ref p0), (1, .ref p1), (2, .ref p2), (3, .int p3)]) dX4_goalOf_159 rfl (by decide) rfl rfl rfl ?_
              refine mr_goto (t := 8) dX4_goalOf_162 (by decide) ?_
              exact mr_sub [(0, .ref p0), (1, .ref p1), (2, .ref p2), (3, .int p3), (4, .int (p4 + (1 : Int32)))] ⟨rfl, rfl, rfl, rfl, rfl, trivial⟩ rfl (ih _ _  h50)
            · rw [if_neg c51] at h50
              refine mr_lcmp_eq_f (t := 159) (pc' := 71) dX4_goalOf_67 rfl dX4_goalOf_68 (by decide) rfl c51 ?_
              refine mr_iload (pc' := 73) dX4_goalOf_71 rfl rfl ?_
              obtain rfl := Option.some.inj h50
              exact mr_ireturn dX4_goalOf_73 rfl
          · rw [if_neg c13] at h11
            refine mr_icmp_ne_t (t := 74) dX4_goalOf_59 (by decide) c13 ?_
            refine mr_iload (pc' := 76) dX4_goalOf_74 rfl rfl ?_
            refine mr_iconst (pc' := 77) (v := (2 : Int32)) dX4_goalOf_76 rfl (by decide) ?_
            by_cases c14 : (a6 &&& (31 : Int32)) = (2 : Int32)
            · rw [if_pos c14] at h11
              refine mr_icmp_ne_f (t := 90) (pc' := 80) dX4_goalOf_77 (by decide) rfl (not_not_intro c14) ?_
              refine mr_aload_n (pc' := 81) dX4_goalOf_80 rfl rfl ?_
              refine mr_iload (pc' := 83) dX4_goalOf_81 rfl rfl ?_
              refine mr_i2l (pc' := 84) dX4_goalOf_83 rfl ?_
              obtain ⟨q45, g46, h47⟩ := Option.bind_eq_some_iff.mp h11
              refine mr_cv (pc' := 87) (a := p0) (d1 := 0) dX4_goalOf_84 rfl rfl rfl rfl rfl t0 (by decide) rfl (by decide) (ok_X4_push hR t0 g46) ?_
              show mr X _ _ 87 _ [] (MM RR q45) _
              refine mr_goto (t := 159) dX4_goalOf_87 (by decide) ?_
              refine mr_iinc (pc' := 162) (x' := (p4 + (1 : Int32))) (lv' := [(4, .int (p4 + (1 : Int32))), (6, .int (a9 >>> ((5 : Int32) &&& 31))), (5, .int (a6 &&& (31 : Int32))), (0, .ref p0), (1, .ref p1), (2, .ref p2), (3, .int p3)]) dX4_goalOf_159 rfl (by decide) rfl rfl rfl ?_
              refine mr_goto (t := 8) dX4_goalOf_162 (by decide) ?_
              exact mr_sub [(0, .ref p0), (1, .ref p1), (2, .ref p2), (3, .int p3), (4, .int (p4 + (1 : Int32)))] ⟨rfl, rfl, rfl, rfl, rfl, trivial⟩ rfl (ih _ _  h47)
            · rw [if_neg c14] at h11
              refine mr_icmp_ne_t (t := 90) dX4_goalOf_77 (by decide) c14 ?_
              refine mr_iload (pc' := 92) dX4_goalOf_90 rfl rfl ?_
              refine mr_iconst (pc' := 93) (v := (3 : Int32)) dX4_goalOf_92 rfl (by decide) ?_
              by_cases c15 : (a6 &&& (31 : Int32)) = (3 : Int32)
              · rw [if_pos c15] at h11
                refine mr_icmp_ne_f (t := 111) (pc' := 96) dX4_goalOf_93 (by decide) rfl (not_not_intro c15) ?_
                refine mr_aload_n (pc' := 97) dX4_goalOf_96 rfl rfl ?_
                refine mr_aload_n (pc' := 98) dX4_goalOf_97 rfl rfl ?_
                refine mr_aload_n (pc' := 99) dX4_goalOf_98 rfl rfl ?_
                refine mr_iload_n (pc' := 100) dX4_goalOf_99 rfl rfl ?_
                refine mr_iload (pc' := 102) dX4_goalOf_100 rfl rfl ?_
                obtain ⟨q39, g40, h41⟩ := Option.bind_eq_some_iff.mp h11
                refine mr_cv (pc' := 105) (a := p2) (d1 := 1) dX4_goalOf_102 rfl rfl rfl rfl rfl t2 (by decide) rfl (by decide) (ok_X0_wordOf hR t2 t1 g40) ?_
                show mr X _ _ 105 _ [.long q39, .ref p0] (MM RR S0) _
                obtain ⟨q42, g43, h44⟩ := Option.bind_eq_some_iff.mp h41
                refine mr_cv (pc' := 108) (a := p0) (d1 := 0) dX4_goalOf_105 rfl rfl rfl rfl rfl t0 (by decide) rfl (by decide) (ok_X4_push hR t0 g43) ?_
                show mr X _ _ 108 _ [] (MM RR q42) _
                refine mr_goto (t := 159) dX4_goalOf_108 (by decide) ?_
                refine mr_iinc (pc' := 162) (x' := (p4 + (1 : Int32))) (lv' := [(4, .int (p4 + (1 : Int32))), (6, .int (a9 >>> ((5 : Int32) &&& 31))), (5, .int (a6 &&& (31 : Int32))), (0, .ref p0), (1, .ref p1), (2, .ref p2), (3, .int p3)]) dX4_goalOf_159 rfl (by decide) rfl rfl rfl ?_
                refine mr_goto (t := 8) dX4_goalOf_162 (by decide) ?_
                exact mr_sub [(0, .ref p0), (1, .ref p1), (2, .ref p2), (3, .int p3), (4, .int (p4 + (1 : Int32)))] ⟨rfl, rfl, rfl, rfl, rfl, trivial⟩ rfl (ih _ _  h44)
              · rw [if_neg c15] at h11
                refine mr_icmp_ne_t (t := 111) dX4_goalOf_93 (by decide) c15 ?_
                refine mr_iload (pc' := 113) dX4_goalOf_111 rfl rfl ?_
                refine mr_iconst (pc' := 114) (v := (4 : Int32)) dX4_goalOf_113 rfl (by decide) ?_
                by_cases c16 : (a6 &&& (31 : Int32)) = (4 : Int32)
                · rw [if_pos c16] at h11
                  refine mr_icmp_ne_f (t := 138) (pc' := 117) dX4_goalOf_114 (by decide) rfl (not_not_intro c16) ?_
                  refine mr_aload_n (pc' := 118) dX4_goalOf_117 rfl rfl ?_
                  refine mr_aload_n (pc' := 119) dX4_goalOf_118 rfl rfl ?_
                  obtain ⟨q29, g30, h31⟩ := Option.bind_eq_some_iff.mp h11
                  refine mr_cv (pc' := 122) (a := p0) (d1 := 0) dX4_goalOf_119 rfl rfl rfl rfl rfl t0 (by decide) rfl (by decide) (ok_X4_pop hR t0 g30) ?_
                  show mr X _ _ 122 _ [.long q29.1, .ref p0] (MM RR q29.2) _
                  refine mr_lconst (pc' := 123) (v := (0 : Int64)) dX4_goalOf_122 rfl (by decide) ?_
                  by_cases c32 : q29.1 = (0 : Int64)
                  · rw [if_pos c32] at h31
                    refine mr_lcmp_ne_f (t := 131) (pc' := 127) dX4_goalOf_123 rfl dX4_goalOf_124 (by decide) rfl (not_not_intro c32) ?_
                    refine mr_lconst (pc' := 128) (v := (1 : Int64)) dX4_goalOf_127 rfl (by decide) ?_
                    refine mr_goto (t := 132) dX4_goalOf_128 (by decide) ?_
                    obtain ⟨q36, g37, h38⟩ := Option.bind_eq_some_iff.mp h31
                    refine mr_cv (pc' := 135) (a := p0) (d1 := 0) dX4_goalOf_132 rfl rfl rfl rfl rfl t0 (by decide) rfl (by decide) (ok_X4_push hR t0 g37) ?_
                    show mr X _ _ 135 _ [] (MM RR q36) _
                    refine mr_goto (t := 159) dX4_goalOf_135 (by decide) ?_
                    refine mr_iinc (pc' := 162) (x' := (p4 + (1 : Int32))) (lv' := [(4, .int (p4 + (1 : Int32))), (6, .int (a9 >>> ((5 : Int32) &&& 31))), (5, .int (a6 &&& (31 : Int32))), (0, .ref p0), (1, .ref p1), (2, .ref p2), (3, .int p3)]) dX4_goalOf_159 rfl (by decide) rfl rfl rfl ?_
                    refine mr_goto (t := 8) dX4_goalOf_162 (by decide) ?_
                    exact mr_sub [(0, .ref p0), (1, .ref p1), (2, .ref p2), (3, .int p3), (4, .int (p4 + (1 : Int32)))] ⟨rfl, rfl, rfl, rfl, rfl, trivial⟩ rfl (ih _ _  h38)
                  · rw [if_neg c32] at h31
                    refine mr_lcmp_ne_t (t := 131) dX4_goalOf_123 rfl dX4_goalOf_124 (by decide) c32 ?_
                    refine mr_lconst (pc' := 132) (v := (0 : Int64)) dX4_goalOf_131 rfl (by decide) ?_
                    obtain ⟨q33, g34, h35⟩ := Option.bind_eq_some_iff.mp h31
                    refine mr_cv (pc' := 135) (a := p0) (d1 := 0) dX4_goalOf_132 rfl rfl rfl rfl rfl t0 (by decide) rfl (by decide) (ok_X4_push hR t0 g34) ?_
                    show mr X _ _ 135 _ [] (MM RR q33) _
                    refine mr_goto (t := 159) dX4_goalOf_135 (by decide) ?_
                    refine mr_iinc (pc' := 162) (x' := (p4 + (1 : Int32))) (lv' := [(4, .int (p4 + (1 : Int32))), (6, .int (a9 >>> ((5 : Int32) &&& 31))), (5, .int (a6 &&& (31 : Int32))), (0, .ref p0), (1, .ref p1), (2, .ref p2), (3, .int p3)]) dX4_goalOf_159 rfl (by decide) rfl rfl rfl ?_
                    refine mr_goto (t := 8) dX4_goalOf_162 (by decide) ?_
                    exact mr_sub [(0, .ref p0), (1, .ref p1), (2, .ref p2), (3, .int p3), (4, .int (p4 + (1 : Int32)))] ⟨rfl, rfl, rfl, rfl, rfl, trivial⟩ rfl (ih _ _  h35)
                · rw [if_neg c16] at h11
                  refine mr_icmp_ne_t (t := 138) dX4_goalOf_114 (by decide) c16 ?_
                  refine mr_aload_n (pc' := 139) dX4_goalOf_138 rfl rfl ?_
                  obtain ⟨q17, g18, h19⟩ := Option.bind_eq_some_iff.mp h11
                  refine mr_cv (pc' := 142) (a := p0) (d1 := 0) dX4_goalOf_139 rfl rfl rfl rfl rfl t0 (by decide) rfl (by decide) (ok_X4_pop hR t0 g18) ?_
                  show mr X _ _ 142 _ [.long q17.1] (MM RR q17.2) _
                  refine mr_lstore (pc' := 144) (lv' := [(7, .long q17.1), (6, .int (a9 >>> ((5 : Int32) &&& 31))), (5, .int (a6 &&& (31 : Int32))), (0, .ref p0), (1, .ref p1), (2, .ref p2), (3, .int p3), (4, .int p4)]) dX4_goalOf_142 rfl (by decide) rfl ?_
                  refine mr_aload_n (pc' := 145) dX4_goalOf_144 rfl rfl ?_
                  refine mr_iload (pc' := 147) dX4_goalOf_145 rfl rfl ?_
                  refine mr_aload_n (pc' := 148) dX4_goalOf_147 rfl rfl ?_
                  obtain ⟨q20, g21, h22⟩ := Option.bind_eq_some_iff.mp h19
                  refine mr_cv (pc' := 151) (a := p0) (d1 := 0) dX4_goalOf_148 rfl rfl rfl rfl rfl t0 (by decide) rfl (by decide) (ok_X4_pop hR t0 g21) ?_
                  show mr X _ _ 151 _ [.long q20.1, .int (a6 &&& (31 : Int32)), .ref p0] (MM RR q20.2) _
                  refine mr_lload (pc' := 153) dX4_goalOf_151 rfl rfl ?_
                  obtain ⟨q23, g24, h25⟩ := Option.bind_eq_some_iff.mp h22
                  refine mr_cs (pc' := 156) (d1 := 1) dX4_goalOf_153 rfl rfl rfl rfl (by decide) (Nat.le_of_ble_eq_true rfl) rfl rfl rfl (by decide) (ok_X4_joined hR  g24) ?_
                  show mr X _ _ 156 _ [.long q23, .ref p0] (MM RR q20.2) _
                  obtain ⟨q26, g27, h28⟩ := Option.bind_eq_some_iff.mp h25
                  refine mr_cv (pc' := 159) (a := p0) (d1 := 0) dX4_goalOf_156 rfl rfl rfl rfl rfl t0 (by decide) rfl (by decide) (ok_X4_push hR t0 g27) ?_
                  show mr X _ _ 159 _ [] (MM RR q26) _
                  refine mr_iinc (pc' := 162) (x' := (p4 + (1 : Int32))) (lv' := [(4, .int (p4 + (1 : Int32))), (7, .long q17.1), (6, .int (a9 >>> ((5 : Int32) &&& 31))), (5, .int (a6 &&& (31 : Int32))), (0, .ref p0), (1, .ref p1), (2, .ref p2), (3, .int p3)]) dX4_goalOf_159 rfl (by decide) rfl rfl rfl ?_
                  refine mr_goto (t := 8) dX4_goalOf_162 (by decide) ?_
                  exact mr_sub [(0, .ref p0), (1, .ref p1), (2, .ref p2), (3, .int p3), (4, .int (p4 + (1 : Int32)))] ⟨rfl, rfl, rfl, rfl, rfl, trivial⟩ rfl (ih _ _  h28)
def f_X4_goalOf (v0 : Nat) (v1 : Nat) (v2 : Nat) (v3 : Int32) (S : fS) : Option (Int32 × fS) :=
  (some (pI S v0 3 (0 : Int32))).bind fun S1 =>
  lp_X4_goalOf_8 v0 v1 v2 v3 (fun S52 => some ((-1 : Int32), S52)) FU (0 : Int32) S1
set_option maxHeartbeats 4000000 in
set_option maxRecDepth 100000 in
theorem ok_X4_goalOf {X : mm_C} {RR : Nat → Nat → Option Nat} (hR : RRok RR) {v0 : Nat} {v1 : Nat} {v2 : Nat} {v3 : Int32} (t0 : tg v0 = 4) (t1 : tg v1 = 8) (t2 : tg v2 = 0) {S : fS} {r : Int32 × fS} (h : f_X4_goalOf v0 v1 v2 v3 S = some r) : mr X 2 mY_X4_goalOf 0 (lv_args 0 [.ref v0, .ref v1, .ref v2, .int v3]) [] (MM RR S) (some (.int r.1), MM RR r.2) := by
  unfold f_X4_goalOf at h
  show mr X _ _ 0 [(0, .ref v0), (1, .ref v1), (2, .ref v2), (3, .int v3)] [] (MM RR S) _
  refine mr_aload_n (pc' := 1) dX4_goalOf_0 rfl rfl ?_
  refine mr_iconst (pc' := 2) (v := (0 : Int32)) dX4_goalOf_1 rfl (by decide) ?_
  obtain ⟨S1, g2, h3⟩ := Option.bind_eq_some_iff.mp h
  refine mr_putI (pc' := 5) (ci := 4) (j := 3) dX4_goalOf_2 rfl rfl t0 (by decide) (by decide) rfl rfl ?_
  rw [Option.some.inj g2]
  refine mr_iconst (pc' := 6) (v := (0 : Int32)) dX4_goalOf_5 rfl (by decide) ?_
  refine mr_istore (pc' := 8) (lv' := [(4, .int (0 : Int32)), (0, .ref v0), (1, .ref v1), (2, .ref v2), (3, .int v3)]) dX4_goalOf_6 rfl (by decide) rfl ?_
  refine mr_sub [(0, .ref v0), (1, .ref v1), (2, .ref v2), (3, .int v3), (4, .int (0 : Int32))] ⟨rfl, rfl, rfl, rfl, rfl, trivial⟩ rfl ?_
  refine ok_lp_X4_goalOf_8 hR t0 t1 t2 (fun S52 h53 => ?_) FU _ _  h3
  refine mr_iconst (pc' := 166) (v := (-1 : Int32)) dX4_goalOf_165 rfl (by decide) ?_
  obtain rfl := Option.some.inj h53
  exact mr_ireturn dX4_goalOf_166 rfl
def lp_X8_firstStair_10 (p0 : Nat) (p1 : Int32) (p2 : Int32) (p3 : Int32) (S : fS) (K : Unit → Option (Int32)) : Nat → Int32 → Option (Int32)
  | 0, _ => none
  | n + 1, p4 =>
    if (S.1 p0 7) ≤ p4 then (K ()) else
    (if p3 ≤ (0 : Int32) then (K ()) else
    ((f_X8_otherEnd p0 p4 p1 S).bind fun q6 =>
    if (0 : Int32) ≤ q6 then ((f_X8_hoursBetween p0 q6 p2 S).bind fun q10 =>
    if q10 < (0 : Int32) then (lp_X8_firstStair_10 p0 p1 p2 p3 S K n (p4 + (1 : Int32))) else
    ((gI S (p0 + 4) 12 p4).bind fun a14 =>
    if (a14 + q10) = p3 then (some p4) else
    (lp_X8_firstStair_10 p0 p1 p2 p3 S K n (p4 + (1 : Int32))))) else
    (if (-1 : Int32) < (0 : Int32) then (lp_X8_firstStair_10 p0 p1 p2 p3 S K n (p4 + (1 : Int32))) else
    ((gI S (p0 + 4) 12 p4).bind fun a19 =>
    if (a19 + (-1 : Int32)) = p3 then (some p4) else
    (lp_X8_firstStair_10 p0 p1 p2 p3 S K n (p4 + (1 : Int32)))))))
set_option maxHeartbeats 4000000 in
set_option maxRecDepth 100000 in
theorem ok_lp_X8_firstStair_10 {X : mm_C} {RR : Nat → Nat → Option Nat} (hR : RRok RR) {p0 : Nat} {p1 : Int32} {p2 : Int32} {p3 : Int32} (t0 : tg p0 = 8) {S : fS} {K : Unit → Option (Int32)} {r : Int32} (hK : ∀ (_ : Unit), K () = some r → mr X 1 mY_X8_firstStair 78 [] [] (MM RR S) (some (.int r), MM RR S)) : ∀ (n : Nat) (p4 : Int32), lp_X8_firstStair_10 p0 p1 p2 p3 S K n p4 = some r → mr X 1 mY_X8_firstStair 10 [(0, .ref p0), (1, .int p1), (2, .int p2), (3, .int p3), (4, .int p4)] [] (MM RR S) (some (.int r), MM RR S) := by
  intro n
  induction n with
  | zero => intro p4 h; exact mm_no h
  | succ n ih =>
    intro p4 h
    unfold lp_X8_firstStair_10 at h
    refine mr_iload (pc' := 12) dX8_firstStair_10 rfl rfl ?_
    refine mr_aload_n (pc' := 13) dX8_firstStair_12 rfl rfl ?_
    refine mr_getI (pc' := 16) (ci := 8) (j := 7) dX8_firstStair_13 rfl rfl t0 (by decide) (by decide) rfl ?_
    by_cases c4 : (S.1 p0 7) ≤ p4
    · rw [if_pos c4] at h
      refine mr_icmp_ge_t (t := 78) dX8_firstStair_16 (by decide) c4 ?_
      exact mr_sub [] trivial rfl (hK () h)
    · rw [if_neg c4] at h
      refine mr_icmp_ge_f (t := 78) (pc' := 19) dX8_firstStair_16 (by decide) rfl c4 ?_
      refine mr_iload_n (pc' := 20) dX8_firstStair_19 rfl rfl ?_
      by_cases c5 : p3 ≤ (0 : Int32)
      · rw [if_pos c5] at h
        refine mr_if_le_t (t := 78) dX8_firstStair_20 (by decide) c5 ?_
        exact mr_sub [] trivial rfl (hK () h)
      · rw [if_neg c5] at h
        refine mr_if_le_f (t := 78) (pc' := 23) dX8_firstStair_20 (by decide) rfl c5 ?_
        refine mr_aload_n (pc' := 24) dX8_firstStair_23 rfl rfl ?_
        refine mr_iload (pc' := 26) dX8_firstStair_24 rfl rfl ?_
        refine mr_iload_n (pc' := 27) dX8_firstStair_26 rfl rfl ?_
        obtain ⟨q6, g7, h8⟩ := Option.bind_eq_some_iff.mp h
        refine mr_cv (pc' := 30) (a := p0) (d1 := 0) dX8_firstStair_27 rfl rfl rfl rfl rfl t0 (by decide) rfl (by decide) (ok_X8_otherEnd hR t0 g7) ?_
        show mr X _ _ 30 _ [.int q6] (MM RR S) _
        refine mr_istore (pc' := 32) (lv' := [(5, .int q6), (0, .ref p0), (1, .int p1), (2, .int p2), (3, .int p3), (4, .int p4)]) dX8_firstStair_30 rfl (by decide) rfl ?_
        refine mr_iload (pc' := 34) dX8_firstStair_32 rfl rfl ?_
        by_cases c9 : (0 : Int32) ≤ q6
        · rw [if_pos c9] at h8
          refine mr_if_ge_t (t := 41) dX8_firstStair_34 (by decide) c9 ?_
          refine mr_aload_n (pc' := 42) dX8_firstStair_41 rfl rfl ?_
          refine mr_iload (pc' := 44) dX8_firstStair_42 rfl rfl ?_
          refine mr_iload_n (pc' := 45) dX8_firstStair_44 rfl rfl ?_
          obtain ⟨q10, g11, h12⟩ := Option.bind_eq_some_iff.mp h8
          refine mr_cv (pc' := 48) (a := p0) (d1 := 0) dX8_firstStair_45 rfl rfl rfl rfl rfl t0 (by decide) rfl (by decide) (ok_X8_hoursBetween hR t0 g11) ?_
          show mr X _ _ 48 _ [.int q10] (MM RR S) _
          refine mr_istore (pc' := 50) (lv' := [(6, .int q10), (5, .int q6), (0, .ref p0), (1, .int p1), (2, .int p2), (3, .int p3), (4, .int p4)]) dX8_firstStair_48 rfl (by decide) rfl ?_
          refine mr_iload (pc' := 52) dX8_firstStair_50 rfl rfl ?_
          by_cases c13 : q10 < (0 : Int32)
          · rw [if_pos c13] at h12
            refine mr_if_lt_t (t := 72) dX8_firstStair_52 (by decide) c13 ?_
            refine mr_iinc (pc' := 75) (x' := (p4 + (1 : Int32))) (lv' := [(4, .int (p4 + (1 : Int32))), (6, .int q10), (5, .int q6), (0, .ref p0), (1, .int p1), (2, .int p2), (3, .int p3)]) dX8_firstStair_72 rfl (by decide) rfl rfl rfl ?_
            refine mr_goto (t := 10) dX8_firstStair_75 (by decide) ?_
            exact mr_sub [(0, .ref p0), (1, .int p1), (2, .int p2), (3, .int p3), (4, .int (p4 + (1 : Int32)))] ⟨rfl, rfl, rfl, rfl, rfl, trivial⟩ rfl (ih _  h12)
          · rw [if_neg c13] at h12
            refine mr_if_lt_f (t := 72) (pc' := 55) dX8_firstStair_52 (by decide) rfl c13 ?_
            refine mr_aload_n (pc' := 56) dX8_firstStair_55 rfl rfl ?_
            refine mr_getR (pc' := 59) (ci := 8) (j := 3) (b := (p0 + 4)) hR dX8_firstStair_56 rfl rfl t0 (by decide) (by decide) (by decide) rfl (ly8_3 t0).1 ?_
            refine mr_iload (pc' := 61) dX8_firstStair_59 rfl rfl ?_
            obtain ⟨a14, g15, h16⟩ := Option.bind_eq_some_iff.mp h12
            refine mr_iald (pc' := 62) dX8_firstStair_61 rfl (ly8_3 t0).2.1 (ly8_3 t0).2.2 g15 ?_
            refine mr_iload (pc' := 64) dX8_firstStair_62 rfl rfl ?_
            refine mr_iadd (pc' := 65) dX8_firstStair_64 rfl ?_
            refine mr_iload_n (pc' := 66) dX8_firstStair_65 rfl rfl ?_
            by_cases c17 : (a14 + q10) = p3
            · rw [if_pos c17] at h16
              refine mr_icmp_ne_f (t := 72) (pc' := 69) dX8_firstStair_66 (by decide) rfl (not_not_intro c17) ?_
              refine mr_iload (pc' := 71) dX8_firstStair_69 rfl rfl ?_
              obtain rfl := Option.some.inj h16
              exact mr_ireturn dX8_firstStair_71 rfl
            · rw [if_neg c17] at h16
              refine mr_icmp_ne_t (t := 72) dX8_firstStair_66 (by decide) c17 ?_
              refine mr_iinc (pc' := 75) (x' := (p4 + (1 : Int32))) (lv' := [(4, .int (p4 + (1 : Int32))), (6, .int q10), (5, .int q6), (0, .ref p0), (1, .int p1), (2, .int p2), (3, .int p3)]) dX8_firstStair_72 rfl (by decide) rfl rfl rfl ?_
              refine mr_goto (t := 10) dX8_firstStair_75 (by decide) ?_
              exact mr_sub [(0, .ref p0), (1, .int p1), (2, .int p2), (3, .int p3), (4, .int (p4 + (1 : Int32)))] ⟨rfl, rfl, rfl, rfl, rfl, trivial⟩ rfl (ih _  h16)
        · rw [if_neg c9] at h8
          refine mr_if_ge_f (t := 41) (pc' := 37) dX8_firstStair_34 (by decide) rfl c9 ?_
          refine mr_iconst (pc' := 38) (v := (-1 : Int32)) dX8_firstStair_37 rfl (by decide) ?_
          refine mr_goto (t := 48) dX8_firstStair_38 (by decide) ?_
          refine mr_istore (pc' := 50) (lv' := [(6, .int (-1 : Int32)), (5, .int q6), (0, .ref p0), (1, .int p1), (2, .int p2), (3, .int p3), (4, .int p4)]) dX8_firstStair_48 rfl (by decide) rfl ?_
          refine mr_iload (pc' := 52) dX8_firstStair_50 rfl rfl ?_
          by_cases c18 : (-1 : Int32) < (0 : Int32)
          · rw [if_pos c18] at h8
            refine mr_if_lt_t (t := 72) dX8_firstStair_52 (by decide) c18 ?_
            refine mr_iinc (pc' := 75) (x' := (p4 + (1 : Int32))) (lv' := [(4, .int (p4 + (1 : Int32))), (6, .int (-1 : Int32)), (5, .int q6), (0, .ref p0), (1, .int p1), (2, .int p2), (3, .int p3)]) dX8_firstStair_72 rfl (by decide) rfl rfl rfl ?_
            refine mr_goto (t := 10) dX8_firstStair_75 (by decide) ?_
            exact mr_sub [(0, .ref p0), (1, .int p1), (2, .int p2), (3, .int p3), (4, .int (p4 + (1 : Int32)))] ⟨rfl, rfl, rfl, rfl, rfl, trivial⟩ rfl (ih _  h8)
          · rw [if_neg c18] at h8
            refine mr_if_lt_f (t := 72) (pc' := 55) dX8_firstStair_52 (by decide) rfl c18 ?_
            refine mr_aload_n (pc' := 56) dX8_firstStair_55 rfl rfl ?_
            refine mr_getR (pc' := 59) (ci := 8) (j := 3) (b := (p0 + 4)) hR dX8_firstStair_56 rfl rfl t0 (by decide) (by decide) (by decide) rfl (ly8_3 t0).1 ?_
            refine mr_iload (pc' := 61) dX8_firstStair_59 rfl rfl ?_
            obtain ⟨a19, g20, h21⟩ := Option.bind_eq_some_iff.mp h8
            refine mr_iald (pc' := 62) dX8_firstStair_61 rfl (ly8_3 t0).2.1 (ly8_3 t0).2.2 g20 ?_
            refine mr_iload (pc' := 64) dX8_firstStair_62 rfl rfl ?_
            refine mr_iadd (pc' := 65) dX8_firstStair_64 rfl ?_
            refine mr_iload_n (pc' := 66) dX8_firstStair_65 rfl rfl ?_
            by_cases c22 : (a19 + (-1 : Int32)) = p3
            · rw [if_pos c22] at h21
              refine mr_icmp_ne_f (t := 72) (pc' := 69) dX8_firstStair_66 (by decide) rfl (not_not_intro c22) ?_
              refine mr_iload (pc' := 71) dX8_firstStair_69 rfl rfl ?_
              obtain rfl := Option.some.inj h21
              exact mr_ireturn dX8_firstStair_71 rfl
            · rw [if_neg c22] at h21
              refine mr_icmp_ne_t (t := 72) dX8_firstStair_66 (by decide) c22 ?_
              refine mr_iinc (pc' := 75) (x' := (p4 + (1 : Int32))) (lv' := [(4, .int (p4 + (1 : Int32))), (6, .int (-1 : Int32)), (5, .int q6), (0, .ref p0), (1, .int p1), (2, .int p2), (3, .int p3)]) dX8_firstStair_72 rfl (by decide) rfl rfl rfl ?_
              refine mr_goto (t := 10) dX8_firstStair_75 (by decide) ?_
              exact mr_sub [(0, .ref p0), (1, .int p1), (2, .int p2), (3, .int p3), (4, .int (p4 + (1 : Int32)))] ⟨rfl, rfl, rfl, rfl, rfl, trivial⟩ rfl (ih _  h21)
def f_X8_firstStair (v0 : Nat) (v1 : Int32) (v2 : Int32) (S : fS) : Option (Int32) :=
  (f_X8_hoursBetween v0 v1 v2 S).bind fun q1 =>
  lp_X8_firstStair_10 v0 v1 v2 q1 S (fun (_ : Unit) => some (-1 : Int32)) FU (0 : Int32)
set_option maxHeartbeats 4000000 in
set_option maxRecDepth 100000 in
theorem ok_X8_firstStair {X : mm_C} {RR : Nat → Nat → Option Nat} (hR : RRok RR) {v0 : Nat} {v1 : Int32} {v2 : Int32} (t0 : tg v0 = 8) {S : fS} {r : Int32} (h : f_X8_firstStair v0 v1 v2 S = some r) : mr X 1 mY_X8_firstStair 0 (lv_args 0 [.ref v0, .int v1, .int v2]) [] (MM RR S) (some (.int r), MM RR S) := by
  unfold f_X8_firstStair at h
  show mr X _ _ 0 [(0, .ref v0), (1, .int v1), (2, .int v2)] [] (MM RR S) _
  refine mr_aload_n (pc' := 1) dX8_firstStair_0 rfl rfl ?_
  refine mr_iload_n (pc' := 2) dX8_firstStair_1 rfl rfl ?_
  refine mr_iload_n (pc' := 3) dX8_firstStair_2 rfl rfl ?_
  obtain ⟨q1, g2, h3⟩ := Option.bind_eq_some_iff.mp h
  refine mr_cv (pc' := 6) (a := v0) (d1 := 0) dX8_firstStair_3 rfl rfl rfl rfl rfl t0 (by decide) rfl (by decide) (ok_X8_hoursBetween hR t0 g2) ?_
  show mr X _ _ 6 _ [.int q1] (MM RR S) _
  refine mr_istore_n (pc' := 7) (lv' := [(3, .int q1), (0, .ref v0), (1, .int v1), (2, .int v2)]) dX8_firstStair_6 rfl (by decide) rfl ?_
  refine mr_iconst (pc' := 8) (v := (0 : Int32)) dX8_firstStair_7 rfl (by decide) ?_
  refine mr_istore (pc' := 10) (lv' := [(4, .int (0 : Int32)), (3, .int q1), (0, .ref v0), (1, .int v1), (2, .int v2)]) dX8_firstStair_8 rfl (by decide) rfl ?_
  refine mr_sub [(0, .ref v0), (1, .int v1), (2, .int v2), (3, .int q1), (4, .int (0 : Int32))] ⟨rfl, rfl, rfl, rfl, rfl, trivial⟩ rfl ?_
  refine ok_lp_X8_firstStair_10 hR t0 (fun _ h23 => ?_) FU _  h3
  refine mr_iconst (pc' := 79) (v := (-1 : Int32)) dX8_firstStair_78 rfl (by decide) ?_
  obtain rfl := Option.some.inj h23
  exact mr_ireturn dX8_firstStair_79 rfl
def lp_X0_obey_2 (p0 : Nat) (p1 : Nat) (p2 : Nat) (K : fS → Option (fS)) : Nat → Int32 → fS → Option (fS)
  | 0, _, _ => none
  | n + 1, p3, S0 =>
    if (S0.1 p0 5) ≤ p3 then (K S0) else
    ((f_X0_isStanding p0 p3 S0).bind fun q2 =>
    if q2 = (0 : Int32) then (lp_X0_obey_2 p0 p1 p2 K n (p3 + (1 : Int32)) S0) else
    ((f_X4_goalOf p2 p1 p0 p3 S0).bind fun q6 =>
    (f_X10_isFrom q6.1 (0 : Int32) ((q6.2.1 p1 6) - (1 : Int32)) q6.2).bind fun q9 =>
    if q9 = (0 : Int32) then (lp_X0_obey_2 p0 p1 p2 K n (p3 + (1 : Int32)) q6.2) else
    ((gI q6.2 (p0 + 1) 8 p3).bind fun a13 =>
    (f_X8_firstStair p1 a13 q6.1 q6.2).bind fun q16 =>
    (f_X0_setOff p0 p1 p3 q16 q6.2).bind fun q19 =>
    lp_X0_obey_2 p0 p1 p2 K n (p3 + (1 : Int32)) q19.2)))
set_option maxHeartbeats 4000000 in
set_option maxRecDepth 100000 in
theorem ok_lp_X0_obey_2 {X : mm_C} {RR : Nat → Nat → Option Nat} (hR : RRok RR) {p0 : Nat} {p1 : Nat} {p2 : Nat} (t0 : tg p0 = 0) (t1 : tg p1 = 8) (t2 : tg p2 = 4) {K : fS → Option (fS)} {r : fS} (hK : ∀ (Sk : fS), K Sk = some r → mr X 3 mY_X0_obey 70 [] [] (MM RR Sk) (none, MM RR r)) : ∀ (n : Nat) (p3 : Int32) (S0 : fS), lp_X0_obey_2 p0 p1 p2 K n p3 S0 = some r → mr X 3 mY_X0_obey 2 [(0, .ref p0), (1, .ref p1), (2, .ref p2), (3, .int p3)] [] (MM RR S0) (none, MM RR r) := by
  intro n
  induction n with
  | zero => intro p3 S0 h; exact mm_no h
  | succ n ih =>
    intro p3 S0 h
    unfold lp_X0_obey_2 at h
    refine mr_iload_n (pc' := 3) dX0_obey_2 rfl rfl ?_
    refine mr_aload_n (pc' := 4) dX0_obey_3 rfl rfl ?_
    refine mr_getI (pc' := 7) (ci := 0) (j := 5) dX0_obey_4 rfl rfl t0 (by decide) (by decide) rfl ?_
    by_cases c1 : (S0.1 p0 5) ≤ p3
    · rw [if_pos c1] at h
      refine mr_icmp_ge_t (t := 70) dX0_obey_7 (by decide) c1 ?_
      exact mr_sub [] trivial rfl (hK _  h)
    · rw [if_neg c1] at h
      refine mr_icmp_ge_f (t := 70) (pc' := 10) dX0_obey_7 (by decide) rfl c1 ?_
      refine mr_aload_n (pc' := 11) dX0_obey_10 rfl rfl ?_
      refine mr_iload_n (pc' := 12) dX0_obey_11 rfl rfl ?_
      obtain ⟨q2, g3, h4⟩ := Option.bind_eq_some_iff.mp h
      refine mr_cv (pc' := 15) (a := p0) (d1 := 0) dX0_obey_12 rfl rfl rfl rfl rfl t0 (by decide) rfl (by decide) (ok_X0_isStanding hR t0 g3) ?_
      show mr X _ _ 15 _ [.int q2] (MM RR S0) _
      by_cases c5 : q2 = (0 : Int32)
      · rw [if_pos c5] at h4
        refine mr_if_ne_f (t := 21) (pc' := 18) dX0_obey_15 (by decide) rfl (not_not_intro c5) ?_
        refine mr_goto (t := 64) dX0_obey_18 (by decide) ?_
        refine mr_iinc (pc' := 67) (x' := (p3 + (1 : Int32))) (lv' := [(3, .int (p3 + (1 : Int32))), (0, .ref p0), (1, .ref p1), (2, .ref p2)]) dX0_obey_64 rfl (by decide) rfl rfl rfl ?_
        refine mr_goto (t := 2) dX0_obey_67 (by decide) ?_
        exact mr_sub [(0, .ref p0), (1, .ref p1), (2, .ref p2), (3, .int (p3 + (1 : Int32)))] ⟨rfl, rfl, rfl, rfl, trivial⟩ rfl (ih _ _  h4)
      · rw [if_neg c5] at h4
        refine mr_if_ne_t (t := 21) dX0_obey_15 (by decide) c5 ?_
        refine mr_aload_n (pc' := 22) dX0_obey_21 rfl rfl ?_
        refine mr_aload_n (pc' := 23) dX0_obey_22 rfl rfl ?_
        refine mr_aload_n (pc' := 24) dX0_obey_23 rfl rfl ?_
        refine mr_iload_n (pc' := 25) dX0_obey_24 rfl rfl ?_
        obtain ⟨q6, g7, h8⟩ := Option.bind_eq_some_iff.mp h4
        refine mr_cv (pc' := 28) (a := p2) (d1 := 2) dX0_obey_25 rfl rfl rfl rfl rfl t2 (by decide) rfl (by decide) (ok_X4_goalOf hR t2 t1 t0 g7) ?_
        show mr X _ _ 28 _ [.int q6.1] (MM RR q6.2) _
        refine mr_istore (pc' := 30) (lv' := [(4, .int q6.1), (0, .ref p0), (1, .ref p1), (2, .ref p2), (3, .int p3)]) dX0_obey_28 rfl (by decide) rfl ?_
        refine mr_iload (pc' := 32) dX0_obey_30 rfl rfl ?_
        refine mr_iconst (pc' := 33) (v := (0 : Int32)) dX0_obey_32 rfl (by decide) ?_
        refine mr_aload_n (pc' := 34) dX0_obey_33 rfl rfl ?_
        refine mr_getI (pc' := 37) (ci := 8) (j := 6) dX0_obey_34 rfl rfl t1 (by decide) (by decide) rfl ?_
        refine mr_iconst (pc' := 38) (v := (1 : Int32)) dX0_obey_37 rfl (by decide) ?_
        refine mr_isub (pc' := 39) dX0_obey_38 rfl ?_
        obtain ⟨q9, g10, h11⟩ := Option.bind_eq_some_iff.mp h8
        refine mr_cs (pc' := 42) (d1 := 0) dX0_obey_39 rfl rfl rfl rfl (by decide) (Nat.le_of_ble_eq_true rfl) rfl rfl rfl (by decide) (ok_X10_isFrom hR  g10) ?_
        show mr X _ _ 42 _ [.int q9] (MM RR q6.2) _
        by_cases c12 : q9 = (0 : Int32)
        · rw [if_pos c12] at h11
          refine mr_if_eq_t (t := 64) dX0_obey_42 (by decide) c12 ?_
          refine mr_iinc (pc' := 67) (x' := (p3 + (1 : Int32))) (lv' := [(3, .int (p3 + (1 : Int32))), (4, .int q6.1), (0, .ref p0), (1, .ref p1), (2, .ref p2)]) dX0_obey_64 rfl (by decide) rfl rfl rfl ?_
          refine mr_goto (t := 2) dX0_obey_67 (by decide) ?_
          exact mr_sub [(0, .ref p0), (1, .ref p1), (2, .ref p2), (3, .int (p3 + (1 : Int32)))] ⟨rfl, rfl, rfl, rfl, trivial⟩ rfl (ih _ _  h11)
        · rw [if_neg c12] at h11
          refine mr_if_eq_f (t := 64) (pc' := 45) dX0_obey_42 (by decide) rfl c12 ?_
          refine mr_aload_n (pc' := 46) dX0_obey_45 rfl rfl ?_
          refine mr_aload_n (pc' := 47) dX0_obey_46 rfl rfl ?_
          refine mr_iload_n (pc' := 48) dX0_obey_47 rfl rfl ?_
          refine mr_aload_n (pc' := 49) dX0_obey_48 rfl rfl ?_
          refine mr_aload_n (pc' := 50) dX0_obey_49 rfl rfl ?_
          refine mr_getR (pc' := 53) (ci := 0) (j := 0) (b := (p0 + 1)) hR dX0_obey_50 rfl rfl t0 (by decide) (by decide) (by decide) rfl (ly0_0 t0).1 ?_
          refine mr_iload_n (pc' := 54) dX0_obey_53 rfl rfl ?_
          obtain ⟨a13, g14, h15⟩ := Option.bind_eq_some_iff.mp h11
          refine mr_iald (pc' := 55) dX0_obey_54 rfl (ly0_0 t0).2.1 (ly0_0 t0).2.2 g14 ?_
          refine mr_iload (pc' := 57) dX0_obey_55 rfl rfl ?_
          obtain ⟨q16, g17, h18⟩ := Option.bind_eq_some_iff.mp h15
          refine mr_cv (pc' := 60) (a := p1) (d1 := 1) dX0_obey_57 rfl rfl rfl rfl rfl t1 (by decide) rfl (by decide) (ok_X8_firstStair hR t1 g17) ?_
          show mr X _ _ 60 _ [.int q16, .int p3, .ref p1, .ref p0] (MM RR q6.2) _
          obtain ⟨q19, g20, h21⟩ := Option.bind_eq_some_iff.mp h18
          refine mr_cv (pc' := 63) (a := p0) (d1 := 1) dX0_obey_60 rfl rfl rfl rfl rfl t0 (by decide) rfl (by decide) (ok_X0_setOff hR t0 t1 g20) ?_
          show mr X _ _ 63 _ [.int q19.1] (MM RR q19.2) _
          refine mr_pop_int (pc' := 64) dX0_obey_63 rfl ?_
          refine mr_iinc (pc' := 67) (x' := (p3 + (1 : Int32))) (lv' := [(3, .int (p3 + (1 : Int32))), (4, .int q6.1), (0, .ref p0), (1, .ref p1), (2, .ref p2)]) dX0_obey_64 rfl (by decide) rfl rfl rfl ?_
          refine mr_goto (t := 2) dX0_obey_67 (by decide) ?_
          exact mr_sub [(0, .ref p0), (1, .ref p1), (2, .ref p2), (3, .int (p3 + (1 : Int32)))] ⟨rfl, rfl, rfl, rfl, trivial⟩ rfl (ih _ _  h21)
def f_X0_obey (v0 : Nat) (v1 : Nat) (v2 : Nat) (S : fS) : Option (fS) :=
  lp_X0_obey_2 v0 v1 v2 (fun S22 => some S22) FU (0 : Int32) S
set_option maxHeartbeats 4000000 in
set_option maxRecDepth 100000 in
theorem ok_X0_obey {X : mm_C} {RR : Nat → Nat → Option Nat} (hR : RRok RR) {v0 : Nat} {v1 : Nat} {v2 : Nat} (t0 : tg v0 = 0) (t1 : tg v1 = 8) (t2 : tg v2 = 4) {S : fS} {r : fS} (h : f_X0_obey v0 v1 v2 S = some r) : mr X 3 mY_X0_obey 0 (lv_args 0 [.ref v0, .ref v1, .ref v2]) [] (MM RR S) (none, MM RR r) := by
  unfold f_X0_obey at h
  show mr X _ _ 0 [(0, .ref v0), (1, .ref v1), (2, .ref v2)] [] (MM RR S) _
  refine mr_iconst (pc' := 1) (v := (0 : Int32)) dX0_obey_0 rfl (by decide) ?_
  refine mr_istore_n (pc' := 2) (lv' := [(3, .int (0 : Int32)), (0, .ref v0), (1, .ref v1), (2, .ref v2)]) dX0_obey_1 rfl (by decide) rfl ?_
  refine mr_sub [(0, .ref v0), (1, .ref v1), (2, .ref v2), (3, .int (0 : Int32))] ⟨rfl, rfl, rfl, rfl, trivial⟩ rfl ?_
  refine ok_lp_X0_obey_2 hR t0 t1 t2 (fun S22 h23 => ?_) FU _ _  h
  obtain rfl := Option.some.inj h23
  exact mr_return dX0_obey_70 rfl
def lp_X0_passHour_2 (p0 : Nat) (p1 : Nat) (K : fS → Option (fS)) : Nat → Int32 → fS → Option (fS)
  | 0, _, _ => none
  | n + 1, p2, S0 =>
    if (S0.1 p0 5) ≤ p2 then (K S0) else
    ((f_X0_isStanding p0 p2 S0).bind fun q2 =>
    if q2 = (0 : Int32) then ((gI S0 (p0 + 2) 8 p2).bind fun a6 =>
    (gL S0 (p0 + 5) 8 p2).bind fun a9 =>
    (gL S0 (p1 + 5) 12 a6).bind fun a12 =>
    (sL S0 (p0 + 5) 8 p2 (a9 + a12)).bind fun S15 =>
    (gI S15 (p0 + 3) 8 p2).bind fun a18 =>
    (sI S15 (p0 + 3) 8 p2 (a18 + (1 : Int32))).bind fun S21 =>
    (gI S21 (p0 + 3) 8 p2).bind fun a24 =>
    (gI S21 (p1 + 4) 12 a6).bind fun a27 =>
    if a24 < a27 then (lp_X0_passHour_2 p0 p1 K n (p2 + (1 : Int32)) S21) else
    ((gI S21 (p0 + 4) 8 p2).bind fun a31 =>
    (f_X0_putOn p0 p2 a31 S21).bind fun q34 =>
    lp_X0_passHour_2 p0 p1 K n (p2 + (1 : Int32)) q34)) else
    ((gL S0 (p0 + 5) 8 p2).bind fun a37 =>
    (gI S0 (p0 + 1) 8 p2).bind fun a40 =>
    (gL S0 (p1 + 1) 10 a40).bind fun a43 =>
    (sL S0 (p0 + 5) 8 p2 (a37 + a43)).bind fun S46 =>
    lp_X0_passHour_2 p0 p1 K n (p2 + (1 : Int32)) S46))
set_option maxHeartbeats 4000000 in
set_option maxRecDepth 100000 in
theorem ok_lp_X0_passHour_2 {X : mm_C} {RR : Nat → Nat → Option Nat} (hR : RRok RR) {p0 : Nat} {p1 : Nat} (t0 : tg p0 = 0) (t1 : tg p1 = 8) {K : fS → Option (fS)} {r : fS} (hK : ∀ (Sk : fS), K Sk = some r → mr X 1 mY_X0_passHour 105 [(0, .ref p0)] [] (MM RR Sk) (none, MM RR r)) : ∀ (n : Nat) (p2 : Int32) (S0 : fS), lp_X0_passHour_2 p0 p1 K n p2 S0 = some r → mr X 1 mY_X0_passHour 2 [(0, .ref p0), (1, .ref p1), (2, .int p2)] [] (MM RR S0) (none, MM RR r) := by
  intro n
  induction n with
  | zero => intro p2 S0 h; exact mm_no h
  | succ n ih =>
    intro p2 S0 h
    unfold lp_X0_passHour_2 at h
    refine mr_iload_n (pc' := 3) dX0_passHour_2 rfl rfl ?_
    refine mr_aload_n (pc' := 4) dX0_passHour_3 rfl rfl ?_
    refine mr_getI (pc' := 7) (ci := 0) (j := 5) dX0_passHour_4 rfl rfl t0 (by decide) (by decide) rfl ?_
    by_cases c1 : (S0.1 p0 5) ≤ p2
    · rw [if_pos c1] at h
      refine mr_icmp_ge_t (t := 105) dX0_passHour_7 (by decide) c1 ?_
      exact mr_sub [(0, .ref p0)] ⟨rfl, trivial⟩ rfl (hK _  h)
    · rw [if_neg c1] at h
      refine mr_icmp_ge_f (t := 105) (pc' := 10) dX0_passHour_7 (by decide) rfl c1 ?_
      refine mr_aload_n (pc' := 11) dX0_passHour_10 rfl rfl ?_
      refine mr_iload_n (pc' := 12) dX0_passHour_11 rfl rfl ?_
      obtain ⟨q2, g3, h4⟩ := Option.bind_eq_some_iff.mp h
      refine mr_cv (pc' := 15) (a := p0) (d1 := 0) dX0_passHour_12 rfl rfl rfl rfl rfl t0 (by decide) rfl (by decide) (ok_X0_isStanding hR t0 g3) ?_
      show mr X _ _ 15 _ [.int q2] (MM RR S0) _
      by_cases c5 : q2 = (0 : Int32)
      · rw [if_pos c5] at h4
        refine mr_if_eq_t (t := 41) dX0_passHour_15 (by decide) c5 ?_
        refine mr_aload_n (pc' := 42) dX0_passHour_41 rfl rfl ?_
        refine mr_getR (pc' := 45) (ci := 0) (j := 1) (b := (p0 + 2)) hR dX0_passHour_42 rfl rfl t0 (by decide) (by decide) (by decide) rfl (ly0_1 t0).1 ?_
        refine mr_iload_n (pc' := 46) dX0_passHour_45 rfl rfl ?_
        obtain ⟨a6, g7, h8⟩ := Option.bind_eq_some_iff.mp h4
        refine mr_iald (pc' := 47) dX0_passHour_46 rfl (ly0_1 t0).2.1 (ly0_1 t0).2.2 g7 ?_
        refine mr_istore_n (pc' := 48) (lv' := [(3, .int a6), (0, .ref p0), (1, .ref p1), (2, .int p2)]) dX0_passHour_47 rfl (by decide) rfl ?_
        refine mr_aload_n (pc' := 49) dX0_passHour_48 rfl rfl ?_
        refine mr_getR (pc' := 52) (ci := 0) (j := 4) (b := (p0 + 5)) hR dX0_passHour_49 rfl rfl t0 (by decide) (by decide) (by decide) rfl (ly0_4 t0).1 ?_
        refine mr_iload_n (pc' := 53) dX0_passHour_52 rfl rfl ?_
        refine mr_dup2 (pc' := 54) dX0_passHour_53 rfl ?_
        obtain ⟨a9, g10, h11⟩ := Option.bind_eq_some_iff.mp h8
        refine mr_lald (pc' := 55) dX0_passHour_54 rfl (ly0_4 t0).2.1 (ly0_4 t0).2.2 g10 ?_
        refine mr_aload_n (pc' := 56) dX0_passHour_55 rfl rfl ?_
        refine mr_getR (pc' := 59) (ci := 8) (j := 4) (b := (p1 + 5)) hR dX0_passHour_56 rfl rfl t1 (by decide) (by decide) (by decide) rfl (ly8_4 t1).1 ?_
        refine mr_iload_n (pc' := 60) dX0_passHour_59 rfl rfl ?_
        obtain ⟨a12, g13, h14⟩ := Option.bind_eq_some_iff.mp h11
        refine mr_lald (pc' := 61) dX0_passHour_60 rfl (ly8_4 t1).2.1 (ly8_4 t1).2.2 g13 ?_
        refine mr_ladd (pc' := 62) dX0_passHour_61 rfl ?_
        obtain ⟨S15, g16, h17⟩ := Option.bind_eq_some_iff.mp h14
        refine mr_last (pc' := 63) dX0_passHour_62 rfl (ly0_4 t0).2.1 (ly0_4 t0).2.2 g16 ?_
        refine mr_aload_n (pc' := 64) dX0_passHour_63 rfl rfl ?_
        refine mr_getR (pc' := 67) (ci := 0) (j := 2) (b := (p0 + 3)) hR dX0_passHour_64 rfl rfl t0 (by decide) (by decide) (by decide) rfl (ly0_2 t0).1 ?_
        refine mr_iload_n (pc' := 68) dX0_passHour_67 rfl rfl ?_
        refine mr_dup2 (pc' := 69) dX0_passHour_68 rfl ?_
        obtain ⟨a18, g19, h20⟩ := Option.bind_eq_some_iff.mp h17
        refine mr_iald (pc' := 70) dX0_passHour_69 rfl (ly0_2 t0).2.1 (ly0_2 t0).2.2 g19 ?_
        refine mr_iconst (pc' := 71) (v := (1 : Int32)) dX0_passHour_70 rfl (by decide) ?_
        refine mr_iadd (pc' := 72) dX0_passHour_71 rfl ?_
        obtain ⟨S21, g22, h23⟩ := Option.bind_eq_some_iff.mp h20
        refine mr_iast (pc' := 73) dX0_passHour_72 rfl (ly0_2 t0).2.1 (ly0_2 t0).2.2 g22 ?_
        refine mr_aload_n (pc' := 74) dX0_passHour_73 rfl rfl ?_
        refine mr_getR (pc' := 77) (ci := 0) (j := 2) (b := (p0 + 3)) hR dX0_passHour_74 rfl rfl t0 (by decide) (by decide) (by decide) rfl (ly0_2 t0).1 ?_
        refine mr_iload_n (pc' := 78) dX0_passHour_77 rfl rfl ?_
        obtain ⟨a24, g25, h26⟩ := Option.bind_eq_some_iff.mp h23
        refine mr_iald (pc' := 79) dX0_passHour_78 rfl (ly0_2 t0).2.1 (ly0_2 t0).2.2 g25 ?_
        refine mr_aload_n (pc' := 80) dX0_passHour_79 rfl rfl ?_
        refine mr_getR (pc' := 83) (ci := 8) (j := 3) (b := (p1 + 4)) hR dX0_passHour_80 rfl rfl t1 (by decide) (by decide) (by decide) rfl (ly8_3 t1).1 ?_
        refine mr_iload_n (pc' := 84) dX0_passHour_83 rfl rfl ?_
        obtain ⟨a27, g28, h29⟩ := Option.bind_eq_some_iff.mp h26
        refine mr_iald (pc' := 85) dX0_passHour_84 rfl (ly8_3 t1).2.1 (ly8_3 t1).2.2 g28 ?_
        by_cases c30 : a24 < a27
        · rw [if_pos c30] at h29
          refine mr_icmp_lt_t (t := 99) dX0_passHour_85 (by decide) c30 ?_
          refine mr_iinc (pc' := 102) (x' := (p2 + (1 : Int32))) (lv' := [(2, .int (p2 + (1 : Int32))), (3, .int a6), (0, .ref p0), (1, .ref p1)]) dX0_passHour_99 rfl (by decide) rfl rfl rfl ?_
          refine mr_goto (t := 2) dX0_passHour_102 (by decide) ?_
          exact mr_sub [(0, .ref p0), (1, .ref p1), (2, .int (p2 + (1 : Int32)))] ⟨rfl, rfl, rfl, trivial⟩ rfl (ih _ _  h29)
        · rw [if_neg c30] at h29
          refine mr_icmp_lt_f (t := 99) (pc' := 88) dX0_passHour_85 (by decide) rfl c30 ?_
          refine mr_aload_n (pc' := 89) dX0_passHour_88 rfl rfl ?_
          refine mr_iload_n (pc' := 90) dX0_passHour_89 rfl rfl ?_
          refine mr_aload_n (pc' := 91) dX0_passHour_90 rfl rfl ?_
          refine mr_getR (pc' := 94) (ci := 0) (j := 3) (b := (p0 + 4)) hR dX0_passHour_91 rfl rfl t0 (by decide) (by decide) (by decide) rfl (ly0_3 t0).1 ?_
          refine mr_iload_n (pc' := 95) dX0_passHour_94 rfl rfl ?_
          obtain ⟨a31, g32, h33⟩ := Option.bind_eq_some_iff.mp h29
          refine mr_iald (pc' := 96) dX0_passHour_95 rfl (ly0_3 t0).2.1 (ly0_3 t0).2.2 g32 ?_
          obtain ⟨q34, g35, h36⟩ := Option.bind_eq_some_iff.mp h33
          refine mr_cv (pc' := 99) (a := p0) (d1 := 0) dX0_passHour_96 rfl rfl rfl rfl rfl t0 (by decide) rfl (by decide) (ok_X0_putOn hR t0 g35) ?_
          show mr X _ _ 99 _ [] (MM RR q34) _
          refine mr_iinc (pc' := 102) (x' := (p2 + (1 : Int32))) (lv' := [(2, .int (p2 + (1 : Int32))), (3, .int a6), (0, .ref p0), (1, .ref p1)]) dX0_passHour_99 rfl (by decide) rfl rfl rfl ?_
          refine mr_goto (t := 2) dX0_passHour_102 (by decide) ?_
          exact mr_sub [(0, .ref p0), (1, .ref p1), (2, .int (p2 + (1 : Int32)))] ⟨rfl, rfl, rfl, trivial⟩ rfl (ih _ _  h36)
      · rw [if_neg c5] at h4
        refine mr_if_eq_f (t := 41) (pc' := 18) dX0_passHour_15 (by decide) rfl c5 ?_
        refine mr_aload_n (pc' := 19) dX0_passHour_18 rfl rfl ?_
        refine mr_getR (pc' := 22) (ci := 0) (j := 4) (b := (p0 + 5)) hR dX0_passHour_19 rfl rfl t0 (by decide) (by decide) (by decide) rfl (ly0_4 t0).1 ?_
        refine mr_iload_n (pc' := 23) dX0_passHour_22 rfl rfl ?_
        refine mr_dup2 (pc' := 24) dX0_passHour_23 rfl ?_
        obtain ⟨a37, g38, h39⟩ := Option.bind_eq_some_iff.mp h4
        refine mr_lald (pc' := 25) dX0_passHour_24 rfl (ly0_4 t0).2.1 (ly0_4 t0).2.2 g38 ?_
        refine mr_aload_n (pc' := 26) dX0_passHour_25 rfl rfl ?_
        refine mr_getR (pc' := 29) (ci := 8) (j := 0) (b := (p1 + 1)) hR dX0_passHour_26 rfl rfl t1 (by decide) (by decide) (by decide) rfl (ly8_0 t1).1 ?_
        refine mr_aload_n (pc' := 30) dX0_passHour_29 rfl rfl ?_
        refine mr_getR (pc' := 33) (ci := 0) (j := 0) (b := (p0 + 1)) hR dX0_passHour_30 rfl rfl t0 (by decide) (by decide) (by decide) rfl (ly0_0 t0).1 ?_
        refine mr_iload_n (pc' := 34) dX0_passHour_33 rfl rfl ?_
        obtain ⟨a40, g41, h42⟩ := Option.bind_eq_some_iff.mp h39
        refine mr_iald (pc' := 35) dX0_passHour_34 rfl (ly0_0 t0).2.1 (ly0_0 t0).2.2 g41 ?_
        obtain ⟨a43, g44, h45⟩ := Option.bind_eq_some_iff.mp h42
        refine mr_lald (pc' := 36) dX0_passHour_35 rfl (ly8_0 t1).2.1 (ly8_0 t1).2.2 g44 ?_
        refine mr_ladd (pc' := 37) dX0_passHour_36 rfl ?_
        obtain ⟨S46, g47, h48⟩ := Option.bind_eq_some_iff.mp h45
        refine mr_last (pc' := 38) dX0_passHour_37 rfl (ly0_4 t0).2.1 (ly0_4 t0).2.2 g47 ?_
        refine mr_goto (t := 99) dX0_passHour_38 (by decide) ?_
        refine mr_iinc (pc' := 102) (x' := (p2 + (1 : Int32))) (lv' := [(2, .int (p2 + (1 : Int32))), (0, .ref p0), (1, .ref p1)]) dX0_passHour_99 rfl (by decide) rfl rfl rfl ?_
        refine mr_goto (t := 2) dX0_passHour_102 (by decide) ?_
        exact mr_sub [(0, .ref p0), (1, .ref p1), (2, .int (p2 + (1 : Int32)))] ⟨rfl, rfl, rfl, trivial⟩ rfl (ih _ _  h48)
def f_X0_passHour (v0 : Nat) (v1 : Nat) (S : fS) : Option (fS) :=
  lp_X0_passHour_2 v0 v1 (fun S49 => (some (pI S49 v0 6 ((S49.1 v0 6) + (1 : Int32)))).bind fun S51 =>
  some S51) FU (0 : Int32) S
set_option maxHeartbeats 4000000 in
set_option maxRecDepth 100000 in
theorem ok_X0_passHour {X : mm_C} {RR : Nat → Nat → Option Nat} (hR : RRok RR) {v0 : Nat} {v1 : Nat} (t0 : tg v0 = 0) (t1 : tg v1 = 8) {S : fS} {r : fS} (h : f_X0_passHour v0 v1 S = some r) : mr X 1 mY_X0_passHour 0 (lv_args 0 [.ref v0, .ref v1]) [] (MM RR S) (none, MM RR r) := by
  unfold f_X0_passHour at h
  show mr X _ _ 0 [(0, .ref v0), (1, .ref v1)] [] (MM RR S) _
  refine mr_iconst (pc' := 1) (v := (0 : Int32)) dX0_passHour_0 rfl (by decide) ?_
  refine mr_istore_n (pc' := 2) (lv' := [(2, .int (0 : Int32)), (0, .ref v0), (1, .ref v1)]) dX0_passHour_1 rfl (by decide) rfl ?_
  refine mr_sub [(0, .ref v0), (1, .ref v1), (2, .int (0 : Int32))] ⟨rfl, rfl, rfl, trivial⟩ rfl ?_
  refine ok_lp_X0_passHour_2 hR t0 t1 (fun S49 h50 => ?_) FU _ _  h
  refine mr_aload_n (pc' := 106) dX0_passHour_105 rfl rfl ?_
  refine mr_dup_ref (pc' := 107) dX0_passHour_106 rfl ?_
  refine mr_getI (pc' := 110) (ci := 0) (j := 6) dX0_passHour_107 rfl rfl t0 (by decide) (by decide) rfl ?_
  refine mr_iconst (pc' := 111) (v := (1 : Int32)) dX0_passHour_110 rfl (by decide) ?_
  refine mr_iadd (pc' := 112) dX0_passHour_111 rfl ?_
  obtain ⟨S51, g52, h53⟩ := Option.bind_eq_some_iff.mp h50
  refine mr_putI (pc' := 115) (ci := 0) (j := 6) dX0_passHour_112 rfl rfl t0 (by decide) (by decide) rfl rfl ?_
  rw [Option.some.inj g52]
  obtain rfl := Option.some.inj h53
  exact mr_return dX0_passHour_115 rfl
