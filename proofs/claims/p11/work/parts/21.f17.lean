def j_X11_compare_152  (s0 : Int32) (S : fS) : Option (Int32 × fS) :=
  (f_X11_sum  S).bind fun q21 =>
  if q21.1 = (0 : Int32) then (some ((0 : Int32), q21.2)) else
  ((f_X11_puts ((6 : Int32) + s0) (0 : Int32) q21.2).bind fun q25 =>
  some ((1 : Int32), q25))
set_option maxHeartbeats 4000000 in
set_option maxRecDepth 100000 in
theorem ok_j_X11_compare_152 {X : mm_C} {RR : Nat → Nat → Option Nat} (hR : RRok RR)  {s0 : Int32} {S : fS} {r : Int32 × fS} (h : j_X11_compare_152  s0 S = some r) : mr X 6 mY_X11_compare 152 [(0, .ref 145)] [.int s0] (MM RR S) (some (.int r.1), MM RR r.2) := by
  unfold j_X11_compare_152 at h
  refine mr_istore (pc' := 154) (lv' := [(4, .int s0), (0, .ref 145)]) dX11_compare_152 rfl (by decide) rfl ?_
  refine mr_aload_n (pc' := 155) dX11_compare_154 rfl rfl ?_
  obtain ⟨q21, g22, h23⟩ := Option.bind_eq_some_iff.mp h
  refine mr_cv (pc' := 158) (a := 145) (d1 := 5) dX11_compare_155 rfl rfl rfl rfl rfl rfl (by decide) rfl (by decide) (ok_X11_sum hR  g22) ?_
  show mr X _ _ 158 _ [.int q21.1] (MM RR q21.2) _
  by_cases c24 : q21.1 = (0 : Int32)
  · rw [if_pos c24] at h23
    refine mr_if_ne_f (t := 163) (pc' := 161) dX11_compare_158 (by decide) rfl (not_not_intro c24) ?_
    refine mr_iconst (pc' := 162) (v := (0 : Int32)) dX11_compare_161 rfl (by decide) ?_
    obtain rfl := Option.some.inj h23
    exact mr_zreturn dX11_compare_162 rfl (by decide)
  · rw [if_neg c24] at h23
    refine mr_if_ne_t (t := 163) dX11_compare_158 (by decide) c24 ?_
    refine mr_aload_n (pc' := 164) dX11_compare_163 rfl rfl ?_
    refine mr_bipush (pc' := 166) (v := (6 : Int32)) dX11_compare_164 rfl (by decide) ?_
    refine mr_iload (pc' := 168) dX11_compare_166 rfl rfl ?_
    refine mr_iadd (pc' := 169) dX11_compare_168 rfl ?_
    refine mr_iconst (pc' := 170) (v := (0 : Int32)) dX11_compare_169 rfl (by decide) ?_
    obtain ⟨q25, g26, h27⟩ := Option.bind_eq_some_iff.mp h23
    refine mr_cv (pc' := 173) (a := 145) (d1 := 0) dX11_compare_170 rfl rfl rfl rfl rfl rfl (by decide) rfl (by decide) (ok_X11_puts hR  g26) ?_
    show mr X _ _ 173 _ [] (MM RR q25) _
    refine mr_iconst (pc' := 174) (v := (1 : Int32)) dX11_compare_173 rfl (by decide) ?_
    obtain rfl := Option.some.inj h27
    exact mr_zreturn dX11_compare_174 rfl (by decide)
def j_X11_compare_105 (p1 : Int32) (p2 : Int32) (p3 : Int32)  (S : fS) : Option (Int32 × fS) :=
  (f_X11_makes p2 S).bind fun q14 =>
  if q14.1 = (0 : Int32) then (some ((0 : Int32), q14.2)) else
  (if p1 = (60 : Int32) then (if p3 = (0 : Int32) then (j_X11_compare_152  (0 : Int32) q14.2) else
  (j_X11_compare_152  (1 : Int32) q14.2)) else
  (if p1 = (61 : Int32) then (j_X11_compare_152  (2 : Int32) q14.2) else
  (if p3 = (0 : Int32) then (j_X11_compare_152  (4 : Int32) q14.2) else
  (j_X11_compare_152  (3 : Int32) q14.2))))
set_option maxHeartbeats 4000000 in
set_option maxRecDepth 100000 in
theorem ok_j_X11_compare_105 {X : mm_C} {RR : Nat → Nat → Option Nat} (hR : RRok RR) {p1 : Int32} {p2 : Int32} {p3 : Int32}  {S : fS} {r : Int32 × fS} (h : j_X11_compare_105 p1 p2 p3  S = some r) : mr X 6 mY_X11_compare 105 [(0, .ref 145), (1, .int p1), (2, .int p2), (3, .int p3)] [] (MM RR S) (some (.int r.1), MM RR r.2) := by
  unfold j_X11_compare_105 at h
  refine mr_aload_n (pc' := 106) dX11_compare_105 rfl rfl ?_
  refine mr_iload_n (pc' := 107) dX11_compare_106 rfl rfl ?_
  obtain ⟨q14, g15, h16⟩ := Option.bind_eq_some_iff.mp h
  refine mr_cv (pc' := 110) (a := 145) (d1 := 1) dX11_compare_107 rfl rfl rfl rfl rfl rfl (by decide) rfl (by decide) (ok_X11_makes hR  g15) ?_
  show mr X _ _ 110 _ [.int q14.1] (MM RR q14.2) _
  by_cases c17 : q14.1 = (0 : Int32)
  · rw [if_pos c17] at h16
    refine mr_if_ne_f (t := 115) (pc' := 113) dX11_compare_110 (by decide) rfl (not_not_intro c17) ?_
    refine mr_iconst (pc' := 114) (v := (0 : Int32)) dX11_compare_113 rfl (by decide) ?_
    obtain rfl := Option.some.inj h16
    exact mr_zreturn dX11_compare_114 rfl (by decide)
  · rw [if_neg c17] at h16
    refine mr_if_ne_t (t := 115) dX11_compare_110 (by decide) c17 ?_
    refine mr_iload_n (pc' := 116) dX11_compare_115 rfl rfl ?_
    refine mr_bipush (pc' := 118) (v := (60 : Int32)) dX11_compare_116 rfl (by decide) ?_
    by_cases c18 : p1 = (60 : Int32)
    · rw [if_pos c18] at h16
      refine mr_icmp_ne_f (t := 133) (pc' := 121) dX11_compare_118 (by decide) rfl (not_not_intro c18) ?_
      refine mr_iload_n (pc' := 122) dX11_compare_121 rfl rfl ?_
      by_cases c28 : p3 = (0 : Int32)
      · rw [if_pos c28] at h16
        refine mr_if_eq_t (t := 129) dX11_compare_122 (by decide) c28 ?_
        refine mr_iconst (pc' := 130) (v := (0 : Int32)) dX11_compare_129 rfl (by decide) ?_
        refine mr_goto (t := 152) dX11_compare_130 (by decide) ?_
        exact mr_sub [(0, .ref 145)] ⟨rfl, trivial⟩ rfl (ok_j_X11_compare_152 hR h16)
      · rw [if_neg c28] at h16
        refine mr_if_eq_f (t := 129) (pc' := 125) dX11_compare_122 (by decide) rfl c28 ?_
        refine mr_iconst (pc' := 126) (v := (1 : Int32)) dX11_compare_125 rfl (by decide) ?_
        refine mr_goto (t := 152) dX11_compare_126 (by decide) ?_
        exact mr_sub [(0, .ref 145)] ⟨rfl, trivial⟩ rfl (ok_j_X11_compare_152 hR h16)
    · rw [if_neg c18] at h16
      refine mr_icmp_ne_t (t := 133) dX11_compare_118 (by decide) c18 ?_
      refine mr_iload_n (pc' := 134) dX11_compare_133 rfl rfl ?_
      refine mr_bipush (pc' := 136) (v := (61 : Int32)) dX11_compare_134 rfl (by decide) ?_
      by_cases c19 : p1 = (61 : Int32)
      · rw [if_pos c19] at h16
        refine mr_icmp_ne_f (t := 143) (pc' := 139) dX11_compare_136 (by decide) rfl (not_not_intro c19) ?_
        refine mr_iconst (pc' := 140) (v := (2 : Int32)) dX11_compare_139 rfl (by decide) ?_
        refine mr_goto (t := 152) dX11_compare_140 (by decide) ?_
        exact mr_sub [(0, .ref 145)] ⟨rfl, trivial⟩ rfl (ok_j_X11_compare_152 hR h16)
      · rw [if_neg c19] at h16
        refine mr_icmp_ne_t (t := 143) dX11_compare_136 (by decide) c19 ?_
        refine mr_iload_n (pc' := 144) dX11_compare_143 rfl rfl ?_
        by_cases c20 : p3 = (0 : Int32)
        · rw [if_pos c20] at h16
          refine mr_if_eq_t (t := 151) dX11_compare_144 (by decide) c20 ?_
          refine mr_iconst (pc' := 152) (v := (4 : Int32)) dX11_compare_151 rfl (by decide) ?_
          exact mr_sub [(0, .ref 145)] ⟨rfl, trivial⟩ rfl (ok_j_X11_compare_152 hR h16)
        · rw [if_neg c20] at h16
          refine mr_if_eq_f (t := 151) (pc' := 147) dX11_compare_144 (by decide) rfl c20 ?_
          refine mr_iconst (pc' := 148) (v := (3 : Int32)) dX11_compare_147 rfl (by decide) ?_
          refine mr_goto (t := 152) dX11_compare_148 (by decide) ?_
          exact mr_sub [(0, .ref 145)] ⟨rfl, trivial⟩ rfl (ok_j_X11_compare_152 hR h16)
def j_X11_compare_90 (p1 : Int32) (p2 : Int32) (s0 : Int32) (S : fS) : Option (Int32 × fS) :=
  if s0 = (0 : Int32) then (j_X11_compare_105 p1 p2 s0  S) else
  ((some (pI S 145 13 ((S.1 145 13) + (1 : Int32)))).bind fun S29 =>
  j_X11_compare_105 p1 p2 s0  S29)
set_option maxHeartbeats 4000000 in
set_option maxRecDepth 100000 in
theorem ok_j_X11_compare_90 {X : mm_C} {RR : Nat → Nat → Option Nat} (hR : RRok RR) {p1 : Int32} {p2 : Int32} {s0 : Int32} {S : fS} {r : Int32 × fS} (h : j_X11_compare_90 p1 p2 s0 S = some r) : mr X 6 mY_X11_compare 90 [(0, .ref 145), (1, .int p1), (2, .int p2)] [.int s0] (MM RR S) (some (.int r.1), MM RR r.2) := by
  unfold j_X11_compare_90 at h
  refine mr_istore_n (pc' := 91) (lv' := [(3, .int s0), (0, .ref 145), (1, .int p1), (2, .int p2)]) dX11_compare_90 rfl (by decide) rfl ?_
  refine mr_iload_n (pc' := 92) dX11_compare_91 rfl rfl ?_
  by_cases c13 : s0 = (0 : Int32)
  · rw [if_pos c13] at h
    refine mr_if_eq_t (t := 105) dX11_compare_92 (by decide) c13 ?_
    exact mr_sub [(0, .ref 145), (1, .int p1), (2, .int p2), (3, .int s0)] ⟨rfl, rfl, rfl, rfl, trivial⟩ rfl (ok_j_X11_compare_105 hR h)
  · rw [if_neg c13] at h
    refine mr_if_eq_f (t := 105) (pc' := 95) dX11_compare_92 (by decide) rfl c13 ?_
    refine mr_aload_n (pc' := 96) dX11_compare_95 rfl rfl ?_
    refine mr_dup_ref (pc' := 97) dX11_compare_96 rfl ?_
    refine mr_getI (pc' := 100) (ci := 11) (j := 13) dX11_compare_97 rfl rfl rfl (by decide) (by decide) rfl ?_
    refine mr_iconst (pc' := 101) (v := (1 : Int32)) dX11_compare_100 rfl (by decide) ?_
    refine mr_iadd (pc' := 102) dX11_compare_101 rfl ?_
    obtain ⟨S29, g30, h31⟩ := Option.bind_eq_some_iff.mp h
    refine mr_putI (pc' := 105) (ci := 11) (j := 13) dX11_compare_102 rfl rfl rfl (by decide) (by decide) rfl rfl ?_
    rw [Option.some.inj g30]
    exact mr_sub [(0, .ref 145), (1, .int p1), (2, .int p2), (3, .int s0)] ⟨rfl, rfl, rfl, rfl, trivial⟩ rfl (ok_j_X11_compare_105 hR h31)
def j_X11_compare_89 (p1 : Int32) (p2 : Int32)  (S : fS) : Option (Int32 × fS) :=
  j_X11_compare_90 p1 p2 (0 : Int32) S
set_option maxHeartbeats 4000000 in
set_option maxRecDepth 100000 in
theorem ok_j_X11_compare_89 {X : mm_C} {RR : Nat → Nat → Option Nat} (hR : RRok RR) {p1 : Int32} {p2 : Int32}  {S : fS} {r : Int32 × fS} (h : j_X11_compare_89 p1 p2  S = some r) : mr X 6 mY_X11_compare 89 [(0, .ref 145), (1, .int p1), (2, .int p2)] [] (MM RR S) (some (.int r.1), MM RR r.2) := by
  unfold j_X11_compare_89 at h
  refine mr_iconst (pc' := 90) (v := (0 : Int32)) dX11_compare_89 rfl (by decide) ?_
  exact mr_sub [(0, .ref 145), (1, .int p1), (2, .int p2)] ⟨rfl, rfl, rfl, trivial⟩ rfl (ok_j_X11_compare_90 hR h)
def j_X11_compare_44 (p1 : Int32) (p2 : Int32)  (S : fS) : Option (Int32 × fS) :=
  (some (pI S 145 13 ((S.1 145 13) + (1 : Int32)))).bind fun S9 =>
  if p1 = (61 : Int32) then (j_X11_compare_89 p1 p2  S9) else
  (if (S9.1 145 1) ≤ (S9.1 145 13) then (j_X11_compare_89 p1 p2  S9) else
  ((gI S9 146 400 (S9.1 145 13)).bind fun a33 =>
  if a33 = (61 : Int32) then (j_X11_compare_90 p1 p2 (1 : Int32) S9) else
  (j_X11_compare_89 p1 p2  S9)))
set_option maxHeartbeats 4000000 in
set_option maxRecDepth 100000 in
theorem ok_j_X11_compare_44 {X : mm_C} {RR : Nat → Nat → Option Nat} (hR : RRok RR) {p1 : Int32} {p2 : Int32}  {S : fS} {r : Int32 × fS} (h : j_X11_compare_44 p1 p2  S = some r) : mr X 6 mY_X11_compare 44 [(0, .ref 145), (1, .int p1), (2, .int p2)] [] (MM RR S) (some (.int r.1), MM RR r.2) := by
  unfold j_X11_compare_44 at h
  refine mr_aload_n (pc' := 45) dX11_compare_44 rfl rfl ?_
  refine mr_dup_ref (pc' := 46) dX11_compare_45 rfl ?_
  refine mr_getI (pc' := 49) (ci := 11) (j := 13) dX11_compare_46 rfl rfl rfl (by decide) (by decide) rfl ?_
  refine mr_iconst (pc' := 50) (v := (1 : Int32)) dX11_compare_49 rfl (by decide) ?_
  refine mr_iadd (pc' := 51) dX11_compare_50 rfl ?_
  obtain ⟨S9, g10, h11⟩ := Option.bind_eq_some_iff.mp h
  refine mr_putI (pc' := 54) (ci := 11) (j := 13) dX11_compare_51 rfl rfl rfl (by decide) (by decide) rfl rfl ?_
  rw [Option.some.inj g10]
  refine mr_iload_n (pc' := 55) dX11_compare_54 rfl rfl ?_
  refine mr_bipush (pc' := 57) (v := (61 : Int32)) dX11_compare_55 rfl (by decide) ?_
  by_cases c12 : p1 = (61 : Int32)
  · rw [if_pos c12] at h11
    refine mr_icmp_eq_t (t := 89) dX11_compare_57 (by decide) c12 ?_
    exact mr_sub [(0, .ref 145), (1, .int p1), (2, .int p2)] ⟨rfl, rfl, rfl, trivial⟩ rfl (ok_j_X11_compare_89 hR h11)
  · rw [if_neg c12] at h11
    refine mr_icmp_eq_f (t := 89) (pc' := 60) dX11_compare_57 (by decide) rfl c12 ?_
    refine mr_aload_n (pc' := 61) dX11_compare_60 rfl rfl ?_
    refine mr_getI (pc' := 64) (ci := 11) (j := 13) dX11_compare_61 rfl rfl rfl (by decide) (by decide) rfl ?_
    refine mr_aload_n (pc' := 65) dX11_compare_64 rfl rfl ?_
    refine mr_getI (pc' := 68) (ci := 11) (j := 1) dX11_compare_65 rfl rfl rfl (by decide) (by decide) rfl ?_
    by_cases c32 : (S9.1 145 1) ≤ (S9.1 145 13)
    · rw [if_pos c32] at h11
      refine mr_icmp_ge_t (t := 89) dX11_compare_68 (by decide) c32 ?_
      exact mr_sub [(0, .ref 145), (1, .int p1), (2, .int p2)] ⟨rfl, rfl, rfl, trivial⟩ rfl (ok_j_X11_compare_89 hR h11)
    · rw [if_neg c32] at h11
      refine mr_icmp_ge_f (t := 89) (pc' := 71) dX11_compare_68 (by decide) rfl c32 ?_
      refine mr_aload_n (pc' := 72) dX11_compare_71 rfl rfl ?_
      refine mr_getR (pc' := 75) (ci := 11) (j := 0) (b := 146) hR dX11_compare_72 rfl rfl rfl (by decide) (by decide) (by decide) rfl rfl ?_
      refine mr_aload_n (pc' := 76) dX11_compare_75 rfl rfl ?_
      refine mr_getI (pc' := 79) (ci := 11) (j := 13) dX11_compare_76 rfl rfl rfl (by decide) (by decide) rfl ?_
      obtain ⟨a33, g34, h35⟩ := Option.bind_eq_some_iff.mp h11
      refine mr_bald (pc' := 80) dX11_compare_79 rfl (Or.inl rfl) rfl g34 ?_
      refine mr_bipush (pc' := 82) (v := (61 : Int32)) dX11_compare_80 rfl (by decide) ?_
      by_cases c36 : a33 = (61 : Int32)
      · rw [if_pos c36] at h35
        refine mr_icmp_ne_f (t := 89) (pc' := 85) dX11_compare_82 (by decide) rfl (not_not_intro c36) ?_
        refine mr_iconst (pc' := 86) (v := (1 : Int32)) dX11_compare_85 rfl (by decide) ?_
        refine mr_goto (t := 90) dX11_compare_86 (by decide) ?_
        exact mr_sub [(0, .ref 145), (1, .int p1), (2, .int p2)] ⟨rfl, rfl, rfl, trivial⟩ rfl (ok_j_X11_compare_90 hR h35)
      · rw [if_neg c36] at h35
        refine mr_icmp_ne_t (t := 89) dX11_compare_82 (by decide) c36 ?_
        exact mr_sub [(0, .ref 145), (1, .int p1), (2, .int p2)] ⟨rfl, rfl, rfl, trivial⟩ rfl (ok_j_X11_compare_89 hR h35)
def f_X11_compare  (S : fS) : Option (Int32 × fS) :=
  (f_X11_sum  S).bind fun q1 =>
  if q1.1 = (0 : Int32) then (some ((0 : Int32), q1.2)) else
  ((f_X11_see  q1.2).bind fun q5 =>
  if q5.1 = (60 : Int32) then (j_X11_compare_44 q5.1 (q5.2.1 145 13)  q5.2) else
  (if q5.1 = (61 : Int32) then (j_X11_compare_44 q5.1 (q5.2.1 145 13)  q5.2) else
  (if q5.1 = (62 : Int32) then (j_X11_compare_44 q5.1 (q5.2.1 145 13)  q5.2) else
  ((f_X11_fails (0 : Int32) (q5.2.1 145 13) q5.2).bind fun q39 =>
  (bZ q39.1).bind fun z42 => some (z42, q39.2)))))
set_option maxHeartbeats 4000000 in
set_option maxRecDepth 100000 in
theorem ok_X11_compare {X : mm_C} {RR : Nat → Nat → Option Nat} (hR : RRok RR)   {S : fS} {r : Int32 × fS} (h : f_X11_compare  S = some r) : mr X 6 mY_X11_compare 0 (lv_args 0 [.ref 145]) [] (MM RR S) (some (.int r.1), MM RR r.2) := by
  unfold f_X11_compare at h
  show mr X _ _ 0 [(0, .ref 145)] [] (MM RR S) _
  refine mr_aload_n (pc' := 1) dX11_compare_0 rfl rfl ?_
  obtain ⟨q1, g2, h3⟩ := Option.bind_eq_some_iff.mp h
  refine mr_cv (pc' := 4) (a := 145) (d1 := 5) dX11_compare_1 rfl rfl rfl rfl rfl rfl (by decide) rfl (by decide) (ok_X11_sum hR  g2) ?_
  show mr X _ _ 4 _ [.int q1.1] (MM RR q1.2) _
  by_cases c4 : q1.1 = (0 : Int32)
  · rw [if_pos c4] at h3
    refine mr_if_ne_f (t := 9) (pc' := 7) dX11_compare_4 (by decide) rfl (not_not_intro c4) ?_
    refine mr_iconst (pc' := 8) (v := (0 : Int32)) dX11_compare_7 rfl (by decide) ?_
    obtain rfl := Option.some.inj h3
    exact mr_zreturn dX11_compare_8 rfl (by decide)
  · rw [if_neg c4] at h3
    refine mr_if_ne_t (t := 9) dX11_compare_4 (by decide) c4 ?_
    refine mr_aload_n (pc' := 10) dX11_compare_9 rfl rfl ?_
    obtain ⟨q5, g6, h7⟩ := Option.bind_eq_some_iff.mp h3
    refine mr_cv (pc' := 13) (a := 145) (d1 := 0) dX11_compare_10 rfl rfl rfl rfl rfl rfl (by decide) rfl (by decide) (ok_X11_see hR  g6) ?_
    show mr X _ _ 13 _ [.int q5.1] (MM RR q5.2) _
    refine mr_istore_n (pc' := 14) (lv' := [(1, .int q5.1), (0, .ref 145)]) dX11_compare_13 rfl (by decide) rfl ?_
    refine mr_aload_n (pc' := 15) dX11_compare_14 rfl rfl ?_
    refine mr_getI (pc' := 18) (ci := 11) (j := 13) dX11_compare_15 rfl rfl rfl (by decide) (by decide) rfl ?_
    refine mr_istore_n (pc' := 19) (lv' := [(2, .int (q5.2.1 145 13)), (1, .int q5.1), (0, .ref 145)]) dX11_compare_18 rfl (by decide) rfl ?_
    refine mr_iload_n (pc' := 20) dX11_compare_19 rfl rfl ?_
    refine mr_bipush (pc' := 22) (v := (60 : Int32)) dX11_compare_20 rfl (by decide) ?_
    by_cases c8 : q5.1 = (60 : Int32)
    · rw [if_pos c8] at h7
      refine mr_icmp_eq_t (t := 44) dX11_compare_22 (by decide) c8 ?_
      exact mr_sub [(0, .ref 145), (1, .int q5.1), (2, .int (q5.2.1 145 13))] ⟨rfl, rfl, rfl, trivial⟩ rfl (ok_j_X11_compare_44 hR h7)
    · rw [if_neg c8] at h7
      refine mr_icmp_eq_f (t := 44) (pc' := 25) dX11_compare_22 (by decide) rfl c8 ?_
      refine mr_iload_n (pc' := 26) dX11_compare_25 rfl rfl ?_
      refine mr_bipush (pc' := 28) (v := (61 : Int32)) dX11_compare_26 rfl (by decide) ?_
      by_cases c37 : q5.1 = (61 : Int32)
      · rw [if_pos c37] at h7
        refine mr_icmp_eq_t (t := 44) dX11_compare_28 (by decide) c37 ?_
        exact mr_sub [(0, .ref 145), (1, .int q5.1), (2, .int (q5.2.1 145 13))] ⟨rfl, rfl, rfl, trivial⟩ rfl (ok_j_X11_compare_44 hR h7)
      · rw [if_neg c37] at h7
        refine mr_icmp_eq_f (t := 44) (pc' := 31) dX11_compare_28 (by decide) rfl c37 ?_
        refine mr_iload_n (pc' := 32) dX11_compare_31 rfl rfl ?_
        refine mr_bipush (pc' := 34) (v := (62 : Int32)) dX11_compare_32 rfl (by decide) ?_
        by_cases c38 : q5.1 = (62 : Int32)
        · rw [if_pos c38] at h7
          refine mr_icmp_eq_t (t := 44) dX11_compare_34 (by decide) c38 ?_
          exact mr_sub [(0, .ref 145), (1, .int q5.1), (2, .int (q5.2.1 145 13))] ⟨rfl, rfl, rfl, trivial⟩ rfl (ok_j_X11_compare_44 hR h7)
        · rw [if_neg c38] at h7
          refine mr_icmp_eq_f (t := 44) (pc' := 37) dX11_compare_34 (by decide) rfl c38 ?_
          refine mr_aload_n (pc' := 38) dX11_compare_37 rfl rfl ?_
          refine mr_iconst (pc' := 39) (v := (0 : Int32)) dX11_compare_38 rfl (by decide) ?_
          refine mr_iload_n (pc' := 40) dX11_compare_39 rfl rfl ?_
          obtain ⟨q39, g40, h41⟩ := Option.bind_eq_some_iff.mp h7
          refine mr_cv (pc' := 43) (a := 145) (d1 := 0) dX11_compare_40 rfl rfl rfl rfl rfl rfl (by decide) rfl (by decide) (ok_X11_fails hR  g40) ?_
          show mr X _ _ 43 _ [.int q39.1] (MM RR q39.2) _
          obtain ⟨z42, g43, h44⟩ := Option.bind_eq_some_iff.mp h41
          obtain ⟨g45, e46⟩ := mm_ifs g43
          cases e46
          cases h44
          exact mr_zreturn dX11_compare_43 rfl g45
def lp_X11_fact_2  (K : fS → Option (Int32 × fS)) : Nat → Int32 → fS → Option (Int32 × fS)
  | 0, _, _ => none
  | n + 1, p1, S0 =>
    if p1 = (0 : Int32) then (K S0) else
    ((f_X11_see  S0).bind fun q2 =>
    (f_X11_isWord (7237492 : Int64) q2.2).bind fun q5 =>
    if q5.1 = (0 : Int32) then (if q2.1 = (91 : Int32) then ((f_X11_opens (91 : Int32) q5.2).bind fun q10 =>
    if q10.1 = (0 : Int32) then (some ((0 : Int32), q10.2)) else
    ((some (pI q10.2 145 13 ((q10.2.1 145 13) + (1 : Int32)))).bind fun S14 =>
    lp_X11_fact_2  K n (1 : Int32) S14)) else
    (lp_X11_fact_2  K n (0 : Int32) q5.2)) else
    ((f_X11_opens (11 : Int32) q5.2).bind fun q17 =>
    if q17.1 = (0 : Int32) then (some ((0 : Int32), q17.2)) else
    ((f_X11_passWord  q17.2).bind fun q21 =>
    lp_X11_fact_2  K n (1 : Int32) q21)))
set_option maxHeartbeats 4000000 in
set_option maxRecDepth 100000 in
theorem ok_lp_X11_fact_2 {X : mm_C} {RR : Nat → Nat → Option Nat} (hR : RRok RR)   {K : fS → Option (Int32 × fS)} {r : Int32 × fS} (hK : ∀ (Sk : fS), K Sk = some r → mr X 7 mY_X11_fact 75 [(0, .ref 145)] [] (MM RR Sk) (some (.int r.1), MM RR r.2)) : ∀ (n : Nat) (p1 : Int32) (S0 : fS), lp_X11_fact_2  K n p1 S0 = some r → mr X 7 mY_X11_fact 2 [(0, .ref 145), (1, .int p1)] [] (MM RR S0) (some (.int r.1), MM RR r.2) := by
  intro n
  induction n with
  | zero => intro p1 S0 h; exact mm_no h
  | succ n ih =>
    intro p1 S0 h
    unfold lp_X11_fact_2 at h
    refine mr_iload_n (pc' := 3) dX11_fact_2 rfl rfl ?_
    by_cases c1 : p1 = (0 : Int32)
    · rw [if_pos c1] at h
      refine mr_if_eq_t (t := 75) dX11_fact_3 (by decide) c1 ?_
      exact mr_sub [(0, .ref 145)] ⟨rfl, trivial⟩ rfl (hK _  h)
    · rw [if_neg c1] at h
      refine mr_if_eq_f (t := 75) (pc' := 6) dX11_fact_3 (by decide) rfl c1 ?_
      refine mr_iconst (pc' := 7) (v := (0 : Int32)) dX11_fact_6 rfl (by decide) ?_
      refine mr_istore_n (pc' := 8) (lv' := [(1, .int (0 : Int32)), (0, .ref 145)]) dX11_fact_7 rfl (by decide) rfl ?_
      refine mr_aload_n (pc' := 9) dX11_fact_8 rfl rfl ?_
      obtain ⟨q2, g3, h4⟩ := Option.bind_eq_some_iff.mp h
      refine mr_cv (pc' := 12) (a := 145) (d1 := 0) dX11_fact_9 rfl rfl rfl rfl rfl rfl (by decide) rfl (by decide) (ok_X11_see hR  g3) ?_
      show mr X _ _ 12 _ [.int q2.1] (MM RR q2.2) _
      refine mr_istore_n (pc' := 13) (lv' := [(2, .int q2.1), (1, .int (0 : Int32)), (0, .ref 145)]) dX11_fact_12 rfl (by decide) rfl ?_
      refine mr_aload_n (pc' := 14) dX11_fact_13 rfl rfl ?_
      refine mr_ldc2 (pc' := 17) (v := (7237492 : Int64)) dX11_fact_14 rfl rfl ?_
      obtain ⟨q5, g6, h7⟩ := Option.bind_eq_some_iff.mp h4
      refine mr_cv (pc' := 20) (a := 145) (d1 := 1) dX11_fact_17 rfl rfl rfl rfl rfl rfl (by decide) rfl (by decide) (ok_X11_isWord hR  g6) ?_
      show mr X _ _ 20 _ [.int q5.1] (MM RR q5.2) _
      by_cases c8 : q5.1 = (0 : Int32)
      · rw [if_pos c8] at h7
        refine mr_if_eq_t (t := 43) dX11_fact_20 (by decide) c8 ?_
        refine mr_iload_n (pc' := 44) dX11_fact_43 rfl rfl ?_
        refine mr_bipush (pc' := 46) (v := (91 : Int32)) dX11_fact_44 rfl (by decide) ?_
        by_cases c9 : q2.1 = (91 : Int32)
        · rw [if_pos c9] at h7
          refine mr_icmp_ne_f (t := 72) (pc' := 49) dX11_fact_46 (by decide) rfl (not_not_intro c9) ?_
          refine mr_aload_n (pc' := 50) dX11_fact_49 rfl rfl ?_
          refine mr_bipush (pc' := 52) (v := (91 : Int32)) dX11_fact_50 rfl (by decide) ?_
          obtain ⟨q10, g11, h12⟩ := Option.bind_eq_some_iff.mp h7
          refine mr_cv (pc' := 55) (a := 145) (d1 := 1) dX11_fact_52 rfl rfl rfl rfl rfl rfl (by decide) rfl (by decide) (ok_X11_opens hR  g11) ?_
          show mr X _ _ 55 _ [.int q10.1] (MM RR q10.2) _
          by_cases c13 : q10.1 = (0 : Int32)
          · rw [if_pos c13] at h12
            refine mr_if_ne_f (t := 60) (pc' := 58) dX11_fact_55 (by decide) rfl (not_not_intro c13) ?_
            refine mr_iconst (pc' := 59) (v := (0 : Int32)) dX11_fact_58 rfl (by decide) ?_
            obtain rfl := Option.some.inj h12
            exact mr_zreturn dX11_fact_59 rfl (by decide)
          · rw [if_neg c13] at h12
            refine mr_if_ne_t (t := 60) dX11_fact_55 (by decide) c13 ?_
            refine mr_aload_n (pc' := 61) dX11_fact_60 rfl rfl ?_
            refine mr_dup_ref (pc' := 62) dX11_fact_61 rfl ?_
            refine mr_getI (pc' := 65) (ci := 11) (j := 13) dX11_fact_62 rfl rfl rfl (by decide) (by decide) rfl ?_
            refine mr_iconst (pc' := 66) (v := (1 : Int32)) dX11_fact_65 rfl (by decide) ?_
            refine mr_iadd (pc' := 67) dX11_fact_66 rfl ?_
            obtain ⟨S14, g15, h16⟩ := Option.bind_eq_some_iff.mp h12
            refine mr_putI (pc' := 70) (ci := 11) (j := 13) dX11_fact_67 rfl rfl rfl (by decide) (by decide) rfl rfl ?_
            rw [Option.some.inj g15]
            refine mr_iconst (pc' := 71) (v := (1 : Int32)) dX11_fact_70 rfl (by decide) ?_
            refine mr_istore_n (pc' := 72) (lv' := [(1, .int (1 : Int32)), (2, .int q2.1), (0, .ref 145)]) dX11_fact_71 rfl (by decide) rfl ?_
            refine mr_goto (t := 2) dX11_fact_72 (by decide) ?_
            exact mr_sub [(0, .ref 145), (1, .int (1 : Int32))] ⟨rfl, rfl, trivial⟩ rfl (ih _ _  h16)
        · rw [if_neg c9] at h7
          refine mr_icmp_ne_t (t := 72) dX11_fact_46 (by decide) c9 ?_
          refine mr_goto (t := 2) dX11_fact_72 (by decide) ?_
          exact mr_sub [(0, .ref 145), (1, .int (0 : Int32))] ⟨rfl, rfl, trivial⟩ rfl (ih _ _  h7)
      · rw [if_neg c8] at h7
        refine mr_if_eq_f (t := 43) (pc' := 23) dX11_fact_20 (by decide) rfl c8 ?_
        refine mr_aload_n (pc' := 24) dX11_fact_23 rfl rfl ?_
        refine mr_bipush (pc' := 26) (v := (11 : Int32)) dX11_fact_24 rfl (by decide) ?_
        obtain ⟨q17, g18, h19⟩ := Option.bind_eq_some_iff.mp h7
        refine mr_cv (pc' := 29) (a := 145) (d1 := 1) dX11_fact_26 rfl rfl rfl rfl rfl rfl (by decide) rfl (by decide) (ok_X11_opens hR  g18) ?_
        show mr X _ _ 29 _ [.int q17.1] (MM RR q17.2) _
        by_cases c20 : q17.1 = (0 : Int32)
        · rw [if_pos c20] at h19
          refine mr_if_ne_f (t := 34) (pc' := 32) dX11_fact_29 (by decide) rfl (not_not_intro c20) ?_
          refine mr_iconst (pc' := 33) (v := (0 : Int32)) dX11_fact_32 rfl (by decide) ?_
          obtain rfl := Option.some.inj h19
          exact mr_zreturn dX11_fact_33 rfl (by decide)
        · rw [if_neg c20] at h19
          refine mr_if_ne_t (t := 34) dX11_fact_29 (by decide) c20 ?_
          refine mr_aload_n (pc' := 35) dX11_fact_34 rfl rfl ?_
          obtain ⟨q21, g22, h23⟩ := Option.bind_eq_some_iff.mp h19
          refine mr_cv (pc' := 38) (a := 145) (d1 := 1) dX11_fact_35 rfl rfl rfl rfl rfl rfl (by decide) rfl (by decide) (ok_X11_passWord hR  g22) ?_
          show mr X _ _ 38 _ [] (MM RR q21) _
          refine mr_iconst (pc' := 39) (v := (1 : Int32)) dX11_fact_38 rfl (by decide) ?_
          refine mr_istore_n (pc' := 40) (lv' := [(1, .int (1 : Int32)), (2, .int q2.1), (0, .ref 145)]) dX11_fact_39 rfl (by decide) rfl ?_
          refine mr_goto (t := 72) dX11_fact_40 (by decide) ?_
          refine mr_goto (t := 2) dX11_fact_72 (by decide) ?_
          exact mr_sub [(0, .ref 145), (1, .int (1 : Int32))] ⟨rfl, rfl, trivial⟩ rfl (ih _ _  h23)
def f_X11_fact  (S : fS) : Option (Int32 × fS) :=
  lp_X11_fact_2  (fun S24 => (f_X11_compare  S24).bind fun q26 =>
  (bZ q26.1).bind fun z29 => some (z29, q26.2)) FU (1 : Int32) S
set_option maxHeartbeats 4000000 in
set_option maxRecDepth 100000 in
theorem ok_X11_fact {X : mm_C} {RR : Nat → Nat → Option Nat} (hR : RRok RR)   {S : fS} {r : Int32 × fS} (h : f_X11_fact  S = some r) : mr X 7 mY_X11_fact 0 (lv_args 0 [.ref 145]) [] (MM RR S) (some (.int r.1), MM RR r.2) := by
  unfold f_X11_fact at h
  show mr X _ _ 0 [(0, .ref 145)] [] (MM RR S) _
  refine mr_iconst (pc' := 1) (v := (1 : Int32)) dX11_fact_0 rfl (by decide) ?_
  refine mr_istore_n (pc' := 2) (lv' := [(1, .int (1 : Int32)), (0, .ref 145)]) dX11_fact_1 rfl (by decide) rfl ?_
  refine mr_sub [(0, .ref 145), (1, .int (1 : Int32))] ⟨rfl, rfl, trivial⟩ rfl ?_
  refine ok_lp_X11_fact_2 hR  (fun S24 h25 => ?_) FU _ _  h
  refine mr_aload_n (pc' := 76) dX11_fact_75 rfl rfl ?_
  obtain ⟨q26, g27, h28⟩ := Option.bind_eq_some_iff.mp h25
  refine mr_cv (pc' := 79) (a := 145) (d1 := 6) dX11_fact_76 rfl rfl rfl rfl rfl rfl (by decide) rfl (by decide) (ok_X11_compare hR  g27) ?_
  show mr X _ _ 79 _ [.int q26.1] (MM RR q26.2) _
  obtain ⟨z29, g30, h31⟩ := Option.bind_eq_some_iff.mp h28
  obtain ⟨g32, e33⟩ := mm_ifs g30
  cases e33
  cases h31
  exact mr_zreturn dX11_fact_79 rfl g32
def f_X11_strength (v0 : Int32) (S : fS) : Option (Int32) :=
  if v0 = (13 : Int32) then (some (1 : Int32)) else
  (if v0 = (12 : Int32) then (some (2 : Int32)) else
  (if v0 = (11 : Int32) then (some (3 : Int32)) else
  (some (0 : Int32))))
set_option maxHeartbeats 4000000 in
set_option maxRecDepth 100000 in
theorem ok_X11_strength {X : mm_C} {RR : Nat → Nat → Option Nat} (hR : RRok RR) {v0 : Int32}  {S : fS} {r : Int32} (h : f_X11_strength v0 S = some r) : mr X 0 mY_X11_strength 0 (lv_args 0 [.int v0]) [] (MM RR S) (some (.int r), MM RR S) := by
  unfold f_X11_strength at h
  show mr X _ _ 0 [(0, .int v0)] [] (MM RR S) _
  refine mr_iload_n (pc' := 1) dX11_strength_0 rfl rfl ?_
  refine mr_bipush (pc' := 3) (v := (13 : Int32)) dX11_strength_1 rfl (by decide) ?_
  by_cases c1 : v0 = (13 : Int32)
  · rw [if_pos c1] at h
    refine mr_icmp_ne_f (t := 10) (pc' := 6) dX11_strength_3 (by decide) rfl (not_not_intro c1) ?_
    refine mr_iconst (pc' := 7) (v := (1 : Int32)) dX11_strength_6 rfl (by decide) ?_
    refine mr_goto (t := 31) dX11_strength_7 (by decide) ?_
    obtain rfl := Option.some.inj h
    exact mr_ireturn dX11_strength_31 rfl
  · rw [if_neg c1] at h
    refine mr_icmp_ne_t (t := 10) dX11_strength_3 (by decide) c1 ?_
    refine mr_iload_n (pc' := 11) dX11_strength_10 rfl rfl ?_
    refine mr_bipush (pc' := 13) (v := (12 : Int32)) dX11_strength_11 rfl (by decide) ?_
    by_cases c2 : v0 = (12 : Int32)
    · rw [if_pos c2] at h
      refine mr_icmp_ne_f (t := 20) (pc' := 16) dX11_strength_13 (by decide) rfl (not_not_intro c2) ?_
      refine mr_iconst (pc' := 17) (v := (2 : Int32)) dX11_strength_16 rfl (by decide) ?_
      refine mr_goto (t := 31) dX11_strength_17 (by decide) ?_
      obtain rfl := Option.some.inj h
      exact mr_ireturn dX11_strength_31 rfl
    · rw [if_neg c2] at h
      refine mr_icmp_ne_t (t := 20) dX11_strength_13 (by decide) c2 ?_
      refine mr_iload_n (pc' := 21) dX11_strength_20 rfl rfl ?_
      refine mr_bipush (pc' := 23) (v := (11 : Int32)) dX11_strength_21 rfl (by decide) ?_
      by_cases c3 : v0 = (11 : Int32)
      · rw [if_pos c3] at h
        refine mr_icmp_ne_f (t := 30) (pc' := 26) dX11_strength_23 (by decide) rfl (not_not_intro c3) ?_
        refine mr_iconst (pc' := 27) (v := (3 : Int32)) dX11_strength_26 rfl (by decide) ?_
        refine mr_goto (t := 31) dX11_strength_27 (by decide) ?_
        obtain rfl := Option.some.inj h
        exact mr_ireturn dX11_strength_31 rfl
      · rw [if_neg c3] at h
        refine mr_icmp_ne_t (t := 30) dX11_strength_23 (by decide) c3 ?_
        refine mr_iconst (pc' := 31) (v := (0 : Int32)) dX11_strength_30 rfl (by decide) ?_
        obtain rfl := Option.some.inj h
        exact mr_ireturn dX11_strength_31 rfl
def lp_X11_settles_0 (p1 : Int32) (K : fS → Option (fS)) : Nat → fS → Option (fS)
  | 0, _ => none
  | n + 1, S0 =>
    if (S0.1 145 21) ≤ (0 : Int32) then (K S0) else
    ((gI S0 154 400 ((S0.1 145 21) - (1 : Int32))).bind fun a2 =>
    (f_X11_strength a2 S0).bind fun q5 =>
    if q5 < p1 then (K S0) else
    ((some (pI S0 145 21 ((S0.1 145 21) - (1 : Int32)))).bind fun S9 =>
    (gI S9 154 400 (S9.1 145 21)).bind fun a12 =>
    (f_X11_puts a12 (0 : Int32) S9).bind fun q15 =>
    (gI q15 154 400 (q15.1 145 21)).bind fun a18 =>
    if a18 = (11 : Int32) then ((some (pI q15 145 18 ((q15.1 145 18) - (1 : Int32)))).bind fun S22 =>
    lp_X11_settles_0 p1 K n  S22) else
    (lp_X11_settles_0 p1 K n  q15)))
set_option maxHeartbeats 4000000 in
set_option maxRecDepth 100000 in
theorem ok_lp_X11_settles_0 {X : mm_C} {RR : Nat → Nat → Option Nat} (hR : RRok RR) {p1 : Int32}  {K : fS → Option (fS)} {r : fS} (hK : ∀ (Sk : fS), K Sk = some r → mr X 1 mY_X11_settles 76 [] [] (MM RR Sk) (none, MM RR r)) : ∀ (n : Nat) (S0 : fS), lp_X11_settles_0 p1 K n S0 = some r → mr X 1 mY_X11_settles 0 [(0, .ref 145), (1, .int p1)] [] (MM RR S0) (none, MM RR r) := by
  intro n
  induction n with
  | zero => intro S0 h; exact mm_no h
  | succ n ih =>
    intro S0 h
    unfold lp_X11_settles_0 at h
    refine mr_aload_n (pc' := 1) dX11_settles_0 rfl rfl ?_
    refine mr_getI (pc' := 4) (ci := 11) (j := 21) dX11_settles_1 rfl rfl rfl (by decide) (by decide) rfl ?_
    by_cases c1 : (S0.1 145 21) ≤ (0 : Int32)
    · rw [if_pos c1] at h
      refine mr_if_le_t (t := 76) dX11_settles_4 (by decide) c1 ?_
      exact mr_sub [] trivial rfl (hK _  h)
    · rw [if_neg c1] at h
      refine mr_if_le_f (t := 76) (pc' := 7) dX11_settles_4 (by decide) rfl c1 ?_
      refine mr_aload_n (pc' := 8) dX11_settles_7 rfl rfl ?_
      refine mr_getR (pc' := 11) (ci := 11) (j := 20) (b := 154) hR dX11_settles_8 rfl rfl rfl (by decide) (by decide) (by decide) rfl rfl ?_
      refine mr_aload_n (pc' := 12) dX11_settles_11 rfl rfl ?_
      refine mr_getI (pc' := 15) (ci := 11) (j := 21) dX11_settles_12 rfl rfl rfl (by decide) (by decide) rfl ?_
      refine mr_iconst (pc' := 16) (v := (1 : Int32)) dX11_settles_15 rfl (by decide) ?_
      refine mr_isub (pc' := 17) dX11_settles_16 rfl ?_
      obtain ⟨a2, g3, h4⟩ := Option.bind_eq_some_iff.mp h
      refine mr_iald (pc' := 18) dX11_settles_17 rfl rfl rfl g3 ?_
      obtain ⟨q5, g6, h7⟩ := Option.bind_eq_some_iff.mp h4
      refine mr_cs (pc' := 21) (d1 := 0) dX11_settles_18 rfl rfl rfl rfl (by decide) (Nat.le_of_ble_eq_true rfl) rfl rfl rfl (by decide) (ok_X11_strength hR  g6) ?_
      show mr X _ _ 21 _ [.int q5] (MM RR S0) _
      refine mr_iload_n (pc' := 22) dX11_settles_21 rfl rfl ?_
      by_cases c8 : q5 < p1
      · rw [if_pos c8] at h7
        refine mr_icmp_lt_t (t := 76) dX11_settles_22 (by decide) c8 ?_
        exact mr_sub [] trivial rfl (hK _  h7)
      · rw [if_neg c8] at h7
        refine mr_icmp_lt_f (t := 76) (pc' := 25) dX11_settles_22 (by decide) rfl c8 ?_
        refine mr_aload_n (pc' := 26) dX11_settles_25 rfl rfl ?_
        refine mr_dup_ref (pc' := 27) dX11_settles_26 rfl ?_
        refine mr_getI (pc' := 30) (ci := 11) (j := 21) dX11_settles_27 rfl rfl rfl (by decide) (by decide) rfl ?_
        refine mr_iconst (pc' := 31) (v := (1 : Int32)) dX11_settles_30 rfl (by decide) ?_
        refine mr_isub (pc' := 32) dX11_settles_31 rfl ?_
        obtain ⟨S9, g10, h11⟩ := Option.bind_eq_some_iff.mp h7
        refine mr_putI (pc' := 35) (ci := 11) (j := 21) dX11_settles_32 rfl rfl rfl (by decide) (by decide) rfl rfl ?_
        rw [Option.some.inj g10]
        refine mr_aload_n (pc' := 36) dX11_settles_35 rfl rfl ?_
        refine mr_aload_n (pc' := 37) dX11_settles_36 rfl rfl ?_
        refine mr_getR (pc' := 40) (ci := 11) (j := 20) (b := 154) hR dX11_settles_37 rfl rfl rfl (by decide) (by decide) (by decide) rfl rfl ?_
        refine mr_aload_n (pc' := 41) dX11_settles_40 rfl rfl ?_
        refine mr_getI (pc' := 44) (ci := 11) (j := 21) dX11_settles_41 rfl rfl rfl (by decide) (by decide) rfl ?_
        obtain ⟨a12, g13, h14⟩ := Option.bind_eq_some_iff.mp h11
        refine mr_iald (pc' := 45) dX11_settles_44 rfl rfl rfl g13 ?_
        refine mr_iconst (pc' := 46) (v := (0 : Int32)) dX11_settles_45 rfl (by decide) ?_
        obtain ⟨q15, g16, h17⟩ := Option.bind_eq_some_iff.mp h14
        refine mr_cv (pc' := 49) (a := 145) (d1 := 0) dX11_settles_46 rfl rfl rfl rfl rfl rfl (by decide) rfl (by decide) (ok_X11_puts hR  g16) ?_
        show mr X _ _ 49 _ [] (MM RR q15) _
        refine mr_aload_n (pc' := 50) dX11_settles_49 rfl rfl ?_
        refine mr_getR (pc' := 53) (ci := 11) (j := 20) (b := 154) hR dX11_settles_50 rfl rfl rfl (by decide) (by decide) (by decide) rfl rfl ?_
        refine mr_aload_n (pc' := 54) dX11_settles_53 rfl rfl ?_
        refine mr_getI (pc' := 57) (ci := 11) (j := 21) dX11_settles_54 rfl rfl rfl (by decide) (by decide) rfl ?_
        obtain ⟨a18, g19, h20⟩ := Option.bind_eq_some_iff.mp h17
        refine mr_iald (pc' := 58) dX11_settles_57 rfl rfl rfl g19 ?_
        refine mr_bipush (pc' := 60) (v := (11 : Int32)) dX11_settles_58 rfl (by decide) ?_
        by_cases c21 : a18 = (11 : Int32)
        · rw [if_pos c21] at h20
          refine mr_icmp_ne_f (t := 0) (pc' := 63) dX11_settles_60 (by decide) rfl (not_not_intro c21) ?_
          refine mr_aload_n (pc' := 64) dX11_settles_63 rfl rfl ?_
          refine mr_dup_ref (pc' := 65) dX11_settles_64 rfl ?_
          refine mr_getI (pc' := 68) (ci := 11) (j := 18) dX11_settles_65 rfl rfl rfl (by decide) (by decide) rfl ?_
          refine mr_iconst (pc' := 69) (v := (1 : Int32)) dX11_settles_68 rfl (by decide) ?_
          refine mr_isub (pc' := 70) dX11_settles_69 rfl ?_
          obtain ⟨S22, g23, h24⟩ := Option.bind_eq_some_iff.mp h20
          refine mr_putI (pc' := 73) (ci := 11) (j := 18) dX11_settles_70 rfl rfl rfl (by decide) (by decide) rfl rfl ?_
          rw [Option.some.inj g23]
          refine mr_goto (t := 0) dX11_settles_73 (by decide) ?_
          exact mr_sub [(0, .ref 145), (1, .int p1)] ⟨rfl, rfl, trivial⟩ rfl (ih _  h24)
        · rw [if_neg c21] at h20
          refine mr_icmp_ne_t (t := 0) dX11_settles_60 (by decide) c21 ?_
          exact mr_sub [(0, .ref 145), (1, .int p1)] ⟨rfl, rfl, trivial⟩ rfl (ih _  h20)
def f_X11_settles (v1 : Int32) (S : fS) : Option (fS) :=
  lp_X11_settles_0 v1 (fun S25 => some S25) FU  S
set_option maxHeartbeats 4000000 in
set_option maxRecDepth 100000 in
theorem ok_X11_settles {X : mm_C} {RR : Nat → Nat → Option Nat} (hR : RRok RR) {v1 : Int32}  {S : fS} {r : fS} (h : f_X11_settles v1 S = some r) : mr X 1 mY_X11_settles 0 (lv_args 0 [.ref 145, .int v1]) [] (MM RR S) (none, MM RR r) := by
  unfold f_X11_settles at h
  show mr X _ _ 0 [(0, .ref 145), (1, .int v1)] [] (MM RR S) _
  refine mr_sub [(0, .ref 145), (1, .int v1)] ⟨rfl, rfl, trivial⟩ rfl ?_
  refine ok_lp_X11_settles_0 hR  (fun S25 h26 => ?_) FU _  h
  obtain rfl := Option.some.inj h26
  exact mr_return dX11_settles_76 rfl
def lp_X11_isInside_2  (S : fS) (K : Unit → Option (Int32)) : Nat → Int32 → Option (Int32)
  | 0, _ => none
  | n + 1, p1 =>
    if (S.1 145 21) ≤ p1 then (K ()) else
    ((gI S 154 400 p1).bind fun a2 =>
    if a2 = (91 : Int32) then (some (1 : Int32)) else
    (lp_X11_isInside_2  S K n (p1 + (1 : Int32))))
set_option maxHeartbeats 4000000 in
set_option maxRecDepth 100000 in
theorem ok_lp_X11_isInside_2 {X : mm_C} {RR : Nat → Nat → Option Nat} (hR : RRok RR)   {S : fS} {K : Unit → Option (Int32)} {r : Int32} (hK : ∀ (_ : Unit), K () = some r → mr X 0 mY_X11_isInside 29 [] [] (MM RR S) (some (.int r), MM RR S)) : ∀ (n : Nat) (p1 : Int32), lp_X11_isInside_2  S K n p1 = some r → mr X 0 mY_X11_isInside 2 [(0, .ref 145), (1, .int p1)] [] (MM RR S) (some (.int r), MM RR S) := by
  intro n
  induction n with
  | zero => intro p1 h; exact mm_no h
  | succ n ih =>
    intro p1 h
    unfold lp_X11_isInside_2 at h
    refine mr_iload_n (pc' := 3) dX11_isInside_2 rfl rfl ?_
    refine mr_aload_n (pc' := 4) dX11_isInside_3 rfl rfl ?_
    refine mr_getI (pc' := 7) (ci := 11) (j := 21) dX11_isInside_4 rfl rfl rfl (by decide) (by decide) rfl ?_
    by_cases c1 : (S.1 145 21) ≤ p1
    · rw [if_pos c1] at h
      refine mr_icmp_ge_t (t := 29) dX11_isInside_7 (by decide) c1 ?_
      exact mr_sub [] trivial rfl (hK () h)
    · rw [if_neg c1] at h
      refine mr_icmp_ge_f (t := 29) (pc' := 10) dX11_isInside_7 (by decide) rfl c1 ?_
      refine mr_aload_n (pc' := 11) dX11_isInside_10 rfl rfl ?_
      refine mr_getR (pc' := 14) (ci := 11) (j := 20) (b := 154) hR dX11_isInside_11 rfl rfl rfl (by decide) (by decide) (by decide) rfl rfl ?_
      refine mr_iload_n (pc' := 15) dX11_isInside_14 rfl rfl ?_
      obtain ⟨a2, g3, h4⟩ := Option.bind_eq_some_iff.mp h
      refine mr_iald (pc' := 16) dX11_isInside_15 rfl rfl rfl g3 ?_
      refine mr_bipush (pc' := 18) (v := (91 : Int32)) dX11_isInside_16 rfl (by decide) ?_
      by_cases c5 : a2 = (91 : Int32)
      · rw [if_pos c5] at h4
        refine mr_icmp_ne_f (t := 23) (pc' := 21) dX11_isInside_18 (by decide) rfl (not_not_intro c5) ?_
        refine mr_iconst (pc' := 22) (v := (1 : Int32)) dX11_isInside_21 rfl (by decide) ?_
        obtain rfl := Option.some.inj h4
        exact mr_zreturn dX11_isInside_22 rfl (by decide)
      · rw [if_neg c5] at h4
        refine mr_icmp_ne_t (t := 23) dX11_isInside_18 (by decide) c5 ?_
        refine mr_iinc (pc' := 26) (x' := (p1 + (1 : Int32))) (lv' := [(1, .int (p1 + (1 : Int32))), (0, .ref 145)]) dX11_isInside_23 rfl (by decide) rfl rfl rfl ?_
        refine mr_goto (t := 2) dX11_isInside_26 (by decide) ?_
        exact mr_sub [(0, .ref 145), (1, .int (p1 + (1 : Int32)))] ⟨rfl, rfl, trivial⟩ rfl (ih _  h4)
def f_X11_isInside  (S : fS) : Option (Int32) :=
  lp_X11_isInside_2  S (fun (_ : Unit) => some (0 : Int32)) FU (0 : Int32)
set_option maxHeartbeats 4000000 in
set_option maxRecDepth 100000 in
theorem ok_X11_isInside {X : mm_C} {RR : Nat → Nat → Option Nat} (hR : RRok RR)   {S : fS} {r : Int32} (h : f_X11_isInside  S = some r) : mr X 0 mY_X11_isInside 0 (lv_args 0 [.ref 145]) [] (MM RR S) (some (.int r), MM RR S) := by
  unfold f_X11_isInside at h
  show mr X _ _ 0 [(0, .ref 145)] [] (MM RR S) _
  refine mr_iconst (pc' := 1) (v := (0 : Int32)) dX11_isInside_0 rfl (by decide) ?_
  refine mr_istore_n (pc' := 2) (lv' := [(1, .int (0 : Int32)), (0, .ref 145)]) dX11_isInside_1 rfl (by decide) rfl ?_
  refine mr_sub [(0, .ref 145), (1, .int (0 : Int32))] ⟨rfl, rfl, trivial⟩ rfl ?_
  refine ok_lp_X11_isInside_2 hR  (fun _ h6 => ?_) FU _  h
  refine mr_iconst (pc' := 30) (v := (0 : Int32)) dX11_isInside_29 rfl (by decide) ?_
  obtain rfl := Option.some.inj h6
  exact mr_zreturn dX11_isInside_30 rfl (by decide)
def lp_X11_closes_5  (K : fS → Option (fS)) : Nat → fS → Option (fS)
  | 0, _ => none
  | n + 1, S0 =>
    (f_X11_see  S0).bind fun q4 =>
    if q4.1 = (93 : Int32) then ((f_X11_isInside  q4.2).bind fun q8 =>
    if q8 = (0 : Int32) then (K q4.2) else
    ((f_X11_settles (1 : Int32) q4.2).bind fun q12 =>
    (some (pI q12 145 21 ((q12.1 145 21) - (1 : Int32)))).bind fun S15 =>
    (some (pI S15 145 18 ((S15.1 145 18) - (1 : Int32)))).bind fun S18 =>
    (some (pI S18 145 13 ((S18.1 145 13) + (1 : Int32)))).bind fun S21 =>
    (f_X11_settles (3 : Int32) S21).bind fun q24 =>
    lp_X11_closes_5  K n  q24)) else
    (K q4.2)
set_option maxHeartbeats 4000000 in
set_option maxRecDepth 100000 in
theorem ok_lp_X11_closes_5 {X : mm_C} {RR : Nat → Nat → Option Nat} (hR : RRok RR)   {K : fS → Option (fS)} {r : fS} (hK : ∀ (Sk : fS), K Sk = some r → mr X 2 mY_X11_closes 64 [] [] (MM RR Sk) (none, MM RR r)) : ∀ (n : Nat) (S0 : fS), lp_X11_closes_5  K n S0 = some r → mr X 2 mY_X11_closes 5 [(0, .ref 145)] [] (MM RR S0) (none, MM RR r) := by
  intro n
  induction n with
  | zero => intro S0 h; exact mm_no h
  | succ n ih =>
    intro S0 h
    unfold lp_X11_closes_5 at h
    refine mr_aload_n (pc' := 6) dX11_closes_5 rfl rfl ?_
    obtain ⟨q4, g5, h6⟩ := Option.bind_eq_some_iff.mp h
    refine mr_cv (pc' := 9) (a := 145) (d1 := 0) dX11_closes_6 rfl rfl rfl rfl rfl rfl (by decide) rfl (by decide) (ok_X11_see hR  g5) ?_
    show mr X _ _ 9 _ [.int q4.1] (MM RR q4.2) _
    refine mr_bipush (pc' := 11) (v := (93 : Int32)) dX11_closes_9 rfl (by decide) ?_
    by_cases c7 : q4.1 = (93 : Int32)
    · rw [if_pos c7] at h6
      refine mr_icmp_ne_f (t := 64) (pc' := 14) dX11_closes_11 (by decide) rfl (not_not_intro c7) ?_
      refine mr_aload_n (pc' := 15) dX11_closes_14 rfl rfl ?_
      obtain ⟨q8, g9, h10⟩ := Option.bind_eq_some_iff.mp h6
      refine mr_cv (pc' := 18) (a := 145) (d1 := 0) dX11_closes_15 rfl rfl rfl rfl rfl rfl (by decide) rfl (by decide) (ok_X11_isInside hR  g9) ?_
      show mr X _ _ 18 _ [.int q8] (MM RR q4.2) _
      by_cases c11 : q8 = (0 : Int32)
      · rw [if_pos c11] at h10
        refine mr_if_eq_t (t := 64) dX11_closes_18 (by decide) c11 ?_
        exact mr_sub [] trivial rfl (hK _  h10)
      · rw [if_neg c11] at h10
        refine mr_if_eq_f (t := 64) (pc' := 21) dX11_closes_18 (by decide) rfl c11 ?_
        refine mr_aload_n (pc' := 22) dX11_closes_21 rfl rfl ?_
        refine mr_iconst (pc' := 23) (v := (1 : Int32)) dX11_closes_22 rfl (by decide) ?_
        obtain ⟨q12, g13, h14⟩ := Option.bind_eq_some_iff.mp h10
        refine mr_cv (pc' := 26) (a := 145) (d1 := 1) dX11_closes_23 rfl rfl rfl rfl rfl rfl (by decide) rfl (by decide) (ok_X11_settles hR  g13) ?_
        show mr X _ _ 26 _ [] (MM RR q12) _
        refine mr_aload_n (pc' := 27) dX11_closes_26 rfl rfl ?_
        refine mr_dup_ref (pc' := 28) dX11_closes_27 rfl ?_
        refine mr_getI (pc' := 31) (ci := 11) (j := 21) dX11_closes_28 rfl rfl rfl (by decide) (by decide) rfl ?_
        refine mr_iconst (pc' := 32) (v := (1 : Int32)) dX11_closes_31 rfl (by decide) ?_
        refine mr_isub (pc' := 33) dX11_closes_32 rfl ?_
        obtain ⟨S15, g16, h17⟩ := Option.bind_eq_some_iff.mp h14
        refine mr_putI (pc' := 36) (ci := 11) (j := 21) dX11_closes_33 rfl rfl rfl (by decide) (by decide) rfl rfl ?_
        rw [Option.some.inj g16]
        refine mr_aload_n (pc' := 37) dX11_closes_36 rfl rfl ?_
        refine mr_dup_ref (pc' := 38) dX11_closes_37 rfl ?_
        refine mr_getI (pc' := 41) (ci := 11) (j := 18) dX11_closes_38 rfl rfl rfl (by decide) (by decide) rfl ?_
        refine mr_iconst (pc' := 42) (v := (1 : Int32)) dX11_closes_41 rfl (by decide) ?_
        refine mr_isub (pc' := 43) dX11_closes_42 rfl ?_
        obtain ⟨S18, g19, h20⟩ := Option.bind_eq_some_iff.mp h17
        refine mr_putI (pc' := 46) (ci := 11) (j := 18) dX11_closes_43 rfl rfl rfl (by decide) (by decide) rfl rfl ?_
        rw [Option.some.inj g19]
        refine mr_aload_n (pc' := 47) dX11_closes_46 rfl rfl ?_
        refine mr_dup_ref (pc' := 48) dX11_closes_47 rfl ?_
        refine mr_getI (pc' := 51) (ci := 11) (j := 13) dX11_closes_48 rfl rfl rfl (by decide) (by decide) rfl ?_
        refine mr_iconst (pc' := 52) (v := (1 : Int32)) dX11_closes_51 rfl (by decide) ?_
        refine mr_iadd (pc' := 53) dX11_closes_52 rfl ?_
        obtain ⟨S21, g22, h23⟩ := Option.bind_eq_some_iff.mp h20
        refine mr_putI (pc' := 56) (ci := 11) (j := 13) dX11_closes_53 rfl rfl rfl (by decide) (by decide) rfl rfl ?_
        rw [Option.some.inj g22]
        refine mr_aload_n (pc' := 57) dX11_closes_56 rfl rfl ?_
        refine mr_iconst (pc' := 58) (v := (3 : Int32)) dX11_closes_57 rfl (by decide) ?_
        obtain ⟨q24, g25, h26⟩ := Option.bind_eq_some_iff.mp h23
        refine mr_cv (pc' := 61) (a := 145) (d1 := 1) dX11_closes_58 rfl rfl rfl rfl rfl rfl (by decide) rfl (by decide) (ok_X11_settles hR  g25) ?_
        show mr X _ _ 61 _ [] (MM RR q24) _
        refine mr_goto (t := 5) dX11_closes_61 (by decide) ?_
        exact mr_sub [(0, .ref 145)] ⟨rfl, trivial⟩ rfl (ih _  h26)
    · rw [if_neg c7] at h6
      refine mr_icmp_ne_t (t := 64) dX11_closes_11 (by decide) c7 ?_
      exact mr_sub [] trivial rfl (hK _  h6)
def f_X11_closes  (S : fS) : Option (fS) :=
  (f_X11_settles (3 : Int32) S).bind fun q1 =>
  lp_X11_closes_5  (fun S27 => some S27) FU  q1
set_option maxHeartbeats 4000000 in
set_option maxRecDepth 100000 in
theorem ok_X11_closes {X : mm_C} {RR : Nat → Nat → Option Nat} (hR : RRok RR)   {S : fS} {r : fS} (h : f_X11_closes  S = some r) : mr X 2 mY_X11_closes 0 (lv_args 0 [.ref 145]) [] (MM RR S) (none, MM RR r) := by
  unfold f_X11_closes at h
  show mr X _ _ 0 [(0, .ref 145)] [] (MM RR S) _
  refine mr_aload_n (pc' := 1) dX11_closes_0 rfl rfl ?_
  refine mr_iconst (pc' := 2) (v := (3 : Int32)) dX11_closes_1 rfl (by decide) ?_
  obtain ⟨q1, g2, h3⟩ := Option.bind_eq_some_iff.mp h
  refine mr_cv (pc' := 5) (a := 145) (d1 := 1) dX11_closes_2 rfl rfl rfl rfl rfl rfl (by decide) rfl (by decide) (ok_X11_settles hR  g2) ?_
  show mr X _ _ 5 _ [] (MM RR q1) _
  refine mr_sub [(0, .ref 145)] ⟨rfl, trivial⟩ rfl ?_
  refine ok_lp_X11_closes_5 hR  (fun S27 h28 => ?_) FU _  h3
  obtain rfl := Option.some.inj h28
  exact mr_return dX11_closes_64 rfl
def lp_X11_tested_12  (K : fS → Option (Int32 × fS)) : Nat → Int32 → fS → Option (Int32 × fS)
  | 0, _, _ => none
  | n + 1, p1, S0 =>
    if p1 = (0 : Int32) then (K S0) else
    ((f_X11_fact  S0).bind fun q8 =>
    if q8.1 = (0 : Int32) then (some ((0 : Int32), q8.2)) else
    ((f_X11_closes  q8.2).bind fun q12 =>
    (f_X11_isWord (6385252 : Int64) q12).bind fun q15 =>
    if q15.1 = (0 : Int32) then ((f_X11_isWord (28530 : Int64) q15.2).bind fun q54 =>
    if q54.1 = (0 : Int32) then (if (0 : Int32) = (0 : Int32) then (lp_X11_tested_12  K n (0 : Int32) q54.2) else
    ((f_X11_isWord (6385252 : Int64) q54.2).bind fun q59 =>
    if q59.1 = (0 : Int32) then ((f_X11_passWord  q59.2).bind fun q63 =>
    (f_X11_strength (13 : Int32) q63).bind fun q66 =>
    (f_X11_settles q66 q63).bind fun q69 =>
    (sI q69 154 400 (q69.1 145 21) (13 : Int32)).bind fun S72 =>
    (some (pI S72 145 21 ((S72.1 145 21) + (1 : Int32)))).bind fun S75 =>
    lp_X11_tested_12  K n (0 : Int32) S75) else
    ((f_X11_passWord  q59.2).bind fun q78 =>
    (f_X11_strength (12 : Int32) q78).bind fun q81 =>
    (f_X11_settles q81 q78).bind fun q84 =>
    (sI q84 154 400 (q84.1 145 21) (12 : Int32)).bind fun S87 =>
    (some (pI S87 145 21 ((S87.1 145 21) + (1 : Int32)))).bind fun S90 =>
    lp_X11_tested_12  K n (0 : Int32) S90))) else
    (if (1 : Int32) = (0 : Int32) then (lp_X11_tested_12  K n (1 : Int32) q54.2) else
    ((f_X11_isWord (6385252 : Int64) q54.2).bind fun q94 =>
    if q94.1 = (0 : Int32) then ((f_X11_passWord  q94.2).bind fun q98 =>
    (f_X11_strength (13 : Int32) q98).bind fun q101 =>
    (f_X11_settles q101 q98).bind fun q104 =>
    (sI q104 154 400 (q104.1 145 21) (13 : Int32)).bind fun S107 =>
    (some (pI S107 145 21 ((S107.1 145 21) + (1 : Int32)))).bind fun S110 =>
    lp_X11_tested_12  K n (1 : Int32) S110) else
    ((f_X11_passWord  q94.2).bind fun q113 =>
    (f_X11_strength (12 : Int32) q113).bind fun q116 =>
    (f_X11_settles q116 q113).bind fun q119 =>
    (sI q119 154 400 (q119.1 145 21) (12 : Int32)).bind fun S122 =>
    (some (pI S122 145 21 ((S122.1 145 21) + (1 : Int32)))).bind fun S125 =>
    lp_X11_tested_12  K n (1 : Int32) S125)))) else
    (if (1 : Int32) = (0 : Int32) then (lp_X11_tested_12  K n (1 : Int32) q15.2) else
    ((f_X11_isWord (6385252 : Int64) q15.2).bind fun q20 =>
    if q20.1 = (0 : Int32) then ((f_X11_passWord  q20.2).bind fun q24 =>
    (f_X11_strength (13 : Int32) q24).bind fun q27 =>
    (f_X11_settles q27 q24).bind fun q30 =>
    (sI q30 154 400 (q30.1 145 21) (13 : Int32)).bind fun S33 =>
    (some (pI S33 145 21 ((S33.1 145 21) + (1 : Int32)))).bind fun S36 =>
    lp_X11_tested_12  K n (1 : Int32) S36) else
    ((f_X11_passWord  q20.2).bind fun q39 =>
    (f_X11_strength (12 : Int32) q39).bind fun q42 =>
    (f_X11_settles q42 q39).bind fun q45 =>
    (sI q45 154 400 (q45.1 145 21) (12 : Int32)).bind fun S48 =>
    (some (pI S48 145 21 ((S48.1 145 21) + (1 : Int32)))).bind fun S51 =>
    lp_X11_tested_12  K n (1 : Int32) S51)))))
set_option maxHeartbeats 4000000 in
set_option maxRecDepth 100000 in
theorem ok_lp_X11_tested_12 {X : mm_C} {RR : Nat → Nat → Option Nat} (hR : RRok RR)   {K : fS → Option (Int32 × fS)} {r : Int32 × fS} (hK : ∀ (Sk : fS), K Sk = some r → mr X 8 mY_X11_tested 112 [(0, .ref 145)] [] (MM RR Sk) (some (.int r.1), MM RR r.2)) : ∀ (n : Nat) (p1 : Int32) (S0 : fS), lp_X11_tested_12  K n p1 S0 = some r → mr X 8 mY_X11_tested 12 [(0, .ref 145), (1, .int p1)] [] (MM RR S0) (some (.int r.1), MM RR r.2) := by
  intro n
  induction n with
  | zero => intro p1 S0 h; exact mm_no h
  | succ n ih =>
    intro p1 S0 h
    unfold lp_X11_tested_12 at h
    refine mr_iload_n (pc' := 13) dX11_tested_12 rfl rfl ?_
    by_cases c7 : p1 = (0 : Int32)
    · rw [if_pos c7] at h
      refine mr_if_eq_t (t := 112) dX11_tested_13 (by decide) c7 ?_
      exact mr_sub [(0, .ref 145)] ⟨rfl, trivial⟩ rfl (hK _  h)
    · rw [if_neg c7] at h
      refine mr_if_eq_f (t := 112) (pc' := 16) dX11_tested_13 (by decide) rfl c7 ?_
      refine mr_aload_n (pc' := 17) dX11_tested_16 rfl rfl ?_
      obtain ⟨q8, g9, h10⟩ := Option.bind_eq_some_iff.mp h
      refine mr_cv (pc' := 20) (a := 145) (d1 := 7) dX11_tested_17 rfl rfl rfl rfl rfl rfl (by decide) rfl (by decide) (ok_X11_fact hR  g9) ?_
      show mr X _ _ 20 _ [.int q8.1] (MM RR q8.2) _
      by_cases c11 : q8.1 = (0 : Int32)
      · rw [if_pos c11] at h10
        refine mr_if_ne_f (t := 25) (pc' := 23) dX11_tested_20 (by decide) rfl (not_not_intro c11) ?_
        refine mr_iconst (pc' := 24) (v := (0 : Int32)) dX11_tested_23 rfl (by decide) ?_
        obtain rfl := Option.some.inj h10
        exact mr_zreturn dX11_tested_24 rfl (by decide)
      · rw [if_neg c11] at h10
        refine mr_if_ne_t (t := 25) dX11_tested_20 (by decide) c11 ?_
        refine mr_aload_n (pc' := 26) dX11_tested_25 rfl rfl ?_
        obtain ⟨q12, g13, h14⟩ := Option.bind_eq_some_iff.mp h10
        refine mr_cv (pc' := 29) (a := 145) (d1 := 2) dX11_tested_26 rfl rfl rfl rfl rfl rfl (by decide) rfl (by decide) (ok_X11_closes hR  g13) ?_
        show mr X _ _ 29 _ [] (MM RR q12) _
        refine mr_aload_n (pc' := 30) dX11_tested_29 rfl rfl ?_
        refine mr_ldc2 (pc' := 33) (v := (6385252 : Int64)) dX11_tested_30 rfl rfl ?_
        obtain ⟨q15, g16, h17⟩ := Option.bind_eq_some_iff.mp h14
        refine mr_cv (pc' := 36) (a := 145) (d1 := 1) dX11_tested_33 rfl rfl rfl rfl rfl rfl (by decide) rfl (by decide) (ok_X11_isWord hR  g16) ?_
        show mr X _ _ 36 _ [.int q15.1] (MM RR q15.2) _
        by_cases c18 : q15.1 = (0 : Int32)
        · rw [if_pos c18] at h17
          refine mr_if_ne_f (t := 49) (pc' := 39) dX11_tested_36 (by decide) rfl (not_not_intro c18) ?_
          refine mr_aload_n (pc' := 40) dX11_tested_39 rfl rfl ?_
          refine mr_ldc2 (pc' := 43) (v := (28530 : Int64)) dX11_tested_40 rfl rfl ?_
          obtain ⟨q54, g55, h56⟩ := Option.bind_eq_some_iff.mp h17
          refine mr_cv (pc' := 46) (a := 145) (d1 := 1) dX11_tested_43 rfl rfl rfl rfl rfl rfl (by decide) rfl (by decide) (ok_X11_isWord hR  g55) ?_
          show mr X _ _ 46 _ [.int q54.1] (MM RR q54.2) _
          by_cases c57 : q54.1 = (0 : Int32)
          · rw [if_pos c57] at h56
            refine mr_if_eq_t (t := 53) dX11_tested_46 (by decide) c57 ?_
            refine mr_iconst (pc' := 54) (v := (0 : Int32)) dX11_tested_53 rfl (by decide) ?_
            refine mr_istore_n (pc' := 55) (lv' := [(1, .int (0 : Int32)), (0, .ref 145)]) dX11_tested_54 rfl (by decide) rfl ?_
            refine mr_iload_n (pc' := 56) dX11_tested_55 rfl rfl ?_
            by_cases c58 : (0 : Int32) = (0 : Int32)
            · rw [if_pos c58] at h56
              refine mr_if_eq_t (t := 12) dX11_tested_56 (by decide) c58 ?_
              exact mr_sub [(0, .ref 145), (1, .int (0 : Int32))] ⟨rfl, rfl, trivial⟩ rfl (ih _ _  h56)
            · rw [if_neg c58] at h56
              refine mr_if_eq_f (t := 12) (pc' := 59) dX11_tested_56 (by decide) rfl c58 ?_
              refine mr_aload_n (pc' := 60) dX11_tested_59 rfl rfl ?_
              refine mr_ldc2 (pc' := 63) (v := (6385252 : Int64)) dX11_tested_60 rfl rfl ?_
              obtain ⟨q59, g60, h61⟩ := Option.bind_eq_some_iff.mp h56
              refine mr_cv (pc' := 66) (a := 145) (d1 := 1) dX11_tested_63 rfl rfl rfl rfl rfl rfl (by decide) rfl (by decide) (ok_X11_isWord hR  g60) ?_
              show mr X _ _ 66 _ [.int q59.1] (MM RR q59.2) _
              by_cases c62 : q59.1 = (0 : Int32)
              · rw [if_pos c62] at h61
                refine mr_if_eq_t (t := 74) dX11_tested_66 (by decide) c62 ?_
                refine mr_bipush (pc' := 76) (v := (13 : Int32)) dX11_tested_74 rfl (by decide) ?_
                refine mr_istore_n (pc' := 77) (lv' := [(2, .int (13 : Int32)), (1, .int (0 : Int32)), (0, .ref 145)]) dX11_tested_76 rfl (by decide) rfl ?_
                refine mr_aload_n (pc' := 78) dX11_tested_77 rfl rfl ?_
                obtain ⟨q63, g64, h65⟩ := Option.bind_eq_some_iff.mp h61
                refine mr_cv (pc' := 81) (a := 145) (d1 := 1) dX11_tested_78 rfl rfl rfl rfl rfl rfl (by decide) rfl (by decide) (ok_X11_passWord hR  g64) ?_
                show mr X _ _ 81 _ [] (MM RR q63) _
                refine mr_aload_n (pc' := 82) dX11_tested_81 rfl rfl ?_
                refine mr_iload_n (pc' := 83) dX11_tested_82 rfl rfl ?_
                obtain ⟨q66, g67, h68⟩ := Option.bind_eq_some_iff.mp h65
                refine mr_cs (pc' := 86) (d1 := 0) dX11_tested_83 rfl rfl rfl rfl (by decide) (Nat.le_of_ble_eq_true rfl) rfl rfl rfl (by decide) (ok_X11_strength hR  g67) ?_
                show mr X _ _ 86 _ [.int q66, .ref 145] (MM RR q63) _
                obtain ⟨q69, g70, h71⟩ := Option.bind_eq_some_iff.mp h68
                refine mr_cv (pc' := 89) (a := 145) (d1 := 1) dX11_tested_86 rfl rfl rfl rfl rfl rfl (by decide) rfl (by decide) (ok_X11_settles hR  g70) ?_
                show mr X _ _ 89 _ [] (MM RR q69) _
                refine mr_aload_n (pc' := 90) dX11_tested_89 rfl rfl ?_
                refine mr_getR (pc' := 93) (ci := 11) (j := 20) (b := 154) hR dX11_tested_90 rfl rfl rfl (by decide) (by decide) (by decide) rfl rfl ?_
                refine mr_aload_n (pc' := 94) dX11_tested_93 rfl rfl ?_
                refine mr_getI (pc' := 97) (ci := 11) (j := 21) dX11_tested_94 rfl rfl rfl (by decide) (by decide) rfl ?_
                refine mr_iload_n (pc' := 98) dX11_tested_97 rfl rfl ?_
                obtain ⟨S72, g73, h74⟩ := Option.bind_eq_some_iff.mp h71
                refine mr_iast (pc' := 99) dX11_tested_98 rfl rfl rfl g73 ?_
                refine mr_aload_n (pc' := 100) dX11_tested_99 rfl rfl ?_
                refine mr_dup_ref (pc' := 101) dX11_tested_100 rfl ?_
                refine mr_getI (pc' := 104) (ci := 11) (j := 21) dX11_tested_101 rfl rfl rfl (by decide) (by decide) rfl ?_
                refine mr_iconst (pc' := 105) (v := (1 : Int32)) dX11_tested_104 rfl (by decide) ?_
                refine mr_iadd (pc' := 106) dX11_tested_105 rfl ?_
                obtain ⟨S75, g76, h77⟩ := Option.bind_eq_some_iff.mp h74
                refine mr_putI (pc' := 109) (ci := 11) (j := 21) dX11_tested_106 rfl rfl rfl (by decide) (by decide) rfl rfl ?_
                rw [Option.some.inj g76]
                refine mr_goto (t := 12) dX11_tested_109 (by decide) ?_
                exact mr_sub [(0, .ref 145), (1, .int (0 : Int32))] ⟨rfl, rfl, trivial⟩ rfl (ih _ _  h77)
              · rw [if_neg c62] at h61
                refine mr_if_eq_f (t := 74) (pc' := 69) dX11_tested_66 (by decide) rfl c62 ?_
                refine mr_bipush (pc' := 71) (v := (12 : Int32)) dX11_tested_69 rfl (by decide) ?_
                refine mr_goto (t := 76) dX11_tested_71 (by decide) ?_
                refine mr_istore_n (pc' := 77) (lv' := [(2, .int (12 : Int32)), (1, .int (0 : Int32)), (0, .ref 145)]) dX11_tested_76 rfl (by decide) rfl ?_
                refine mr_aload_n (pc' := 78) dX11_tested_77 rfl rfl ?_
                obtain ⟨q78, g79, h80⟩ := Option.bind_eq_some_iff.mp h61
                refine mr_cv (pc' := 81) (a := 145) (d1 := 1) dX11_tested_78 rfl rfl rfl rfl rfl rfl (by decide) rfl (by decide) (ok_X11_passWord hR  g79) ?_
                show mr X _ _ 81 _ [] (MM RR q78) _
                refine mr_aload_n (pc' := 82) dX11_tested_81 rfl rfl ?_
                refine mr_iload_n (pc' := 83) dX11_tested_82 rfl rfl ?_
                obtain ⟨q81, g82, h83⟩ := Option.bind_eq_some_iff.mp h80
                refine mr_cs (pc' := 86) (d1 := 0) dX11_tested_83 rfl rfl rfl rfl (by decide) (Nat.le_of_ble_eq_true rfl) rfl rfl rfl (by decide) (ok_X11_strength hR  g82) ?_
                show mr X _ _ 86 _ [.int q81, .ref 145] (MM RR q78) _
                obtain ⟨q84, g85, h86⟩ := Option.bind_eq_some_iff.mp h83
                refine mr_cv (pc' := 89) (a := 145) (d1 := 1) dX11_tested_86 rfl rfl rfl rfl rfl rfl (by decide) rfl (by decide) (ok_X11_settles hR  g85) ?_
                show mr X _ _ 89 _ [] (MM RR q84) _
                refine mr_aload_n (pc' := 90) dX11_tested_89 rfl rfl ?_
                refine mr_getR (pc' := 93) (ci := 11) (j := 20) (b := 154) hR dX11_tested_90 rfl rfl rfl (by decide) (by decide) (by decide) rfl rfl ?_
                refine mr_aload_n (pc' := 94) dX11_tested_93 rfl rfl ?_
                refine mr_getI (pc' := 97) (ci := 11) (j := 21) dX11_tested_94 rfl rfl rfl (by decide) (by decide) rfl ?_
                refine mr_iload_n (pc' := 98) dX11_tested_97 rfl rfl ?_
                obtain ⟨S87, g88, h89⟩ := Option.bind_eq_some_iff.mp h86
                refine mr_iast (pc' := 99) dX11_tested_98 rfl rfl rfl g88 ?_
                refine mr_aload_n (pc' := 100) dX11_tested_99 rfl rfl ?_
                refine mr_dup_ref (pc' := 101) dX11_tested_100 rfl ?_
                refine mr_getI (pc' := 104) (ci := 11) (j := 21) dX11_tested_101 rfl rfl rfl (by decide) (by decide) rfl ?_
                refine mr_iconst (pc' := 105) (v := (1 : Int32)) dX11_tested_104 rfl (by decide) ?_
                refine mr_iadd (pc' := 106) dX11_tested_105 rfl ?_
                obtain ⟨S90, g91, h92⟩ := Option.bind_eq_some_iff.mp h89
                refine mr_putI (pc' := 109) (ci := 11) (j := 21) dX11_tested_106 rfl rfl rfl (by decide) (by decide) rfl rfl ?_
                rw [Option.some.inj g91]
                refine mr_goto (t := 12) dX11_tested_109 (by decide) ?_
                exact mr_sub [(0, .ref 145), (1, .int (0 : Int32))] ⟨rfl, rfl, trivial⟩ rfl (ih _ _  h92)
          · rw [if_neg c57] at h56
            refine mr_if_eq_f (t := 53) (pc' := 49) dX11_tested_46 (by decide) rfl c57 ?_
            refine mr_iconst (pc' := 50) (v := (1 : Int32)) dX11_tested_49 rfl (by decide) ?_
            refine mr_goto (t := 54) dX11_tested_50 (by decide) ?_
            refine mr_istore_n (pc' := 55) (lv' := [(1, .int (1 : Int32)), (0, .ref 145)]) dX11_tested_54 rfl (by decide) rfl ?_
            refine mr_iload_n (pc' := 56) dX11_tested_55 rfl rfl ?_
            by_cases c93 : (1 : Int32) = (0 : Int32)
            · rw [if_pos c93] at h56
              refine mr_if_eq_t (t := 12) dX11_tested_56 (by decide) c93 ?_
              exact mr_sub [(0, .ref 145), (1, .int (1 : Int32))] ⟨rfl, rfl, trivial⟩ rfl (ih _ _  h56)
            · rw [if_neg c93] at h56
              refine mr_if_eq_f (t := 12) (pc' := 59) dX11_tested_56 (by decide) rfl c93 ?_
              refine mr_aload_n (pc' := 60) dX11_tested_59 rfl rfl ?_
              refine mr_ldc2 (pc' := 63) (v := (6385252 : Int64)) dX11_tested_60 rfl rfl ?_
              obtain ⟨q94, g95, h96⟩ := Option.bind_eq_some_iff.mp h56
              refine mr_cv (pc' := 66) (a := 145) (d1 := 1) dX11_tested_63 rfl rfl rfl rfl rfl rfl (by decide) rfl (by decide) (ok_X11_isWord hR  g95) ?_
              show mr X _ _ 66 _ [.int q94.1] (MM RR q94.2) _
              by_cases c97 : q94.1 = (0 : Int32)
              · rw [if_pos c97] at h96
                refine mr_if_eq_t (t := 74) dX11_tested_66 (by decide) c97 ?_
                refine mr_bipush (pc' := 76) (v := (13 : Int32)) dX11_tested_74 rfl (by decide) ?_
                refine mr_istore_n (pc' := 77) (lv' := [(2, .int (13 : Int32)), (1, .int (1 : Int32)), (0, .ref 145)]) dX11_tested_76 rfl (by decide) rfl ?_
                refine mr_aload_n (pc' := 78) dX11_tested_77 rfl rfl ?_
                obtain ⟨q98, g99, h100⟩ := Option.bind_eq_some_iff.mp h96
                refine mr_cv (pc' := 81) (a := 145) (d1 := 1) dX11_tested_78 rfl rfl rfl rfl rfl rfl (by decide) rfl (by decide) (ok_X11_passWord hR  g99) ?_
                show mr X _ _ 81 _ [] (MM RR q98) _
                refine mr_aload_n (pc' := 82) dX11_tested_81 rfl rfl ?_
                refine mr_iload_n (pc' := 83) dX11_tested_82 rfl rfl ?_
                obtain ⟨q101, g102, h103⟩ := Option.bind_eq_some_iff.mp h100
                refine mr_cs (pc' := 86) (d1 := 0) dX11_tested_83 rfl rfl rfl rfl (by decide) (Nat.le_of_ble_eq_true rfl) rfl rfl rfl (by decide) (ok_X11_strength hR  g102) ?_
                show mr X _ _ 86 _ [.int q101, .ref 145] (MM RR q98) _
                obtain ⟨q104, g105, h106⟩ := Option.bind_eq_some_iff.mp h103
                refine mr_cv (pc' := 89) (a := 145) (d1 := 1) dX11_tested_86 rfl rfl rfl rfl rfl rfl (by decide) rfl (by decide) (ok_X11_settles hR  g105) ?_
                show mr X _ _ 89 _ [] (MM RR q104) _
                refine mr_aload_n (pc' := 90) dX11_tested_89 rfl rfl ?_
                refine mr_getR (pc' := 93) (ci := 11) (j := 20) (b := 154) hR dX11_tested_90 rfl rfl rfl (by decide) (by decide) (by decide) rfl rfl ?_
                refine mr_aload_n (pc' := 94) dX11_tested_93 rfl rfl ?_
                refine mr_getI (pc' := 97) (ci := 11) (j := 21) dX11_tested_94 rfl rfl rfl (by decide) (by decide) rfl ?_
                refine mr_iload_n (pc' := 98) dX11_tested_97 rfl rfl ?_
                obtain ⟨S107, g108, h109⟩ := Option.bind_eq_some_iff.mp h106
                refine mr_iast (pc' := 99) dX11_tested_98 rfl rfl rfl g108 ?_
                refine mr_aload_n (pc' := 100) dX11_tested_99 rfl rfl ?_
                refine mr_dup_ref (pc' := 101) dX11_tested_100 rfl ?_
                refine mr_getI (pc' := 104) (ci := 11) (j := 21) dX11_tested_101 rfl rfl rfl (by decide) (by decide) rfl ?_
                refine mr_iconst (pc' := 105) (v := (1 : Int32)) dX11_tested_104 rfl (by decide) ?_
                refine mr_iadd (pc' := 106) dX11_tested_105 rfl ?_
                obtain ⟨S110, g111, h112⟩ := Option.bind_eq_some_iff.mp h109
                refine mr_putI (pc' := 109) (ci := 11) (j := 21) dX11_tested_106 rfl rfl rfl (by decide) (by decide) rfl rfl ?_
                rw [Option.some.inj g111]
                refine mr_goto (t := 12) dX11_tested_109 (by decide) ?_
                exact mr_sub [(0, .ref 145), (1, .int (1 : Int32))] ⟨rfl, rfl, trivial⟩ rfl (ih _ _  h112)
              · rw [if_neg c97] at h96
                refine mr_if_eq_f (t := 74) (pc' := 69) dX11_tested_66 (by decide) rfl c97 ?_
                refine mr_bipush (pc' := 71) (v := (12 : Int32)) dX11_tested_69 rfl (by decide) ?_
                refine mr_goto (t := 76) dX11_tested_71 (by decide) ?_
                refine mr_istore_n (pc' := 77) (lv' := [(2, .int (12 : Int32)), (1, .int (1 : Int32)), (0, .ref 145)]) dX11_tested_76 rfl (by decide) rfl ?_
                refine mr_aload_n (pc' := 78) dX11_tested_77 rfl rfl ?_
                obtain ⟨q113, g114, h115⟩ := Option.bind_eq_some_iff.mp h96
                refine mr_cv (pc' := 81) (a := 145) (d1 := 1) dX11_tested_78 rfl rfl rfl rfl rfl rfl (by decide) rfl (by decide) (ok_X11_passWord hR  g114) ?_
                show mr X _ _ 81 _ [] (MM RR q113) _
                refine mr_aload_n (pc' := 82) dX11_tested_81 rfl rfl ?_
                refine mr_iload_n (pc' := 83) dX11_tested_82 rfl rfl ?_
                obtain ⟨q116, g117, h118⟩ := Option.bind_eq_some_iff.mp h115
                refine mr_cs (pc' := 86) (d1 := 0) dX11_tested_83 rfl rfl rfl rfl (by decide) (Nat.le_of_ble_eq_true rfl) rfl rfl rfl (by decide) (ok_X11_strength hR  g117) ?_
                show mr X _ _ 86 _ [.int q116, .ref 145] (MM RR q113) _
                obtain ⟨q119, g120, h121⟩ := Option.bind_eq_some_iff.mp h118
                refine mr_cv (pc' := 89) (a := 145) (d1 := 1) dX11_tested_86 rfl rfl rfl rfl rfl rfl (by decide) rfl (by decide) (ok_X11_settles hR  g120) ?_
                show mr X _ _ 89 _ [] (MM RR q119) _
                refine mr_aload_n (pc' := 90) dX11_tested_89 rfl rfl ?_
                refine mr_getR (pc' := 93) (ci := 11) (j := 20) (b := 154) hR dX11_tested_90 rfl rfl rfl (by decide) (by decide) (by decide) rfl rfl ?_
                refine mr_aload_n (pc' := 94) dX11_tested_93 rfl rfl ?_
                refine mr_getI (pc' := 97) (ci := 11) (j := 21) dX11_tested_94 rfl rfl rfl (by decide) (by decide) rfl ?_
                refine mr_iload_n (pc' := 98) dX11_tested_97 rfl rfl ?_
                obtain ⟨S122, g123, h124⟩ := Option.bind_eq_some_iff.mp h121
                refine mr_iast (pc' := 99) dX11_tested_98 rfl rfl rfl g123 ?_
                refine mr_aload_n (pc' := 100) dX11_tested_99 rfl rfl ?_
                refine mr_dup_ref (pc' := 101) dX11_tested_100 rfl ?_
                refine mr_getI (pc' := 104) (ci := 11) (j := 21) dX11_tested_101 rfl rfl rfl (by decide) (by decide) rfl ?_
                refine mr_iconst (pc' := 105) (v := (1 : Int32)) dX11_tested_104 rfl (by decide) ?_
                refine mr_iadd (pc' := 106) dX11_tested_105 rfl ?_
                obtain ⟨S125, g126, h127⟩ := Option.bind_eq_some_iff.mp h124
                refine mr_putI (pc' := 109) (ci := 11) (j := 21) dX11_tested_106 rfl rfl rfl (by decide) (by decide) rfl rfl ?_
                rw [Option.some.inj g126]
                refine mr_goto (t := 12) dX11_tested_109 (by decide) ?_
                exact mr_sub [(0, .ref 145), (1, .int (1 : Int32))] ⟨rfl, rfl, trivial⟩ rfl (ih _ _  h127)
        · rw [if_neg c18] at h17
          refine mr_if_ne_t (t := 49) dX11_tested_36 (by decide) c18 ?_
          refine mr_iconst (pc' := 50) (v := (1 : Int32)) dX11_tested_49 rfl (by decide) ?_
          refine mr_goto (t := 54) dX11_tested_50 (by decide) ?_
          refine mr_istore_n (pc' := 55) (lv' := [(1, .int (1 : Int32)), (0, .ref 145)]) dX11_tested_54 rfl (by decide) rfl ?_
          refine mr_iload_n (pc' := 56) dX11_tested_55 rfl rfl ?_
          by_cases c19 : (1 : Int32) = (0 : Int32)
          · rw [if_pos c19] at h17
            refine mr_if_eq_t (t := 12) dX11_tested_56 (by decide) c19 ?_
            exact mr_sub [(0, .ref 145), (1, .int (1 : Int32))] ⟨rfl, rfl, trivial⟩ rfl (ih _ _  h17)
          · rw [if_neg c19] at h17
            refine mr_if_eq_f (t := 12) (pc' := 59) dX11_tested_56 (by decide) rfl c19 ?_
            refine mr_aload_n (pc' := 60) dX11_tested_59 rfl rfl ?_
            refine mr_ldc2 (pc' := 63) (v := (6385252 : Int64)) dX11_tested_60 rfl rfl ?_
            obtain ⟨q20, g21, h22⟩ := Option.bind_eq_some_iff.mp h17
            refine mr_cv (pc' := 66) (a := 145) (d1 := 1) dX11_tested_63 rfl rfl rfl rfl rfl rfl (by decide) rfl (by decide) (ok_X11_isWord hR  g21) ?_
            show mr X _ _ 66 _ [.int q20.1] (MM RR q20.2) _
            by_cases c23 : q20.1 = (0 : Int32)
            · rw [if_pos c23] at h22
              refine mr_if_eq_t (t := 74) dX11_tested_66 (by decide) c23 ?_
              refine mr_bipush (pc' := 76) (v := (13 : Int32)) dX11_tested_74 rfl (by decide) ?_
              refine mr_istore_n (pc' := 77) (lv' := [(2, .int (13 : Int32)), (1, .int (1 : Int32)), (0, .ref 145)]) dX11_tested_76 rfl (by decide) rfl ?_
              refine mr_aload_n (pc' := 78) dX11_tested_77 rfl rfl ?_
              obtain ⟨q24, g25, h26⟩ := Option.bind_eq_some_iff.mp h22
              refine mr_cv (pc' := 81) (a := 145) (d1 := 1) dX11_tested_78 rfl rfl rfl rfl rfl rfl (by decide) rfl (by decide) (ok_X11_passWord hR  g25) ?_
              show mr X _ _ 81 _ [] (MM RR q24) _
              refine mr_aload_n (pc' := 82) dX11_tested_81 rfl rfl ?_
              refine mr_iload_n (pc' := 83) dX11_tested_82 rfl rfl ?_
              obtain ⟨q27, g28, h29⟩ := Option.bind_eq_some_iff.mp h26
              refine mr_cs (pc' := 86) (d1 := 0) dX11_tested_83 rfl rfl rfl rfl (by decide) (Nat.le_of_ble_eq_true rfl) rfl rfl rfl (by decide) (ok_X11_strength hR  g28) ?_
              show mr X _ _ 86 _ [.int q27, .ref 145] (MM RR q24) _
              obtain ⟨q30, g31, h32⟩ := Option.bind_eq_some_iff.mp h29
              refine mr_cv (pc' := 89) (a := 145) (d1 := 1) dX11_tested_86 rfl rfl rfl rfl rfl rfl (by decide) rfl (by decide) (ok_X11_settles hR  g31) ?_
              show mr X _ _ 89 _ [] (MM RR q30) _
              refine mr_aload_n (pc' := 90) dX11_tested_89 rfl rfl ?_
              refine mr_getR (pc' := 93) (ci := 11) (j := 20) (b := 154) hR dX11_tested_90 rfl rfl rfl (by decide) (by decide) (by decide) rfl rfl ?_
              refine mr_aload_n (pc' := 94) dX11_tested_93 rfl rfl ?_
              refine mr_getI (pc' := 97) (ci := 11) (j := 21) dX11_tested_94 rfl rfl rfl (by decide) (by decide) rfl ?_
              refine mr_iload_n (pc' := 98) dX11_tested_97 rfl rfl ?_
              obtain ⟨S33, g34, h35⟩ := Option.bind_eq_some_iff.mp h32
              refine mr_iast (pc' := 99) dX11_tested_98 rfl rfl rfl g34 ?_
              refine mr_aload_n (pc' := 100) dX11_tested_99 rfl rfl ?_
              refine mr_dup_ref (pc' := 101) dX11_tested_100 rfl ?_
              refine mr_getI (pc' := 104) (ci := 11) (j := 21) dX11_tested_101 rfl rfl rfl (by decide) (by decide) rfl ?_
              refine mr_iconst (pc' := 105) (v := (1 : Int32)) dX11_tested_104 rfl (by decide) ?_
              refine mr_iadd (pc' := 106) dX11_tested_105 rfl ?_
              obtain ⟨S36, g37, h38⟩ := Option.bind_eq_some_iff.mp h35
              refine mr_putI (pc' := 109) (ci := 11) (j := 21) dX11_tested_106 rfl rfl rfl (by decide) (by decide) rfl rfl ?_
              rw [Option.some.inj g37]
              refine mr_goto (t := 12) dX11_tested_109 (by decide) ?_
              exact mr_sub [(0, .ref 145), (1, .int (1 : Int32))] ⟨rfl, rfl, trivial⟩ rfl (ih _ _  h38)
            · rw [if_neg c23] at h22
              refine mr_if_eq_f (t := 74) (pc' := 69) dX11_tested_66 (by decide) rfl c23 ?_
              refine mr_bipush (pc' := 71) (v := (12 : Int32)) dX11_tested_69 rfl (by decide) ?_
              refine mr_goto (t := 76) dX11_tested_71 (by decide) ?_
              refine mr_istore_n (pc' := 77) (lv' := [(2, .int (12 : Int32)), (1, .int (1 : Int32)), (0, .ref 145)]) dX11_tested_76 rfl (by decide) rfl ?_
              refine mr_aload_n (pc' := 78) dX11_tested_77 rfl rfl ?_
              obtain ⟨q39, g40, h41⟩ := Option.bind_eq_some_iff.mp h22
              refine mr_cv (pc' := 81) (a := 145) (d1 := 1) dX11_tested_78 rfl rfl rfl rfl rfl rfl (by decide) rfl (by decide) (ok_X11_passWord hR  g40) ?_
              show mr X _ _ 81 _ [] (MM RR q39) _
              refine mr_aload_n (pc' := 82) dX11_tested_81 rfl rfl ?_
              refine mr_iload_n (pc' := 83) dX11_tested_82 rfl rfl ?_
              obtain ⟨q42, g43, h44⟩ := Option.bind_eq_some_iff.mp h41
              refine mr_cs (pc' := 86) (d1 := 0) dX11_tested_83 rfl rfl rfl rfl (by decide) (Nat.le_of_ble_eq_true rfl) rfl rfl rfl (by decide) (ok_X11_strength hR  g43) ?_
              show mr X _ _ 86 _ [.int q42, .ref 145] (MM RR q39) _
              obtain ⟨q45, g46, h47⟩ := Option.bind_eq_some_iff.mp h44
              refine mr_cv (pc' := 89) (a := 145) (d1 := 1) dX11_tested_86 rfl rfl rfl rfl rfl rfl (by decide) rfl (by decide) (ok_X11_settles hR  g46) ?_
              show mr X _ _ 89 _ [] (MM RR q45) _
              refine mr_aload_n (pc' := 90) dX11_tested_89 rfl rfl ?_
              refine mr_getR (pc' := 93) (ci := 11) (j := 20) (b := 154) hR dX11_tested_90 rfl rfl rfl (by decide) (by decide) (by decide) rfl rfl ?_
              refine mr_aload_n (pc' := 94) dX11_tested_93 rfl rfl ?_
              refine mr_getI (pc' := 97) (ci := 11) (j := 21) dX11_tested_94 rfl rfl rfl (by decide) (by decide) rfl ?_
              refine mr_iload_n (pc' := 98) dX11_tested_97 rfl rfl ?_
              obtain ⟨S48, g49, h50⟩ := Option.bind_eq_some_iff.mp h47
              refine mr_iast (pc' := 99) dX11_tested_98 rfl rfl rfl g49 ?_
              refine mr_aload_n (pc' := 100) dX11_tested_99 rfl rfl ?_
              refine mr_dup_ref (pc' := 101) dX11_tested_100 rfl ?_
              refine mr_getI (pc' := 104) (ci := 11) (j := 21) dX11_tested_101 rfl rfl rfl (by decide) (by decide) rfl ?_
              refine mr_iconst (pc' := 105) (v := (1 : Int32)) dX11_tested_104 rfl (by decide) ?_
              refine mr_iadd (pc' := 106) dX11_tested_105 rfl ?_
              obtain ⟨S51, g52, h53⟩ := Option.bind_eq_some_iff.mp h50
              refine mr_putI (pc' := 109) (ci := 11) (j := 21) dX11_tested_106 rfl rfl rfl (by decide) (by decide) rfl rfl ?_
              rw [Option.some.inj g52]
              refine mr_goto (t := 12) dX11_tested_109 (by decide) ?_
              exact mr_sub [(0, .ref 145), (1, .int (1 : Int32))] ⟨rfl, rfl, trivial⟩ rfl (ih _ _  h53)
def f_X11_tested  (S : fS) : Option (Int32 × fS) :=
  (some (pI S 145 21 (0 : Int32))).bind fun S1 =>
  (some (pI S1 145 18 (0 : Int32))).bind fun S4 =>
  lp_X11_tested_12  (fun S128 => (f_X11_isInside  S128).bind fun q130 =>
  if q130 = (0 : Int32) then ((f_X11_settles (1 : Int32) S128).bind fun q134 =>
  some ((1 : Int32), q134)) else
  ((f_X11_see  S128).bind fun q137 =>
  (f_X11_fails (0 : Int32) (q137.2.1 145 13) q137.2).bind fun q140 =>
  (bZ q140.1).bind fun z143 => some (z143, q140.2))) FU (1 : Int32) S4
set_option maxHeartbeats 4000000 in
set_option maxRecDepth 100000 in
theorem ok_X11_tested {X : mm_C} {RR : Nat → Nat → Option Nat} (hR : RRok RR)   {S : fS} {r : Int32 × fS} (h : f_X11_tested  S = some r) : mr X 8 mY_X11_tested 0 (lv_args 0 [.ref 145]) [] (MM RR S) (some (.int r.1), MM RR r.2) := by
  unfold f_X11_tested at h
  show mr X _ _ 0 [(0, .ref 145)] [] (MM RR S) _
  refine mr_aload_n (pc' := 1) dX11_tested_0 rfl rfl ?_
  refine mr_iconst (pc' := 2) (v := (0 : Int32)) dX11_tested_1 rfl (by decide) ?_
  obtain ⟨S1, g2, h3⟩ := Option.bind_eq_some_iff.mp h
  refine mr_putI (pc' := 5) (ci := 11) (j := 21) dX11_tested_2 rfl rfl rfl (by decide) (by decide) rfl rfl ?_
  rw [Option.some.inj g2]
  refine mr_aload_n (pc' := 6) dX11_tested_5 rfl rfl ?_
  refine mr_iconst (pc' := 7) (v := (0 : Int32)) dX11_tested_6 rfl (by decide) ?_
  obtain ⟨S4, g5, h6⟩ := Option.bind_eq_some_iff.mp h3
  refine mr_putI (pc' := 10) (ci := 11) (j := 18) dX11_tested_7 rfl rfl rfl (by decide) (by decide) rfl rfl ?_
  rw [Option.some.inj g5]
  refine mr_iconst (pc' := 11) (v := (1 : Int32)) dX11_tested_10 rfl (by decide) ?_
  refine mr_istore_n (pc' := 12) (lv' := [(1, .int (1 : Int32)), (0, .ref 145)]) dX11_tested_11 rfl (by decide) rfl ?_
  refine mr_sub [(0, .ref 145), (1, .int (1 : Int32))] ⟨rfl, rfl, trivial⟩ rfl ?_
  refine ok_lp_X11_tested_12 hR  (fun S128 h129 => ?_) FU _ _  h6
  refine mr_aload_n (pc' := 113) dX11_tested_112 rfl rfl ?_
  obtain ⟨q130, g131, h132⟩ := Option.bind_eq_some_iff.mp h129
  refine mr_cv (pc' := 116) (a := 145) (d1 := 0) dX11_tested_113 rfl rfl rfl rfl rfl rfl (by decide) rfl (by decide) (ok_X11_isInside hR  g131) ?_
  show mr X _ _ 116 _ [.int q130] (MM RR S128) _
  by_cases c133 : q130 = (0 : Int32)
  · rw [if_pos c133] at h132
    refine mr_if_eq_t (t := 134) dX11_tested_116 (by decide) c133 ?_
    refine mr_aload_n (pc' := 135) dX11_tested_134 rfl rfl ?_
    refine mr_iconst (pc' := 136) (v := (1 : Int32)) dX11_tested_135 rfl (by decide) ?_
    obtain ⟨q134, g135, h136⟩ := Option.bind_eq_some_iff.mp h132
    refine mr_cv (pc' := 139) (a := 145) (d1 := 1) dX11_tested_136 rfl rfl rfl rfl rfl rfl (by decide) rfl (by decide) (ok_X11_settles hR  g135) ?_
    show mr X _ _ 139 _ [] (MM RR q134) _
    refine mr_iconst (pc' := 140) (v := (1 : Int32)) dX11_tested_139 rfl (by decide) ?_
    obtain rfl := Option.some.inj h136
    exact mr_zreturn dX11_tested_140 rfl (by decide)
  · rw [if_neg c133] at h132
    refine mr_if_eq_f (t := 134) (pc' := 119) dX11_tested_116 (by decide) rfl c133 ?_
    refine mr_aload_n (pc' := 120) dX11_tested_119 rfl rfl ?_
    obtain ⟨q137, g138, h139⟩ := Option.bind_eq_some_iff.mp h132
    refine mr_cv (pc' := 123) (a := 145) (d1 := 0) dX11_tested_120 rfl rfl rfl rfl rfl rfl (by decide) rfl (by decide) (ok_X11_see hR  g138) ?_
    show mr X _ _ 123 _ [.int q137.1] (MM RR q137.2) _
    refine mr_pop_int (pc' := 124) dX11_tested_123 rfl ?_
    refine mr_aload_n (pc' := 125) dX11_tested_124 rfl rfl ?_
    refine mr_iconst (pc' := 126) (v := (0 : Int32)) dX11_tested_125 rfl (by decide) ?_
    refine mr_aload_n (pc' := 127) dX11_tested_126 rfl rfl ?_
    refine mr_getI (pc' := 130) (ci := 11) (j := 13) dX11_tested_127 rfl rfl rfl (by decide) (by decide) rfl ?_
    obtain ⟨q140, g141, h142⟩ := Option.bind_eq_some_iff.mp h139
    refine mr_cv (pc' := 133) (a := 145) (d1 := 0) dX11_tested_130 rfl rfl rfl rfl rfl rfl (by decide) rfl (by decide) (ok_X11_fails hR  g141) ?_
    show mr X _ _ 133 _ [.int q140.1] (MM RR q140.2) _
    obtain ⟨z143, g144, h145⟩ := Option.bind_eq_some_iff.mp h142
    obtain ⟨g146, e147⟩ := mm_ifs g144
    cases e147
    cases h145
    exact mr_zreturn dX11_tested_133 rfl g146
