def lp_X11_ripe_93 (p2 : Int32) (p3 : Int32) (p4 : Int32) (p5 : Int32) (p6 : Int32) (K : fS → Option (Int32 × fS)) : Nat → Int32 → fS → Option (Int32 × fS)
  | 0, _, _ => none
  | n + 1, p7, S0 =>
    if (S0.1 145 36) ≤ p7 then (K S0) else
    (if (4000 : Int32) < (S0.1 145 36) then (K S0) else
    ((gI S0 164 4001 p7).bind fun a31 =>
    if a31 = p6 then ((f_X11_goesOn p7 p3 S0).bind fun q35 =>
    lp_X11_ripe_93 p2 p3 p4 p5 p6 K n (p7 + (1 : Int32)) q35) else
    (lp_X11_ripe_93 p2 p3 p4 p5 p6 K n (p7 + (1 : Int32)) S0)))
set_option maxHeartbeats 4000000 in
set_option maxRecDepth 100000 in
theorem ok_lp_X11_ripe_93 {X : mm_C} {RR : Nat → Nat → Option Nat} (hR : RRok RR) {p2 : Int32} {p3 : Int32} {p4 : Int32} {p5 : Int32} {p6 : Int32}  {K : fS → Option (Int32 × fS)} {r : Int32 × fS} (hK : ∀ (Sk : fS), K Sk = some r → mr X 3 mY_X11_ripe 137 [(0, .ref 145), (2, .int p2), (3, .int p3), (4, .int p4), (5, .int p5), (6, .int p6)] [] (MM RR Sk) (some (.int r.1), MM RR r.2)) : ∀ (n : Nat) (p7 : Int32) (S0 : fS), lp_X11_ripe_93 p2 p3 p4 p5 p6 K n p7 S0 = some r → mr X 3 mY_X11_ripe 93 [(0, .ref 145), (2, .int p2), (3, .int p3), (4, .int p4), (5, .int p5), (6, .int p6), (7, .int p7)] [] (MM RR S0) (some (.int r.1), MM RR r.2) := by
  intro n
  induction n with
  | zero => intro p7 S0 h; exact mm_no h
  | succ n ih =>
    intro p7 S0 h
    unfold lp_X11_ripe_93 at h
    refine mr_iload (pc' := 95) dX11_ripe_93 rfl rfl ?_
    refine mr_aload_n (pc' := 96) dX11_ripe_95 rfl rfl ?_
    refine mr_getI (pc' := 99) (ci := 11) (j := 36) dX11_ripe_96 rfl rfl rfl (by decide) (by decide) rfl ?_
    by_cases c29 : (S0.1 145 36) ≤ p7
    · rw [if_pos c29] at h
      refine mr_icmp_ge_t (t := 137) dX11_ripe_99 (by decide) c29 ?_
      exact mr_sub [(0, .ref 145), (2, .int p2), (3, .int p3), (4, .int p4), (5, .int p5), (6, .int p6)] ⟨rfl, rfl, rfl, rfl, rfl, rfl, trivial⟩ rfl (hK _  h)
    · rw [if_neg c29] at h
      refine mr_icmp_ge_f (t := 137) (pc' := 102) dX11_ripe_99 (by decide) rfl c29 ?_
      refine mr_aload_n (pc' := 103) dX11_ripe_102 rfl rfl ?_
      refine mr_getI (pc' := 106) (ci := 11) (j := 36) dX11_ripe_103 rfl rfl rfl (by decide) (by decide) rfl ?_
      refine mr_sipush (pc' := 109) (v := (4000 : Int32)) dX11_ripe_106 rfl (by decide) ?_
      by_cases c30 : (4000 : Int32) < (S0.1 145 36)
      · rw [if_pos c30] at h
        refine mr_icmp_gt_t (t := 137) dX11_ripe_109 (by decide) c30 ?_
        exact mr_sub [(0, .ref 145), (2, .int p2), (3, .int p3), (4, .int p4), (5, .int p5), (6, .int p6)] ⟨rfl, rfl, rfl, rfl, rfl, rfl, trivial⟩ rfl (hK _  h)
      · rw [if_neg c30] at h
        refine mr_icmp_gt_f (t := 137) (pc' := 112) dX11_ripe_109 (by decide) rfl c30 ?_
        refine mr_aload_n (pc' := 113) dX11_ripe_112 rfl rfl ?_
        refine mr_getR (pc' := 116) (ci := 11) (j := 32) (b := 164) hR dX11_ripe_113 rfl rfl rfl (by decide) (by decide) (by decide) rfl rfl ?_
        refine mr_iload (pc' := 118) dX11_ripe_116 rfl rfl ?_
        obtain ⟨a31, g32, h33⟩ := Option.bind_eq_some_iff.mp h
        refine mr_iald (pc' := 119) dX11_ripe_118 rfl rfl rfl g32 ?_
        refine mr_iload (pc' := 121) dX11_ripe_119 rfl rfl ?_
        by_cases c34 : a31 = p6
        · rw [if_pos c34] at h33
          refine mr_icmp_ne_f (t := 131) (pc' := 124) dX11_ripe_121 (by decide) rfl (not_not_intro c34) ?_
          refine mr_aload_n (pc' := 125) dX11_ripe_124 rfl rfl ?_
          refine mr_iload (pc' := 127) dX11_ripe_125 rfl rfl ?_
          refine mr_iload_n (pc' := 128) dX11_ripe_127 rfl rfl ?_
          obtain ⟨q35, g36, h37⟩ := Option.bind_eq_some_iff.mp h33
          refine mr_cv (pc' := 131) (a := 145) (d1 := 2) dX11_ripe_128 rfl rfl rfl rfl rfl rfl (by decide) rfl (by decide) (ok_X11_goesOn hR  g36) ?_
          show mr X _ _ 131 _ [] (MM RR q35) _
          refine mr_iinc (pc' := 134) (x' := (p7 + (1 : Int32))) (lv' := [(7, .int (p7 + (1 : Int32))), (0, .ref 145), (2, .int p2), (3, .int p3), (4, .int p4), (5, .int p5), (6, .int p6)]) dX11_ripe_131 rfl (by decide) rfl rfl rfl ?_
          refine mr_goto (t := 93) dX11_ripe_134 (by decide) ?_
          exact mr_sub [(0, .ref 145), (2, .int p2), (3, .int p3), (4, .int p4), (5, .int p5), (6, .int p6), (7, .int (p7 + (1 : Int32)))] ⟨rfl, rfl, rfl, rfl, rfl, rfl, rfl, trivial⟩ rfl (ih _ _  h37)
        · rw [if_neg c34] at h33
          refine mr_icmp_ne_t (t := 131) dX11_ripe_121 (by decide) c34 ?_
          refine mr_iinc (pc' := 134) (x' := (p7 + (1 : Int32))) (lv' := [(7, .int (p7 + (1 : Int32))), (0, .ref 145), (2, .int p2), (3, .int p3), (4, .int p4), (5, .int p5), (6, .int p6)]) dX11_ripe_131 rfl (by decide) rfl rfl rfl ?_
          refine mr_goto (t := 93) dX11_ripe_134 (by decide) ?_
          exact mr_sub [(0, .ref 145), (2, .int p2), (3, .int p3), (4, .int p4), (5, .int p5), (6, .int p6), (7, .int (p7 + (1 : Int32)))] ⟨rfl, rfl, rfl, rfl, rfl, rfl, rfl, trivial⟩ rfl (ih _ _  h33)
def lp_X11_ripe_74 (p2 : Int32) (p3 : Int32) (p4 : Int32) (p5 : Int32) (K : fS → Option (Int32 × fS)) : Nat → Int32 → fS → Option (Int32 × fS)
  | 0, _, _ => none
  | n + 1, p6, S0 =>
    if p3 < p6 then (K S0) else
    (if (4000 : Int32) < (S0.1 145 36) then (K S0) else
    (lp_X11_ripe_93 p2 p3 p4 p5 p6 (fun S38 => lp_X11_ripe_74 p2 p3 p4 p5 K n (p6 + (1 : Int32)) S38) FU (0 : Int32) S0))
set_option maxHeartbeats 4000000 in
set_option maxRecDepth 100000 in
theorem ok_lp_X11_ripe_74 {X : mm_C} {RR : Nat → Nat → Option Nat} (hR : RRok RR) {p2 : Int32} {p3 : Int32} {p4 : Int32} {p5 : Int32}  {K : fS → Option (Int32 × fS)} {r : Int32 × fS} (hK : ∀ (Sk : fS), K Sk = some r → mr X 3 mY_X11_ripe 143 [(0, .ref 145), (2, .int p2), (3, .int p3), (4, .int p4), (5, .int p5)] [] (MM RR Sk) (some (.int r.1), MM RR r.2)) : ∀ (n : Nat) (p6 : Int32) (S0 : fS), lp_X11_ripe_74 p2 p3 p4 p5 K n p6 S0 = some r → mr X 3 mY_X11_ripe 74 [(0, .ref 145), (2, .int p2), (3, .int p3), (4, .int p4), (5, .int p5), (6, .int p6)] [] (MM RR S0) (some (.int r.1), MM RR r.2) := by
  intro n
  induction n with
  | zero => intro p6 S0 h; exact mm_no h
  | succ n ih =>
    intro p6 S0 h
    unfold lp_X11_ripe_74 at h
    refine mr_iload (pc' := 76) dX11_ripe_74 rfl rfl ?_
    refine mr_iload_n (pc' := 77) dX11_ripe_76 rfl rfl ?_
    by_cases c27 : p3 < p6
    · rw [if_pos c27] at h
      refine mr_icmp_gt_t (t := 143) dX11_ripe_77 (by decide) c27 ?_
      exact mr_sub [(0, .ref 145), (2, .int p2), (3, .int p3), (4, .int p4), (5, .int p5)] ⟨rfl, rfl, rfl, rfl, rfl, trivial⟩ rfl (hK _  h)
    · rw [if_neg c27] at h
      refine mr_icmp_gt_f (t := 143) (pc' := 80) dX11_ripe_77 (by decide) rfl c27 ?_
      refine mr_aload_n (pc' := 81) dX11_ripe_80 rfl rfl ?_
      refine mr_getI (pc' := 84) (ci := 11) (j := 36) dX11_ripe_81 rfl rfl rfl (by decide) (by decide) rfl ?_
      refine mr_sipush (pc' := 87) (v := (4000 : Int32)) dX11_ripe_84 rfl (by decide) ?_
      by_cases c28 : (4000 : Int32) < (S0.1 145 36)
      · rw [if_pos c28] at h
        refine mr_icmp_gt_t (t := 143) dX11_ripe_87 (by decide) c28 ?_
        exact mr_sub [(0, .ref 145), (2, .int p2), (3, .int p3), (4, .int p4), (5, .int p5)] ⟨rfl, rfl, rfl, rfl, rfl, trivial⟩ rfl (hK _  h)
      · rw [if_neg c28] at h
        refine mr_icmp_gt_f (t := 143) (pc' := 90) dX11_ripe_87 (by decide) rfl c28 ?_
        refine mr_iconst (pc' := 91) (v := (0 : Int32)) dX11_ripe_90 rfl (by decide) ?_
        refine mr_istore (pc' := 93) (lv' := [(7, .int (0 : Int32)), (0, .ref 145), (2, .int p2), (3, .int p3), (4, .int p4), (5, .int p5), (6, .int p6)]) dX11_ripe_91 rfl (by decide) rfl ?_
        refine mr_sub [(0, .ref 145), (2, .int p2), (3, .int p3), (4, .int p4), (5, .int p5), (6, .int p6), (7, .int (0 : Int32))] ⟨rfl, rfl, rfl, rfl, rfl, rfl, rfl, trivial⟩ rfl ?_
        refine ok_lp_X11_ripe_93 hR  (fun S38 h39 => ?_) FU _ _  h
        refine mr_iinc (pc' := 140) (x' := (p6 + (1 : Int32))) (lv' := [(6, .int (p6 + (1 : Int32))), (0, .ref 145), (2, .int p2), (3, .int p3), (4, .int p4), (5, .int p5)]) dX11_ripe_137 rfl (by decide) rfl rfl rfl ?_
        refine mr_goto (t := 74) dX11_ripe_140 (by decide) ?_
        exact mr_sub [(0, .ref 145), (2, .int p2), (3, .int p3), (4, .int p4), (5, .int p5), (6, .int (p6 + (1 : Int32)))] ⟨rfl, rfl, rfl, rfl, rfl, rfl, trivial⟩ rfl (ih _ _  h39)
def lp_X11_ripe_163 (p2 : Int32) (p3 : Int32) (p4 : Int32) (p5 : Int32) (K : Int32 → fS → Option (Int32 × fS)) : Nat → Int32 → Int32 → fS → Option (Int32 × fS)
  | 0, _, _, _ => none
  | n + 1, p6, p7, S0 =>
    if (S0.1 145 36) ≤ p7 then (K p6 S0) else
    ((gI S0 164 4001 p7).bind fun a44 =>
    if a44 = p3 then ((gI S0 165 4001 p7).bind fun a60 =>
    if a60 = p2 then ((gL S0 166 4001 p7).bind fun a76 =>
    if a76 < ((Int32.toInt64 p4) * (232792560 : Int64)) then (if (0 : Int32) = (0 : Int32) then (lp_X11_ripe_163 p2 p3 p4 p5 K n p6 (p7 + (1 : Int32)) S0) else
    (if p6 < (0 : Int32) then ((gI S0 167 4001 p7).bind fun a82 =>
    lp_X11_ripe_163 p2 p3 p4 p5 K n a82 (p7 + (1 : Int32)) S0) else
    ((gI S0 167 4001 p7).bind fun a85 =>
    if p6 ≤ a85 then (lp_X11_ripe_163 p2 p3 p4 p5 K n p6 (p7 + (1 : Int32)) S0) else
    ((gI S0 167 4001 p7).bind fun a89 =>
    lp_X11_ripe_163 p2 p3 p4 p5 K n a89 (p7 + (1 : Int32)) S0)))) else
    ((gL S0 166 4001 p7).bind fun a92 =>
    if ((Int32.toInt64 p5) * (232792560 : Int64)) < a92 then (if (0 : Int32) = (0 : Int32) then (lp_X11_ripe_163 p2 p3 p4 p5 K n p6 (p7 + (1 : Int32)) S0) else
    (if p6 < (0 : Int32) then ((gI S0 167 4001 p7).bind fun a98 =>
    lp_X11_ripe_163 p2 p3 p4 p5 K n a98 (p7 + (1 : Int32)) S0) else
    ((gI S0 167 4001 p7).bind fun a101 =>
    if p6 ≤ a101 then (lp_X11_ripe_163 p2 p3 p4 p5 K n p6 (p7 + (1 : Int32)) S0) else
    ((gI S0 167 4001 p7).bind fun a105 =>
    lp_X11_ripe_163 p2 p3 p4 p5 K n a105 (p7 + (1 : Int32)) S0)))) else
    (if (1 : Int32) = (0 : Int32) then (lp_X11_ripe_163 p2 p3 p4 p5 K n p6 (p7 + (1 : Int32)) S0) else
    (if p6 < (0 : Int32) then ((gI S0 167 4001 p7).bind fun a110 =>
    lp_X11_ripe_163 p2 p3 p4 p5 K n a110 (p7 + (1 : Int32)) S0) else
    ((gI S0 167 4001 p7).bind fun a113 =>
    if p6 ≤ a113 then (lp_X11_ripe_163 p2 p3 p4 p5 K n p6 (p7 + (1 : Int32)) S0) else
    ((gI S0 167 4001 p7).bind fun a117 =>
    lp_X11_ripe_163 p2 p3 p4 p5 K n a117 (p7 + (1 : Int32)) S0)))))) else
    (if (0 : Int32) = (0 : Int32) then (lp_X11_ripe_163 p2 p3 p4 p5 K n p6 (p7 + (1 : Int32)) S0) else
    (if p6 < (0 : Int32) then ((gI S0 167 4001 p7).bind fun a66 =>
    lp_X11_ripe_163 p2 p3 p4 p5 K n a66 (p7 + (1 : Int32)) S0) else
    ((gI S0 167 4001 p7).bind fun a69 =>
    if p6 ≤ a69 then (lp_X11_ripe_163 p2 p3 p4 p5 K n p6 (p7 + (1 : Int32)) S0) else
    ((gI S0 167 4001 p7).bind fun a73 =>
    lp_X11_ripe_163 p2 p3 p4 p5 K n a73 (p7 + (1 : Int32)) S0))))) else
    (if (0 : Int32) = (0 : Int32) then (lp_X11_ripe_163 p2 p3 p4 p5 K n p6 (p7 + (1 : Int32)) S0) else
    (if p6 < (0 : Int32) then ((gI S0 167 4001 p7).bind fun a50 =>
    lp_X11_ripe_163 p2 p3 p4 p5 K n a50 (p7 + (1 : Int32)) S0) else
    ((gI S0 167 4001 p7).bind fun a53 =>
    if p6 ≤ a53 then (lp_X11_ripe_163 p2 p3 p4 p5 K n p6 (p7 + (1 : Int32)) S0) else
    ((gI S0 167 4001 p7).bind fun a57 =>
    lp_X11_ripe_163 p2 p3 p4 p5 K n a57 (p7 + (1 : Int32)) S0)))))
set_option maxHeartbeats 4000000 in
set_option maxRecDepth 100000 in
theorem ok_lp_X11_ripe_163 {X : mm_C} {RR : Nat → Nat → Option Nat} (hR : RRok RR) {p2 : Int32} {p3 : Int32} {p4 : Int32} {p5 : Int32}  {K : Int32 → fS → Option (Int32 × fS)} {r : Int32 × fS} (hK : ∀ (k6 : Int32) (Sk : fS), K k6 Sk = some r → mr X 3 mY_X11_ripe 274 [(6, .int k6)] [] (MM RR Sk) (some (.int r.1), MM RR r.2)) : ∀ (n : Nat) (p6 : Int32) (p7 : Int32) (S0 : fS), lp_X11_ripe_163 p2 p3 p4 p5 K n p6 p7 S0 = some r → mr X 3 mY_X11_ripe 163 [(0, .ref 145), (2, .int p2), (3, .int p3), (4, .int p4), (5, .int p5), (6, .int p6), (7, .int p7)] [] (MM RR S0) (some (.int r.1), MM RR r.2) := by
  intro n
  induction n with
  | zero => intro p6 p7 S0 h; exact mm_no h
  | succ n ih =>
    intro p6 p7 S0 h
    unfold lp_X11_ripe_163 at h
    refine mr_iload (pc' := 165) dX11_ripe_163 rfl rfl ?_
    refine mr_aload_n (pc' := 166) dX11_ripe_165 rfl rfl ?_
    refine mr_getI (pc' := 169) (ci := 11) (j := 36) dX11_ripe_166 rfl rfl rfl (by decide) (by decide) rfl ?_
    by_cases c43 : (S0.1 145 36) ≤ p7
    · rw [if_pos c43] at h
      refine mr_icmp_ge_t (t := 274) dX11_ripe_169 (by decide) c43 ?_
      exact mr_sub [(6, .int p6)] ⟨rfl, trivial⟩ rfl (hK _ _  h)
    · rw [if_neg c43] at h
      refine mr_icmp_ge_f (t := 274) (pc' := 172) dX11_ripe_169 (by decide) rfl c43 ?_
      refine mr_aload_n (pc' := 173) dX11_ripe_172 rfl rfl ?_
      refine mr_getR (pc' := 176) (ci := 11) (j := 32) (b := 164) hR dX11_ripe_173 rfl rfl rfl (by decide) (by decide) (by decide) rfl rfl ?_
      refine mr_iload (pc' := 178) dX11_ripe_176 rfl rfl ?_
      obtain ⟨a44, g45, h46⟩ := Option.bind_eq_some_iff.mp h
      refine mr_iald (pc' := 179) dX11_ripe_178 rfl rfl rfl g45 ?_
      refine mr_iload_n (pc' := 180) dX11_ripe_179 rfl rfl ?_
      by_cases c47 : a44 = p3
      · rw [if_pos c47] at h46
        refine mr_icmp_ne_f (t := 234) (pc' := 183) dX11_ripe_180 (by decide) rfl (not_not_intro c47) ?_
        refine mr_aload_n (pc' := 184) dX11_ripe_183 rfl rfl ?_
        refine mr_getR (pc' := 187) (ci := 11) (j := 33) (b := 165) hR dX11_ripe_184 rfl rfl rfl (by decide) (by decide) (by decide) rfl rfl ?_
        refine mr_iload (pc' := 189) dX11_ripe_187 rfl rfl ?_
        obtain ⟨a60, g61, h62⟩ := Option.bind_eq_some_iff.mp h46
        refine mr_iald (pc' := 190) dX11_ripe_189 rfl rfl rfl g61 ?_
        refine mr_iload_n (pc' := 191) dX11_ripe_190 rfl rfl ?_
        by_cases c63 : a60 = p2
        · rw [if_pos c63] at h62
          refine mr_icmp_ne_f (t := 234) (pc' := 194) dX11_ripe_191 (by decide) rfl (not_not_intro c63) ?_
          refine mr_aload_n (pc' := 195) dX11_ripe_194 rfl rfl ?_
          refine mr_getR (pc' := 198) (ci := 11) (j := 34) (b := 166) hR dX11_ripe_195 rfl rfl rfl (by decide) (by decide) (by decide) rfl rfl ?_
          refine mr_iload (pc' := 200) dX11_ripe_198 rfl rfl ?_
          obtain ⟨a76, g77, h78⟩ := Option.bind_eq_some_iff.mp h62
          refine mr_lald (pc' := 201) dX11_ripe_200 rfl rfl rfl g77 ?_
          refine mr_iload (pc' := 203) dX11_ripe_201 rfl rfl ?_
          refine mr_i2l (pc' := 204) dX11_ripe_203 rfl ?_
          refine mr_ldc2 (pc' := 207) (v := (232792560 : Int64)) dX11_ripe_204 rfl rfl ?_
          refine mr_lmul (pc' := 208) dX11_ripe_207 rfl ?_
          by_cases c79 : a76 < ((Int32.toInt64 p4) * (232792560 : Int64))
          · rw [if_pos c79] at h78
            refine mr_lcmp_lt_t (t := 234) dX11_ripe_208 rfl dX11_ripe_209 (by decide) c79 ?_
            refine mr_iconst (pc' := 235) (v := (0 : Int32)) dX11_ripe_234 rfl (by decide) ?_
            refine mr_istore (pc' := 237) (lv' := [(8, .int (0 : Int32)), (0, .ref 145), (2, .int p2), (3, .int p3), (4, .int p4), (5, .int p5), (6, .int p6), (7, .int p7)]) dX11_ripe_235 rfl (by decide) rfl ?_
            refine mr_iload (pc' := 239) dX11_ripe_237 rfl rfl ?_
            by_cases c80 : (0 : Int32) = (0 : Int32)
            · rw [if_pos c80] at h78
              refine mr_if_eq_t (t := 268) dX11_ripe_239 (by decide) c80 ?_
              refine mr_iinc (pc' := 271) (x' := (p7 + (1 : Int32))) (lv' := [(7, .int (p7 + (1 : Int32))), (8, .int (0 : Int32)), (0, .ref 145), (2, .int p2), (3, .int p3), (4, .int p4), (5, .int p5), (6, .int p6)]) dX11_ripe_268 rfl (by decide) rfl rfl rfl ?_
              refine mr_goto (t := 163) dX11_ripe_271 (by decide) ?_
              exact mr_sub [(0, .ref 145), (2, .int p2), (3, .int p3), (4, .int p4), (5, .int p5), (6, .int p6), (7, .int (p7 + (1 : Int32)))] ⟨rfl, rfl, rfl, rfl, rfl, rfl, rfl, trivial⟩ rfl (ih _ _ _  h78)
            · rw [if_neg c80] at h78
              refine mr_if_eq_f (t := 268) (pc' := 242) dX11_ripe_239 (by decide) rfl c80 ?_
              refine mr_iload (pc' := 244) dX11_ripe_242 rfl rfl ?_
              by_cases c81 : p6 < (0 : Int32)
              · rw [if_pos c81] at h78
                refine mr_if_lt_t (t := 259) dX11_ripe_244 (by decide) c81 ?_
                refine mr_aload_n (pc' := 260) dX11_ripe_259 rfl rfl ?_
                refine mr_getR (pc' := 263) (ci := 11) (j := 35) (b := 167) hR dX11_ripe_260 rfl rfl rfl (by decide) (by decide) (by decide) rfl rfl ?_
                refine mr_iload (pc' := 265) dX11_ripe_263 rfl rfl ?_
                obtain ⟨a82, g83, h84⟩ := Option.bind_eq_some_iff.mp h78
                refine mr_iald (pc' := 266) dX11_ripe_265 rfl rfl rfl g83 ?_
                refine mr_istore (pc' := 268) (lv' := [(6, .int a82), (8, .int (0 : Int32)), (0, .ref 145), (2, .int p2), (3, .int p3), (4, .int p4), (5, .int p5), (7, .int p7)]) dX11_ripe_266 rfl (by decide) rfl ?_
                refine mr_iinc (pc' := 271) (x' := (p7 + (1 : Int32))) (lv' := [(7, .int (p7 + (1 : Int32))), (6, .int a82), (8, .int (0 : Int32)), (0, .ref 145), (2, .int p2), (3, .int p3), (4, .int p4), (5, .int p5)]) dX11_ripe_268 rfl (by decide) rfl rfl rfl ?_
                refine mr_goto (t := 163) dX11_ripe_271 (by decide) ?_
                exact mr_sub [(0, .ref 145), (2, .int p2), (3, .int p3), (4, .int p4), (5, .int p5), (6, .int a82), (7, .int (p7 + (1 : Int32)))] ⟨rfl, rfl, rfl, rfl, rfl, rfl, rfl, trivial⟩ rfl (ih _ _ _  h84)
              · rw [if_neg c81] at h78
                refine mr_if_lt_f (t := 259) (pc' := 247) dX11_ripe_244 (by decide) rfl c81 ?_
                refine mr_aload_n (pc' := 248) dX11_ripe_247 rfl rfl ?_
                refine mr_getR (pc' := 251) (ci := 11) (j := 35) (b := 167) hR dX11_ripe_248 rfl rfl rfl (by decide) (by decide) (by decide) rfl rfl ?_
                refine mr_iload (pc' := 253) dX11_ripe_251 rfl rfl ?_
                obtain ⟨a85, g86, h87⟩ := Option.bind_eq_some_iff.mp h78
                refine mr_iald (pc' := 254) dX11_ripe_253 rfl rfl rfl g86 ?_
                refine mr_iload (pc' := 256) dX11_ripe_254 rfl rfl ?_
                by_cases c88 : p6 ≤ a85
                · rw [if_pos c88] at h87
                  refine mr_icmp_ge_t (t := 268) dX11_ripe_256 (by decide) c88 ?_
                  refine mr_iinc (pc' := 271) (x' := (p7 + (1 : Int32))) (lv' := [(7, .int (p7 + (1 : Int32))), (8, .int (0 : Int32)), (0, .ref 145), (2, .int p2), (3, .int p3), (4, .int p4), (5, .int p5), (6, .int p6)]) dX11_ripe_268 rfl (by decide) rfl rfl rfl ?_
                  refine mr_goto (t := 163) dX11_ripe_271 (by decide) ?_
                  exact mr_sub [(0, .ref 145), (2, .int p2), (3, .int p3), (4, .int p4), (5, .int p5), (6, .int p6), (7, .int (p7 + (1 : Int32)))] ⟨rfl, rfl, rfl, rfl, rfl, rfl, rfl, trivial⟩ rfl (ih _ _ _  h87)
                · rw [if_neg c88] at h87
                  refine mr_icmp_ge_f (t := 268) (pc' := 259) dX11_ripe_256 (by decide) rfl c88 ?_
                  refine mr_aload_n (pc' := 260) dX11_ripe_259 rfl rfl ?_
                  refine mr_getR (pc' := 263) (ci := 11) (j := 35) (b := 167) hR dX11_ripe_260 rfl rfl rfl (by decide) (by decide) (by decide) rfl rfl ?_
                  refine mr_iload (pc' := 265) dX11_ripe_263 rfl rfl ?_
                  obtain ⟨a89, g90, h91⟩ := Option.bind_eq_some_iff.mp h87
                  refine mr_iald (pc' := 266) dX11_ripe_265 rfl rfl rfl g90 ?_
                  refine mr_istore (pc' := 268) (lv' := [(6, .int a89), (8, .int (0 : Int32)), (0, .ref 145), (2, .int p2), (3, .int p3), (4, .int p4), (5, .int p5), (7, .int p7)]) dX11_ripe_266 rfl (by decide) rfl ?_
                  refine mr_iinc (pc' := 271) (x' := (p7 + (1 : Int32))) (lv' := [(7, .int (p7 + (1 : Int32))), (6, .int a89), (8, .int (0 : Int32)), (0, .ref 145), (2, .int p2), (3, .int p3), (4, .int p4), (5, .int p5)]) dX11_ripe_268 rfl (by decide) rfl rfl rfl ?_
                  refine mr_goto (t := 163) dX11_ripe_271 (by decide) ?_
                  exact mr_sub [(0, .ref 145), (2, .int p2), (3, .int p3), (4, .int p4), (5, .int p5), (6, .int a89), (7, .int (p7 + (1 : Int32)))] ⟨rfl, rfl, rfl, rfl, rfl, rfl, rfl, trivial⟩ rfl (ih _ _ _  h91)
          · rw [if_neg c79] at h78
            refine mr_lcmp_lt_f (t := 234) (pc' := 212) dX11_ripe_208 rfl dX11_ripe_209 (by decide) rfl c79 ?_
            refine mr_aload_n (pc' := 213) dX11_ripe_212 rfl rfl ?_
            refine mr_getR (pc' := 216) (ci := 11) (j := 34) (b := 166) hR dX11_ripe_213 rfl rfl rfl (by decide) (by decide) (by decide) rfl rfl ?_
            refine mr_iload (pc' := 218) dX11_ripe_216 rfl rfl ?_
            obtain ⟨a92, g93, h94⟩ := Option.bind_eq_some_iff.mp h78
            refine mr_lald (pc' := 219) dX11_ripe_218 rfl rfl rfl g93 ?_
            refine mr_iload (pc' := 221) dX11_ripe_219 rfl rfl ?_
            refine mr_i2l (pc' := 222) dX11_ripe_221 rfl ?_
            refine mr_ldc2 (pc' := 225) (v := (232792560 : Int64)) dX11_ripe_222 rfl rfl ?_
            refine mr_lmul (pc' := 226) dX11_ripe_225 rfl ?_
            by_cases c95 : ((Int32.toInt64 p5) * (232792560 : Int64)) < a92
            · rw [if_pos c95] at h94
              refine mr_lcmp_gt_t (t := 234) dX11_ripe_226 rfl dX11_ripe_227 (by decide) c95 ?_
              refine mr_iconst (pc' := 235) (v := (0 : Int32)) dX11_ripe_234 rfl (by decide) ?_
              refine mr_istore (pc' := 237) (lv' := [(8, .int (0 : Int32)), (0, .ref 145), (2, .int p2), (3, .int p3), (4, .int p4), (5, .int p5), (6, .int p6), (7, .int p7)]) dX11_ripe_235 rfl (by decide) rfl ?_
              refine mr_iload (pc' := 239) dX11_ripe_237 rfl rfl ?_
              by_cases c96 : (0 : Int32) = (0 : Int32)
              · rw [if_pos c96] at h94
                refine mr_if_eq_t (t := 268) dX11_ripe_239 (by decide) c96 ?_
                refine mr_iinc (pc' := 271) (x' := (p7 + (1 : Int32))) (lv' := [(7, .int (p7 + (1 : Int32))), (8, .int (0 : Int32)), (0, .ref 145), (2, .int p2), (3, .int p3), (4, .int p4), (5, .int p5), (6, .int p6)]) dX11_ripe_268 rfl (by decide) rfl rfl rfl ?_
                refine mr_goto (t := 163) dX11_ripe_271 (by decide) ?_
                exact mr_sub [(0, .ref 145), (2, .int p2), (3, .int p3), (4, .int p4), (5, .int p5), (6, .int p6), (7, .int (p7 + (1 : Int32)))] ⟨rfl, rfl, rfl, rfl, rfl, rfl, rfl, trivial⟩ rfl (ih _ _ _  h94)
              · rw [if_neg c96] at h94
                refine mr_if_eq_f (t := 268) (pc' := 242) dX11_ripe_239 (by decide) rfl c96 ?_
                refine mr_iload (pc' := 244) dX11_ripe_242 rfl rfl ?_
                by_cases c97 : p6 < (0 : Int32)
                · rw [if_pos c97] at h94
                  refine mr_if_lt_t (t := 259) dX11_ripe_244 (by decide) c97 ?_
                  refine mr_aload_n (pc' := 260) dX11_ripe_259 rfl rfl ?_
                  refine mr_getR (pc' := 263) (ci := 11) (j := 35) (b := 167) hR dX11_ripe_260 rfl rfl rfl (by decide) (by decide) (by decide) rfl rfl ?_
                  refine mr_iload (pc' := 265) dX11_ripe_263 rfl rfl ?_
                  obtain ⟨a98, g99, h100⟩ := Option.bind_eq_some_iff.mp h94
                  refine mr_iald (pc' := 266) dX11_ripe_265 rfl rfl rfl g99 ?_
                  refine mr_istore (pc' := 268) (lv' := [(6, .int a98), (8, .int (0 : Int32)), (0, .ref 145), (2, .int p2), (3, .int p3), (4, .int p4), (5, .int p5), (7, .int p7)]) dX11_ripe_266 rfl (by decide) rfl ?_
                  refine mr_iinc (pc' := 271) (x' := (p7 + (1 : Int32))) (lv' := [(7, .int (p7 + (1 : Int32))), (6, .int a98), (8, .int (0 : Int32)), (0, .ref 145), (2, .int p2), (3, .int p3), (4, .int p4), (5, .int p5)]) dX11_ripe_268 rfl (by decide) rfl rfl rfl ?_
                  refine mr_goto (t := 163) dX11_ripe_271 (by decide) ?_
                  exact mr_sub [(0, .ref 145), (2, .int p2), (3, .int p3), (4, .int p4), (5, .int p5), (6, .int a98), (7, .int (p7 + (1 : Int32)))] ⟨rfl, rfl, rfl, rfl, rfl, rfl, rfl, trivial⟩ rfl (ih _ _ _  h100)
                · rw [if_neg c97] at h94
                  refine mr_if_lt_f (t := 259) (pc' := 247) dX11_ripe_244 (by decide) rfl c97 ?_
                  refine mr_aload_n (pc' := 248) dX11_ripe_247 rfl rfl ?_
                  refine mr_getR (pc' := 251) (ci := 11) (j := 35) (b := 167) hR dX11_ripe_248 rfl rfl rfl (by decide) (by decide) (by decide) rfl rfl ?_
                  refine mr_iload (pc' := 253) dX11_ripe_251 rfl rfl ?_
                  obtain ⟨a101, g102, h103⟩ := Option.bind_eq_some_iff.mp h94
                  refine mr_iald (pc' := 254) dX11_ripe_253 rfl rfl rfl g102 ?_
                  refine mr_iload (pc' := 256) dX11_ripe_254 rfl rfl ?_
                  by_cases c104 : p6 ≤ a101
                  · rw [if_pos c104] at h103
                    refine mr_icmp_ge_t (t := 268) dX11_ripe_256 (by decide) c104 ?_
                    refine mr_iinc (pc' := 271) (x' := (p7 + (1 : Int32))) (lv' := [(7, .int (p7 + (1 : Int32))), (8, .int (0 : Int32)), (0, .ref 145), (2, .int p2), (3, .int p3), (4, .int p4), (5, .int p5), (6, .int p6)]) dX11_ripe_268 rfl (by decide) rfl rfl rfl ?_
                    refine mr_goto (t := 163) dX11_ripe_271 (by decide) ?_
                    exact mr_sub [(0, .ref 145), (2, .int p2), (3, .int p3), (4, .int p4), (5, .int p5), (6, .int p6), (7, .int (p7 + (1 : Int32)))] ⟨rfl, rfl, rfl, rfl, rfl, rfl, rfl, trivial⟩ rfl (ih _ _ _  h103)
                  · rw [if_neg c104] at h103
                    refine mr_icmp_ge_f (t := 268) (pc' := 259) dX11_ripe_256 (by decide) rfl c104 ?_
                    refine mr_aload_n (pc' := 260) dX11_ripe_259 rfl rfl ?_
                    refine mr_getR (pc' := 263) (ci := 11) (j := 35) (b := 167) hR dX11_ripe_260 rfl rfl rfl (by decide) (by decide) (by decide) rfl rfl ?_
                    refine mr_iload (pc' := 265) dX11_ripe_263 rfl rfl ?_
                    obtain ⟨a105, g106, h107⟩ := Option.bind_eq_some_iff.mp h103
                    refine mr_iald (pc' := 266) dX11_ripe_265 rfl rfl rfl g106 ?_
                    refine mr_istore (pc' := 268) (lv' := [(6, .int a105), (8, .int (0 : Int32)), (0, .ref 145), (2, .int p2), (3, .int p3), (4, .int p4), (5, .int p5), (7, .int p7)]) dX11_ripe_266 rfl (by decide) rfl ?_
                    refine mr_iinc (pc' := 271) (x' := (p7 + (1 : Int32))) (lv' := [(7, .int (p7 + (1 : Int32))), (6, .int a105), (8, .int (0 : Int32)), (0, .ref 145), (2, .int p2), (3, .int p3), (4, .int p4), (5, .int p5)]) dX11_ripe_268 rfl (by decide) rfl rfl rfl ?_
                    refine mr_goto (t := 163) dX11_ripe_271 (by decide) ?_
                    exact mr_sub [(0, .ref 145), (2, .int p2), (3, .int p3), (4, .int p4), (5, .int p5), (6, .int a105), (7, .int (p7 + (1 : Int32)))] ⟨rfl, rfl, rfl, rfl, rfl, rfl, rfl, trivial⟩ rfl (ih _ _ _  h107)
            · rw [if_neg c95] at h94
              refine mr_lcmp_gt_f (t := 234) (pc' := 230) dX11_ripe_226 rfl dX11_ripe_227 (by decide) rfl c95 ?_
              refine mr_iconst (pc' := 231) (v := (1 : Int32)) dX11_ripe_230 rfl (by decide) ?_
              refine mr_goto (t := 235) dX11_ripe_231 (by decide) ?_
              refine mr_istore (pc' := 237) (lv' := [(8, .int (1 : Int32)), (0, .ref 145), (2, .int p2), (3, .int p3), (4, .int p4), (5, .int p5), (6, .int p6), (7, .int p7)]) dX11_ripe_235 rfl (by decide) rfl ?_
              refine mr_iload (pc' := 239) dX11_ripe_237 rfl rfl ?_
              by_cases c108 : (1 : Int32) = (0 : Int32)
              · rw [if_pos c108] at h94
                refine mr_if_eq_t (t := 268) dX11_ripe_239 (by decide) c108 ?_
                refine mr_iinc (pc' := 271) (x' := (p7 + (1 : Int32))) (lv' := [(7, .int (p7 + (1 : Int32))), (8, .int (1 : Int32)), (0, .ref 145), (2, .int p2), (3, .int p3), (4, .int p4), (5, .int p5), (6, .int p6)]) dX11_ripe_268 rfl (by decide) rfl rfl rfl ?_
                refine mr_goto (t := 163) dX11_ripe_271 (by decide) ?_
                exact mr_sub [(0, .ref 145), (2, .int p2), (3, .int p3), (4, .int p4), (5, .int p5), (6, .int p6), (7, .int (p7 + (1 : Int32)))] ⟨rfl, rfl, rfl, rfl, rfl, rfl, rfl, trivial⟩ rfl (ih _ _ _  h94)
              · rw [if_neg c108] at h94
                refine mr_if_eq_f (t := 268) (pc' := 242) dX11_ripe_239 (by decide) rfl c108 ?_
                refine mr_iload (pc' := 244) dX11_ripe_242 rfl rfl ?_
                by_cases c109 : p6 < (0 : Int32)
                · rw [if_pos c109] at h94
                  refine mr_if_lt_t (t := 259) dX11_ripe_244 (by decide) c109 ?_
                  refine mr_aload_n (pc' := 260) dX11_ripe_259 rfl rfl ?_
                  refine mr_getR (pc' := 263) (ci := 11) (j := 35) (b := 167) hR dX11_ripe_260 rfl rfl rfl (by decide) (by decide) (by decide) rfl rfl ?_
                  refine mr_iload (pc' := 265) dX11_ripe_263 rfl rfl ?_
                  obtain ⟨a110, g111, h112⟩ := Option.bind_eq_some_iff.mp h94
                  refine mr_iald (pc' := 266) dX11_ripe_265 rfl rfl rfl g111 ?_
                  refine mr_istore (pc' := 268) (lv' := [(6, .int a110), (8, .int (1 : Int32)), (0, .ref 145), (2, .int p2), (3, .int p3), (4, .int p4), (5, .int p5), (7, .int p7)]) dX11_ripe_266 rfl (by decide) rfl ?_
                  refine mr_iinc (pc' := 271) (x' := (p7 + (1 : Int32))) (lv' := [(7, .int (p7 + (1 : Int32))), (6, .int a110), (8, .int (1 : Int32)), (0, .ref 145), (2, .int p2), (3, .int p3), (4, .int p4), (5, .int p5)]) dX11_ripe_268 rfl (by decide) rfl rfl rfl ?_
                  refine mr_goto (t := 163) dX11_ripe_271 (by decide) ?_
                  exact mr_sub [(0, .ref 145), (2, .int p2), (3, .int p3), (4, .int p4), (5, .int p5), (6, .int a110), (7, .int (p7 + (1 : Int32)))] ⟨rfl, rfl, rfl, rfl, rfl, rfl, rfl, trivial⟩ rfl (ih _ _ _  h112)
                · rw [if_neg c109] at h94
                  refine mr_if_lt_f (t := 259) (pc' := 247) dX11_ripe_244 (by decide) rfl c109 ?_
                  refine mr_aload_n (pc' := 248) dX11_ripe_247 rfl rfl ?_
                  refine mr_getR (pc' := 251) (ci := 11) (j := 35) (b := 167) hR dX11_ripe_248 rfl rfl rfl (by decide) (by decide) (by decide) rfl rfl ?_
                  refine mr_iload (pc' := 253) dX11_ripe_251 rfl rfl ?_
                  obtain ⟨a113, g114, h115⟩ := Option.bind_eq_some_iff.mp h94
                  refine mr_iald (pc' := 254) dX11_ripe_253 rfl rfl rfl g114 ?_
                  refine mr_iload (pc' := 256) dX11_ripe_254 rfl rfl ?_
                  by_cases c116 : p6 ≤ a113
                  · rw [if_pos c116] at h115
                    refine mr_icmp_ge_t (t := 268) dX11_ripe_256 (by decide) c116 ?_
                    refine mr_iinc (pc' := 271) (x' := (p7 + (1 : Int32))) (lv' := [(7, .int (p7 + (1 : Int32))), (8, .int (1 : Int32)), (0, .ref 145), (2, .int p2), (3, .int p3), (4, .int p4), (5, .int p5), (6, .int p6)]) dX11_ripe_268 rfl (by decide) rfl rfl rfl ?_
                    refine mr_goto (t := 163) dX11_ripe_271 (by decide) ?_
                    exact mr_sub [(0, .ref 145), (2, .int p2), (3, .int p3), (4, .int p4), (5, .int p5), (6, .int p6), (7, .int (p7 + (1 : Int32)))] ⟨rfl, rfl, rfl, rfl, rfl, rfl, rfl, trivial⟩ rfl (ih _ _ _  h115)
                  · rw [if_neg c116] at h115
                    refine mr_icmp_ge_f (t := 268) (pc' := 259) dX11_ripe_256 (by decide) rfl c116 ?_
                    refine mr_aload_n (pc' := 260) dX11_ripe_259 rfl rfl ?_
                    refine mr_getR (pc' := 263) (ci := 11) (j := 35) (b := 167) hR dX11_ripe_260 rfl rfl rfl (by decide) (by decide) (by decide) rfl rfl ?_
                    refine mr_iload (pc' := 265) dX11_ripe_263 rfl rfl ?_
                    obtain ⟨a117, g118, h119⟩ := Option.bind_eq_some_iff.mp h115
                    refine mr_iald (pc' := 266) dX11_ripe_265 rfl rfl rfl g118 ?_
                    refine mr_istore (pc' := 268) (lv' := [(6, .int a117), (8, .int (1 : Int32)), (0, .ref 145), (2, .int p2), (3, .int p3), (4, .int p4), (5, .int p5), (7, .int p7)]) dX11_ripe_266 rfl (by decide) rfl ?_
                    refine mr_iinc (pc' := 271) (x' := (p7 + (1 : Int32))) (lv' := [(7, .int (p7 + (1 : Int32))), (6, .int a117), (8, .int (1 : Int32)), (0, .ref 145), (2, .int p2), (3, .int p3), (4, .int p4), (5, .int p5)]) dX11_ripe_268 rfl (by decide) rfl rfl rfl ?_
                    refine mr_goto (t := 163) dX11_ripe_271 (by decide) ?_
                    exact mr_sub [(0, .ref 145), (2, .int p2), (3, .int p3), (4, .int p4), (5, .int p5), (6, .int a117), (7, .int (p7 + (1 : Int32)))] ⟨rfl, rfl, rfl, rfl, rfl, rfl, rfl, trivial⟩ rfl (ih _ _ _  h119)
        · rw [if_neg c63] at h62
          refine mr_icmp_ne_t (t := 234) dX11_ripe_191 (by decide) c63 ?_
          refine mr_iconst (pc' := 235) (v := (0 : Int32)) dX11_ripe_234 rfl (by decide) ?_
          refine mr_istore (pc' := 237) (lv' := [(8, .int (0 : Int32)), (0, .ref 145), (2, .int p2), (3, .int p3), (4, .int p4), (5, .int p5), (6, .int p6), (7, .int p7)]) dX11_ripe_235 rfl (by decide) rfl ?_
          refine mr_iload (pc' := 239) dX11_ripe_237 rfl rfl ?_
          by_cases c64 : (0 : Int32) = (0 : Int32)
          · rw [if_pos c64] at h62
            refine mr_if_eq_t (t := 268) dX11_ripe_239 (by decide) c64 ?_
            refine mr_iinc (pc' := 271) (x' := (p7 + (1 : Int32))) (lv' := [(7, .int (p7 + (1 : Int32))), (8, .int (0 : Int32)), (0, .ref 145), (2, .int p2), (3, .int p3), (4, .int p4), (5, .int p5), (6, .int p6)]) dX11_ripe_268 rfl (by decide) rfl rfl rfl ?_
            refine mr_goto (t := 163) dX11_ripe_271 (by decide) ?_
            exact mr_sub [(0, .ref 145), (2, .int p2), (3, .int p3), (4, .int p4), (5, .int p5), (6, .int p6), (7, .int (p7 + (1 : Int32)))] ⟨rfl, rfl, rfl, rfl, rfl, rfl, rfl, trivial⟩ rfl (ih _ _ _  h62)
          · rw [if_neg c64] at h62
            refine mr_if_eq_f (t := 268) (pc' := 242) dX11_ripe_239 (by decide) rfl c64 ?_
            refine mr_iload (pc' := 244) dX11_ripe_242 rfl rfl ?_
            by_cases c65 : p6 < (0 : Int32)
            · rw [if_pos c65] at h62
              refine mr_if_lt_t (t := 259) dX11_ripe_244 (by decide) c65 ?_
              refine mr_aload_n (pc' := 260) dX11_ripe_259 rfl rfl ?_
              refine mr_getR (pc' := 263) (ci := 11) (j := 35) (b := 167) hR dX11_ripe_260 rfl rfl rfl (by decide) (by decide) (by decide) rfl rfl ?_
              refine mr_iload (pc' := 265) dX11_ripe_263 rfl rfl ?_
              obtain ⟨a66, g67, h68⟩ := Option.bind_eq_some_iff.mp h62
              refine mr_iald (pc' := 266) dX11_ripe_265 rfl rfl rfl g67 ?_
              refine mr_istore (pc' := 268) (lv' := [(6, .int a66), (8, .int (0 : Int32)), (0, .ref 145), (2, .int p2), (3, .int p3), (4, .int p4), (5, .int p5), (7, .int p7)]) dX11_ripe_266 rfl (by decide) rfl ?_
              refine mr_iinc (pc' := 271) (x' := (p7 + (1 : Int32))) (lv' := [(7, .int (p7 + (1 : Int32))), (6, .int a66), (8, .int (0 : Int32)), (0, .ref 145), (2, .int p2), (3, .int p3), (4, .int p4), (5, .int p5)]) dX11_ripe_268 rfl (by decide) rfl rfl rfl ?_
              refine mr_goto (t := 163) dX11_ripe_271 (by decide) ?_
              exact mr_sub [(0, .ref 145), (2, .int p2), (3, .int p3), (4, .int p4), (5, .int p5), (6, .int a66), (7, .int (p7 + (1 : Int32)))] ⟨rfl, rfl, rfl, rfl, rfl, rfl, rfl, trivial⟩ rfl (ih _ _ _  h68)
            · rw [if_neg c65] at h62
              refine mr_if_lt_f (t := 259) (pc' := 247) dX11_ripe_244 (by decide) rfl c65 ?_
              refine mr_aload_n (pc' := 248) dX11_ripe_247 rfl rfl ?_
              refine mr_getR (pc' := 251) (ci := 11) (j := 35) (b := 167) hR dX11_ripe_248 rfl rfl rfl (by decide) (by decide) (by decide) rfl rfl ?_
              refine mr_iload (pc' := 253) dX11_ripe_251 rfl rfl ?_
              obtain ⟨a69, g70, h71⟩ := Option.bind_eq_some_iff.mp h62
              refine mr_iald (pc' := 254) dX11_ripe_253 rfl rfl rfl g70 ?_
              refine mr_iload (pc' := 256) dX11_ripe_254 rfl rfl ?_
              by_cases c72 : p6 ≤ a69
              · rw [if_pos c72] at h71
                refine mr_icmp_ge_t (t := 268) dX11_ripe_256 (by decide) c72 ?_
                refine mr_iinc (pc' := 271) (x' := (p7 + (1 : Int32))) (lv' := [(7, .int (p7 + (1 : Int32))), (8, .int (0 : Int32)), (0, .ref 145), (2, .int p2), (3, .int p3), (4, .int p4), (5, .int p5), (6, .int p6)]) dX11_ripe_268 rfl (by decide) rfl rfl rfl ?_
                refine mr_goto (t := 163) dX11_ripe_271 (by decide) ?_
                exact mr_sub [(0, .ref 145), (2, .int p2), (3, .int p3), (4, .int p4), (5, .int p5), (6, .int p6), (7, .int (p7 + (1 : Int32)))] ⟨rfl, rfl, rfl, rfl, rfl, rfl, rfl, trivial⟩ rfl (ih _ _ _  h71)
              · rw [if_neg c72] at h71
                refine mr_icmp_ge_f (t := 268) (pc' := 259) dX11_ripe_256 (by decide) rfl c72 ?_
                refine mr_aload_n (pc' := 260) dX11_ripe_259 rfl rfl ?_
                refine mr_getR (pc' := 263) (ci := 11) (j := 35) (b := 167) hR dX11_ripe_260 rfl rfl rfl (by decide) (by decide) (by decide) rfl rfl ?_
                refine mr_iload (pc' := 265) dX11_ripe_263 rfl rfl ?_
                obtain ⟨a73, g74, h75⟩ := Option.bind_eq_some_iff.mp h71
                refine mr_iald (pc' := 266) dX11_ripe_265 rfl rfl rfl g74 ?_
                refine mr_istore (pc' := 268) (lv' := [(6, .int a73), (8, .int (0 : Int32)), (0, .ref 145), (2, .int p2), (3, .int p3), (4, .int p4), (5, .int p5), (7, .int p7)]) dX11_ripe_266 rfl (by decide) rfl ?_
                refine mr_iinc (pc' := 271) (x' := (p7 + (1 : Int32))) (lv' := [(7, .int (p7 + (1 : Int32))), (6, .int a73), (8, .int (0 : Int32)), (0, .ref 145), (2, .int p2), (3, .int p3), (4, .int p4), (5, .int p5)]) dX11_ripe_268 rfl (by decide) rfl rfl rfl ?_
                refine mr_goto (t := 163) dX11_ripe_271 (by decide) ?_
                exact mr_sub [(0, .ref 145), (2, .int p2), (3, .int p3), (4, .int p4), (5, .int p5), (6, .int a73), (7, .int (p7 + (1 : Int32)))] ⟨rfl, rfl, rfl, rfl, rfl, rfl, rfl, trivial⟩ rfl (ih _ _ _  h75)
      · rw [if_neg c47] at h46
        refine mr_icmp_ne_t (t := 234) dX11_ripe_180 (by decide) c47 ?_
        refine mr_iconst (pc' := 235) (v := (0 : Int32)) dX11_ripe_234 rfl (by decide) ?_
        refine mr_istore (pc' := 237) (lv' := [(8, .int (0 : Int32)), (0, .ref 145), (2, .int p2), (3, .int p3), (4, .int p4), (5, .int p5), (6, .int p6), (7, .int p7)]) dX11_ripe_235 rfl (by decide) rfl ?_
        refine mr_iload (pc' := 239) dX11_ripe_237 rfl rfl ?_
        by_cases c48 : (0 : Int32) = (0 : Int32)
        · rw [if_pos c48] at h46
          refine mr_if_eq_t (t := 268) dX11_ripe_239 (by decide) c48 ?_
          refine mr_iinc (pc' := 271) (x' := (p7 + (1 : Int32))) (lv' := [(7, .int (p7 + (1 : Int32))), (8, .int (0 : Int32)), (0, .ref 145), (2, .int p2), (3, .int p3), (4, .int p4), (5, .int p5), (6, .int p6)]) dX11_ripe_268 rfl (by decide) rfl rfl rfl ?_
          refine mr_goto (t := 163) dX11_ripe_271 (by decide) ?_
          exact mr_sub [(0, .ref 145), (2, .int p2), (3, .int p3), (4, .int p4), (5, .int p5), (6, .int p6), (7, .int (p7 + (1 : Int32)))] ⟨rfl, rfl, rfl, rfl, rfl, rfl, rfl, trivial⟩ rfl (ih _ _ _  h46)
        · rw [if_neg c48] at h46
          refine mr_if_eq_f (t := 268) (pc' := 242) dX11_ripe_239 (by decide) rfl c48 ?_
          refine mr_iload (pc' := 244) dX11_ripe_242 rfl rfl ?_
          by_cases c49 : p6 < (0 : Int32)
          · rw [if_pos c49] at h46
            refine mr_if_lt_t (t := 259) dX11_ripe_244 (by decide) c49 ?_
            refine mr_aload_n (pc' := 260) dX11_ripe_259 rfl rfl ?_
            refine mr_getR (pc' := 263) (ci := 11) (j := 35) (b := 167) hR dX11_ripe_260 rfl rfl rfl (by decide) (by decide) (by decide) rfl rfl ?_
            refine mr_iload (pc' := 265) dX11_ripe_263 rfl rfl ?_
            obtain ⟨a50, g51, h52⟩ := Option.bind_eq_some_iff.mp h46
            refine mr_iald (pc' := 266) dX11_ripe_265 rfl rfl rfl g51 ?_
            refine mr_istore (pc' := 268) (lv' := [(6, .int a50), (8, .int (0 : Int32)), (0, .ref 145), (2, .int p2), (3, .int p3), (4, .int p4), (5, .int p5), (7, .int p7)]) dX11_ripe_266 rfl (by decide) rfl ?_
            refine mr_iinc (pc' := 271) (x' := (p7 + (1 : Int32))) (lv' := [(7, .int (p7 + (1 : Int32))), (6, .int a50), (8, .int (0 : Int32)), (0, .ref 145), (2, .int p2), (3, .int p3), (4, .int p4), (5, .int p5)]) dX11_ripe_268 rfl (by decide) rfl rfl rfl ?_
            refine mr_goto (t := 163) dX11_ripe_271 (by decide) ?_
            exact mr_sub [(0, .ref 145), (2, .int p2), (3, .int p3), (4, .int p4), (5, .int p5), (6, .int a50), (7, .int (p7 + (1 : Int32)))] ⟨rfl, rfl, rfl, rfl, rfl, rfl, rfl, trivial⟩ rfl (ih _ _ _  h52)
          · rw [if_neg c49] at h46
            refine mr_if_lt_f (t := 259) (pc' := 247) dX11_ripe_244 (by decide) rfl c49 ?_
            refine mr_aload_n (pc' := 248) dX11_ripe_247 rfl rfl ?_
            refine mr_getR (pc' := 251) (ci := 11) (j := 35) (b := 167) hR dX11_ripe_248 rfl rfl rfl (by decide) (by decide) (by decide) rfl rfl ?_
            refine mr_iload (pc' := 253) dX11_ripe_251 rfl rfl ?_
            obtain ⟨a53, g54, h55⟩ := Option.bind_eq_some_iff.mp h46
            refine mr_iald (pc' := 254) dX11_ripe_253 rfl rfl rfl g54 ?_
            refine mr_iload (pc' := 256) dX11_ripe_254 rfl rfl ?_
            by_cases c56 : p6 ≤ a53
            · rw [if_pos c56] at h55
              refine mr_icmp_ge_t (t := 268) dX11_ripe_256 (by decide) c56 ?_
              refine mr_iinc (pc' := 271) (x' := (p7 + (1 : Int32))) (lv' := [(7, .int (p7 + (1 : Int32))), (8, .int (0 : Int32)), (0, .ref 145), (2, .int p2), (3, .int p3), (4, .int p4), (5, .int p5), (6, .int p6)]) dX11_ripe_268 rfl (by decide) rfl rfl rfl ?_
              refine mr_goto (t := 163) dX11_ripe_271 (by decide) ?_
              exact mr_sub [(0, .ref 145), (2, .int p2), (3, .int p3), (4, .int p4), (5, .int p5), (6, .int p6), (7, .int (p7 + (1 : Int32)))] ⟨rfl, rfl, rfl, rfl, rfl, rfl, rfl, trivial⟩ rfl (ih _ _ _  h55)
            · rw [if_neg c56] at h55
              refine mr_icmp_ge_f (t := 268) (pc' := 259) dX11_ripe_256 (by decide) rfl c56 ?_
              refine mr_aload_n (pc' := 260) dX11_ripe_259 rfl rfl ?_
              refine mr_getR (pc' := 263) (ci := 11) (j := 35) (b := 167) hR dX11_ripe_260 rfl rfl rfl (by decide) (by decide) (by decide) rfl rfl ?_
              refine mr_iload (pc' := 265) dX11_ripe_263 rfl rfl ?_
              obtain ⟨a57, g58, h59⟩ := Option.bind_eq_some_iff.mp h55
              refine mr_iald (pc' := 266) dX11_ripe_265 rfl rfl rfl g58 ?_
              refine mr_istore (pc' := 268) (lv' := [(6, .int a57), (8, .int (0 : Int32)), (0, .ref 145), (2, .int p2), (3, .int p3), (4, .int p4), (5, .int p5), (7, .int p7)]) dX11_ripe_266 rfl (by decide) rfl ?_
              refine mr_iinc (pc' := 271) (x' := (p7 + (1 : Int32))) (lv' := [(7, .int (p7 + (1 : Int32))), (6, .int a57), (8, .int (0 : Int32)), (0, .ref 145), (2, .int p2), (3, .int p3), (4, .int p4), (5, .int p5)]) dX11_ripe_268 rfl (by decide) rfl rfl rfl ?_
              refine mr_goto (t := 163) dX11_ripe_271 (by decide) ?_
              exact mr_sub [(0, .ref 145), (2, .int p2), (3, .int p3), (4, .int p4), (5, .int p5), (6, .int a57), (7, .int (p7 + (1 : Int32)))] ⟨rfl, rfl, rfl, rfl, rfl, rfl, rfl, trivial⟩ rfl (ih _ _ _  h59)
def f_X11_ripe (v1 : Int32) (v2 : Int32) (v3 : Int32) (v4 : Int32) (v5 : Int32) (S : fS) : Option (Int32 × fS) :=
  (f_X11_isFloor v1 S).bind fun q1 =>
  if q1 = (0 : Int32) then (some ((-1 : Int32), S)) else
  ((f_X11_isFloor v2 S).bind fun q5 =>
  if q5 = (0 : Int32) then (some ((-1 : Int32), S)) else
  ((f_X11_in (Int32.toInt64 v3) (0 : Int64) (16 : Int64) S).bind fun q9 =>
  if q9 = (0 : Int32) then (some ((-1 : Int32), S)) else
  ((f_X11_in (Int32.toInt64 v4) (0 : Int64) (999 : Int64) S).bind fun q13 =>
  if q13 = (0 : Int32) then (some ((-1 : Int32), S)) else
  ((f_X11_in (Int32.toInt64 v5) (Int32.toInt64 v4) (999 : Int64) S).bind fun q17 =>
  if q17 = (0 : Int32) then (some ((-1 : Int32), S)) else
  ((some (pI S 145 36 (0 : Int32))).bind fun S21 =>
  (f_X11_comes (0 : Int32) v1 (0 : Int64) (0 : Int32) S21).bind fun q24 =>
  lp_X11_ripe_74 v2 v3 v4 v5 (fun S40 => if (S40.1 145 36) ≤ (4000 : Int32) then (lp_X11_ripe_163 v2 v3 v4 v5 (fun u120 S121 => some (u120, S121)) FU (-2 : Int32) (0 : Int32) S40) else
  (some ((-3 : Int32), S40))) FU (0 : Int32) q24)))))
set_option maxHeartbeats 4000000 in
set_option maxRecDepth 100000 in
theorem ok_X11_ripe {X : mm_C} {RR : Nat → Nat → Option Nat} (hR : RRok RR) {v1 : Int32} {v2 : Int32} {v3 : Int32} {v4 : Int32} {v5 : Int32}  {S : fS} {r : Int32 × fS} (h : f_X11_ripe v1 v2 v3 v4 v5 S = some r) : mr X 3 mY_X11_ripe 0 (lv_args 0 [.ref 145, .int v1, .int v2, .int v3, .int v4, .int v5]) [] (MM RR S) (some (.int r.1), MM RR r.2) := by
  unfold f_X11_ripe at h
  show mr X _ _ 0 [(0, .ref 145), (1, .int v1), (2, .int v2), (3, .int v3), (4, .int v4), (5, .int v5)] [] (MM RR S) _
  refine mr_aload_n (pc' := 1) dX11_ripe_0 rfl rfl ?_
  refine mr_iload_n (pc' := 2) dX11_ripe_1 rfl rfl ?_
  obtain ⟨q1, g2, h3⟩ := Option.bind_eq_some_iff.mp h
  refine mr_cv (pc' := 5) (a := 145) (d1 := 0) dX11_ripe_2 rfl rfl rfl rfl rfl rfl (by decide) rfl (by decide) (ok_X11_isFloor hR  g2) ?_
  show mr X _ _ 5 _ [.int q1] (MM RR S) _
  by_cases c4 : q1 = (0 : Int32)
  · rw [if_pos c4] at h3
    refine mr_if_eq_t (t := 56) dX11_ripe_5 (by decide) c4 ?_
    refine mr_iconst (pc' := 57) (v := (-1 : Int32)) dX11_ripe_56 rfl (by decide) ?_
    obtain rfl := Option.some.inj h3
    exact mr_ireturn dX11_ripe_57 rfl
  · rw [if_neg c4] at h3
    refine mr_if_eq_f (t := 56) (pc' := 8) dX11_ripe_5 (by decide) rfl c4 ?_
    refine mr_aload_n (pc' := 9) dX11_ripe_8 rfl rfl ?_
    refine mr_iload_n (pc' := 10) dX11_ripe_9 rfl rfl ?_
    obtain ⟨q5, g6, h7⟩ := Option.bind_eq_some_iff.mp h3
    refine mr_cv (pc' := 13) (a := 145) (d1 := 0) dX11_ripe_10 rfl rfl rfl rfl rfl rfl (by decide) rfl (by decide) (ok_X11_isFloor hR  g6) ?_
    show mr X _ _ 13 _ [.int q5] (MM RR S) _
    by_cases c8 : q5 = (0 : Int32)
    · rw [if_pos c8] at h7
      refine mr_if_eq_t (t := 56) dX11_ripe_13 (by decide) c8 ?_
      refine mr_iconst (pc' := 57) (v := (-1 : Int32)) dX11_ripe_56 rfl (by decide) ?_
      obtain rfl := Option.some.inj h7
      exact mr_ireturn dX11_ripe_57 rfl
    · rw [if_neg c8] at h7
      refine mr_if_eq_f (t := 56) (pc' := 16) dX11_ripe_13 (by decide) rfl c8 ?_
      refine mr_iload_n (pc' := 17) dX11_ripe_16 rfl rfl ?_
      refine mr_i2l (pc' := 18) dX11_ripe_17 rfl ?_
      refine mr_lconst (pc' := 19) (v := (0 : Int64)) dX11_ripe_18 rfl (by decide) ?_
      refine mr_ldc2 (pc' := 22) (v := (16 : Int64)) dX11_ripe_19 rfl rfl ?_
      obtain ⟨q9, g10, h11⟩ := Option.bind_eq_some_iff.mp h7
      refine mr_cs (pc' := 25) (d1 := 0) dX11_ripe_22 rfl rfl rfl rfl (by decide) (Nat.le_of_ble_eq_true rfl) rfl rfl rfl (by decide) (ok_X11_in hR  g10) ?_
      show mr X _ _ 25 _ [.int q9] (MM RR S) _
      by_cases c12 : q9 = (0 : Int32)
      · rw [if_pos c12] at h11
        refine mr_if_eq_t (t := 56) dX11_ripe_25 (by decide) c12 ?_
        refine mr_iconst (pc' := 57) (v := (-1 : Int32)) dX11_ripe_56 rfl (by decide) ?_
        obtain rfl := Option.some.inj h11
        exact mr_ireturn dX11_ripe_57 rfl
      · rw [if_neg c12] at h11
        refine mr_if_eq_f (t := 56) (pc' := 28) dX11_ripe_25 (by decide) rfl c12 ?_
        refine mr_iload (pc' := 30) dX11_ripe_28 rfl rfl ?_
        refine mr_i2l (pc' := 31) dX11_ripe_30 rfl ?_
        refine mr_lconst (pc' := 32) (v := (0 : Int64)) dX11_ripe_31 rfl (by decide) ?_
        refine mr_ldc2 (pc' := 35) (v := (999 : Int64)) dX11_ripe_32 rfl rfl ?_
        obtain ⟨q13, g14, h15⟩ := Option.bind_eq_some_iff.mp h11
        refine mr_cs (pc' := 38) (d1 := 0) dX11_ripe_35 rfl rfl rfl rfl (by decide) (Nat.le_of_ble_eq_true rfl) rfl rfl rfl (by decide) (ok_X11_in hR  g14) ?_
        show mr X _ _ 38 _ [.int q13] (MM RR S) _
        by_cases c16 : q13 = (0 : Int32)
        · rw [if_pos c16] at h15
          refine mr_if_eq_t (t := 56) dX11_ripe_38 (by decide) c16 ?_
          refine mr_iconst (pc' := 57) (v := (-1 : Int32)) dX11_ripe_56 rfl (by decide) ?_
          obtain rfl := Option.some.inj h15
          exact mr_ireturn dX11_ripe_57 rfl
        · rw [if_neg c16] at h15
          refine mr_if_eq_f (t := 56) (pc' := 41) dX11_ripe_38 (by decide) rfl c16 ?_
          refine mr_iload (pc' := 43) dX11_ripe_41 rfl rfl ?_
          refine mr_i2l (pc' := 44) dX11_ripe_43 rfl ?_
          refine mr_iload (pc' := 46) dX11_ripe_44 rfl rfl ?_
          refine mr_i2l (pc' := 47) dX11_ripe_46 rfl ?_
          refine mr_ldc2 (pc' := 50) (v := (999 : Int64)) dX11_ripe_47 rfl rfl ?_
          obtain ⟨q17, g18, h19⟩ := Option.bind_eq_some_iff.mp h15
          refine mr_cs (pc' := 53) (d1 := 0) dX11_ripe_50 rfl rfl rfl rfl (by decide) (Nat.le_of_ble_eq_true rfl) rfl rfl rfl (by decide) (ok_X11_in hR  g18) ?_
          show mr X _ _ 53 _ [.int q17] (MM RR S) _
          by_cases c20 : q17 = (0 : Int32)
          · rw [if_pos c20] at h19
            refine mr_if_ne_f (t := 58) (pc' := 56) dX11_ripe_53 (by decide) rfl (not_not_intro c20) ?_
            refine mr_iconst (pc' := 57) (v := (-1 : Int32)) dX11_ripe_56 rfl (by decide) ?_
            obtain rfl := Option.some.inj h19
            exact mr_ireturn dX11_ripe_57 rfl
          · rw [if_neg c20] at h19
            refine mr_if_ne_t (t := 58) dX11_ripe_53 (by decide) c20 ?_
            refine mr_aload_n (pc' := 59) dX11_ripe_58 rfl rfl ?_
            refine mr_iconst (pc' := 60) (v := (0 : Int32)) dX11_ripe_59 rfl (by decide) ?_
            obtain ⟨S21, g22, h23⟩ := Option.bind_eq_some_iff.mp h19
            refine mr_putI (pc' := 63) (ci := 11) (j := 36) dX11_ripe_60 rfl rfl rfl (by decide) (by decide) rfl rfl ?_
            rw [Option.some.inj g22]
            refine mr_aload_n (pc' := 64) dX11_ripe_63 rfl rfl ?_
            refine mr_iconst (pc' := 65) (v := (0 : Int32)) dX11_ripe_64 rfl (by decide) ?_
            refine mr_iload_n (pc' := 66) dX11_ripe_65 rfl rfl ?_
            refine mr_lconst (pc' := 67) (v := (0 : Int64)) dX11_ripe_66 rfl (by decide) ?_
            refine mr_iconst (pc' := 68) (v := (0 : Int32)) dX11_ripe_67 rfl (by decide) ?_
            obtain ⟨q24, g25, h26⟩ := Option.bind_eq_some_iff.mp h23
            refine mr_cv (pc' := 71) (a := 145) (d1 := 0) dX11_ripe_68 rfl rfl rfl rfl rfl rfl (by decide) rfl (by decide) (ok_X11_comes hR  g25) ?_
            show mr X _ _ 71 _ [] (MM RR q24) _
            refine mr_iconst (pc' := 72) (v := (0 : Int32)) dX11_ripe_71 rfl (by decide) ?_
            refine mr_istore (pc' := 74) (lv' := [(6, .int (0 : Int32)), (0, .ref 145), (1, .int v1), (2, .int v2), (3, .int v3), (4, .int v4), (5, .int v5)]) dX11_ripe_72 rfl (by decide) rfl ?_
            refine mr_sub [(0, .ref 145), (2, .int v2), (3, .int v3), (4, .int v4), (5, .int v5), (6, .int (0 : Int32))] ⟨rfl, rfl, rfl, rfl, rfl, rfl, trivial⟩ rfl ?_
            refine ok_lp_X11_ripe_74 hR  (fun S40 h41 => ?_) FU _ _  h26
            refine mr_aload_n (pc' := 144) dX11_ripe_143 rfl rfl ?_
            refine mr_getI (pc' := 147) (ci := 11) (j := 36) dX11_ripe_144 rfl rfl rfl (by decide) (by decide) rfl ?_
            refine mr_sipush (pc' := 150) (v := (4000 : Int32)) dX11_ripe_147 rfl (by decide) ?_
            by_cases c42 : (S40.1 145 36) ≤ (4000 : Int32)
            · rw [if_pos c42] at h41
              refine mr_icmp_le_t (t := 156) dX11_ripe_150 (by decide) c42 ?_
              refine mr_bipush (pc' := 158) (v := (-2 : Int32)) dX11_ripe_156 rfl (by decide) ?_
              refine mr_istore (pc' := 160) (lv' := [(6, .int (-2 : Int32)), (0, .ref 145), (2, .int v2), (3, .int v3), (4, .int v4), (5, .int v5)]) dX11_ripe_158 rfl (by decide) rfl ?_
              refine mr_iconst (pc' := 161) (v := (0 : Int32)) dX11_ripe_160 rfl (by decide) ?_
              refine mr_istore (pc' := 163) (lv' := [(7, .int (0 : Int32)), (6, .int (-2 : Int32)), (0, .ref 145), (2, .int v2), (3, .int v3), (4, .int v4), (5, .int v5)]) dX11_ripe_161 rfl (by decide) rfl ?_
              refine mr_sub [(0, .ref 145), (2, .int v2), (3, .int v3), (4, .int v4), (5, .int v5), (6, .int (-2 : Int32)), (7, .int (0 : Int32))] ⟨rfl, rfl, rfl, rfl, rfl, rfl, rfl, trivial⟩ rfl ?_
              refine ok_lp_X11_ripe_163 hR  (fun u120 S121 h122 => ?_) FU _ _ _  h41
              refine mr_iload (pc' := 276) dX11_ripe_274 rfl rfl ?_
              obtain rfl := Option.some.inj h122
              exact mr_ireturn dX11_ripe_276 rfl
            · rw [if_neg c42] at h41
              refine mr_icmp_le_f (t := 156) (pc' := 153) dX11_ripe_150 (by decide) rfl c42 ?_
              refine mr_bipush (pc' := 155) (v := (-3 : Int32)) dX11_ripe_153 rfl (by decide) ?_
              obtain rfl := Option.some.inj h41
              exact mr_ireturn dX11_ripe_155 rfl
def f_X11_owed (v1 : Int32) (v2 : Int32) (v3 : Int32) (v4 : Int32) (v5 : Int32) (S : fS) : Option (Int64) :=
  (f_X11_isFloor v1 S).bind fun q1 =>
  if q1 = (0 : Int32) then (some (-1 : Int64)) else
  ((f_X11_in (Int32.toInt64 v2) (1 : Int64) (9999 : Int64) S).bind fun q5 =>
  if q5 = (0 : Int32) then (some (-1 : Int64)) else
  ((f_X11_in (Int32.toInt64 v3) (0 : Int64) (999 : Int64) S).bind fun q9 =>
  if q9 = (0 : Int32) then (some (-1 : Int64)) else
  ((f_X11_in (Int32.toInt64 v4) (0 : Int64) (9999 : Int64) S).bind fun q13 =>
  if q13 = (0 : Int32) then (some (-1 : Int64)) else
  ((f_X11_in (Int32.toInt64 v5) (0 : Int64) (1 : Int64) S).bind fun q17 =>
  if q17 = (0 : Int32) then (some (-1 : Int64)) else
  ((gI S 157 158 (((10 : Int32) + ((2 : Int32) * v1)) + (1 : Int32))).bind fun a21 =>
  (gI S 157 158 ((10 : Int32) + ((2 : Int32) * v1))).bind fun a24 =>
  (f_X11_lowest (((Int32.toInt64 v2) * ((24000 : Int64) * (Int32.toInt64 a21))) + ((((Int32.toInt64 v2) * (Int32.toInt64 v3)) * (Int32.toInt64 v4)) * (Int32.toInt64 a24))) ((24000 : Int64) * (Int32.toInt64 a21)) v5 S).bind fun q27 =>
  some q27)))))
set_option maxHeartbeats 4000000 in
set_option maxRecDepth 100000 in
theorem ok_X11_owed {X : mm_C} {RR : Nat → Nat → Option Nat} (hR : RRok RR) {v1 : Int32} {v2 : Int32} {v3 : Int32} {v4 : Int32} {v5 : Int32}  {S : fS} {r : Int64} (h : f_X11_owed v1 v2 v3 v4 v5 S = some r) : mr X 2 mY_X11_owed 0 (lv_args 0 [.ref 145, .int v1, .int v2, .int v3, .int v4, .int v5]) [] (MM RR S) (some (.long r), MM RR S) := by
  unfold f_X11_owed at h
  show mr X _ _ 0 [(0, .ref 145), (1, .int v1), (2, .int v2), (3, .int v3), (4, .int v4), (5, .int v5)] [] (MM RR S) _
  refine mr_aload_n (pc' := 1) dX11_owed_0 rfl rfl ?_
  refine mr_iload_n (pc' := 2) dX11_owed_1 rfl rfl ?_
  obtain ⟨q1, g2, h3⟩ := Option.bind_eq_some_iff.mp h
  refine mr_cv (pc' := 5) (a := 145) (d1 := 0) dX11_owed_2 rfl rfl rfl rfl rfl rfl (by decide) rfl (by decide) (ok_X11_isFloor hR  g2) ?_
  show mr X _ _ 5 _ [.int q1] (MM RR S) _
  by_cases c4 : q1 = (0 : Int32)
  · rw [if_pos c4] at h3
    refine mr_if_eq_t (t := 56) dX11_owed_5 (by decide) c4 ?_
    refine mr_ldc2 (pc' := 59) (v := (-1 : Int64)) dX11_owed_56 rfl rfl ?_
    obtain rfl := Option.some.inj h3
    exact mr_lreturn dX11_owed_59 rfl
  · rw [if_neg c4] at h3
    refine mr_if_eq_f (t := 56) (pc' := 8) dX11_owed_5 (by decide) rfl c4 ?_
    refine mr_iload_n (pc' := 9) dX11_owed_8 rfl rfl ?_
    refine mr_i2l (pc' := 10) dX11_owed_9 rfl ?_
    refine mr_lconst (pc' := 11) (v := (1 : Int64)) dX11_owed_10 rfl (by decide) ?_
    refine mr_ldc2 (pc' := 14) (v := (9999 : Int64)) dX11_owed_11 rfl rfl ?_
    obtain ⟨q5, g6, h7⟩ := Option.bind_eq_some_iff.mp h3
    refine mr_cs (pc' := 17) (d1 := 0) dX11_owed_14 rfl rfl rfl rfl (by decide) (Nat.le_of_ble_eq_true rfl) rfl rfl rfl (by decide) (ok_X11_in hR  g6) ?_
    show mr X _ _ 17 _ [.int q5] (MM RR S) _
    by_cases c8 : q5 = (0 : Int32)
    · rw [if_pos c8] at h7
      refine mr_if_eq_t (t := 56) dX11_owed_17 (by decide) c8 ?_
      refine mr_ldc2 (pc' := 59) (v := (-1 : Int64)) dX11_owed_56 rfl rfl ?_
      obtain rfl := Option.some.inj h7
      exact mr_lreturn dX11_owed_59 rfl
    · rw [if_neg c8] at h7
      refine mr_if_eq_f (t := 56) (pc' := 20) dX11_owed_17 (by decide) rfl c8 ?_
      refine mr_iload_n (pc' := 21) dX11_owed_20 rfl rfl ?_
      refine mr_i2l (pc' := 22) dX11_owed_21 rfl ?_
      refine mr_lconst (pc' := 23) (v := (0 : Int64)) dX11_owed_22 rfl (by decide) ?_
      refine mr_ldc2 (pc' := 26) (v := (999 : Int64)) dX11_owed_23 rfl rfl ?_
      obtain ⟨q9, g10, h11⟩ := Option.bind_eq_some_iff.mp h7
      refine mr_cs (pc' := 29) (d1 := 0) dX11_owed_26 rfl rfl rfl rfl (by decide) (Nat.le_of_ble_eq_true rfl) rfl rfl rfl (by decide) (ok_X11_in hR  g10) ?_
      show mr X _ _ 29 _ [.int q9] (MM RR S) _
      by_cases c12 : q9 = (0 : Int32)
      · rw [if_pos c12] at h11
        refine mr_if_eq_t (t := 56) dX11_owed_29 (by decide) c12 ?_
        refine mr_ldc2 (pc' := 59) (v := (-1 : Int64)) dX11_owed_56 rfl rfl ?_
        obtain rfl := Option.some.inj h11
        exact mr_lreturn dX11_owed_59 rfl
      · rw [if_neg c12] at h11
        refine mr_if_eq_f (t := 56) (pc' := 32) dX11_owed_29 (by decide) rfl c12 ?_
        refine mr_iload (pc' := 34) dX11_owed_32 rfl rfl ?_
        refine mr_i2l (pc' := 35) dX11_owed_34 rfl ?_
        refine mr_lconst (pc' := 36) (v := (0 : Int64)) dX11_owed_35 rfl (by decide) ?_
        refine mr_ldc2 (pc' := 39) (v := (9999 : Int64)) dX11_owed_36 rfl rfl ?_
        obtain ⟨q13, g14, h15⟩ := Option.bind_eq_some_iff.mp h11
        refine mr_cs (pc' := 42) (d1 := 0) dX11_owed_39 rfl rfl rfl rfl (by decide) (Nat.le_of_ble_eq_true rfl) rfl rfl rfl (by decide) (ok_X11_in hR  g14) ?_
        show mr X _ _ 42 _ [.int q13] (MM RR S) _
        by_cases c16 : q13 = (0 : Int32)
        · rw [if_pos c16] at h15
          refine mr_if_eq_t (t := 56) dX11_owed_42 (by decide) c16 ?_
          refine mr_ldc2 (pc' := 59) (v := (-1 : Int64)) dX11_owed_56 rfl rfl ?_
          obtain rfl := Option.some.inj h15
          exact mr_lreturn dX11_owed_59 rfl
        · rw [if_neg c16] at h15
          refine mr_if_eq_f (t := 56) (pc' := 45) dX11_owed_42 (by decide) rfl c16 ?_
          refine mr_iload (pc' := 47) dX11_owed_45 rfl rfl ?_
          refine mr_i2l (pc' := 48) dX11_owed_47 rfl ?_
          refine mr_lconst (pc' := 49) (v := (0 : Int64)) dX11_owed_48 rfl (by decide) ?_
          refine mr_lconst (pc' := 50) (v := (1 : Int64)) dX11_owed_49 rfl (by decide) ?_
          obtain ⟨q17, g18, h19⟩ := Option.bind_eq_some_iff.mp h15
          refine mr_cs (pc' := 53) (d1 := 0) dX11_owed_50 rfl rfl rfl rfl (by decide) (Nat.le_of_ble_eq_true rfl) rfl rfl rfl (by decide) (ok_X11_in hR  g18) ?_
          show mr X _ _ 53 _ [.int q17] (MM RR S) _
          by_cases c20 : q17 = (0 : Int32)
          · rw [if_pos c20] at h19
            refine mr_if_ne_f (t := 60) (pc' := 56) dX11_owed_53 (by decide) rfl (not_not_intro c20) ?_
            refine mr_ldc2 (pc' := 59) (v := (-1 : Int64)) dX11_owed_56 rfl rfl ?_
            obtain rfl := Option.some.inj h19
            exact mr_lreturn dX11_owed_59 rfl
          · rw [if_neg c20] at h19
            refine mr_if_ne_t (t := 60) dX11_owed_53 (by decide) c20 ?_
            refine mr_ldc2 (pc' := 63) (v := (24000 : Int64)) dX11_owed_60 rfl rfl ?_
            refine mr_aload_n (pc' := 64) dX11_owed_63 rfl rfl ?_
            refine mr_getR (pc' := 67) (ci := 11) (j := 25) (b := 157) hR dX11_owed_64 rfl rfl rfl (by decide) (by decide) (by decide) rfl rfl ?_
            refine mr_bipush (pc' := 69) (v := (10 : Int32)) dX11_owed_67 rfl (by decide) ?_
            refine mr_iconst (pc' := 70) (v := (2 : Int32)) dX11_owed_69 rfl (by decide) ?_
            refine mr_iload_n (pc' := 71) dX11_owed_70 rfl rfl ?_
            refine mr_imul (pc' := 72) dX11_owed_71 rfl ?_
            refine mr_iadd (pc' := 73) dX11_owed_72 rfl ?_
            refine mr_iconst (pc' := 74) (v := (1 : Int32)) dX11_owed_73 rfl (by decide) ?_
            refine mr_iadd (pc' := 75) dX11_owed_74 rfl ?_
            obtain ⟨a21, g22, h23⟩ := Option.bind_eq_some_iff.mp h19
            refine mr_iald (pc' := 76) dX11_owed_75 rfl rfl rfl g22 ?_
            refine mr_i2l (pc' := 77) dX11_owed_76 rfl ?_
            refine mr_lmul (pc' := 78) dX11_owed_77 rfl ?_
            refine mr_lstore (pc' := 80) (lv' := [(6, .long ((24000 : Int64) * (Int32.toInt64 a21))), (0, .ref 145), (1, .int v1), (2, .int v2), (3, .int v3), (4, .int v4), (5, .int v5)]) dX11_owed_78 rfl (by decide) rfl ?_
            refine mr_iload_n (pc' := 81) dX11_owed_80 rfl rfl ?_
            refine mr_i2l (pc' := 82) dX11_owed_81 rfl ?_
            refine mr_lload (pc' := 84) dX11_owed_82 rfl rfl ?_
            refine mr_lmul (pc' := 85) dX11_owed_84 rfl ?_
            refine mr_iload_n (pc' := 86) dX11_owed_85 rfl rfl ?_
            refine mr_i2l (pc' := 87) dX11_owed_86 rfl ?_
            refine mr_iload_n (pc' := 88) dX11_owed_87 rfl rfl ?_
            refine mr_i2l (pc' := 89) dX11_owed_88 rfl ?_
            refine mr_lmul (pc' := 90) dX11_owed_89 rfl ?_
            refine mr_iload (pc' := 92) dX11_owed_90 rfl rfl ?_
            refine mr_i2l (pc' := 93) dX11_owed_92 rfl ?_
            refine mr_lmul (pc' := 94) dX11_owed_93 rfl ?_
            refine mr_aload_n (pc' := 95) dX11_owed_94 rfl rfl ?_
            refine mr_getR (pc' := 98) (ci := 11) (j := 25) (b := 157) hR dX11_owed_95 rfl rfl rfl (by decide) (by decide) (by decide) rfl rfl ?_
            refine mr_bipush (pc' := 100) (v := (10 : Int32)) dX11_owed_98 rfl (by decide) ?_
            refine mr_iconst (pc' := 101) (v := (2 : Int32)) dX11_owed_100 rfl (by decide) ?_
            refine mr_iload_n (pc' := 102) dX11_owed_101 rfl rfl ?_
            refine mr_imul (pc' := 103) dX11_owed_102 rfl ?_
            refine mr_iadd (pc' := 104) dX11_owed_103 rfl ?_
            obtain ⟨a24, g25, h26⟩ := Option.bind_eq_some_iff.mp h23
            refine mr_iald (pc' := 105) dX11_owed_104 rfl rfl rfl g25 ?_
            refine mr_i2l (pc' := 106) dX11_owed_105 rfl ?_
            refine mr_lmul (pc' := 107) dX11_owed_106 rfl ?_
            refine mr_ladd (pc' := 108) dX11_owed_107 rfl ?_
            refine mr_lload (pc' := 110) dX11_owed_108 rfl rfl ?_
            refine mr_iload (pc' := 112) dX11_owed_110 rfl rfl ?_
            obtain ⟨q27, g28, h29⟩ := Option.bind_eq_some_iff.mp h26
            refine mr_cs (pc' := 115) (d1 := 1) dX11_owed_112 rfl rfl rfl rfl (by decide) (Nat.le_of_ble_eq_true rfl) rfl rfl rfl (by decide) (ok_X11_lowest hR  g28) ?_
            show mr X _ _ 115 _ [.long q27] (MM RR S) _
            obtain rfl := Option.some.inj h29
            exact mr_lreturn dX11_owed_115 rfl
