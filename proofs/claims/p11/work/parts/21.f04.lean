def lp_X5_readTest_21  (K : fS → Option (Int32 × fS)) : Nat → Int32 → Int32 → Int32 → fS → Option (Int32 × fS)
  | 0, _, _, _, _ => none
  | n + 1, p1, p2, p3, S0 =>
    if (400 : Int32) ≤ p3 then (K S0) else
    (if p1 = (0 : Int32) then ((f_X5_readValue  S0).bind fun q12 =>
    if q12.1 = (0 : Int32) then (some ((0 : Int32), q12.2)) else
    ((f_X5_takeReckoning  q12.2).bind fun q16 =>
    if (0 : Int32) ≤ q16.1 then (if (0 : Int32) = (0 : Int32) then (if (0 : Int32) ≤ q16.1 then ((gB q16.1).bind fun a22 =>
    (f_X5_settle a22 q16.2).bind fun q25 =>
    (f_X5_hold q16.1 q25).bind fun q28 =>
    lp_X5_readTest_21  K n (0 : Int32) p2 (p3 + (1 : Int32)) q28) else
    ((f_X5_takeComparing  q16.2).bind fun q31 =>
    if (0 : Int32) ≤ q31.1 then ((f_X5_isRoomForOne  q31.2).bind fun q35 =>
    if q35.1 = (0 : Int32) then (some ((0 : Int32), q35.2)) else
    ((gB q31.1).bind fun a39 =>
    (f_X5_settle a39 q35.2).bind fun q42 =>
    (f_X5_hold q31.1 q42).bind fun q45 =>
    lp_X5_readTest_21  K n (0 : Int32) (1 : Int32) (p3 + (1 : Int32)) q45)) else
    ((f_X7_fail (q31.2.1 1 2) (0 : Int32) q31.2).bind fun q48 =>
    (bZ q48.1).bind fun z51 => some (z51, q48.2)))) else
    ((f_X5_closeBrackets  q16.2).bind fun q56 =>
    (f_X5_takeJoining  q56).bind fun q59 =>
    if (0 : Int32) ≤ q59.1 then ((gB q59.1).bind fun a63 =>
    (f_X5_settle a63 q59.2).bind fun q66 =>
    (f_X5_hold q59.1 q66).bind fun q69 =>
    lp_X5_readTest_21  K n (0 : Int32) p2 (p3 + (1 : Int32)) q69) else
    ((f_X5_isTestOver  q59.2).bind fun q72 =>
    (bZ q72.1).bind fun z75 => some (z75, q72.2)))) else
    (if p2 = (0 : Int32) then (if (0 : Int32) = (0 : Int32) then (if (0 : Int32) ≤ q16.1 then ((gB q16.1).bind fun a83 =>
    (f_X5_settle a83 q16.2).bind fun q86 =>
    (f_X5_hold q16.1 q86).bind fun q89 =>
    lp_X5_readTest_21  K n (0 : Int32) p2 (p3 + (1 : Int32)) q89) else
    ((f_X5_takeComparing  q16.2).bind fun q92 =>
    if (0 : Int32) ≤ q92.1 then ((f_X5_isRoomForOne  q92.2).bind fun q96 =>
    if q96.1 = (0 : Int32) then (some ((0 : Int32), q96.2)) else
    ((gB q92.1).bind fun a100 =>
    (f_X5_settle a100 q96.2).bind fun q103 =>
    (f_X5_hold q92.1 q103).bind fun q106 =>
    lp_X5_readTest_21  K n (0 : Int32) (1 : Int32) (p3 + (1 : Int32)) q106)) else
    ((f_X7_fail (q92.2.1 1 2) (0 : Int32) q92.2).bind fun q109 =>
    (bZ q109.1).bind fun z112 => some (z112, q109.2)))) else
    ((f_X5_closeBrackets  q16.2).bind fun q117 =>
    (f_X5_takeJoining  q117).bind fun q120 =>
    if (0 : Int32) ≤ q120.1 then ((gB q120.1).bind fun a124 =>
    (f_X5_settle a124 q120.2).bind fun q127 =>
    (f_X5_hold q120.1 q127).bind fun q130 =>
    lp_X5_readTest_21  K n (0 : Int32) p2 (p3 + (1 : Int32)) q130) else
    ((f_X5_isTestOver  q120.2).bind fun q133 =>
    (bZ q133.1).bind fun z136 => some (z136, q133.2)))) else
    (if (1 : Int32) = (0 : Int32) then (if (0 : Int32) ≤ q16.1 then ((gB q16.1).bind fun a143 =>
    (f_X5_settle a143 q16.2).bind fun q146 =>
    (f_X5_hold q16.1 q146).bind fun q149 =>
    lp_X5_readTest_21  K n (1 : Int32) p2 (p3 + (1 : Int32)) q149) else
    ((f_X5_takeComparing  q16.2).bind fun q152 =>
    if (0 : Int32) ≤ q152.1 then ((f_X5_isRoomForOne  q152.2).bind fun q156 =>
    if q156.1 = (0 : Int32) then (some ((0 : Int32), q156.2)) else
    ((gB q152.1).bind fun a160 =>
    (f_X5_settle a160 q156.2).bind fun q163 =>
    (f_X5_hold q152.1 q163).bind fun q166 =>
    lp_X5_readTest_21  K n (1 : Int32) (1 : Int32) (p3 + (1 : Int32)) q166)) else
    ((f_X7_fail (q152.2.1 1 2) (0 : Int32) q152.2).bind fun q169 =>
    (bZ q169.1).bind fun z172 => some (z172, q169.2)))) else
    ((f_X5_closeBrackets  q16.2).bind fun q177 =>
    (f_X5_takeJoining  q177).bind fun q180 =>
    if (0 : Int32) ≤ q180.1 then ((gB q180.1).bind fun a184 =>
    (f_X5_settle a184 q180.2).bind fun q187 =>
    (f_X5_hold q180.1 q187).bind fun q190 =>
    lp_X5_readTest_21  K n (1 : Int32) p2 (p3 + (1 : Int32)) q190) else
    ((f_X5_isTestOver  q180.2).bind fun q193 =>
    (bZ q193.1).bind fun z196 => some (z196, q193.2))))))) else
    ((f_X5_readOpenings  S0).bind fun q201 =>
    if q201.1 = (0 : Int32) then (some ((0 : Int32), q201.2)) else
    ((f_X5_readValue  q201.2).bind fun q205 =>
    if q205.1 = (0 : Int32) then (some ((0 : Int32), q205.2)) else
    ((f_X5_takeReckoning  q205.2).bind fun q209 =>
    if (0 : Int32) ≤ q209.1 then (if (0 : Int32) = (0 : Int32) then (if (0 : Int32) ≤ q209.1 then ((gB q209.1).bind fun a215 =>
    (f_X5_settle a215 q209.2).bind fun q218 =>
    (f_X5_hold q209.1 q218).bind fun q221 =>
    lp_X5_readTest_21  K n (0 : Int32) (0 : Int32) (p3 + (1 : Int32)) q221) else
    ((f_X5_takeComparing  q209.2).bind fun q224 =>
    if (0 : Int32) ≤ q224.1 then ((f_X5_isRoomForOne  q224.2).bind fun q228 =>
    if q228.1 = (0 : Int32) then (some ((0 : Int32), q228.2)) else
    ((gB q224.1).bind fun a232 =>
    (f_X5_settle a232 q228.2).bind fun q235 =>
    (f_X5_hold q224.1 q235).bind fun q238 =>
    lp_X5_readTest_21  K n (0 : Int32) (1 : Int32) (p3 + (1 : Int32)) q238)) else
    ((f_X7_fail (q224.2.1 1 2) (0 : Int32) q224.2).bind fun q241 =>
    (bZ q241.1).bind fun z244 => some (z244, q241.2)))) else
    ((f_X5_closeBrackets  q209.2).bind fun q249 =>
    (f_X5_takeJoining  q249).bind fun q252 =>
    if (0 : Int32) ≤ q252.1 then ((gB q252.1).bind fun a256 =>
    (f_X5_settle a256 q252.2).bind fun q259 =>
    (f_X5_hold q252.1 q259).bind fun q262 =>
    lp_X5_readTest_21  K n (0 : Int32) (0 : Int32) (p3 + (1 : Int32)) q262) else
    ((f_X5_isTestOver  q252.2).bind fun q265 =>
    (bZ q265.1).bind fun z268 => some (z268, q265.2)))) else
    (if (0 : Int32) = (0 : Int32) then (if (0 : Int32) = (0 : Int32) then (if (0 : Int32) ≤ q209.1 then ((gB q209.1).bind fun a276 =>
    (f_X5_settle a276 q209.2).bind fun q279 =>
    (f_X5_hold q209.1 q279).bind fun q282 =>
    lp_X5_readTest_21  K n (0 : Int32) (0 : Int32) (p3 + (1 : Int32)) q282) else
    ((f_X5_takeComparing  q209.2).bind fun q285 =>
    if (0 : Int32) ≤ q285.1 then ((f_X5_isRoomForOne  q285.2).bind fun q289 =>
    if q289.1 = (0 : Int32) then (some ((0 : Int32), q289.2)) else
    ((gB q285.1).bind fun a293 =>
    (f_X5_settle a293 q289.2).bind fun q296 =>
    (f_X5_hold q285.1 q296).bind fun q299 =>
    lp_X5_readTest_21  K n (0 : Int32) (1 : Int32) (p3 + (1 : Int32)) q299)) else
    ((f_X7_fail (q285.2.1 1 2) (0 : Int32) q285.2).bind fun q302 =>
    (bZ q302.1).bind fun z305 => some (z305, q302.2)))) else
    ((f_X5_closeBrackets  q209.2).bind fun q310 =>
    (f_X5_takeJoining  q310).bind fun q313 =>
    if (0 : Int32) ≤ q313.1 then ((gB q313.1).bind fun a317 =>
    (f_X5_settle a317 q313.2).bind fun q320 =>
    (f_X5_hold q313.1 q320).bind fun q323 =>
    lp_X5_readTest_21  K n (0 : Int32) (0 : Int32) (p3 + (1 : Int32)) q323) else
    ((f_X5_isTestOver  q313.2).bind fun q326 =>
    (bZ q326.1).bind fun z329 => some (z329, q326.2)))) else
    (if (1 : Int32) = (0 : Int32) then (if (0 : Int32) ≤ q209.1 then ((gB q209.1).bind fun a336 =>
    (f_X5_settle a336 q209.2).bind fun q339 =>
    (f_X5_hold q209.1 q339).bind fun q342 =>
    lp_X5_readTest_21  K n (1 : Int32) (0 : Int32) (p3 + (1 : Int32)) q342) else
    ((f_X5_takeComparing  q209.2).bind fun q345 =>
    if (0 : Int32) ≤ q345.1 then ((f_X5_isRoomForOne  q345.2).bind fun q349 =>
    if q349.1 = (0 : Int32) then (some ((0 : Int32), q349.2)) else
    ((gB q345.1).bind fun a353 =>
    (f_X5_settle a353 q349.2).bind fun q356 =>
    (f_X5_hold q345.1 q356).bind fun q359 =>
    lp_X5_readTest_21  K n (1 : Int32) (1 : Int32) (p3 + (1 : Int32)) q359)) else
    ((f_X7_fail (q345.2.1 1 2) (0 : Int32) q345.2).bind fun q362 =>
    (bZ q362.1).bind fun z365 => some (z365, q362.2)))) else
    ((f_X5_closeBrackets  q209.2).bind fun q370 =>
    (f_X5_takeJoining  q370).bind fun q373 =>
    if (0 : Int32) ≤ q373.1 then ((gB q373.1).bind fun a377 =>
    (f_X5_settle a377 q373.2).bind fun q380 =>
    (f_X5_hold q373.1 q380).bind fun q383 =>
    lp_X5_readTest_21  K n (1 : Int32) (0 : Int32) (p3 + (1 : Int32)) q383) else
    ((f_X5_isTestOver  q373.2).bind fun q386 =>
    (bZ q386.1).bind fun z389 => some (z389, q386.2)))))))))
set_option maxHeartbeats 4000000 in
set_option maxRecDepth 100000 in
theorem ok_lp_X5_readTest_21 {X : mm_C} {RR : Nat → Nat → Option Nat} (hR : RRok RR)   {K : fS → Option (Int32 × fS)} {r : Int32 × fS} (hK : ∀ (Sk : fS), K Sk = some r → mr X 7 mY_X5_readTest 162 [] [] (MM RR Sk) (some (.int r.1), MM RR r.2)) : ∀ (n : Nat) (p1 : Int32) (p2 : Int32) (p3 : Int32) (S0 : fS), lp_X5_readTest_21  K n p1 p2 p3 S0 = some r → mr X 7 mY_X5_readTest 21 [(0, .ref 38), (1, .int p1), (2, .int p2), (3, .int p3)] [] (MM RR S0) (some (.int r.1), MM RR r.2) := by
  intro n
  induction n with
  | zero => intro p1 p2 p3 S0 h; exact mm_no h
  | succ n ih =>
    intro p1 p2 p3 S0 h
    unfold lp_X5_readTest_21 at h
    refine mr_iload_n (pc' := 22) dX5_readTest_21 rfl rfl ?_
    refine mr_sipush (pc' := 25) (v := (400 : Int32)) dX5_readTest_22 rfl (by decide) ?_
    by_cases c10 : (400 : Int32) ≤ p3
    · rw [if_pos c10] at h
      refine mr_icmp_ge_t (t := 162) dX5_readTest_25 (by decide) c10 ?_
      exact mr_sub [] trivial rfl (hK _  h)
    · rw [if_neg c10] at h
      refine mr_icmp_ge_f (t := 162) (pc' := 28) dX5_readTest_25 (by decide) rfl c10 ?_
      refine mr_iload_n (pc' := 29) dX5_readTest_28 rfl rfl ?_
      by_cases c11 : p1 = (0 : Int32)
      · rw [if_pos c11] at h
        refine mr_if_eq_t (t := 43) dX5_readTest_29 (by decide) c11 ?_
        refine mr_aload_n (pc' := 44) dX5_readTest_43 rfl rfl ?_
        obtain ⟨q12, g13, h14⟩ := Option.bind_eq_some_iff.mp h
        refine mr_cv (pc' := 47) (a := 38) (d1 := 6) dX5_readTest_44 rfl rfl rfl rfl rfl rfl (by decide) rfl (by decide) (ok_X5_readValue hR  g13) ?_
        show mr X _ _ 47 _ [.int q12.1] (MM RR q12.2) _
        by_cases c15 : q12.1 = (0 : Int32)
        · rw [if_pos c15] at h14
          refine mr_if_ne_f (t := 52) (pc' := 50) dX5_readTest_47 (by decide) rfl (not_not_intro c15) ?_
          refine mr_iconst (pc' := 51) (v := (0 : Int32)) dX5_readTest_50 rfl (by decide) ?_
          obtain rfl := Option.some.inj h14
          exact mr_zreturn dX5_readTest_51 rfl (by decide)
        · rw [if_neg c15] at h14
          refine mr_if_ne_t (t := 52) dX5_readTest_47 (by decide) c15 ?_
          refine mr_aload_n (pc' := 53) dX5_readTest_52 rfl rfl ?_
          obtain ⟨q16, g17, h18⟩ := Option.bind_eq_some_iff.mp h14
          refine mr_cv (pc' := 56) (a := 38) (d1 := 2) dX5_readTest_53 rfl rfl rfl rfl rfl rfl (by decide) rfl (by decide) (ok_X5_takeReckoning hR  g17) ?_
          show mr X _ _ 56 _ [.int q16.1] (MM RR q16.2) _
          refine mr_istore (pc' := 58) (lv' := [(4, .int q16.1), (0, .ref 38), (1, .int p1), (2, .int p2), (3, .int p3)]) dX5_readTest_56 rfl (by decide) rfl ?_
          refine mr_iload (pc' := 60) dX5_readTest_58 rfl rfl ?_
          by_cases c19 : (0 : Int32) ≤ q16.1
          · rw [if_pos c19] at h18
            refine mr_if_ge_t (t := 71) dX5_readTest_60 (by decide) c19 ?_
            refine mr_iconst (pc' := 72) (v := (0 : Int32)) dX5_readTest_71 rfl (by decide) ?_
            refine mr_istore_n (pc' := 73) (lv' := [(1, .int (0 : Int32)), (4, .int q16.1), (0, .ref 38), (2, .int p2), (3, .int p3)]) dX5_readTest_72 rfl (by decide) rfl ?_
            refine mr_iload_n (pc' := 74) dX5_readTest_73 rfl rfl ?_
            by_cases c20 : (0 : Int32) = (0 : Int32)
            · rw [if_pos c20] at h18
              refine mr_if_eq_t (t := 97) dX5_readTest_74 (by decide) c20 ?_
              refine mr_iload (pc' := 99) dX5_readTest_97 rfl rfl ?_
              by_cases c21 : (0 : Int32) ≤ q16.1
              · rw [if_pos c21] at h18
                refine mr_if_ge_t (t := 140) dX5_readTest_99 (by decide) c21 ?_
                refine mr_aload_n (pc' := 141) dX5_readTest_140 rfl rfl ?_
                refine mr_tget (pc' := 144) rfl dX5_readTest_141 rfl ?_
                refine mr_iload (pc' := 146) dX5_readTest_144 rfl rfl ?_
                obtain ⟨a22, g23, h24⟩ := Option.bind_eq_some_iff.mp h18
                refine mr_tald (pc' := 147) dX5_readTest_146 rfl g23 ?_
                obtain ⟨q25, g26, h27⟩ := Option.bind_eq_some_iff.mp h24
                refine mr_cv (pc' := 150) (a := 38) (d1 := 1) dX5_readTest_147 rfl rfl rfl rfl rfl rfl (by decide) rfl (by decide) (ok_X5_settle hR  g26) ?_
                show mr X _ _ 150 _ [] (MM RR q25) _
                refine mr_aload_n (pc' := 151) dX5_readTest_150 rfl rfl ?_
                refine mr_iload (pc' := 153) dX5_readTest_151 rfl rfl ?_
                obtain ⟨q28, g29, h30⟩ := Option.bind_eq_some_iff.mp h27
                refine mr_cv (pc' := 156) (a := 38) (d1 := 0) dX5_readTest_153 rfl rfl rfl rfl rfl rfl (by decide) rfl (by decide) (ok_X5_hold hR  g29) ?_
                show mr X _ _ 156 _ [] (MM RR q28) _
                refine mr_iinc (pc' := 159) (x' := (p3 + (1 : Int32))) (lv' := [(3, .int (p3 + (1 : Int32))), (1, .int (0 : Int32)), (4, .int q16.1), (0, .ref 38), (2, .int p2)]) dX5_readTest_156 rfl (by decide) rfl rfl rfl ?_
                refine mr_goto (t := 21) dX5_readTest_159 (by decide) ?_
                exact mr_sub [(0, .ref 38), (1, .int (0 : Int32)), (2, .int p2), (3, .int (p3 + (1 : Int32)))] ⟨rfl, rfl, rfl, rfl, trivial⟩ rfl (ih _ _ _ _  h30)
              · rw [if_neg c21] at h18
                refine mr_if_ge_f (t := 140) (pc' := 102) dX5_readTest_99 (by decide) rfl c21 ?_
                refine mr_aload_n (pc' := 103) dX5_readTest_102 rfl rfl ?_
                obtain ⟨q31, g32, h33⟩ := Option.bind_eq_some_iff.mp h18
                refine mr_cv (pc' := 106) (a := 38) (d1 := 2) dX5_readTest_103 rfl rfl rfl rfl rfl rfl (by decide) rfl (by decide) (ok_X5_takeComparing hR  g32) ?_
                show mr X _ _ 106 _ [.int q31.1] (MM RR q31.2) _
                refine mr_istore (pc' := 108) (lv' := [(4, .int q31.1), (1, .int (0 : Int32)), (0, .ref 38), (2, .int p2), (3, .int p3)]) dX5_readTest_106 rfl (by decide) rfl ?_
                refine mr_iload (pc' := 110) dX5_readTest_108 rfl rfl ?_
                by_cases c34 : (0 : Int32) ≤ q31.1
                · rw [if_pos c34] at h33
                  refine mr_if_ge_t (t := 129) dX5_readTest_110 (by decide) c34 ?_
                  refine mr_aload_n (pc' := 130) dX5_readTest_129 rfl rfl ?_
                  obtain ⟨q35, g36, h37⟩ := Option.bind_eq_some_iff.mp h33
                  refine mr_cv (pc' := 133) (a := 38) (d1 := 1) dX5_readTest_130 rfl rfl rfl rfl rfl rfl (by decide) rfl (by decide) (ok_X5_isRoomForOne hR  g36) ?_
                  show mr X _ _ 133 _ [.int q35.1] (MM RR q35.2) _
                  by_cases c38 : q35.1 = (0 : Int32)
                  · rw [if_pos c38] at h37
                    refine mr_if_ne_f (t := 138) (pc' := 136) dX5_readTest_133 (by decide) rfl (not_not_intro c38) ?_
                    refine mr_iconst (pc' := 137) (v := (0 : Int32)) dX5_readTest_136 rfl (by decide) ?_
                    obtain rfl := Option.some.inj h37
                    exact mr_zreturn dX5_readTest_137 rfl (by decide)
                  · rw [if_neg c38] at h37
                    refine mr_if_ne_t (t := 138) dX5_readTest_133 (by decide) c38 ?_
                    refine mr_iconst (pc' := 139) (v := (1 : Int32)) dX5_readTest_138 rfl (by decide) ?_
                    refine mr_istore_n (pc' := 140) (lv' := [(2, .int (1 : Int32)), (4, .int q31.1), (1, .int (0 : Int32)), (0, .ref 38), (3, .int p3)]) dX5_readTest_139 rfl (by decide) rfl ?_
                    refine mr_aload_n (pc' := 141) dX5_readTest_140 rfl rfl ?_
                    refine mr_tget (pc' := 144) rfl dX5_readTest_141 rfl ?_
                    refine mr_iload (pc' := 146) dX5_readTest_144 rfl rfl ?_
                    obtain ⟨a39, g40, h41⟩ := Option.bind_eq_some_iff.mp h37
                    refine mr_tald (pc' := 147) dX5_readTest_146 rfl g40 ?_
                    obtain ⟨q42, g43, h44⟩ := Option.bind_eq_some_iff.mp h41
                    refine mr_cv (pc' := 150) (a := 38) (d1 := 1) dX5_readTest_147 rfl rfl rfl rfl rfl rfl (by decide) rfl (by decide) (ok_X5_settle hR  g43) ?_
                    show mr X _ _ 150 _ [] (MM RR q42) _
                    refine mr_aload_n (pc' := 151) dX5_readTest_150 rfl rfl ?_
                    refine mr_iload (pc' := 153) dX5_readTest_151 rfl rfl ?_
                    obtain ⟨q45, g46, h47⟩ := Option.bind_eq_some_iff.mp h44
                    refine mr_cv (pc' := 156) (a := 38) (d1 := 0) dX5_readTest_153 rfl rfl rfl rfl rfl rfl (by decide) rfl (by decide) (ok_X5_hold hR  g46) ?_
                    show mr X _ _ 156 _ [] (MM RR q45) _
                    refine mr_iinc (pc' := 159) (x' := (p3 + (1 : Int32))) (lv' := [(3, .int (p3 + (1 : Int32))), (2, .int (1 : Int32)), (4, .int q31.1), (1, .int (0 : Int32)), (0, .ref 38)]) dX5_readTest_156 rfl (by decide) rfl rfl rfl ?_
                    refine mr_goto (t := 21) dX5_readTest_159 (by decide) ?_
                    exact mr_sub [(0, .ref 38), (1, .int (0 : Int32)), (2, .int (1 : Int32)), (3, .int (p3 + (1 : Int32)))] ⟨rfl, rfl, rfl, rfl, trivial⟩ rfl (ih _ _ _ _  h47)
                · rw [if_neg c34] at h33
                  refine mr_if_ge_f (t := 129) (pc' := 113) dX5_readTest_110 (by decide) rfl c34 ?_
                  refine mr_aload_n (pc' := 114) dX5_readTest_113 rfl rfl ?_
                  refine mr_getR (pc' := 117) (ci := 5) (j := 0) (b := 1) hR dX5_readTest_114 rfl rfl rfl (by decide) (by decide) (by decide) rfl rfl ?_
                  refine mr_aload_n (pc' := 118) dX5_readTest_117 rfl rfl ?_
                  refine mr_getR (pc' := 121) (ci := 5) (j := 0) (b := 1) hR dX5_readTest_118 rfl rfl rfl (by decide) (by decide) (by decide) rfl rfl ?_
                  refine mr_getI (pc' := 124) (ci := 7) (j := 2) dX5_readTest_121 rfl rfl rfl (by decide) (by decide) rfl ?_
                  refine mr_iconst (pc' := 125) (v := (0 : Int32)) dX5_readTest_124 rfl (by decide) ?_
                  obtain ⟨q48, g49, h50⟩ := Option.bind_eq_some_iff.mp h33
                  refine mr_cv (pc' := 128) (a := 1) (d1 := 0) dX5_readTest_125 rfl rfl rfl rfl rfl rfl (by decide) rfl (by decide) (ok_X7_fail hR  g49) ?_
                  show mr X _ _ 128 _ [.int q48.1] (MM RR q48.2) _
                  obtain ⟨z51, g52, h53⟩ := Option.bind_eq_some_iff.mp h50
                  obtain ⟨g54, e55⟩ := mm_ifs g52
                  cases e55
                  cases h53
                  exact mr_zreturn dX5_readTest_128 rfl g54
            · rw [if_neg c20] at h18
              refine mr_if_eq_f (t := 97) (pc' := 77) dX5_readTest_74 (by decide) rfl c20 ?_
              refine mr_aload_n (pc' := 78) dX5_readTest_77 rfl rfl ?_
              obtain ⟨q56, g57, h58⟩ := Option.bind_eq_some_iff.mp h18
              refine mr_cv (pc' := 81) (a := 38) (d1 := 2) dX5_readTest_78 rfl rfl rfl rfl rfl rfl (by decide) rfl (by decide) (ok_X5_closeBrackets hR  g57) ?_
              show mr X _ _ 81 _ [] (MM RR q56) _
              refine mr_aload_n (pc' := 82) dX5_readTest_81 rfl rfl ?_
              obtain ⟨q59, g60, h61⟩ := Option.bind_eq_some_iff.mp h58
              refine mr_cv (pc' := 85) (a := 38) (d1 := 5) dX5_readTest_82 rfl rfl rfl rfl rfl rfl (by decide) rfl (by decide) (ok_X5_takeJoining hR  g60) ?_
              show mr X _ _ 85 _ [.int q59.1] (MM RR q59.2) _
              refine mr_istore (pc' := 87) (lv' := [(4, .int q59.1), (1, .int (0 : Int32)), (0, .ref 38), (2, .int p2), (3, .int p3)]) dX5_readTest_85 rfl (by decide) rfl ?_
              refine mr_iload (pc' := 89) dX5_readTest_87 rfl rfl ?_
              by_cases c62 : (0 : Int32) ≤ q59.1
              · rw [if_pos c62] at h61
                refine mr_if_ge_t (t := 140) dX5_readTest_89 (by decide) c62 ?_
                refine mr_aload_n (pc' := 141) dX5_readTest_140 rfl rfl ?_
                refine mr_tget (pc' := 144) rfl dX5_readTest_141 rfl ?_
                refine mr_iload (pc' := 146) dX5_readTest_144 rfl rfl ?_
                obtain ⟨a63, g64, h65⟩ := Option.bind_eq_some_iff.mp h61
                refine mr_tald (pc' := 147) dX5_readTest_146 rfl g64 ?_
                obtain ⟨q66, g67, h68⟩ := Option.bind_eq_some_iff.mp h65
                refine mr_cv (pc' := 150) (a := 38) (d1 := 1) dX5_readTest_147 rfl rfl rfl rfl rfl rfl (by decide) rfl (by decide) (ok_X5_settle hR  g67) ?_
                show mr X _ _ 150 _ [] (MM RR q66) _
                refine mr_aload_n (pc' := 151) dX5_readTest_150 rfl rfl ?_
                refine mr_iload (pc' := 153) dX5_readTest_151 rfl rfl ?_
                obtain ⟨q69, g70, h71⟩ := Option.bind_eq_some_iff.mp h68
                refine mr_cv (pc' := 156) (a := 38) (d1 := 0) dX5_readTest_153 rfl rfl rfl rfl rfl rfl (by decide) rfl (by decide) (ok_X5_hold hR  g70) ?_
                show mr X _ _ 156 _ [] (MM RR q69) _
                refine mr_iinc (pc' := 159) (x' := (p3 + (1 : Int32))) (lv' := [(3, .int (p3 + (1 : Int32))), (4, .int q59.1), (1, .int (0 : Int32)), (0, .ref 38), (2, .int p2)]) dX5_readTest_156 rfl (by decide) rfl rfl rfl ?_
                refine mr_goto (t := 21) dX5_readTest_159 (by decide) ?_
                exact mr_sub [(0, .ref 38), (1, .int (0 : Int32)), (2, .int p2), (3, .int (p3 + (1 : Int32)))] ⟨rfl, rfl, rfl, rfl, trivial⟩ rfl (ih _ _ _ _  h71)
              · rw [if_neg c62] at h61
                refine mr_if_ge_f (t := 140) (pc' := 92) dX5_readTest_89 (by decide) rfl c62 ?_
                refine mr_aload_n (pc' := 93) dX5_readTest_92 rfl rfl ?_
                obtain ⟨q72, g73, h74⟩ := Option.bind_eq_some_iff.mp h61
                refine mr_cv (pc' := 96) (a := 38) (d1 := 2) dX5_readTest_93 rfl rfl rfl rfl rfl rfl (by decide) rfl (by decide) (ok_X5_isTestOver hR  g73) ?_
                show mr X _ _ 96 _ [.int q72.1] (MM RR q72.2) _
                obtain ⟨z75, g76, h77⟩ := Option.bind_eq_some_iff.mp h74
                obtain ⟨g78, e79⟩ := mm_ifs g76
                cases e79
                cases h77
                exact mr_zreturn dX5_readTest_96 rfl g78
          · rw [if_neg c19] at h18
            refine mr_if_ge_f (t := 71) (pc' := 63) dX5_readTest_60 (by decide) rfl c19 ?_
            refine mr_iload_n (pc' := 64) dX5_readTest_63 rfl rfl ?_
            by_cases c80 : p2 = (0 : Int32)
            · rw [if_pos c80] at h18
              refine mr_if_eq_t (t := 71) dX5_readTest_64 (by decide) c80 ?_
              refine mr_iconst (pc' := 72) (v := (0 : Int32)) dX5_readTest_71 rfl (by decide) ?_
              refine mr_istore_n (pc' := 73) (lv' := [(1, .int (0 : Int32)), (4, .int q16.1), (0, .ref 38), (2, .int p2), (3, .int p3)]) dX5_readTest_72 rfl (by decide) rfl ?_
              refine mr_iload_n (pc' := 74) dX5_readTest_73 rfl rfl ?_
              by_cases c81 : (0 : Int32) = (0 : Int32)
              · rw [if_pos c81] at h18
                refine mr_if_eq_t (t := 97) dX5_readTest_74 (by decide) c81 ?_
                refine mr_iload (pc' := 99) dX5_readTest_97 rfl rfl ?_
                by_cases c82 : (0 : Int32) ≤ q16.1
                · rw [if_pos c82] at h18
                  refine mr_if_ge_t (t := 140) dX5_readTest_99 (by decide) c82 ?_
                  refine mr_aload_n (pc' := 141) dX5_readTest_140 rfl rfl ?_
                  refine mr_tget (pc' := 144) rfl dX5_readTest_141 rfl ?_
                  refine mr_iload (pc' := 146) dX5_readTest_144 rfl rfl ?_
                  obtain ⟨a83, g84, h85⟩ := Option.bind_eq_some_iff.mp h18
                  refine mr_tald (pc' := 147) dX5_readTest_146 rfl g84 ?_
                  obtain ⟨q86, g87, h88⟩ := Option.bind_eq_some_iff.mp h85
                  refine mr_cv (pc' := 150) (a := 38) (d1 := 1) dX5_readTest_147 rfl rfl rfl rfl rfl rfl (by decide) rfl (by decide) (ok_X5_settle hR  g87) ?_
                  show mr X _ _ 150 _ [] (MM RR q86) _
                  refine mr_aload_n (pc' := 151) dX5_readTest_150 rfl rfl ?_
                  refine mr_iload (pc' := 153) dX5_readTest_151 rfl rfl ?_
                  obtain ⟨q89, g90, h91⟩ := Option.bind_eq_some_iff.mp h88
                  refine mr_cv (pc' := 156) (a := 38) (d1 := 0) dX5_readTest_153 rfl rfl rfl rfl rfl rfl (by decide) rfl (by decide) (ok_X5_hold hR  g90) ?_
                  show mr X _ _ 156 _ [] (MM RR q89) _
                  refine mr_iinc (pc' := 159) (x' := (p3 + (1 : Int32))) (lv' := [(3, .int (p3 + (1 : Int32))), (1, .int (0 : Int32)), (4, .int q16.1), (0, .ref 38), (2, .int p2)]) dX5_readTest_156 rfl (by decide) rfl rfl rfl ?_
                  refine mr_goto (t := 21) dX5_readTest_159 (by decide) ?_
                  exact mr_sub [(0, .ref 38), (1, .int (0 : Int32)), (2, .int p2), (3, .int (p3 + (1 : Int32)))] ⟨rfl, rfl, rfl, rfl, trivial⟩ rfl (ih _ _ _ _  h91)
                · rw [if_neg c82] at h18
                  refine mr_if_ge_f (t := 140) (pc' := 102) dX5_readTest_99 (by decide) rfl c82 ?_
                  refine mr_aload_n (pc' := 103) dX5_readTest_102 rfl rfl ?_
                  obtain ⟨q92, g93, h94⟩ := Option.bind_eq_some_iff.mp h18
                  refine mr_cv (pc' := 106) (a := 38) (d1 := 2) dX5_readTest_103 rfl rfl rfl rfl rfl rfl (by decide) rfl (by decide) (ok_X5_takeComparing hR  g93) ?_
                  show mr X _ _ 106 _ [.int q92.1] (MM RR q92.2) _
                  refine mr_istore (pc' := 108) (lv' := [(4, .int q92.1), (1, .int (0 : Int32)), (0, .ref 38), (2, .int p2), (3, .int p3)]) dX5_readTest_106 rfl (by decide) rfl ?_
                  refine mr_iload (pc' := 110) dX5_readTest_108 rfl rfl ?_
                  by_cases c95 : (0 : Int32) ≤ q92.1
                  · rw [if_pos c95] at h94
                    refine mr_if_ge_t (t := 129) dX5_readTest_110 (by decide) c95 ?_
                    refine mr_aload_n (pc' := 130) dX5_readTest_129 rfl rfl ?_
                    obtain ⟨q96, g97, h98⟩ := Option.bind_eq_some_iff.mp h94
                    refine mr_cv (pc' := 133) (a := 38) (d1 := 1) dX5_readTest_130 rfl rfl rfl rfl rfl rfl (by decide) rfl (by decide) (ok_X5_isRoomForOne hR  g97) ?_
                    show mr X _ _ 133 _ [.int q96.1] (MM RR q96.2) _
                    by_cases c99 : q96.1 = (0 : Int32)
                    · rw [if_pos c99] at h98
                      refine mr_if_ne_f (t := 138) (pc' := 136) dX5_readTest_133 (by decide) rfl (not_not_intro c99) ?_
                      refine mr_iconst (pc' := 137) (v := (0 : Int32)) dX5_readTest_136 rfl (by decide) ?_
                      obtain rfl := Option.some.inj h98
                      exact mr_zreturn dX5_readTest_137 rfl (by decide)
                    · rw [if_neg c99] at h98
                      refine mr_if_ne_t (t := 138) dX5_readTest_133 (by decide) c99 ?_
                      refine mr_iconst (pc' := 139) (v := (1 : Int32)) dX5_readTest_138 rfl (by decide) ?_
                      refine mr_istore_n (pc' := 140) (lv' := [(2, .int (1 : Int32)), (4, .int q92.1), (1, .int (0 : Int32)), (0, .ref 38), (3, .int p3)]) dX5_readTest_139 rfl (by decide) rfl ?_
                      refine mr_aload_n (pc' := 141) dX5_readTest_140 rfl rfl ?_
                      refine mr_tget (pc' := 144) rfl dX5_readTest_141 rfl ?_
                      refine mr_iload (pc' := 146) dX5_readTest_144 rfl rfl ?_
                      obtain ⟨a100, g101, h102⟩ := Option.bind_eq_some_iff.mp h98
                      refine mr_tald (pc' := 147) dX5_readTest_146 rfl g101 ?_
                      obtain ⟨q103, g104, h105⟩ := Option.bind_eq_some_iff.mp h102
                      refine mr_cv (pc' := 150) (a := 38) (d1 := 1) dX5_readTest_147 rfl rfl rfl rfl rfl rfl (by decide) rfl (by decide) (ok_X5_settle hR  g104) ?_
                      show mr X _ _ 150 _ [] (MM RR q103) _
                      refine mr_aload_n (pc' := 151) dX5_readTest_150 rfl rfl ?_
                      refine mr_iload (pc' := 153) dX5_readTest_151 rfl rfl ?_
                      obtain ⟨q106, g107, h108⟩ := Option.bind_eq_some_iff.mp h105
                      refine mr_cv (pc' := 156) (a := 38) (d1 := 0) dX5_readTest_153 rfl rfl rfl rfl rfl rfl (by decide) rfl (by decide) (ok_X5_hold hR  g107) ?_
                      show mr X _ _ 156 _ [] (MM RR q106) _
                      refine mr_iinc (pc' := 159) (x' := (p3 + (1 : Int32))) (lv' := [(3, .int (p3 + (1 : Int32))), (2, .int (1 : Int32)), (4, .int q92.1), (1, .int (0 : Int32)), (0, .ref 38)]) dX5_readTest_156 rfl (by decide) rfl rfl rfl ?_
                      refine mr_goto (t := 21) dX5_readTest_159 (by decide) ?_
                      exact mr_sub [(0, .ref 38), (1, .int (0 : Int32)), (2, .int (1 : Int32)), (3, .int (p3 + (1 : Int32)))] ⟨rfl, rfl, rfl, rfl, trivial⟩ rfl (ih _ _ _ _  h108)
                  · rw [if_neg c95] at h94
                    refine mr_if_ge_f (t := 129) (pc' := 113) dX5_readTest_110 (by decide) rfl c95 ?_
                    refine mr_aload_n (pc' := 114) dX5_readTest_113 rfl rfl ?_
                    refine mr_getR (pc' := 117) (ci := 5) (j := 0) (b := 1) hR dX5_readTest_114 rfl rfl rfl (by decide) (by decide) (by decide) rfl rfl ?_
                    refine mr_aload_n (pc' := 118) dX5_readTest_117 rfl rfl ?_
                    refine mr_getR (pc' := 121) (ci := 5) (j := 0) (b := 1) hR dX5_readTest_118 rfl rfl rfl (by decide) (by decide) (by decide) rfl rfl ?_
                    refine mr_getI (pc' := 124) (ci := 7) (j := 2) dX5_readTest_121 rfl rfl rfl (by decide) (by decide) rfl ?_
                    refine mr_iconst (pc' := 125) (v := (0 : Int32)) dX5_readTest_124 rfl (by decide) ?_
                    obtain ⟨q109, g110, h111⟩ := Option.bind_eq_some_iff.mp h94
                    refine mr_cv (pc' := 128) (a := 1) (d1 := 0) dX5_readTest_125 rfl rfl rfl rfl rfl rfl (by decide) rfl (by decide) (ok_X7_fail hR  g110) ?_
                    show mr X _ _ 128 _ [.int q109.1] (MM RR q109.2) _
                    obtain ⟨z112, g113, h114⟩ := Option.bind_eq_some_iff.mp h111
                    obtain ⟨g115, e116⟩ := mm_ifs g113
                    cases e116
                    cases h114
                    exact mr_zreturn dX5_readTest_128 rfl g115
              · rw [if_neg c81] at h18
                refine mr_if_eq_f (t := 97) (pc' := 77) dX5_readTest_74 (by decide) rfl c81 ?_
                refine mr_aload_n (pc' := 78) dX5_readTest_77 rfl rfl ?_
                obtain ⟨q117, g118, h119⟩ := Option.bind_eq_some_iff.mp h18
                refine mr_cv (pc' := 81) (a := 38) (d1 := 2) dX5_readTest_78 rfl rfl rfl rfl rfl rfl (by decide) rfl (by decide) (ok_X5_closeBrackets hR  g118) ?_
                show mr X _ _ 81 _ [] (MM RR q117) _
                refine mr_aload_n (pc' := 82) dX5_readTest_81 rfl rfl ?_
                obtain ⟨q120, g121, h122⟩ := Option.bind_eq_some_iff.mp h119
                refine mr_cv (pc' := 85) (a := 38) (d1 := 5) dX5_readTest_82 rfl rfl rfl rfl rfl rfl (by decide) rfl (by decide) (ok_X5_takeJoining hR  g121) ?_
                show mr X _ _ 85 _ [.int q120.1] (MM RR q120.2) _
                refine mr_istore (pc' := 87) (lv' := [(4, .int q120.1), (1, .int (0 : Int32)), (0, .ref 38), (2, .int p2), (3, .int p3)]) dX5_readTest_85 rfl (by decide) rfl ?_
                refine mr_iload (pc' := 89) dX5_readTest_87 rfl rfl ?_
                by_cases c123 : (0 : Int32) ≤ q120.1
                · rw [if_pos c123] at h122
                  refine mr_if_ge_t (t := 140) dX5_readTest_89 (by decide) c123 ?_
                  refine mr_aload_n (pc' := 141) dX5_readTest_140 rfl rfl ?_
                  refine mr_tget (pc' := 144) rfl dX5_readTest_141 rfl ?_
                  refine mr_iload (pc' := 146) dX5_readTest_144 rfl rfl ?_
                  obtain ⟨a124, g125, h126⟩ := Option.bind_eq_some_iff.mp h122
                  refine mr_tald (pc' := 147) dX5_readTest_146 rfl g125 ?_
                  obtain ⟨q127, g128, h129⟩ := Option.bind_eq_some_iff.mp h126
                  refine mr_cv (pc' := 150) (a := 38) (d1 := 1) dX5_readTest_147 rfl rfl rfl rfl rfl rfl (by decide) rfl (by decide) (ok_X5_settle hR  g128) ?_
                  show mr X _ _ 150 _ [] (MM RR q127) _
                  refine mr_aload_n (pc' := 151) dX5_readTest_150 rfl rfl ?_
                  refine mr_iload (pc' := 153) dX5_readTest_151 rfl rfl ?_
                  obtain ⟨q130, g131, h132⟩ := Option.bind_eq_some_iff.mp h129
                  refine mr_cv (pc' := 156) (a := 38) (d1 := 0) dX5_readTest_153 rfl rfl rfl rfl rfl rfl (by decide) rfl (by decide) (ok_X5_hold hR  g131) ?_
                  show mr X _ _ 156 _ [] (MM RR q130) _
                  refine mr_iinc (pc' := 159) (x' := (p3 + (1 : Int32))) (lv' := [(3, .int (p3 + (1 : Int32))), (4, .int q120.1), (1, .int (0 : Int32)), (0, .ref 38), (2, .int p2)]) dX5_readTest_156 rfl (by decide) rfl rfl rfl ?_
                  refine mr_goto (t := 21) dX5_readTest_159 (by decide) ?_
                  exact mr_sub [(0, .ref 38), (1, .int (0 : Int32)), (2, .int p2), (3, .int (p3 + (1 : Int32)))] ⟨rfl, rfl, rfl, rfl, trivial⟩ rfl (ih _ _ _ _  h132)
                · rw [if_neg c123] at h122
                  refine mr_if_ge_f (t := 140) (pc' := 92) dX5_readTest_89 (by decide) rfl c123 ?_
                  refine mr_aload_n (pc' := 93) dX5_readTest_92 rfl rfl ?_
                  obtain ⟨q133, g134, h135⟩ := Option.bind_eq_some_iff.mp h122
                  refine mr_cv (pc' := 96) (a := 38) (d1 := 2) dX5_readTest_93 rfl rfl rfl rfl rfl rfl (by decide) rfl (by decide) (ok_X5_isTestOver hR  g134) ?_
                  show mr X _ _ 96 _ [.int q133.1] (MM RR q133.2) _
                  obtain ⟨z136, g137, h138⟩ := Option.bind_eq_some_iff.mp h135
                  obtain ⟨g139, e140⟩ := mm_ifs g137
                  cases e140
                  cases h138
                  exact mr_zreturn dX5_readTest_96 rfl g139
            · rw [if_neg c80] at h18
              refine mr_if_eq_f (t := 71) (pc' := 67) dX5_readTest_64 (by decide) rfl c80 ?_
              refine mr_iconst (pc' := 68) (v := (1 : Int32)) dX5_readTest_67 rfl (by decide) ?_
              refine mr_goto (t := 72) dX5_readTest_68 (by decide) ?_
              refine mr_istore_n (pc' := 73) (lv' := [(1, .int (1 : Int32)), (4, .int q16.1), (0, .ref 38), (2, .int p2), (3, .int p3)]) dX5_readTest_72 rfl (by decide) rfl ?_
              refine mr_iload_n (pc' := 74) dX5_readTest_73 rfl rfl ?_
              by_cases c141 : (1 : Int32) = (0 : Int32)
              · rw [if_pos c141] at h18
                refine mr_if_eq_t (t := 97) dX5_readTest_74 (by decide) c141 ?_
                refine mr_iload (pc' := 99) dX5_readTest_97 rfl rfl ?_
                by_cases c142 : (0 : Int32) ≤ q16.1
                · rw [if_pos c142] at h18
                  refine mr_if_ge_t (t := 140) dX5_readTest_99 (by decide) c142 ?_
                  refine mr_aload_n (pc' := 141) dX5_readTest_140 rfl rfl ?_
                  refine mr_tget (pc' := 144) rfl dX5_readTest_141 rfl ?_
                  refine mr_iload (pc' := 146) dX5_readTest_144 rfl rfl ?_
                  obtain ⟨a143, g144, h145⟩ := Option.bind_eq_some_iff.mp h18
                  refine mr_tald (pc' := 147) dX5_readTest_146 rfl g144 ?_
                  obtain ⟨q146, g147, h148⟩ := Option.bind_eq_some_iff.mp h145
                  refine mr_cv (pc' := 150) (a := 38) (d1 := 1) dX5_readTest_147 rfl rfl rfl rfl rfl rfl (by decide) rfl (by decide) (ok_X5_settle hR  g147) ?_
                  show mr X _ _ 150 _ [] (MM RR q146) _
                  refine mr_aload_n (pc' := 151) dX5_readTest_150 rfl rfl ?_
                  refine mr_iload (pc' := 153) dX5_readTest_151 rfl rfl ?_
                  obtain ⟨q149, g150, h151⟩ := Option.bind_eq_some_iff.mp h148
                  refine mr_cv (pc' := 156) (a := 38) (d1 := 0) dX5_readTest_153 rfl rfl rfl rfl rfl rfl (by decide) rfl (by decide) (ok_X5_hold hR  g150) ?_
                  show mr X _ _ 156 _ [] (MM RR q149) _
                  refine mr_iinc (pc' := 159) (x' := (p3 + (1 : Int32))) (lv' := [(3, .int (p3 + (1 : Int32))), (1, .int (1 : Int32)), (4, .int q16.1), (0, .ref 38), (2, .int p2)]) dX5_readTest_156 rfl (by decide) rfl rfl rfl ?_
                  refine mr_goto (t := 21) dX5_readTest_159 (by decide) ?_
                  exact mr_sub [(0, .ref 38), (1, .int (1 : Int32)), (2, .int p2), (3, .int (p3 + (1 : Int32)))] ⟨rfl, rfl, rfl, rfl, trivial⟩ rfl (ih _ _ _ _  h151)
                · rw [if_neg c142] at h18
                  refine mr_if_ge_f (t := 140) (pc' := 102) dX5_readTest_99 (by decide) rfl c142 ?_
                  refine mr_aload_n (pc' := 103) dX5_readTest_102 rfl rfl ?_
                  obtain ⟨q152, g153, h154⟩ := Option.bind_eq_some_iff.mp h18
                  refine mr_cv (pc' := 106) (a := 38) (d1 := 2) dX5_readTest_103 rfl rfl rfl rfl rfl rfl (by decide) rfl (by decide) (ok_X5_takeComparing hR  g153) ?_
                  show mr X _ _ 106 _ [.int q152.1] (MM RR q152.2) _
                  refine mr_istore (pc' := 108) (lv' := [(4, .int q152.1), (1, .int (1 : Int32)), (0, .ref 38), (2, .int p2), (3, .int p3)]) dX5_readTest_106 rfl (by decide) rfl ?_
                  refine mr_iload (pc' := 110) dX5_readTest_108 rfl rfl ?_
                  by_cases c155 : (0 : Int32) ≤ q152.1
                  · rw [if_pos c155] at h154
                    refine mr_if_ge_t (t := 129) dX5_readTest_110 (by decide) c155 ?_
                    refine mr_aload_n (pc' := 130) dX5_readTest_129 rfl rfl ?_
                    obtain ⟨q156, g157, h158⟩ := Option.bind_eq_some_iff.mp h154
                    refine mr_cv (pc' := 133) (a := 38) (d1 := 1) dX5_readTest_130 rfl rfl rfl rfl rfl rfl (by decide) rfl (by decide) (ok_X5_isRoomForOne hR  g157) ?_
                    show mr X _ _ 133 _ [.int q156.1] (MM RR q156.2) _
                    by_cases c159 : q156.1 = (0 : Int32)
                    · rw [if_pos c159] at h158
                      refine mr_if_ne_f (t := 138) (pc' := 136) dX5_readTest_133 (by decide) rfl (not_not_intro c159) ?_
                      refine mr_iconst (pc' := 137) (v := (0 : Int32)) dX5_readTest_136 rfl (by decide) ?_
                      obtain rfl := Option.some.inj h158
                      exact mr_zreturn dX5_readTest_137 rfl (by decide)
                    · rw [if_neg c159] at h158
                      refine mr_if_ne_t (t := 138) dX5_readTest_133 (by decide) c159 ?_
                      refine mr_iconst (pc' := 139) (v := (1 : Int32)) dX5_readTest_138 rfl (by decide) ?_
                      refine mr_istore_n (pc' := 140) (lv' := [(2, .int (1 : Int32)), (4, .int q152.1), (1, .int (1 : Int32)), (0, .ref 38), (3, .int p3)]) dX5_readTest_139 rfl (by decide) rfl ?_
                      refine mr_aload_n (pc' := 141) dX5_readTest_140 rfl rfl ?_
                      refine mr_tget (pc' := 144) rfl dX5_readTest_141 rfl ?_
                      refine mr_iload (pc' := 146) dX5_readTest_144 rfl rfl ?_
                      obtain ⟨a160, g161, h162⟩ := Option.bind_eq_some_iff.mp h158
                      refine mr_tald (pc' := 147) dX5_readTest_146 rfl g161 ?_
                      obtain ⟨q163, g164, h165⟩ := Option.bind_eq_some_iff.mp h162
                      refine mr_cv (pc' := 150) (a := 38) (d1 := 1) dX5_readTest_147 rfl rfl rfl rfl rfl rfl (by decide) rfl (by decide) (ok_X5_settle hR  g164) ?_
                      show mr X _ _ 150 _ [] (MM RR q163) _
                      refine mr_aload_n (pc' := 151) dX5_readTest_150 rfl rfl ?_
                      refine mr_iload (pc' := 153) dX5_readTest_151 rfl rfl ?_
                      obtain ⟨q166, g167, h168⟩ := Option.bind_eq_some_iff.mp h165
                      refine mr_cv (pc' := 156) (a := 38) (d1 := 0) dX5_readTest_153 rfl rfl rfl rfl rfl rfl (by decide) rfl (by decide) (ok_X5_hold hR  g167) ?_
                      show mr X _ _ 156 _ [] (MM RR q166) _
                      refine mr_iinc (pc' := 159) (x' := (p3 + (1 : Int32))) (lv' := [(3, .int (p3 + (1 : Int32))), (2, .int (1 : Int32)), (4, .int q152.1), (1, .int (1 : Int32)), (0, .ref 38)]) dX5_readTest_156 rfl (by decide) rfl rfl rfl ?_
                      refine mr_goto (t := 21) dX5_readTest_159 (by decide) ?_
                      exact mr_sub [(0, .ref 38), (1, .int (1 : Int32)), (2, .int (1 : Int32)), (3, .int (p3 + (1 : Int32)))] ⟨rfl, rfl, rfl, rfl, trivial⟩ rfl (ih _ _ _ _  h168)
                  · rw [if_neg c155] at h154
                    refine mr_if_ge_f (t := 129) (pc' := 113) dX5_readTest_110 (by decide) rfl c155 ?_
                    refine mr_aload_n (pc' := 114) dX5_readTest_113 rfl rfl ?_
                    refine mr_getR (pc' := 117) (ci := 5) (j := 0) (b := 1) hR dX5_readTest_114 rfl rfl rfl (by decide) (by decide) (by decide) rfl rfl ?_
                    refine mr_aload_n (pc' := 118) dX5_readTest_117 rfl rfl ?_
                    refine mr_getR (pc' := 121) (ci := 5) (j := 0) (b := 1) hR dX5_readTest_118 rfl rfl rfl (by decide) (by decide) (by decide) rfl rfl ?_
                    refine mr_getI (pc' := 124) (ci := 7) (j := 2) dX5_readTest_121 rfl rfl rfl (by decide) (by decide) rfl ?_
                    refine mr_iconst (pc' := 125) (v := (0 : Int32)) dX5_readTest_124 rfl (by decide) ?_
                    obtain ⟨q169, g170, h171⟩ := Option.bind_eq_some_iff.mp h154
                    refine mr_cv (pc' := 128) (a := 1) (d1 := 0) dX5_readTest_125 rfl rfl rfl rfl rfl rfl (by decide) rfl (by decide) (ok_X7_fail hR  g170) ?_
                    show mr X _ _ 128 _ [.int q169.1] (MM RR q169.2) _
                    obtain ⟨z172, g173, h174⟩ := Option.bind_eq_some_iff.mp h171
                    obtain ⟨g175, e176⟩ := mm_ifs g173
                    cases e176
                    cases h174
                    exact mr_zreturn dX5_readTest_128 rfl g175
              · rw [if_neg c141] at h18
                refine mr_if_eq_f (t := 97) (pc' := 77) dX5_readTest_74 (by decide) rfl c141 ?_
                refine mr_aload_n (pc' := 78) dX5_readTest_77 rfl rfl ?_
                obtain ⟨q177, g178, h179⟩ := Option.bind_eq_some_iff.mp h18
                refine mr_cv (pc' := 81) (a := 38) (d1 := 2) dX5_readTest_78 rfl rfl rfl rfl rfl rfl (by decide) rfl (by decide) (ok_X5_closeBrackets hR  g178) ?_
                show mr X _ _ 81 _ [] (MM RR q177) _
                refine mr_aload_n (pc' := 82) dX5_readTest_81 rfl rfl ?_
                obtain ⟨q180, g181, h182⟩ := Option.bind_eq_some_iff.mp h179
                refine mr_cv (pc' := 85) (a := 38) (d1 := 5) dX5_readTest_82 rfl rfl rfl rfl rfl rfl (by decide) rfl (by decide) (ok_X5_takeJoining hR  g181) ?_
                show mr X _ _ 85 _ [.int q180.1] (MM RR q180.2) _
                refine mr_istore (pc' := 87) (lv' := [(4, .int q180.1), (1, .int (1 : Int32)), (0, .ref 38), (2, .int p2), (3, .int p3)]) dX5_readTest_85 rfl (by decide) rfl ?_
                refine mr_iload (pc' := 89) dX5_readTest_87 rfl rfl ?_
                by_cases c183 : (0 : Int32) ≤ q180.1
                · rw [if_pos c183] at h182
                  refine mr_if_ge_t (t := 140) dX5_readTest_89 (by decide) c183 ?_
                  refine mr_aload_n (pc' := 141) dX5_readTest_140 rfl rfl ?_
                  refine mr_tget (pc' := 144) rfl dX5_readTest_141 rfl ?_
                  refine mr_iload (pc' := 146) dX5_readTest_144 rfl rfl ?_
                  obtain ⟨a184, g185, h186⟩ := Option.bind_eq_some_iff.mp h182
                  refine mr_tald (pc' := 147) dX5_readTest_146 rfl g185 ?_
                  obtain ⟨q187, g188, h189⟩ := Option.bind_eq_some_iff.mp h186
                  refine mr_cv (pc' := 150) (a := 38) (d1 := 1) dX5_readTest_147 rfl rfl rfl rfl rfl rfl (by decide) rfl (by decide) (ok_X5_settle hR  g188) ?_
                  show mr X _ _ 150 _ [] (MM RR q187) _
                  refine mr_aload_n (pc' := 151) dX5_readTest_150 rfl rfl ?_
                  refine mr_iload (pc' := 153) dX5_readTest_151 rfl rfl ?_
                  obtain ⟨q190, g191, h192⟩ := Option.bind_eq_some_iff.mp h189
                  refine mr_cv (pc' := 156) (a := 38) (d1 := 0) dX5_readTest_153 rfl rfl rfl rfl rfl rfl (by decide) rfl (by decide) (ok_X5_hold hR  g191) ?_
                  show mr X _ _ 156 _ [] (MM RR q190) _
                  refine mr_iinc (pc' := 159) (x' := (p3 + (1 : Int32))) (lv' := [(3, .int (p3 + (1 : Int32))), (4, .int q180.1), (1, .int (1 : Int32)), (0, .ref 38), (2, .int p2)]) dX5_readTest_156 rfl (by decide) rfl rfl rfl ?_
                  refine mr_goto (t := 21) dX5_readTest_159 (by decide) ?_
                  exact mr_sub [(0, .ref 38), (1, .int (1 : Int32)), (2, .int p2), (3, .int (p3 + (1 : Int32)))] ⟨rfl, rfl, rfl, rfl, trivial⟩ rfl (ih _ _ _ _  h192)
                · rw [if_neg c183] at h182
                  refine mr_if_ge_f (t := 140) (pc' := 92) dX5_readTest_89 (by decide) rfl c183 ?_
                  refine mr_aload_n (pc' := 93) dX5_readTest_92 rfl rfl ?_
                  obtain ⟨q193, g194, h195⟩ := Option.bind_eq_some_iff.mp h182
                  refine mr_cv (pc' := 96) (a := 38) (d1 := 2) dX5_readTest_93 rfl rfl rfl rfl rfl rfl (by decide) rfl (by decide) (ok_X5_isTestOver hR  g194) ?_
                  show mr X _ _ 96 _ [.int q193.1] (MM RR q193.2) _
                  obtain ⟨z196, g197, h198⟩ := Option.bind_eq_some_iff.mp h195
                  obtain ⟨g199, e200⟩ := mm_ifs g197
                  cases e200
                  cases h198
                  exact mr_zreturn dX5_readTest_96 rfl g199
      · rw [if_neg c11] at h
        refine mr_if_eq_f (t := 43) (pc' := 32) dX5_readTest_29 (by decide) rfl c11 ?_
        refine mr_iconst (pc' := 33) (v := (0 : Int32)) dX5_readTest_32 rfl (by decide) ?_
        refine mr_istore_n (pc' := 34) (lv' := [(2, .int (0 : Int32)), (0, .ref 38), (1, .int p1), (3, .int p3)]) dX5_readTest_33 rfl (by decide) rfl ?_
        refine mr_aload_n (pc' := 35) dX5_readTest_34 rfl rfl ?_
        obtain ⟨q201, g202, h203⟩ := Option.bind_eq_some_iff.mp h
        refine mr_cv (pc' := 38) (a := 38) (d1 := 5) dX5_readTest_35 rfl rfl rfl rfl rfl rfl (by decide) rfl (by decide) (ok_X5_readOpenings hR  g202) ?_
        show mr X _ _ 38 _ [.int q201.1] (MM RR q201.2) _
        by_cases c204 : q201.1 = (0 : Int32)
        · rw [if_pos c204] at h203
          refine mr_if_ne_f (t := 43) (pc' := 41) dX5_readTest_38 (by decide) rfl (not_not_intro c204) ?_
          refine mr_iconst (pc' := 42) (v := (0 : Int32)) dX5_readTest_41 rfl (by decide) ?_
          obtain rfl := Option.some.inj h203
          exact mr_zreturn dX5_readTest_42 rfl (by decide)
        · rw [if_neg c204] at h203
          refine mr_if_ne_t (t := 43) dX5_readTest_38 (by decide) c204 ?_
          refine mr_aload_n (pc' := 44) dX5_readTest_43 rfl rfl ?_
          obtain ⟨q205, g206, h207⟩ := Option.bind_eq_some_iff.mp h203
          refine mr_cv (pc' := 47) (a := 38) (d1 := 6) dX5_readTest_44 rfl rfl rfl rfl rfl rfl (by decide) rfl (by decide) (ok_X5_readValue hR  g206) ?_
          show mr X _ _ 47 _ [.int q205.1] (MM RR q205.2) _
          by_cases c208 : q205.1 = (0 : Int32)
          · rw [if_pos c208] at h207
            refine mr_if_ne_f (t := 52) (pc' := 50) dX5_readTest_47 (by decide) rfl (not_not_intro c208) ?_
            refine mr_iconst (pc' := 51) (v := (0 : Int32)) dX5_readTest_50 rfl (by decide) ?_
            obtain rfl := Option.some.inj h207
            exact mr_zreturn dX5_readTest_51 rfl (by decide)
          · rw [if_neg c208] at h207
            refine mr_if_ne_t (t := 52) dX5_readTest_47 (by decide) c208 ?_
            refine mr_aload_n (pc' := 53) dX5_readTest_52 rfl rfl ?_
            obtain ⟨q209, g210, h211⟩ := Option.bind_eq_some_iff.mp h207
            refine mr_cv (pc' := 56) (a := 38) (d1 := 2) dX5_readTest_53 rfl rfl rfl rfl rfl rfl (by decide) rfl (by decide) (ok_X5_takeReckoning hR  g210) ?_
            show mr X _ _ 56 _ [.int q209.1] (MM RR q209.2) _
            refine mr_istore (pc' := 58) (lv' := [(4, .int q209.1), (2, .int (0 : Int32)), (0, .ref 38), (1, .int p1), (3, .int p3)]) dX5_readTest_56 rfl (by decide) rfl ?_
            refine mr_iload (pc' := 60) dX5_readTest_58 rfl rfl ?_
            by_cases c212 : (0 : Int32) ≤ q209.1
            · rw [if_pos c212] at h211
              refine mr_if_ge_t (t := 71) dX5_readTest_60 (by decide) c212 ?_
              refine mr_iconst (pc' := 72) (v := (0 : Int32)) dX5_readTest_71 rfl (by decide) ?_
              refine mr_istore_n (pc' := 73) (lv' := [(1, .int (0 : Int32)), (4, .int q209.1), (2, .int (0 : Int32)), (0, .ref 38), (3, .int p3)]) dX5_readTest_72 rfl (by decide) rfl ?_
              refine mr_iload_n (pc' := 74) dX5_readTest_73 rfl rfl ?_
              by_cases c213 : (0 : Int32) = (0 : Int32)
              · rw [if_pos c213] at h211
                refine mr_if_eq_t (t := 97) dX5_readTest_74 (by decide) c213 ?_
                refine mr_iload (pc' := 99) dX5_readTest_97 rfl rfl ?_
                by_cases c214 : (0 : Int32) ≤ q209.1
                · rw [if_pos c214] at h211
                  refine mr_if_ge_t (t := 140) dX5_readTest_99 (by decide) c214 ?_
                  refine mr_aload_n (pc' := 141) dX5_readTest_140 rfl rfl ?_
                  refine mr_tget (pc' := 144) rfl dX5_readTest_141 rfl ?_
                  refine mr_iload (pc' := 146) dX5_readTest_144 rfl rfl ?_
                  obtain ⟨a215, g216, h217⟩ := Option.bind_eq_some_iff.mp h211
                  refine mr_tald (pc' := 147) dX5_readTest_146 rfl g216 ?_
                  obtain ⟨q218, g219, h220⟩ := Option.bind_eq_some_iff.mp h217
                  refine mr_cv (pc' := 150) (a := 38) (d1 := 1) dX5_readTest_147 rfl rfl rfl rfl rfl rfl (by decide) rfl (by decide) (ok_X5_settle hR  g219) ?_
                  show mr X _ _ 150 _ [] (MM RR q218) _
                  refine mr_aload_n (pc' := 151) dX5_readTest_150 rfl rfl ?_
                  refine mr_iload (pc' := 153) dX5_readTest_151 rfl rfl ?_
                  obtain ⟨q221, g222, h223⟩ := Option.bind_eq_some_iff.mp h220
                  refine mr_cv (pc' := 156) (a := 38) (d1 := 0) dX5_readTest_153 rfl rfl rfl rfl rfl rfl (by decide) rfl (by decide) (ok_X5_hold hR  g222) ?_
                  show mr X _ _ 156 _ [] (MM RR q221) _
                  refine mr_iinc (pc' := 159) (x' := (p3 + (1 : Int32))) (lv' := [(3, .int (p3 + (1 : Int32))), (1, .int (0 : Int32)), (4, .int q209.1), (2, .int (0 : Int32)), (0, .ref 38)]) dX5_readTest_156 rfl (by decide) rfl rfl rfl ?_
                  refine mr_goto (t := 21) dX5_readTest_159 (by decide) ?_
                  exact mr_sub [(0, .ref 38), (1, .int (0 : Int32)), (2, .int (0 : Int32)), (3, .int (p3 + (1 : Int32)))] ⟨rfl, rfl, rfl, rfl, trivial⟩ rfl (ih _ _ _ _  h223)
                · rw [if_neg c214] at h211
                  refine mr_if_ge_f (t := 140) (pc' := 102) dX5_readTest_99 (by decide) rfl c214 ?_
                  refine mr_aload_n (pc' := 103) dX5_readTest_102 rfl rfl ?_
                  obtain ⟨q224, g225, h226⟩ := Option.bind_eq_some_iff.mp h211
                  refine mr_cv (pc' := 106) (a := 38) (d1 := 2) dX5_readTest_103 rfl rfl rfl rfl rfl rfl (by decide) rfl (by decide) (ok_X5_takeComparing hR  g225) ?_
                  show mr X _ _ 106 _ [.int q224.1] (MM RR q224.2) _
                  refine mr_istore (pc' := 108) (lv' := [(4, .int q224.1), (1, .int (0 : Int32)), (2, .int (0 : Int32)), (0, .ref 38), (3, .int p3)]) dX5_readTest_106 rfl (by decide) rfl ?_
                  refine mr_iload (pc' := 110) dX5_readTest_108 rfl rfl ?_
                  by_cases c227 : (0 : Int32) ≤ q224.1
                  · rw [if_pos c227] at h226
                    refine mr_if_ge_t (t := 129) dX5_readTest_110 (by decide) c227 ?_
                    refine mr_aload_n (pc' := 130) dX5_readTest_129 rfl rfl ?_
                    obtain ⟨q228, g229, h230⟩ := Option.bind_eq_some_iff.mp h226
                    refine mr_cv (pc' := 133) (a := 38) (d1 := 1) dX5_readTest_130 rfl rfl rfl rfl rfl rfl (by decide) rfl (by decide) (ok_X5_isRoomForOne hR  g229) ?_
                    show mr X _ _ 133 _ [.int q228.1] (MM RR q228.2) _
                    by_cases c231 : q228.1 = (0 : Int32)
                    · rw [if_pos c231] at h230
                      refine mr_if_ne_f (t := 138) (pc' := 136) dX5_readTest_133 (by decide) rfl (not_not_intro c231) ?_
                      refine mr_iconst (pc' := 137) (v := (0 : Int32)) dX5_readTest_136 rfl (by decide) ?_
                      obtain rfl := Option.some.inj h230
                      exact mr_zreturn dX5_readTest_137 rfl (by decide)
                    · rw [if_neg c231] at h230
                      refine mr_if_ne_t (t := 138) dX5_readTest_133 (by decide) c231 ?_
                      refine mr_iconst (pc' := 139) (v := (1 : Int32)) dX5_readTest_138 rfl (by decide) ?_
                      refine mr_istore_n (pc' := 140) (lv' := [(2, .int (1 : Int32)), (4, .int q224.1), (1, .int (0 : Int32)), (0, .ref 38), (3, .int p3)]) dX5_readTest_139 rfl (by decide) rfl ?_
                      refine mr_aload_n (pc' := 141) dX5_readTest_140 rfl rfl ?_
                      refine mr_tget (pc' := 144) rfl dX5_readTest_141 rfl ?_
                      refine mr_iload (pc' := 146) dX5_readTest_144 rfl rfl ?_
                      obtain ⟨a232, g233, h234⟩ := Option.bind_eq_some_iff.mp h230
                      refine mr_tald (pc' := 147) dX5_readTest_146 rfl g233 ?_
                      obtain ⟨q235, g236, h237⟩ := Option.bind_eq_some_iff.mp h234
                      refine mr_cv (pc' := 150) (a := 38) (d1 := 1) dX5_readTest_147 rfl rfl rfl rfl rfl rfl (by decide) rfl (by decide) (ok_X5_settle hR  g236) ?_
                      show mr X _ _ 150 _ [] (MM RR q235) _
                      refine mr_aload_n (pc' := 151) dX5_readTest_150 rfl rfl ?_
                      refine mr_iload (pc' := 153) dX5_readTest_151 rfl rfl ?_
                      obtain ⟨q238, g239, h240⟩ := Option.bind_eq_some_iff.mp h237
                      refine mr_cv (pc' := 156) (a := 38) (d1 := 0) dX5_readTest_153 rfl rfl rfl rfl rfl rfl (by decide) rfl (by decide) (ok_X5_hold hR  g239) ?_
                      show mr X _ _ 156 _ [] (MM RR q238) _
                      refine mr_iinc (pc' := 159) (x' := (p3 + (1 : Int32))) (lv' := [(3, .int (p3 + (1 : Int32))), (2, .int (1 : Int32)), (4, .int q224.1), (1, .int (0 : Int32)), (0, .ref 38)]) dX5_readTest_156 rfl (by decide) rfl rfl rfl ?_
                      refine mr_goto (t := 21) dX5_readTest_159 (by decide) ?_
                      exact mr_sub [(0, .ref 38), (1, .int (0 : Int32)), (2, .int (1 : Int32)), (3, .int (p3 + (1 : Int32)))] ⟨rfl, rfl, rfl, rfl, trivial⟩ rfl (ih _ _ _ _  h240)
                  · rw [if_neg c227] at h226
                    refine mr_if_ge_f (t := 129) (pc' := 113) dX5_readTest_110 (by decide) rfl c227 ?_
                    refine mr_aload_n (pc' := 114) dX5_readTest_113 rfl rfl ?_
                    refine mr_getR (pc' := 117) (ci := 5) (j := 0) (b := 1) hR dX5_readTest_114 rfl rfl rfl (by decide) (by decide) (by decide) rfl rfl ?_
                    refine mr_aload_n (pc' := 118) dX5_readTest_117 rfl rfl ?_
                    refine mr_getR (pc' := 121) (ci := 5) (j := 0) (b := 1) hR dX5_readTest_118 rfl rfl rfl (by decide) (by decide) (by decide) rfl rfl ?_
                    refine mr_getI (pc' := 124) (ci := 7) (j := 2) dX5_readTest_121 rfl rfl rfl (by decide) (by decide) rfl ?_
                    refine mr_iconst (pc' := 125) (v := (0 : Int32)) dX5_readTest_124 rfl (by decide) ?_
                    obtain ⟨q241, g242, h243⟩ := Option.bind_eq_some_iff.mp h226
                    refine mr_cv (pc' := 128) (a := 1) (d1 := 0) dX5_readTest_125 rfl rfl rfl rfl rfl rfl (by decide) rfl (by decide) (ok_X7_fail hR  g242) ?_
                    show mr X _ _ 128 _ [.int q241.1] (MM RR q241.2) _
                    obtain ⟨z244, g245, h246⟩ := Option.bind_eq_some_iff.mp h243
                    obtain ⟨g247, e248⟩ := mm_ifs g245
                    cases e248
                    cases h246
                    exact mr_zreturn dX5_readTest_128 rfl g247
              · rw [if_neg c213] at h211
                refine mr_if_eq_f (t := 97) (pc' := 77) dX5_readTest_74 (by decide) rfl c213 ?_
                refine mr_aload_n (pc' := 78) dX5_readTest_77 rfl rfl ?_
                obtain ⟨q249, g250, h251⟩ := Option.bind_eq_some_iff.mp h211
                refine mr_cv (pc' := 81) (a := 38) (d1 := 2) dX5_readTest_78 rfl rfl rfl rfl rfl rfl (by decide) rfl (by decide) (ok_X5_closeBrackets hR  g250) ?_
                show mr X _ _ 81 _ [] (MM RR q249) _
                refine mr_aload_n (pc' := 82) dX5_readTest_81 rfl rfl ?_
                obtain ⟨q252, g253, h254⟩ := Option.bind_eq_some_iff.mp h251
                refine mr_cv (pc' := 85) (a := 38) (d1 := 5) dX5_readTest_82 rfl rfl rfl rfl rfl rfl (by decide) rfl (by decide) (ok_X5_takeJoining hR  g253) ?_
                show mr X _ _ 85 _ [.int q252.1] (MM RR q252.2) _
                refine mr_istore (pc' := 87) (lv' := [(4, .int q252.1), (1, .int (0 : Int32)), (2, .int (0 : Int32)), (0, .ref 38), (3, .int p3)]) dX5_readTest_85 rfl (by decide) rfl ?_
                refine mr_iload (pc' := 89) dX5_readTest_87 rfl rfl ?_
                by_cases c255 : (0 : Int32) ≤ q252.1
                · rw [if_pos c255] at h254
                  refine mr_if_ge_t (t := 140) dX5_readTest_89 (by decide) c255 ?_
                  refine mr_aload_n (pc' := 141) dX5_readTest_140 rfl rfl ?_
                  refine mr_tget (pc' := 144) rfl dX5_readTest_141 rfl ?_
                  refine mr_iload (pc' := 146) dX5_readTest_144 rfl rfl ?_
                  obtain ⟨a256, g257, h258⟩ := Option.bind_eq_some_iff.mp h254
                  refine mr_tald (pc' := 147) dX5_readTest_146 rfl g257 ?_
                  obtain ⟨q259, g260, h261⟩ := Option.bind_eq_some_iff.mp h258
                  refine mr_cv (pc' := 150) (a := 38) (d1 := 1) dX5_readTest_147 rfl rfl rfl rfl rfl rfl (by decide) rfl (by decide) (ok_X5_settle hR  g260) ?_
                  show mr X _ _ 150 _ [] (MM RR q259) _
                  refine mr_aload_n (pc' := 151) dX5_readTest_150 rfl rfl ?_
                  refine mr_iload (pc' := 153) dX5_readTest_151 rfl rfl ?_
                  obtain ⟨q262, g263, h264⟩ := Option.bind_eq_some_iff.mp h261
                  refine mr_cv (pc' := 156) (a := 38) (d1 := 0) dX5_readTest_153 rfl rfl rfl rfl rfl rfl (by decide) rfl (by decide) (ok_X5_hold hR  g263) ?_
                  show mr X _ _ 156 _ [] (MM RR q262) _
                  refine mr_iinc (pc' := 159) (x' := (p3 + (1 : Int32))) (lv' := [(3, .int (p3 + (1 : Int32))), (4, .int q252.1), (1, .int (0 : Int32)), (2, .int (0 : Int32)), (0, .ref 38)]) dX5_readTest_156 rfl (by decide) rfl rfl rfl ?_
                  refine mr_goto (t := 21) dX5_readTest_159 (by decide) ?_
                  exact mr_sub [(0, .ref 38), (1, .int (0 : Int32)), (2, .int (0 : Int32)), (3, .int (p3 + (1 : Int32)))] ⟨rfl, rfl, rfl, rfl, trivial⟩ rfl (ih _ _ _ _  h264)
                · rw [if_neg c255] at h254
                  refine mr_if_ge_f (t := 140) (pc' := 92) dX5_readTest_89 (by decide) rfl c255 ?_
                  refine mr_aload_n (pc' := 93) dX5_readTest_92 rfl rfl ?_
                  obtain ⟨q265, g266, h267⟩ := Option.bind_eq_some_iff.mp h254
                  refine mr_cv (pc' := 96) (a := 38) (d1 := 2) dX5_readTest_93 rfl rfl rfl rfl rfl rfl (by decide) rfl (by decide) (ok_X5_isTestOver hR  g266) ?_
                  show mr X _ _ 96 _ [.int q265.1] (MM RR q265.2) _
                  obtain ⟨z268, g269, h270⟩ := Option.bind_eq_some_iff.mp h267
                  obtain ⟨g271, e272⟩ := mm_ifs g269
                  cases e272
                  cases h270
                  exact mr_zreturn dX5_readTest_96 rfl g271
            · rw [if_neg c212] at h211
              refine mr_if_ge_f (t := 71) (pc' := 63) dX5_readTest_60 (by decide) rfl c212 ?_
              refine mr_iload_n (pc' := 64) dX5_readTest_63 rfl rfl ?_
              by_cases c273 : (0 : Int32) = (0 : Int32)
              · rw [if_pos c273] at h211
                refine mr_if_eq_t (t := 71) dX5_readTest_64 (by decide) c273 ?_
                refine mr_iconst (pc' := 72) (v := (0 : Int32)) dX5_readTest_71 rfl (by decide) ?_
                refine mr_istore_n (pc' := 73) (lv' := [(1, .int (0 : Int32)), (4, .int q209.1), (2, .int (0 : Int32)), (0, .ref 38), (3, .int p3)]) dX5_readTest_72 rfl (by decide) rfl ?_
                refine mr_iload_n (pc' := 74) dX5_readTest_73 rfl rfl ?_
                by_cases c274 : (0 : Int32) = (0 : Int32)
                · rw [if_pos c274] at h211
                  refine mr_if_eq_t (t := 97) dX5_readTest_74 (by decide) c274 ?_
                  refine mr_iload (pc' := 99) dX5_readTest_97 rfl rfl ?_
                  by_cases c275 : (0 : Int32) ≤ q209.1
                  · rw [if_pos c275] at h211
                    refine mr_if_ge_t (t := 140) dX5_readTest_99 (by decide) c275 ?_
                    refine mr_aload_n (pc' := 141) dX5_readTest_140 rfl rfl ?_
                    refine mr_tget (pc' := 144) rfl dX5_readTest_141 rfl ?_
                    refine mr_iload (pc' := 146) dX5_readTest_144 rfl rfl ?_
                    obtain ⟨a276, g277, h278⟩ := Option.bind_eq_some_iff.mp h211
                    refine mr_tald (pc' := 147) dX5_readTest_146 rfl g277 ?_
                    obtain ⟨q279, g280, h281⟩ := Option.bind_eq_some_iff.mp h278
                    refine mr_cv (pc' := 150) (a := 38) (d1 := 1) dX5_readTest_147 rfl rfl rfl rfl rfl rfl (by decide) rfl (by decide) (ok_X5_settle hR  g280) ?_
                    show mr X _ _ 150 _ [] (MM RR q279) _
                    refine mr_aload_n (pc' := 151) dX5_readTest_150 rfl rfl ?_
                    refine mr_iload (pc' := 153) dX5_readTest_151 rfl rfl ?_
                    obtain ⟨q282, g283, h284⟩ := Option.bind_eq_some_iff.mp h281
                    refine mr_cv (pc' := 156) (a := 38) (d1 := 0) dX5_readTest_153 rfl rfl rfl rfl rfl rfl (by decide) rfl (by decide) (ok_X5_hold hR  g283) ?_
                    show mr X _ _ 156 _ [] (MM RR q282) _
                    refine mr_iinc (pc' := 159) (x' := (p3 + (1 : Int32))) (lv' := [(3, .int (p3 + (1 : Int32))), (1, .int (0 : Int32)), (4, .int q209.1), (2, .int (0 : Int32)), (0, .ref 38)]) dX5_readTest_156 rfl (by decide) rfl rfl rfl ?_
                    refine mr_goto (t := 21) dX5_readTest_159 (by decide) ?_
                    exact mr_sub [(0, .ref 38), (1, .int (0 : Int32)), (2, .int (0 : Int32)), (3, .int (p3 + (1 : Int32)))] ⟨rfl, rfl, rfl, rfl, trivial⟩ rfl (ih _ _ _ _  h284)
                  · rw [if_neg c275] at h211
                    refine mr_if_ge_f (t := 140) (pc' := 102) dX5_readTest_99 (by decide) rfl c275 ?_
                    refine mr_aload_n (pc' := 103) dX5_readTest_102 rfl rfl ?_
                    obtain ⟨q285, g286, h287⟩ := Option.bind_eq_some_iff.mp h211
                    refine mr_cv (pc' := 106) (a := 38) (d1 := 2) dX5_readTest_103 rfl rfl rfl rfl rfl rfl (by decide) rfl (by decide) (ok_X5_takeComparing hR  g286) ?_
                    show mr X _ _ 106 _ [.int q285.1] (MM RR q285.2) _
                    refine mr_istore (pc' := 108) (lv' := [(4, .int q285.1), (1, .int (0 : Int32)), (2, .int (0 : Int32)), (0, .ref 38), (3, .int p3)]) dX5_readTest_106 rfl (by decide) rfl ?_
                    refine mr_iload (pc' := 110) dX5_readTest_108 rfl rfl ?_
                    by_cases c288 : (0 : Int32) ≤ q285.1
                    · rw [if_pos c288] at h287
                      refine mr_if_ge_t (t := 129) dX5_readTest_110 (by decide) c288 ?_
                      refine mr_aload_n (pc' := 130) dX5_readTest_129 rfl rfl ?_
                      obtain ⟨q289, g290, h291⟩ := Option.bind_eq_some_iff.mp h287
                      refine mr_cv (pc' := 133) (a := 38) (d1 := 1) dX5_readTest_130 rfl rfl rfl rfl rfl rfl (by decide) rfl (by decide) (ok_X5_isRoomForOne hR  g290) ?_
                      show mr X _ _ 133 _ [.int q289.1] (MM RR q289.2) _
                      by_cases c292 : q289.1 = (0 : Int32)
                      · rw [if_pos c292] at h291
                        refine mr_if_ne_f (t := 138) (pc' := 136) dX5_readTest_133 (by decide) rfl (not_not_intro c292) ?_
                        refine mr_iconst (pc' := 137) (v := (0 : Int32)) dX5_readTest_136 rfl (by decide) ?_
                        obtain rfl := Option.some.inj h291
                        exact mr_zreturn dX5_readTest_137 rfl (by decide)
                      · rw [if_neg c292] at h291
                        refine mr_if_ne_t (t := 138) dX5_readTest_133 (by decide) c292 ?_
                        refine mr_iconst (pc' := 139) (v := (1 : Int32)) dX5_readTest_138 rfl (by decide) ?_
                        refine mr_istore_n (pc' := 140) (lv' := [(2, .int (1 : Int32)), (4, .int q285.1), (1, .int (0 : Int32)), (0, .ref 38), (3, .int p3)]) dX5_readTest_139 rfl (by decide) rfl ?_
                        refine mr_aload_n (pc' := 141) dX5_readTest_140 rfl rfl ?_
                        refine mr_tget (pc' := 144) rfl dX5_readTest_141 rfl ?_
                        refine mr_iload (pc' := 146) dX5_readTest_144 rfl rfl ?_
                        obtain ⟨a293, g294, h295⟩ := Option.bind_eq_some_iff.mp h291
                        refine mr_tald (pc' := 147) dX5_readTest_146 rfl g294 ?_
                        obtain ⟨q296, g297, h298⟩ := Option.bind_eq_some_iff.mp h295
                        refine mr_cv (pc' := 150) (a := 38) (d1 := 1) dX5_readTest_147 rfl rfl rfl rfl rfl rfl (by decide) rfl (by decide) (ok_X5_settle hR  g297) ?_
                        show mr X _ _ 150 _ [] (MM RR q296) _
                        refine mr_aload_n (pc' := 151) dX5_readTest_150 rfl rfl ?_
                        refine mr_iload (pc' := 153) dX5_readTest_151 rfl rfl ?_
                        obtain ⟨q299, g300, h301⟩ := Option.bind_eq_some_iff.mp h298
                        refine mr_cv (pc' := 156) (a := 38) (d1 := 0) dX5_readTest_153 rfl rfl rfl rfl rfl rfl (by decide) rfl (by decide) (ok_X5_hold hR  g300) ?_
                        show mr X _ _ 156 _ [] (MM RR q299) _
                        refine mr_iinc (pc' := 159) (x' := (p3 + (1 : Int32))) (lv' := [(3, .int (p3 + (1 : Int32))), (2, .int (1 : Int32)), (4, .int q285.1), (1, .int (0 : Int32)), (0, .ref 38)]) dX5_readTest_156 rfl (by decide) rfl rfl rfl ?_
                        refine mr_goto (t := 21) dX5_readTest_159 (by decide) ?_
                        exact mr_sub [(0, .ref 38), (1, .int (0 : Int32)), (2, .int (1 : Int32)), (3, .int (p3 + (1 : Int32)))] ⟨rfl, rfl, rfl, rfl, trivial⟩ rfl (ih _ _ _ _  h301)
                    · rw [if_neg c288] at h287
                      refine mr_if_ge_f (t := 129) (pc' := 113) dX5_readTest_110 (by decide) rfl c288 ?_
                      refine mr_aload_n (pc' := 114) dX5_readTest_113 rfl rfl ?_
                      refine mr_getR (pc' := 117) (ci := 5) (j := 0) (b := 1) hR dX5_readTest_114 rfl rfl rfl (by decide) (by decide) (by decide) rfl rfl ?_
                      refine mr_aload_n (pc' := 118) dX5_readTest_117 rfl rfl ?_
                      refine mr_getR (pc' := 121) (ci := 5) (j := 0) (b := 1) hR dX5_readTest_118 rfl rfl rfl (by decide) (by decide) (by decide) rfl rfl ?_
                      refine mr_getI (pc' := 124) (ci := 7) (j := 2) dX5_readTest_121 rfl rfl rfl (by decide) (by decide) rfl ?_
                      refine mr_iconst (pc' := 125) (v := (0 : Int32)) dX5_readTest_124 rfl (by decide) ?_
                      obtain ⟨q302, g303, h304⟩ := Option.bind_eq_some_iff.mp h287
                      refine mr_cv (pc' := 128) (a := 1) (d1 := 0) dX5_readTest_125 rfl rfl rfl rfl rfl rfl (by decide) rfl (by decide) (ok_X7_fail hR  g303) ?_
                      show mr X _ _ 128 _ [.int q302.1] (MM RR q302.2) _
                      obtain ⟨z305, g306, h307⟩ := Option.bind_eq_some_iff.mp h304
                      obtain ⟨g308, e309⟩ := mm_ifs g306
                      cases e309
                      cases h307
                      exact mr_zreturn dX5_readTest_128 rfl g308
                · rw [if_neg c274] at h211
                  refine mr_if_eq_f (t := 97) (pc' := 77) dX5_readTest_74 (by decide) rfl c274 ?_
                  refine mr_aload_n (pc' := 78) dX5_readTest_77 rfl rfl ?_
                  obtain ⟨q310, g311, h312⟩ := Option.bind_eq_some_iff.mp h211
                  refine mr_cv (pc' := 81) (a := 38) (d1 := 2) dX5_readTest_78 rfl rfl rfl rfl rfl rfl (by decide) rfl (by decide) (ok_X5_closeBrackets hR  g311) ?_
                  show mr X _ _ 81 _ [] (MM RR q310) _
                  refine mr_aload_n (pc' := 82) dX5_readTest_81 rfl rfl ?_
                  obtain ⟨q313, g314, h315⟩ := Option.bind_eq_some_iff.mp h312
                  refine mr_cv (pc' := 85) (a := 38) (d1 := 5) dX5_readTest_82 rfl rfl rfl rfl rfl rfl (by decide) rfl (by decide) (ok_X5_takeJoining hR  g314) ?_
                  show mr X _ _ 85 _ [.int q313.1] (MM RR q313.2) _
                  refine mr_istore (pc' := 87) (lv' := [(4, .int q313.1), (1, .int (0 : Int32)), (2, .int (0 : Int32)), (0, .ref 38), (3, .int p3)]) dX5_readTest_85 rfl (by decide) rfl ?_
                  refine mr_iload (pc' := 89) dX5_readTest_87 rfl rfl ?_
                  by_cases c316 : (0 : Int32) ≤ q313.1
                  · rw [if_pos c316] at h315
                    refine mr_if_ge_t (t := 140) dX5_readTest_89 (by decide) c316 ?_
                    refine mr_aload_n (pc' := 141) dX5_readTest_140 rfl rfl ?_
                    refine mr_tget (pc' := 144) rfl dX5_readTest_141 rfl ?_
                    refine mr_iload (pc' := 146) dX5_readTest_144 rfl rfl ?_
                    obtain ⟨a317, g318, h319⟩ := Option.bind_eq_some_iff.mp h315
                    refine mr_tald (pc' := 147) dX5_readTest_146 rfl g318 ?_
                    obtain ⟨q320, g321, h322⟩ := Option.bind_eq_some_iff.mp h319
                    refine mr_cv (pc' := 150) (a := 38) (d1 := 1) dX5_readTest_147 rfl rfl rfl rfl rfl rfl (by decide) rfl (by decide) (ok_X5_settle hR  g321) ?_
                    show mr X _ _ 150 _ [] (MM RR q320) _
                    refine mr_aload_n (pc' := 151) dX5_readTest_150 rfl rfl ?_
                    refine mr_iload (pc' := 153) dX5_readTest_151 rfl rfl ?_
                    obtain ⟨q323, g324, h325⟩ := Option.bind_eq_some_iff.mp h322
                    refine mr_cv (pc' := 156) (a := 38) (d1 := 0) dX5_readTest_153 rfl rfl rfl rfl rfl rfl (by decide) rfl (by decide) (ok_X5_hold hR  g324) ?_
                    show mr X _ _ 156 _ [] (MM RR q323) _
                    refine mr_iinc (pc' := 159) (x' := (p3 + (1 : Int32))) (lv' := [(3, .int (p3 + (1 : Int32))), (4, .int q313.1), (1, .int (0 : Int32)), (2, .int (0 : Int32)), (0, .ref 38)]) dX5_readTest_156 rfl (by decide) rfl rfl rfl ?_
                    refine mr_goto (t := 21) dX5_readTest_159 (by decide) ?_
                    exact mr_sub [(0, .ref 38), (1, .int (0 : Int32)), (2, .int (0 : Int32)), (3, .int (p3 + (1 : Int32)))] ⟨rfl, rfl, rfl, rfl, trivial⟩ rfl (ih _ _ _ _  h325)
                  · rw [if_neg c316] at h315
                    refine mr_if_ge_f (t := 140) (pc' := 92) dX5_readTest_89 (by decide) rfl c316 ?_
                    refine mr_aload_n (pc' := 93) dX5_readTest_92 rfl rfl ?_
                    obtain ⟨q326, g327, h328⟩ := Option.bind_eq_some_iff.mp h315
                    refine mr_cv (pc' := 96) (a := 38) (d1 := 2) dX5_readTest_93 rfl rfl rfl rfl rfl rfl (by decide) rfl (by decide) (ok_X5_isTestOver hR  g327) ?_
                    show mr X _ _ 96 _ [.int q326.1] (MM RR q326.2) _
                    obtain ⟨z329, g330, h331⟩ := Option.bind_eq_some_iff.mp h328
                    obtain ⟨g332, e333⟩ := mm_ifs g330
                    cases e333
                    cases h331
                    exact mr_zreturn dX5_readTest_96 rfl g332
              · rw [if_neg c273] at h211
                refine mr_if_eq_f (t := 71) (pc' := 67) dX5_readTest_64 (by decide) rfl c273 ?_
                refine mr_iconst (pc' := 68) (v := (1 : Int32)) dX5_readTest_67 rfl (by decide) ?_
                refine mr_goto (t := 72) dX5_readTest_68 (by decide) ?_
                refine mr_istore_n (pc' := 73) (lv' := [(1, .int (1 : Int32)), (4, .int q209.1), (2, .int (0 : Int32)), (0, .ref 38), (3, .int p3)]) dX5_readTest_72 rfl (by decide) rfl ?_
                refine mr_iload_n (pc' := 74) dX5_readTest_73 rfl rfl ?_
                by_cases c334 : (1 : Int32) = (0 : Int32)
                · rw [if_pos c334] at h211
                  refine mr_if_eq_t (t := 97) dX5_readTest_74 (by decide) c334 ?_
                  refine mr_iload (pc' := 99) dX5_readTest_97 rfl rfl ?_
                  by_cases c335 : (0 : Int32) ≤ q209.1
                  · rw [if_pos c335] at h211
                    refine mr_if_ge_t (t := 140) dX5_readTest_99 (by decide) c335 ?_
                    refine mr_aload_n (pc' := 141) dX5_readTest_140 rfl rfl ?_
                    refine mr_tget (pc' := 144) rfl dX5_readTest_141 rfl ?_
                    refine mr_iload (pc' := 146) dX5_readTest_144 rfl rfl ?_
                    obtain ⟨a336, g337, h338⟩ := Option.bind_eq_some_iff.mp h211
                    refine mr_tald (pc' := 147) dX5_readTest_146 rfl g337 ?_
                    obtain ⟨q339, g340, h341⟩ := Option.bind_eq_some_iff.mp h338
                    refine mr_cv (pc' := 150) (a := 38) (d1 := 1) dX5_readTest_147 rfl rfl rfl rfl rfl rfl (by decide) rfl (by decide) (ok_X5_settle hR  g340) ?_
                    show mr X _ _ 150 _ [] (MM RR q339) _
                    refine mr_aload_n (pc' := 151) dX5_readTest_150 rfl rfl ?_
                    refine mr_iload (pc' := 153) dX5_readTest_151 rfl rfl ?_
                    obtain ⟨q342, g343, h344⟩ := Option.bind_eq_some_iff.mp h341
                    refine mr_cv (pc' := 156) (a := 38) (d1 := 0) dX5_readTest_153 rfl rfl rfl rfl rfl rfl (by decide) rfl (by decide) (ok_X5_hold hR  g343) ?_
                    show mr X _ _ 156 _ [] (MM RR q342) _
                    refine mr_iinc (pc' := 159) (x' := (p3 + (1 : Int32))) (lv' := [(3, .int (p3 + (1 : Int32))), (1, .int (1 : Int32)), (4, .int q209.1), (2, .int (0 : Int32)), (0, .ref 38)]) dX5_readTest_156 rfl (by decide) rfl rfl rfl ?_
                    refine mr_goto (t := 21) dX5_readTest_159 (by decide) ?_
                    exact mr_sub [(0, .ref 38), (1, .int (1 : Int32)), (2, .int (0 : Int32)), (3, .int (p3 + (1 : Int32)))] ⟨rfl, rfl, rfl, rfl, trivial⟩ rfl (ih _ _ _ _  h344)
                  · rw [if_neg c335] at h211
                    refine mr_if_ge_f (t := 140) (pc' := 102) dX5_readTest_99 (by decide) rfl c335 ?_
                    refine mr_aload_n (pc' := 103) dX5_readTest_102 rfl rfl ?_
                    obtain ⟨q345, g346, h347⟩ := Option.bind_eq_some_iff.mp h211
                    refine mr_cv (pc' := 106) (a := 38) (d1 := 2) dX5_readTest_103 rfl rfl rfl rfl rfl rfl (by decide) rfl (by decide) (ok_X5_takeComparing hR  g346) ?_
                    show mr X _ _ 106 _ [.int q345.1] (MM RR q345.2) _
                    refine mr_istore (pc' := 108) (lv' := [(4, .int q345.1), (1, .int (1 : Int32)), (2, .int (0 : Int32)), (0, .ref 38), (3, .int p3)]) dX5_readTest_106 rfl (by decide) rfl ?_
                    refine mr_iload (pc' := 110) dX5_readTest_108 rfl rfl ?_
                    by_cases c348 : (0 : Int32) ≤ q345.1
                    · rw [if_pos c348] at h347
                      refine mr_if_ge_t (t := 129) dX5_readTest_110 (by decide) c348 ?_
                      refine mr_aload_n (pc' := 130) dX5_readTest_129 rfl rfl ?_
                      obtain ⟨q349, g350, h351⟩ := Option.bind_eq_some_iff.mp h347
                      refine mr_cv (pc' := 133) (a := 38) (d1 := 1) dX5_readTest_130 rfl rfl rfl rfl rfl rfl (by decide) rfl (by decide) (ok_X5_isRoomForOne hR  g350) ?_
                      show mr X _ _ 133 _ [.int q349.1] (MM RR q349.2) _
                      by_cases c352 : q349.1 = (0 : Int32)
                      · rw [if_pos c352] at h351
                        refine mr_if_ne_f (t := 138) (pc' := 136) dX5_readTest_133 (by decide) rfl (not_not_intro c352) ?_
                        refine mr_iconst (pc' := 137) (v := (0 : Int32)) dX5_readTest_136 rfl (by decide) ?_
                        obtain rfl := Option.some.inj h351
                        exact mr_zreturn dX5_readTest_137 rfl (by decide)
                      · rw [if_neg c352] at h351
                        refine mr_if_ne_t (t := 138) dX5_readTest_133 (by decide) c352 ?_
                        refine mr_iconst (pc' := 139) (v := (1 : Int32)) dX5_readTest_138 rfl (by decide) ?_
                        refine mr_istore_n (pc' := 140) (lv' := [(2, .int (1 : Int32)), (4, .int q345.1), (1, .int (1 : Int32)), (0, .ref 38), (3, .int p3)]) dX5_readTest_139 rfl (by decide) rfl ?_
                        refine mr_aload_n (pc' := 141) dX5_readTest_140 rfl rfl ?_
                        refine mr_tget (pc' := 144) rfl dX5_readTest_141 rfl ?_
                        refine mr_iload (pc' := 146) dX5_readTest_144 rfl rfl ?_
                        obtain ⟨a353, g354, h355⟩ := Option.bind_eq_some_iff.mp h351
                        refine mr_tald (pc' := 147) dX5_readTest_146 rfl g354 ?_
                        obtain ⟨q356, g357, h358⟩ := Option.bind_eq_some_iff.mp h355
                        refine mr_cv (pc' := 150) (a := 38) (d1 := 1) dX5_readTest_147 rfl rfl rfl rfl rfl rfl (by decide) rfl (by decide) (ok_X5_settle hR  g357) ?_
                        show mr X _ _ 150 _ [] (MM RR q356) _
                        refine mr_aload_n (pc' := 151) dX5_readTest_150 rfl rfl ?_
                        refine mr_iload (pc' := 153) dX5_readTest_151 rfl rfl ?_
                        obtain ⟨q359, g360, h361⟩ := Option.bind_eq_some_iff.mp h358
                        refine mr_cv (pc' := 156) (a := 38) (d1 := 0) dX5_readTest_153 rfl rfl rfl rfl rfl rfl (by decide) rfl (by decide) (ok_X5_hold hR  g360) ?_
                        show mr X _ _ 156 _ [] (MM RR q359) _
                        refine mr_iinc (pc' := 159) (x' := (p3 + (1 : Int32))) (lv' := [(3, .int (p3 + (1 : Int32))), (2, .int (1 : Int32)), (4, .int q345.1), (1, .int (1 : Int32)), (0, .ref 38)]) dX5_readTest_156 rfl (by decide) rfl rfl rfl ?_
                        refine mr_goto (t := 21) dX5_readTest_159 (by decide) ?_
                        exact mr_sub [(0, .ref 38), (1, .int (1 : Int32)), (2, .int (1 : Int32)), (3, .int (p3 + (1 : Int32)))] ⟨rfl, rfl, rfl, rfl, trivial⟩ rfl (ih _ _ _ _  h361)
                    · rw [if_neg c348] at h347
                      refine mr_if_ge_f (t := 129) (pc' := 113) dX5_readTest_110 (by decide) rfl c348 ?_
                      refine mr_aload_n (pc' := 114) dX5_readTest_113 rfl rfl ?_
                      refine mr_getR (pc' := 117) (ci := 5) (j := 0) (b := 1) hR dX5_readTest_114 rfl rfl rfl (by decide) (by decide) (by decide) rfl rfl ?_
                      refine mr_aload_n (pc' := 118) dX5_readTest_117 rfl rfl ?_
                      refine mr_getR (pc' := 121) (ci := 5) (j := 0) (b := 1) hR dX5_readTest_118 rfl rfl rfl (by decide) (by decide) (by decide) rfl rfl ?_
                      refine mr_getI (pc' := 124) (ci := 7) (j := 2) dX5_readTest_121 rfl rfl rfl (by decide) (by decide) rfl ?_
                      refine mr_iconst (pc' := 125) (v := (0 : Int32)) dX5_readTest_124 rfl (by decide) ?_
                      obtain ⟨q362, g363, h364⟩ := Option.bind_eq_some_iff.mp h347
                      refine mr_cv (pc' := 128) (a := 1) (d1 := 0) dX5_readTest_125 rfl rfl rfl rfl rfl rfl (by decide) rfl (by decide) (ok_X7_fail hR  g363) ?_
                      show mr X _ _ 128 _ [.int q362.1] (MM RR q362.2) _
                      obtain ⟨z365, g366, h367⟩ := Option.bind_eq_some_iff.mp h364
                      obtain ⟨g368, e369⟩ := mm_ifs g366
                      cases e369
                      cases h367
                      exact mr_zreturn dX5_readTest_128 rfl g368
                · rw [if_neg c334] at h211
                  refine mr_if_eq_f (t := 97) (pc' := 77) dX5_readTest_74 (by decide) rfl c334 ?_
                  refine mr_aload_n (pc' := 78) dX5_readTest_77 rfl rfl ?_
                  obtain ⟨q370, g371, h372⟩ := Option.bind_eq_some_iff.mp h211
                  refine mr_cv (pc' := 81) (a := 38) (d1 := 2) dX5_readTest_78 rfl rfl rfl rfl rfl rfl (by decide) rfl (by decide) (ok_X5_closeBrackets hR  g371) ?_
                  show mr X _ _ 81 _ [] (MM RR q370) _
                  refine mr_aload_n (pc' := 82) dX5_readTest_81 rfl rfl ?_
                  obtain ⟨q373, g374, h375⟩ := Option.bind_eq_some_iff.mp h372
                  refine mr_cv (pc' := 85) (a := 38) (d1 := 5) dX5_readTest_82 rfl rfl rfl rfl rfl rfl (by decide) rfl (by decide) (ok_X5_takeJoining hR  g374) ?_
                  show mr X _ _ 85 _ [.int q373.1] (MM RR q373.2) _
                  refine mr_istore (pc' := 87) (lv' := [(4, .int q373.1), (1, .int (1 : Int32)), (2, .int (0 : Int32)), (0, .ref 38), (3, .int p3)]) dX5_readTest_85 rfl (by decide) rfl ?_
                  refine mr_iload (pc' := 89) dX5_readTest_87 rfl rfl ?_
                  by_cases c376 : (0 : Int32) ≤ q373.1
                  · rw [if_pos c376] at h375
                    refine mr_if_ge_t (t := 140) dX5_readTest_89 (by decide) c376 ?_
                    refine mr_aload_n (pc' := 141) dX5_readTest_140 rfl rfl ?_
                    refine mr_tget (pc' := 144) rfl dX5_readTest_141 rfl ?_
                    refine mr_iload (pc' := 146) dX5_readTest_144 rfl rfl ?_
                    obtain ⟨a377, g378, h379⟩ := Option.bind_eq_some_iff.mp h375
                    refine mr_tald (pc' := 147) dX5_readTest_146 rfl g378 ?_
                    obtain ⟨q380, g381, h382⟩ := Option.bind_eq_some_iff.mp h379
                    refine mr_cv (pc' := 150) (a := 38) (d1 := 1) dX5_readTest_147 rfl rfl rfl rfl rfl rfl (by decide) rfl (by decide) (ok_X5_settle hR  g381) ?_
                    show mr X _ _ 150 _ [] (MM RR q380) _
                    refine mr_aload_n (pc' := 151) dX5_readTest_150 rfl rfl ?_
                    refine mr_iload (pc' := 153) dX5_readTest_151 rfl rfl ?_
                    obtain ⟨q383, g384, h385⟩ := Option.bind_eq_some_iff.mp h382
                    refine mr_cv (pc' := 156) (a := 38) (d1 := 0) dX5_readTest_153 rfl rfl rfl rfl rfl rfl (by decide) rfl (by decide) (ok_X5_hold hR  g384) ?_
                    show mr X _ _ 156 _ [] (MM RR q383) _
                    refine mr_iinc (pc' := 159) (x' := (p3 + (1 : Int32))) (lv' := [(3, .int (p3 + (1 : Int32))), (4, .int q373.1), (1, .int (1 : Int32)), (2, .int (0 : Int32)), (0, .ref 38)]) dX5_readTest_156 rfl (by decide) rfl rfl rfl ?_
                    refine mr_goto (t := 21) dX5_readTest_159 (by decide) ?_
                    exact mr_sub [(0, .ref 38), (1, .int (1 : Int32)), (2, .int (0 : Int32)), (3, .int (p3 + (1 : Int32)))] ⟨rfl, rfl, rfl, rfl, trivial⟩ rfl (ih _ _ _ _  h385)
                  · rw [if_neg c376] at h375
                    refine mr_if_ge_f (t := 140) (pc' := 92) dX5_readTest_89 (by decide) rfl c376 ?_
                    refine mr_aload_n (pc' := 93) dX5_readTest_92 rfl rfl ?_
                    obtain ⟨q386, g387, h388⟩ := Option.bind_eq_some_iff.mp h375
                    refine mr_cv (pc' := 96) (a := 38) (d1 := 2) dX5_readTest_93 rfl rfl rfl rfl rfl rfl (by decide) rfl (by decide) (ok_X5_isTestOver hR  g387) ?_
                    show mr X _ _ 96 _ [.int q386.1] (MM RR q386.2) _
                    obtain ⟨z389, g390, h391⟩ := Option.bind_eq_some_iff.mp h388
                    obtain ⟨g392, e393⟩ := mm_ifs g390
                    cases e393
                    cases h391
                    exact mr_zreturn dX5_readTest_96 rfl g392
def f_X5_readTest  (S : fS) : Option (Int32 × fS) :=
  (some (pI S 38 4 (0 : Int32))).bind fun S1 =>
  (some (pI S1 38 5 (0 : Int32))).bind fun S4 =>
  (some (pI S4 38 6 (0 : Int32))).bind fun S7 =>
  lp_X5_readTest_21  (fun S394 => some ((0 : Int32), S394)) FU (1 : Int32) (0 : Int32) (0 : Int32) S7
set_option maxHeartbeats 4000000 in
set_option maxRecDepth 100000 in
theorem ok_X5_readTest {X : mm_C} {RR : Nat → Nat → Option Nat} (hR : RRok RR)   {S : fS} {r : Int32 × fS} (h : f_X5_readTest  S = some r) : mr X 7 mY_X5_readTest 0 (lv_args 0 [.ref 38]) [] (MM RR S) (some (.int r.1), MM RR r.2) := by
  unfold f_X5_readTest at h
  show mr X _ _ 0 [(0, .ref 38)] [] (MM RR S) _
  refine mr_aload_n (pc' := 1) dX5_readTest_0 rfl rfl ?_
  refine mr_iconst (pc' := 2) (v := (0 : Int32)) dX5_readTest_1 rfl (by decide) ?_
  obtain ⟨S1, g2, h3⟩ := Option.bind_eq_some_iff.mp h
  refine mr_putI (pc' := 5) (ci := 5) (j := 4) dX5_readTest_2 rfl rfl rfl (by decide) (by decide) rfl rfl ?_
  rw [Option.some.inj g2]
  refine mr_aload_n (pc' := 6) dX5_readTest_5 rfl rfl ?_
  refine mr_iconst (pc' := 7) (v := (0 : Int32)) dX5_readTest_6 rfl (by decide) ?_
  obtain ⟨S4, g5, h6⟩ := Option.bind_eq_some_iff.mp h3
  refine mr_putI (pc' := 10) (ci := 5) (j := 5) dX5_readTest_7 rfl rfl rfl (by decide) (by decide) rfl rfl ?_
  rw [Option.some.inj g5]
  refine mr_aload_n (pc' := 11) dX5_readTest_10 rfl rfl ?_
  refine mr_iconst (pc' := 12) (v := (0 : Int32)) dX5_readTest_11 rfl (by decide) ?_
  obtain ⟨S7, g8, h9⟩ := Option.bind_eq_some_iff.mp h6
  refine mr_putI (pc' := 15) (ci := 5) (j := 6) dX5_readTest_12 rfl rfl rfl (by decide) (by decide) rfl rfl ?_
  rw [Option.some.inj g8]
  refine mr_iconst (pc' := 16) (v := (1 : Int32)) dX5_readTest_15 rfl (by decide) ?_
  refine mr_istore_n (pc' := 17) (lv' := [(1, .int (1 : Int32)), (0, .ref 38)]) dX5_readTest_16 rfl (by decide) rfl ?_
  refine mr_iconst (pc' := 18) (v := (0 : Int32)) dX5_readTest_17 rfl (by decide) ?_
  refine mr_istore_n (pc' := 19) (lv' := [(2, .int (0 : Int32)), (1, .int (1 : Int32)), (0, .ref 38)]) dX5_readTest_18 rfl (by decide) rfl ?_
  refine mr_iconst (pc' := 20) (v := (0 : Int32)) dX5_readTest_19 rfl (by decide) ?_
  refine mr_istore_n (pc' := 21) (lv' := [(3, .int (0 : Int32)), (2, .int (0 : Int32)), (1, .int (1 : Int32)), (0, .ref 38)]) dX5_readTest_20 rfl (by decide) rfl ?_
  refine mr_sub [(0, .ref 38), (1, .int (1 : Int32)), (2, .int (0 : Int32)), (3, .int (0 : Int32))] ⟨rfl, rfl, rfl, rfl, trivial⟩ rfl ?_
  refine ok_lp_X5_readTest_21 hR  (fun S394 h395 => ?_) FU _ _ _ _  h9
  refine mr_iconst (pc' := 163) (v := (0 : Int32)) dX5_readTest_162 rfl (by decide) ?_
  obtain rfl := Option.some.inj h395
  exact mr_zreturn dX5_readTest_163 rfl (by decide)
