def lp_L_law_18 (X : mm_C)  (K : fS → Option (Int32 × fS)) : Nat → Int32 → fS → Option (Int32 × fS)
  | 0, _, _ => none
  | n + 1, p3, S0 =>
    if ((Int32.ofNat X.1) - (6 : Int32)) < p3 then (K S0) else
    ((gX X p3).bind fun a2 =>
    if (a2 &&& (63 : Int32)) = (0 : Int32) then ((gX X (p3 + (1 : Int32))).bind fun a6 =>
    (gX X (p3 + (2 : Int32))).bind fun a9 =>
    (gX X (p3 + (3 : Int32))).bind fun a12 =>
    (gX X (p3 + (4 : Int32))).bind fun a15 =>
    (gX X (p3 + (5 : Int32))).bind fun a18 =>
    (f_X10_feed a6 a9 a12 a15 a18 S0).bind fun q21 =>
    (gX X (p3 + (1 : Int32))).bind fun a24 =>
    (gX X (p3 + (2 : Int32))).bind fun a27 =>
    (gX X (p3 + (3 : Int32))).bind fun a30 =>
    (gX X (p3 + (4 : Int32))).bind fun a33 =>
    (gX X (p3 + (5 : Int32))).bind fun a36 =>
    (f_X11_feed a24 a27 a30 a33 a36 q21.2).bind fun q39 =>
    if q21.1 = q39.1 then (lp_L_law_18 X  K n (p3 + (6 : Int32)) q39.2) else
    (some ((0 : Int32), q39.2))) else
    if (a2 &&& (63 : Int32)) = (1 : Int32) then ((gX X (p3 + (1 : Int32))).bind fun a44 =>
    (f_X10_end a44 S0).bind fun q47 =>
    (gX X (p3 + (1 : Int32))).bind fun a50 =>
    (f_X11_end a50 q47.2).bind fun q53 =>
    if q47.1 = q53.1 then (lp_L_law_18 X  K n (p3 + (6 : Int32)) q53.2) else
    (some ((0 : Int32), q53.2))) else
    if (a2 &&& (63 : Int32)) = (2 : Int32) then ((f_X10_tower  S0).bind fun q58 =>
    (f_X11_tower  q58.2).bind fun q61 =>
    if q58.1 = q61.1 then (lp_L_law_18 X  K n (p3 + (6 : Int32)) q61.2) else
    (some ((0 : Int32), q61.2))) else
    if (a2 &&& (63 : Int32)) = (3 : Int32) then ((f_X10_rule  S0).bind fun q66 =>
    (f_X11_rule  q66.2).bind fun q69 =>
    if q66.1 = q69.1 then (lp_L_law_18 X  K n (p3 + (6 : Int32)) q69.2) else
    (some ((0 : Int32), q69.2))) else
    if (a2 &&& (63 : Int32)) = (4 : Int32) then ((gX X (p3 + (1 : Int32))).bind fun a74 =>
    (gX X (p3 + (2 : Int32))).bind fun a77 =>
    (f_X10_floor a74 a77 S0).bind fun q80 =>
    (gX X (p3 + (1 : Int32))).bind fun a83 =>
    (gX X (p3 + (2 : Int32))).bind fun a86 =>
    (f_X11_floor a83 a86 S0).bind fun q89 =>
    if q80 = q89 then (lp_L_law_18 X  K n (p3 + (6 : Int32)) S0) else
    (some ((0 : Int32), S0))) else
    if (a2 &&& (63 : Int32)) = (5 : Int32) then ((gX X (p3 + (1 : Int32))).bind fun a94 =>
    (gX X (p3 + (2 : Int32))).bind fun a97 =>
    (f_X10_stair a94 a97 S0).bind fun q100 =>
    (gX X (p3 + (1 : Int32))).bind fun a103 =>
    (gX X (p3 + (2 : Int32))).bind fun a106 =>
    (f_X11_stair a103 a106 S0).bind fun q109 =>
    if q100 = q109 then (lp_L_law_18 X  K n (p3 + (6 : Int32)) S0) else
    (some ((0 : Int32), S0))) else
    if (a2 &&& (63 : Int32)) = (6 : Int32) then ((gX X (p3 + (1 : Int32))).bind fun a114 =>
    (gX X (p3 + (2 : Int32))).bind fun a117 =>
    (f_X10_thing a114 a117 S0).bind fun q120 =>
    (gX X (p3 + (1 : Int32))).bind fun a123 =>
    (gX X (p3 + (2 : Int32))).bind fun a126 =>
    (f_X11_thing a123 a126 S0).bind fun q129 =>
    if q120 = q129 then (lp_L_law_18 X  K n (p3 + (6 : Int32)) S0) else
    (some ((0 : Int32), S0))) else
    if (a2 &&& (63 : Int32)) = (7 : Int32) then ((gX X (p3 + (1 : Int32))).bind fun a134 =>
    (gX X (p3 + (2 : Int32))).bind fun a137 =>
    (f_X10_age a134 a137 S0).bind fun q140 =>
    (gX X (p3 + (1 : Int32))).bind fun a143 =>
    (gX X (p3 + (2 : Int32))).bind fun a146 =>
    (f_X11_age a143 a146 S0).bind fun q149 =>
    if q140 = q149 then (lp_L_law_18 X  K n (p3 + (6 : Int32)) S0) else
    (some ((0 : Int32), S0))) else
    if (a2 &&& (63 : Int32)) = (8 : Int32) then ((gX X (p3 + (1 : Int32))).bind fun a154 =>
    (gX X (p3 + (2 : Int32))).bind fun a157 =>
    (f_X10_older a154 a157 S0).bind fun q160 =>
    (gX X (p3 + (1 : Int32))).bind fun a163 =>
    (gX X (p3 + (2 : Int32))).bind fun a166 =>
    (f_X11_older a163 a166 S0).bind fun q169 =>
    if q160 = q169 then (lp_L_law_18 X  K n (p3 + (6 : Int32)) S0) else
    (some ((0 : Int32), S0))) else
    if (a2 &&& (63 : Int32)) = (9 : Int32) then ((gX X (p3 + (1 : Int32))).bind fun a174 =>
    (gX X (p3 + (2 : Int32))).bind fun a177 =>
    (f_X10_go a174 a177 S0).bind fun q180 =>
    (gX X (p3 + (1 : Int32))).bind fun a183 =>
    (gX X (p3 + (2 : Int32))).bind fun a186 =>
    (f_X11_go a183 a186 q180.2).bind fun q189 =>
    if q180.1 = q189.1 then (lp_L_law_18 X  K n (p3 + (6 : Int32)) q189.2) else
    (some ((0 : Int32), q189.2))) else
    if (a2 &&& (63 : Int32)) = (10 : Int32) then ((gX X (p3 + (1 : Int32))).bind fun a194 =>
    (gX X (p3 + (2 : Int32))).bind fun a197 =>
    (f_X10_tick a194 a197 S0).bind fun q200 =>
    (gX X (p3 + (1 : Int32))).bind fun a203 =>
    (gX X (p3 + (2 : Int32))).bind fun a206 =>
    (f_X11_tick a203 a206 q200.2).bind fun q209 =>
    if q200.1 = q209.1 then (lp_L_law_18 X  K n (p3 + (6 : Int32)) q209.2) else
    (some ((0 : Int32), q209.2))) else
    if (a2 &&& (63 : Int32)) = (11 : Int32) then ((gX X (p3 + (1 : Int32))).bind fun a214 =>
    (gX X (p3 + (2 : Int32))).bind fun a217 =>
    (gX X (p3 + (3 : Int32))).bind fun a220 =>
    (gX X (p3 + (4 : Int32))).bind fun a223 =>
    (f_X10_ahead a214 a217 a220 a223 S0).bind fun q226 =>
    (gX X (p3 + (1 : Int32))).bind fun a229 =>
    (gX X (p3 + (2 : Int32))).bind fun a232 =>
    (gX X (p3 + (3 : Int32))).bind fun a235 =>
    (gX X (p3 + (4 : Int32))).bind fun a238 =>
    (f_X11_ahead a229 a232 a235 a238 q226.2).bind fun q241 =>
    if q226.1 = q241.1 then (lp_L_law_18 X  K n (p3 + (6 : Int32)) q241.2) else
    (some ((0 : Int32), q241.2))) else
    if (a2 &&& (63 : Int32)) = (12 : Int32) then ((gX X (p3 + (1 : Int32))).bind fun a246 =>
    (gX X (p3 + (2 : Int32))).bind fun a249 =>
    (f_X10_far a246 a249 S0).bind fun q252 =>
    (gX X (p3 + (1 : Int32))).bind fun a255 =>
    (gX X (p3 + (2 : Int32))).bind fun a258 =>
    (f_X11_far a255 a258 S0).bind fun q261 =>
    if q252 = q261 then (lp_L_law_18 X  K n (p3 + (6 : Int32)) S0) else
    (some ((0 : Int32), S0))) else
    if (a2 &&& (63 : Int32)) = (13 : Int32) then ((gX X (p3 + (1 : Int32))).bind fun a266 =>
    (gX X (p3 + (2 : Int32))).bind fun a269 =>
    (f_X10_next a266 a269 S0).bind fun q272 =>
    (gX X (p3 + (1 : Int32))).bind fun a275 =>
    (gX X (p3 + (2 : Int32))).bind fun a278 =>
    (f_X11_next a275 a278 S0).bind fun q281 =>
    if q272 = q281 then (lp_L_law_18 X  K n (p3 + (6 : Int32)) S0) else
    (some ((0 : Int32), S0))) else
    if (a2 &&& (63 : Int32)) = (14 : Int32) then ((gX X (p3 + (1 : Int32))).bind fun a286 =>
    (gX X (p3 + (2 : Int32))).bind fun a289 =>
    (gX X (p3 + (3 : Int32))).bind fun a292 =>
    (f_X10_clock a286 a289 a292 S0).bind fun q295 =>
    (gX X (p3 + (1 : Int32))).bind fun a298 =>
    (gX X (p3 + (2 : Int32))).bind fun a301 =>
    (gX X (p3 + (3 : Int32))).bind fun a304 =>
    (f_X11_clock a298 a301 a304 S0).bind fun q307 =>
    if q295 = q307 then (lp_L_law_18 X  K n (p3 + (6 : Int32)) S0) else
    (some ((0 : Int32), S0))) else
    if (a2 &&& (63 : Int32)) = (15 : Int32) then ((gX X (p3 + (1 : Int32))).bind fun a312 =>
    (gX X (p3 + (2 : Int32))).bind fun a315 =>
    (gX X (p3 + (3 : Int32))).bind fun a318 =>
    (f_X10_noons a312 a315 a318 S0).bind fun q321 =>
    (gX X (p3 + (1 : Int32))).bind fun a324 =>
    (gX X (p3 + (2 : Int32))).bind fun a327 =>
    (gX X (p3 + (3 : Int32))).bind fun a330 =>
    (f_X11_noons a324 a327 a330 S0).bind fun q333 =>
    if q321 = q333 then (lp_L_law_18 X  K n (p3 + (6 : Int32)) S0) else
    (some ((0 : Int32), S0))) else
    if (a2 &&& (63 : Int32)) = (16 : Int32) then ((gX X (p3 + (1 : Int32))).bind fun a338 =>
    (gX X (p3 + (2 : Int32))).bind fun a341 =>
    (gX X (p3 + (3 : Int32))).bind fun a344 =>
    (gX X (p3 + (4 : Int32))).bind fun a347 =>
    if a347 = (0 : Int32) then ((gX X (p3 + (5 : Int32))).bind fun a351 =>
    (f_X10_plan a338 a341 a344 (0 : Int32) a351 S0).bind fun q354 =>
    (gX X (p3 + (1 : Int32))).bind fun a357 =>
    (gX X (p3 + (2 : Int32))).bind fun a360 =>
    (gX X (p3 + (3 : Int32))).bind fun a363 =>
    (gX X (p3 + (4 : Int32))).bind fun a366 =>
    if a366 = (0 : Int32) then ((gX X (p3 + (5 : Int32))).bind fun a370 =>
    (f_X11_plan a357 a360 a363 (0 : Int32) a370 q354.2).bind fun q373 =>
    if q354.1 = q373.1 then (lp_L_law_18 X  K n (p3 + (6 : Int32)) q373.2) else
    (some ((0 : Int32), q373.2))) else
    ((gX X (p3 + (5 : Int32))).bind fun a377 =>
    (f_X11_plan a357 a360 a363 (1 : Int32) a377 q354.2).bind fun q380 =>
    if q354.1 = q380.1 then (lp_L_law_18 X  K n (p3 + (6 : Int32)) q380.2) else
    (some ((0 : Int32), q380.2)))) else
    ((gX X (p3 + (5 : Int32))).bind fun a384 =>
    (f_X10_plan a338 a341 a344 (1 : Int32) a384 S0).bind fun q387 =>
    (gX X (p3 + (1 : Int32))).bind fun a390 =>
    (gX X (p3 + (2 : Int32))).bind fun a393 =>
    (gX X (p3 + (3 : Int32))).bind fun a396 =>
    (gX X (p3 + (4 : Int32))).bind fun a399 =>
    if a399 = (0 : Int32) then ((gX X (p3 + (5 : Int32))).bind fun a403 =>
    (f_X11_plan a390 a393 a396 (0 : Int32) a403 q387.2).bind fun q406 =>
    if q387.1 = q406.1 then (lp_L_law_18 X  K n (p3 + (6 : Int32)) q406.2) else
    (some ((0 : Int32), q406.2))) else
    ((gX X (p3 + (5 : Int32))).bind fun a410 =>
    (f_X11_plan a390 a393 a396 (1 : Int32) a410 q387.2).bind fun q413 =>
    if q387.1 = q413.1 then (lp_L_law_18 X  K n (p3 + (6 : Int32)) q413.2) else
    (some ((0 : Int32), q413.2))))) else
    if (a2 &&& (63 : Int32)) = (17 : Int32) then ((gX X (p3 + (1 : Int32))).bind fun a418 =>
    (gX X (p3 + (2 : Int32))).bind fun a421 =>
    (gX X (p3 + (3 : Int32))).bind fun a424 =>
    (gX X (p3 + (4 : Int32))).bind fun a427 =>
    (gX X (p3 + (5 : Int32))).bind fun a430 =>
    (f_X10_even a418 a421 a424 a427 a430 S0).bind fun q433 =>
    (gX X (p3 + (1 : Int32))).bind fun a436 =>
    (gX X (p3 + (2 : Int32))).bind fun a439 =>
    (gX X (p3 + (3 : Int32))).bind fun a442 =>
    (gX X (p3 + (4 : Int32))).bind fun a445 =>
    (gX X (p3 + (5 : Int32))).bind fun a448 =>
    (f_X11_even a436 a439 a442 a445 a448 S0).bind fun q451 =>
    if q433 = q451 then (lp_L_law_18 X  K n (p3 + (6 : Int32)) S0) else
    (some ((0 : Int32), S0))) else
    if (a2 &&& (63 : Int32)) = (18 : Int32) then ((gX X (p3 + (1 : Int32))).bind fun a456 =>
    (gX X (p3 + (2 : Int32))).bind fun a459 =>
    (gX X (p3 + (3 : Int32))).bind fun a462 =>
    (gX X (p3 + (4 : Int32))).bind fun a465 =>
    (gX X (p3 + (5 : Int32))).bind fun a468 =>
    (f_X10_ripe a456 a459 a462 a465 a468 S0).bind fun q471 =>
    (gX X (p3 + (1 : Int32))).bind fun a474 =>
    (gX X (p3 + (2 : Int32))).bind fun a477 =>
    (gX X (p3 + (3 : Int32))).bind fun a480 =>
    (gX X (p3 + (4 : Int32))).bind fun a483 =>
    (gX X (p3 + (5 : Int32))).bind fun a486 =>
    (f_X11_ripe a474 a477 a480 a483 a486 q471.2).bind fun q489 =>
    if q471.1 = q489.1 then (lp_L_law_18 X  K n (p3 + (6 : Int32)) q489.2) else
    (some ((0 : Int32), q489.2))) else
    if (a2 &&& (63 : Int32)) = (19 : Int32) then ((gX X (p3 + (1 : Int32))).bind fun a494 =>
    (gX X (p3 + (2 : Int32))).bind fun a497 =>
    (gX X (p3 + (3 : Int32))).bind fun a500 =>
    (gX X (p3 + (4 : Int32))).bind fun a503 =>
    (gX X (p3 + (5 : Int32))).bind fun a506 =>
    (f_X10_owed a494 a497 a500 a503 a506 S0).bind fun q509 =>
    (gX X (p3 + (1 : Int32))).bind fun a512 =>
    (gX X (p3 + (2 : Int32))).bind fun a515 =>
    (gX X (p3 + (3 : Int32))).bind fun a518 =>
    (gX X (p3 + (4 : Int32))).bind fun a521 =>
    (gX X (p3 + (5 : Int32))).bind fun a524 =>
    (f_X11_owed a512 a515 a518 a521 a524 S0).bind fun q527 =>
    if q509 = q527 then (lp_L_law_18 X  K n (p3 + (6 : Int32)) S0) else
    (some ((0 : Int32), S0))) else
    if (a2 &&& (63 : Int32)) = (20 : Int32) then ((gX X (p3 + (1 : Int32))).bind fun a532 =>
    (gX X (p3 + (2 : Int32))).bind fun a535 =>
    (gX X (p3 + (3 : Int32))).bind fun a538 =>
    (gX X (p3 + (4 : Int32))).bind fun a541 =>
    (f_X10_hands a532 a535 a538 a541 S0).bind fun q544 =>
    (gX X (p3 + (1 : Int32))).bind fun a547 =>
    (gX X (p3 + (2 : Int32))).bind fun a550 =>
    (gX X (p3 + (3 : Int32))).bind fun a553 =>
    (gX X (p3 + (4 : Int32))).bind fun a556 =>
    (f_X11_hands a547 a550 a553 a556 S0).bind fun q559 =>
    if q544 = q559 then (lp_L_law_18 X  K n (p3 + (6 : Int32)) S0) else
    (some ((0 : Int32), S0))) else
    if (a2 &&& (63 : Int32)) = (21 : Int32) then ((gX X (p3 + (1 : Int32))).bind fun a564 =>
    (gX X (p3 + (2 : Int32))).bind fun a567 =>
    (gX X (p3 + (3 : Int32))).bind fun a570 =>
    if a570 = (0 : Int32) then ((f_X10_waiting a564 a567 (0 : Int32) S0).bind fun q574 =>
    (gX X (p3 + (1 : Int32))).bind fun a577 =>
    (gX X (p3 + (2 : Int32))).bind fun a580 =>
    (gX X (p3 + (3 : Int32))).bind fun a583 =>
    if a583 = (0 : Int32) then ((f_X11_waiting a577 a580 (0 : Int32) q574.2).bind fun q587 =>
    if q574.1 = q587.1 then (lp_L_law_18 X  K n (p3 + (6 : Int32)) q587.2) else
    (some ((0 : Int32), q587.2))) else
    ((f_X11_waiting a577 a580 (1 : Int32) q574.2).bind fun q591 =>
    if q574.1 = q591.1 then (lp_L_law_18 X  K n (p3 + (6 : Int32)) q591.2) else
    (some ((0 : Int32), q591.2)))) else
    ((f_X10_waiting a564 a567 (1 : Int32) S0).bind fun q595 =>
    (gX X (p3 + (1 : Int32))).bind fun a598 =>
    (gX X (p3 + (2 : Int32))).bind fun a601 =>
    (gX X (p3 + (3 : Int32))).bind fun a604 =>
    if a604 = (0 : Int32) then ((f_X11_waiting a598 a601 (0 : Int32) q595.2).bind fun q608 =>
    if q595.1 = q608.1 then (lp_L_law_18 X  K n (p3 + (6 : Int32)) q608.2) else
    (some ((0 : Int32), q608.2))) else
    ((f_X11_waiting a598 a601 (1 : Int32) q595.2).bind fun q612 =>
    if q595.1 = q612.1 then (lp_L_law_18 X  K n (p3 + (6 : Int32)) q612.2) else
    (some ((0 : Int32), q612.2))))) else
    if (a2 &&& (63 : Int32)) = (22 : Int32) then ((gX X (p3 + (1 : Int32))).bind fun a617 =>
    (gX X (p3 + (2 : Int32))).bind fun a620 =>
    (gX X (p3 + (3 : Int32))).bind fun a623 =>
    (gX X (p3 + (4 : Int32))).bind fun a626 =>
    (f_X10_when a617 a620 a623 a626 S0).bind fun q629 =>
    (gX X (p3 + (1 : Int32))).bind fun a632 =>
    (gX X (p3 + (2 : Int32))).bind fun a635 =>
    (gX X (p3 + (3 : Int32))).bind fun a638 =>
    (gX X (p3 + (4 : Int32))).bind fun a641 =>
    (f_X11_when a632 a635 a638 a641 S0).bind fun q644 =>
    if q629 = q644 then (lp_L_law_18 X  K n (p3 + (6 : Int32)) S0) else
    (some ((0 : Int32), S0))) else
    if (a2 &&& (63 : Int32)) = (23 : Int32) then ((gX X (p3 + (1 : Int32))).bind fun a649 =>
    (gX X (p3 + (2 : Int32))).bind fun a652 =>
    (gX X (p3 + (3 : Int32))).bind fun a655 =>
    (f_X10_shown a649 a652 a655 S0).bind fun q658 =>
    (gX X (p3 + (1 : Int32))).bind fun a661 =>
    (gX X (p3 + (2 : Int32))).bind fun a664 =>
    (gX X (p3 + (3 : Int32))).bind fun a667 =>
    (f_X11_shown a661 a664 a667 S0).bind fun q670 =>
    if q658 = q670 then (lp_L_law_18 X  K n (p3 + (6 : Int32)) S0) else
    (some ((0 : Int32), S0))) else
    if (a2 &&& (63 : Int32)) = (24 : Int32) then ((gX X (p3 + (1 : Int32))).bind fun a675 =>
    (gX X (p3 + (2 : Int32))).bind fun a678 =>
    (gX X (p3 + (3 : Int32))).bind fun a681 =>
    (f_X10_noonsIn a675 a678 a681 S0).bind fun q684 =>
    (gX X (p3 + (1 : Int32))).bind fun a687 =>
    (gX X (p3 + (2 : Int32))).bind fun a690 =>
    (gX X (p3 + (3 : Int32))).bind fun a693 =>
    (f_X11_noonsIn a687 a690 a693 S0).bind fun q696 =>
    if q684 = q696 then (lp_L_law_18 X  K n (p3 + (6 : Int32)) S0) else
    (some ((0 : Int32), S0))) else
    if (a2 &&& (63 : Int32)) = (25 : Int32) then ((gX X (p3 + (1 : Int32))).bind fun a701 =>
    (gX X (p3 + (2 : Int32))).bind fun a704 =>
    (f_X10_due a701 a704 S0).bind fun q707 =>
    (gX X (p3 + (1 : Int32))).bind fun a710 =>
    (gX X (p3 + (2 : Int32))).bind fun a713 =>
    (f_X11_due a710 a713 S0).bind fun q716 =>
    if q707 = q716 then (lp_L_law_18 X  K n (p3 + (6 : Int32)) S0) else
    (some ((0 : Int32), S0))) else
    if (a2 &&& (63 : Int32)) = (26 : Int32) then ((f_X10_needed  S0).bind fun q721 =>
    (f_X11_needed  S0).bind fun q724 =>
    if q721 = q724.1 then (lp_L_law_18 X  K n (p3 + (6 : Int32)) q724.2) else
    (some ((0 : Int32), q724.2))) else
    if (a2 &&& (63 : Int32)) = (27 : Int32) then ((gX X (p3 + (1 : Int32))).bind fun a729 =>
    (gX X (p3 + (2 : Int32))).bind fun a732 =>
    (gX X (p3 + (3 : Int32))).bind fun a735 =>
    (f_X10_elder a729 a732 a735 S0).bind fun q738 =>
    (gX X (p3 + (1 : Int32))).bind fun a741 =>
    (gX X (p3 + (2 : Int32))).bind fun a744 =>
    (gX X (p3 + (3 : Int32))).bind fun a747 =>
    (f_X11_elder a741 a744 a747 q738.2).bind fun q750 =>
    if q738.1 = q750.1 then (lp_L_law_18 X  K n (p3 + (6 : Int32)) q750.2) else
    (some ((0 : Int32), q750.2))) else
    if (a2 &&& (63 : Int32)) = (28 : Int32) then ((gX X (p3 + (1 : Int32))).bind fun a755 =>
    (gX X (p3 + (2 : Int32))).bind fun a758 =>
    (gX X (p3 + (3 : Int32))).bind fun a761 =>
    (f_X10_letter a755 a758 a761 S0).bind fun q764 =>
    (gX X (p3 + (1 : Int32))).bind fun a767 =>
    (gX X (p3 + (2 : Int32))).bind fun a770 =>
    (gX X (p3 + (3 : Int32))).bind fun a773 =>
    (f_X11_letter a767 a770 a773 q764.2).bind fun q776 =>
    if q764.1 = q776.1 then (lp_L_law_18 X  K n (p3 + (6 : Int32)) q776.2) else
    (some ((0 : Int32), q776.2))) else
    if (a2 &&& (63 : Int32)) = (29 : Int32) then ((gX X (p3 + (1 : Int32))).bind fun a781 =>
    (gX X (p3 + (2 : Int32))).bind fun a784 =>
    (f_X10_letters a781 a784 S0).bind fun q787 =>
    (gX X (p3 + (1 : Int32))).bind fun a790 =>
    (gX X (p3 + (2 : Int32))).bind fun a793 =>
    (f_X11_letters a790 a793 S0).bind fun q796 =>
    if q787 = q796 then (lp_L_law_18 X  K n (p3 + (6 : Int32)) S0) else
    (some ((0 : Int32), S0))) else
    if (a2 &&& (63 : Int32)) = (30 : Int32) then ((f_X10_crossed  S0).bind fun q801 =>
    (f_X11_crossed  S0).bind fun q804 =>
    if q801 = q804 then (lp_L_law_18 X  K n (p3 + (6 : Int32)) S0) else
    (some ((0 : Int32), S0))) else
    if (a2 &&& (63 : Int32)) = (31 : Int32) then ((gX X (p3 + (1 : Int32))).bind fun a809 =>
    (f_X10_order a809 S0).bind fun q812 =>
    (gX X (p3 + (1 : Int32))).bind fun a815 =>
    (f_X11_order a815 S0).bind fun q818 =>
    if q812 = q818 then (lp_L_law_18 X  K n (p3 + (6 : Int32)) S0) else
    (some ((0 : Int32), S0))) else
    if (a2 &&& (63 : Int32)) = (32 : Int32) then ((gX X (p3 + (1 : Int32))).bind fun a823 =>
    (f_X10_seed a823 S0).bind fun q826 =>
    (gX X (p3 + (1 : Int32))).bind fun a829 =>
    (f_X11_seed a829 q826.2).bind fun q832 =>
    if q826.1 = q832.1 then (lp_L_law_18 X  K n (p3 + (6 : Int32)) q832.2) else
    (some ((0 : Int32), q832.2))) else
    if (a2 &&& (63 : Int32)) = (33 : Int32) then ((gX X (p3 + (1 : Int32))).bind fun a837 =>
    (gX X (p3 + (2 : Int32))).bind fun a840 =>
    (gX X (p3 + (3 : Int32))).bind fun a843 =>
    (gX X (p3 + (4 : Int32))).bind fun a846 =>
    (gX X (p3 + (5 : Int32))).bind fun a849 =>
    (f_X10_meetings a837 a840 a843 a846 a849 S0).bind fun q852 =>
    (gX X (p3 + (1 : Int32))).bind fun a855 =>
    (gX X (p3 + (2 : Int32))).bind fun a858 =>
    (gX X (p3 + (3 : Int32))).bind fun a861 =>
    (gX X (p3 + (4 : Int32))).bind fun a864 =>
    (gX X (p3 + (5 : Int32))).bind fun a867 =>
    (f_X11_meetings a855 a858 a861 a864 a867 q852.2).bind fun q870 =>
    if q852.1 = q870.1 then (lp_L_law_18 X  K n (p3 + (6 : Int32)) q870.2) else
    (some ((0 : Int32), q870.2))) else
    if (a2 &&& (63 : Int32)) = (34 : Int32) then ((gX X (p3 + (1 : Int32))).bind fun a875 =>
    (f_X10_count a875 S0).bind fun q878 =>
    (gX X (p3 + (1 : Int32))).bind fun a881 =>
    (f_X11_count a881 S0).bind fun q884 =>
    if q878 = q884 then (lp_L_law_18 X  K n (p3 + (6 : Int32)) S0) else
    (some ((0 : Int32), S0))) else
    if (a2 &&& (63 : Int32)) = (35 : Int32) then ((gX X (p3 + (1 : Int32))).bind fun a889 =>
    (f_X10_image a889 S0).bind fun q892 =>
    (gX X (p3 + (1 : Int32))).bind fun a895 =>
    (f_X11_image a895 q892.2).bind fun q898 =>
    if q892.1 = q898.1 then (lp_L_law_18 X  K n (p3 + (6 : Int32)) q898.2) else
    (some ((0 : Int32), q898.2))) else
    if (a2 &&& (63 : Int32)) = (36 : Int32) then ((gX X (p3 + (1 : Int32))).bind fun a903 =>
    (f_X10_back a903 S0).bind fun q906 =>
    (gX X (p3 + (1 : Int32))).bind fun a909 =>
    (f_X11_back a909 q906.2).bind fun q912 =>
    if q906.1 = q912.1 then (lp_L_law_18 X  K n (p3 + (6 : Int32)) q912.2) else
    (some ((0 : Int32), q912.2))) else
    (lp_L_law_18 X  K n (p3 + (6 : Int32)) S0))
set_option maxHeartbeats 4000000 in
set_option maxRecDepth 100000 in
theorem ok_lp_L_law_18 {X : mm_C} {RR : Nat → Nat → Option Nat} (hR : RRok RR) (hL : X.1 < 100000)   {K : fS → Option (Int32 × fS)} {r : Int32 × fS} (hK : ∀ (Sk : fS), K Sk = some r → mr X 13 mY_L_law 1634 [] [] (MM RR Sk) (some (.int r.1), MM RR r.2)) : ∀ (n : Nat) (p3 : Int32) (S0 : fS), lp_L_law_18 X  K n p3 S0 = some r → mr X 13 mY_L_law 18 [(0, .ref mm_ext), (1, .ref 0), (2, .ref 145), (3, .int p3)] [] (MM RR S0) (some (.int r.1), MM RR r.2) := by
  intro n
  induction n with
  | zero => intro p3 S0 h; exact mm_no h
  | succ n ih =>
    intro p3 S0 h
    unfold lp_L_law_18 at h
    refine mr_iload_n (pc' := 19) dL_law_18 rfl rfl ?_
    refine mr_aload_n (pc' := 20) dL_law_19 rfl rfl ?_
    refine mr_xlen (pc' := 21) hL dL_law_20 rfl ?_
    refine mr_bipush (pc' := 23) (v := (6 : Int32)) dL_law_21 rfl (by decide) ?_
    refine mr_isub (pc' := 24) dL_law_23 rfl ?_
    by_cases c1 : ((Int32.ofNat X.1) - (6 : Int32)) < p3
    · rw [if_pos c1] at h
      refine mr_icmp_gt_t (t := 1634) dL_law_24 (by decide) c1 ?_
      exact mr_sub [] trivial rfl (hK _  h)
    · rw [if_neg c1] at h
      refine mr_icmp_gt_f (t := 1634) (pc' := 27) dL_law_24 (by decide) rfl c1 ?_
      refine mr_aload_n (pc' := 28) dL_law_27 rfl rfl ?_
      refine mr_iload_n (pc' := 29) dL_law_28 rfl rfl ?_
      obtain ⟨a2, g3, h4⟩ := Option.bind_eq_some_iff.mp h
      refine mr_xald (pc' := 30) hL dL_law_29 rfl g3 ?_
      refine mr_bipush (pc' := 32) (v := (63 : Int32)) dL_law_30 rfl (by decide) ?_
      refine mr_iand (pc' := 33) dL_law_32 rfl ?_
      by_cases c5 : (a2 &&& (63 : Int32)) = (0 : Int32)
      · rw [if_pos c5] at h4
        refine mr_sw_in (t := 196) (v := (0 : Int32)) dL_law_33 c5 rfl ?_
        refine mr_aload_n (pc' := 197) dL_law_196 rfl rfl ?_
        refine mr_aload_n (pc' := 198) dL_law_197 rfl rfl ?_
        refine mr_iload_n (pc' := 199) dL_law_198 rfl rfl ?_
        refine mr_iconst (pc' := 200) (v := (1 : Int32)) dL_law_199 rfl (by decide) ?_
        refine mr_iadd (pc' := 201) dL_law_200 rfl ?_
        obtain ⟨a6, g7, h8⟩ := Option.bind_eq_some_iff.mp h4
        refine mr_xald (pc' := 202) hL dL_law_201 rfl g7 ?_
        refine mr_aload_n (pc' := 203) dL_law_202 rfl rfl ?_
        refine mr_iload_n (pc' := 204) dL_law_203 rfl rfl ?_
        refine mr_iconst (pc' := 205) (v := (2 : Int32)) dL_law_204 rfl (by decide) ?_
        refine mr_iadd (pc' := 206) dL_law_205 rfl ?_
        obtain ⟨a9, g10, h11⟩ := Option.bind_eq_some_iff.mp h8
        refine mr_xald (pc' := 207) hL dL_law_206 rfl g10 ?_
        refine mr_aload_n (pc' := 208) dL_law_207 rfl rfl ?_
        refine mr_iload_n (pc' := 209) dL_law_208 rfl rfl ?_
        refine mr_iconst (pc' := 210) (v := (3 : Int32)) dL_law_209 rfl (by decide) ?_
        refine mr_iadd (pc' := 211) dL_law_210 rfl ?_
        obtain ⟨a12, g13, h14⟩ := Option.bind_eq_some_iff.mp h11
        refine mr_xald (pc' := 212) hL dL_law_211 rfl g13 ?_
        refine mr_aload_n (pc' := 213) dL_law_212 rfl rfl ?_
        refine mr_iload_n (pc' := 214) dL_law_213 rfl rfl ?_
        refine mr_iconst (pc' := 215) (v := (4 : Int32)) dL_law_214 rfl (by decide) ?_
        refine mr_iadd (pc' := 216) dL_law_215 rfl ?_
        obtain ⟨a15, g16, h17⟩ := Option.bind_eq_some_iff.mp h14
        refine mr_xald (pc' := 217) hL dL_law_216 rfl g16 ?_
        refine mr_aload_n (pc' := 218) dL_law_217 rfl rfl ?_
        refine mr_iload_n (pc' := 219) dL_law_218 rfl rfl ?_
        refine mr_iconst (pc' := 220) (v := (5 : Int32)) dL_law_219 rfl (by decide) ?_
        refine mr_iadd (pc' := 221) dL_law_220 rfl ?_
        obtain ⟨a18, g19, h20⟩ := Option.bind_eq_some_iff.mp h17
        refine mr_xald (pc' := 222) hL dL_law_221 rfl g19 ?_
        obtain ⟨q21, g22, h23⟩ := Option.bind_eq_some_iff.mp h20
        refine mr_cv (pc' := 225) (a := 0) (d1 := 1) dL_law_222 rfl rfl rfl rfl rfl rfl (by decide) rfl (by decide) (ok_X10_feed hR  g22) ?_
        show mr X _ _ 225 _ [.int q21.1] (MM RR q21.2) _
        refine mr_aload_n (pc' := 226) dL_law_225 rfl rfl ?_
        refine mr_aload_n (pc' := 227) dL_law_226 rfl rfl ?_
        refine mr_iload_n (pc' := 228) dL_law_227 rfl rfl ?_
        refine mr_iconst (pc' := 229) (v := (1 : Int32)) dL_law_228 rfl (by decide) ?_
        refine mr_iadd (pc' := 230) dL_law_229 rfl ?_
        obtain ⟨a24, g25, h26⟩ := Option.bind_eq_some_iff.mp h23
        refine mr_xald (pc' := 231) hL dL_law_230 rfl g25 ?_
        refine mr_aload_n (pc' := 232) dL_law_231 rfl rfl ?_
        refine mr_iload_n (pc' := 233) dL_law_232 rfl rfl ?_
        refine mr_iconst (pc' := 234) (v := (2 : Int32)) dL_law_233 rfl (by decide) ?_
        refine mr_iadd (pc' := 235) dL_law_234 rfl ?_
        obtain ⟨a27, g28, h29⟩ := Option.bind_eq_some_iff.mp h26
        refine mr_xald (pc' := 236) hL dL_law_235 rfl g28 ?_
        refine mr_aload_n (pc' := 237) dL_law_236 rfl rfl ?_
        refine mr_iload_n (pc' := 238) dL_law_237 rfl rfl ?_
        refine mr_iconst (pc' := 239) (v := (3 : Int32)) dL_law_238 rfl (by decide) ?_
        refine mr_iadd (pc' := 240) dL_law_239 rfl ?_
        obtain ⟨a30, g31, h32⟩ := Option.bind_eq_some_iff.mp h29
        refine mr_xald (pc' := 241) hL dL_law_240 rfl g31 ?_
        refine mr_aload_n (pc' := 242) dL_law_241 rfl rfl ?_
        refine mr_iload_n (pc' := 243) dL_law_242 rfl rfl ?_
        refine mr_iconst (pc' := 244) (v := (4 : Int32)) dL_law_243 rfl (by decide) ?_
        refine mr_iadd (pc' := 245) dL_law_244 rfl ?_
        obtain ⟨a33, g34, h35⟩ := Option.bind_eq_some_iff.mp h32
        refine mr_xald (pc' := 246) hL dL_law_245 rfl g34 ?_
        refine mr_aload_n (pc' := 247) dL_law_246 rfl rfl ?_
        refine mr_iload_n (pc' := 248) dL_law_247 rfl rfl ?_
        refine mr_iconst (pc' := 249) (v := (5 : Int32)) dL_law_248 rfl (by decide) ?_
        refine mr_iadd (pc' := 250) dL_law_249 rfl ?_
        obtain ⟨a36, g37, h38⟩ := Option.bind_eq_some_iff.mp h35
        refine mr_xald (pc' := 251) hL dL_law_250 rfl g37 ?_
        obtain ⟨q39, g40, h41⟩ := Option.bind_eq_some_iff.mp h38
        refine mr_cv (pc' := 254) (a := 145) (d1 := 1) dL_law_251 rfl rfl rfl rfl rfl rfl (by decide) rfl (by decide) (ok_X11_feed hR  g40) ?_
        show mr X _ _ 254 _ [.int q39.1, .int q21.1] (MM RR q39.2) _
        by_cases c42 : q21.1 = q39.1
        · rw [if_pos c42] at h41
          refine mr_icmp_eq_t (t := 1628) dL_law_254 (by decide) c42 ?_
          refine mr_iinc (pc' := 1631) (x' := (p3 + (6 : Int32))) (lv' := [(3, .int (p3 + (6 : Int32))), (0, .ref mm_ext), (1, .ref 0), (2, .ref 145)]) dL_law_1628 rfl (by decide) rfl rfl rfl ?_
          refine mr_goto (t := 18) dL_law_1631 (by decide) ?_
          exact mr_sub [(0, .ref mm_ext), (1, .ref 0), (2, .ref 145), (3, .int (p3 + (6 : Int32)))] ⟨rfl, rfl, rfl, rfl, trivial⟩ rfl (ih _ _  h41)
        · rw [if_neg c42] at h41
          refine mr_icmp_eq_f (t := 1628) (pc' := 257) dL_law_254 (by decide) rfl c42 ?_
          refine mr_iconst (pc' := 258) (v := (0 : Int32)) dL_law_257 rfl (by decide) ?_
          obtain rfl := Option.some.inj h41
          exact mr_zreturn dL_law_258 rfl (by decide)
      rw [if_neg c5] at h4
      by_cases c43 : (a2 &&& (63 : Int32)) = (1 : Int32)
      · rw [if_pos c43] at h4
        refine mr_sw_in (t := 259) (v := (1 : Int32)) dL_law_33 c43 rfl ?_
        refine mr_aload_n (pc' := 260) dL_law_259 rfl rfl ?_
        refine mr_aload_n (pc' := 261) dL_law_260 rfl rfl ?_
        refine mr_iload_n (pc' := 262) dL_law_261 rfl rfl ?_
        refine mr_iconst (pc' := 263) (v := (1 : Int32)) dL_law_262 rfl (by decide) ?_
        refine mr_iadd (pc' := 264) dL_law_263 rfl ?_
        obtain ⟨a44, g45, h46⟩ := Option.bind_eq_some_iff.mp h4
        refine mr_xald (pc' := 265) hL dL_law_264 rfl g45 ?_
        obtain ⟨q47, g48, h49⟩ := Option.bind_eq_some_iff.mp h46
        refine mr_cv (pc' := 268) (a := 0) (d1 := 1) dL_law_265 rfl rfl rfl rfl rfl rfl (by decide) rfl (by decide) (ok_X10_end hR  g48) ?_
        show mr X _ _ 268 _ [.int q47.1] (MM RR q47.2) _
        refine mr_aload_n (pc' := 269) dL_law_268 rfl rfl ?_
        refine mr_aload_n (pc' := 270) dL_law_269 rfl rfl ?_
        refine mr_iload_n (pc' := 271) dL_law_270 rfl rfl ?_
        refine mr_iconst (pc' := 272) (v := (1 : Int32)) dL_law_271 rfl (by decide) ?_
        refine mr_iadd (pc' := 273) dL_law_272 rfl ?_
        obtain ⟨a50, g51, h52⟩ := Option.bind_eq_some_iff.mp h49
        refine mr_xald (pc' := 274) hL dL_law_273 rfl g51 ?_
        obtain ⟨q53, g54, h55⟩ := Option.bind_eq_some_iff.mp h52
        refine mr_cv (pc' := 277) (a := 145) (d1 := 0) dL_law_274 rfl rfl rfl rfl rfl rfl (by decide) rfl (by decide) (ok_X11_end hR  g54) ?_
        show mr X _ _ 277 _ [.int q53.1, .int q47.1] (MM RR q53.2) _
        by_cases c56 : q47.1 = q53.1
        · rw [if_pos c56] at h55
          refine mr_icmp_eq_t (t := 1628) dL_law_277 (by decide) c56 ?_
          refine mr_iinc (pc' := 1631) (x' := (p3 + (6 : Int32))) (lv' := [(3, .int (p3 + (6 : Int32))), (0, .ref mm_ext), (1, .ref 0), (2, .ref 145)]) dL_law_1628 rfl (by decide) rfl rfl rfl ?_
          refine mr_goto (t := 18) dL_law_1631 (by decide) ?_
          exact mr_sub [(0, .ref mm_ext), (1, .ref 0), (2, .ref 145), (3, .int (p3 + (6 : Int32)))] ⟨rfl, rfl, rfl, rfl, trivial⟩ rfl (ih _ _  h55)
        · rw [if_neg c56] at h55
          refine mr_icmp_eq_f (t := 1628) (pc' := 280) dL_law_277 (by decide) rfl c56 ?_
          refine mr_iconst (pc' := 281) (v := (0 : Int32)) dL_law_280 rfl (by decide) ?_
          obtain rfl := Option.some.inj h55
          exact mr_zreturn dL_law_281 rfl (by decide)
      rw [if_neg c43] at h4
      by_cases c57 : (a2 &&& (63 : Int32)) = (2 : Int32)
      · rw [if_pos c57] at h4
        refine mr_sw_in (t := 282) (v := (2 : Int32)) dL_law_33 c57 rfl ?_
        refine mr_aload_n (pc' := 283) dL_law_282 rfl rfl ?_
        obtain ⟨q58, g59, h60⟩ := Option.bind_eq_some_iff.mp h4
        refine mr_cv (pc' := 286) (a := 0) (d1 := 7) dL_law_283 rfl rfl rfl rfl rfl rfl (by decide) rfl (by decide) (ok_X10_tower hR  g59) ?_
        show mr X _ _ 286 _ [.int q58.1] (MM RR q58.2) _
        refine mr_aload_n (pc' := 287) dL_law_286 rfl rfl ?_
        obtain ⟨q61, g62, h63⟩ := Option.bind_eq_some_iff.mp h60
        refine mr_cv (pc' := 290) (a := 145) (d1 := 12) dL_law_287 rfl rfl rfl rfl rfl rfl (by decide) rfl (by decide) (ok_X11_tower hR  g62) ?_
        show mr X _ _ 290 _ [.int q61.1, .int q58.1] (MM RR q61.2) _
        by_cases c64 : q58.1 = q61.1
        · rw [if_pos c64] at h63
          refine mr_icmp_eq_t (t := 1628) dL_law_290 (by decide) c64 ?_
          refine mr_iinc (pc' := 1631) (x' := (p3 + (6 : Int32))) (lv' := [(3, .int (p3 + (6 : Int32))), (0, .ref mm_ext), (1, .ref 0), (2, .ref 145)]) dL_law_1628 rfl (by decide) rfl rfl rfl ?_
          refine mr_goto (t := 18) dL_law_1631 (by decide) ?_
          exact mr_sub [(0, .ref mm_ext), (1, .ref 0), (2, .ref 145), (3, .int (p3 + (6 : Int32)))] ⟨rfl, rfl, rfl, rfl, trivial⟩ rfl (ih _ _  h63)
        · rw [if_neg c64] at h63
          refine mr_icmp_eq_f (t := 1628) (pc' := 293) dL_law_290 (by decide) rfl c64 ?_
          refine mr_iconst (pc' := 294) (v := (0 : Int32)) dL_law_293 rfl (by decide) ?_
          obtain rfl := Option.some.inj h63
          exact mr_zreturn dL_law_294 rfl (by decide)
      rw [if_neg c57] at h4
      by_cases c65 : (a2 &&& (63 : Int32)) = (3 : Int32)
      · rw [if_pos c65] at h4
        refine mr_sw_in (t := 295) (v := (3 : Int32)) dL_law_33 c65 rfl ?_
        refine mr_aload_n (pc' := 296) dL_law_295 rfl rfl ?_
        obtain ⟨q66, g67, h68⟩ := Option.bind_eq_some_iff.mp h4
        refine mr_cv (pc' := 299) (a := 0) (d1 := 10) dL_law_296 rfl rfl rfl rfl rfl rfl (by decide) rfl (by decide) (ok_X10_rule hR  g67) ?_
        show mr X _ _ 299 _ [.int q66.1] (MM RR q66.2) _
        refine mr_aload_n (pc' := 300) dL_law_299 rfl rfl ?_
        obtain ⟨q69, g70, h71⟩ := Option.bind_eq_some_iff.mp h68
        refine mr_cv (pc' := 303) (a := 145) (d1 := 12) dL_law_300 rfl rfl rfl rfl rfl rfl (by decide) rfl (by decide) (ok_X11_rule hR  g70) ?_
        show mr X _ _ 303 _ [.int q69.1, .int q66.1] (MM RR q69.2) _
        by_cases c72 : q66.1 = q69.1
        · rw [if_pos c72] at h71
          refine mr_icmp_eq_t (t := 1628) dL_law_303 (by decide) c72 ?_
          refine mr_iinc (pc' := 1631) (x' := (p3 + (6 : Int32))) (lv' := [(3, .int (p3 + (6 : Int32))), (0, .ref mm_ext), (1, .ref 0), (2, .ref 145)]) dL_law_1628 rfl (by decide) rfl rfl rfl ?_
          refine mr_goto (t := 18) dL_law_1631 (by decide) ?_
          exact mr_sub [(0, .ref mm_ext), (1, .ref 0), (2, .ref 145), (3, .int (p3 + (6 : Int32)))] ⟨rfl, rfl, rfl, rfl, trivial⟩ rfl (ih _ _  h71)
        · rw [if_neg c72] at h71
          refine mr_icmp_eq_f (t := 1628) (pc' := 306) dL_law_303 (by decide) rfl c72 ?_
          refine mr_iconst (pc' := 307) (v := (0 : Int32)) dL_law_306 rfl (by decide) ?_
          obtain rfl := Option.some.inj h71
          exact mr_zreturn dL_law_307 rfl (by decide)
      rw [if_neg c65] at h4
      by_cases c73 : (a2 &&& (63 : Int32)) = (4 : Int32)
      · rw [if_pos c73] at h4
        refine mr_sw_in (t := 308) (v := (4 : Int32)) dL_law_33 c73 rfl ?_
        refine mr_aload_n (pc' := 309) dL_law_308 rfl rfl ?_
        refine mr_aload_n (pc' := 310) dL_law_309 rfl rfl ?_
        refine mr_iload_n (pc' := 311) dL_law_310 rfl rfl ?_
        refine mr_iconst (pc' := 312) (v := (1 : Int32)) dL_law_311 rfl (by decide) ?_
        refine mr_iadd (pc' := 313) dL_law_312 rfl ?_
        obtain ⟨a74, g75, h76⟩ := Option.bind_eq_some_iff.mp h4
        refine mr_xald (pc' := 314) hL dL_law_313 rfl g75 ?_
        refine mr_aload_n (pc' := 315) dL_law_314 rfl rfl ?_
        refine mr_iload_n (pc' := 316) dL_law_315 rfl rfl ?_
        refine mr_iconst (pc' := 317) (v := (2 : Int32)) dL_law_316 rfl (by decide) ?_
        refine mr_iadd (pc' := 318) dL_law_317 rfl ?_
        obtain ⟨a77, g78, h79⟩ := Option.bind_eq_some_iff.mp h76
        refine mr_xald (pc' := 319) hL dL_law_318 rfl g78 ?_
        obtain ⟨q80, g81, h82⟩ := Option.bind_eq_some_iff.mp h79
        refine mr_cv (pc' := 322) (a := 0) (d1 := 3) dL_law_319 rfl rfl rfl rfl rfl rfl (by decide) rfl (by decide) (ok_X10_floor hR  g81) ?_
        show mr X _ _ 322 _ [.int q80] (MM RR S0) _
        refine mr_aload_n (pc' := 323) dL_law_322 rfl rfl ?_
        refine mr_aload_n (pc' := 324) dL_law_323 rfl rfl ?_
        refine mr_iload_n (pc' := 325) dL_law_324 rfl rfl ?_
        refine mr_iconst (pc' := 326) (v := (1 : Int32)) dL_law_325 rfl (by decide) ?_
        refine mr_iadd (pc' := 327) dL_law_326 rfl ?_
        obtain ⟨a83, g84, h85⟩ := Option.bind_eq_some_iff.mp h82
        refine mr_xald (pc' := 328) hL dL_law_327 rfl g84 ?_
        refine mr_aload_n (pc' := 329) dL_law_328 rfl rfl ?_
        refine mr_iload_n (pc' := 330) dL_law_329 rfl rfl ?_
        refine mr_iconst (pc' := 331) (v := (2 : Int32)) dL_law_330 rfl (by decide) ?_
        refine mr_iadd (pc' := 332) dL_law_331 rfl ?_
        obtain ⟨a86, g87, h88⟩ := Option.bind_eq_some_iff.mp h85
        refine mr_xald (pc' := 333) hL dL_law_332 rfl g87 ?_
        obtain ⟨q89, g90, h91⟩ := Option.bind_eq_some_iff.mp h88
        refine mr_cv (pc' := 336) (a := 145) (d1 := 2) dL_law_333 rfl rfl rfl rfl rfl rfl (by decide) rfl (by decide) (ok_X11_floor hR  g90) ?_
        show mr X _ _ 336 _ [.int q89, .int q80] (MM RR S0) _
        by_cases c92 : q80 = q89
        · rw [if_pos c92] at h91
          refine mr_icmp_eq_t (t := 1628) dL_law_336 (by decide) c92 ?_
          refine mr_iinc (pc' := 1631) (x' := (p3 + (6 : Int32))) (lv' := [(3, .int (p3 + (6 : Int32))), (0, .ref mm_ext), (1, .ref 0), (2, .ref 145)]) dL_law_1628 rfl (by decide) rfl rfl rfl ?_
          refine mr_goto (t := 18) dL_law_1631 (by decide) ?_
          exact mr_sub [(0, .ref mm_ext), (1, .ref 0), (2, .ref 145), (3, .int (p3 + (6 : Int32)))] ⟨rfl, rfl, rfl, rfl, trivial⟩ rfl (ih _ _  h91)
        · rw [if_neg c92] at h91
          refine mr_icmp_eq_f (t := 1628) (pc' := 339) dL_law_336 (by decide) rfl c92 ?_
          refine mr_iconst (pc' := 340) (v := (0 : Int32)) dL_law_339 rfl (by decide) ?_
          obtain rfl := Option.some.inj h91
          exact mr_zreturn dL_law_340 rfl (by decide)
      rw [if_neg c73] at h4
      by_cases c93 : (a2 &&& (63 : Int32)) = (5 : Int32)
      · rw [if_pos c93] at h4
        refine mr_sw_in (t := 341) (v := (5 : Int32)) dL_law_33 c93 rfl ?_
        refine mr_aload_n (pc' := 342) dL_law_341 rfl rfl ?_
        refine mr_aload_n (pc' := 343) dL_law_342 rfl rfl ?_
        refine mr_iload_n (pc' := 344) dL_law_343 rfl rfl ?_
        refine mr_iconst (pc' := 345) (v := (1 : Int32)) dL_law_344 rfl (by decide) ?_
        refine mr_iadd (pc' := 346) dL_law_345 rfl ?_
        obtain ⟨a94, g95, h96⟩ := Option.bind_eq_some_iff.mp h4
        refine mr_xald (pc' := 347) hL dL_law_346 rfl g95 ?_
        refine mr_aload_n (pc' := 348) dL_law_347 rfl rfl ?_
        refine mr_iload_n (pc' := 349) dL_law_348 rfl rfl ?_
        refine mr_iconst (pc' := 350) (v := (2 : Int32)) dL_law_349 rfl (by decide) ?_
        refine mr_iadd (pc' := 351) dL_law_350 rfl ?_
        obtain ⟨a97, g98, h99⟩ := Option.bind_eq_some_iff.mp h96
        refine mr_xald (pc' := 352) hL dL_law_351 rfl g98 ?_
        obtain ⟨q100, g101, h102⟩ := Option.bind_eq_some_iff.mp h99
        refine mr_cv (pc' := 355) (a := 0) (d1 := 3) dL_law_352 rfl rfl rfl rfl rfl rfl (by decide) rfl (by decide) (ok_X10_stair hR  g101) ?_
        show mr X _ _ 355 _ [.int q100] (MM RR S0) _
        refine mr_aload_n (pc' := 356) dL_law_355 rfl rfl ?_
        refine mr_aload_n (pc' := 357) dL_law_356 rfl rfl ?_
        refine mr_iload_n (pc' := 358) dL_law_357 rfl rfl ?_
        refine mr_iconst (pc' := 359) (v := (1 : Int32)) dL_law_358 rfl (by decide) ?_
        refine mr_iadd (pc' := 360) dL_law_359 rfl ?_
        obtain ⟨a103, g104, h105⟩ := Option.bind_eq_some_iff.mp h102
        refine mr_xald (pc' := 361) hL dL_law_360 rfl g104 ?_
        refine mr_aload_n (pc' := 362) dL_law_361 rfl rfl ?_
        refine mr_iload_n (pc' := 363) dL_law_362 rfl rfl ?_
        refine mr_iconst (pc' := 364) (v := (2 : Int32)) dL_law_363 rfl (by decide) ?_
        refine mr_iadd (pc' := 365) dL_law_364 rfl ?_
        obtain ⟨a106, g107, h108⟩ := Option.bind_eq_some_iff.mp h105
        refine mr_xald (pc' := 366) hL dL_law_365 rfl g107 ?_
        obtain ⟨q109, g110, h111⟩ := Option.bind_eq_some_iff.mp h108
        refine mr_cv (pc' := 369) (a := 145) (d1 := 2) dL_law_366 rfl rfl rfl rfl rfl rfl (by decide) rfl (by decide) (ok_X11_stair hR  g110) ?_
        show mr X _ _ 369 _ [.int q109, .int q100] (MM RR S0) _
        by_cases c112 : q100 = q109
        · rw [if_pos c112] at h111
          refine mr_icmp_eq_t (t := 1628) dL_law_369 (by decide) c112 ?_
          refine mr_iinc (pc' := 1631) (x' := (p3 + (6 : Int32))) (lv' := [(3, .int (p3 + (6 : Int32))), (0, .ref mm_ext), (1, .ref 0), (2, .ref 145)]) dL_law_1628 rfl (by decide) rfl rfl rfl ?_
          refine mr_goto (t := 18) dL_law_1631 (by decide) ?_
          exact mr_sub [(0, .ref mm_ext), (1, .ref 0), (2, .ref 145), (3, .int (p3 + (6 : Int32)))] ⟨rfl, rfl, rfl, rfl, trivial⟩ rfl (ih _ _  h111)
        · rw [if_neg c112] at h111
          refine mr_icmp_eq_f (t := 1628) (pc' := 372) dL_law_369 (by decide) rfl c112 ?_
          refine mr_iconst (pc' := 373) (v := (0 : Int32)) dL_law_372 rfl (by decide) ?_
          obtain rfl := Option.some.inj h111
          exact mr_zreturn dL_law_373 rfl (by decide)
      rw [if_neg c93] at h4
      by_cases c113 : (a2 &&& (63 : Int32)) = (6 : Int32)
      · rw [if_pos c113] at h4
        refine mr_sw_in (t := 374) (v := (6 : Int32)) dL_law_33 c113 rfl ?_
        refine mr_aload_n (pc' := 375) dL_law_374 rfl rfl ?_
        refine mr_aload_n (pc' := 376) dL_law_375 rfl rfl ?_
        refine mr_iload_n (pc' := 377) dL_law_376 rfl rfl ?_
        refine mr_iconst (pc' := 378) (v := (1 : Int32)) dL_law_377 rfl (by decide) ?_
        refine mr_iadd (pc' := 379) dL_law_378 rfl ?_
        obtain ⟨a114, g115, h116⟩ := Option.bind_eq_some_iff.mp h4
        refine mr_xald (pc' := 380) hL dL_law_379 rfl g115 ?_
        refine mr_aload_n (pc' := 381) dL_law_380 rfl rfl ?_
        refine mr_iload_n (pc' := 382) dL_law_381 rfl rfl ?_
        refine mr_iconst (pc' := 383) (v := (2 : Int32)) dL_law_382 rfl (by decide) ?_
        refine mr_iadd (pc' := 384) dL_law_383 rfl ?_
        obtain ⟨a117, g118, h119⟩ := Option.bind_eq_some_iff.mp h116
        refine mr_xald (pc' := 385) hL dL_law_384 rfl g118 ?_
        obtain ⟨q120, g121, h122⟩ := Option.bind_eq_some_iff.mp h119
        refine mr_cv (pc' := 388) (a := 0) (d1 := 2) dL_law_385 rfl rfl rfl rfl rfl rfl (by decide) rfl (by decide) (ok_X10_thing hR  g121) ?_
        show mr X _ _ 388 _ [.int q120] (MM RR S0) _
        refine mr_aload_n (pc' := 389) dL_law_388 rfl rfl ?_
        refine mr_aload_n (pc' := 390) dL_law_389 rfl rfl ?_
        refine mr_iload_n (pc' := 391) dL_law_390 rfl rfl ?_
        refine mr_iconst (pc' := 392) (v := (1 : Int32)) dL_law_391 rfl (by decide) ?_
        refine mr_iadd (pc' := 393) dL_law_392 rfl ?_
        obtain ⟨a123, g124, h125⟩ := Option.bind_eq_some_iff.mp h122
        refine mr_xald (pc' := 394) hL dL_law_393 rfl g124 ?_
        refine mr_aload_n (pc' := 395) dL_law_394 rfl rfl ?_
        refine mr_iload_n (pc' := 396) dL_law_395 rfl rfl ?_
        refine mr_iconst (pc' := 397) (v := (2 : Int32)) dL_law_396 rfl (by decide) ?_
        refine mr_iadd (pc' := 398) dL_law_397 rfl ?_
        obtain ⟨a126, g127, h128⟩ := Option.bind_eq_some_iff.mp h125
        refine mr_xald (pc' := 399) hL dL_law_398 rfl g127 ?_
        obtain ⟨q129, g130, h131⟩ := Option.bind_eq_some_iff.mp h128
        refine mr_cv (pc' := 402) (a := 145) (d1 := 1) dL_law_399 rfl rfl rfl rfl rfl rfl (by decide) rfl (by decide) (ok_X11_thing hR  g130) ?_
        show mr X _ _ 402 _ [.int q129, .int q120] (MM RR S0) _
        by_cases c132 : q120 = q129
        · rw [if_pos c132] at h131
          refine mr_icmp_eq_t (t := 1628) dL_law_402 (by decide) c132 ?_
          refine mr_iinc (pc' := 1631) (x' := (p3 + (6 : Int32))) (lv' := [(3, .int (p3 + (6 : Int32))), (0, .ref mm_ext), (1, .ref 0), (2, .ref 145)]) dL_law_1628 rfl (by decide) rfl rfl rfl ?_
          refine mr_goto (t := 18) dL_law_1631 (by decide) ?_
          exact mr_sub [(0, .ref mm_ext), (1, .ref 0), (2, .ref 145), (3, .int (p3 + (6 : Int32)))] ⟨rfl, rfl, rfl, rfl, trivial⟩ rfl (ih _ _  h131)
        · rw [if_neg c132] at h131
          refine mr_icmp_eq_f (t := 1628) (pc' := 405) dL_law_402 (by decide) rfl c132 ?_
          refine mr_iconst (pc' := 406) (v := (0 : Int32)) dL_law_405 rfl (by decide) ?_
          obtain rfl := Option.some.inj h131
          exact mr_zreturn dL_law_406 rfl (by decide)
      rw [if_neg c113] at h4
      by_cases c133 : (a2 &&& (63 : Int32)) = (7 : Int32)
      · rw [if_pos c133] at h4
        refine mr_sw_in (t := 407) (v := (7 : Int32)) dL_law_33 c133 rfl ?_
        refine mr_aload_n (pc' := 408) dL_law_407 rfl rfl ?_
        refine mr_aload_n (pc' := 409) dL_law_408 rfl rfl ?_
        refine mr_iload_n (pc' := 410) dL_law_409 rfl rfl ?_
        refine mr_iconst (pc' := 411) (v := (1 : Int32)) dL_law_410 rfl (by decide) ?_
        refine mr_iadd (pc' := 412) dL_law_411 rfl ?_
        obtain ⟨a134, g135, h136⟩ := Option.bind_eq_some_iff.mp h4
        refine mr_xald (pc' := 413) hL dL_law_412 rfl g135 ?_
        refine mr_aload_n (pc' := 414) dL_law_413 rfl rfl ?_
        refine mr_iload_n (pc' := 415) dL_law_414 rfl rfl ?_
        refine mr_iconst (pc' := 416) (v := (2 : Int32)) dL_law_415 rfl (by decide) ?_
        refine mr_iadd (pc' := 417) dL_law_416 rfl ?_
        obtain ⟨a137, g138, h139⟩ := Option.bind_eq_some_iff.mp h136
        refine mr_xald (pc' := 418) hL dL_law_417 rfl g138 ?_
        obtain ⟨q140, g141, h142⟩ := Option.bind_eq_some_iff.mp h139
        refine mr_cv (pc' := 421) (a := 0) (d1 := 3) dL_law_418 rfl rfl rfl rfl rfl rfl (by decide) rfl (by decide) (ok_X10_age hR  g141) ?_
        show mr X _ _ 421 _ [.long q140] (MM RR S0) _
        refine mr_aload_n (pc' := 422) dL_law_421 rfl rfl ?_
        refine mr_aload_n (pc' := 423) dL_law_422 rfl rfl ?_
        refine mr_iload_n (pc' := 424) dL_law_423 rfl rfl ?_
        refine mr_iconst (pc' := 425) (v := (1 : Int32)) dL_law_424 rfl (by decide) ?_
        refine mr_iadd (pc' := 426) dL_law_425 rfl ?_
        obtain ⟨a143, g144, h145⟩ := Option.bind_eq_some_iff.mp h142
        refine mr_xald (pc' := 427) hL dL_law_426 rfl g144 ?_
        refine mr_aload_n (pc' := 428) dL_law_427 rfl rfl ?_
        refine mr_iload_n (pc' := 429) dL_law_428 rfl rfl ?_
        refine mr_iconst (pc' := 430) (v := (2 : Int32)) dL_law_429 rfl (by decide) ?_
        refine mr_iadd (pc' := 431) dL_law_430 rfl ?_
        obtain ⟨a146, g147, h148⟩ := Option.bind_eq_some_iff.mp h145
        refine mr_xald (pc' := 432) hL dL_law_431 rfl g147 ?_
        obtain ⟨q149, g150, h151⟩ := Option.bind_eq_some_iff.mp h148
        refine mr_cv (pc' := 435) (a := 145) (d1 := 2) dL_law_432 rfl rfl rfl rfl rfl rfl (by decide) rfl (by decide) (ok_X11_age hR  g150) ?_
        show mr X _ _ 435 _ [.long q149, .long q140] (MM RR S0) _
        by_cases c152 : q140 = q149
        · rw [if_pos c152] at h151
          refine mr_lcmp_eq_t (t := 1628) dL_law_435 rfl dL_law_436 (by decide) c152 ?_
          refine mr_iinc (pc' := 1631) (x' := (p3 + (6 : Int32))) (lv' := [(3, .int (p3 + (6 : Int32))), (0, .ref mm_ext), (1, .ref 0), (2, .ref 145)]) dL_law_1628 rfl (by decide) rfl rfl rfl ?_
          refine mr_goto (t := 18) dL_law_1631 (by decide) ?_
          exact mr_sub [(0, .ref mm_ext), (1, .ref 0), (2, .ref 145), (3, .int (p3 + (6 : Int32)))] ⟨rfl, rfl, rfl, rfl, trivial⟩ rfl (ih _ _  h151)
        · rw [if_neg c152] at h151
          refine mr_lcmp_eq_f (t := 1628) (pc' := 439) dL_law_435 rfl dL_law_436 (by decide) rfl c152 ?_
          refine mr_iconst (pc' := 440) (v := (0 : Int32)) dL_law_439 rfl (by decide) ?_
          obtain rfl := Option.some.inj h151
          exact mr_zreturn dL_law_440 rfl (by decide)
      rw [if_neg c133] at h4
      by_cases c153 : (a2 &&& (63 : Int32)) = (8 : Int32)
      · rw [if_pos c153] at h4
        refine mr_sw_in (t := 441) (v := (8 : Int32)) dL_law_33 c153 rfl ?_
        refine mr_aload_n (pc' := 442) dL_law_441 rfl rfl ?_
        refine mr_aload_n (pc' := 443) dL_law_442 rfl rfl ?_
        refine mr_iload_n (pc' := 444) dL_law_443 rfl rfl ?_
        refine mr_iconst (pc' := 445) (v := (1 : Int32)) dL_law_444 rfl (by decide) ?_
        refine mr_iadd (pc' := 446) dL_law_445 rfl ?_
        obtain ⟨a154, g155, h156⟩ := Option.bind_eq_some_iff.mp h4
        refine mr_xald (pc' := 447) hL dL_law_446 rfl g155 ?_
        refine mr_aload_n (pc' := 448) dL_law_447 rfl rfl ?_
        refine mr_iload_n (pc' := 449) dL_law_448 rfl rfl ?_
        refine mr_iconst (pc' := 450) (v := (2 : Int32)) dL_law_449 rfl (by decide) ?_
        refine mr_iadd (pc' := 451) dL_law_450 rfl ?_
        obtain ⟨a157, g158, h159⟩ := Option.bind_eq_some_iff.mp h156
        refine mr_xald (pc' := 452) hL dL_law_451 rfl g158 ?_
        obtain ⟨q160, g161, h162⟩ := Option.bind_eq_some_iff.mp h159
        refine mr_cv (pc' := 455) (a := 0) (d1 := 2) dL_law_452 rfl rfl rfl rfl rfl rfl (by decide) rfl (by decide) (ok_X10_older hR  g161) ?_
        show mr X _ _ 455 _ [.int q160] (MM RR S0) _
        refine mr_aload_n (pc' := 456) dL_law_455 rfl rfl ?_
        refine mr_aload_n (pc' := 457) dL_law_456 rfl rfl ?_
        refine mr_iload_n (pc' := 458) dL_law_457 rfl rfl ?_
        refine mr_iconst (pc' := 459) (v := (1 : Int32)) dL_law_458 rfl (by decide) ?_
        refine mr_iadd (pc' := 460) dL_law_459 rfl ?_
        obtain ⟨a163, g164, h165⟩ := Option.bind_eq_some_iff.mp h162
        refine mr_xald (pc' := 461) hL dL_law_460 rfl g164 ?_
        refine mr_aload_n (pc' := 462) dL_law_461 rfl rfl ?_
        refine mr_iload_n (pc' := 463) dL_law_462 rfl rfl ?_
        refine mr_iconst (pc' := 464) (v := (2 : Int32)) dL_law_463 rfl (by decide) ?_
        refine mr_iadd (pc' := 465) dL_law_464 rfl ?_
        obtain ⟨a166, g167, h168⟩ := Option.bind_eq_some_iff.mp h165
        refine mr_xald (pc' := 466) hL dL_law_465 rfl g167 ?_
        obtain ⟨q169, g170, h171⟩ := Option.bind_eq_some_iff.mp h168
        refine mr_cv (pc' := 469) (a := 145) (d1 := 1) dL_law_466 rfl rfl rfl rfl rfl rfl (by decide) rfl (by decide) (ok_X11_older hR  g170) ?_
        show mr X _ _ 469 _ [.int q169, .int q160] (MM RR S0) _
        by_cases c172 : q160 = q169
        · rw [if_pos c172] at h171
          refine mr_icmp_eq_t (t := 1628) dL_law_469 (by decide) c172 ?_
          refine mr_iinc (pc' := 1631) (x' := (p3 + (6 : Int32))) (lv' := [(3, .int (p3 + (6 : Int32))), (0, .ref mm_ext), (1, .ref 0), (2, .ref 145)]) dL_law_1628 rfl (by decide) rfl rfl rfl ?_
          refine mr_goto (t := 18) dL_law_1631 (by decide) ?_
          exact mr_sub [(0, .ref mm_ext), (1, .ref 0), (2, .ref 145), (3, .int (p3 + (6 : Int32)))] ⟨rfl, rfl, rfl, rfl, trivial⟩ rfl (ih _ _  h171)
        · rw [if_neg c172] at h171
          refine mr_icmp_eq_f (t := 1628) (pc' := 472) dL_law_469 (by decide) rfl c172 ?_
          refine mr_iconst (pc' := 473) (v := (0 : Int32)) dL_law_472 rfl (by decide) ?_
          obtain rfl := Option.some.inj h171
          exact mr_zreturn dL_law_473 rfl (by decide)
      rw [if_neg c153] at h4
      by_cases c173 : (a2 &&& (63 : Int32)) = (9 : Int32)
      · rw [if_pos c173] at h4
        refine mr_sw_in (t := 474) (v := (9 : Int32)) dL_law_33 c173 rfl ?_
        refine mr_aload_n (pc' := 475) dL_law_474 rfl rfl ?_
        refine mr_aload_n (pc' := 476) dL_law_475 rfl rfl ?_
        refine mr_iload_n (pc' := 477) dL_law_476 rfl rfl ?_
        refine mr_iconst (pc' := 478) (v := (1 : Int32)) dL_law_477 rfl (by decide) ?_
        refine mr_iadd (pc' := 479) dL_law_478 rfl ?_
        obtain ⟨a174, g175, h176⟩ := Option.bind_eq_some_iff.mp h4
        refine mr_xald (pc' := 480) hL dL_law_479 rfl g175 ?_
        refine mr_aload_n (pc' := 481) dL_law_480 rfl rfl ?_
        refine mr_iload_n (pc' := 482) dL_law_481 rfl rfl ?_
        refine mr_iconst (pc' := 483) (v := (2 : Int32)) dL_law_482 rfl (by decide) ?_
        refine mr_iadd (pc' := 484) dL_law_483 rfl ?_
        obtain ⟨a177, g178, h179⟩ := Option.bind_eq_some_iff.mp h176
        refine mr_xald (pc' := 485) hL dL_law_484 rfl g178 ?_
        obtain ⟨q180, g181, h182⟩ := Option.bind_eq_some_iff.mp h179
        refine mr_cv (pc' := 488) (a := 0) (d1 := 3) dL_law_485 rfl rfl rfl rfl rfl rfl (by decide) rfl (by decide) (ok_X10_go hR  g181) ?_
        show mr X _ _ 488 _ [.int q180.1] (MM RR q180.2) _
        refine mr_aload_n (pc' := 489) dL_law_488 rfl rfl ?_
        refine mr_aload_n (pc' := 490) dL_law_489 rfl rfl ?_
        refine mr_iload_n (pc' := 491) dL_law_490 rfl rfl ?_
        refine mr_iconst (pc' := 492) (v := (1 : Int32)) dL_law_491 rfl (by decide) ?_
        refine mr_iadd (pc' := 493) dL_law_492 rfl ?_
        obtain ⟨a183, g184, h185⟩ := Option.bind_eq_some_iff.mp h182
        refine mr_xald (pc' := 494) hL dL_law_493 rfl g184 ?_
        refine mr_aload_n (pc' := 495) dL_law_494 rfl rfl ?_
        refine mr_iload_n (pc' := 496) dL_law_495 rfl rfl ?_
        refine mr_iconst (pc' := 497) (v := (2 : Int32)) dL_law_496 rfl (by decide) ?_
        refine mr_iadd (pc' := 498) dL_law_497 rfl ?_
        obtain ⟨a186, g187, h188⟩ := Option.bind_eq_some_iff.mp h185
        refine mr_xald (pc' := 499) hL dL_law_498 rfl g187 ?_
        obtain ⟨q189, g190, h191⟩ := Option.bind_eq_some_iff.mp h188
        refine mr_cv (pc' := 502) (a := 145) (d1 := 3) dL_law_499 rfl rfl rfl rfl rfl rfl (by decide) rfl (by decide) (ok_X11_go hR  g190) ?_
        show mr X _ _ 502 _ [.int q189.1, .int q180.1] (MM RR q189.2) _
        by_cases c192 : q180.1 = q189.1
        · rw [if_pos c192] at h191
          refine mr_icmp_eq_t (t := 1628) dL_law_502 (by decide) c192 ?_
          refine mr_iinc (pc' := 1631) (x' := (p3 + (6 : Int32))) (lv' := [(3, .int (p3 + (6 : Int32))), (0, .ref mm_ext), (1, .ref 0), (2, .ref 145)]) dL_law_1628 rfl (by decide) rfl rfl rfl ?_
          refine mr_goto (t := 18) dL_law_1631 (by decide) ?_
          exact mr_sub [(0, .ref mm_ext), (1, .ref 0), (2, .ref 145), (3, .int (p3 + (6 : Int32)))] ⟨rfl, rfl, rfl, rfl, trivial⟩ rfl (ih _ _  h191)
        · rw [if_neg c192] at h191
          refine mr_icmp_eq_f (t := 1628) (pc' := 505) dL_law_502 (by decide) rfl c192 ?_
          refine mr_iconst (pc' := 506) (v := (0 : Int32)) dL_law_505 rfl (by decide) ?_
          obtain rfl := Option.some.inj h191
          exact mr_zreturn dL_law_506 rfl (by decide)
      rw [if_neg c173] at h4
      by_cases c193 : (a2 &&& (63 : Int32)) = (10 : Int32)
      · rw [if_pos c193] at h4
        refine mr_sw_in (t := 507) (v := (10 : Int32)) dL_law_33 c193 rfl ?_
        refine mr_aload_n (pc' := 508) dL_law_507 rfl rfl ?_
        refine mr_aload_n (pc' := 509) dL_law_508 rfl rfl ?_
        refine mr_iload_n (pc' := 510) dL_law_509 rfl rfl ?_
        refine mr_iconst (pc' := 511) (v := (1 : Int32)) dL_law_510 rfl (by decide) ?_
        refine mr_iadd (pc' := 512) dL_law_511 rfl ?_
        obtain ⟨a194, g195, h196⟩ := Option.bind_eq_some_iff.mp h4
        refine mr_xald (pc' := 513) hL dL_law_512 rfl g195 ?_
        refine mr_aload_n (pc' := 514) dL_law_513 rfl rfl ?_
        refine mr_iload_n (pc' := 515) dL_law_514 rfl rfl ?_
        refine mr_iconst (pc' := 516) (v := (2 : Int32)) dL_law_515 rfl (by decide) ?_
        refine mr_iadd (pc' := 517) dL_law_516 rfl ?_
        obtain ⟨a197, g198, h199⟩ := Option.bind_eq_some_iff.mp h196
        refine mr_xald (pc' := 518) hL dL_law_517 rfl g198 ?_
        obtain ⟨q200, g201, h202⟩ := Option.bind_eq_some_iff.mp h199
        refine mr_cv (pc' := 521) (a := 0) (d1 := 5) dL_law_518 rfl rfl rfl rfl rfl rfl (by decide) rfl (by decide) (ok_X10_tick hR  g201) ?_
        show mr X _ _ 521 _ [.int q200.1] (MM RR q200.2) _
        refine mr_aload_n (pc' := 522) dL_law_521 rfl rfl ?_
        refine mr_aload_n (pc' := 523) dL_law_522 rfl rfl ?_
        refine mr_iload_n (pc' := 524) dL_law_523 rfl rfl ?_
        refine mr_iconst (pc' := 525) (v := (1 : Int32)) dL_law_524 rfl (by decide) ?_
        refine mr_iadd (pc' := 526) dL_law_525 rfl ?_
        obtain ⟨a203, g204, h205⟩ := Option.bind_eq_some_iff.mp h202
        refine mr_xald (pc' := 527) hL dL_law_526 rfl g204 ?_
        refine mr_aload_n (pc' := 528) dL_law_527 rfl rfl ?_
        refine mr_iload_n (pc' := 529) dL_law_528 rfl rfl ?_
        refine mr_iconst (pc' := 530) (v := (2 : Int32)) dL_law_529 rfl (by decide) ?_
        refine mr_iadd (pc' := 531) dL_law_530 rfl ?_
        obtain ⟨a206, g207, h208⟩ := Option.bind_eq_some_iff.mp h205
        refine mr_xald (pc' := 532) hL dL_law_531 rfl g207 ?_
        obtain ⟨q209, g210, h211⟩ := Option.bind_eq_some_iff.mp h208
        refine mr_cv (pc' := 535) (a := 145) (d1 := 5) dL_law_532 rfl rfl rfl rfl rfl rfl (by decide) rfl (by decide) (ok_X11_tick hR  g210) ?_
        show mr X _ _ 535 _ [.int q209.1, .int q200.1] (MM RR q209.2) _
        by_cases c212 : q200.1 = q209.1
        · rw [if_pos c212] at h211
          refine mr_icmp_eq_t (t := 1628) dL_law_535 (by decide) c212 ?_
          refine mr_iinc (pc' := 1631) (x' := (p3 + (6 : Int32))) (lv' := [(3, .int (p3 + (6 : Int32))), (0, .ref mm_ext), (1, .ref 0), (2, .ref 145)]) dL_law_1628 rfl (by decide) rfl rfl rfl ?_
          refine mr_goto (t := 18) dL_law_1631 (by decide) ?_
          exact mr_sub [(0, .ref mm_ext), (1, .ref 0), (2, .ref 145), (3, .int (p3 + (6 : Int32)))] ⟨rfl, rfl, rfl, rfl, trivial⟩ rfl (ih _ _  h211)
        · rw [if_neg c212] at h211
          refine mr_icmp_eq_f (t := 1628) (pc' := 538) dL_law_535 (by decide) rfl c212 ?_
          refine mr_iconst (pc' := 539) (v := (0 : Int32)) dL_law_538 rfl (by decide) ?_
          obtain rfl := Option.some.inj h211
          exact mr_zreturn dL_law_539 rfl (by decide)
      rw [if_neg c193] at h4
      by_cases c213 : (a2 &&& (63 : Int32)) = (11 : Int32)
      · rw [if_pos c213] at h4
        refine mr_sw_in (t := 540) (v := (11 : Int32)) dL_law_33 c213 rfl ?_
        refine mr_aload_n (pc' := 541) dL_law_540 rfl rfl ?_
        refine mr_aload_n (pc' := 542) dL_law_541 rfl rfl ?_
        refine mr_iload_n (pc' := 543) dL_law_542 rfl rfl ?_
        refine mr_iconst (pc' := 544) (v := (1 : Int32)) dL_law_543 rfl (by decide) ?_
        refine mr_iadd (pc' := 545) dL_law_544 rfl ?_
        obtain ⟨a214, g215, h216⟩ := Option.bind_eq_some_iff.mp h4
        refine mr_xald (pc' := 546) hL dL_law_545 rfl g215 ?_
        refine mr_aload_n (pc' := 547) dL_law_546 rfl rfl ?_
        refine mr_iload_n (pc' := 548) dL_law_547 rfl rfl ?_
        refine mr_iconst (pc' := 549) (v := (2 : Int32)) dL_law_548 rfl (by decide) ?_
        refine mr_iadd (pc' := 550) dL_law_549 rfl ?_
        obtain ⟨a217, g218, h219⟩ := Option.bind_eq_some_iff.mp h216
        refine mr_xald (pc' := 551) hL dL_law_550 rfl g218 ?_
        refine mr_aload_n (pc' := 552) dL_law_551 rfl rfl ?_
        refine mr_iload_n (pc' := 553) dL_law_552 rfl rfl ?_
        refine mr_iconst (pc' := 554) (v := (3 : Int32)) dL_law_553 rfl (by decide) ?_
        refine mr_iadd (pc' := 555) dL_law_554 rfl ?_
        obtain ⟨a220, g221, h222⟩ := Option.bind_eq_some_iff.mp h219
        refine mr_xald (pc' := 556) hL dL_law_555 rfl g221 ?_
        refine mr_aload_n (pc' := 557) dL_law_556 rfl rfl ?_
        refine mr_iload_n (pc' := 558) dL_law_557 rfl rfl ?_
        refine mr_iconst (pc' := 559) (v := (4 : Int32)) dL_law_558 rfl (by decide) ?_
        refine mr_iadd (pc' := 560) dL_law_559 rfl ?_
        obtain ⟨a223, g224, h225⟩ := Option.bind_eq_some_iff.mp h222
        refine mr_xald (pc' := 561) hL dL_law_560 rfl g224 ?_
        obtain ⟨q226, g227, h228⟩ := Option.bind_eq_some_iff.mp h225
        refine mr_cv (pc' := 564) (a := 0) (d1 := 6) dL_law_561 rfl rfl rfl rfl rfl rfl (by decide) rfl (by decide) (ok_X10_ahead hR  g227) ?_
        show mr X _ _ 564 _ [.long q226.1] (MM RR q226.2) _
        refine mr_aload_n (pc' := 565) dL_law_564 rfl rfl ?_
        refine mr_aload_n (pc' := 566) dL_law_565 rfl rfl ?_
        refine mr_iload_n (pc' := 567) dL_law_566 rfl rfl ?_
        refine mr_iconst (pc' := 568) (v := (1 : Int32)) dL_law_567 rfl (by decide) ?_
        refine mr_iadd (pc' := 569) dL_law_568 rfl ?_
        obtain ⟨a229, g230, h231⟩ := Option.bind_eq_some_iff.mp h228
        refine mr_xald (pc' := 570) hL dL_law_569 rfl g230 ?_
        refine mr_aload_n (pc' := 571) dL_law_570 rfl rfl ?_
        refine mr_iload_n (pc' := 572) dL_law_571 rfl rfl ?_
        refine mr_iconst (pc' := 573) (v := (2 : Int32)) dL_law_572 rfl (by decide) ?_
        refine mr_iadd (pc' := 574) dL_law_573 rfl ?_
        obtain ⟨a232, g233, h234⟩ := Option.bind_eq_some_iff.mp h231
        refine mr_xald (pc' := 575) hL dL_law_574 rfl g233 ?_
        refine mr_aload_n (pc' := 576) dL_law_575 rfl rfl ?_
        refine mr_iload_n (pc' := 577) dL_law_576 rfl rfl ?_
        refine mr_iconst (pc' := 578) (v := (3 : Int32)) dL_law_577 rfl (by decide) ?_
        refine mr_iadd (pc' := 579) dL_law_578 rfl ?_
        obtain ⟨a235, g236, h237⟩ := Option.bind_eq_some_iff.mp h234
        refine mr_xald (pc' := 580) hL dL_law_579 rfl g236 ?_
        refine mr_aload_n (pc' := 581) dL_law_580 rfl rfl ?_
        refine mr_iload_n (pc' := 582) dL_law_581 rfl rfl ?_
        refine mr_iconst (pc' := 583) (v := (4 : Int32)) dL_law_582 rfl (by decide) ?_
        refine mr_iadd (pc' := 584) dL_law_583 rfl ?_
        obtain ⟨a238, g239, h240⟩ := Option.bind_eq_some_iff.mp h237
        refine mr_xald (pc' := 585) hL dL_law_584 rfl g239 ?_
        obtain ⟨q241, g242, h243⟩ := Option.bind_eq_some_iff.mp h240
        refine mr_cv (pc' := 588) (a := 145) (d1 := 5) dL_law_585 rfl rfl rfl rfl rfl rfl (by decide) rfl (by decide) (ok_X11_ahead hR  g242) ?_
        show mr X _ _ 588 _ [.long q241.1, .long q226.1] (MM RR q241.2) _
        by_cases c244 : q226.1 = q241.1
        · rw [if_pos c244] at h243
          refine mr_lcmp_eq_t (t := 1628) dL_law_588 rfl dL_law_589 (by decide) c244 ?_
          refine mr_iinc (pc' := 1631) (x' := (p3 + (6 : Int32))) (lv' := [(3, .int (p3 + (6 : Int32))), (0, .ref mm_ext), (1, .ref 0), (2, .ref 145)]) dL_law_1628 rfl (by decide) rfl rfl rfl ?_
          refine mr_goto (t := 18) dL_law_1631 (by decide) ?_
          exact mr_sub [(0, .ref mm_ext), (1, .ref 0), (2, .ref 145), (3, .int (p3 + (6 : Int32)))] ⟨rfl, rfl, rfl, rfl, trivial⟩ rfl (ih _ _  h243)
        · rw [if_neg c244] at h243
          refine mr_lcmp_eq_f (t := 1628) (pc' := 592) dL_law_588 rfl dL_law_589 (by decide) rfl c244 ?_
          refine mr_iconst (pc' := 593) (v := (0 : Int32)) dL_law_592 rfl (by decide) ?_
          obtain rfl := Option.some.inj h243
          exact mr_zreturn dL_law_593 rfl (by decide)
      rw [if_neg c213] at h4
      by_cases c245 : (a2 &&& (63 : Int32)) = (12 : Int32)
      · rw [if_pos c245] at h4
        refine mr_sw_in (t := 594) (v := (12 : Int32)) dL_law_33 c245 rfl ?_
        refine mr_aload_n (pc' := 595) dL_law_594 rfl rfl ?_
        refine mr_aload_n (pc' := 596) dL_law_595 rfl rfl ?_
        refine mr_iload_n (pc' := 597) dL_law_596 rfl rfl ?_
        refine mr_iconst (pc' := 598) (v := (1 : Int32)) dL_law_597 rfl (by decide) ?_
        refine mr_iadd (pc' := 599) dL_law_598 rfl ?_
        obtain ⟨a246, g247, h248⟩ := Option.bind_eq_some_iff.mp h4
        refine mr_xald (pc' := 600) hL dL_law_599 rfl g247 ?_
        refine mr_aload_n (pc' := 601) dL_law_600 rfl rfl ?_
        refine mr_iload_n (pc' := 602) dL_law_601 rfl rfl ?_
        refine mr_iconst (pc' := 603) (v := (2 : Int32)) dL_law_602 rfl (by decide) ?_
        refine mr_iadd (pc' := 604) dL_law_603 rfl ?_
        obtain ⟨a249, g250, h251⟩ := Option.bind_eq_some_iff.mp h248
        refine mr_xald (pc' := 605) hL dL_law_604 rfl g250 ?_
        obtain ⟨q252, g253, h254⟩ := Option.bind_eq_some_iff.mp h251
        refine mr_cv (pc' := 608) (a := 0) (d1 := 2) dL_law_605 rfl rfl rfl rfl rfl rfl (by decide) rfl (by decide) (ok_X10_far hR  g253) ?_
        show mr X _ _ 608 _ [.int q252] (MM RR S0) _
        refine mr_aload_n (pc' := 609) dL_law_608 rfl rfl ?_
        refine mr_aload_n (pc' := 610) dL_law_609 rfl rfl ?_
        refine mr_iload_n (pc' := 611) dL_law_610 rfl rfl ?_
        refine mr_iconst (pc' := 612) (v := (1 : Int32)) dL_law_611 rfl (by decide) ?_
        refine mr_iadd (pc' := 613) dL_law_612 rfl ?_
        obtain ⟨a255, g256, h257⟩ := Option.bind_eq_some_iff.mp h254
        refine mr_xald (pc' := 614) hL dL_law_613 rfl g256 ?_
        refine mr_aload_n (pc' := 615) dL_law_614 rfl rfl ?_
        refine mr_iload_n (pc' := 616) dL_law_615 rfl rfl ?_
        refine mr_iconst (pc' := 617) (v := (2 : Int32)) dL_law_616 rfl (by decide) ?_
        refine mr_iadd (pc' := 618) dL_law_617 rfl ?_
        obtain ⟨a258, g259, h260⟩ := Option.bind_eq_some_iff.mp h257
        refine mr_xald (pc' := 619) hL dL_law_618 rfl g259 ?_
        obtain ⟨q261, g262, h263⟩ := Option.bind_eq_some_iff.mp h260
        refine mr_cv (pc' := 622) (a := 145) (d1 := 1) dL_law_619 rfl rfl rfl rfl rfl rfl (by decide) rfl (by decide) (ok_X11_far hR  g262) ?_
        show mr X _ _ 622 _ [.int q261, .int q252] (MM RR S0) _
        by_cases c264 : q252 = q261
        · rw [if_pos c264] at h263
          refine mr_icmp_eq_t (t := 1628) dL_law_622 (by decide) c264 ?_
          refine mr_iinc (pc' := 1631) (x' := (p3 + (6 : Int32))) (lv' := [(3, .int (p3 + (6 : Int32))), (0, .ref mm_ext), (1, .ref 0), (2, .ref 145)]) dL_law_1628 rfl (by decide) rfl rfl rfl ?_
          refine mr_goto (t := 18) dL_law_1631 (by decide) ?_
          exact mr_sub [(0, .ref mm_ext), (1, .ref 0), (2, .ref 145), (3, .int (p3 + (6 : Int32)))] ⟨rfl, rfl, rfl, rfl, trivial⟩ rfl (ih _ _  h263)
        · rw [if_neg c264] at h263
          refine mr_icmp_eq_f (t := 1628) (pc' := 625) dL_law_622 (by decide) rfl c264 ?_
          refine mr_iconst (pc' := 626) (v := (0 : Int32)) dL_law_625 rfl (by decide) ?_
          obtain rfl := Option.some.inj h263
          exact mr_zreturn dL_law_626 rfl (by decide)
      rw [if_neg c245] at h4
      by_cases c265 : (a2 &&& (63 : Int32)) = (13 : Int32)
      · rw [if_pos c265] at h4
        refine mr_sw_in (t := 627) (v := (13 : Int32)) dL_law_33 c265 rfl ?_
        refine mr_aload_n (pc' := 628) dL_law_627 rfl rfl ?_
        refine mr_aload_n (pc' := 629) dL_law_628 rfl rfl ?_
        refine mr_iload_n (pc' := 630) dL_law_629 rfl rfl ?_
        refine mr_iconst (pc' := 631) (v := (1 : Int32)) dL_law_630 rfl (by decide) ?_
        refine mr_iadd (pc' := 632) dL_law_631 rfl ?_
        obtain ⟨a266, g267, h268⟩ := Option.bind_eq_some_iff.mp h4
        refine mr_xald (pc' := 633) hL dL_law_632 rfl g267 ?_
        refine mr_aload_n (pc' := 634) dL_law_633 rfl rfl ?_
        refine mr_iload_n (pc' := 635) dL_law_634 rfl rfl ?_
        refine mr_iconst (pc' := 636) (v := (2 : Int32)) dL_law_635 rfl (by decide) ?_
        refine mr_iadd (pc' := 637) dL_law_636 rfl ?_
        obtain ⟨a269, g270, h271⟩ := Option.bind_eq_some_iff.mp h268
        refine mr_xald (pc' := 638) hL dL_law_637 rfl g270 ?_
        obtain ⟨q272, g273, h274⟩ := Option.bind_eq_some_iff.mp h271
        refine mr_cv (pc' := 641) (a := 0) (d1 := 2) dL_law_638 rfl rfl rfl rfl rfl rfl (by decide) rfl (by decide) (ok_X10_next hR  g273) ?_
        show mr X _ _ 641 _ [.int q272] (MM RR S0) _
        refine mr_aload_n (pc' := 642) dL_law_641 rfl rfl ?_
        refine mr_aload_n (pc' := 643) dL_law_642 rfl rfl ?_
        refine mr_iload_n (pc' := 644) dL_law_643 rfl rfl ?_
        refine mr_iconst (pc' := 645) (v := (1 : Int32)) dL_law_644 rfl (by decide) ?_
        refine mr_iadd (pc' := 646) dL_law_645 rfl ?_
        obtain ⟨a275, g276, h277⟩ := Option.bind_eq_some_iff.mp h274
        refine mr_xald (pc' := 647) hL dL_law_646 rfl g276 ?_
        refine mr_aload_n (pc' := 648) dL_law_647 rfl rfl ?_
        refine mr_iload_n (pc' := 649) dL_law_648 rfl rfl ?_
        refine mr_iconst (pc' := 650) (v := (2 : Int32)) dL_law_649 rfl (by decide) ?_
        refine mr_iadd (pc' := 651) dL_law_650 rfl ?_
        obtain ⟨a278, g279, h280⟩ := Option.bind_eq_some_iff.mp h277
        refine mr_xald (pc' := 652) hL dL_law_651 rfl g279 ?_
        obtain ⟨q281, g282, h283⟩ := Option.bind_eq_some_iff.mp h280
        refine mr_cv (pc' := 655) (a := 145) (d1 := 3) dL_law_652 rfl rfl rfl rfl rfl rfl (by decide) rfl (by decide) (ok_X11_next hR  g282) ?_
        show mr X _ _ 655 _ [.int q281, .int q272] (MM RR S0) _
        by_cases c284 : q272 = q281
        · rw [if_pos c284] at h283
          refine mr_icmp_eq_t (t := 1628) dL_law_655 (by decide) c284 ?_
          refine mr_iinc (pc' := 1631) (x' := (p3 + (6 : Int32))) (lv' := [(3, .int (p3 + (6 : Int32))), (0, .ref mm_ext), (1, .ref 0), (2, .ref 145)]) dL_law_1628 rfl (by decide) rfl rfl rfl ?_
          refine mr_goto (t := 18) dL_law_1631 (by decide) ?_
          exact mr_sub [(0, .ref mm_ext), (1, .ref 0), (2, .ref 145), (3, .int (p3 + (6 : Int32)))] ⟨rfl, rfl, rfl, rfl, trivial⟩ rfl (ih _ _  h283)
        · rw [if_neg c284] at h283
          refine mr_icmp_eq_f (t := 1628) (pc' := 658) dL_law_655 (by decide) rfl c284 ?_
          refine mr_iconst (pc' := 659) (v := (0 : Int32)) dL_law_658 rfl (by decide) ?_
          obtain rfl := Option.some.inj h283
          exact mr_zreturn dL_law_659 rfl (by decide)
      rw [if_neg c265] at h4
      by_cases c285 : (a2 &&& (63 : Int32)) = (14 : Int32)
      · rw [if_pos c285] at h4
        refine mr_sw_in (t := 660) (v := (14 : Int32)) dL_law_33 c285 rfl ?_
        refine mr_aload_n (pc' := 661) dL_law_660 rfl rfl ?_
        refine mr_aload_n (pc' := 662) dL_law_661 rfl rfl ?_
        refine mr_iload_n (pc' := 663) dL_law_662 rfl rfl ?_
        refine mr_iconst (pc' := 664) (v := (1 : Int32)) dL_law_663 rfl (by decide) ?_
        refine mr_iadd (pc' := 665) dL_law_664 rfl ?_
        obtain ⟨a286, g287, h288⟩ := Option.bind_eq_some_iff.mp h4
        refine mr_xald (pc' := 666) hL dL_law_665 rfl g287 ?_
        refine mr_aload_n (pc' := 667) dL_law_666 rfl rfl ?_
        refine mr_iload_n (pc' := 668) dL_law_667 rfl rfl ?_
        refine mr_iconst (pc' := 669) (v := (2 : Int32)) dL_law_668 rfl (by decide) ?_
        refine mr_iadd (pc' := 670) dL_law_669 rfl ?_
        obtain ⟨a289, g290, h291⟩ := Option.bind_eq_some_iff.mp h288
        refine mr_xald (pc' := 671) hL dL_law_670 rfl g290 ?_
        refine mr_aload_n (pc' := 672) dL_law_671 rfl rfl ?_
        refine mr_iload_n (pc' := 673) dL_law_672 rfl rfl ?_
        refine mr_iconst (pc' := 674) (v := (3 : Int32)) dL_law_673 rfl (by decide) ?_
        refine mr_iadd (pc' := 675) dL_law_674 rfl ?_
        obtain ⟨a292, g293, h294⟩ := Option.bind_eq_some_iff.mp h291
        refine mr_xald (pc' := 676) hL dL_law_675 rfl g293 ?_
        obtain ⟨q295, g296, h297⟩ := Option.bind_eq_some_iff.mp h294
        refine mr_cv (pc' := 679) (a := 0) (d1 := 3) dL_law_676 rfl rfl rfl rfl rfl rfl (by decide) rfl (by decide) (ok_X10_clock hR  g296) ?_
        show mr X _ _ 679 _ [.long q295] (MM RR S0) _
        refine mr_aload_n (pc' := 680) dL_law_679 rfl rfl ?_
        refine mr_aload_n (pc' := 681) dL_law_680 rfl rfl ?_
        refine mr_iload_n (pc' := 682) dL_law_681 rfl rfl ?_
        refine mr_iconst (pc' := 683) (v := (1 : Int32)) dL_law_682 rfl (by decide) ?_
        refine mr_iadd (pc' := 684) dL_law_683 rfl ?_
        obtain ⟨a298, g299, h300⟩ := Option.bind_eq_some_iff.mp h297
        refine mr_xald (pc' := 685) hL dL_law_684 rfl g299 ?_
        refine mr_aload_n (pc' := 686) dL_law_685 rfl rfl ?_
        refine mr_iload_n (pc' := 687) dL_law_686 rfl rfl ?_
        refine mr_iconst (pc' := 688) (v := (2 : Int32)) dL_law_687 rfl (by decide) ?_
        refine mr_iadd (pc' := 689) dL_law_688 rfl ?_
        obtain ⟨a301, g302, h303⟩ := Option.bind_eq_some_iff.mp h300
        refine mr_xald (pc' := 690) hL dL_law_689 rfl g302 ?_
        refine mr_aload_n (pc' := 691) dL_law_690 rfl rfl ?_
        refine mr_iload_n (pc' := 692) dL_law_691 rfl rfl ?_
        refine mr_iconst (pc' := 693) (v := (3 : Int32)) dL_law_692 rfl (by decide) ?_
        refine mr_iadd (pc' := 694) dL_law_693 rfl ?_
        obtain ⟨a304, g305, h306⟩ := Option.bind_eq_some_iff.mp h303
        refine mr_xald (pc' := 695) hL dL_law_694 rfl g305 ?_
        obtain ⟨q307, g308, h309⟩ := Option.bind_eq_some_iff.mp h306
        refine mr_cv (pc' := 698) (a := 145) (d1 := 2) dL_law_695 rfl rfl rfl rfl rfl rfl (by decide) rfl (by decide) (ok_X11_clock hR  g308) ?_
        show mr X _ _ 698 _ [.long q307, .long q295] (MM RR S0) _
        by_cases c310 : q295 = q307
        · rw [if_pos c310] at h309
          refine mr_lcmp_eq_t (t := 1628) dL_law_698 rfl dL_law_699 (by decide) c310 ?_
          refine mr_iinc (pc' := 1631) (x' := (p3 + (6 : Int32))) (lv' := [(3, .int (p3 + (6 : Int32))), (0, .ref mm_ext), (1, .ref 0), (2, .ref 145)]) dL_law_1628 rfl (by decide) rfl rfl rfl ?_
          refine mr_goto (t := 18) dL_law_1631 (by decide) ?_
          exact mr_sub [(0, .ref mm_ext), (1, .ref 0), (2, .ref 145), (3, .int (p3 + (6 : Int32)))] ⟨rfl, rfl, rfl, rfl, trivial⟩ rfl (ih _ _  h309)
        · rw [if_neg c310] at h309
          refine mr_lcmp_eq_f (t := 1628) (pc' := 702) dL_law_698 rfl dL_law_699 (by decide) rfl c310 ?_
          refine mr_iconst (pc' := 703) (v := (0 : Int32)) dL_law_702 rfl (by decide) ?_
          obtain rfl := Option.some.inj h309
          exact mr_zreturn dL_law_703 rfl (by decide)
      rw [if_neg c285] at h4
      by_cases c311 : (a2 &&& (63 : Int32)) = (15 : Int32)
      · rw [if_pos c311] at h4
        refine mr_sw_in (t := 704) (v := (15 : Int32)) dL_law_33 c311 rfl ?_
        refine mr_aload_n (pc' := 705) dL_law_704 rfl rfl ?_
        refine mr_aload_n (pc' := 706) dL_law_705 rfl rfl ?_
        refine mr_iload_n (pc' := 707) dL_law_706 rfl rfl ?_
        refine mr_iconst (pc' := 708) (v := (1 : Int32)) dL_law_707 rfl (by decide) ?_
        refine mr_iadd (pc' := 709) dL_law_708 rfl ?_
        obtain ⟨a312, g313, h314⟩ := Option.bind_eq_some_iff.mp h4
        refine mr_xald (pc' := 710) hL dL_law_709 rfl g313 ?_
        refine mr_aload_n (pc' := 711) dL_law_710 rfl rfl ?_
        refine mr_iload_n (pc' := 712) dL_law_711 rfl rfl ?_
        refine mr_iconst (pc' := 713) (v := (2 : Int32)) dL_law_712 rfl (by decide) ?_
        refine mr_iadd (pc' := 714) dL_law_713 rfl ?_
        obtain ⟨a315, g316, h317⟩ := Option.bind_eq_some_iff.mp h314
        refine mr_xald (pc' := 715) hL dL_law_714 rfl g316 ?_
        refine mr_aload_n (pc' := 716) dL_law_715 rfl rfl ?_
        refine mr_iload_n (pc' := 717) dL_law_716 rfl rfl ?_
        refine mr_iconst (pc' := 718) (v := (3 : Int32)) dL_law_717 rfl (by decide) ?_
        refine mr_iadd (pc' := 719) dL_law_718 rfl ?_
        obtain ⟨a318, g319, h320⟩ := Option.bind_eq_some_iff.mp h317
        refine mr_xald (pc' := 720) hL dL_law_719 rfl g319 ?_
        obtain ⟨q321, g322, h323⟩ := Option.bind_eq_some_iff.mp h320
        refine mr_cv (pc' := 723) (a := 0) (d1 := 3) dL_law_720 rfl rfl rfl rfl rfl rfl (by decide) rfl (by decide) (ok_X10_noons hR  g322) ?_
        show mr X _ _ 723 _ [.long q321] (MM RR S0) _
        refine mr_aload_n (pc' := 724) dL_law_723 rfl rfl ?_
        refine mr_aload_n (pc' := 725) dL_law_724 rfl rfl ?_
        refine mr_iload_n (pc' := 726) dL_law_725 rfl rfl ?_
        refine mr_iconst (pc' := 727) (v := (1 : Int32)) dL_law_726 rfl (by decide) ?_
        refine mr_iadd (pc' := 728) dL_law_727 rfl ?_
        obtain ⟨a324, g325, h326⟩ := Option.bind_eq_some_iff.mp h323
        refine mr_xald (pc' := 729) hL dL_law_728 rfl g325 ?_
        refine mr_aload_n (pc' := 730) dL_law_729 rfl rfl ?_
        refine mr_iload_n (pc' := 731) dL_law_730 rfl rfl ?_
        refine mr_iconst (pc' := 732) (v := (2 : Int32)) dL_law_731 rfl (by decide) ?_
        refine mr_iadd (pc' := 733) dL_law_732 rfl ?_
        obtain ⟨a327, g328, h329⟩ := Option.bind_eq_some_iff.mp h326
        refine mr_xald (pc' := 734) hL dL_law_733 rfl g328 ?_
        refine mr_aload_n (pc' := 735) dL_law_734 rfl rfl ?_
        refine mr_iload_n (pc' := 736) dL_law_735 rfl rfl ?_
        refine mr_iconst (pc' := 737) (v := (3 : Int32)) dL_law_736 rfl (by decide) ?_
        refine mr_iadd (pc' := 738) dL_law_737 rfl ?_
        obtain ⟨a330, g331, h332⟩ := Option.bind_eq_some_iff.mp h329
        refine mr_xald (pc' := 739) hL dL_law_738 rfl g331 ?_
        obtain ⟨q333, g334, h335⟩ := Option.bind_eq_some_iff.mp h332
        refine mr_cv (pc' := 742) (a := 145) (d1 := 2) dL_law_739 rfl rfl rfl rfl rfl rfl (by decide) rfl (by decide) (ok_X11_noons hR  g334) ?_
        show mr X _ _ 742 _ [.long q333, .long q321] (MM RR S0) _
        by_cases c336 : q321 = q333
        · rw [if_pos c336] at h335
          refine mr_lcmp_eq_t (t := 1628) dL_law_742 rfl dL_law_743 (by decide) c336 ?_
          refine mr_iinc (pc' := 1631) (x' := (p3 + (6 : Int32))) (lv' := [(3, .int (p3 + (6 : Int32))), (0, .ref mm_ext), (1, .ref 0), (2, .ref 145)]) dL_law_1628 rfl (by decide) rfl rfl rfl ?_
          refine mr_goto (t := 18) dL_law_1631 (by decide) ?_
          exact mr_sub [(0, .ref mm_ext), (1, .ref 0), (2, .ref 145), (3, .int (p3 + (6 : Int32)))] ⟨rfl, rfl, rfl, rfl, trivial⟩ rfl (ih _ _  h335)
        · rw [if_neg c336] at h335
          refine mr_lcmp_eq_f (t := 1628) (pc' := 746) dL_law_742 rfl dL_law_743 (by decide) rfl c336 ?_
          refine mr_iconst (pc' := 747) (v := (0 : Int32)) dL_law_746 rfl (by decide) ?_
          obtain rfl := Option.some.inj h335
          exact mr_zreturn dL_law_747 rfl (by decide)
      rw [if_neg c311] at h4
      by_cases c337 : (a2 &&& (63 : Int32)) = (16 : Int32)
      · rw [if_pos c337] at h4
        refine mr_sw_in (t := 748) (v := (16 : Int32)) dL_law_33 c337 rfl ?_
        refine mr_aload_n (pc' := 749) dL_law_748 rfl rfl ?_
        refine mr_aload_n (pc' := 750) dL_law_749 rfl rfl ?_
        refine mr_iload_n (pc' := 751) dL_law_750 rfl rfl ?_
        refine mr_iconst (pc' := 752) (v := (1 : Int32)) dL_law_751 rfl (by decide) ?_
        refine mr_iadd (pc' := 753) dL_law_752 rfl ?_
        obtain ⟨a338, g339, h340⟩ := Option.bind_eq_some_iff.mp h4
        refine mr_xald (pc' := 754) hL dL_law_753 rfl g339 ?_
        refine mr_aload_n (pc' := 755) dL_law_754 rfl rfl ?_
        refine mr_iload_n (pc' := 756) dL_law_755 rfl rfl ?_
        refine mr_iconst (pc' := 757) (v := (2 : Int32)) dL_law_756 rfl (by decide) ?_
        refine mr_iadd (pc' := 758) dL_law_757 rfl ?_
        obtain ⟨a341, g342, h343⟩ := Option.bind_eq_some_iff.mp h340
        refine mr_xald (pc' := 759) hL dL_law_758 rfl g342 ?_
        refine mr_aload_n (pc' := 760) dL_law_759 rfl rfl ?_
        refine mr_iload_n (pc' := 761) dL_law_760 rfl rfl ?_
        refine mr_iconst (pc' := 762) (v := (3 : Int32)) dL_law_761 rfl (by decide) ?_
        refine mr_iadd (pc' := 763) dL_law_762 rfl ?_
        obtain ⟨a344, g345, h346⟩ := Option.bind_eq_some_iff.mp h343
        refine mr_xald (pc' := 764) hL dL_law_763 rfl g345 ?_
        refine mr_aload_n (pc' := 765) dL_law_764 rfl rfl ?_
        refine mr_iload_n (pc' := 766) dL_law_765 rfl rfl ?_
        refine mr_iconst (pc' := 767) (v := (4 : Int32)) dL_law_766 rfl (by decide) ?_
        refine mr_iadd (pc' := 768) dL_law_767 rfl ?_
        obtain ⟨a347, g348, h349⟩ := Option.bind_eq_some_iff.mp h346
        refine mr_xald (pc' := 769) hL dL_law_768 rfl g348 ?_
        by_cases c350 : a347 = (0 : Int32)
        · rw [if_pos c350] at h349
          refine mr_if_eq_t (t := 776) dL_law_769 (by decide) c350 ?_
          refine mr_iconst (pc' := 777) (v := (0 : Int32)) dL_law_776 rfl (by decide) ?_
          refine mr_aload_n (pc' := 778) dL_law_777 rfl rfl ?_
          refine mr_iload_n (pc' := 779) dL_law_778 rfl rfl ?_
          refine mr_iconst (pc' := 780) (v := (5 : Int32)) dL_law_779 rfl (by decide) ?_
          refine mr_iadd (pc' := 781) dL_law_780 rfl ?_
          obtain ⟨a351, g352, h353⟩ := Option.bind_eq_some_iff.mp h349
          refine mr_xald (pc' := 782) hL dL_law_781 rfl g352 ?_
          obtain ⟨q354, g355, h356⟩ := Option.bind_eq_some_iff.mp h353
          refine mr_cv (pc' := 785) (a := 0) (d1 := 4) dL_law_782 rfl rfl rfl rfl rfl rfl (by decide) rfl (by decide) (ok_X10_plan hR  g355) ?_
          show mr X _ _ 785 _ [.long q354.1] (MM RR q354.2) _
          refine mr_aload_n (pc' := 786) dL_law_785 rfl rfl ?_
          refine mr_aload_n (pc' := 787) dL_law_786 rfl rfl ?_
          refine mr_iload_n (pc' := 788) dL_law_787 rfl rfl ?_
          refine mr_iconst (pc' := 789) (v := (1 : Int32)) dL_law_788 rfl (by decide) ?_
          refine mr_iadd (pc' := 790) dL_law_789 rfl ?_
          obtain ⟨a357, g358, h359⟩ := Option.bind_eq_some_iff.mp h356
          refine mr_xald (pc' := 791) hL dL_law_790 rfl g358 ?_
          refine mr_aload_n (pc' := 792) dL_law_791 rfl rfl ?_
          refine mr_iload_n (pc' := 793) dL_law_792 rfl rfl ?_
          refine mr_iconst (pc' := 794) (v := (2 : Int32)) dL_law_793 rfl (by decide) ?_
          refine mr_iadd (pc' := 795) dL_law_794 rfl ?_
          obtain ⟨a360, g361, h362⟩ := Option.bind_eq_some_iff.mp h359
          refine mr_xald (pc' := 796) hL dL_law_795 rfl g361 ?_
          refine mr_aload_n (pc' := 797) dL_law_796 rfl rfl ?_
          refine mr_iload_n (pc' := 798) dL_law_797 rfl rfl ?_
          refine mr_iconst (pc' := 799) (v := (3 : Int32)) dL_law_798 rfl (by decide) ?_
          refine mr_iadd (pc' := 800) dL_law_799 rfl ?_
          obtain ⟨a363, g364, h365⟩ := Option.bind_eq_some_iff.mp h362
          refine mr_xald (pc' := 801) hL dL_law_800 rfl g364 ?_
          refine mr_aload_n (pc' := 802) dL_law_801 rfl rfl ?_
          refine mr_iload_n (pc' := 803) dL_law_802 rfl rfl ?_
          refine mr_iconst (pc' := 804) (v := (4 : Int32)) dL_law_803 rfl (by decide) ?_
          refine mr_iadd (pc' := 805) dL_law_804 rfl ?_
          obtain ⟨a366, g367, h368⟩ := Option.bind_eq_some_iff.mp h365
          refine mr_xald (pc' := 806) hL dL_law_805 rfl g367 ?_
          by_cases c369 : a366 = (0 : Int32)
          · rw [if_pos c369] at h368
            refine mr_if_eq_t (t := 813) dL_law_806 (by decide) c369 ?_
            refine mr_iconst (pc' := 814) (v := (0 : Int32)) dL_law_813 rfl (by decide) ?_
            refine mr_aload_n (pc' := 815) dL_law_814 rfl rfl ?_
            refine mr_iload_n (pc' := 816) dL_law_815 rfl rfl ?_
            refine mr_iconst (pc' := 817) (v := (5 : Int32)) dL_law_816 rfl (by decide) ?_
            refine mr_iadd (pc' := 818) dL_law_817 rfl ?_
            obtain ⟨a370, g371, h372⟩ := Option.bind_eq_some_iff.mp h368
            refine mr_xald (pc' := 819) hL dL_law_818 rfl g371 ?_
            obtain ⟨q373, g374, h375⟩ := Option.bind_eq_some_iff.mp h372
            refine mr_cv (pc' := 822) (a := 145) (d1 := 4) dL_law_819 rfl rfl rfl rfl rfl rfl (by decide) rfl (by decide) (ok_X11_plan hR  g374) ?_
            show mr X _ _ 822 _ [.long q373.1, .long q354.1] (MM RR q373.2) _
            by_cases c376 : q354.1 = q373.1
            · rw [if_pos c376] at h375
              refine mr_lcmp_eq_t (t := 1628) dL_law_822 rfl dL_law_823 (by decide) c376 ?_
              refine mr_iinc (pc' := 1631) (x' := (p3 + (6 : Int32))) (lv' := [(3, .int (p3 + (6 : Int32))), (0, .ref mm_ext), (1, .ref 0), (2, .ref 145)]) dL_law_1628 rfl (by decide) rfl rfl rfl ?_
              refine mr_goto (t := 18) dL_law_1631 (by decide) ?_
              exact mr_sub [(0, .ref mm_ext), (1, .ref 0), (2, .ref 145), (3, .int (p3 + (6 : Int32)))] ⟨rfl, rfl, rfl, rfl, trivial⟩ rfl (ih _ _  h375)
            · rw [if_neg c376] at h375
              refine mr_lcmp_eq_f (t := 1628) (pc' := 826) dL_law_822 rfl dL_law_823 (by decide) rfl c376 ?_
              refine mr_iconst (pc' := 827) (v := (0 : Int32)) dL_law_826 rfl (by decide) ?_
              obtain rfl := Option.some.inj h375
              exact mr_zreturn dL_law_827 rfl (by decide)
          · rw [if_neg c369] at h368
            refine mr_if_eq_f (t := 813) (pc' := 809) dL_law_806 (by decide) rfl c369 ?_
            refine mr_iconst (pc' := 810) (v := (1 : Int32)) dL_law_809 rfl (by decide) ?_
            refine mr_goto (t := 814) dL_law_810 (by decide) ?_
            refine mr_aload_n (pc' := 815) dL_law_814 rfl rfl ?_
            refine mr_iload_n (pc' := 816) dL_law_815 rfl rfl ?_
            refine mr_iconst (pc' := 817) (v := (5 : Int32)) dL_law_816 rfl (by decide) ?_
            refine mr_iadd (pc' := 818) dL_law_817 rfl ?_
            obtain ⟨a377, g378, h379⟩ := Option.bind_eq_some_iff.mp h368
            refine mr_xald (pc' := 819) hL dL_law_818 rfl g378 ?_
            obtain ⟨q380, g381, h382⟩ := Option.bind_eq_some_iff.mp h379
            refine mr_cv (pc' := 822) (a := 145) (d1 := 4) dL_law_819 rfl rfl rfl rfl rfl rfl (by decide) rfl (by decide) (ok_X11_plan hR  g381) ?_
            show mr X _ _ 822 _ [.long q380.1, .long q354.1] (MM RR q380.2) _
            by_cases c383 : q354.1 = q380.1
            · rw [if_pos c383] at h382
              refine mr_lcmp_eq_t (t := 1628) dL_law_822 rfl dL_law_823 (by decide) c383 ?_
              refine mr_iinc (pc' := 1631) (x' := (p3 + (6 : Int32))) (lv' := [(3, .int (p3 + (6 : Int32))), (0, .ref mm_ext), (1, .ref 0), (2, .ref 145)]) dL_law_1628 rfl (by decide) rfl rfl rfl ?_
              refine mr_goto (t := 18) dL_law_1631 (by decide) ?_
              exact mr_sub [(0, .ref mm_ext), (1, .ref 0), (2, .ref 145), (3, .int (p3 + (6 : Int32)))] ⟨rfl, rfl, rfl, rfl, trivial⟩ rfl (ih _ _  h382)
            · rw [if_neg c383] at h382
              refine mr_lcmp_eq_f (t := 1628) (pc' := 826) dL_law_822 rfl dL_law_823 (by decide) rfl c383 ?_
              refine mr_iconst (pc' := 827) (v := (0 : Int32)) dL_law_826 rfl (by decide) ?_
              obtain rfl := Option.some.inj h382
              exact mr_zreturn dL_law_827 rfl (by decide)
        · rw [if_neg c350] at h349
          refine mr_if_eq_f (t := 776) (pc' := 772) dL_law_769 (by decide) rfl c350 ?_
          refine mr_iconst (pc' := 773) (v := (1 : Int32)) dL_law_772 rfl (by decide) ?_
          refine mr_goto (t := 777) dL_law_773 (by decide) ?_
          refine mr_aload_n (pc' := 778) dL_law_777 rfl rfl ?_
          refine mr_iload_n (pc' := 779) dL_law_778 rfl rfl ?_
          refine mr_iconst (pc' := 780) (v := (5 : Int32)) dL_law_779 rfl (by decide) ?_
          refine mr_iadd (pc' := 781) dL_law_780 rfl ?_
          obtain ⟨a384, g385, h386⟩ := Option.bind_eq_some_iff.mp h349
          refine mr_xald (pc' := 782) hL dL_law_781 rfl g385 ?_
          obtain ⟨q387, g388, h389⟩ := Option.bind_eq_some_iff.mp h386
          refine mr_cv (pc' := 785) (a := 0) (d1 := 4) dL_law_782 rfl rfl rfl rfl rfl rfl (by decide) rfl (by decide) (ok_X10_plan hR  g388) ?_
          show mr X _ _ 785 _ [.long q387.1] (MM RR q387.2) _
          refine mr_aload_n (pc' := 786) dL_law_785 rfl rfl ?_
          refine mr_aload_n (pc' := 787) dL_law_786 rfl rfl ?_
          refine mr_iload_n (pc' := 788) dL_law_787 rfl rfl ?_
          refine mr_iconst (pc' := 789) (v := (1 : Int32)) dL_law_788 rfl (by decide) ?_
          refine mr_iadd (pc' := 790) dL_law_789 rfl ?_
          obtain ⟨a390, g391, h392⟩ := Option.bind_eq_some_iff.mp h389
          refine mr_xald (pc' := 791) hL dL_law_790 rfl g391 ?_
          refine mr_aload_n (pc' := 792) dL_law_791 rfl rfl ?_
          refine mr_iload_n (pc' := 793) dL_law_792 rfl rfl ?_
          refine mr_iconst (pc' := 794) (v := (2 : Int32)) dL_law_793 rfl (by decide) ?_
          refine mr_iadd (pc' := 795) dL_law_794 rfl ?_
          obtain ⟨a393, g394, h395⟩ := Option.bind_eq_some_iff.mp h392
          refine mr_xald (pc' := 796) hL dL_law_795 rfl g394 ?_
          refine mr_aload_n (pc' := 797) dL_law_796 rfl rfl ?_
          refine mr_iload_n (pc' := 798) dL_law_797 rfl rfl ?_
          refine mr_iconst (pc' := 799) (v := (3 : Int32)) dL_law_798 rfl (by decide) ?_
          refine mr_iadd (pc' := 800) dL_law_799 rfl ?_
          obtain ⟨a396, g397, h398⟩ := Option.bind_eq_some_iff.mp h395
          refine mr_xald (pc' := 801) hL dL_law_800 rfl g397 ?_
          refine mr_aload_n (pc' := 802) dL_law_801 rfl rfl ?_
          refine mr_iload_n (pc' := 803) dL_law_802 rfl rfl ?_
          refine mr_iconst (pc' := 804) (v := (4 : Int32)) dL_law_803 rfl (by decide) ?_
          refine mr_iadd (pc' := 805) dL_law_804 rfl ?_
          obtain ⟨a399, g400, h401⟩ := Option.bind_eq_some_iff.mp h398
          refine mr_xald (pc' := 806) hL dL_law_805 rfl g400 ?_
          by_cases c402 : a399 = (0 : Int32)
          · rw [if_pos c402] at h401
            refine mr_if_eq_t (t := 813) dL_law_806 (by decide) c402 ?_
            refine mr_iconst (pc' := 814) (v := (0 : Int32)) dL_law_813 rfl (by decide) ?_
            refine mr_aload_n (pc' := 815) dL_law_814 rfl rfl ?_
            refine mr_iload_n (pc' := 816) dL_law_815 rfl rfl ?_
            refine mr_iconst (pc' := 817) (v := (5 : Int32)) dL_law_816 rfl (by decide) ?_
            refine mr_iadd (pc' := 818) dL_law_817 rfl ?_
            obtain ⟨a403, g404, h405⟩ := Option.bind_eq_some_iff.mp h401
            refine mr_xald (pc' := 819) hL dL_law_818 rfl g404 ?_
            obtain ⟨q406, g407, h408⟩ := Option.bind_eq_some_iff.mp h405
            refine mr_cv (pc' := 822) (a := 145) (d1 := 4) dL_law_819 rfl rfl rfl rfl rfl rfl (by decide) rfl (by decide) (ok_X11_plan hR  g407) ?_
            show mr X _ _ 822 _ [.long q406.1, .long q387.1] (MM RR q406.2) _
            by_cases c409 : q387.1 = q406.1
            · rw [if_pos c409] at h408
              refine mr_lcmp_eq_t (t := 1628) dL_law_822 rfl dL_law_823 (by decide) c409 ?_
              refine mr_iinc (pc' := 1631) (x' := (p3 + (6 : Int32))) (lv' := [(3, .int (p3 + (6 : Int32))), (0, .ref mm_ext), (1, .ref 0), (2, .ref 145)]) dL_law_1628 rfl (by decide) rfl rfl rfl ?_
              refine mr_goto (t := 18) dL_law_1631 (by decide) ?_
              exact mr_sub [(0, .ref mm_ext), (1, .ref 0), (2, .ref 145), (3, .int (p3 + (6 : Int32)))] ⟨rfl, rfl, rfl, rfl, trivial⟩ rfl (ih _ _  h408)
            · rw [if_neg c409] at h408
              refine mr_lcmp_eq_f (t := 1628) (pc' := 826) dL_law_822 rfl dL_law_823 (by decide) rfl c409 ?_
              refine mr_iconst (pc' := 827) (v := (0 : Int32)) dL_law_826 rfl (by decide) ?_
              obtain rfl := Option.some.inj h408
              exact mr_zreturn dL_law_827 rfl (by decide)
          · rw [if_neg c402] at h401
            refine mr_if_eq_f (t := 813) (pc' := 809) dL_law_806 (by decide) rfl c402 ?_
            refine mr_iconst (pc' := 810) (v := (1 : Int32)) dL_law_809 rfl (by decide) ?_
            refine mr_goto (t := 814) dL_law_810 (by decide) ?_
            refine mr_aload_n (pc' := 815) dL_law_814 rfl rfl ?_
            refine mr_iload_n (pc' := 816) dL_law_815 rfl rfl ?_
            refine mr_iconst (pc' := 817) (v := (5 : Int32)) dL_law_816 rfl (by decide) ?_
            refine mr_iadd (pc' := 818) dL_law_817 rfl ?_
            obtain ⟨a410, g411, h412⟩ := Option.bind_eq_some_iff.mp h401
            refine mr_xald (pc' := 819) hL dL_law_818 rfl g411 ?_
            obtain ⟨q413, g414, h415⟩ := Option.bind_eq_some_iff.mp h412
            refine mr_cv (pc' := 822) (a := 145) (d1 := 4) dL_law_819 rfl rfl rfl rfl rfl rfl (by decide) rfl (by decide) (ok_X11_plan hR  g414) ?_
            show mr X _ _ 822 _ [.long q413.1, .long q387.1] (MM RR q413.2) _
            by_cases c416 : q387.1 = q413.1
            · rw [if_pos c416] at h415
              refine mr_lcmp_eq_t (t := 1628) dL_law_822 rfl dL_law_823 (by decide) c416 ?_
              refine mr_iinc (pc' := 1631) (x' := (p3 + (6 : Int32))) (lv' := [(3, .int (p3 + (6 : Int32))), (0, .ref mm_ext), (1, .ref 0), (2, .ref 145)]) dL_law_1628 rfl (by decide) rfl rfl rfl ?_
              refine mr_goto (t := 18) dL_law_1631 (by decide) ?_
              exact mr_sub [(0, .ref mm_ext), (1, .ref 0), (2, .ref 145), (3, .int (p3 + (6 : Int32)))] ⟨rfl, rfl, rfl, rfl, trivial⟩ rfl (ih _ _  h415)
            · rw [if_neg c416] at h415
              refine mr_lcmp_eq_f (t := 1628) (pc' := 826) dL_law_822 rfl dL_law_823 (by decide) rfl c416 ?_
              refine mr_iconst (pc' := 827) (v := (0 : Int32)) dL_law_826 rfl (by decide) ?_
              obtain rfl := Option.some.inj h415
              exact mr_zreturn dL_law_827 rfl (by decide)
      rw [if_neg c337] at h4
      by_cases c417 : (a2 &&& (63 : Int32)) = (17 : Int32)
      · rw [if_pos c417] at h4
        refine mr_sw_in (t := 828) (v := (17 : Int32)) dL_law_33 c417 rfl ?_
        refine mr_aload_n (pc' := 829) dL_law_828 rfl rfl ?_
        refine mr_aload_n (pc' := 830) dL_law_829 rfl rfl ?_
        refine mr_iload_n (pc' := 831) dL_law_830 rfl rfl ?_
        refine mr_iconst (pc' := 832) (v := (1 : Int32)) dL_law_831 rfl (by decide) ?_
        refine mr_iadd (pc' := 833) dL_law_832 rfl ?_
        obtain ⟨a418, g419, h420⟩ := Option.bind_eq_some_iff.mp h4
        refine mr_xald (pc' := 834) hL dL_law_833 rfl g419 ?_
        refine mr_aload_n (pc' := 835) dL_law_834 rfl rfl ?_
        refine mr_iload_n (pc' := 836) dL_law_835 rfl rfl ?_
        refine mr_iconst (pc' := 837) (v := (2 : Int32)) dL_law_836 rfl (by decide) ?_
        refine mr_iadd (pc' := 838) dL_law_837 rfl ?_
        obtain ⟨a421, g422, h423⟩ := Option.bind_eq_some_iff.mp h420
        refine mr_xald (pc' := 839) hL dL_law_838 rfl g422 ?_
        refine mr_aload_n (pc' := 840) dL_law_839 rfl rfl ?_
        refine mr_iload_n (pc' := 841) dL_law_840 rfl rfl ?_
        refine mr_iconst (pc' := 842) (v := (3 : Int32)) dL_law_841 rfl (by decide) ?_
        refine mr_iadd (pc' := 843) dL_law_842 rfl ?_
        obtain ⟨a424, g425, h426⟩ := Option.bind_eq_some_iff.mp h423
        refine mr_xald (pc' := 844) hL dL_law_843 rfl g425 ?_
        refine mr_aload_n (pc' := 845) dL_law_844 rfl rfl ?_
        refine mr_iload_n (pc' := 846) dL_law_845 rfl rfl ?_
        refine mr_iconst (pc' := 847) (v := (4 : Int32)) dL_law_846 rfl (by decide) ?_
        refine mr_iadd (pc' := 848) dL_law_847 rfl ?_
        obtain ⟨a427, g428, h429⟩ := Option.bind_eq_some_iff.mp h426
        refine mr_xald (pc' := 849) hL dL_law_848 rfl g428 ?_
        refine mr_aload_n (pc' := 850) dL_law_849 rfl rfl ?_
        refine mr_iload_n (pc' := 851) dL_law_850 rfl rfl ?_
        refine mr_iconst (pc' := 852) (v := (5 : Int32)) dL_law_851 rfl (by decide) ?_
        refine mr_iadd (pc' := 853) dL_law_852 rfl ?_
        obtain ⟨a430, g431, h432⟩ := Option.bind_eq_some_iff.mp h429
        refine mr_xald (pc' := 854) hL dL_law_853 rfl g431 ?_
        obtain ⟨q433, g434, h435⟩ := Option.bind_eq_some_iff.mp h432
        refine mr_cv (pc' := 857) (a := 0) (d1 := 3) dL_law_854 rfl rfl rfl rfl rfl rfl (by decide) rfl (by decide) (ok_X10_even hR  g434) ?_
        show mr X _ _ 857 _ [.long q433] (MM RR S0) _
        refine mr_aload_n (pc' := 858) dL_law_857 rfl rfl ?_
        refine mr_aload_n (pc' := 859) dL_law_858 rfl rfl ?_
        refine mr_iload_n (pc' := 860) dL_law_859 rfl rfl ?_
        refine mr_iconst (pc' := 861) (v := (1 : Int32)) dL_law_860 rfl (by decide) ?_
        refine mr_iadd (pc' := 862) dL_law_861 rfl ?_
        obtain ⟨a436, g437, h438⟩ := Option.bind_eq_some_iff.mp h435
        refine mr_xald (pc' := 863) hL dL_law_862 rfl g437 ?_
        refine mr_aload_n (pc' := 864) dL_law_863 rfl rfl ?_
        refine mr_iload_n (pc' := 865) dL_law_864 rfl rfl ?_
        refine mr_iconst (pc' := 866) (v := (2 : Int32)) dL_law_865 rfl (by decide) ?_
        refine mr_iadd (pc' := 867) dL_law_866 rfl ?_
        obtain ⟨a439, g440, h441⟩ := Option.bind_eq_some_iff.mp h438
        refine mr_xald (pc' := 868) hL dL_law_867 rfl g440 ?_
        refine mr_aload_n (pc' := 869) dL_law_868 rfl rfl ?_
        refine mr_iload_n (pc' := 870) dL_law_869 rfl rfl ?_
        refine mr_iconst (pc' := 871) (v := (3 : Int32)) dL_law_870 rfl (by decide) ?_
        refine mr_iadd (pc' := 872) dL_law_871 rfl ?_
        obtain ⟨a442, g443, h444⟩ := Option.bind_eq_some_iff.mp h441
        refine mr_xald (pc' := 873) hL dL_law_872 rfl g443 ?_
        refine mr_aload_n (pc' := 874) dL_law_873 rfl rfl ?_
        refine mr_iload_n (pc' := 875) dL_law_874 rfl rfl ?_
        refine mr_iconst (pc' := 876) (v := (4 : Int32)) dL_law_875 rfl (by decide) ?_
        refine mr_iadd (pc' := 877) dL_law_876 rfl ?_
        obtain ⟨a445, g446, h447⟩ := Option.bind_eq_some_iff.mp h444
        refine mr_xald (pc' := 878) hL dL_law_877 rfl g446 ?_
        refine mr_aload_n (pc' := 879) dL_law_878 rfl rfl ?_
        refine mr_iload_n (pc' := 880) dL_law_879 rfl rfl ?_
        refine mr_iconst (pc' := 881) (v := (5 : Int32)) dL_law_880 rfl (by decide) ?_
        refine mr_iadd (pc' := 882) dL_law_881 rfl ?_
        obtain ⟨a448, g449, h450⟩ := Option.bind_eq_some_iff.mp h447
        refine mr_xald (pc' := 883) hL dL_law_882 rfl g449 ?_
        obtain ⟨q451, g452, h453⟩ := Option.bind_eq_some_iff.mp h450
        refine mr_cv (pc' := 886) (a := 145) (d1 := 1) dL_law_883 rfl rfl rfl rfl rfl rfl (by decide) rfl (by decide) (ok_X11_even hR  g452) ?_
        show mr X _ _ 886 _ [.long q451, .long q433] (MM RR S0) _
        by_cases c454 : q433 = q451
        · rw [if_pos c454] at h453
          refine mr_lcmp_eq_t (t := 1628) dL_law_886 rfl dL_law_887 (by decide) c454 ?_
          refine mr_iinc (pc' := 1631) (x' := (p3 + (6 : Int32))) (lv' := [(3, .int (p3 + (6 : Int32))), (0, .ref mm_ext), (1, .ref 0), (2, .ref 145)]) dL_law_1628 rfl (by decide) rfl rfl rfl ?_
          refine mr_goto (t := 18) dL_law_1631 (by decide) ?_
          exact mr_sub [(0, .ref mm_ext), (1, .ref 0), (2, .ref 145), (3, .int (p3 + (6 : Int32)))] ⟨rfl, rfl, rfl, rfl, trivial⟩ rfl (ih _ _  h453)
        · rw [if_neg c454] at h453
          refine mr_lcmp_eq_f (t := 1628) (pc' := 890) dL_law_886 rfl dL_law_887 (by decide) rfl c454 ?_
          refine mr_iconst (pc' := 891) (v := (0 : Int32)) dL_law_890 rfl (by decide) ?_
          obtain rfl := Option.some.inj h453
          exact mr_zreturn dL_law_891 rfl (by decide)
      rw [if_neg c417] at h4
      by_cases c455 : (a2 &&& (63 : Int32)) = (18 : Int32)
      · rw [if_pos c455] at h4
        refine mr_sw_in (t := 892) (v := (18 : Int32)) dL_law_33 c455 rfl ?_
        refine mr_aload_n (pc' := 893) dL_law_892 rfl rfl ?_
        refine mr_aload_n (pc' := 894) dL_law_893 rfl rfl ?_
        refine mr_iload_n (pc' := 895) dL_law_894 rfl rfl ?_
        refine mr_iconst (pc' := 896) (v := (1 : Int32)) dL_law_895 rfl (by decide) ?_
        refine mr_iadd (pc' := 897) dL_law_896 rfl ?_
        obtain ⟨a456, g457, h458⟩ := Option.bind_eq_some_iff.mp h4
        refine mr_xald (pc' := 898) hL dL_law_897 rfl g457 ?_
        refine mr_aload_n (pc' := 899) dL_law_898 rfl rfl ?_
        refine mr_iload_n (pc' := 900) dL_law_899 rfl rfl ?_
        refine mr_iconst (pc' := 901) (v := (2 : Int32)) dL_law_900 rfl (by decide) ?_
        refine mr_iadd (pc' := 902) dL_law_901 rfl ?_
        obtain ⟨a459, g460, h461⟩ := Option.bind_eq_some_iff.mp h458
        refine mr_xald (pc' := 903) hL dL_law_902 rfl g460 ?_
        refine mr_aload_n (pc' := 904) dL_law_903 rfl rfl ?_
        refine mr_iload_n (pc' := 905) dL_law_904 rfl rfl ?_
        refine mr_iconst (pc' := 906) (v := (3 : Int32)) dL_law_905 rfl (by decide) ?_
        refine mr_iadd (pc' := 907) dL_law_906 rfl ?_
        obtain ⟨a462, g463, h464⟩ := Option.bind_eq_some_iff.mp h461
        refine mr_xald (pc' := 908) hL dL_law_907 rfl g463 ?_
        refine mr_aload_n (pc' := 909) dL_law_908 rfl rfl ?_
        refine mr_iload_n (pc' := 910) dL_law_909 rfl rfl ?_
        refine mr_iconst (pc' := 911) (v := (4 : Int32)) dL_law_910 rfl (by decide) ?_
        refine mr_iadd (pc' := 912) dL_law_911 rfl ?_
        obtain ⟨a465, g466, h467⟩ := Option.bind_eq_some_iff.mp h464
        refine mr_xald (pc' := 913) hL dL_law_912 rfl g466 ?_
        refine mr_aload_n (pc' := 914) dL_law_913 rfl rfl ?_
        refine mr_iload_n (pc' := 915) dL_law_914 rfl rfl ?_
        refine mr_iconst (pc' := 916) (v := (5 : Int32)) dL_law_915 rfl (by decide) ?_
        refine mr_iadd (pc' := 917) dL_law_916 rfl ?_
        obtain ⟨a468, g469, h470⟩ := Option.bind_eq_some_iff.mp h467
        refine mr_xald (pc' := 918) hL dL_law_917 rfl g469 ?_
        obtain ⟨q471, g472, h473⟩ := Option.bind_eq_some_iff.mp h470
        refine mr_cv (pc' := 921) (a := 0) (d1 := 4) dL_law_918 rfl rfl rfl rfl rfl rfl (by decide) rfl (by decide) (ok_X10_ripe hR  g472) ?_
        show mr X _ _ 921 _ [.int q471.1] (MM RR q471.2) _
        refine mr_aload_n (pc' := 922) dL_law_921 rfl rfl ?_
        refine mr_aload_n (pc' := 923) dL_law_922 rfl rfl ?_
        refine mr_iload_n (pc' := 924) dL_law_923 rfl rfl ?_
        refine mr_iconst (pc' := 925) (v := (1 : Int32)) dL_law_924 rfl (by decide) ?_
        refine mr_iadd (pc' := 926) dL_law_925 rfl ?_
        obtain ⟨a474, g475, h476⟩ := Option.bind_eq_some_iff.mp h473
        refine mr_xald (pc' := 927) hL dL_law_926 rfl g475 ?_
        refine mr_aload_n (pc' := 928) dL_law_927 rfl rfl ?_
        refine mr_iload_n (pc' := 929) dL_law_928 rfl rfl ?_
        refine mr_iconst (pc' := 930) (v := (2 : Int32)) dL_law_929 rfl (by decide) ?_
        refine mr_iadd (pc' := 931) dL_law_930 rfl ?_
        obtain ⟨a477, g478, h479⟩ := Option.bind_eq_some_iff.mp h476
        refine mr_xald (pc' := 932) hL dL_law_931 rfl g478 ?_
        refine mr_aload_n (pc' := 933) dL_law_932 rfl rfl ?_
        refine mr_iload_n (pc' := 934) dL_law_933 rfl rfl ?_
        refine mr_iconst (pc' := 935) (v := (3 : Int32)) dL_law_934 rfl (by decide) ?_
        refine mr_iadd (pc' := 936) dL_law_935 rfl ?_
        obtain ⟨a480, g481, h482⟩ := Option.bind_eq_some_iff.mp h479
        refine mr_xald (pc' := 937) hL dL_law_936 rfl g481 ?_
        refine mr_aload_n (pc' := 938) dL_law_937 rfl rfl ?_
        refine mr_iload_n (pc' := 939) dL_law_938 rfl rfl ?_
        refine mr_iconst (pc' := 940) (v := (4 : Int32)) dL_law_939 rfl (by decide) ?_
        refine mr_iadd (pc' := 941) dL_law_940 rfl ?_
        obtain ⟨a483, g484, h485⟩ := Option.bind_eq_some_iff.mp h482
        refine mr_xald (pc' := 942) hL dL_law_941 rfl g484 ?_
        refine mr_aload_n (pc' := 943) dL_law_942 rfl rfl ?_
        refine mr_iload_n (pc' := 944) dL_law_943 rfl rfl ?_
        refine mr_iconst (pc' := 945) (v := (5 : Int32)) dL_law_944 rfl (by decide) ?_
        refine mr_iadd (pc' := 946) dL_law_945 rfl ?_
        obtain ⟨a486, g487, h488⟩ := Option.bind_eq_some_iff.mp h485
        refine mr_xald (pc' := 947) hL dL_law_946 rfl g487 ?_
        obtain ⟨q489, g490, h491⟩ := Option.bind_eq_some_iff.mp h488
        refine mr_cv (pc' := 950) (a := 145) (d1 := 3) dL_law_947 rfl rfl rfl rfl rfl rfl (by decide) rfl (by decide) (ok_X11_ripe hR  g490) ?_
        show mr X _ _ 950 _ [.int q489.1, .int q471.1] (MM RR q489.2) _
        by_cases c492 : q471.1 = q489.1
        · rw [if_pos c492] at h491
          refine mr_icmp_eq_t (t := 1628) dL_law_950 (by decide) c492 ?_
          refine mr_iinc (pc' := 1631) (x' := (p3 + (6 : Int32))) (lv' := [(3, .int (p3 + (6 : Int32))), (0, .ref mm_ext), (1, .ref 0), (2, .ref 145)]) dL_law_1628 rfl (by decide) rfl rfl rfl ?_
          refine mr_goto (t := 18) dL_law_1631 (by decide) ?_
          exact mr_sub [(0, .ref mm_ext), (1, .ref 0), (2, .ref 145), (3, .int (p3 + (6 : Int32)))] ⟨rfl, rfl, rfl, rfl, trivial⟩ rfl (ih _ _  h491)
        · rw [if_neg c492] at h491
          refine mr_icmp_eq_f (t := 1628) (pc' := 953) dL_law_950 (by decide) rfl c492 ?_
          refine mr_iconst (pc' := 954) (v := (0 : Int32)) dL_law_953 rfl (by decide) ?_
          obtain rfl := Option.some.inj h491
          exact mr_zreturn dL_law_954 rfl (by decide)
      rw [if_neg c455] at h4
      by_cases c493 : (a2 &&& (63 : Int32)) = (19 : Int32)
      · rw [if_pos c493] at h4
        refine mr_sw_in (t := 955) (v := (19 : Int32)) dL_law_33 c493 rfl ?_
        refine mr_aload_n (pc' := 956) dL_law_955 rfl rfl ?_
        refine mr_aload_n (pc' := 957) dL_law_956 rfl rfl ?_
        refine mr_iload_n (pc' := 958) dL_law_957 rfl rfl ?_
        refine mr_iconst (pc' := 959) (v := (1 : Int32)) dL_law_958 rfl (by decide) ?_
        refine mr_iadd (pc' := 960) dL_law_959 rfl ?_
        obtain ⟨a494, g495, h496⟩ := Option.bind_eq_some_iff.mp h4
        refine mr_xald (pc' := 961) hL dL_law_960 rfl g495 ?_
        refine mr_aload_n (pc' := 962) dL_law_961 rfl rfl ?_
        refine mr_iload_n (pc' := 963) dL_law_962 rfl rfl ?_
        refine mr_iconst (pc' := 964) (v := (2 : Int32)) dL_law_963 rfl (by decide) ?_
        refine mr_iadd (pc' := 965) dL_law_964 rfl ?_
        obtain ⟨a497, g498, h499⟩ := Option.bind_eq_some_iff.mp h496
        refine mr_xald (pc' := 966) hL dL_law_965 rfl g498 ?_
        refine mr_aload_n (pc' := 967) dL_law_966 rfl rfl ?_
        refine mr_iload_n (pc' := 968) dL_law_967 rfl rfl ?_
        refine mr_iconst (pc' := 969) (v := (3 : Int32)) dL_law_968 rfl (by decide) ?_
        refine mr_iadd (pc' := 970) dL_law_969 rfl ?_
        obtain ⟨a500, g501, h502⟩ := Option.bind_eq_some_iff.mp h499
        refine mr_xald (pc' := 971) hL dL_law_970 rfl g501 ?_
        refine mr_aload_n (pc' := 972) dL_law_971 rfl rfl ?_
        refine mr_iload_n (pc' := 973) dL_law_972 rfl rfl ?_
        refine mr_iconst (pc' := 974) (v := (4 : Int32)) dL_law_973 rfl (by decide) ?_
        refine mr_iadd (pc' := 975) dL_law_974 rfl ?_
        obtain ⟨a503, g504, h505⟩ := Option.bind_eq_some_iff.mp h502
        refine mr_xald (pc' := 976) hL dL_law_975 rfl g504 ?_
        refine mr_aload_n (pc' := 977) dL_law_976 rfl rfl ?_
        refine mr_iload_n (pc' := 978) dL_law_977 rfl rfl ?_
        refine mr_iconst (pc' := 979) (v := (5 : Int32)) dL_law_978 rfl (by decide) ?_
        refine mr_iadd (pc' := 980) dL_law_979 rfl ?_
        obtain ⟨a506, g507, h508⟩ := Option.bind_eq_some_iff.mp h505
        refine mr_xald (pc' := 981) hL dL_law_980 rfl g507 ?_
        obtain ⟨q509, g510, h511⟩ := Option.bind_eq_some_iff.mp h508
        refine mr_cv (pc' := 984) (a := 0) (d1 := 3) dL_law_981 rfl rfl rfl rfl rfl rfl (by decide) rfl (by decide) (ok_X10_owed hR  g510) ?_
        show mr X _ _ 984 _ [.long q509] (MM RR S0) _
        refine mr_aload_n (pc' := 985) dL_law_984 rfl rfl ?_
        refine mr_aload_n (pc' := 986) dL_law_985 rfl rfl ?_
        refine mr_iload_n (pc' := 987) dL_law_986 rfl rfl ?_
        refine mr_iconst (pc' := 988) (v := (1 : Int32)) dL_law_987 rfl (by decide) ?_
        refine mr_iadd (pc' := 989) dL_law_988 rfl ?_
        obtain ⟨a512, g513, h514⟩ := Option.bind_eq_some_iff.mp h511
        refine mr_xald (pc' := 990) hL dL_law_989 rfl g513 ?_
        refine mr_aload_n (pc' := 991) dL_law_990 rfl rfl ?_
        refine mr_iload_n (pc' := 992) dL_law_991 rfl rfl ?_
        refine mr_iconst (pc' := 993) (v := (2 : Int32)) dL_law_992 rfl (by decide) ?_
        refine mr_iadd (pc' := 994) dL_law_993 rfl ?_
        obtain ⟨a515, g516, h517⟩ := Option.bind_eq_some_iff.mp h514
        refine mr_xald (pc' := 995) hL dL_law_994 rfl g516 ?_
        refine mr_aload_n (pc' := 996) dL_law_995 rfl rfl ?_
        refine mr_iload_n (pc' := 997) dL_law_996 rfl rfl ?_
        refine mr_iconst (pc' := 998) (v := (3 : Int32)) dL_law_997 rfl (by decide) ?_
        refine mr_iadd (pc' := 999) dL_law_998 rfl ?_
        obtain ⟨a518, g519, h520⟩ := Option.bind_eq_some_iff.mp h517
        refine mr_xald (pc' := 1000) hL dL_law_999 rfl g519 ?_
        refine mr_aload_n (pc' := 1001) dL_law_1000 rfl rfl ?_
        refine mr_iload_n (pc' := 1002) dL_law_1001 rfl rfl ?_
        refine mr_iconst (pc' := 1003) (v := (4 : Int32)) dL_law_1002 rfl (by decide) ?_
        refine mr_iadd (pc' := 1004) dL_law_1003 rfl ?_
        obtain ⟨a521, g522, h523⟩ := Option.bind_eq_some_iff.mp h520
        refine mr_xald (pc' := 1005) hL dL_law_1004 rfl g522 ?_
        refine mr_aload_n (pc' := 1006) dL_law_1005 rfl rfl ?_
        refine mr_iload_n (pc' := 1007) dL_law_1006 rfl rfl ?_
        refine mr_iconst (pc' := 1008) (v := (5 : Int32)) dL_law_1007 rfl (by decide) ?_
        refine mr_iadd (pc' := 1009) dL_law_1008 rfl ?_
        obtain ⟨a524, g525, h526⟩ := Option.bind_eq_some_iff.mp h523
        refine mr_xald (pc' := 1010) hL dL_law_1009 rfl g525 ?_
        obtain ⟨q527, g528, h529⟩ := Option.bind_eq_some_iff.mp h526
        refine mr_cv (pc' := 1013) (a := 145) (d1 := 2) dL_law_1010 rfl rfl rfl rfl rfl rfl (by decide) rfl (by decide) (ok_X11_owed hR  g528) ?_
        show mr X _ _ 1013 _ [.long q527, .long q509] (MM RR S0) _
        by_cases c530 : q509 = q527
        · rw [if_pos c530] at h529
          refine mr_lcmp_eq_t (t := 1628) dL_law_1013 rfl dL_law_1014 (by decide) c530 ?_
          refine mr_iinc (pc' := 1631) (x' := (p3 + (6 : Int32))) (lv' := [(3, .int (p3 + (6 : Int32))), (0, .ref mm_ext), (1, .ref 0), (2, .ref 145)]) dL_law_1628 rfl (by decide) rfl rfl rfl ?_
          refine mr_goto (t := 18) dL_law_1631 (by decide) ?_
          exact mr_sub [(0, .ref mm_ext), (1, .ref 0), (2, .ref 145), (3, .int (p3 + (6 : Int32)))] ⟨rfl, rfl, rfl, rfl, trivial⟩ rfl (ih _ _  h529)
        · rw [if_neg c530] at h529
          refine mr_lcmp_eq_f (t := 1628) (pc' := 1017) dL_law_1013 rfl dL_law_1014 (by decide) rfl c530 ?_
          refine mr_iconst (pc' := 1018) (v := (0 : Int32)) dL_law_1017 rfl (by decide) ?_
          obtain rfl := Option.some.inj h529
          exact mr_zreturn dL_law_1018 rfl (by decide)
      rw [if_neg c493] at h4
      by_cases c531 : (a2 &&& (63 : Int32)) = (20 : Int32)
      · rw [if_pos c531] at h4
        refine mr_sw_in (t := 1019) (v := (20 : Int32)) dL_law_33 c531 rfl ?_
        refine mr_aload_n (pc' := 1020) dL_law_1019 rfl rfl ?_
        refine mr_aload_n (pc' := 1021) dL_law_1020 rfl rfl ?_
        refine mr_iload_n (pc' := 1022) dL_law_1021 rfl rfl ?_
        refine mr_iconst (pc' := 1023) (v := (1 : Int32)) dL_law_1022 rfl (by decide) ?_
        refine mr_iadd (pc' := 1024) dL_law_1023 rfl ?_
        obtain ⟨a532, g533, h534⟩ := Option.bind_eq_some_iff.mp h4
        refine mr_xald (pc' := 1025) hL dL_law_1024 rfl g533 ?_
        refine mr_aload_n (pc' := 1026) dL_law_1025 rfl rfl ?_
        refine mr_iload_n (pc' := 1027) dL_law_1026 rfl rfl ?_
        refine mr_iconst (pc' := 1028) (v := (2 : Int32)) dL_law_1027 rfl (by decide) ?_
        refine mr_iadd (pc' := 1029) dL_law_1028 rfl ?_
        obtain ⟨a535, g536, h537⟩ := Option.bind_eq_some_iff.mp h534
        refine mr_xald (pc' := 1030) hL dL_law_1029 rfl g536 ?_
        refine mr_aload_n (pc' := 1031) dL_law_1030 rfl rfl ?_
        refine mr_iload_n (pc' := 1032) dL_law_1031 rfl rfl ?_
        refine mr_iconst (pc' := 1033) (v := (3 : Int32)) dL_law_1032 rfl (by decide) ?_
        refine mr_iadd (pc' := 1034) dL_law_1033 rfl ?_
        obtain ⟨a538, g539, h540⟩ := Option.bind_eq_some_iff.mp h537
        refine mr_xald (pc' := 1035) hL dL_law_1034 rfl g539 ?_
        refine mr_aload_n (pc' := 1036) dL_law_1035 rfl rfl ?_
        refine mr_iload_n (pc' := 1037) dL_law_1036 rfl rfl ?_
        refine mr_iconst (pc' := 1038) (v := (4 : Int32)) dL_law_1037 rfl (by decide) ?_
        refine mr_iadd (pc' := 1039) dL_law_1038 rfl ?_
        obtain ⟨a541, g542, h543⟩ := Option.bind_eq_some_iff.mp h540
        refine mr_xald (pc' := 1040) hL dL_law_1039 rfl g542 ?_
        obtain ⟨q544, g545, h546⟩ := Option.bind_eq_some_iff.mp h543
        refine mr_cv (pc' := 1043) (a := 0) (d1 := 2) dL_law_1040 rfl rfl rfl rfl rfl rfl (by decide) rfl (by decide) (ok_X10_hands hR  g545) ?_
        show mr X _ _ 1043 _ [.int q544] (MM RR S0) _
        refine mr_aload_n (pc' := 1044) dL_law_1043 rfl rfl ?_
        refine mr_aload_n (pc' := 1045) dL_law_1044 rfl rfl ?_
        refine mr_iload_n (pc' := 1046) dL_law_1045 rfl rfl ?_
        refine mr_iconst (pc' := 1047) (v := (1 : Int32)) dL_law_1046 rfl (by decide) ?_
        refine mr_iadd (pc' := 1048) dL_law_1047 rfl ?_
        obtain ⟨a547, g548, h549⟩ := Option.bind_eq_some_iff.mp h546
        refine mr_xald (pc' := 1049) hL dL_law_1048 rfl g548 ?_
        refine mr_aload_n (pc' := 1050) dL_law_1049 rfl rfl ?_
        refine mr_iload_n (pc' := 1051) dL_law_1050 rfl rfl ?_
        refine mr_iconst (pc' := 1052) (v := (2 : Int32)) dL_law_1051 rfl (by decide) ?_
        refine mr_iadd (pc' := 1053) dL_law_1052 rfl ?_
        obtain ⟨a550, g551, h552⟩ := Option.bind_eq_some_iff.mp h549
        refine mr_xald (pc' := 1054) hL dL_law_1053 rfl g551 ?_
        refine mr_aload_n (pc' := 1055) dL_law_1054 rfl rfl ?_
        refine mr_iload_n (pc' := 1056) dL_law_1055 rfl rfl ?_
        refine mr_iconst (pc' := 1057) (v := (3 : Int32)) dL_law_1056 rfl (by decide) ?_
        refine mr_iadd (pc' := 1058) dL_law_1057 rfl ?_
        obtain ⟨a553, g554, h555⟩ := Option.bind_eq_some_iff.mp h552
        refine mr_xald (pc' := 1059) hL dL_law_1058 rfl g554 ?_
        refine mr_aload_n (pc' := 1060) dL_law_1059 rfl rfl ?_
        refine mr_iload_n (pc' := 1061) dL_law_1060 rfl rfl ?_
        refine mr_iconst (pc' := 1062) (v := (4 : Int32)) dL_law_1061 rfl (by decide) ?_
        refine mr_iadd (pc' := 1063) dL_law_1062 rfl ?_
        obtain ⟨a556, g557, h558⟩ := Option.bind_eq_some_iff.mp h555
        refine mr_xald (pc' := 1064) hL dL_law_1063 rfl g557 ?_
        obtain ⟨q559, g560, h561⟩ := Option.bind_eq_some_iff.mp h558
        refine mr_cv (pc' := 1067) (a := 145) (d1 := 1) dL_law_1064 rfl rfl rfl rfl rfl rfl (by decide) rfl (by decide) (ok_X11_hands hR  g560) ?_
        show mr X _ _ 1067 _ [.int q559, .int q544] (MM RR S0) _
        by_cases c562 : q544 = q559
        · rw [if_pos c562] at h561
          refine mr_icmp_eq_t (t := 1628) dL_law_1067 (by decide) c562 ?_
          refine mr_iinc (pc' := 1631) (x' := (p3 + (6 : Int32))) (lv' := [(3, .int (p3 + (6 : Int32))), (0, .ref mm_ext), (1, .ref 0), (2, .ref 145)]) dL_law_1628 rfl (by decide) rfl rfl rfl ?_
          refine mr_goto (t := 18) dL_law_1631 (by decide) ?_
          exact mr_sub [(0, .ref mm_ext), (1, .ref 0), (2, .ref 145), (3, .int (p3 + (6 : Int32)))] ⟨rfl, rfl, rfl, rfl, trivial⟩ rfl (ih _ _  h561)
        · rw [if_neg c562] at h561
          refine mr_icmp_eq_f (t := 1628) (pc' := 1070) dL_law_1067 (by decide) rfl c562 ?_
          refine mr_iconst (pc' := 1071) (v := (0 : Int32)) dL_law_1070 rfl (by decide) ?_
          obtain rfl := Option.some.inj h561
          exact mr_zreturn dL_law_1071 rfl (by decide)
      rw [if_neg c531] at h4
      by_cases c563 : (a2 &&& (63 : Int32)) = (21 : Int32)
      · rw [if_pos c563] at h4
        refine mr_sw_in (t := 1072) (v := (21 : Int32)) dL_law_33 c563 rfl ?_
        refine mr_aload_n (pc' := 1073) dL_law_1072 rfl rfl ?_
        refine mr_aload_n (pc' := 1074) dL_law_1073 rfl rfl ?_
        refine mr_iload_n (pc' := 1075) dL_law_1074 rfl rfl ?_
        refine mr_iconst (pc' := 1076) (v := (1 : Int32)) dL_law_1075 rfl (by decide) ?_
        refine mr_iadd (pc' := 1077) dL_law_1076 rfl ?_
        obtain ⟨a564, g565, h566⟩ := Option.bind_eq_some_iff.mp h4
        refine mr_xald (pc' := 1078) hL dL_law_1077 rfl g565 ?_
        refine mr_aload_n (pc' := 1079) dL_law_1078 rfl rfl ?_
        refine mr_iload_n (pc' := 1080) dL_law_1079 rfl rfl ?_
        refine mr_iconst (pc' := 1081) (v := (2 : Int32)) dL_law_1080 rfl (by decide) ?_
        refine mr_iadd (pc' := 1082) dL_law_1081 rfl ?_
        obtain ⟨a567, g568, h569⟩ := Option.bind_eq_some_iff.mp h566
        refine mr_xald (pc' := 1083) hL dL_law_1082 rfl g568 ?_
        refine mr_aload_n (pc' := 1084) dL_law_1083 rfl rfl ?_
        refine mr_iload_n (pc' := 1085) dL_law_1084 rfl rfl ?_
        refine mr_iconst (pc' := 1086) (v := (3 : Int32)) dL_law_1085 rfl (by decide) ?_
        refine mr_iadd (pc' := 1087) dL_law_1086 rfl ?_
        obtain ⟨a570, g571, h572⟩ := Option.bind_eq_some_iff.mp h569
        refine mr_xald (pc' := 1088) hL dL_law_1087 rfl g571 ?_
        by_cases c573 : a570 = (0 : Int32)
        · rw [if_pos c573] at h572
          refine mr_if_eq_t (t := 1095) dL_law_1088 (by decide) c573 ?_
          refine mr_iconst (pc' := 1096) (v := (0 : Int32)) dL_law_1095 rfl (by decide) ?_
          obtain ⟨q574, g575, h576⟩ := Option.bind_eq_some_iff.mp h572
          refine mr_cv (pc' := 1099) (a := 0) (d1 := 4) dL_law_1096 rfl rfl rfl rfl rfl rfl (by decide) rfl (by decide) (ok_X10_waiting hR  g575) ?_
          show mr X _ _ 1099 _ [.int q574.1] (MM RR q574.2) _
          refine mr_aload_n (pc' := 1100) dL_law_1099 rfl rfl ?_
          refine mr_aload_n (pc' := 1101) dL_law_1100 rfl rfl ?_
          refine mr_iload_n (pc' := 1102) dL_law_1101 rfl rfl ?_
          refine mr_iconst (pc' := 1103) (v := (1 : Int32)) dL_law_1102 rfl (by decide) ?_
          refine mr_iadd (pc' := 1104) dL_law_1103 rfl ?_
          obtain ⟨a577, g578, h579⟩ := Option.bind_eq_some_iff.mp h576
          refine mr_xald (pc' := 1105) hL dL_law_1104 rfl g578 ?_
          refine mr_aload_n (pc' := 1106) dL_law_1105 rfl rfl ?_
          refine mr_iload_n (pc' := 1107) dL_law_1106 rfl rfl ?_
          refine mr_iconst (pc' := 1108) (v := (2 : Int32)) dL_law_1107 rfl (by decide) ?_
          refine mr_iadd (pc' := 1109) dL_law_1108 rfl ?_
          obtain ⟨a580, g581, h582⟩ := Option.bind_eq_some_iff.mp h579
          refine mr_xald (pc' := 1110) hL dL_law_1109 rfl g581 ?_
          refine mr_aload_n (pc' := 1111) dL_law_1110 rfl rfl ?_
          refine mr_iload_n (pc' := 1112) dL_law_1111 rfl rfl ?_
          refine mr_iconst (pc' := 1113) (v := (3 : Int32)) dL_law_1112 rfl (by decide) ?_
          refine mr_iadd (pc' := 1114) dL_law_1113 rfl ?_
          obtain ⟨a583, g584, h585⟩ := Option.bind_eq_some_iff.mp h582
          refine mr_xald (pc' := 1115) hL dL_law_1114 rfl g584 ?_
          by_cases c586 : a583 = (0 : Int32)
          · rw [if_pos c586] at h585
            refine mr_if_eq_t (t := 1122) dL_law_1115 (by decide) c586 ?_
            refine mr_iconst (pc' := 1123) (v := (0 : Int32)) dL_law_1122 rfl (by decide) ?_
            obtain ⟨q587, g588, h589⟩ := Option.bind_eq_some_iff.mp h585
            refine mr_cv (pc' := 1126) (a := 145) (d1 := 4) dL_law_1123 rfl rfl rfl rfl rfl rfl (by decide) rfl (by decide) (ok_X11_waiting hR  g588) ?_
            show mr X _ _ 1126 _ [.int q587.1, .int q574.1] (MM RR q587.2) _
            by_cases c590 : q574.1 = q587.1
            · rw [if_pos c590] at h589
              refine mr_icmp_eq_t (t := 1628) dL_law_1126 (by decide) c590 ?_
              refine mr_iinc (pc' := 1631) (x' := (p3 + (6 : Int32))) (lv' := [(3, .int (p3 + (6 : Int32))), (0, .ref mm_ext), (1, .ref 0), (2, .ref 145)]) dL_law_1628 rfl (by decide) rfl rfl rfl ?_
              refine mr_goto (t := 18) dL_law_1631 (by decide) ?_
              exact mr_sub [(0, .ref mm_ext), (1, .ref 0), (2, .ref 145), (3, .int (p3 + (6 : Int32)))] ⟨rfl, rfl, rfl, rfl, trivial⟩ rfl (ih _ _  h589)
            · rw [if_neg c590] at h589
              refine mr_icmp_eq_f (t := 1628) (pc' := 1129) dL_law_1126 (by decide) rfl c590 ?_
              refine mr_iconst (pc' := 1130) (v := (0 : Int32)) dL_law_1129 rfl (by decide) ?_
              obtain rfl := Option.some.inj h589
              exact mr_zreturn dL_law_1130 rfl (by decide)
          · rw [if_neg c586] at h585
            refine mr_if_eq_f (t := 1122) (pc' := 1118) dL_law_1115 (by decide) rfl c586 ?_
            refine mr_iconst (pc' := 1119) (v := (1 : Int32)) dL_law_1118 rfl (by decide) ?_
            refine mr_goto (t := 1123) dL_law_1119 (by decide) ?_
            obtain ⟨q591, g592, h593⟩ := Option.bind_eq_some_iff.mp h585
            refine mr_cv (pc' := 1126) (a := 145) (d1 := 4) dL_law_1123 rfl rfl rfl rfl rfl rfl (by decide) rfl (by decide) (ok_X11_waiting hR  g592) ?_
            show mr X _ _ 1126 _ [.int q591.1, .int q574.1] (MM RR q591.2) _
            by_cases c594 : q574.1 = q591.1
            · rw [if_pos c594] at h593
              refine mr_icmp_eq_t (t := 1628) dL_law_1126 (by decide) c594 ?_
              refine mr_iinc (pc' := 1631) (x' := (p3 + (6 : Int32))) (lv' := [(3, .int (p3 + (6 : Int32))), (0, .ref mm_ext), (1, .ref 0), (2, .ref 145)]) dL_law_1628 rfl (by decide) rfl rfl rfl ?_
              refine mr_goto (t := 18) dL_law_1631 (by decide) ?_
              exact mr_sub [(0, .ref mm_ext), (1, .ref 0), (2, .ref 145), (3, .int (p3 + (6 : Int32)))] ⟨rfl, rfl, rfl, rfl, trivial⟩ rfl (ih _ _  h593)
            · rw [if_neg c594] at h593
              refine mr_icmp_eq_f (t := 1628) (pc' := 1129) dL_law_1126 (by decide) rfl c594 ?_
              refine mr_iconst (pc' := 1130) (v := (0 : Int32)) dL_law_1129 rfl (by decide) ?_
              obtain rfl := Option.some.inj h593
              exact mr_zreturn dL_law_1130 rfl (by decide)
        · rw [if_neg c573] at h572
          refine mr_if_eq_f (t := 1095) (pc' := 1091) dL_law_1088 (by decide) rfl c573 ?_
          refine mr_iconst (pc' := 1092) (v := (1 : Int32)) dL_law_1091 rfl (by decide) ?_
          refine mr_goto (t := 1096) dL_law_1092 (by decide) ?_
          obtain ⟨q595, g596, h597⟩ := Option.bind_eq_some_iff.mp h572
          refine mr_cv (pc' := 1099) (a := 0) (d1 := 4) dL_law_1096 rfl rfl rfl rfl rfl rfl (by decide) rfl (by decide) (ok_X10_waiting hR  g596) ?_
          show mr X _ _ 1099 _ [.int q595.1] (MM RR q595.2) _
          refine mr_aload_n (pc' := 1100) dL_law_1099 rfl rfl ?_
          refine mr_aload_n (pc' := 1101) dL_law_1100 rfl rfl ?_
          refine mr_iload_n (pc' := 1102) dL_law_1101 rfl rfl ?_
          refine mr_iconst (pc' := 1103) (v := (1 : Int32)) dL_law_1102 rfl (by decide) ?_
          refine mr_iadd (pc' := 1104) dL_law_1103 rfl ?_
          obtain ⟨a598, g599, h600⟩ := Option.bind_eq_some_iff.mp h597
          refine mr_xald (pc' := 1105) hL dL_law_1104 rfl g599 ?_
          refine mr_aload_n (pc' := 1106) dL_law_1105 rfl rfl ?_
          refine mr_iload_n (pc' := 1107) dL_law_1106 rfl rfl ?_
          refine mr_iconst (pc' := 1108) (v := (2 : Int32)) dL_law_1107 rfl (by decide) ?_
          refine mr_iadd (pc' := 1109) dL_law_1108 rfl ?_
          obtain ⟨a601, g602, h603⟩ := Option.bind_eq_some_iff.mp h600
          refine mr_xald (pc' := 1110) hL dL_law_1109 rfl g602 ?_
          refine mr_aload_n (pc' := 1111) dL_law_1110 rfl rfl ?_
          refine mr_iload_n (pc' := 1112) dL_law_1111 rfl rfl ?_
          refine mr_iconst (pc' := 1113) (v := (3 : Int32)) dL_law_1112 rfl (by decide) ?_
          refine mr_iadd (pc' := 1114) dL_law_1113 rfl ?_
          obtain ⟨a604, g605, h606⟩ := Option.bind_eq_some_iff.mp h603
          refine mr_xald (pc' := 1115) hL dL_law_1114 rfl g605 ?_
          by_cases c607 : a604 = (0 : Int32)
          · rw [if_pos c607] at h606
            refine mr_if_eq_t (t := 1122) dL_law_1115 (by decide) c607 ?_
            refine mr_iconst (pc' := 1123) (v := (0 : Int32)) dL_law_1122 rfl (by decide) ?_
            obtain ⟨q608, g609, h610⟩ := Option.bind_eq_some_iff.mp h606
            refine mr_cv (pc' := 1126) (a := 145) (d1 := 4) dL_law_1123 rfl rfl rfl rfl rfl rfl (by decide) rfl (by decide) (ok_X11_waiting hR  g609) ?_
            show mr X _ _ 1126 _ [.int q608.1, .int q595.1] (MM RR q608.2) _
            by_cases c611 : q595.1 = q608.1
            · rw [if_pos c611] at h610
              refine mr_icmp_eq_t (t := 1628) dL_law_1126 (by decide) c611 ?_
              refine mr_iinc (pc' := 1631) (x' := (p3 + (6 : Int32))) (lv' := [(3, .int (p3 + (6 : Int32))), (0, .ref mm_ext), (1, .ref 0), (2, .ref 145)]) dL_law_1628 rfl (by decide) rfl rfl rfl ?_
              refine mr_goto (t := 18) dL_law_1631 (by decide) ?_
              exact mr_sub [(0, .ref mm_ext), (1, .ref 0), (2, .ref 145), (3, .int (p3 + (6 : Int32)))] ⟨rfl, rfl, rfl, rfl, trivial⟩ rfl (ih _ _  h610)
            · rw [if_neg c611] at h610
              refine mr_icmp_eq_f (t := 1628) (pc' := 1129) dL_law_1126 (by decide) rfl c611 ?_
              refine mr_iconst (pc' := 1130) (v := (0 : Int32)) dL_law_1129 rfl (by decide) ?_
              obtain rfl := Option.some.inj h610
              exact mr_zreturn dL_law_1130 rfl (by decide)
          · rw [if_neg c607] at h606
            refine mr_if_eq_f (t := 1122) (pc' := 1118) dL_law_1115 (by decide) rfl c607 ?_
            refine mr_iconst (pc' := 1119) (v := (1 : Int32)) dL_law_1118 rfl (by decide) ?_
            refine mr_goto (t := 1123) dL_law_1119 (by decide) ?_
            obtain ⟨q612, g613, h614⟩ := Option.bind_eq_some_iff.mp h606
            refine mr_cv (pc' := 1126) (a := 145) (d1 := 4) dL_law_1123 rfl rfl rfl rfl rfl rfl (by decide) rfl (by decide) (ok_X11_waiting hR  g613) ?_
            show mr X _ _ 1126 _ [.int q612.1, .int q595.1] (MM RR q612.2) _
            by_cases c615 : q595.1 = q612.1
            · rw [if_pos c615] at h614
              refine mr_icmp_eq_t (t := 1628) dL_law_1126 (by decide) c615 ?_
              refine mr_iinc (pc' := 1631) (x' := (p3 + (6 : Int32))) (lv' := [(3, .int (p3 + (6 : Int32))), (0, .ref mm_ext), (1, .ref 0), (2, .ref 145)]) dL_law_1628 rfl (by decide) rfl rfl rfl ?_
              refine mr_goto (t := 18) dL_law_1631 (by decide) ?_
              exact mr_sub [(0, .ref mm_ext), (1, .ref 0), (2, .ref 145), (3, .int (p3 + (6 : Int32)))] ⟨rfl, rfl, rfl, rfl, trivial⟩ rfl (ih _ _  h614)
            · rw [if_neg c615] at h614
              refine mr_icmp_eq_f (t := 1628) (pc' := 1129) dL_law_1126 (by decide) rfl c615 ?_
              refine mr_iconst (pc' := 1130) (v := (0 : Int32)) dL_law_1129 rfl (by decide) ?_
              obtain rfl := Option.some.inj h614
              exact mr_zreturn dL_law_1130 rfl (by decide)
      rw [if_neg c563] at h4
      by_cases c616 : (a2 &&& (63 : Int32)) = (22 : Int32)
      · rw [if_pos c616] at h4
        refine mr_sw_in (t := 1131) (v := (22 : Int32)) dL_law_33 c616 rfl ?_
        refine mr_aload_n (pc' := 1132) dL_law_1131 rfl rfl ?_
        refine mr_aload_n (pc' := 1133) dL_law_1132 rfl rfl ?_
        refine mr_iload_n (pc' := 1134) dL_law_1133 rfl rfl ?_
        refine mr_iconst (pc' := 1135) (v := (1 : Int32)) dL_law_1134 rfl (by decide) ?_
        refine mr_iadd (pc' := 1136) dL_law_1135 rfl ?_
        obtain ⟨a617, g618, h619⟩ := Option.bind_eq_some_iff.mp h4
        refine mr_xald (pc' := 1137) hL dL_law_1136 rfl g618 ?_
        refine mr_aload_n (pc' := 1138) dL_law_1137 rfl rfl ?_
        refine mr_iload_n (pc' := 1139) dL_law_1138 rfl rfl ?_
        refine mr_iconst (pc' := 1140) (v := (2 : Int32)) dL_law_1139 rfl (by decide) ?_
        refine mr_iadd (pc' := 1141) dL_law_1140 rfl ?_
        obtain ⟨a620, g621, h622⟩ := Option.bind_eq_some_iff.mp h619
        refine mr_xald (pc' := 1142) hL dL_law_1141 rfl g621 ?_
        refine mr_aload_n (pc' := 1143) dL_law_1142 rfl rfl ?_
        refine mr_iload_n (pc' := 1144) dL_law_1143 rfl rfl ?_
        refine mr_iconst (pc' := 1145) (v := (3 : Int32)) dL_law_1144 rfl (by decide) ?_
        refine mr_iadd (pc' := 1146) dL_law_1145 rfl ?_
        obtain ⟨a623, g624, h625⟩ := Option.bind_eq_some_iff.mp h622
        refine mr_xald (pc' := 1147) hL dL_law_1146 rfl g624 ?_
        refine mr_aload_n (pc' := 1148) dL_law_1147 rfl rfl ?_
        refine mr_iload_n (pc' := 1149) dL_law_1148 rfl rfl ?_
        refine mr_iconst (pc' := 1150) (v := (4 : Int32)) dL_law_1149 rfl (by decide) ?_
        refine mr_iadd (pc' := 1151) dL_law_1150 rfl ?_
        obtain ⟨a626, g627, h628⟩ := Option.bind_eq_some_iff.mp h625
        refine mr_xald (pc' := 1152) hL dL_law_1151 rfl g627 ?_
        obtain ⟨q629, g630, h631⟩ := Option.bind_eq_some_iff.mp h628
        refine mr_cv (pc' := 1155) (a := 0) (d1 := 3) dL_law_1152 rfl rfl rfl rfl rfl rfl (by decide) rfl (by decide) (ok_X10_when hR  g630) ?_
        show mr X _ _ 1155 _ [.long q629] (MM RR S0) _
        refine mr_aload_n (pc' := 1156) dL_law_1155 rfl rfl ?_
        refine mr_aload_n (pc' := 1157) dL_law_1156 rfl rfl ?_
        refine mr_iload_n (pc' := 1158) dL_law_1157 rfl rfl ?_
        refine mr_iconst (pc' := 1159) (v := (1 : Int32)) dL_law_1158 rfl (by decide) ?_
        refine mr_iadd (pc' := 1160) dL_law_1159 rfl ?_
        obtain ⟨a632, g633, h634⟩ := Option.bind_eq_some_iff.mp h631
        refine mr_xald (pc' := 1161) hL dL_law_1160 rfl g633 ?_
        refine mr_aload_n (pc' := 1162) dL_law_1161 rfl rfl ?_
        refine mr_iload_n (pc' := 1163) dL_law_1162 rfl rfl ?_
        refine mr_iconst (pc' := 1164) (v := (2 : Int32)) dL_law_1163 rfl (by decide) ?_
        refine mr_iadd (pc' := 1165) dL_law_1164 rfl ?_
        obtain ⟨a635, g636, h637⟩ := Option.bind_eq_some_iff.mp h634
        refine mr_xald (pc' := 1166) hL dL_law_1165 rfl g636 ?_
        refine mr_aload_n (pc' := 1167) dL_law_1166 rfl rfl ?_
        refine mr_iload_n (pc' := 1168) dL_law_1167 rfl rfl ?_
        refine mr_iconst (pc' := 1169) (v := (3 : Int32)) dL_law_1168 rfl (by decide) ?_
        refine mr_iadd (pc' := 1170) dL_law_1169 rfl ?_
        obtain ⟨a638, g639, h640⟩ := Option.bind_eq_some_iff.mp h637
        refine mr_xald (pc' := 1171) hL dL_law_1170 rfl g639 ?_
        refine mr_aload_n (pc' := 1172) dL_law_1171 rfl rfl ?_
        refine mr_iload_n (pc' := 1173) dL_law_1172 rfl rfl ?_
        refine mr_iconst (pc' := 1174) (v := (4 : Int32)) dL_law_1173 rfl (by decide) ?_
        refine mr_iadd (pc' := 1175) dL_law_1174 rfl ?_
        obtain ⟨a641, g642, h643⟩ := Option.bind_eq_some_iff.mp h640
        refine mr_xald (pc' := 1176) hL dL_law_1175 rfl g642 ?_
        obtain ⟨q644, g645, h646⟩ := Option.bind_eq_some_iff.mp h643
        refine mr_cv (pc' := 1179) (a := 145) (d1 := 2) dL_law_1176 rfl rfl rfl rfl rfl rfl (by decide) rfl (by decide) (ok_X11_when hR  g645) ?_
        show mr X _ _ 1179 _ [.long q644, .long q629] (MM RR S0) _
        by_cases c647 : q629 = q644
        · rw [if_pos c647] at h646
          refine mr_lcmp_eq_t (t := 1628) dL_law_1179 rfl dL_law_1180 (by decide) c647 ?_
          refine mr_iinc (pc' := 1631) (x' := (p3 + (6 : Int32))) (lv' := [(3, .int (p3 + (6 : Int32))), (0, .ref mm_ext), (1, .ref 0), (2, .ref 145)]) dL_law_1628 rfl (by decide) rfl rfl rfl ?_
          refine mr_goto (t := 18) dL_law_1631 (by decide) ?_
          exact mr_sub [(0, .ref mm_ext), (1, .ref 0), (2, .ref 145), (3, .int (p3 + (6 : Int32)))] ⟨rfl, rfl, rfl, rfl, trivial⟩ rfl (ih _ _  h646)
        · rw [if_neg c647] at h646
          refine mr_lcmp_eq_f (t := 1628) (pc' := 1183) dL_law_1179 rfl dL_law_1180 (by decide) rfl c647 ?_
          refine mr_iconst (pc' := 1184) (v := (0 : Int32)) dL_law_1183 rfl (by decide) ?_
          obtain rfl := Option.some.inj h646
          exact mr_zreturn dL_law_1184 rfl (by decide)
      rw [if_neg c616] at h4
      by_cases c648 : (a2 &&& (63 : Int32)) = (23 : Int32)
      · rw [if_pos c648] at h4
        refine mr_sw_in (t := 1185) (v := (23 : Int32)) dL_law_33 c648 rfl ?_
        refine mr_aload_n (pc' := 1186) dL_law_1185 rfl rfl ?_
        refine mr_aload_n (pc' := 1187) dL_law_1186 rfl rfl ?_
        refine mr_iload_n (pc' := 1188) dL_law_1187 rfl rfl ?_
        refine mr_iconst (pc' := 1189) (v := (1 : Int32)) dL_law_1188 rfl (by decide) ?_
        refine mr_iadd (pc' := 1190) dL_law_1189 rfl ?_
        obtain ⟨a649, g650, h651⟩ := Option.bind_eq_some_iff.mp h4
        refine mr_xald (pc' := 1191) hL dL_law_1190 rfl g650 ?_
        refine mr_aload_n (pc' := 1192) dL_law_1191 rfl rfl ?_
        refine mr_iload_n (pc' := 1193) dL_law_1192 rfl rfl ?_
        refine mr_iconst (pc' := 1194) (v := (2 : Int32)) dL_law_1193 rfl (by decide) ?_
        refine mr_iadd (pc' := 1195) dL_law_1194 rfl ?_
        obtain ⟨a652, g653, h654⟩ := Option.bind_eq_some_iff.mp h651
        refine mr_xald (pc' := 1196) hL dL_law_1195 rfl g653 ?_
        refine mr_aload_n (pc' := 1197) dL_law_1196 rfl rfl ?_
        refine mr_iload_n (pc' := 1198) dL_law_1197 rfl rfl ?_
        refine mr_iconst (pc' := 1199) (v := (3 : Int32)) dL_law_1198 rfl (by decide) ?_
        refine mr_iadd (pc' := 1200) dL_law_1199 rfl ?_
        obtain ⟨a655, g656, h657⟩ := Option.bind_eq_some_iff.mp h654
        refine mr_xald (pc' := 1201) hL dL_law_1200 rfl g656 ?_
        obtain ⟨q658, g659, h660⟩ := Option.bind_eq_some_iff.mp h657
        refine mr_cv (pc' := 1204) (a := 0) (d1 := 2) dL_law_1201 rfl rfl rfl rfl rfl rfl (by decide) rfl (by decide) (ok_X10_shown hR  g659) ?_
        show mr X _ _ 1204 _ [.int q658] (MM RR S0) _
        refine mr_aload_n (pc' := 1205) dL_law_1204 rfl rfl ?_
        refine mr_aload_n (pc' := 1206) dL_law_1205 rfl rfl ?_
        refine mr_iload_n (pc' := 1207) dL_law_1206 rfl rfl ?_
        refine mr_iconst (pc' := 1208) (v := (1 : Int32)) dL_law_1207 rfl (by decide) ?_
        refine mr_iadd (pc' := 1209) dL_law_1208 rfl ?_
        obtain ⟨a661, g662, h663⟩ := Option.bind_eq_some_iff.mp h660
        refine mr_xald (pc' := 1210) hL dL_law_1209 rfl g662 ?_
        refine mr_aload_n (pc' := 1211) dL_law_1210 rfl rfl ?_
        refine mr_iload_n (pc' := 1212) dL_law_1211 rfl rfl ?_
        refine mr_iconst (pc' := 1213) (v := (2 : Int32)) dL_law_1212 rfl (by decide) ?_
        refine mr_iadd (pc' := 1214) dL_law_1213 rfl ?_
        obtain ⟨a664, g665, h666⟩ := Option.bind_eq_some_iff.mp h663
        refine mr_xald (pc' := 1215) hL dL_law_1214 rfl g665 ?_
        refine mr_aload_n (pc' := 1216) dL_law_1215 rfl rfl ?_
        refine mr_iload_n (pc' := 1217) dL_law_1216 rfl rfl ?_
        refine mr_iconst (pc' := 1218) (v := (3 : Int32)) dL_law_1217 rfl (by decide) ?_
        refine mr_iadd (pc' := 1219) dL_law_1218 rfl ?_
        obtain ⟨a667, g668, h669⟩ := Option.bind_eq_some_iff.mp h666
        refine mr_xald (pc' := 1220) hL dL_law_1219 rfl g668 ?_
        obtain ⟨q670, g671, h672⟩ := Option.bind_eq_some_iff.mp h669
        refine mr_cv (pc' := 1223) (a := 145) (d1 := 1) dL_law_1220 rfl rfl rfl rfl rfl rfl (by decide) rfl (by decide) (ok_X11_shown hR  g671) ?_
        show mr X _ _ 1223 _ [.int q670, .int q658] (MM RR S0) _
        by_cases c673 : q658 = q670
        · rw [if_pos c673] at h672
          refine mr_icmp_eq_t (t := 1628) dL_law_1223 (by decide) c673 ?_
          refine mr_iinc (pc' := 1631) (x' := (p3 + (6 : Int32))) (lv' := [(3, .int (p3 + (6 : Int32))), (0, .ref mm_ext), (1, .ref 0), (2, .ref 145)]) dL_law_1628 rfl (by decide) rfl rfl rfl ?_
          refine mr_goto (t := 18) dL_law_1631 (by decide) ?_
          exact mr_sub [(0, .ref mm_ext), (1, .ref 0), (2, .ref 145), (3, .int (p3 + (6 : Int32)))] ⟨rfl, rfl, rfl, rfl, trivial⟩ rfl (ih _ _  h672)
        · rw [if_neg c673] at h672
          refine mr_icmp_eq_f (t := 1628) (pc' := 1226) dL_law_1223 (by decide) rfl c673 ?_
          refine mr_iconst (pc' := 1227) (v := (0 : Int32)) dL_law_1226 rfl (by decide) ?_
          obtain rfl := Option.some.inj h672
          exact mr_zreturn dL_law_1227 rfl (by decide)
      rw [if_neg c648] at h4
      by_cases c674 : (a2 &&& (63 : Int32)) = (24 : Int32)
      · rw [if_pos c674] at h4
        refine mr_sw_in (t := 1228) (v := (24 : Int32)) dL_law_33 c674 rfl ?_
        refine mr_aload_n (pc' := 1229) dL_law_1228 rfl rfl ?_
        refine mr_aload_n (pc' := 1230) dL_law_1229 rfl rfl ?_
        refine mr_iload_n (pc' := 1231) dL_law_1230 rfl rfl ?_
        refine mr_iconst (pc' := 1232) (v := (1 : Int32)) dL_law_1231 rfl (by decide) ?_
        refine mr_iadd (pc' := 1233) dL_law_1232 rfl ?_
        obtain ⟨a675, g676, h677⟩ := Option.bind_eq_some_iff.mp h4
        refine mr_xald (pc' := 1234) hL dL_law_1233 rfl g676 ?_
        refine mr_aload_n (pc' := 1235) dL_law_1234 rfl rfl ?_
        refine mr_iload_n (pc' := 1236) dL_law_1235 rfl rfl ?_
        refine mr_iconst (pc' := 1237) (v := (2 : Int32)) dL_law_1236 rfl (by decide) ?_
        refine mr_iadd (pc' := 1238) dL_law_1237 rfl ?_
        obtain ⟨a678, g679, h680⟩ := Option.bind_eq_some_iff.mp h677
        refine mr_xald (pc' := 1239) hL dL_law_1238 rfl g679 ?_
        refine mr_aload_n (pc' := 1240) dL_law_1239 rfl rfl ?_
        refine mr_iload_n (pc' := 1241) dL_law_1240 rfl rfl ?_
        refine mr_iconst (pc' := 1242) (v := (3 : Int32)) dL_law_1241 rfl (by decide) ?_
        refine mr_iadd (pc' := 1243) dL_law_1242 rfl ?_
        obtain ⟨a681, g682, h683⟩ := Option.bind_eq_some_iff.mp h680
        refine mr_xald (pc' := 1244) hL dL_law_1243 rfl g682 ?_
        obtain ⟨q684, g685, h686⟩ := Option.bind_eq_some_iff.mp h683
        refine mr_cv (pc' := 1247) (a := 0) (d1 := 2) dL_law_1244 rfl rfl rfl rfl rfl rfl (by decide) rfl (by decide) (ok_X10_noonsIn hR  g685) ?_
        show mr X _ _ 1247 _ [.int q684] (MM RR S0) _
        refine mr_aload_n (pc' := 1248) dL_law_1247 rfl rfl ?_
        refine mr_aload_n (pc' := 1249) dL_law_1248 rfl rfl ?_
        refine mr_iload_n (pc' := 1250) dL_law_1249 rfl rfl ?_
        refine mr_iconst (pc' := 1251) (v := (1 : Int32)) dL_law_1250 rfl (by decide) ?_
        refine mr_iadd (pc' := 1252) dL_law_1251 rfl ?_
        obtain ⟨a687, g688, h689⟩ := Option.bind_eq_some_iff.mp h686
        refine mr_xald (pc' := 1253) hL dL_law_1252 rfl g688 ?_
        refine mr_aload_n (pc' := 1254) dL_law_1253 rfl rfl ?_
        refine mr_iload_n (pc' := 1255) dL_law_1254 rfl rfl ?_
        refine mr_iconst (pc' := 1256) (v := (2 : Int32)) dL_law_1255 rfl (by decide) ?_
        refine mr_iadd (pc' := 1257) dL_law_1256 rfl ?_
        obtain ⟨a690, g691, h692⟩ := Option.bind_eq_some_iff.mp h689
        refine mr_xald (pc' := 1258) hL dL_law_1257 rfl g691 ?_
        refine mr_aload_n (pc' := 1259) dL_law_1258 rfl rfl ?_
        refine mr_iload_n (pc' := 1260) dL_law_1259 rfl rfl ?_
        refine mr_iconst (pc' := 1261) (v := (3 : Int32)) dL_law_1260 rfl (by decide) ?_
        refine mr_iadd (pc' := 1262) dL_law_1261 rfl ?_
        obtain ⟨a693, g694, h695⟩ := Option.bind_eq_some_iff.mp h692
        refine mr_xald (pc' := 1263) hL dL_law_1262 rfl g694 ?_
        obtain ⟨q696, g697, h698⟩ := Option.bind_eq_some_iff.mp h695
        refine mr_cv (pc' := 1266) (a := 145) (d1 := 1) dL_law_1263 rfl rfl rfl rfl rfl rfl (by decide) rfl (by decide) (ok_X11_noonsIn hR  g697) ?_
        show mr X _ _ 1266 _ [.int q696, .int q684] (MM RR S0) _
        by_cases c699 : q684 = q696
        · rw [if_pos c699] at h698
          refine mr_icmp_eq_t (t := 1628) dL_law_1266 (by decide) c699 ?_
          refine mr_iinc (pc' := 1631) (x' := (p3 + (6 : Int32))) (lv' := [(3, .int (p3 + (6 : Int32))), (0, .ref mm_ext), (1, .ref 0), (2, .ref 145)]) dL_law_1628 rfl (by decide) rfl rfl rfl ?_
          refine mr_goto (t := 18) dL_law_1631 (by decide) ?_
          exact mr_sub [(0, .ref mm_ext), (1, .ref 0), (2, .ref 145), (3, .int (p3 + (6 : Int32)))] ⟨rfl, rfl, rfl, rfl, trivial⟩ rfl (ih _ _  h698)
        · rw [if_neg c699] at h698
          refine mr_icmp_eq_f (t := 1628) (pc' := 1269) dL_law_1266 (by decide) rfl c699 ?_
          refine mr_iconst (pc' := 1270) (v := (0 : Int32)) dL_law_1269 rfl (by decide) ?_
          obtain rfl := Option.some.inj h698
          exact mr_zreturn dL_law_1270 rfl (by decide)
      rw [if_neg c674] at h4
      by_cases c700 : (a2 &&& (63 : Int32)) = (25 : Int32)
      · rw [if_pos c700] at h4
        refine mr_sw_in (t := 1271) (v := (25 : Int32)) dL_law_33 c700 rfl ?_
        refine mr_aload_n (pc' := 1272) dL_law_1271 rfl rfl ?_
        refine mr_aload_n (pc' := 1273) dL_law_1272 rfl rfl ?_
        refine mr_iload_n (pc' := 1274) dL_law_1273 rfl rfl ?_
        refine mr_iconst (pc' := 1275) (v := (1 : Int32)) dL_law_1274 rfl (by decide) ?_
        refine mr_iadd (pc' := 1276) dL_law_1275 rfl ?_
        obtain ⟨a701, g702, h703⟩ := Option.bind_eq_some_iff.mp h4
        refine mr_xald (pc' := 1277) hL dL_law_1276 rfl g702 ?_
        refine mr_aload_n (pc' := 1278) dL_law_1277 rfl rfl ?_
        refine mr_iload_n (pc' := 1279) dL_law_1278 rfl rfl ?_
        refine mr_iconst (pc' := 1280) (v := (2 : Int32)) dL_law_1279 rfl (by decide) ?_
        refine mr_iadd (pc' := 1281) dL_law_1280 rfl ?_
        obtain ⟨a704, g705, h706⟩ := Option.bind_eq_some_iff.mp h703
        refine mr_xald (pc' := 1282) hL dL_law_1281 rfl g705 ?_
        obtain ⟨q707, g708, h709⟩ := Option.bind_eq_some_iff.mp h706
        refine mr_cv (pc' := 1285) (a := 0) (d1 := 2) dL_law_1282 rfl rfl rfl rfl rfl rfl (by decide) rfl (by decide) (ok_X10_due hR  g708) ?_
        show mr X _ _ 1285 _ [.int q707] (MM RR S0) _
        refine mr_aload_n (pc' := 1286) dL_law_1285 rfl rfl ?_
        refine mr_aload_n (pc' := 1287) dL_law_1286 rfl rfl ?_
        refine mr_iload_n (pc' := 1288) dL_law_1287 rfl rfl ?_
        refine mr_iconst (pc' := 1289) (v := (1 : Int32)) dL_law_1288 rfl (by decide) ?_
        refine mr_iadd (pc' := 1290) dL_law_1289 rfl ?_
        obtain ⟨a710, g711, h712⟩ := Option.bind_eq_some_iff.mp h709
        refine mr_xald (pc' := 1291) hL dL_law_1290 rfl g711 ?_
        refine mr_aload_n (pc' := 1292) dL_law_1291 rfl rfl ?_
        refine mr_iload_n (pc' := 1293) dL_law_1292 rfl rfl ?_
        refine mr_iconst (pc' := 1294) (v := (2 : Int32)) dL_law_1293 rfl (by decide) ?_
        refine mr_iadd (pc' := 1295) dL_law_1294 rfl ?_
        obtain ⟨a713, g714, h715⟩ := Option.bind_eq_some_iff.mp h712
        refine mr_xald (pc' := 1296) hL dL_law_1295 rfl g714 ?_
        obtain ⟨q716, g717, h718⟩ := Option.bind_eq_some_iff.mp h715
        refine mr_cv (pc' := 1299) (a := 145) (d1 := 1) dL_law_1296 rfl rfl rfl rfl rfl rfl (by decide) rfl (by decide) (ok_X11_due hR  g717) ?_
        show mr X _ _ 1299 _ [.int q716, .int q707] (MM RR S0) _
        by_cases c719 : q707 = q716
        · rw [if_pos c719] at h718
          refine mr_icmp_eq_t (t := 1628) dL_law_1299 (by decide) c719 ?_
          refine mr_iinc (pc' := 1631) (x' := (p3 + (6 : Int32))) (lv' := [(3, .int (p3 + (6 : Int32))), (0, .ref mm_ext), (1, .ref 0), (2, .ref 145)]) dL_law_1628 rfl (by decide) rfl rfl rfl ?_
          refine mr_goto (t := 18) dL_law_1631 (by decide) ?_
          exact mr_sub [(0, .ref mm_ext), (1, .ref 0), (2, .ref 145), (3, .int (p3 + (6 : Int32)))] ⟨rfl, rfl, rfl, rfl, trivial⟩ rfl (ih _ _  h718)
        · rw [if_neg c719] at h718
          refine mr_icmp_eq_f (t := 1628) (pc' := 1302) dL_law_1299 (by decide) rfl c719 ?_
          refine mr_iconst (pc' := 1303) (v := (0 : Int32)) dL_law_1302 rfl (by decide) ?_
          obtain rfl := Option.some.inj h718
          exact mr_zreturn dL_law_1303 rfl (by decide)
      rw [if_neg c700] at h4
      by_cases c720 : (a2 &&& (63 : Int32)) = (26 : Int32)
      · rw [if_pos c720] at h4
        refine mr_sw_in (t := 1304) (v := (26 : Int32)) dL_law_33 c720 rfl ?_
        refine mr_aload_n (pc' := 1305) dL_law_1304 rfl rfl ?_
        obtain ⟨q721, g722, h723⟩ := Option.bind_eq_some_iff.mp h4
        refine mr_cv (pc' := 1308) (a := 0) (d1 := 1) dL_law_1305 rfl rfl rfl rfl rfl rfl (by decide) rfl (by decide) (ok_X10_needed hR  g722) ?_
        show mr X _ _ 1308 _ [.int q721] (MM RR S0) _
        refine mr_aload_n (pc' := 1309) dL_law_1308 rfl rfl ?_
        obtain ⟨q724, g725, h726⟩ := Option.bind_eq_some_iff.mp h723
        refine mr_cv (pc' := 1312) (a := 145) (d1 := 2) dL_law_1309 rfl rfl rfl rfl rfl rfl (by decide) rfl (by decide) (ok_X11_needed hR  g725) ?_
        show mr X _ _ 1312 _ [.int q724.1, .int q721] (MM RR q724.2) _
        by_cases c727 : q721 = q724.1
        · rw [if_pos c727] at h726
          refine mr_icmp_eq_t (t := 1628) dL_law_1312 (by decide) c727 ?_
          refine mr_iinc (pc' := 1631) (x' := (p3 + (6 : Int32))) (lv' := [(3, .int (p3 + (6 : Int32))), (0, .ref mm_ext), (1, .ref 0), (2, .ref 145)]) dL_law_1628 rfl (by decide) rfl rfl rfl ?_
          refine mr_goto (t := 18) dL_law_1631 (by decide) ?_
          exact mr_sub [(0, .ref mm_ext), (1, .ref 0), (2, .ref 145), (3, .int (p3 + (6 : Int32)))] ⟨rfl, rfl, rfl, rfl, trivial⟩ rfl (ih _ _  h726)
        · rw [if_neg c727] at h726
          refine mr_icmp_eq_f (t := 1628) (pc' := 1315) dL_law_1312 (by decide) rfl c727 ?_
          refine mr_iconst (pc' := 1316) (v := (0 : Int32)) dL_law_1315 rfl (by decide) ?_
          obtain rfl := Option.some.inj h726
          exact mr_zreturn dL_law_1316 rfl (by decide)
      rw [if_neg c720] at h4
      by_cases c728 : (a2 &&& (63 : Int32)) = (27 : Int32)
      · rw [if_pos c728] at h4
        refine mr_sw_in (t := 1317) (v := (27 : Int32)) dL_law_33 c728 rfl ?_
        refine mr_aload_n (pc' := 1318) dL_law_1317 rfl rfl ?_
        refine mr_aload_n (pc' := 1319) dL_law_1318 rfl rfl ?_
        refine mr_iload_n (pc' := 1320) dL_law_1319 rfl rfl ?_
        refine mr_iconst (pc' := 1321) (v := (1 : Int32)) dL_law_1320 rfl (by decide) ?_
        refine mr_iadd (pc' := 1322) dL_law_1321 rfl ?_
        obtain ⟨a729, g730, h731⟩ := Option.bind_eq_some_iff.mp h4
        refine mr_xald (pc' := 1323) hL dL_law_1322 rfl g730 ?_
        refine mr_aload_n (pc' := 1324) dL_law_1323 rfl rfl ?_
        refine mr_iload_n (pc' := 1325) dL_law_1324 rfl rfl ?_
        refine mr_iconst (pc' := 1326) (v := (2 : Int32)) dL_law_1325 rfl (by decide) ?_
        refine mr_iadd (pc' := 1327) dL_law_1326 rfl ?_
        obtain ⟨a732, g733, h734⟩ := Option.bind_eq_some_iff.mp h731
        refine mr_xald (pc' := 1328) hL dL_law_1327 rfl g733 ?_
        refine mr_aload_n (pc' := 1329) dL_law_1328 rfl rfl ?_
        refine mr_iload_n (pc' := 1330) dL_law_1329 rfl rfl ?_
        refine mr_iconst (pc' := 1331) (v := (3 : Int32)) dL_law_1330 rfl (by decide) ?_
        refine mr_iadd (pc' := 1332) dL_law_1331 rfl ?_
        obtain ⟨a735, g736, h737⟩ := Option.bind_eq_some_iff.mp h734
        refine mr_xald (pc' := 1333) hL dL_law_1332 rfl g736 ?_
        obtain ⟨q738, g739, h740⟩ := Option.bind_eq_some_iff.mp h737
        refine mr_cv (pc' := 1336) (a := 0) (d1 := 6) dL_law_1333 rfl rfl rfl rfl rfl rfl (by decide) rfl (by decide) (ok_X10_elder hR  g739) ?_
        show mr X _ _ 1336 _ [.long q738.1] (MM RR q738.2) _
        refine mr_aload_n (pc' := 1337) dL_law_1336 rfl rfl ?_
        refine mr_aload_n (pc' := 1338) dL_law_1337 rfl rfl ?_
        refine mr_iload_n (pc' := 1339) dL_law_1338 rfl rfl ?_
        refine mr_iconst (pc' := 1340) (v := (1 : Int32)) dL_law_1339 rfl (by decide) ?_
        refine mr_iadd (pc' := 1341) dL_law_1340 rfl ?_
        obtain ⟨a741, g742, h743⟩ := Option.bind_eq_some_iff.mp h740
        refine mr_xald (pc' := 1342) hL dL_law_1341 rfl g742 ?_
        refine mr_aload_n (pc' := 1343) dL_law_1342 rfl rfl ?_
        refine mr_iload_n (pc' := 1344) dL_law_1343 rfl rfl ?_
        refine mr_iconst (pc' := 1345) (v := (2 : Int32)) dL_law_1344 rfl (by decide) ?_
        refine mr_iadd (pc' := 1346) dL_law_1345 rfl ?_
        obtain ⟨a744, g745, h746⟩ := Option.bind_eq_some_iff.mp h743
        refine mr_xald (pc' := 1347) hL dL_law_1346 rfl g745 ?_
        refine mr_aload_n (pc' := 1348) dL_law_1347 rfl rfl ?_
        refine mr_iload_n (pc' := 1349) dL_law_1348 rfl rfl ?_
        refine mr_iconst (pc' := 1350) (v := (3 : Int32)) dL_law_1349 rfl (by decide) ?_
        refine mr_iadd (pc' := 1351) dL_law_1350 rfl ?_
        obtain ⟨a747, g748, h749⟩ := Option.bind_eq_some_iff.mp h746
        refine mr_xald (pc' := 1352) hL dL_law_1351 rfl g748 ?_
        obtain ⟨q750, g751, h752⟩ := Option.bind_eq_some_iff.mp h749
        refine mr_cv (pc' := 1355) (a := 145) (d1 := 5) dL_law_1352 rfl rfl rfl rfl rfl rfl (by decide) rfl (by decide) (ok_X11_elder hR  g751) ?_
        show mr X _ _ 1355 _ [.long q750.1, .long q738.1] (MM RR q750.2) _
        by_cases c753 : q738.1 = q750.1
        · rw [if_pos c753] at h752
          refine mr_lcmp_eq_t (t := 1628) dL_law_1355 rfl dL_law_1356 (by decide) c753 ?_
          refine mr_iinc (pc' := 1631) (x' := (p3 + (6 : Int32))) (lv' := [(3, .int (p3 + (6 : Int32))), (0, .ref mm_ext), (1, .ref 0), (2, .ref 145)]) dL_law_1628 rfl (by decide) rfl rfl rfl ?_
          refine mr_goto (t := 18) dL_law_1631 (by decide) ?_
          exact mr_sub [(0, .ref mm_ext), (1, .ref 0), (2, .ref 145), (3, .int (p3 + (6 : Int32)))] ⟨rfl, rfl, rfl, rfl, trivial⟩ rfl (ih _ _  h752)
        · rw [if_neg c753] at h752
          refine mr_lcmp_eq_f (t := 1628) (pc' := 1359) dL_law_1355 rfl dL_law_1356 (by decide) rfl c753 ?_
          refine mr_iconst (pc' := 1360) (v := (0 : Int32)) dL_law_1359 rfl (by decide) ?_
          obtain rfl := Option.some.inj h752
          exact mr_zreturn dL_law_1360 rfl (by decide)
      rw [if_neg c728] at h4
      by_cases c754 : (a2 &&& (63 : Int32)) = (28 : Int32)
      · rw [if_pos c754] at h4
        refine mr_sw_in (t := 1361) (v := (28 : Int32)) dL_law_33 c754 rfl ?_
        refine mr_aload_n (pc' := 1362) dL_law_1361 rfl rfl ?_
        refine mr_aload_n (pc' := 1363) dL_law_1362 rfl rfl ?_
        refine mr_iload_n (pc' := 1364) dL_law_1363 rfl rfl ?_
        refine mr_iconst (pc' := 1365) (v := (1 : Int32)) dL_law_1364 rfl (by decide) ?_
        refine mr_iadd (pc' := 1366) dL_law_1365 rfl ?_
        obtain ⟨a755, g756, h757⟩ := Option.bind_eq_some_iff.mp h4
        refine mr_xald (pc' := 1367) hL dL_law_1366 rfl g756 ?_
        refine mr_aload_n (pc' := 1368) dL_law_1367 rfl rfl ?_
        refine mr_iload_n (pc' := 1369) dL_law_1368 rfl rfl ?_
        refine mr_iconst (pc' := 1370) (v := (2 : Int32)) dL_law_1369 rfl (by decide) ?_
        refine mr_iadd (pc' := 1371) dL_law_1370 rfl ?_
        obtain ⟨a758, g759, h760⟩ := Option.bind_eq_some_iff.mp h757
        refine mr_xald (pc' := 1372) hL dL_law_1371 rfl g759 ?_
        refine mr_aload_n (pc' := 1373) dL_law_1372 rfl rfl ?_
        refine mr_iload_n (pc' := 1374) dL_law_1373 rfl rfl ?_
        refine mr_iconst (pc' := 1375) (v := (3 : Int32)) dL_law_1374 rfl (by decide) ?_
        refine mr_iadd (pc' := 1376) dL_law_1375 rfl ?_
        obtain ⟨a761, g762, h763⟩ := Option.bind_eq_some_iff.mp h760
        refine mr_xald (pc' := 1377) hL dL_law_1376 rfl g762 ?_
        obtain ⟨q764, g765, h766⟩ := Option.bind_eq_some_iff.mp h763
        refine mr_cv (pc' := 1380) (a := 0) (d1 := 2) dL_law_1377 rfl rfl rfl rfl rfl rfl (by decide) rfl (by decide) (ok_X10_letter hR  g765) ?_
        show mr X _ _ 1380 _ [.int q764.1] (MM RR q764.2) _
        refine mr_aload_n (pc' := 1381) dL_law_1380 rfl rfl ?_
        refine mr_aload_n (pc' := 1382) dL_law_1381 rfl rfl ?_
        refine mr_iload_n (pc' := 1383) dL_law_1382 rfl rfl ?_
        refine mr_iconst (pc' := 1384) (v := (1 : Int32)) dL_law_1383 rfl (by decide) ?_
        refine mr_iadd (pc' := 1385) dL_law_1384 rfl ?_
        obtain ⟨a767, g768, h769⟩ := Option.bind_eq_some_iff.mp h766
        refine mr_xald (pc' := 1386) hL dL_law_1385 rfl g768 ?_
        refine mr_aload_n (pc' := 1387) dL_law_1386 rfl rfl ?_
        refine mr_iload_n (pc' := 1388) dL_law_1387 rfl rfl ?_
        refine mr_iconst (pc' := 1389) (v := (2 : Int32)) dL_law_1388 rfl (by decide) ?_
        refine mr_iadd (pc' := 1390) dL_law_1389 rfl ?_
        obtain ⟨a770, g771, h772⟩ := Option.bind_eq_some_iff.mp h769
        refine mr_xald (pc' := 1391) hL dL_law_1390 rfl g771 ?_
        refine mr_aload_n (pc' := 1392) dL_law_1391 rfl rfl ?_
        refine mr_iload_n (pc' := 1393) dL_law_1392 rfl rfl ?_
        refine mr_iconst (pc' := 1394) (v := (3 : Int32)) dL_law_1393 rfl (by decide) ?_
        refine mr_iadd (pc' := 1395) dL_law_1394 rfl ?_
        obtain ⟨a773, g774, h775⟩ := Option.bind_eq_some_iff.mp h772
        refine mr_xald (pc' := 1396) hL dL_law_1395 rfl g774 ?_
        obtain ⟨q776, g777, h778⟩ := Option.bind_eq_some_iff.mp h775
        refine mr_cv (pc' := 1399) (a := 145) (d1 := 1) dL_law_1396 rfl rfl rfl rfl rfl rfl (by decide) rfl (by decide) (ok_X11_letter hR  g777) ?_
        show mr X _ _ 1399 _ [.int q776.1, .int q764.1] (MM RR q776.2) _
        by_cases c779 : q764.1 = q776.1
        · rw [if_pos c779] at h778
          refine mr_icmp_eq_t (t := 1628) dL_law_1399 (by decide) c779 ?_
          refine mr_iinc (pc' := 1631) (x' := (p3 + (6 : Int32))) (lv' := [(3, .int (p3 + (6 : Int32))), (0, .ref mm_ext), (1, .ref 0), (2, .ref 145)]) dL_law_1628 rfl (by decide) rfl rfl rfl ?_
          refine mr_goto (t := 18) dL_law_1631 (by decide) ?_
          exact mr_sub [(0, .ref mm_ext), (1, .ref 0), (2, .ref 145), (3, .int (p3 + (6 : Int32)))] ⟨rfl, rfl, rfl, rfl, trivial⟩ rfl (ih _ _  h778)
        · rw [if_neg c779] at h778
          refine mr_icmp_eq_f (t := 1628) (pc' := 1402) dL_law_1399 (by decide) rfl c779 ?_
          refine mr_iconst (pc' := 1403) (v := (0 : Int32)) dL_law_1402 rfl (by decide) ?_
          obtain rfl := Option.some.inj h778
          exact mr_zreturn dL_law_1403 rfl (by decide)
      rw [if_neg c754] at h4
      by_cases c780 : (a2 &&& (63 : Int32)) = (29 : Int32)
      · rw [if_pos c780] at h4
        refine mr_sw_in (t := 1404) (v := (29 : Int32)) dL_law_33 c780 rfl ?_
        refine mr_aload_n (pc' := 1405) dL_law_1404 rfl rfl ?_
        refine mr_aload_n (pc' := 1406) dL_law_1405 rfl rfl ?_
        refine mr_iload_n (pc' := 1407) dL_law_1406 rfl rfl ?_
        refine mr_iconst (pc' := 1408) (v := (1 : Int32)) dL_law_1407 rfl (by decide) ?_
        refine mr_iadd (pc' := 1409) dL_law_1408 rfl ?_
        obtain ⟨a781, g782, h783⟩ := Option.bind_eq_some_iff.mp h4
        refine mr_xald (pc' := 1410) hL dL_law_1409 rfl g782 ?_
        refine mr_aload_n (pc' := 1411) dL_law_1410 rfl rfl ?_
        refine mr_iload_n (pc' := 1412) dL_law_1411 rfl rfl ?_
        refine mr_iconst (pc' := 1413) (v := (2 : Int32)) dL_law_1412 rfl (by decide) ?_
        refine mr_iadd (pc' := 1414) dL_law_1413 rfl ?_
        obtain ⟨a784, g785, h786⟩ := Option.bind_eq_some_iff.mp h783
        refine mr_xald (pc' := 1415) hL dL_law_1414 rfl g785 ?_
        obtain ⟨q787, g788, h789⟩ := Option.bind_eq_some_iff.mp h786
        refine mr_cv (pc' := 1418) (a := 0) (d1 := 3) dL_law_1415 rfl rfl rfl rfl rfl rfl (by decide) rfl (by decide) (ok_X10_letters hR  g788) ?_
        show mr X _ _ 1418 _ [.int q787] (MM RR S0) _
        refine mr_aload_n (pc' := 1419) dL_law_1418 rfl rfl ?_
        refine mr_aload_n (pc' := 1420) dL_law_1419 rfl rfl ?_
        refine mr_iload_n (pc' := 1421) dL_law_1420 rfl rfl ?_
        refine mr_iconst (pc' := 1422) (v := (1 : Int32)) dL_law_1421 rfl (by decide) ?_
        refine mr_iadd (pc' := 1423) dL_law_1422 rfl ?_
        obtain ⟨a790, g791, h792⟩ := Option.bind_eq_some_iff.mp h789
        refine mr_xald (pc' := 1424) hL dL_law_1423 rfl g791 ?_
        refine mr_aload_n (pc' := 1425) dL_law_1424 rfl rfl ?_
        refine mr_iload_n (pc' := 1426) dL_law_1425 rfl rfl ?_
        refine mr_iconst (pc' := 1427) (v := (2 : Int32)) dL_law_1426 rfl (by decide) ?_
        refine mr_iadd (pc' := 1428) dL_law_1427 rfl ?_
        obtain ⟨a793, g794, h795⟩ := Option.bind_eq_some_iff.mp h792
        refine mr_xald (pc' := 1429) hL dL_law_1428 rfl g794 ?_
        obtain ⟨q796, g797, h798⟩ := Option.bind_eq_some_iff.mp h795
        refine mr_cv (pc' := 1432) (a := 145) (d1 := 3) dL_law_1429 rfl rfl rfl rfl rfl rfl (by decide) rfl (by decide) (ok_X11_letters hR  g797) ?_
        show mr X _ _ 1432 _ [.int q796, .int q787] (MM RR S0) _
        by_cases c799 : q787 = q796
        · rw [if_pos c799] at h798
          refine mr_icmp_eq_t (t := 1628) dL_law_1432 (by decide) c799 ?_
          refine mr_iinc (pc' := 1631) (x' := (p3 + (6 : Int32))) (lv' := [(3, .int (p3 + (6 : Int32))), (0, .ref mm_ext), (1, .ref 0), (2, .ref 145)]) dL_law_1628 rfl (by decide) rfl rfl rfl ?_
          refine mr_goto (t := 18) dL_law_1631 (by decide) ?_
          exact mr_sub [(0, .ref mm_ext), (1, .ref 0), (2, .ref 145), (3, .int (p3 + (6 : Int32)))] ⟨rfl, rfl, rfl, rfl, trivial⟩ rfl (ih _ _  h798)
        · rw [if_neg c799] at h798
          refine mr_icmp_eq_f (t := 1628) (pc' := 1435) dL_law_1432 (by decide) rfl c799 ?_
          refine mr_iconst (pc' := 1436) (v := (0 : Int32)) dL_law_1435 rfl (by decide) ?_
          obtain rfl := Option.some.inj h798
          exact mr_zreturn dL_law_1436 rfl (by decide)
      rw [if_neg c780] at h4
      by_cases c800 : (a2 &&& (63 : Int32)) = (30 : Int32)
      · rw [if_pos c800] at h4
        refine mr_sw_in (t := 1437) (v := (30 : Int32)) dL_law_33 c800 rfl ?_
        refine mr_aload_n (pc' := 1438) dL_law_1437 rfl rfl ?_
        obtain ⟨q801, g802, h803⟩ := Option.bind_eq_some_iff.mp h4
        refine mr_cv (pc' := 1441) (a := 0) (d1 := 3) dL_law_1438 rfl rfl rfl rfl rfl rfl (by decide) rfl (by decide) (ok_X10_crossed hR  g802) ?_
        show mr X _ _ 1441 _ [.int q801] (MM RR S0) _
        refine mr_aload_n (pc' := 1442) dL_law_1441 rfl rfl ?_
        obtain ⟨q804, g805, h806⟩ := Option.bind_eq_some_iff.mp h803
        refine mr_cv (pc' := 1445) (a := 145) (d1 := 2) dL_law_1442 rfl rfl rfl rfl rfl rfl (by decide) rfl (by decide) (ok_X11_crossed hR  g805) ?_
        show mr X _ _ 1445 _ [.int q804, .int q801] (MM RR S0) _
        by_cases c807 : q801 = q804
        · rw [if_pos c807] at h806
          refine mr_icmp_eq_t (t := 1628) dL_law_1445 (by decide) c807 ?_
          refine mr_iinc (pc' := 1631) (x' := (p3 + (6 : Int32))) (lv' := [(3, .int (p3 + (6 : Int32))), (0, .ref mm_ext), (1, .ref 0), (2, .ref 145)]) dL_law_1628 rfl (by decide) rfl rfl rfl ?_
          refine mr_goto (t := 18) dL_law_1631 (by decide) ?_
          exact mr_sub [(0, .ref mm_ext), (1, .ref 0), (2, .ref 145), (3, .int (p3 + (6 : Int32)))] ⟨rfl, rfl, rfl, rfl, trivial⟩ rfl (ih _ _  h806)
        · rw [if_neg c807] at h806
          refine mr_icmp_eq_f (t := 1628) (pc' := 1448) dL_law_1445 (by decide) rfl c807 ?_
          refine mr_iconst (pc' := 1449) (v := (0 : Int32)) dL_law_1448 rfl (by decide) ?_
          obtain rfl := Option.some.inj h806
          exact mr_zreturn dL_law_1449 rfl (by decide)
      rw [if_neg c800] at h4
      by_cases c808 : (a2 &&& (63 : Int32)) = (31 : Int32)
      · rw [if_pos c808] at h4
        refine mr_sw_in (t := 1450) (v := (31 : Int32)) dL_law_33 c808 rfl ?_
        refine mr_aload_n (pc' := 1451) dL_law_1450 rfl rfl ?_
        refine mr_aload_n (pc' := 1452) dL_law_1451 rfl rfl ?_
        refine mr_iload_n (pc' := 1453) dL_law_1452 rfl rfl ?_
        refine mr_iconst (pc' := 1454) (v := (1 : Int32)) dL_law_1453 rfl (by decide) ?_
        refine mr_iadd (pc' := 1455) dL_law_1454 rfl ?_
        obtain ⟨a809, g810, h811⟩ := Option.bind_eq_some_iff.mp h4
        refine mr_xald (pc' := 1456) hL dL_law_1455 rfl g810 ?_
        obtain ⟨q812, g813, h814⟩ := Option.bind_eq_some_iff.mp h811
        refine mr_cv (pc' := 1459) (a := 0) (d1 := 1) dL_law_1456 rfl rfl rfl rfl rfl rfl (by decide) rfl (by decide) (ok_X10_order hR  g813) ?_
        show mr X _ _ 1459 _ [.int q812] (MM RR S0) _
        refine mr_aload_n (pc' := 1460) dL_law_1459 rfl rfl ?_
        refine mr_aload_n (pc' := 1461) dL_law_1460 rfl rfl ?_
        refine mr_iload_n (pc' := 1462) dL_law_1461 rfl rfl ?_
        refine mr_iconst (pc' := 1463) (v := (1 : Int32)) dL_law_1462 rfl (by decide) ?_
        refine mr_iadd (pc' := 1464) dL_law_1463 rfl ?_
        obtain ⟨a815, g816, h817⟩ := Option.bind_eq_some_iff.mp h814
        refine mr_xald (pc' := 1465) hL dL_law_1464 rfl g816 ?_
        obtain ⟨q818, g819, h820⟩ := Option.bind_eq_some_iff.mp h817
        refine mr_cv (pc' := 1468) (a := 145) (d1 := 2) dL_law_1465 rfl rfl rfl rfl rfl rfl (by decide) rfl (by decide) (ok_X11_order hR  g819) ?_
        show mr X _ _ 1468 _ [.int q818, .int q812] (MM RR S0) _
        by_cases c821 : q812 = q818
        · rw [if_pos c821] at h820
          refine mr_icmp_eq_t (t := 1628) dL_law_1468 (by decide) c821 ?_
          refine mr_iinc (pc' := 1631) (x' := (p3 + (6 : Int32))) (lv' := [(3, .int (p3 + (6 : Int32))), (0, .ref mm_ext), (1, .ref 0), (2, .ref 145)]) dL_law_1628 rfl (by decide) rfl rfl rfl ?_
          refine mr_goto (t := 18) dL_law_1631 (by decide) ?_
          exact mr_sub [(0, .ref mm_ext), (1, .ref 0), (2, .ref 145), (3, .int (p3 + (6 : Int32)))] ⟨rfl, rfl, rfl, rfl, trivial⟩ rfl (ih _ _  h820)
        · rw [if_neg c821] at h820
          refine mr_icmp_eq_f (t := 1628) (pc' := 1471) dL_law_1468 (by decide) rfl c821 ?_
          refine mr_iconst (pc' := 1472) (v := (0 : Int32)) dL_law_1471 rfl (by decide) ?_
          obtain rfl := Option.some.inj h820
          exact mr_zreturn dL_law_1472 rfl (by decide)
      rw [if_neg c808] at h4
      by_cases c822 : (a2 &&& (63 : Int32)) = (32 : Int32)
      · rw [if_pos c822] at h4
        refine mr_sw_in (t := 1473) (v := (32 : Int32)) dL_law_33 c822 rfl ?_
        refine mr_aload_n (pc' := 1474) dL_law_1473 rfl rfl ?_
        refine mr_aload_n (pc' := 1475) dL_law_1474 rfl rfl ?_
        refine mr_iload_n (pc' := 1476) dL_law_1475 rfl rfl ?_
        refine mr_iconst (pc' := 1477) (v := (1 : Int32)) dL_law_1476 rfl (by decide) ?_
        refine mr_iadd (pc' := 1478) dL_law_1477 rfl ?_
        obtain ⟨a823, g824, h825⟩ := Option.bind_eq_some_iff.mp h4
        refine mr_xald (pc' := 1479) hL dL_law_1478 rfl g824 ?_
        obtain ⟨q826, g827, h828⟩ := Option.bind_eq_some_iff.mp h825
        refine mr_cv (pc' := 1482) (a := 0) (d1 := 0) dL_law_1479 rfl rfl rfl rfl rfl rfl (by decide) rfl (by decide) (ok_X10_seed hR  g827) ?_
        show mr X _ _ 1482 _ [.int q826.1] (MM RR q826.2) _
        refine mr_aload_n (pc' := 1483) dL_law_1482 rfl rfl ?_
        refine mr_aload_n (pc' := 1484) dL_law_1483 rfl rfl ?_
        refine mr_iload_n (pc' := 1485) dL_law_1484 rfl rfl ?_
        refine mr_iconst (pc' := 1486) (v := (1 : Int32)) dL_law_1485 rfl (by decide) ?_
        refine mr_iadd (pc' := 1487) dL_law_1486 rfl ?_
        obtain ⟨a829, g830, h831⟩ := Option.bind_eq_some_iff.mp h828
        refine mr_xald (pc' := 1488) hL dL_law_1487 rfl g830 ?_
        obtain ⟨q832, g833, h834⟩ := Option.bind_eq_some_iff.mp h831
        refine mr_cv (pc' := 1491) (a := 145) (d1 := 0) dL_law_1488 rfl rfl rfl rfl rfl rfl (by decide) rfl (by decide) (ok_X11_seed hR  g833) ?_
        show mr X _ _ 1491 _ [.int q832.1, .int q826.1] (MM RR q832.2) _
        by_cases c835 : q826.1 = q832.1
        · rw [if_pos c835] at h834
          refine mr_icmp_eq_t (t := 1628) dL_law_1491 (by decide) c835 ?_
          refine mr_iinc (pc' := 1631) (x' := (p3 + (6 : Int32))) (lv' := [(3, .int (p3 + (6 : Int32))), (0, .ref mm_ext), (1, .ref 0), (2, .ref 145)]) dL_law_1628 rfl (by decide) rfl rfl rfl ?_
          refine mr_goto (t := 18) dL_law_1631 (by decide) ?_
          exact mr_sub [(0, .ref mm_ext), (1, .ref 0), (2, .ref 145), (3, .int (p3 + (6 : Int32)))] ⟨rfl, rfl, rfl, rfl, trivial⟩ rfl (ih _ _  h834)
        · rw [if_neg c835] at h834
          refine mr_icmp_eq_f (t := 1628) (pc' := 1494) dL_law_1491 (by decide) rfl c835 ?_
          refine mr_iconst (pc' := 1495) (v := (0 : Int32)) dL_law_1494 rfl (by decide) ?_
          obtain rfl := Option.some.inj h834
          exact mr_zreturn dL_law_1495 rfl (by decide)
      rw [if_neg c822] at h4
      by_cases c836 : (a2 &&& (63 : Int32)) = (33 : Int32)
      · rw [if_pos c836] at h4
        refine mr_sw_in (t := 1496) (v := (33 : Int32)) dL_law_33 c836 rfl ?_
        refine mr_aload_n (pc' := 1497) dL_law_1496 rfl rfl ?_
        refine mr_aload_n (pc' := 1498) dL_law_1497 rfl rfl ?_
        refine mr_iload_n (pc' := 1499) dL_law_1498 rfl rfl ?_
        refine mr_iconst (pc' := 1500) (v := (1 : Int32)) dL_law_1499 rfl (by decide) ?_
        refine mr_iadd (pc' := 1501) dL_law_1500 rfl ?_
        obtain ⟨a837, g838, h839⟩ := Option.bind_eq_some_iff.mp h4
        refine mr_xald (pc' := 1502) hL dL_law_1501 rfl g838 ?_
        refine mr_aload_n (pc' := 1503) dL_law_1502 rfl rfl ?_
        refine mr_iload_n (pc' := 1504) dL_law_1503 rfl rfl ?_
        refine mr_iconst (pc' := 1505) (v := (2 : Int32)) dL_law_1504 rfl (by decide) ?_
        refine mr_iadd (pc' := 1506) dL_law_1505 rfl ?_
        obtain ⟨a840, g841, h842⟩ := Option.bind_eq_some_iff.mp h839
        refine mr_xald (pc' := 1507) hL dL_law_1506 rfl g841 ?_
        refine mr_aload_n (pc' := 1508) dL_law_1507 rfl rfl ?_
        refine mr_iload_n (pc' := 1509) dL_law_1508 rfl rfl ?_
        refine mr_iconst (pc' := 1510) (v := (3 : Int32)) dL_law_1509 rfl (by decide) ?_
        refine mr_iadd (pc' := 1511) dL_law_1510 rfl ?_
        obtain ⟨a843, g844, h845⟩ := Option.bind_eq_some_iff.mp h842
        refine mr_xald (pc' := 1512) hL dL_law_1511 rfl g844 ?_
        refine mr_aload_n (pc' := 1513) dL_law_1512 rfl rfl ?_
        refine mr_iload_n (pc' := 1514) dL_law_1513 rfl rfl ?_
        refine mr_iconst (pc' := 1515) (v := (4 : Int32)) dL_law_1514 rfl (by decide) ?_
        refine mr_iadd (pc' := 1516) dL_law_1515 rfl ?_
        obtain ⟨a846, g847, h848⟩ := Option.bind_eq_some_iff.mp h845
        refine mr_xald (pc' := 1517) hL dL_law_1516 rfl g847 ?_
        refine mr_aload_n (pc' := 1518) dL_law_1517 rfl rfl ?_
        refine mr_iload_n (pc' := 1519) dL_law_1518 rfl rfl ?_
        refine mr_iconst (pc' := 1520) (v := (5 : Int32)) dL_law_1519 rfl (by decide) ?_
        refine mr_iadd (pc' := 1521) dL_law_1520 rfl ?_
        obtain ⟨a849, g850, h851⟩ := Option.bind_eq_some_iff.mp h848
        refine mr_xald (pc' := 1522) hL dL_law_1521 rfl g850 ?_
        obtain ⟨q852, g853, h854⟩ := Option.bind_eq_some_iff.mp h851
        refine mr_cv (pc' := 1525) (a := 0) (d1 := 4) dL_law_1522 rfl rfl rfl rfl rfl rfl (by decide) rfl (by decide) (ok_X10_meetings hR  g853) ?_
        show mr X _ _ 1525 _ [.int q852.1] (MM RR q852.2) _
        refine mr_aload_n (pc' := 1526) dL_law_1525 rfl rfl ?_
        refine mr_aload_n (pc' := 1527) dL_law_1526 rfl rfl ?_
        refine mr_iload_n (pc' := 1528) dL_law_1527 rfl rfl ?_
        refine mr_iconst (pc' := 1529) (v := (1 : Int32)) dL_law_1528 rfl (by decide) ?_
        refine mr_iadd (pc' := 1530) dL_law_1529 rfl ?_
        obtain ⟨a855, g856, h857⟩ := Option.bind_eq_some_iff.mp h854
        refine mr_xald (pc' := 1531) hL dL_law_1530 rfl g856 ?_
        refine mr_aload_n (pc' := 1532) dL_law_1531 rfl rfl ?_
        refine mr_iload_n (pc' := 1533) dL_law_1532 rfl rfl ?_
        refine mr_iconst (pc' := 1534) (v := (2 : Int32)) dL_law_1533 rfl (by decide) ?_
        refine mr_iadd (pc' := 1535) dL_law_1534 rfl ?_
        obtain ⟨a858, g859, h860⟩ := Option.bind_eq_some_iff.mp h857
        refine mr_xald (pc' := 1536) hL dL_law_1535 rfl g859 ?_
        refine mr_aload_n (pc' := 1537) dL_law_1536 rfl rfl ?_
        refine mr_iload_n (pc' := 1538) dL_law_1537 rfl rfl ?_
        refine mr_iconst (pc' := 1539) (v := (3 : Int32)) dL_law_1538 rfl (by decide) ?_
        refine mr_iadd (pc' := 1540) dL_law_1539 rfl ?_
        obtain ⟨a861, g862, h863⟩ := Option.bind_eq_some_iff.mp h860
        refine mr_xald (pc' := 1541) hL dL_law_1540 rfl g862 ?_
        refine mr_aload_n (pc' := 1542) dL_law_1541 rfl rfl ?_
        refine mr_iload_n (pc' := 1543) dL_law_1542 rfl rfl ?_
        refine mr_iconst (pc' := 1544) (v := (4 : Int32)) dL_law_1543 rfl (by decide) ?_
        refine mr_iadd (pc' := 1545) dL_law_1544 rfl ?_
        obtain ⟨a864, g865, h866⟩ := Option.bind_eq_some_iff.mp h863
        refine mr_xald (pc' := 1546) hL dL_law_1545 rfl g865 ?_
        refine mr_aload_n (pc' := 1547) dL_law_1546 rfl rfl ?_
        refine mr_iload_n (pc' := 1548) dL_law_1547 rfl rfl ?_
        refine mr_iconst (pc' := 1549) (v := (5 : Int32)) dL_law_1548 rfl (by decide) ?_
        refine mr_iadd (pc' := 1550) dL_law_1549 rfl ?_
        obtain ⟨a867, g868, h869⟩ := Option.bind_eq_some_iff.mp h866
        refine mr_xald (pc' := 1551) hL dL_law_1550 rfl g868 ?_
        obtain ⟨q870, g871, h872⟩ := Option.bind_eq_some_iff.mp h869
        refine mr_cv (pc' := 1554) (a := 145) (d1 := 4) dL_law_1551 rfl rfl rfl rfl rfl rfl (by decide) rfl (by decide) (ok_X11_meetings hR  g871) ?_
        show mr X _ _ 1554 _ [.int q870.1, .int q852.1] (MM RR q870.2) _
        by_cases c873 : q852.1 = q870.1
        · rw [if_pos c873] at h872
          refine mr_icmp_eq_t (t := 1628) dL_law_1554 (by decide) c873 ?_
          refine mr_iinc (pc' := 1631) (x' := (p3 + (6 : Int32))) (lv' := [(3, .int (p3 + (6 : Int32))), (0, .ref mm_ext), (1, .ref 0), (2, .ref 145)]) dL_law_1628 rfl (by decide) rfl rfl rfl ?_
          refine mr_goto (t := 18) dL_law_1631 (by decide) ?_
          exact mr_sub [(0, .ref mm_ext), (1, .ref 0), (2, .ref 145), (3, .int (p3 + (6 : Int32)))] ⟨rfl, rfl, rfl, rfl, trivial⟩ rfl (ih _ _  h872)
        · rw [if_neg c873] at h872
          refine mr_icmp_eq_f (t := 1628) (pc' := 1557) dL_law_1554 (by decide) rfl c873 ?_
          refine mr_iconst (pc' := 1558) (v := (0 : Int32)) dL_law_1557 rfl (by decide) ?_
          obtain rfl := Option.some.inj h872
          exact mr_zreturn dL_law_1558 rfl (by decide)
      rw [if_neg c836] at h4
      by_cases c874 : (a2 &&& (63 : Int32)) = (34 : Int32)
      · rw [if_pos c874] at h4
        refine mr_sw_in (t := 1559) (v := (34 : Int32)) dL_law_33 c874 rfl ?_
        refine mr_aload_n (pc' := 1560) dL_law_1559 rfl rfl ?_
        refine mr_aload_n (pc' := 1561) dL_law_1560 rfl rfl ?_
        refine mr_iload_n (pc' := 1562) dL_law_1561 rfl rfl ?_
        refine mr_iconst (pc' := 1563) (v := (1 : Int32)) dL_law_1562 rfl (by decide) ?_
        refine mr_iadd (pc' := 1564) dL_law_1563 rfl ?_
        obtain ⟨a875, g876, h877⟩ := Option.bind_eq_some_iff.mp h4
        refine mr_xald (pc' := 1565) hL dL_law_1564 rfl g876 ?_
        obtain ⟨q878, g879, h880⟩ := Option.bind_eq_some_iff.mp h877
        refine mr_cv (pc' := 1568) (a := 0) (d1 := 4) dL_law_1565 rfl rfl rfl rfl rfl rfl (by decide) rfl (by decide) (ok_X10_count hR  g879) ?_
        show mr X _ _ 1568 _ [.int q878] (MM RR S0) _
        refine mr_aload_n (pc' := 1569) dL_law_1568 rfl rfl ?_
        refine mr_aload_n (pc' := 1570) dL_law_1569 rfl rfl ?_
        refine mr_iload_n (pc' := 1571) dL_law_1570 rfl rfl ?_
        refine mr_iconst (pc' := 1572) (v := (1 : Int32)) dL_law_1571 rfl (by decide) ?_
        refine mr_iadd (pc' := 1573) dL_law_1572 rfl ?_
        obtain ⟨a881, g882, h883⟩ := Option.bind_eq_some_iff.mp h880
        refine mr_xald (pc' := 1574) hL dL_law_1573 rfl g882 ?_
        obtain ⟨q884, g885, h886⟩ := Option.bind_eq_some_iff.mp h883
        refine mr_cv (pc' := 1577) (a := 145) (d1 := 3) dL_law_1574 rfl rfl rfl rfl rfl rfl (by decide) rfl (by decide) (ok_X11_count hR  g885) ?_
        show mr X _ _ 1577 _ [.int q884, .int q878] (MM RR S0) _
        by_cases c887 : q878 = q884
        · rw [if_pos c887] at h886
          refine mr_icmp_eq_t (t := 1628) dL_law_1577 (by decide) c887 ?_
          refine mr_iinc (pc' := 1631) (x' := (p3 + (6 : Int32))) (lv' := [(3, .int (p3 + (6 : Int32))), (0, .ref mm_ext), (1, .ref 0), (2, .ref 145)]) dL_law_1628 rfl (by decide) rfl rfl rfl ?_
          refine mr_goto (t := 18) dL_law_1631 (by decide) ?_
          exact mr_sub [(0, .ref mm_ext), (1, .ref 0), (2, .ref 145), (3, .int (p3 + (6 : Int32)))] ⟨rfl, rfl, rfl, rfl, trivial⟩ rfl (ih _ _  h886)
        · rw [if_neg c887] at h886
          refine mr_icmp_eq_f (t := 1628) (pc' := 1580) dL_law_1577 (by decide) rfl c887 ?_
          refine mr_iconst (pc' := 1581) (v := (0 : Int32)) dL_law_1580 rfl (by decide) ?_
          obtain rfl := Option.some.inj h886
          exact mr_zreturn dL_law_1581 rfl (by decide)
      rw [if_neg c874] at h4
      by_cases c888 : (a2 &&& (63 : Int32)) = (35 : Int32)
      · rw [if_pos c888] at h4
        refine mr_sw_in (t := 1582) (v := (35 : Int32)) dL_law_33 c888 rfl ?_
        refine mr_aload_n (pc' := 1583) dL_law_1582 rfl rfl ?_
        refine mr_aload_n (pc' := 1584) dL_law_1583 rfl rfl ?_
        refine mr_iload_n (pc' := 1585) dL_law_1584 rfl rfl ?_
        refine mr_iconst (pc' := 1586) (v := (1 : Int32)) dL_law_1585 rfl (by decide) ?_
        refine mr_iadd (pc' := 1587) dL_law_1586 rfl ?_
        obtain ⟨a889, g890, h891⟩ := Option.bind_eq_some_iff.mp h4
        refine mr_xald (pc' := 1588) hL dL_law_1587 rfl g890 ?_
        obtain ⟨q892, g893, h894⟩ := Option.bind_eq_some_iff.mp h891
        refine mr_cv (pc' := 1591) (a := 0) (d1 := 2) dL_law_1588 rfl rfl rfl rfl rfl rfl (by decide) rfl (by decide) (ok_X10_image hR  g893) ?_
        show mr X _ _ 1591 _ [.int q892.1] (MM RR q892.2) _
        refine mr_aload_n (pc' := 1592) dL_law_1591 rfl rfl ?_
        refine mr_aload_n (pc' := 1593) dL_law_1592 rfl rfl ?_
        refine mr_iload_n (pc' := 1594) dL_law_1593 rfl rfl ?_
        refine mr_iconst (pc' := 1595) (v := (1 : Int32)) dL_law_1594 rfl (by decide) ?_
        refine mr_iadd (pc' := 1596) dL_law_1595 rfl ?_
        obtain ⟨a895, g896, h897⟩ := Option.bind_eq_some_iff.mp h894
        refine mr_xald (pc' := 1597) hL dL_law_1596 rfl g896 ?_
        obtain ⟨q898, g899, h900⟩ := Option.bind_eq_some_iff.mp h897
        refine mr_cv (pc' := 1600) (a := 145) (d1 := 1) dL_law_1597 rfl rfl rfl rfl rfl rfl (by decide) rfl (by decide) (ok_X11_image hR  g899) ?_
        show mr X _ _ 1600 _ [.int q898.1, .int q892.1] (MM RR q898.2) _
        by_cases c901 : q892.1 = q898.1
        · rw [if_pos c901] at h900
          refine mr_icmp_eq_t (t := 1628) dL_law_1600 (by decide) c901 ?_
          refine mr_iinc (pc' := 1631) (x' := (p3 + (6 : Int32))) (lv' := [(3, .int (p3 + (6 : Int32))), (0, .ref mm_ext), (1, .ref 0), (2, .ref 145)]) dL_law_1628 rfl (by decide) rfl rfl rfl ?_
          refine mr_goto (t := 18) dL_law_1631 (by decide) ?_
          exact mr_sub [(0, .ref mm_ext), (1, .ref 0), (2, .ref 145), (3, .int (p3 + (6 : Int32)))] ⟨rfl, rfl, rfl, rfl, trivial⟩ rfl (ih _ _  h900)
        · rw [if_neg c901] at h900
          refine mr_icmp_eq_f (t := 1628) (pc' := 1603) dL_law_1600 (by decide) rfl c901 ?_
          refine mr_iconst (pc' := 1604) (v := (0 : Int32)) dL_law_1603 rfl (by decide) ?_
          obtain rfl := Option.some.inj h900
          exact mr_zreturn dL_law_1604 rfl (by decide)
      rw [if_neg c888] at h4
      by_cases c902 : (a2 &&& (63 : Int32)) = (36 : Int32)
      · rw [if_pos c902] at h4
        refine mr_sw_in (t := 1605) (v := (36 : Int32)) dL_law_33 c902 rfl ?_
        refine mr_aload_n (pc' := 1606) dL_law_1605 rfl rfl ?_
        refine mr_aload_n (pc' := 1607) dL_law_1606 rfl rfl ?_
        refine mr_iload_n (pc' := 1608) dL_law_1607 rfl rfl ?_
        refine mr_iconst (pc' := 1609) (v := (1 : Int32)) dL_law_1608 rfl (by decide) ?_
        refine mr_iadd (pc' := 1610) dL_law_1609 rfl ?_
        obtain ⟨a903, g904, h905⟩ := Option.bind_eq_some_iff.mp h4
        refine mr_xald (pc' := 1611) hL dL_law_1610 rfl g904 ?_
        obtain ⟨q906, g907, h908⟩ := Option.bind_eq_some_iff.mp h905
        refine mr_cv (pc' := 1614) (a := 0) (d1 := 2) dL_law_1611 rfl rfl rfl rfl rfl rfl (by decide) rfl (by decide) (ok_X10_back hR  g907) ?_
        show mr X _ _ 1614 _ [.int q906.1] (MM RR q906.2) _
        refine mr_aload_n (pc' := 1615) dL_law_1614 rfl rfl ?_
        refine mr_aload_n (pc' := 1616) dL_law_1615 rfl rfl ?_
        refine mr_iload_n (pc' := 1617) dL_law_1616 rfl rfl ?_
        refine mr_iconst (pc' := 1618) (v := (1 : Int32)) dL_law_1617 rfl (by decide) ?_
        refine mr_iadd (pc' := 1619) dL_law_1618 rfl ?_
        obtain ⟨a909, g910, h911⟩ := Option.bind_eq_some_iff.mp h908
        refine mr_xald (pc' := 1620) hL dL_law_1619 rfl g910 ?_
        obtain ⟨q912, g913, h914⟩ := Option.bind_eq_some_iff.mp h911
        refine mr_cv (pc' := 1623) (a := 145) (d1 := 2) dL_law_1620 rfl rfl rfl rfl rfl rfl (by decide) rfl (by decide) (ok_X11_back hR  g913) ?_
        show mr X _ _ 1623 _ [.int q912.1, .int q906.1] (MM RR q912.2) _
        by_cases c915 : q906.1 = q912.1
        · rw [if_pos c915] at h914
          refine mr_icmp_eq_t (t := 1628) dL_law_1623 (by decide) c915 ?_
          refine mr_iinc (pc' := 1631) (x' := (p3 + (6 : Int32))) (lv' := [(3, .int (p3 + (6 : Int32))), (0, .ref mm_ext), (1, .ref 0), (2, .ref 145)]) dL_law_1628 rfl (by decide) rfl rfl rfl ?_
          refine mr_goto (t := 18) dL_law_1631 (by decide) ?_
          exact mr_sub [(0, .ref mm_ext), (1, .ref 0), (2, .ref 145), (3, .int (p3 + (6 : Int32)))] ⟨rfl, rfl, rfl, rfl, trivial⟩ rfl (ih _ _  h914)
        · rw [if_neg c915] at h914
          refine mr_icmp_eq_f (t := 1628) (pc' := 1626) dL_law_1623 (by decide) rfl c915 ?_
          refine mr_iconst (pc' := 1627) (v := (0 : Int32)) dL_law_1626 rfl (by decide) ?_
          obtain rfl := Option.some.inj h914
          exact mr_zreturn dL_law_1627 rfl (by decide)
      rw [if_neg c902] at h4
      refine mr_sw_out (t := 1628) dL_law_33 (by have := i32ne c5 (k := 0) (by decide); have := i32ne c43 (k := 1) (by decide); have := i32ne c57 (k := 2) (by decide); have := i32ne c65 (k := 3) (by decide); have := i32ne c73 (k := 4) (by decide); have := i32ne c93 (k := 5) (by decide); have := i32ne c113 (k := 6) (by decide); have := i32ne c133 (k := 7) (by decide); have := i32ne c153 (k := 8) (by decide); have := i32ne c173 (k := 9) (by decide); have := i32ne c193 (k := 10) (by decide); have := i32ne c213 (k := 11) (by decide); have := i32ne c245 (k := 12) (by decide); have := i32ne c265 (k := 13) (by decide); have := i32ne c285 (k := 14) (by decide); have := i32ne c311 (k := 15) (by decide); have := i32ne c337 (k := 16) (by decide); have := i32ne c417 (k := 17) (by decide); have := i32ne c455 (k := 18) (by decide); have := i32ne c493 (k := 19) (by decide); have := i32ne c531 (k := 20) (by decide); have := i32ne c563 (k := 21) (by decide); have := i32ne c616 (k := 22) (by decide); have := i32ne c648 (k := 23) (by decide); have := i32ne c674 (k := 24) (by decide); have := i32ne c700 (k := 25) (by decide); have := i32ne c720 (k := 26) (by decide); have := i32ne c728 (k := 27) (by decide); have := i32ne c754 (k := 28) (by decide); have := i32ne c780 (k := 29) (by decide); have := i32ne c800 (k := 30) (by decide); have := i32ne c808 (k := 31) (by decide); have := i32ne c822 (k := 32) (by decide); have := i32ne c836 (k := 33) (by decide); have := i32ne c874 (k := 34) (by decide); have := i32ne c888 (k := 35) (by decide); have := i32ne c902 (k := 36) (by decide); omega) (by decide) ?_
      refine mr_iinc (pc' := 1631) (x' := (p3 + (6 : Int32))) (lv' := [(3, .int (p3 + (6 : Int32))), (0, .ref mm_ext), (1, .ref 0), (2, .ref 145)]) dL_law_1628 rfl (by decide) rfl rfl rfl ?_
      refine mr_goto (t := 18) dL_law_1631 (by decide) ?_
      exact mr_sub [(0, .ref mm_ext), (1, .ref 0), (2, .ref 145), (3, .int (p3 + (6 : Int32)))] ⟨rfl, rfl, rfl, rfl, trivial⟩ rfl (ih _ _  h4)
