def lp_L_law_18 (X : mm_C)  (K : fS → Option (Int32 × fS)) : Nat → Int32 → fS → Option (Int32 × fS)
  | 0, _, _ => none
  | n + 1, p3, S0 =>
    if ((Int32.ofNat X.1) - (6 : Int32)) < p3 then (K S0) else
    ((gX X p3).bind fun a2 =>
    if (a2 &&& (63 : Int32)) = (0 : Int32) then ((gX X (p3 + (1 : Int32))).bind fun a6 =>
    (gX X (p3 + (2 : Int32))).bind fun a9 =>
    (gX X (p3 + (3 : Int32))).bind fun a12 =>
    (gX X (p3 + (4 : Int32))).bind fun a15 =>
    (gX X (p3 + (5 : Int32))).bind fun a18 =>
    (f_X10_feed a6 a9 a12 a15 a18 S0).bind fun q21 =>
    (gX X (p3 + (1 : Int32))).bind fun a24 =>
    (gX X (p3 + (2 : Int32))).bind fun a27 =>
    (gX X (p3 + (3 : Int32))).bind fun a30 =>
    (gX X (p3 + (4 : Int32))).bind fun a33 =>
    (gX X (p3 + (5 : Int32))).bind fun a36 =>
    (f_X11_feed a24 a27 a30 a33 a36 q21.2).bind fun q39 =>
    lp_L_law_18 X  K n (p3 + (6 : Int32)) q39.2) else
    if (a2 &&& (63 : Int32)) = (1 : Int32) then ((gX X (p3 + (1 : Int32))).bind fun a43 =>
    (f_X10_end a43 S0).bind fun q46 =>
    (gX X (p3 + (1 : Int32))).bind fun a49 =>
    (f_X11_end a49 q46.2).bind fun q52 =>
    lp_L_law_18 X  K n (p3 + (6 : Int32)) q52.2) else
    if (a2 &&& (63 : Int32)) = (2 : Int32) then ((f_X10_tower  S0).bind fun q56 =>
    (f_X11_tower  q56.2).bind fun q59 =>
    lp_L_law_18 X  K n (p3 + (6 : Int32)) q59.2) else
    if (a2 &&& (63 : Int32)) = (3 : Int32) then ((f_X10_rule  S0).bind fun q63 =>
    (f_X11_rule  q63.2).bind fun q66 =>
    lp_L_law_18 X  K n (p3 + (6 : Int32)) q66.2) else
    if (a2 &&& (63 : Int32)) = (4 : Int32) then ((gX X (p3 + (1 : Int32))).bind fun a70 =>
    (gX X (p3 + (2 : Int32))).bind fun a73 =>
    (f_X10_floor a70 a73 S0).bind fun q76 =>
    (gX X (p3 + (1 : Int32))).bind fun a79 =>
    (gX X (p3 + (2 : Int32))).bind fun a82 =>
    (f_X11_floor a79 a82 S0).bind fun q85 =>
    lp_L_law_18 X  K n (p3 + (6 : Int32)) S0) else
    if (a2 &&& (63 : Int32)) = (5 : Int32) then ((gX X (p3 + (1 : Int32))).bind fun a89 =>
    (gX X (p3 + (2 : Int32))).bind fun a92 =>
    (f_X10_stair a89 a92 S0).bind fun q95 =>
    (gX X (p3 + (1 : Int32))).bind fun a98 =>
    (gX X (p3 + (2 : Int32))).bind fun a101 =>
    (f_X11_stair a98 a101 S0).bind fun q104 =>
    lp_L_law_18 X  K n (p3 + (6 : Int32)) S0) else
    if (a2 &&& (63 : Int32)) = (6 : Int32) then ((gX X (p3 + (1 : Int32))).bind fun a108 =>
    (gX X (p3 + (2 : Int32))).bind fun a111 =>
    (f_X10_thing a108 a111 S0).bind fun q114 =>
    (gX X (p3 + (1 : Int32))).bind fun a117 =>
    (gX X (p3 + (2 : Int32))).bind fun a120 =>
    (f_X11_thing a117 a120 S0).bind fun q123 =>
    lp_L_law_18 X  K n (p3 + (6 : Int32)) S0) else
    if (a2 &&& (63 : Int32)) = (7 : Int32) then ((gX X (p3 + (1 : Int32))).bind fun a127 =>
    (gX X (p3 + (2 : Int32))).bind fun a130 =>
    (f_X10_age a127 a130 S0).bind fun q133 =>
    (gX X (p3 + (1 : Int32))).bind fun a136 =>
    (gX X (p3 + (2 : Int32))).bind fun a139 =>
    (f_X11_age a136 a139 S0).bind fun q142 =>
    lp_L_law_18 X  K n (p3 + (6 : Int32)) S0) else
    if (a2 &&& (63 : Int32)) = (8 : Int32) then ((gX X (p3 + (1 : Int32))).bind fun a146 =>
    (gX X (p3 + (2 : Int32))).bind fun a149 =>
    (f_X10_older a146 a149 S0).bind fun q152 =>
    (gX X (p3 + (1 : Int32))).bind fun a155 =>
    (gX X (p3 + (2 : Int32))).bind fun a158 =>
    (f_X11_older a155 a158 S0).bind fun q161 =>
    lp_L_law_18 X  K n (p3 + (6 : Int32)) S0) else
    if (a2 &&& (63 : Int32)) = (9 : Int32) then ((gX X (p3 + (1 : Int32))).bind fun a165 =>
    (gX X (p3 + (2 : Int32))).bind fun a168 =>
    (f_X10_go a165 a168 S0).bind fun q171 =>
    (gX X (p3 + (1 : Int32))).bind fun a174 =>
    (gX X (p3 + (2 : Int32))).bind fun a177 =>
    (f_X11_go a174 a177 q171.2).bind fun q180 =>
    lp_L_law_18 X  K n (p3 + (6 : Int32)) q180.2) else
    if (a2 &&& (63 : Int32)) = (10 : Int32) then ((gX X (p3 + (1 : Int32))).bind fun a184 =>
    (gX X (p3 + (2 : Int32))).bind fun a187 =>
    (f_X10_tick a184 a187 S0).bind fun q190 =>
    (gX X (p3 + (1 : Int32))).bind fun a193 =>
    (gX X (p3 + (2 : Int32))).bind fun a196 =>
    (f_X11_tick a193 a196 q190.2).bind fun q199 =>
    lp_L_law_18 X  K n (p3 + (6 : Int32)) q199.2) else
    if (a2 &&& (63 : Int32)) = (11 : Int32) then ((gX X (p3 + (1 : Int32))).bind fun a203 =>
    (gX X (p3 + (2 : Int32))).bind fun a206 =>
    (gX X (p3 + (3 : Int32))).bind fun a209 =>
    (gX X (p3 + (4 : Int32))).bind fun a212 =>
    (f_X10_ahead a203 a206 a209 a212 S0).bind fun q215 =>
    (gX X (p3 + (1 : Int32))).bind fun a218 =>
    (gX X (p3 + (2 : Int32))).bind fun a221 =>
    (gX X (p3 + (3 : Int32))).bind fun a224 =>
    (gX X (p3 + (4 : Int32))).bind fun a227 =>
    (f_X11_ahead a218 a221 a224 a227 q215.2).bind fun q230 =>
    lp_L_law_18 X  K n (p3 + (6 : Int32)) q230.2) else
    if (a2 &&& (63 : Int32)) = (12 : Int32) then ((gX X (p3 + (1 : Int32))).bind fun a234 =>
    (gX X (p3 + (2 : Int32))).bind fun a237 =>
    (f_X10_far a234 a237 S0).bind fun q240 =>
    (gX X (p3 + (1 : Int32))).bind fun a243 =>
    (gX X (p3 + (2 : Int32))).bind fun a246 =>
    (f_X11_far a243 a246 S0).bind fun q249 =>
    lp_L_law_18 X  K n (p3 + (6 : Int32)) S0) else
    if (a2 &&& (63 : Int32)) = (13 : Int32) then ((gX X (p3 + (1 : Int32))).bind fun a253 =>
    (gX X (p3 + (2 : Int32))).bind fun a256 =>
    (f_X10_next a253 a256 S0).bind fun q259 =>
    (gX X (p3 + (1 : Int32))).bind fun a262 =>
    (gX X (p3 + (2 : Int32))).bind fun a265 =>
    (f_X11_next a262 a265 S0).bind fun q268 =>
    lp_L_law_18 X  K n (p3 + (6 : Int32)) S0) else
    if (a2 &&& (63 : Int32)) = (14 : Int32) then ((gX X (p3 + (1 : Int32))).bind fun a272 =>
    (gX X (p3 + (2 : Int32))).bind fun a275 =>
    (gX X (p3 + (3 : Int32))).bind fun a278 =>
    (f_X10_clock a272 a275 a278 S0).bind fun q281 =>
    (gX X (p3 + (1 : Int32))).bind fun a284 =>
    (gX X (p3 + (2 : Int32))).bind fun a287 =>
    (gX X (p3 + (3 : Int32))).bind fun a290 =>
    (f_X11_clock a284 a287 a290 S0).bind fun q293 =>
    lp_L_law_18 X  K n (p3 + (6 : Int32)) S0) else
    if (a2 &&& (63 : Int32)) = (15 : Int32) then ((gX X (p3 + (1 : Int32))).bind fun a297 =>
    (gX X (p3 + (2 : Int32))).bind fun a300 =>
    (gX X (p3 + (3 : Int32))).bind fun a303 =>
    (f_X10_noons a297 a300 a303 S0).bind fun q306 =>
    (gX X (p3 + (1 : Int32))).bind fun a309 =>
    (gX X (p3 + (2 : Int32))).bind fun a312 =>
    (gX X (p3 + (3 : Int32))).bind fun a315 =>
    (f_X11_noons a309 a312 a315 S0).bind fun q318 =>
    lp_L_law_18 X  K n (p3 + (6 : Int32)) S0) else
    if (a2 &&& (63 : Int32)) = (16 : Int32) then ((gX X (p3 + (1 : Int32))).bind fun a322 =>
    (gX X (p3 + (2 : Int32))).bind fun a325 =>
    (gX X (p3 + (3 : Int32))).bind fun a328 =>
    (gX X (p3 + (4 : Int32))).bind fun a331 =>
    if a331 = (0 : Int32) then ((gX X (p3 + (5 : Int32))).bind fun a335 =>
    (f_X10_plan a322 a325 a328 (0 : Int32) a335 S0).bind fun q338 =>
    (gX X (p3 + (1 : Int32))).bind fun a341 =>
    (gX X (p3 + (2 : Int32))).bind fun a344 =>
    (gX X (p3 + (3 : Int32))).bind fun a347 =>
    (gX X (p3 + (4 : Int32))).bind fun a350 =>
    if a350 = (0 : Int32) then ((gX X (p3 + (5 : Int32))).bind fun a354 =>
    (f_X11_plan a341 a344 a347 (0 : Int32) a354 q338.2).bind fun q357 =>
    lp_L_law_18 X  K n (p3 + (6 : Int32)) q357.2) else
    ((gX X (p3 + (5 : Int32))).bind fun a360 =>
    (f_X11_plan a341 a344 a347 (1 : Int32) a360 q338.2).bind fun q363 =>
    lp_L_law_18 X  K n (p3 + (6 : Int32)) q363.2)) else
    ((gX X (p3 + (5 : Int32))).bind fun a366 =>
    (f_X10_plan a322 a325 a328 (1 : Int32) a366 S0).bind fun q369 =>
    (gX X (p3 + (1 : Int32))).bind fun a372 =>
    (gX X (p3 + (2 : Int32))).bind fun a375 =>
    (gX X (p3 + (3 : Int32))).bind fun a378 =>
    (gX X (p3 + (4 : Int32))).bind fun a381 =>
    if a381 = (0 : Int32) then ((gX X (p3 + (5 : Int32))).bind fun a385 =>
    (f_X11_plan a372 a375 a378 (0 : Int32) a385 q369.2).bind fun q388 =>
    lp_L_law_18 X  K n (p3 + (6 : Int32)) q388.2) else
    ((gX X (p3 + (5 : Int32))).bind fun a391 =>
    (f_X11_plan a372 a375 a378 (1 : Int32) a391 q369.2).bind fun q394 =>
    lp_L_law_18 X  K n (p3 + (6 : Int32)) q394.2))) else
    if (a2 &&& (63 : Int32)) = (17 : Int32) then ((gX X (p3 + (1 : Int32))).bind fun a398 =>
    (gX X (p3 + (2 : Int32))).bind fun a401 =>
    (gX X (p3 + (3 : Int32))).bind fun a404 =>
    (gX X (p3 + (4 : Int32))).bind fun a407 =>
    (gX X (p3 + (5 : Int32))).bind fun a410 =>
    (f_X10_even a398 a401 a404 a407 a410 S0).bind fun q413 =>
    (gX X (p3 + (1 : Int32))).bind fun a416 =>
    (gX X (p3 + (2 : Int32))).bind fun a419 =>
    (gX X (p3 + (3 : Int32))).bind fun a422 =>
    (gX X (p3 + (4 : Int32))).bind fun a425 =>
    (gX X (p3 + (5 : Int32))).bind fun a428 =>
    (f_X11_even a416 a419 a422 a425 a428 S0).bind fun q431 =>
    lp_L_law_18 X  K n (p3 + (6 : Int32)) S0) else
    if (a2 &&& (63 : Int32)) = (18 : Int32) then ((gX X (p3 + (1 : Int32))).bind fun a435 =>
    (gX X (p3 + (2 : Int32))).bind fun a438 =>
    (gX X (p3 + (3 : Int32))).bind fun a441 =>
    (gX X (p3 + (4 : Int32))).bind fun a444 =>
    (gX X (p3 + (5 : Int32))).bind fun a447 =>
    (f_X10_ripe a435 a438 a441 a444 a447 S0).bind fun q450 =>
    (gX X (p3 + (1 : Int32))).bind fun a453 =>
    (gX X (p3 + (2 : Int32))).bind fun a456 =>
    (gX X (p3 + (3 : Int32))).bind fun a459 =>
    (gX X (p3 + (4 : Int32))).bind fun a462 =>
    (gX X (p3 + (5 : Int32))).bind fun a465 =>
    (f_X11_ripe a453 a456 a459 a462 a465 q450.2).bind fun q468 =>
    lp_L_law_18 X  K n (p3 + (6 : Int32)) q468.2) else
    if (a2 &&& (63 : Int32)) = (19 : Int32) then ((gX X (p3 + (1 : Int32))).bind fun a472 =>
    (gX X (p3 + (2 : Int32))).bind fun a475 =>
    (gX X (p3 + (3 : Int32))).bind fun a478 =>
    (gX X (p3 + (4 : Int32))).bind fun a481 =>
    (gX X (p3 + (5 : Int32))).bind fun a484 =>
    (f_X10_owed a472 a475 a478 a481 a484 S0).bind fun q487 =>
    (gX X (p3 + (1 : Int32))).bind fun a490 =>
    (gX X (p3 + (2 : Int32))).bind fun a493 =>
    (gX X (p3 + (3 : Int32))).bind fun a496 =>
    (gX X (p3 + (4 : Int32))).bind fun a499 =>
    (gX X (p3 + (5 : Int32))).bind fun a502 =>
    (f_X11_owed a490 a493 a496 a499 a502 S0).bind fun q505 =>
    lp_L_law_18 X  K n (p3 + (6 : Int32)) S0) else
    if (a2 &&& (63 : Int32)) = (20 : Int32) then ((gX X (p3 + (1 : Int32))).bind fun a509 =>
    (gX X (p3 + (2 : Int32))).bind fun a512 =>
    (gX X (p3 + (3 : Int32))).bind fun a515 =>
    (gX X (p3 + (4 : Int32))).bind fun a518 =>
    (f_X10_hands a509 a512 a515 a518 S0).bind fun q521 =>
    (gX X (p3 + (1 : Int32))).bind fun a524 =>
    (gX X (p3 + (2 : Int32))).bind fun a527 =>
    (gX X (p3 + (3 : Int32))).bind fun a530 =>
    (gX X (p3 + (4 : Int32))).bind fun a533 =>
    (f_X11_hands a524 a527 a530 a533 S0).bind fun q536 =>
    lp_L_law_18 X  K n (p3 + (6 : Int32)) S0) else
    if (a2 &&& (63 : Int32)) = (21 : Int32) then ((gX X (p3 + (1 : Int32))).bind fun a540 =>
    (gX X (p3 + (2 : Int32))).bind fun a543 =>
    (gX X (p3 + (3 : Int32))).bind fun a546 =>
    if a546 = (0 : Int32) then ((f_X10_waiting a540 a543 (0 : Int32) S0).bind fun q550 =>
    (gX X (p3 + (1 : Int32))).bind fun a553 =>
    (gX X (p3 + (2 : Int32))).bind fun a556 =>
    (gX X (p3 + (3 : Int32))).bind fun a559 =>
    if a559 = (0 : Int32) then ((f_X11_waiting a553 a556 (0 : Int32) q550.2).bind fun q563 =>
    lp_L_law_18 X  K n (p3 + (6 : Int32)) q563.2) else
    ((f_X11_waiting a553 a556 (1 : Int32) q550.2).bind fun q566 =>
    lp_L_law_18 X  K n (p3 + (6 : Int32)) q566.2)) else
    ((f_X10_waiting a540 a543 (1 : Int32) S0).bind fun q569 =>
    (gX X (p3 + (1 : Int32))).bind fun a572 =>
    (gX X (p3 + (2 : Int32))).bind fun a575 =>
    (gX X (p3 + (3 : Int32))).bind fun a578 =>
    if a578 = (0 : Int32) then ((f_X11_waiting a572 a575 (0 : Int32) q569.2).bind fun q582 =>
    lp_L_law_18 X  K n (p3 + (6 : Int32)) q582.2) else
    ((f_X11_waiting a572 a575 (1 : Int32) q569.2).bind fun q585 =>
    lp_L_law_18 X  K n (p3 + (6 : Int32)) q585.2))) else
    if (a2 &&& (63 : Int32)) = (22 : Int32) then ((gX X (p3 + (1 : Int32))).bind fun a589 =>
    (gX X (p3 + (2 : Int32))).bind fun a592 =>
    (gX X (p3 + (3 : Int32))).bind fun a595 =>
    (gX X (p3 + (4 : Int32))).bind fun a598 =>
    (f_X10_when a589 a592 a595 a598 S0).bind fun q601 =>
    (gX X (p3 + (1 : Int32))).bind fun a604 =>
    (gX X (p3 + (2 : Int32))).bind fun a607 =>
    (gX X (p3 + (3 : Int32))).bind fun a610 =>
    (gX X (p3 + (4 : Int32))).bind fun a613 =>
    (f_X11_when a604 a607 a610 a613 S0).bind fun q616 =>
    lp_L_law_18 X  K n (p3 + (6 : Int32)) S0) else
    if (a2 &&& (63 : Int32)) = (23 : Int32) then ((gX X (p3 + (1 : Int32))).bind fun a620 =>
    (gX X (p3 + (2 : Int32))).bind fun a623 =>
    (gX X (p3 + (3 : Int32))).bind fun a626 =>
    (f_X10_shown a620 a623 a626 S0).bind fun q629 =>
    (gX X (p3 + (1 : Int32))).bind fun a632 =>
    (gX X (p3 + (2 : Int32))).bind fun a635 =>
    (gX X (p3 + (3 : Int32))).bind fun a638 =>
    (f_X11_shown a632 a635 a638 S0).bind fun q641 =>
    lp_L_law_18 X  K n (p3 + (6 : Int32)) S0) else
    if (a2 &&& (63 : Int32)) = (24 : Int32) then ((gX X (p3 + (1 : Int32))).bind fun a645 =>
    (gX X (p3 + (2 : Int32))).bind fun a648 =>
    (gX X (p3 + (3 : Int32))).bind fun a651 =>
    (f_X10_noonsIn a645 a648 a651 S0).bind fun q654 =>
    (gX X (p3 + (1 : Int32))).bind fun a657 =>
    (gX X (p3 + (2 : Int32))).bind fun a660 =>
    (gX X (p3 + (3 : Int32))).bind fun a663 =>
    (f_X11_noonsIn a657 a660 a663 S0).bind fun q666 =>
    lp_L_law_18 X  K n (p3 + (6 : Int32)) S0) else
    if (a2 &&& (63 : Int32)) = (25 : Int32) then ((gX X (p3 + (1 : Int32))).bind fun a670 =>
    (gX X (p3 + (2 : Int32))).bind fun a673 =>
    (f_X10_due a670 a673 S0).bind fun q676 =>
    (gX X (p3 + (1 : Int32))).bind fun a679 =>
    (gX X (p3 + (2 : Int32))).bind fun a682 =>
    (f_X11_due a679 a682 S0).bind fun q685 =>
    lp_L_law_18 X  K n (p3 + (6 : Int32)) S0) else
    if (a2 &&& (63 : Int32)) = (26 : Int32) then ((f_X10_needed  S0).bind fun q689 =>
    (f_X11_needed  S0).bind fun q692 =>
    lp_L_law_18 X  K n (p3 + (6 : Int32)) q692.2) else
    if (a2 &&& (63 : Int32)) = (27 : Int32) then ((gX X (p3 + (1 : Int32))).bind fun a696 =>
    (gX X (p3 + (2 : Int32))).bind fun a699 =>
    (gX X (p3 + (3 : Int32))).bind fun a702 =>
    (f_X10_elder a696 a699 a702 S0).bind fun q705 =>
    (gX X (p3 + (1 : Int32))).bind fun a708 =>
    (gX X (p3 + (2 : Int32))).bind fun a711 =>
    (gX X (p3 + (3 : Int32))).bind fun a714 =>
    (f_X11_elder a708 a711 a714 q705.2).bind fun q717 =>
    lp_L_law_18 X  K n (p3 + (6 : Int32)) q717.2) else
    if (a2 &&& (63 : Int32)) = (28 : Int32) then ((gX X (p3 + (1 : Int32))).bind fun a721 =>
    (gX X (p3 + (2 : Int32))).bind fun a724 =>
    (gX X (p3 + (3 : Int32))).bind fun a727 =>
    (f_X10_letter a721 a724 a727 S0).bind fun q730 =>
    (gX X (p3 + (1 : Int32))).bind fun a733 =>
    (gX X (p3 + (2 : Int32))).bind fun a736 =>
    (gX X (p3 + (3 : Int32))).bind fun a739 =>
    (f_X11_letter a733 a736 a739 q730.2).bind fun q742 =>
    lp_L_law_18 X  K n (p3 + (6 : Int32)) q742.2) else
    if (a2 &&& (63 : Int32)) = (29 : Int32) then ((gX X (p3 + (1 : Int32))).bind fun a746 =>
    (gX X (p3 + (2 : Int32))).bind fun a749 =>
    (f_X10_letters a746 a749 S0).bind fun q752 =>
    (gX X (p3 + (1 : Int32))).bind fun a755 =>
    (gX X (p3 + (2 : Int32))).bind fun a758 =>
    (f_X11_letters a755 a758 S0).bind fun q761 =>
    lp_L_law_18 X  K n (p3 + (6 : Int32)) S0) else
    if (a2 &&& (63 : Int32)) = (30 : Int32) then ((f_X10_crossed  S0).bind fun q765 =>
    (f_X11_crossed  S0).bind fun q768 =>
    lp_L_law_18 X  K n (p3 + (6 : Int32)) S0) else
    if (a2 &&& (63 : Int32)) = (31 : Int32) then ((gX X (p3 + (1 : Int32))).bind fun a772 =>
    (f_X10_order a772 S0).bind fun q775 =>
    (gX X (p3 + (1 : Int32))).bind fun a778 =>
    (f_X11_order a778 S0).bind fun q781 =>
    lp_L_law_18 X  K n (p3 + (6 : Int32)) S0) else
    if (a2 &&& (63 : Int32)) = (32 : Int32) then ((gX X (p3 + (1 : Int32))).bind fun a785 =>
    (f_X10_seed a785 S0).bind fun q788 =>
    (gX X (p3 + (1 : Int32))).bind fun a791 =>
    (f_X11_seed a791 q788.2).bind fun q794 =>
    lp_L_law_18 X  K n (p3 + (6 : Int32)) q794.2) else
    if (a2 &&& (63 : Int32)) = (33 : Int32) then ((gX X (p3 + (1 : Int32))).bind fun a798 =>
    (gX X (p3 + (2 : Int32))).bind fun a801 =>
    (gX X (p3 + (3 : Int32))).bind fun a804 =>
    (gX X (p3 + (4 : Int32))).bind fun a807 =>
    (gX X (p3 + (5 : Int32))).bind fun a810 =>
    (f_X10_meetings a798 a801 a804 a807 a810 S0).bind fun q813 =>
    (gX X (p3 + (1 : Int32))).bind fun a816 =>
    (gX X (p3 + (2 : Int32))).bind fun a819 =>
    (gX X (p3 + (3 : Int32))).bind fun a822 =>
    (gX X (p3 + (4 : Int32))).bind fun a825 =>
    (gX X (p3 + (5 : Int32))).bind fun a828 =>
    (f_X11_meetings a816 a819 a822 a825 a828 q813.2).bind fun q831 =>
    lp_L_law_18 X  K n (p3 + (6 : Int32)) q831.2) else
    if (a2 &&& (63 : Int32)) = (34 : Int32) then ((gX X (p3 + (1 : Int32))).bind fun a835 =>
    (f_X10_count a835 S0).bind fun q838 =>
    (gX X (p3 + (1 : Int32))).bind fun a841 =>
    (f_X11_count a841 S0).bind fun q844 =>
    lp_L_law_18 X  K n (p3 + (6 : Int32)) S0) else
    if (a2 &&& (63 : Int32)) = (35 : Int32) then ((gX X (p3 + (1 : Int32))).bind fun a848 =>
    (f_X10_image a848 S0).bind fun q851 =>
    (gX X (p3 + (1 : Int32))).bind fun a854 =>
    (f_X11_image a854 q851.2).bind fun q857 =>
    lp_L_law_18 X  K n (p3 + (6 : Int32)) q857.2) else
    if (a2 &&& (63 : Int32)) = (36 : Int32) then ((gX X (p3 + (1 : Int32))).bind fun a861 =>
    (f_X10_back a861 S0).bind fun q864 =>
    (gX X (p3 + (1 : Int32))).bind fun a867 =>
    (f_X11_back a867 q864.2).bind fun q870 =>
    if q864.1 = q870.1 then (lp_L_law_18 X  K n (p3 + (6 : Int32)) q870.2) else
    (some ((0 : Int32), q870.2))) else
    (lp_L_law_18 X  K n (p3 + (6 : Int32)) S0))
set_option maxHeartbeats 4000000 in
set_option maxRecDepth 100000 in
theorem ok_lp_L_law_18 {X : mm_C} {RR : Nat → Nat → Option Nat} (hR : RRok RR) (hL : X.1 < 100000)   {K : fS → Option (Int32 × fS)} {r : Int32 × fS} (hK : ∀ (Sk : fS), K Sk = some r → mr X 13 mY_L_law 1625 [] [] (MM RR Sk) (some (.int r.1), MM RR r.2)) : ∀ (n : Nat) (p3 : Int32) (S0 : fS), lp_L_law_18 X  K n p3 S0 = some r → mr X 13 mY_L_law 18 [(0, .ref mm_ext), (1, .ref 0), (2, .ref 145), (3, .int p3)] [] (MM RR S0) (some (.int r.1), MM RR r.2) := by
  intro n
  induction n with
  | zero => intro p3 S0 h; exact mm_no h
  | succ n ih =>
    intro p3 S0 h
    unfold lp_L_law_18 at h
    refine mr_iload_n (pc' := 19) dL_law_18 rfl rfl ?_
    refine mr_aload_n (pc' := 20) dL_law_19 rfl rfl ?_
    refine mr_xlen (pc' := 21) hL dL_law_20 rfl ?_
    refine mr_bipush (pc' := 23) (v := (6 : Int32)) dL_law_21 rfl (by decide) ?_
    refine mr_isub (pc' := 24) dL_law_23 rfl ?_
    by_cases c1 : ((Int32.ofNat X.1) - (6 : Int32)) < p3
    · rw [if_pos c1] at h
      refine mr_icmp_gt_t (t := 1625) dL_law_24 (by decide) c1 ?_
      exact mr_sub [] trivial rfl (hK _  h)
    · rw [if_neg c1] at h
      refine mr_icmp_gt_f (t := 1625) (pc' := 27) dL_law_24 (by decide) rfl c1 ?_
      refine mr_aload_n (pc' := 28) dL_law_27 rfl rfl ?_
      refine mr_iload_n (pc' := 29) dL_law_28 rfl rfl ?_
      obtain ⟨a2, g3, h4⟩ := Option.bind_eq_some_iff.mp h
      refine mr_xald (pc' := 30) hL dL_law_29 rfl g3 ?_
      refine mr_bipush (pc' := 32) (v := (63 : Int32)) dL_law_30 rfl (by decide) ?_
      refine mr_iand (pc' := 33) dL_law_32 rfl ?_
      by_cases c5 : (a2 &&& (63 : Int32)) = (0 : Int32)
      · rw [if_pos c5] at h4
        refine mr_sw_in (t := 196) (v := (0 : Int32)) dL_law_33 c5 rfl ?_
        refine mr_aload_n (pc' := 197) dL_law_196 rfl rfl ?_
        refine mr_aload_n (pc' := 198) dL_law_197 rfl rfl ?_
        refine mr_iload_n (pc' := 199) dL_law_198 rfl rfl ?_
        refine mr_iconst (pc' := 200) (v := (1 : Int32)) dL_law_199 rfl (by decide) ?_
        refine mr_iadd (pc' := 201) dL_law_200 rfl ?_
        obtain ⟨a6, g7, h8⟩ := Option.bind_eq_some_iff.mp h4
        refine mr_xald (pc' := 202) hL dL_law_201 rfl g7 ?_
        refine mr_aload_n (pc' := 203) dL_law_202 rfl rfl ?_
        refine mr_iload_n (pc' := 204) dL_law_203 rfl rfl ?_
        refine mr_iconst (pc' := 205) (v := (2 : Int32)) dL_law_204 rfl (by decide) ?_
        refine mr_iadd (pc' := 206) dL_law_205 rfl ?_
        obtain ⟨a9, g10, h11⟩ := Option.bind_eq_some_iff.mp h8
        refine mr_xald (pc' := 207) hL dL_law_206 rfl g10 ?_
        refine mr_aload_n (pc' := 208) dL_law_207 rfl rfl ?_
        refine mr_iload_n (pc' := 209) dL_law_208 rfl rfl ?_
        refine mr_iconst (pc' := 210) (v := (3 : Int32)) dL_law_209 rfl (by decide) ?_
        refine mr_iadd (pc' := 211) dL_law_210 rfl ?_
        obtain ⟨a12, g13, h14⟩ := Option.bind_eq_some_iff.mp h11
        refine mr_xald (pc' := 212) hL dL_law_211 rfl g13 ?_
        refine mr_aload_n (pc' := 213) dL_law_212 rfl rfl ?_
        refine mr_iload_n (pc' := 214) dL_law_213 rfl rfl ?_
        refine mr_iconst (pc' := 215) (v := (4 : Int32)) dL_law_214 rfl (by decide) ?_
        refine mr_iadd (pc' := 216) dL_law_215 rfl ?_
        obtain ⟨a15, g16, h17⟩ := Option.bind_eq_some_iff.mp h14
        refine mr_xald (pc' := 217) hL dL_law_216 rfl g16 ?_
        refine mr_aload_n (pc' := 218) dL_law_217 rfl rfl ?_
        refine mr_iload_n (pc' := 219) dL_law_218 rfl rfl ?_
        refine mr_iconst (pc' := 220) (v := (5 : Int32)) dL_law_219 rfl (by decide) ?_
        refine mr_iadd (pc' := 221) dL_law_220 rfl ?_
        obtain ⟨a18, g19, h20⟩ := Option.bind_eq_some_iff.mp h17
        refine mr_xald (pc' := 222) hL dL_law_221 rfl g19 ?_
        obtain ⟨q21, g22, h23⟩ := Option.bind_eq_some_iff.mp h20
        refine mr_cv (pc' := 225) (a := 0) (d1 := 1) dL_law_222 rfl rfl rfl rfl rfl rfl (by decide) rfl (by decide) (ok_X10_feed hR  g22) ?_
        show mr X _ _ 225 _ [.int q21.1] (MM RR q21.2) _
        refine mr_pop_int (pc' := 226) dL_law_225 rfl ?_
        refine mr_aload_n (pc' := 227) dL_law_226 rfl rfl ?_
        refine mr_aload_n (pc' := 228) dL_law_227 rfl rfl ?_
        refine mr_iload_n (pc' := 229) dL_law_228 rfl rfl ?_
        refine mr_iconst (pc' := 230) (v := (1 : Int32)) dL_law_229 rfl (by decide) ?_
        refine mr_iadd (pc' := 231) dL_law_230 rfl ?_
        obtain ⟨a24, g25, h26⟩ := Option.bind_eq_some_iff.mp h23
        refine mr_xald (pc' := 232) hL dL_law_231 rfl g25 ?_
        refine mr_aload_n (pc' := 233) dL_law_232 rfl rfl ?_
        refine mr_iload_n (pc' := 234) dL_law_233 rfl rfl ?_
        refine mr_iconst (pc' := 235) (v := (2 : Int32)) dL_law_234 rfl (by decide) ?_
        refine mr_iadd (pc' := 236) dL_law_235 rfl ?_
        obtain ⟨a27, g28, h29⟩ := Option.bind_eq_some_iff.mp h26
        refine mr_xald (pc' := 237) hL dL_law_236 rfl g28 ?_
        refine mr_aload_n (pc' := 238) dL_law_237 rfl rfl ?_
        refine mr_iload_n (pc' := 239) dL_law_238 rfl rfl ?_
        refine mr_iconst (pc' := 240) (v := (3 : Int32)) dL_law_239 rfl (by decide) ?_
        refine mr_iadd (pc' := 241) dL_law_240 rfl ?_
        obtain ⟨a30, g31, h32⟩ := Option.bind_eq_some_iff.mp h29
        refine mr_xald (pc' := 242) hL dL_law_241 rfl g31 ?_
        refine mr_aload_n (pc' := 243) dL_law_242 rfl rfl ?_
        refine mr_iload_n (pc' := 244) dL_law_243 rfl rfl ?_
        refine mr_iconst (pc' := 245) (v := (4 : Int32)) dL_law_244 rfl (by decide) ?_
        refine mr_iadd (pc' := 246) dL_law_245 rfl ?_
        obtain ⟨a33, g34, h35⟩ := Option.bind_eq_some_iff.mp h32
        refine mr_xald (pc' := 247) hL dL_law_246 rfl g34 ?_
        refine mr_aload_n (pc' := 248) dL_law_247 rfl rfl ?_
        refine mr_iload_n (pc' := 249) dL_law_248 rfl rfl ?_
        refine mr_iconst (pc' := 250) (v := (5 : Int32)) dL_law_249 rfl (by decide) ?_
        refine mr_iadd (pc' := 251) dL_law_250 rfl ?_
        obtain ⟨a36, g37, h38⟩ := Option.bind_eq_some_iff.mp h35
        refine mr_xald (pc' := 252) hL dL_law_251 rfl g37 ?_
        obtain ⟨q39, g40, h41⟩ := Option.bind_eq_some_iff.mp h38
        refine mr_cv (pc' := 255) (a := 145) (d1 := 1) dL_law_252 rfl rfl rfl rfl rfl rfl (by decide) rfl (by decide) (ok_X11_feed hR  g40) ?_
        show mr X _ _ 255 _ [.int q39.1] (MM RR q39.2) _
        refine mr_pop_int (pc' := 256) dL_law_255 rfl ?_
        refine mr_goto (t := 1619) dL_law_256 (by decide) ?_
        refine mr_iinc (pc' := 1622) (x' := (p3 + (6 : Int32))) (lv' := [(3, .int (p3 + (6 : Int32))), (0, .ref mm_ext), (1, .ref 0), (2, .ref 145)]) dL_law_1619 rfl (by decide) rfl rfl rfl ?_
        refine mr_goto (t := 18) dL_law_1622 (by decide) ?_
        exact mr_sub [(0, .ref mm_ext), (1, .ref 0), (2, .ref 145), (3, .int (p3 + (6 : Int32)))] ⟨rfl, rfl, rfl, rfl, trivial⟩ rfl (ih _ _  h41)
      rw [if_neg c5] at h4
      by_cases c42 : (a2 &&& (63 : Int32)) = (1 : Int32)
      · rw [if_pos c42] at h4
        refine mr_sw_in (t := 259) (v := (1 : Int32)) dL_law_33 c42 rfl ?_
        refine mr_aload_n (pc' := 260) dL_law_259 rfl rfl ?_
        refine mr_aload_n (pc' := 261) dL_law_260 rfl rfl ?_
        refine mr_iload_n (pc' := 262) dL_law_261 rfl rfl ?_
        refine mr_iconst (pc' := 263) (v := (1 : Int32)) dL_law_262 rfl (by decide) ?_
        refine mr_iadd (pc' := 264) dL_law_263 rfl ?_
        obtain ⟨a43, g44, h45⟩ := Option.bind_eq_some_iff.mp h4
        refine mr_xald (pc' := 265) hL dL_law_264 rfl g44 ?_
        obtain ⟨q46, g47, h48⟩ := Option.bind_eq_some_iff.mp h45
        refine mr_cv (pc' := 268) (a := 0) (d1 := 1) dL_law_265 rfl rfl rfl rfl rfl rfl (by decide) rfl (by decide) (ok_X10_end hR  g47) ?_
        show mr X _ _ 268 _ [.int q46.1] (MM RR q46.2) _
        refine mr_pop_int (pc' := 269) dL_law_268 rfl ?_
        refine mr_aload_n (pc' := 270) dL_law_269 rfl rfl ?_
        refine mr_aload_n (pc' := 271) dL_law_270 rfl rfl ?_
        refine mr_iload_n (pc' := 272) dL_law_271 rfl rfl ?_
        refine mr_iconst (pc' := 273) (v := (1 : Int32)) dL_law_272 rfl (by decide) ?_
        refine mr_iadd (pc' := 274) dL_law_273 rfl ?_
        obtain ⟨a49, g50, h51⟩ := Option.bind_eq_some_iff.mp h48
        refine mr_xald (pc' := 275) hL dL_law_274 rfl g50 ?_
        obtain ⟨q52, g53, h54⟩ := Option.bind_eq_some_iff.mp h51
        refine mr_cv (pc' := 278) (a := 145) (d1 := 0) dL_law_275 rfl rfl rfl rfl rfl rfl (by decide) rfl (by decide) (ok_X11_end hR  g53) ?_
        show mr X _ _ 278 _ [.int q52.1] (MM RR q52.2) _
        refine mr_pop_int (pc' := 279) dL_law_278 rfl ?_
        refine mr_goto (t := 1619) dL_law_279 (by decide) ?_
        refine mr_iinc (pc' := 1622) (x' := (p3 + (6 : Int32))) (lv' := [(3, .int (p3 + (6 : Int32))), (0, .ref mm_ext), (1, .ref 0), (2, .ref 145)]) dL_law_1619 rfl (by decide) rfl rfl rfl ?_
        refine mr_goto (t := 18) dL_law_1622 (by decide) ?_
        exact mr_sub [(0, .ref mm_ext), (1, .ref 0), (2, .ref 145), (3, .int (p3 + (6 : Int32)))] ⟨rfl, rfl, rfl, rfl, trivial⟩ rfl (ih _ _  h54)
      rw [if_neg c42] at h4
      by_cases c55 : (a2 &&& (63 : Int32)) = (2 : Int32)
      · rw [if_pos c55] at h4
        refine mr_sw_in (t := 282) (v := (2 : Int32)) dL_law_33 c55 rfl ?_
        refine mr_aload_n (pc' := 283) dL_law_282 rfl rfl ?_
        obtain ⟨q56, g57, h58⟩ := Option.bind_eq_some_iff.mp h4
        refine mr_cv (pc' := 286) (a := 0) (d1 := 7) dL_law_283 rfl rfl rfl rfl rfl rfl (by decide) rfl (by decide) (ok_X10_tower hR  g57) ?_
        show mr X _ _ 286 _ [.int q56.1] (MM RR q56.2) _
        refine mr_pop_int (pc' := 287) dL_law_286 rfl ?_
        refine mr_aload_n (pc' := 288) dL_law_287 rfl rfl ?_
        obtain ⟨q59, g60, h61⟩ := Option.bind_eq_some_iff.mp h58
        refine mr_cv (pc' := 291) (a := 145) (d1 := 12) dL_law_288 rfl rfl rfl rfl rfl rfl (by decide) rfl (by decide) (ok_X11_tower hR  g60) ?_
        show mr X _ _ 291 _ [.int q59.1] (MM RR q59.2) _
        refine mr_pop_int (pc' := 292) dL_law_291 rfl ?_
        refine mr_goto (t := 1619) dL_law_292 (by decide) ?_
        refine mr_iinc (pc' := 1622) (x' := (p3 + (6 : Int32))) (lv' := [(3, .int (p3 + (6 : Int32))), (0, .ref mm_ext), (1, .ref 0), (2, .ref 145)]) dL_law_1619 rfl (by decide) rfl rfl rfl ?_
        refine mr_goto (t := 18) dL_law_1622 (by decide) ?_
        exact mr_sub [(0, .ref mm_ext), (1, .ref 0), (2, .ref 145), (3, .int (p3 + (6 : Int32)))] ⟨rfl, rfl, rfl, rfl, trivial⟩ rfl (ih _ _  h61)
      rw [if_neg c55] at h4
      by_cases c62 : (a2 &&& (63 : Int32)) = (3 : Int32)
      · rw [if_pos c62] at h4
        refine mr_sw_in (t := 295) (v := (3 : Int32)) dL_law_33 c62 rfl ?_
        refine mr_aload_n (pc' := 296) dL_law_295 rfl rfl ?_
        obtain ⟨q63, g64, h65⟩ := Option.bind_eq_some_iff.mp h4
        refine mr_cv (pc' := 299) (a := 0) (d1 := 10) dL_law_296 rfl rfl rfl rfl rfl rfl (by decide) rfl (by decide) (ok_X10_rule hR  g64) ?_
        show mr X _ _ 299 _ [.int q63.1] (MM RR q63.2) _
        refine mr_pop_int (pc' := 300) dL_law_299 rfl ?_
        refine mr_aload_n (pc' := 301) dL_law_300 rfl rfl ?_
        obtain ⟨q66, g67, h68⟩ := Option.bind_eq_some_iff.mp h65
        refine mr_cv (pc' := 304) (a := 145) (d1 := 12) dL_law_301 rfl rfl rfl rfl rfl rfl (by decide) rfl (by decide) (ok_X11_rule hR  g67) ?_
        show mr X _ _ 304 _ [.int q66.1] (MM RR q66.2) _
        refine mr_pop_int (pc' := 305) dL_law_304 rfl ?_
        refine mr_goto (t := 1619) dL_law_305 (by decide) ?_
        refine mr_iinc (pc' := 1622) (x' := (p3 + (6 : Int32))) (lv' := [(3, .int (p3 + (6 : Int32))), (0, .ref mm_ext), (1, .ref 0), (2, .ref 145)]) dL_law_1619 rfl (by decide) rfl rfl rfl ?_
        refine mr_goto (t := 18) dL_law_1622 (by decide) ?_
        exact mr_sub [(0, .ref mm_ext), (1, .ref 0), (2, .ref 145), (3, .int (p3 + (6 : Int32)))] ⟨rfl, rfl, rfl, rfl, trivial⟩ rfl (ih _ _  h68)
      rw [if_neg c62] at h4
      by_cases c69 : (a2 &&& (63 : Int32)) = (4 : Int32)
      · rw [if_pos c69] at h4
        refine mr_sw_in (t := 308) (v := (4 : Int32)) dL_law_33 c69 rfl ?_
        refine mr_aload_n (pc' := 309) dL_law_308 rfl rfl ?_
        refine mr_aload_n (pc' := 310) dL_law_309 rfl rfl ?_
        refine mr_iload_n (pc' := 311) dL_law_310 rfl rfl ?_
        refine mr_iconst (pc' := 312) (v := (1 : Int32)) dL_law_311 rfl (by decide) ?_
        refine mr_iadd (pc' := 313) dL_law_312 rfl ?_
        obtain ⟨a70, g71, h72⟩ := Option.bind_eq_some_iff.mp h4
        refine mr_xald (pc' := 314) hL dL_law_313 rfl g71 ?_
        refine mr_aload_n (pc' := 315) dL_law_314 rfl rfl ?_
        refine mr_iload_n (pc' := 316) dL_law_315 rfl rfl ?_
        refine mr_iconst (pc' := 317) (v := (2 : Int32)) dL_law_316 rfl (by decide) ?_
        refine mr_iadd (pc' := 318) dL_law_317 rfl ?_
        obtain ⟨a73, g74, h75⟩ := Option.bind_eq_some_iff.mp h72
        refine mr_xald (pc' := 319) hL dL_law_318 rfl g74 ?_
        obtain ⟨q76, g77, h78⟩ := Option.bind_eq_some_iff.mp h75
        refine mr_cv (pc' := 322) (a := 0) (d1 := 3) dL_law_319 rfl rfl rfl rfl rfl rfl (by decide) rfl (by decide) (ok_X10_floor hR  g77) ?_
        show mr X _ _ 322 _ [.int q76] (MM RR S0) _
        refine mr_pop_int (pc' := 323) dL_law_322 rfl ?_
        refine mr_aload_n (pc' := 324) dL_law_323 rfl rfl ?_
        refine mr_aload_n (pc' := 325) dL_law_324 rfl rfl ?_
        refine mr_iload_n (pc' := 326) dL_law_325 rfl rfl ?_
        refine mr_iconst (pc' := 327) (v := (1 : Int32)) dL_law_326 rfl (by decide) ?_
        refine mr_iadd (pc' := 328) dL_law_327 rfl ?_
        obtain ⟨a79, g80, h81⟩ := Option.bind_eq_some_iff.mp h78
        refine mr_xald (pc' := 329) hL dL_law_328 rfl g80 ?_
        refine mr_aload_n (pc' := 330) dL_law_329 rfl rfl ?_
        refine mr_iload_n (pc' := 331) dL_law_330 rfl rfl ?_
        refine mr_iconst (pc' := 332) (v := (2 : Int32)) dL_law_331 rfl (by decide) ?_
        refine mr_iadd (pc' := 333) dL_law_332 rfl ?_
        obtain ⟨a82, g83, h84⟩ := Option.bind_eq_some_iff.mp h81
        refine mr_xald (pc' := 334) hL dL_law_333 rfl g83 ?_
        obtain ⟨q85, g86, h87⟩ := Option.bind_eq_some_iff.mp h84
        refine mr_cv (pc' := 337) (a := 145) (d1 := 2) dL_law_334 rfl rfl rfl rfl rfl rfl (by decide) rfl (by decide) (ok_X11_floor hR  g86) ?_
        show mr X _ _ 337 _ [.int q85] (MM RR S0) _
        refine mr_pop_int (pc' := 338) dL_law_337 rfl ?_
        refine mr_goto (t := 1619) dL_law_338 (by decide) ?_
        refine mr_iinc (pc' := 1622) (x' := (p3 + (6 : Int32))) (lv' := [(3, .int (p3 + (6 : Int32))), (0, .ref mm_ext), (1, .ref 0), (2, .ref 145)]) dL_law_1619 rfl (by decide) rfl rfl rfl ?_
        refine mr_goto (t := 18) dL_law_1622 (by decide) ?_
        exact mr_sub [(0, .ref mm_ext), (1, .ref 0), (2, .ref 145), (3, .int (p3 + (6 : Int32)))] ⟨rfl, rfl, rfl, rfl, trivial⟩ rfl (ih _ _  h87)
      rw [if_neg c69] at h4
      by_cases c88 : (a2 &&& (63 : Int32)) = (5 : Int32)
      · rw [if_pos c88] at h4
        refine mr_sw_in (t := 341) (v := (5 : Int32)) dL_law_33 c88 rfl ?_
        refine mr_aload_n (pc' := 342) dL_law_341 rfl rfl ?_
        refine mr_aload_n (pc' := 343) dL_law_342 rfl rfl ?_
        refine mr_iload_n (pc' := 344) dL_law_343 rfl rfl ?_
        refine mr_iconst (pc' := 345) (v := (1 : Int32)) dL_law_344 rfl (by decide) ?_
        refine mr_iadd (pc' := 346) dL_law_345 rfl ?_
        obtain ⟨a89, g90, h91⟩ := Option.bind_eq_some_iff.mp h4
        refine mr_xald (pc' := 347) hL dL_law_346 rfl g90 ?_
        refine mr_aload_n (pc' := 348) dL_law_347 rfl rfl ?_
        refine mr_iload_n (pc' := 349) dL_law_348 rfl rfl ?_
        refine mr_iconst (pc' := 350) (v := (2 : Int32)) dL_law_349 rfl (by decide) ?_
        refine mr_iadd (pc' := 351) dL_law_350 rfl ?_
        obtain ⟨a92, g93, h94⟩ := Option.bind_eq_some_iff.mp h91
        refine mr_xald (pc' := 352) hL dL_law_351 rfl g93 ?_
        obtain ⟨q95, g96, h97⟩ := Option.bind_eq_some_iff.mp h94
        refine mr_cv (pc' := 355) (a := 0) (d1 := 3) dL_law_352 rfl rfl rfl rfl rfl rfl (by decide) rfl (by decide) (ok_X10_stair hR  g96) ?_
        show mr X _ _ 355 _ [.int q95] (MM RR S0) _
        refine mr_pop_int (pc' := 356) dL_law_355 rfl ?_
        refine mr_aload_n (pc' := 357) dL_law_356 rfl rfl ?_
        refine mr_aload_n (pc' := 358) dL_law_357 rfl rfl ?_
        refine mr_iload_n (pc' := 359) dL_law_358 rfl rfl ?_
        refine mr_iconst (pc' := 360) (v := (1 : Int32)) dL_law_359 rfl (by decide) ?_
        refine mr_iadd (pc' := 361) dL_law_360 rfl ?_
        obtain ⟨a98, g99, h100⟩ := Option.bind_eq_some_iff.mp h97
        refine mr_xald (pc' := 362) hL dL_law_361 rfl g99 ?_
        refine mr_aload_n (pc' := 363) dL_law_362 rfl rfl ?_
        refine mr_iload_n (pc' := 364) dL_law_363 rfl rfl ?_
        refine mr_iconst (pc' := 365) (v := (2 : Int32)) dL_law_364 rfl (by decide) ?_
        refine mr_iadd (pc' := 366) dL_law_365 rfl ?_
        obtain ⟨a101, g102, h103⟩ := Option.bind_eq_some_iff.mp h100
        refine mr_xald (pc' := 367) hL dL_law_366 rfl g102 ?_
        obtain ⟨q104, g105, h106⟩ := Option.bind_eq_some_iff.mp h103
        refine mr_cv (pc' := 370) (a := 145) (d1 := 2) dL_law_367 rfl rfl rfl rfl rfl rfl (by decide) rfl (by decide) (ok_X11_stair hR  g105) ?_
        show mr X _ _ 370 _ [.int q104] (MM RR S0) _
        refine mr_pop_int (pc' := 371) dL_law_370 rfl ?_
        refine mr_goto (t := 1619) dL_law_371 (by decide) ?_
        refine mr_iinc (pc' := 1622) (x' := (p3 + (6 : Int32))) (lv' := [(3, .int (p3 + (6 : Int32))), (0, .ref mm_ext), (1, .ref 0), (2, .ref 145)]) dL_law_1619 rfl (by decide) rfl rfl rfl ?_
        refine mr_goto (t := 18) dL_law_1622 (by decide) ?_
        exact mr_sub [(0, .ref mm_ext), (1, .ref 0), (2, .ref 145), (3, .int (p3 + (6 : Int32)))] ⟨rfl, rfl, rfl, rfl, trivial⟩ rfl (ih _ _  h106)
      rw [if_neg c88] at h4
      by_cases c107 : (a2 &&& (63 : Int32)) = (6 : Int32)
      · rw [if_pos c107] at h4
        refine mr_sw_in (t := 374) (v := (6 : Int32)) dL_law_33 c107 rfl ?_
        refine mr_aload_n (pc' := 375) dL_law_374 rfl rfl ?_
        refine mr_aload_n (pc' := 376) dL_law_375 rfl rfl ?_
        refine mr_iload_n (pc' := 377) dL_law_376 rfl rfl ?_
        refine mr_iconst (pc' := 378) (v := (1 : Int32)) dL_law_377 rfl (by decide) ?_
        refine mr_iadd (pc' := 379) dL_law_378 rfl ?_
        obtain ⟨a108, g109, h110⟩ := Option.bind_eq_some_iff.mp h4
        refine mr_xald (pc' := 380) hL dL_law_379 rfl g109 ?_
        refine mr_aload_n (pc' := 381) dL_law_380 rfl rfl ?_
        refine mr_iload_n (pc' := 382) dL_law_381 rfl rfl ?_
        refine mr_iconst (pc' := 383) (v := (2 : Int32)) dL_law_382 rfl (by decide) ?_
        refine mr_iadd (pc' := 384) dL_law_383 rfl ?_
        obtain ⟨a111, g112, h113⟩ := Option.bind_eq_some_iff.mp h110
        refine mr_xald (pc' := 385) hL dL_law_384 rfl g112 ?_
        obtain ⟨q114, g115, h116⟩ := Option.bind_eq_some_iff.mp h113
        refine mr_cv (pc' := 388) (a := 0) (d1 := 2) dL_law_385 rfl rfl rfl rfl rfl rfl (by decide) rfl (by decide) (ok_X10_thing hR  g115) ?_
        show mr X _ _ 388 _ [.int q114] (MM RR S0) _
        refine mr_pop_int (pc' := 389) dL_law_388 rfl ?_
        refine mr_aload_n (pc' := 390) dL_law_389 rfl rfl ?_
        refine mr_aload_n (pc' := 391) dL_law_390 rfl rfl ?_
        refine mr_iload_n (pc' := 392) dL_law_391 rfl rfl ?_
        refine mr_iconst (pc' := 393) (v := (1 : Int32)) dL_law_392 rfl (by decide) ?_
        refine mr_iadd (pc' := 394) dL_law_393 rfl ?_
        obtain ⟨a117, g118, h119⟩ := Option.bind_eq_some_iff.mp h116
        refine mr_xald (pc' := 395) hL dL_law_394 rfl g118 ?_
        refine mr_aload_n (pc' := 396) dL_law_395 rfl rfl ?_
        refine mr_iload_n (pc' := 397) dL_law_396 rfl rfl ?_
        refine mr_iconst (pc' := 398) (v := (2 : Int32)) dL_law_397 rfl (by decide) ?_
        refine mr_iadd (pc' := 399) dL_law_398 rfl ?_
        obtain ⟨a120, g121, h122⟩ := Option.bind_eq_some_iff.mp h119
        refine mr_xald (pc' := 400) hL dL_law_399 rfl g121 ?_
        obtain ⟨q123, g124, h125⟩ := Option.bind_eq_some_iff.mp h122
        refine mr_cv (pc' := 403) (a := 145) (d1 := 1) dL_law_400 rfl rfl rfl rfl rfl rfl (by decide) rfl (by decide) (ok_X11_thing hR  g124) ?_
        show mr X _ _ 403 _ [.int q123] (MM RR S0) _
        refine mr_pop_int (pc' := 404) dL_law_403 rfl ?_
        refine mr_goto (t := 1619) dL_law_404 (by decide) ?_
        refine mr_iinc (pc' := 1622) (x' := (p3 + (6 : Int32))) (lv' := [(3, .int (p3 + (6 : Int32))), (0, .ref mm_ext), (1, .ref 0), (2, .ref 145)]) dL_law_1619 rfl (by decide) rfl rfl rfl ?_
        refine mr_goto (t := 18) dL_law_1622 (by decide) ?_
        exact mr_sub [(0, .ref mm_ext), (1, .ref 0), (2, .ref 145), (3, .int (p3 + (6 : Int32)))] ⟨rfl, rfl, rfl, rfl, trivial⟩ rfl (ih _ _  h125)
      rw [if_neg c107] at h4
      by_cases c126 : (a2 &&& (63 : Int32)) = (7 : Int32)
      · rw [if_pos c126] at h4
        refine mr_sw_in (t := 407) (v := (7 : Int32)) dL_law_33 c126 rfl ?_
        refine mr_aload_n (pc' := 408) dL_law_407 rfl rfl ?_
        refine mr_aload_n (pc' := 409) dL_law_408 rfl rfl ?_
        refine mr_iload_n (pc' := 410) dL_law_409 rfl rfl ?_
        refine mr_iconst (pc' := 411) (v := (1 : Int32)) dL_law_410 rfl (by decide) ?_
        refine mr_iadd (pc' := 412) dL_law_411 rfl ?_
        obtain ⟨a127, g128, h129⟩ := Option.bind_eq_some_iff.mp h4
        refine mr_xald (pc' := 413) hL dL_law_412 rfl g128 ?_
        refine mr_aload_n (pc' := 414) dL_law_413 rfl rfl ?_
        refine mr_iload_n (pc' := 415) dL_law_414 rfl rfl ?_
        refine mr_iconst (pc' := 416) (v := (2 : Int32)) dL_law_415 rfl (by decide) ?_
        refine mr_iadd (pc' := 417) dL_law_416 rfl ?_
        obtain ⟨a130, g131, h132⟩ := Option.bind_eq_some_iff.mp h129
        refine mr_xald (pc' := 418) hL dL_law_417 rfl g131 ?_
        obtain ⟨q133, g134, h135⟩ := Option.bind_eq_some_iff.mp h132
        refine mr_cv (pc' := 421) (a := 0) (d1 := 3) dL_law_418 rfl rfl rfl rfl rfl rfl (by decide) rfl (by decide) (ok_X10_age hR  g134) ?_
        show mr X _ _ 421 _ [.long q133] (MM RR S0) _
        refine mr_pop2 (pc' := 422) dL_law_421 rfl ?_
        refine mr_aload_n (pc' := 423) dL_law_422 rfl rfl ?_
        refine mr_aload_n (pc' := 424) dL_law_423 rfl rfl ?_
        refine mr_iload_n (pc' := 425) dL_law_424 rfl rfl ?_
        refine mr_iconst (pc' := 426) (v := (1 : Int32)) dL_law_425 rfl (by decide) ?_
        refine mr_iadd (pc' := 427) dL_law_426 rfl ?_
        obtain ⟨a136, g137, h138⟩ := Option.bind_eq_some_iff.mp h135
        refine mr_xald (pc' := 428) hL dL_law_427 rfl g137 ?_
        refine mr_aload_n (pc' := 429) dL_law_428 rfl rfl ?_
        refine mr_iload_n (pc' := 430) dL_law_429 rfl rfl ?_
        refine mr_iconst (pc' := 431) (v := (2 : Int32)) dL_law_430 rfl (by decide) ?_
        refine mr_iadd (pc' := 432) dL_law_431 rfl ?_
        obtain ⟨a139, g140, h141⟩ := Option.bind_eq_some_iff.mp h138
        refine mr_xald (pc' := 433) hL dL_law_432 rfl g140 ?_
        obtain ⟨q142, g143, h144⟩ := Option.bind_eq_some_iff.mp h141
        refine mr_cv (pc' := 436) (a := 145) (d1 := 2) dL_law_433 rfl rfl rfl rfl rfl rfl (by decide) rfl (by decide) (ok_X11_age hR  g143) ?_
        show mr X _ _ 436 _ [.long q142] (MM RR S0) _
        refine mr_pop2 (pc' := 437) dL_law_436 rfl ?_
        refine mr_goto (t := 1619) dL_law_437 (by decide) ?_
        refine mr_iinc (pc' := 1622) (x' := (p3 + (6 : Int32))) (lv' := [(3, .int (p3 + (6 : Int32))), (0, .ref mm_ext), (1, .ref 0), (2, .ref 145)]) dL_law_1619 rfl (by decide) rfl rfl rfl ?_
        refine mr_goto (t := 18) dL_law_1622 (by decide) ?_
        exact mr_sub [(0, .ref mm_ext), (1, .ref 0), (2, .ref 145), (3, .int (p3 + (6 : Int32)))] ⟨rfl, rfl, rfl, rfl, trivial⟩ rfl (ih _ _  h144)
      rw [if_neg c126] at h4
      by_cases c145 : (a2 &&& (63 : Int32)) = (8 : Int32)
      · rw [if_pos c145] at h4
        refine mr_sw_in (t := 440) (v := (8 : Int32)) dL_law_33 c145 rfl ?_
        refine mr_aload_n (pc' := 441) dL_law_440 rfl rfl ?_
        refine mr_aload_n (pc' := 442) dL_law_441 rfl rfl ?_
        refine mr_iload_n (pc' := 443) dL_law_442 rfl rfl ?_
        refine mr_iconst (pc' := 444) (v := (1 : Int32)) dL_law_443 rfl (by decide) ?_
        refine mr_iadd (pc' := 445) dL_law_444 rfl ?_
        obtain ⟨a146, g147, h148⟩ := Option.bind_eq_some_iff.mp h4
        refine mr_xald (pc' := 446) hL dL_law_445 rfl g147 ?_
        refine mr_aload_n (pc' := 447) dL_law_446 rfl rfl ?_
        refine mr_iload_n (pc' := 448) dL_law_447 rfl rfl ?_
        refine mr_iconst (pc' := 449) (v := (2 : Int32)) dL_law_448 rfl (by decide) ?_
        refine mr_iadd (pc' := 450) dL_law_449 rfl ?_
        obtain ⟨a149, g150, h151⟩ := Option.bind_eq_some_iff.mp h148
        refine mr_xald (pc' := 451) hL dL_law_450 rfl g150 ?_
        obtain ⟨q152, g153, h154⟩ := Option.bind_eq_some_iff.mp h151
        refine mr_cv (pc' := 454) (a := 0) (d1 := 2) dL_law_451 rfl rfl rfl rfl rfl rfl (by decide) rfl (by decide) (ok_X10_older hR  g153) ?_
        show mr X _ _ 454 _ [.int q152] (MM RR S0) _
        refine mr_pop_int (pc' := 455) dL_law_454 rfl ?_
        refine mr_aload_n (pc' := 456) dL_law_455 rfl rfl ?_
        refine mr_aload_n (pc' := 457) dL_law_456 rfl rfl ?_
        refine mr_iload_n (pc' := 458) dL_law_457 rfl rfl ?_
        refine mr_iconst (pc' := 459) (v := (1 : Int32)) dL_law_458 rfl (by decide) ?_
        refine mr_iadd (pc' := 460) dL_law_459 rfl ?_
        obtain ⟨a155, g156, h157⟩ := Option.bind_eq_some_iff.mp h154
        refine mr_xald (pc' := 461) hL dL_law_460 rfl g156 ?_
        refine mr_aload_n (pc' := 462) dL_law_461 rfl rfl ?_
        refine mr_iload_n (pc' := 463) dL_law_462 rfl rfl ?_
        refine mr_iconst (pc' := 464) (v := (2 : Int32)) dL_law_463 rfl (by decide) ?_
        refine mr_iadd (pc' := 465) dL_law_464 rfl ?_
        obtain ⟨a158, g159, h160⟩ := Option.bind_eq_some_iff.mp h157
        refine mr_xald (pc' := 466) hL dL_law_465 rfl g159 ?_
        obtain ⟨q161, g162, h163⟩ := Option.bind_eq_some_iff.mp h160
        refine mr_cv (pc' := 469) (a := 145) (d1 := 1) dL_law_466 rfl rfl rfl rfl rfl rfl (by decide) rfl (by decide) (ok_X11_older hR  g162) ?_
        show mr X _ _ 469 _ [.int q161] (MM RR S0) _
        refine mr_pop_int (pc' := 470) dL_law_469 rfl ?_
        refine mr_goto (t := 1619) dL_law_470 (by decide) ?_
        refine mr_iinc (pc' := 1622) (x' := (p3 + (6 : Int32))) (lv' := [(3, .int (p3 + (6 : Int32))), (0, .ref mm_ext), (1, .ref 0), (2, .ref 145)]) dL_law_1619 rfl (by decide) rfl rfl rfl ?_
        refine mr_goto (t := 18) dL_law_1622 (by decide) ?_
        exact mr_sub [(0, .ref mm_ext), (1, .ref 0), (2, .ref 145), (3, .int (p3 + (6 : Int32)))] ⟨rfl, rfl, rfl, rfl, trivial⟩ rfl (ih _ _  h163)
      rw [if_neg c145] at h4
      by_cases c164 : (a2 &&& (63 : Int32)) = (9 : Int32)
      · rw [if_pos c164] at h4
        refine mr_sw_in (t := 473) (v := (9 : Int32)) dL_law_33 c164 rfl ?_
        refine mr_aload_n (pc' := 474) dL_law_473 rfl rfl ?_
        refine mr_aload_n (pc' := 475) dL_law_474 rfl rfl ?_
        refine mr_iload_n (pc' := 476) dL_law_475 rfl rfl ?_
        refine mr_iconst (pc' := 477) (v := (1 : Int32)) dL_law_476 rfl (by decide) ?_
        refine mr_iadd (pc' := 478) dL_law_477 rfl ?_
        obtain ⟨a165, g166, h167⟩ := Option.bind_eq_some_iff.mp h4
        refine mr_xald (pc' := 479) hL dL_law_478 rfl g166 ?_
        refine mr_aload_n (pc' := 480) dL_law_479 rfl rfl ?_
        refine mr_iload_n (pc' := 481) dL_law_480 rfl rfl ?_
        refine mr_iconst (pc' := 482) (v := (2 : Int32)) dL_law_481 rfl (by decide) ?_
        refine mr_iadd (pc' := 483) dL_law_482 rfl ?_
        obtain ⟨a168, g169, h170⟩ := Option.bind_eq_some_iff.mp h167
        refine mr_xald (pc' := 484) hL dL_law_483 rfl g169 ?_
        obtain ⟨q171, g172, h173⟩ := Option.bind_eq_some_iff.mp h170
        refine mr_cv (pc' := 487) (a := 0) (d1 := 3) dL_law_484 rfl rfl rfl rfl rfl rfl (by decide) rfl (by decide) (ok_X10_go hR  g172) ?_
        show mr X _ _ 487 _ [.int q171.1] (MM RR q171.2) _
        refine mr_pop_int (pc' := 488) dL_law_487 rfl ?_
        refine mr_aload_n (pc' := 489) dL_law_488 rfl rfl ?_
        refine mr_aload_n (pc' := 490) dL_law_489 rfl rfl ?_
        refine mr_iload_n (pc' := 491) dL_law_490 rfl rfl ?_
        refine mr_iconst (pc' := 492) (v := (1 : Int32)) dL_law_491 rfl (by decide) ?_
        refine mr_iadd (pc' := 493) dL_law_492 rfl ?_
        obtain ⟨a174, g175, h176⟩ := Option.bind_eq_some_iff.mp h173
        refine mr_xald (pc' := 494) hL dL_law_493 rfl g175 ?_
        refine mr_aload_n (pc' := 495) dL_law_494 rfl rfl ?_
        refine mr_iload_n (pc' := 496) dL_law_495 rfl rfl ?_
        refine mr_iconst (pc' := 497) (v := (2 : Int32)) dL_law_496 rfl (by decide) ?_
        refine mr_iadd (pc' := 498) dL_law_497 rfl ?_
        obtain ⟨a177, g178, h179⟩ := Option.bind_eq_some_iff.mp h176
        refine mr_xald (pc' := 499) hL dL_law_498 rfl g178 ?_
        obtain ⟨q180, g181, h182⟩ := Option.bind_eq_some_iff.mp h179
        refine mr_cv (pc' := 502) (a := 145) (d1 := 3) dL_law_499 rfl rfl rfl rfl rfl rfl (by decide) rfl (by decide) (ok_X11_go hR  g181) ?_
        show mr X _ _ 502 _ [.int q180.1] (MM RR q180.2) _
        refine mr_pop_int (pc' := 503) dL_law_502 rfl ?_
        refine mr_goto (t := 1619) dL_law_503 (by decide) ?_
        refine mr_iinc (pc' := 1622) (x' := (p3 + (6 : Int32))) (lv' := [(3, .int (p3 + (6 : Int32))), (0, .ref mm_ext), (1, .ref 0), (2, .ref 145)]) dL_law_1619 rfl (by decide) rfl rfl rfl ?_
        refine mr_goto (t := 18) dL_law_1622 (by decide) ?_
        exact mr_sub [(0, .ref mm_ext), (1, .ref 0), (2, .ref 145), (3, .int (p3 + (6 : Int32)))] ⟨rfl, rfl, rfl, rfl, trivial⟩ rfl (ih _ _  h182)
      rw [if_neg c164] at h4
      by_cases c183 : (a2 &&& (63 : Int32)) = (10 : Int32)
      · rw [if_pos c183] at h4
        refine mr_sw_in (t := 506) (v := (10 : Int32)) dL_law_33 c183 rfl ?_
        refine mr_aload_n (pc' := 507) dL_law_506 rfl rfl ?_
        refine mr_aload_n (pc' := 508) dL_law_507 rfl rfl ?_
        refine mr_iload_n (pc' := 509) dL_law_508 rfl rfl ?_
        refine mr_iconst (pc' := 510) (v := (1 : Int32)) dL_law_509 rfl (by decide) ?_
        refine mr_iadd (pc' := 511) dL_law_510 rfl ?_
        obtain ⟨a184, g185, h186⟩ := Option.bind_eq_some_iff.mp h4
        refine mr_xald (pc' := 512) hL dL_law_511 rfl g185 ?_
        refine mr_aload_n (pc' := 513) dL_law_512 rfl rfl ?_
        refine mr_iload_n (pc' := 514) dL_law_513 rfl rfl ?_
        refine mr_iconst (pc' := 515) (v := (2 : Int32)) dL_law_514 rfl (by decide) ?_
        refine mr_iadd (pc' := 516) dL_law_515 rfl ?_
        obtain ⟨a187, g188, h189⟩ := Option.bind_eq_some_iff.mp h186
        refine mr_xald (pc' := 517) hL dL_law_516 rfl g188 ?_
        obtain ⟨q190, g191, h192⟩ := Option.bind_eq_some_iff.mp h189
        refine mr_cv (pc' := 520) (a := 0) (d1 := 5) dL_law_517 rfl rfl rfl rfl rfl rfl (by decide) rfl (by decide) (ok_X10_tick hR  g191) ?_
        show mr X _ _ 520 _ [.int q190.1] (MM RR q190.2) _
        refine mr_pop_int (pc' := 521) dL_law_520 rfl ?_
        refine mr_aload_n (pc' := 522) dL_law_521 rfl rfl ?_
        refine mr_aload_n (pc' := 523) dL_law_522 rfl rfl ?_
        refine mr_iload_n (pc' := 524) dL_law_523 rfl rfl ?_
        refine mr_iconst (pc' := 525) (v := (1 : Int32)) dL_law_524 rfl (by decide) ?_
        refine mr_iadd (pc' := 526) dL_law_525 rfl ?_
        obtain ⟨a193, g194, h195⟩ := Option.bind_eq_some_iff.mp h192
        refine mr_xald (pc' := 527) hL dL_law_526 rfl g194 ?_
        refine mr_aload_n (pc' := 528) dL_law_527 rfl rfl ?_
        refine mr_iload_n (pc' := 529) dL_law_528 rfl rfl ?_
        refine mr_iconst (pc' := 530) (v := (2 : Int32)) dL_law_529 rfl (by decide) ?_
        refine mr_iadd (pc' := 531) dL_law_530 rfl ?_
        obtain ⟨a196, g197, h198⟩ := Option.bind_eq_some_iff.mp h195
        refine mr_xald (pc' := 532) hL dL_law_531 rfl g197 ?_
        obtain ⟨q199, g200, h201⟩ := Option.bind_eq_some_iff.mp h198
        refine mr_cv (pc' := 535) (a := 145) (d1 := 5) dL_law_532 rfl rfl rfl rfl rfl rfl (by decide) rfl (by decide) (ok_X11_tick hR  g200) ?_
        show mr X _ _ 535 _ [.int q199.1] (MM RR q199.2) _
        refine mr_pop_int (pc' := 536) dL_law_535 rfl ?_
        refine mr_goto (t := 1619) dL_law_536 (by decide) ?_
        refine mr_iinc (pc' := 1622) (x' := (p3 + (6 : Int32))) (lv' := [(3, .int (p3 + (6 : Int32))), (0, .ref mm_ext), (1, .ref 0), (2, .ref 145)]) dL_law_1619 rfl (by decide) rfl rfl rfl ?_
        refine mr_goto (t := 18) dL_law_1622 (by decide) ?_
        exact mr_sub [(0, .ref mm_ext), (1, .ref 0), (2, .ref 145), (3, .int (p3 + (6 : Int32)))] ⟨rfl, rfl, rfl, rfl, trivial⟩ rfl (ih _ _  h201)
      rw [if_neg c183] at h4
      by_cases c202 : (a2 &&& (63 : Int32)) = (11 : Int32)
      · rw [if_pos c202] at h4
        refine mr_sw_in (t := 539) (v := (11 : Int32)) dL_law_33 c202 rfl ?_
        refine mr_aload_n (pc' := 540) dL_law_539 rfl rfl ?_
        refine mr_aload_n (pc' := 541) dL_law_540 rfl rfl ?_
        refine mr_iload_n (pc' := 542) dL_law_541 rfl rfl ?_
        refine mr_iconst (pc' := 543) (v := (1 : Int32)) dL_law_542 rfl (by decide) ?_
        refine mr_iadd (pc' := 544) dL_law_543 rfl ?_
        obtain ⟨a203, g204, h205⟩ := Option.bind_eq_some_iff.mp h4
        refine mr_xald (pc' := 545) hL dL_law_544 rfl g204 ?_
        refine mr_aload_n (pc' := 546) dL_law_545 rfl rfl ?_
        refine mr_iload_n (pc' := 547) dL_law_546 rfl rfl ?_
        refine mr_iconst (pc' := 548) (v := (2 : Int32)) dL_law_547 rfl (by decide) ?_
        refine mr_iadd (pc' := 549) dL_law_548 rfl ?_
        obtain ⟨a206, g207, h208⟩ := Option.bind_eq_some_iff.mp h205
        refine mr_xald (pc' := 550) hL dL_law_549 rfl g207 ?_
        refine mr_aload_n (pc' := 551) dL_law_550 rfl rfl ?_
        refine mr_iload_n (pc' := 552) dL_law_551 rfl rfl ?_
        refine mr_iconst (pc' := 553) (v := (3 : Int32)) dL_law_552 rfl (by decide) ?_
        refine mr_iadd (pc' := 554) dL_law_553 rfl ?_
        obtain ⟨a209, g210, h211⟩ := Option.bind_eq_some_iff.mp h208
        refine mr_xald (pc' := 555) hL dL_law_554 rfl g210 ?_
        refine mr_aload_n (pc' := 556) dL_law_555 rfl rfl ?_
        refine mr_iload_n (pc' := 557) dL_law_556 rfl rfl ?_
        refine mr_iconst (pc' := 558) (v := (4 : Int32)) dL_law_557 rfl (by decide) ?_
        refine mr_iadd (pc' := 559) dL_law_558 rfl ?_
        obtain ⟨a212, g213, h214⟩ := Option.bind_eq_some_iff.mp h211
        refine mr_xald (pc' := 560) hL dL_law_559 rfl g213 ?_
        obtain ⟨q215, g216, h217⟩ := Option.bind_eq_some_iff.mp h214
        refine mr_cv (pc' := 563) (a := 0) (d1 := 6) dL_law_560 rfl rfl rfl rfl rfl rfl (by decide) rfl (by decide) (ok_X10_ahead hR  g216) ?_
        show mr X _ _ 563 _ [.long q215.1] (MM RR q215.2) _
        refine mr_pop2 (pc' := 564) dL_law_563 rfl ?_
        refine mr_aload_n (pc' := 565) dL_law_564 rfl rfl ?_
        refine mr_aload_n (pc' := 566) dL_law_565 rfl rfl ?_
        refine mr_iload_n (pc' := 567) dL_law_566 rfl rfl ?_
        refine mr_iconst (pc' := 568) (v := (1 : Int32)) dL_law_567 rfl (by decide) ?_
        refine mr_iadd (pc' := 569) dL_law_568 rfl ?_
        obtain ⟨a218, g219, h220⟩ := Option.bind_eq_some_iff.mp h217
        refine mr_xald (pc' := 570) hL dL_law_569 rfl g219 ?_
        refine mr_aload_n (pc' := 571) dL_law_570 rfl rfl ?_
        refine mr_iload_n (pc' := 572) dL_law_571 rfl rfl ?_
        refine mr_iconst (pc' := 573) (v := (2 : Int32)) dL_law_572 rfl (by decide) ?_
        refine mr_iadd (pc' := 574) dL_law_573 rfl ?_
        obtain ⟨a221, g222, h223⟩ := Option.bind_eq_some_iff.mp h220
        refine mr_xald (pc' := 575) hL dL_law_574 rfl g222 ?_
        refine mr_aload_n (pc' := 576) dL_law_575 rfl rfl ?_
        refine mr_iload_n (pc' := 577) dL_law_576 rfl rfl ?_
        refine mr_iconst (pc' := 578) (v := (3 : Int32)) dL_law_577 rfl (by decide) ?_
        refine mr_iadd (pc' := 579) dL_law_578 rfl ?_
        obtain ⟨a224, g225, h226⟩ := Option.bind_eq_some_iff.mp h223
        refine mr_xald (pc' := 580) hL dL_law_579 rfl g225 ?_
        refine mr_aload_n (pc' := 581) dL_law_580 rfl rfl ?_
        refine mr_iload_n (pc' := 582) dL_law_581 rfl rfl ?_
        refine mr_iconst (pc' := 583) (v := (4 : Int32)) dL_law_582 rfl (by decide) ?_
        refine mr_iadd (pc' := 584) dL_law_583 rfl ?_
        obtain ⟨a227, g228, h229⟩ := Option.bind_eq_some_iff.mp h226
        refine mr_xald (pc' := 585) hL dL_law_584 rfl g228 ?_
        obtain ⟨q230, g231, h232⟩ := Option.bind_eq_some_iff.mp h229
        refine mr_cv (pc' := 588) (a := 145) (d1 := 5) dL_law_585 rfl rfl rfl rfl rfl rfl (by decide) rfl (by decide) (ok_X11_ahead hR  g231) ?_
        show mr X _ _ 588 _ [.long q230.1] (MM RR q230.2) _
        refine mr_pop2 (pc' := 589) dL_law_588 rfl ?_
        refine mr_goto (t := 1619) dL_law_589 (by decide) ?_
        refine mr_iinc (pc' := 1622) (x' := (p3 + (6 : Int32))) (lv' := [(3, .int (p3 + (6 : Int32))), (0, .ref mm_ext), (1, .ref 0), (2, .ref 145)]) dL_law_1619 rfl (by decide) rfl rfl rfl ?_
        refine mr_goto (t := 18) dL_law_1622 (by decide) ?_
        exact mr_sub [(0, .ref mm_ext), (1, .ref 0), (2, .ref 145), (3, .int (p3 + (6 : Int32)))] ⟨rfl, rfl, rfl, rfl, trivial⟩ rfl (ih _ _  h232)
      rw [if_neg c202] at h4
      by_cases c233 : (a2 &&& (63 : Int32)) = (12 : Int32)
      · rw [if_pos c233] at h4
        refine mr_sw_in (t := 592) (v := (12 : Int32)) dL_law_33 c233 rfl ?_
        refine mr_aload_n (pc' := 593) dL_law_592 rfl rfl ?_
        refine mr_aload_n (pc' := 594) dL_law_593 rfl rfl ?_
        refine mr_iload_n (pc' := 595) dL_law_594 rfl rfl ?_
        refine mr_iconst (pc' := 596) (v := (1 : Int32)) dL_law_595 rfl (by decide) ?_
        refine mr_iadd (pc' := 597) dL_law_596 rfl ?_
        obtain ⟨a234, g235, h236⟩ := Option.bind_eq_some_iff.mp h4
        refine mr_xald (pc' := 598) hL dL_law_597 rfl g235 ?_
        refine mr_aload_n (pc' := 599) dL_law_598 rfl rfl ?_
        refine mr_iload_n (pc' := 600) dL_law_599 rfl rfl ?_
        refine mr_iconst (pc' := 601) (v := (2 : Int32)) dL_law_600 rfl (by decide) ?_
        refine mr_iadd (pc' := 602) dL_law_601 rfl ?_
        obtain ⟨a237, g238, h239⟩ := Option.bind_eq_some_iff.mp h236
        refine mr_xald (pc' := 603) hL dL_law_602 rfl g238 ?_
        obtain ⟨q240, g241, h242⟩ := Option.bind_eq_some_iff.mp h239
        refine mr_cv (pc' := 606) (a := 0) (d1 := 2) dL_law_603 rfl rfl rfl rfl rfl rfl (by decide) rfl (by decide) (ok_X10_far hR  g241) ?_
        show mr X _ _ 606 _ [.int q240] (MM RR S0) _
        refine mr_pop_int (pc' := 607) dL_law_606 rfl ?_
        refine mr_aload_n (pc' := 608) dL_law_607 rfl rfl ?_
        refine mr_aload_n (pc' := 609) dL_law_608 rfl rfl ?_
        refine mr_iload_n (pc' := 610) dL_law_609 rfl rfl ?_
        refine mr_iconst (pc' := 611) (v := (1 : Int32)) dL_law_610 rfl (by decide) ?_
        refine mr_iadd (pc' := 612) dL_law_611 rfl ?_
        obtain ⟨a243, g244, h245⟩ := Option.bind_eq_some_iff.mp h242
        refine mr_xald (pc' := 613) hL dL_law_612 rfl g244 ?_
        refine mr_aload_n (pc' := 614) dL_law_613 rfl rfl ?_
        refine mr_iload_n (pc' := 615) dL_law_614 rfl rfl ?_
        refine mr_iconst (pc' := 616) (v := (2 : Int32)) dL_law_615 rfl (by decide) ?_
        refine mr_iadd (pc' := 617) dL_law_616 rfl ?_
        obtain ⟨a246, g247, h248⟩ := Option.bind_eq_some_iff.mp h245
        refine mr_xald (pc' := 618) hL dL_law_617 rfl g247 ?_
        obtain ⟨q249, g250, h251⟩ := Option.bind_eq_some_iff.mp h248
        refine mr_cv (pc' := 621) (a := 145) (d1 := 1) dL_law_618 rfl rfl rfl rfl rfl rfl (by decide) rfl (by decide) (ok_X11_far hR  g250) ?_
        show mr X _ _ 621 _ [.int q249] (MM RR S0) _
        refine mr_pop_int (pc' := 622) dL_law_621 rfl ?_
        refine mr_goto (t := 1619) dL_law_622 (by decide) ?_
        refine mr_iinc (pc' := 1622) (x' := (p3 + (6 : Int32))) (lv' := [(3, .int (p3 + (6 : Int32))), (0, .ref mm_ext), (1, .ref 0), (2, .ref 145)]) dL_law_1619 rfl (by decide) rfl rfl rfl ?_
        refine mr_goto (t := 18) dL_law_1622 (by decide) ?_
        exact mr_sub [(0, .ref mm_ext), (1, .ref 0), (2, .ref 145), (3, .int (p3 + (6 : Int32)))] ⟨rfl, rfl, rfl, rfl, trivial⟩ rfl (ih _ _  h251)
      rw [if_neg c233] at h4
      by_cases c252 : (a2 &&& (63 : Int32)) = (13 : Int32)
      · rw [if_pos c252] at h4
        refine mr_sw_in (t := 625) (v := (13 : Int32)) dL_law_33 c252 rfl ?_
        refine mr_aload_n (pc' := 626) dL_law_625 rfl rfl ?_
        refine mr_aload_n (pc' := 627) dL_law_626 rfl rfl ?_
        refine mr_iload_n (pc' := 628) dL_law_627 rfl rfl ?_
        refine mr_iconst (pc' := 629) (v := (1 : Int32)) dL_law_628 rfl (by decide) ?_
        refine mr_iadd (pc' := 630) dL_law_629 rfl ?_
        obtain ⟨a253, g254, h255⟩ := Option.bind_eq_some_iff.mp h4
        refine mr_xald (pc' := 631) hL dL_law_630 rfl g254 ?_
        refine mr_aload_n (pc' := 632) dL_law_631 rfl rfl ?_
        refine mr_iload_n (pc' := 633) dL_law_632 rfl rfl ?_
        refine mr_iconst (pc' := 634) (v := (2 : Int32)) dL_law_633 rfl (by decide) ?_
        refine mr_iadd (pc' := 635) dL_law_634 rfl ?_
        obtain ⟨a256, g257, h258⟩ := Option.bind_eq_some_iff.mp h255
        refine mr_xald (pc' := 636) hL dL_law_635 rfl g257 ?_
        obtain ⟨q259, g260, h261⟩ := Option.bind_eq_some_iff.mp h258
        refine mr_cv (pc' := 639) (a := 0) (d1 := 2) dL_law_636 rfl rfl rfl rfl rfl rfl (by decide) rfl (by decide) (ok_X10_next hR  g260) ?_
        show mr X _ _ 639 _ [.int q259] (MM RR S0) _
        refine mr_pop_int (pc' := 640) dL_law_639 rfl ?_
        refine mr_aload_n (pc' := 641) dL_law_640 rfl rfl ?_
        refine mr_aload_n (pc' := 642) dL_law_641 rfl rfl ?_
        refine mr_iload_n (pc' := 643) dL_law_642 rfl rfl ?_
        refine mr_iconst (pc' := 644) (v := (1 : Int32)) dL_law_643 rfl (by decide) ?_
        refine mr_iadd (pc' := 645) dL_law_644 rfl ?_
        obtain ⟨a262, g263, h264⟩ := Option.bind_eq_some_iff.mp h261
        refine mr_xald (pc' := 646) hL dL_law_645 rfl g263 ?_
        refine mr_aload_n (pc' := 647) dL_law_646 rfl rfl ?_
        refine mr_iload_n (pc' := 648) dL_law_647 rfl rfl ?_
        refine mr_iconst (pc' := 649) (v := (2 : Int32)) dL_law_648 rfl (by decide) ?_
        refine mr_iadd (pc' := 650) dL_law_649 rfl ?_
        obtain ⟨a265, g266, h267⟩ := Option.bind_eq_some_iff.mp h264
        refine mr_xald (pc' := 651) hL dL_law_650 rfl g266 ?_
        obtain ⟨q268, g269, h270⟩ := Option.bind_eq_some_iff.mp h267
        refine mr_cv (pc' := 654) (a := 145) (d1 := 3) dL_law_651 rfl rfl rfl rfl rfl rfl (by decide) rfl (by decide) (ok_X11_next hR  g269) ?_
        show mr X _ _ 654 _ [.int q268] (MM RR S0) _
        refine mr_pop_int (pc' := 655) dL_law_654 rfl ?_
        refine mr_goto (t := 1619) dL_law_655 (by decide) ?_
        refine mr_iinc (pc' := 1622) (x' := (p3 + (6 : Int32))) (lv' := [(3, .int (p3 + (6 : Int32))), (0, .ref mm_ext), (1, .ref 0), (2, .ref 145)]) dL_law_1619 rfl (by decide) rfl rfl rfl ?_
        refine mr_goto (t := 18) dL_law_1622 (by decide) ?_
        exact mr_sub [(0, .ref mm_ext), (1, .ref 0), (2, .ref 145), (3, .int (p3 + (6 : Int32)))] ⟨rfl, rfl, rfl, rfl, trivial⟩ rfl (ih _ _  h270)
      rw [if_neg c252] at h4
      by_cases c271 : (a2 &&& (63 : Int32)) = (14 : Int32)
      · rw [if_pos c271] at h4
        refine mr_sw_in (t := 658) (v := (14 : Int32)) dL_law_33 c271 rfl ?_
        refine mr_aload_n (pc' := 659) dL_law_658 rfl rfl ?_
        refine mr_aload_n (pc' := 660) dL_law_659 rfl rfl ?_
        refine mr_iload_n (pc' := 661) dL_law_660 rfl rfl ?_
        refine mr_iconst (pc' := 662) (v := (1 : Int32)) dL_law_661 rfl (by decide) ?_
        refine mr_iadd (pc' := 663) dL_law_662 rfl ?_
        obtain ⟨a272, g273, h274⟩ := Option.bind_eq_some_iff.mp h4
        refine mr_xald (pc' := 664) hL dL_law_663 rfl g273 ?_
        refine mr_aload_n (pc' := 665) dL_law_664 rfl rfl ?_
        refine mr_iload_n (pc' := 666) dL_law_665 rfl rfl ?_
        refine mr_iconst (pc' := 667) (v := (2 : Int32)) dL_law_666 rfl (by decide) ?_
        refine mr_iadd (pc' := 668) dL_law_667 rfl ?_
        obtain ⟨a275, g276, h277⟩ := Option.bind_eq_some_iff.mp h274
        refine mr_xald (pc' := 669) hL dL_law_668 rfl g276 ?_
        refine mr_aload_n (pc' := 670) dL_law_669 rfl rfl ?_
        refine mr_iload_n (pc' := 671) dL_law_670 rfl rfl ?_
        refine mr_iconst (pc' := 672) (v := (3 : Int32)) dL_law_671 rfl (by decide) ?_
        refine mr_iadd (pc' := 673) dL_law_672 rfl ?_
        obtain ⟨a278, g279, h280⟩ := Option.bind_eq_some_iff.mp h277
        refine mr_xald (pc' := 674) hL dL_law_673 rfl g279 ?_
        obtain ⟨q281, g282, h283⟩ := Option.bind_eq_some_iff.mp h280
        refine mr_cv (pc' := 677) (a := 0) (d1 := 3) dL_law_674 rfl rfl rfl rfl rfl rfl (by decide) rfl (by decide) (ok_X10_clock hR  g282) ?_
        show mr X _ _ 677 _ [.long q281] (MM RR S0) _
        refine mr_pop2 (pc' := 678) dL_law_677 rfl ?_
        refine mr_aload_n (pc' := 679) dL_law_678 rfl rfl ?_
        refine mr_aload_n (pc' := 680) dL_law_679 rfl rfl ?_
        refine mr_iload_n (pc' := 681) dL_law_680 rfl rfl ?_
        refine mr_iconst (pc' := 682) (v := (1 : Int32)) dL_law_681 rfl (by decide) ?_
        refine mr_iadd (pc' := 683) dL_law_682 rfl ?_
        obtain ⟨a284, g285, h286⟩ := Option.bind_eq_some_iff.mp h283
        refine mr_xald (pc' := 684) hL dL_law_683 rfl g285 ?_
        refine mr_aload_n (pc' := 685) dL_law_684 rfl rfl ?_
        refine mr_iload_n (pc' := 686) dL_law_685 rfl rfl ?_
        refine mr_iconst (pc' := 687) (v := (2 : Int32)) dL_law_686 rfl (by decide) ?_
        refine mr_iadd (pc' := 688) dL_law_687 rfl ?_
        obtain ⟨a287, g288, h289⟩ := Option.bind_eq_some_iff.mp h286
        refine mr_xald (pc' := 689) hL dL_law_688 rfl g288 ?_
        refine mr_aload_n (pc' := 690) dL_law_689 rfl rfl ?_
        refine mr_iload_n (pc' := 691) dL_law_690 rfl rfl ?_
        refine mr_iconst (pc' := 692) (v := (3 : Int32)) dL_law_691 rfl (by decide) ?_
        refine mr_iadd (pc' := 693) dL_law_692 rfl ?_
        obtain ⟨a290, g291, h292⟩ := Option.bind_eq_some_iff.mp h289
        refine mr_xald (pc' := 694) hL dL_law_693 rfl g291 ?_
        obtain ⟨q293, g294, h295⟩ := Option.bind_eq_some_iff.mp h292
        refine mr_cv (pc' := 697) (a := 145) (d1 := 2) dL_law_694 rfl rfl rfl rfl rfl rfl (by decide) rfl (by decide) (ok_X11_clock hR  g294) ?_
        show mr X _ _ 697 _ [.long q293] (MM RR S0) _
        refine mr_pop2 (pc' := 698) dL_law_697 rfl ?_
        refine mr_goto (t := 1619) dL_law_698 (by decide) ?_
        refine mr_iinc (pc' := 1622) (x' := (p3 + (6 : Int32))) (lv' := [(3, .int (p3 + (6 : Int32))), (0, .ref mm_ext), (1, .ref 0), (2, .ref 145)]) dL_law_1619 rfl (by decide) rfl rfl rfl ?_
        refine mr_goto (t := 18) dL_law_1622 (by decide) ?_
        exact mr_sub [(0, .ref mm_ext), (1, .ref 0), (2, .ref 145), (3, .int (p3 + (6 : Int32)))] ⟨rfl, rfl, rfl, rfl, trivial⟩ rfl (ih _ _  h295)
      rw [if_neg c271] at h4
      by_cases c296 : (a2 &&& (63 : Int32)) = (15 : Int32)
      · rw [if_pos c296] at h4
        refine mr_sw_in (t := 701) (v := (15 : Int32)) dL_law_33 c296 rfl ?_
        refine mr_aload_n (pc' := 702) dL_law_701 rfl rfl ?_
        refine mr_aload_n (pc' := 703) dL_law_702 rfl rfl ?_
        refine mr_iload_n (pc' := 704) dL_law_703 rfl rfl ?_
        refine mr_iconst (pc' := 705) (v := (1 : Int32)) dL_law_704 rfl (by decide) ?_
        refine mr_iadd (pc' := 706) dL_law_705 rfl ?_
        obtain ⟨a297, g298, h299⟩ := Option.bind_eq_some_iff.mp h4
        refine mr_xald (pc' := 707) hL dL_law_706 rfl g298 ?_
        refine mr_aload_n (pc' := 708) dL_law_707 rfl rfl ?_
        refine mr_iload_n (pc' := 709) dL_law_708 rfl rfl ?_
        refine mr_iconst (pc' := 710) (v := (2 : Int32)) dL_law_709 rfl (by decide) ?_
        refine mr_iadd (pc' := 711) dL_law_710 rfl ?_
        obtain ⟨a300, g301, h302⟩ := Option.bind_eq_some_iff.mp h299
        refine mr_xald (pc' := 712) hL dL_law_711 rfl g301 ?_
        refine mr_aload_n (pc' := 713) dL_law_712 rfl rfl ?_
        refine mr_iload_n (pc' := 714) dL_law_713 rfl rfl ?_
        refine mr_iconst (pc' := 715) (v := (3 : Int32)) dL_law_714 rfl (by decide) ?_
        refine mr_iadd (pc' := 716) dL_law_715 rfl ?_
        obtain ⟨a303, g304, h305⟩ := Option.bind_eq_some_iff.mp h302
        refine mr_xald (pc' := 717) hL dL_law_716 rfl g304 ?_
        obtain ⟨q306, g307, h308⟩ := Option.bind_eq_some_iff.mp h305
        refine mr_cv (pc' := 720) (a := 0) (d1 := 3) dL_law_717 rfl rfl rfl rfl rfl rfl (by decide) rfl (by decide) (ok_X10_noons hR  g307) ?_
        show mr X _ _ 720 _ [.long q306] (MM RR S0) _
        refine mr_pop2 (pc' := 721) dL_law_720 rfl ?_
        refine mr_aload_n (pc' := 722) dL_law_721 rfl rfl ?_
        refine mr_aload_n (pc' := 723) dL_law_722 rfl rfl ?_
        refine mr_iload_n (pc' := 724) dL_law_723 rfl rfl ?_
        refine mr_iconst (pc' := 725) (v := (1 : Int32)) dL_law_724 rfl (by decide) ?_
        refine mr_iadd (pc' := 726) dL_law_725 rfl ?_
        obtain ⟨a309, g310, h311⟩ := Option.bind_eq_some_iff.mp h308
        refine mr_xald (pc' := 727) hL dL_law_726 rfl g310 ?_
        refine mr_aload_n (pc' := 728) dL_law_727 rfl rfl ?_
        refine mr_iload_n (pc' := 729) dL_law_728 rfl rfl ?_
        refine mr_iconst (pc' := 730) (v := (2 : Int32)) dL_law_729 rfl (by decide) ?_
        refine mr_iadd (pc' := 731) dL_law_730 rfl ?_
        obtain ⟨a312, g313, h314⟩ := Option.bind_eq_some_iff.mp h311
        refine mr_xald (pc' := 732) hL dL_law_731 rfl g313 ?_
        refine mr_aload_n (pc' := 733) dL_law_732 rfl rfl ?_
        refine mr_iload_n (pc' := 734) dL_law_733 rfl rfl ?_
        refine mr_iconst (pc' := 735) (v := (3 : Int32)) dL_law_734 rfl (by decide) ?_
        refine mr_iadd (pc' := 736) dL_law_735 rfl ?_
        obtain ⟨a315, g316, h317⟩ := Option.bind_eq_some_iff.mp h314
        refine mr_xald (pc' := 737) hL dL_law_736 rfl g316 ?_
        obtain ⟨q318, g319, h320⟩ := Option.bind_eq_some_iff.mp h317
        refine mr_cv (pc' := 740) (a := 145) (d1 := 2) dL_law_737 rfl rfl rfl rfl rfl rfl (by decide) rfl (by decide) (ok_X11_noons hR  g319) ?_
        show mr X _ _ 740 _ [.long q318] (MM RR S0) _
        refine mr_pop2 (pc' := 741) dL_law_740 rfl ?_
        refine mr_goto (t := 1619) dL_law_741 (by decide) ?_
        refine mr_iinc (pc' := 1622) (x' := (p3 + (6 : Int32))) (lv' := [(3, .int (p3 + (6 : Int32))), (0, .ref mm_ext), (1, .ref 0), (2, .ref 145)]) dL_law_1619 rfl (by decide) rfl rfl rfl ?_
        refine mr_goto (t := 18) dL_law_1622 (by decide) ?_
        exact mr_sub [(0, .ref mm_ext), (1, .ref 0), (2, .ref 145), (3, .int (p3 + (6 : Int32)))] ⟨rfl, rfl, rfl, rfl, trivial⟩ rfl (ih _ _  h320)
      rw [if_neg c296] at h4
      by_cases c321 : (a2 &&& (63 : Int32)) = (16 : Int32)
      · rw [if_pos c321] at h4
        refine mr_sw_in (t := 744) (v := (16 : Int32)) dL_law_33 c321 rfl ?_
        refine mr_aload_n (pc' := 745) dL_law_744 rfl rfl ?_
        refine mr_aload_n (pc' := 746) dL_law_745 rfl rfl ?_
        refine mr_iload_n (pc' := 747) dL_law_746 rfl rfl ?_
        refine mr_iconst (pc' := 748) (v := (1 : Int32)) dL_law_747 rfl (by decide) ?_
        refine mr_iadd (pc' := 749) dL_law_748 rfl ?_
        obtain ⟨a322, g323, h324⟩ := Option.bind_eq_some_iff.mp h4
        refine mr_xald (pc' := 750) hL dL_law_749 rfl g323 ?_
        refine mr_aload_n (pc' := 751) dL_law_750 rfl rfl ?_
        refine mr_iload_n (pc' := 752) dL_law_751 rfl rfl ?_
        refine mr_iconst (pc' := 753) (v := (2 : Int32)) dL_law_752 rfl (by decide) ?_
        refine mr_iadd (pc' := 754) dL_law_753 rfl ?_
        obtain ⟨a325, g326, h327⟩ := Option.bind_eq_some_iff.mp h324
        refine mr_xald (pc' := 755) hL dL_law_754 rfl g326 ?_
        refine mr_aload_n (pc' := 756) dL_law_755 rfl rfl ?_
        refine mr_iload_n (pc' := 757) dL_law_756 rfl rfl ?_
        refine mr_iconst (pc' := 758) (v := (3 : Int32)) dL_law_757 rfl (by decide) ?_
        refine mr_iadd (pc' := 759) dL_law_758 rfl ?_
        obtain ⟨a328, g329, h330⟩ := Option.bind_eq_some_iff.mp h327
        refine mr_xald (pc' := 760) hL dL_law_759 rfl g329 ?_
        refine mr_aload_n (pc' := 761) dL_law_760 rfl rfl ?_
        refine mr_iload_n (pc' := 762) dL_law_761 rfl rfl ?_
        refine mr_iconst (pc' := 763) (v := (4 : Int32)) dL_law_762 rfl (by decide) ?_
        refine mr_iadd (pc' := 764) dL_law_763 rfl ?_
        obtain ⟨a331, g332, h333⟩ := Option.bind_eq_some_iff.mp h330
        refine mr_xald (pc' := 765) hL dL_law_764 rfl g332 ?_
        by_cases c334 : a331 = (0 : Int32)
        · rw [if_pos c334] at h333
          refine mr_if_eq_t (t := 772) dL_law_765 (by decide) c334 ?_
          refine mr_iconst (pc' := 773) (v := (0 : Int32)) dL_law_772 rfl (by decide) ?_
          refine mr_aload_n (pc' := 774) dL_law_773 rfl rfl ?_
          refine mr_iload_n (pc' := 775) dL_law_774 rfl rfl ?_
          refine mr_iconst (pc' := 776) (v := (5 : Int32)) dL_law_775 rfl (by decide) ?_
          refine mr_iadd (pc' := 777) dL_law_776 rfl ?_
          obtain ⟨a335, g336, h337⟩ := Option.bind_eq_some_iff.mp h333
          refine mr_xald (pc' := 778) hL dL_law_777 rfl g336 ?_
          obtain ⟨q338, g339, h340⟩ := Option.bind_eq_some_iff.mp h337
          refine mr_cv (pc' := 781) (a := 0) (d1 := 4) dL_law_778 rfl rfl rfl rfl rfl rfl (by decide) rfl (by decide) (ok_X10_plan hR  g339) ?_
          show mr X _ _ 781 _ [.long q338.1] (MM RR q338.2) _
          refine mr_pop2 (pc' := 782) dL_law_781 rfl ?_
          refine mr_aload_n (pc' := 783) dL_law_782 rfl rfl ?_
          refine mr_aload_n (pc' := 784) dL_law_783 rfl rfl ?_
          refine mr_iload_n (pc' := 785) dL_law_784 rfl rfl ?_
          refine mr_iconst (pc' := 786) (v := (1 : Int32)) dL_law_785 rfl (by decide) ?_
          refine mr_iadd (pc' := 787) dL_law_786 rfl ?_
          obtain ⟨a341, g342, h343⟩ := Option.bind_eq_some_iff.mp h340
          refine mr_xald (pc' := 788) hL dL_law_787 rfl g342 ?_
          refine mr_aload_n (pc' := 789) dL_law_788 rfl rfl ?_
          refine mr_iload_n (pc' := 790) dL_law_789 rfl rfl ?_
          refine mr_iconst (pc' := 791) (v := (2 : Int32)) dL_law_790 rfl (by decide) ?_
          refine mr_iadd (pc' := 792) dL_law_791 rfl ?_
          obtain ⟨a344, g345, h346⟩ := Option.bind_eq_some_iff.mp h343
          refine mr_xald (pc' := 793) hL dL_law_792 rfl g345 ?_
          refine mr_aload_n (pc' := 794) dL_law_793 rfl rfl ?_
          refine mr_iload_n (pc' := 795) dL_law_794 rfl rfl ?_
          refine mr_iconst (pc' := 796) (v := (3 : Int32)) dL_law_795 rfl (by decide) ?_
          refine mr_iadd (pc' := 797) dL_law_796 rfl ?_
          obtain ⟨a347, g348, h349⟩ := Option.bind_eq_some_iff.mp h346
          refine mr_xald (pc' := 798) hL dL_law_797 rfl g348 ?_
          refine mr_aload_n (pc' := 799) dL_law_798 rfl rfl ?_
          refine mr_iload_n (pc' := 800) dL_law_799 rfl rfl ?_
          refine mr_iconst (pc' := 801) (v := (4 : Int32)) dL_law_800 rfl (by decide) ?_
          refine mr_iadd (pc' := 802) dL_law_801 rfl ?_
          obtain ⟨a350, g351, h352⟩ := Option.bind_eq_some_iff.mp h349
          refine mr_xald (pc' := 803) hL dL_law_802 rfl g351 ?_
          by_cases c353 : a350 = (0 : Int32)
          · rw [if_pos c353] at h352
            refine mr_if_eq_t (t := 810) dL_law_803 (by decide) c353 ?_
            refine mr_iconst (pc' := 811) (v := (0 : Int32)) dL_law_810 rfl (by decide) ?_
            refine mr_aload_n (pc' := 812) dL_law_811 rfl rfl ?_
            refine mr_iload_n (pc' := 813) dL_law_812 rfl rfl ?_
            refine mr_iconst (pc' := 814) (v := (5 : Int32)) dL_law_813 rfl (by decide) ?_
            refine mr_iadd (pc' := 815) dL_law_814 rfl ?_
            obtain ⟨a354, g355, h356⟩ := Option.bind_eq_some_iff.mp h352
            refine mr_xald (pc' := 816) hL dL_law_815 rfl g355 ?_
            obtain ⟨q357, g358, h359⟩ := Option.bind_eq_some_iff.mp h356
            refine mr_cv (pc' := 819) (a := 145) (d1 := 4) dL_law_816 rfl rfl rfl rfl rfl rfl (by decide) rfl (by decide) (ok_X11_plan hR  g358) ?_
            show mr X _ _ 819 _ [.long q357.1] (MM RR q357.2) _
            refine mr_pop2 (pc' := 820) dL_law_819 rfl ?_
            refine mr_goto (t := 1619) dL_law_820 (by decide) ?_
            refine mr_iinc (pc' := 1622) (x' := (p3 + (6 : Int32))) (lv' := [(3, .int (p3 + (6 : Int32))), (0, .ref mm_ext), (1, .ref 0), (2, .ref 145)]) dL_law_1619 rfl (by decide) rfl rfl rfl ?_
            refine mr_goto (t := 18) dL_law_1622 (by decide) ?_
            exact mr_sub [(0, .ref mm_ext), (1, .ref 0), (2, .ref 145), (3, .int (p3 + (6 : Int32)))] ⟨rfl, rfl, rfl, rfl, trivial⟩ rfl (ih _ _  h359)
          · rw [if_neg c353] at h352
            refine mr_if_eq_f (t := 810) (pc' := 806) dL_law_803 (by decide) rfl c353 ?_
            refine mr_iconst (pc' := 807) (v := (1 : Int32)) dL_law_806 rfl (by decide) ?_
            refine mr_goto (t := 811) dL_law_807 (by decide) ?_
            refine mr_aload_n (pc' := 812) dL_law_811 rfl rfl ?_
            refine mr_iload_n (pc' := 813) dL_law_812 rfl rfl ?_
            refine mr_iconst (pc' := 814) (v := (5 : Int32)) dL_law_813 rfl (by decide) ?_
            refine mr_iadd (pc' := 815) dL_law_814 rfl ?_
            obtain ⟨a360, g361, h362⟩ := Option.bind_eq_some_iff.mp h352
            refine mr_xald (pc' := 816) hL dL_law_815 rfl g361 ?_
            obtain ⟨q363, g364, h365⟩ := Option.bind_eq_some_iff.mp h362
            refine mr_cv (pc' := 819) (a := 145) (d1 := 4) dL_law_816 rfl rfl rfl rfl rfl rfl (by decide) rfl (by decide) (ok_X11_plan hR  g364) ?_
            show mr X _ _ 819 _ [.long q363.1] (MM RR q363.2) _
            refine mr_pop2 (pc' := 820) dL_law_819 rfl ?_
            refine mr_goto (t := 1619) dL_law_820 (by decide) ?_
            refine mr_iinc (pc' := 1622) (x' := (p3 + (6 : Int32))) (lv' := [(3, .int (p3 + (6 : Int32))), (0, .ref mm_ext), (1, .ref 0), (2, .ref 145)]) dL_law_1619 rfl (by decide) rfl rfl rfl ?_
            refine mr_goto (t := 18) dL_law_1622 (by decide) ?_
            exact mr_sub [(0, .ref mm_ext), (1, .ref 0), (2, .ref 145), (3, .int (p3 + (6 : Int32)))] ⟨rfl, rfl, rfl, rfl, trivial⟩ rfl (ih _ _  h365)
        · rw [if_neg c334] at h333
          refine mr_if_eq_f (t := 772) (pc' := 768) dL_law_765 (by decide) rfl c334 ?_
          refine mr_iconst (pc' := 769) (v := (1 : Int32)) dL_law_768 rfl (by decide) ?_
          refine mr_goto (t := 773) dL_law_769 (by decide) ?_
          refine mr_aload_n (pc' := 774) dL_law_773 rfl rfl ?_
          refine mr_iload_n (pc' := 775) dL_law_774 rfl rfl ?_
          refine mr_iconst (pc' := 776) (v := (5 : Int32)) dL_law_775 rfl (by decide) ?_
          refine mr_iadd (pc' := 777) dL_law_776 rfl ?_
          obtain ⟨a366, g367, h368⟩ := Option.bind_eq_some_iff.mp h333
          refine mr_xald (pc' := 778) hL dL_law_777 rfl g367 ?_
          obtain ⟨q369, g370, h371⟩ := Option.bind_eq_some_iff.mp h368
          refine mr_cv (pc' := 781) (a := 0) (d1 := 4) dL_law_778 rfl rfl rfl rfl rfl rfl (by decide) rfl (by decide) (ok_X10_plan hR  g370) ?_
          show mr X _ _ 781 _ [.long q369.1] (MM RR q369.2) _
          refine mr_pop2 (pc' := 782) dL_law_781 rfl ?_
          refine mr_aload_n (pc' := 783) dL_law_782 rfl rfl ?_
          refine mr_aload_n (pc' := 784) dL_law_783 rfl rfl ?_
          refine mr_iload_n (pc' := 785) dL_law_784 rfl rfl ?_
          refine mr_iconst (pc' := 786) (v := (1 : Int32)) dL_law_785 rfl (by decide) ?_
          refine mr_iadd (pc' := 787) dL_law_786 rfl ?_
          obtain ⟨a372, g373, h374⟩ := Option.bind_eq_some_iff.mp h371
          refine mr_xald (pc' := 788) hL dL_law_787 rfl g373 ?_
          refine mr_aload_n (pc' := 789) dL_law_788 rfl rfl ?_
          refine mr_iload_n (pc' := 790) dL_law_789 rfl rfl ?_
          refine mr_iconst (pc' := 791) (v := (2 : Int32)) dL_law_790 rfl (by decide) ?_
          refine mr_iadd (pc' := 792) dL_law_791 rfl ?_
          obtain ⟨a375, g376, h377⟩ := Option.bind_eq_some_iff.mp h374
          refine mr_xald (pc' := 793) hL dL_law_792 rfl g376 ?_
          refine mr_aload_n (pc' := 794) dL_law_793 rfl rfl ?_
          refine mr_iload_n (pc' := 795) dL_law_794 rfl rfl ?_
          refine mr_iconst (pc' := 796) (v := (3 : Int32)) dL_law_795 rfl (by decide) ?_
          refine mr_iadd (pc' := 797) dL_law_796 rfl ?_
          obtain ⟨a378, g379, h380⟩ := Option.bind_eq_some_iff.mp h377
          refine mr_xald (pc' := 798) hL dL_law_797 rfl g379 ?_
          refine mr_aload_n (pc' := 799) dL_law_798 rfl rfl ?_
          refine mr_iload_n (pc' := 800) dL_law_799 rfl rfl ?_
          refine mr_iconst (pc' := 801) (v := (4 : Int32)) dL_law_800 rfl (by decide) ?_
          refine mr_iadd (pc' := 802) dL_law_801 rfl ?_
          obtain ⟨a381, g382, h383⟩ := Option.bind_eq_some_iff.mp h380
          refine mr_xald (pc' := 803) hL dL_law_802 rfl g382 ?_
          by_cases c384 : a381 = (0 : Int32)
          · rw [if_pos c384] at h383
            refine mr_if_eq_t (t := 810) dL_law_803 (by decide) c384 ?_
            refine mr_iconst (pc' := 811) (v := (0 : Int32)) dL_law_810 rfl (by decide) ?_
            refine mr_aload_n (pc' := 812) dL_law_811 rfl rfl ?_
            refine mr_iload_n (pc' := 813) dL_law_812 rfl rfl ?_
            refine mr_iconst (pc' := 814) (v := (5 : Int32)) dL_law_813 rfl (by decide) ?_
            refine mr_iadd (pc' := 815) dL_law_814 rfl ?_
            obtain ⟨a385, g386, h387⟩ := Option.bind_eq_some_iff.mp h383
            refine mr_xald (pc' := 816) hL dL_law_815 rfl g386 ?_
            obtain ⟨q388, g389, h390⟩ := Option.bind_eq_some_iff.mp h387
            refine mr_cv (pc' := 819) (a := 145) (d1 := 4) dL_law_816 rfl rfl rfl rfl rfl rfl (by decide) rfl (by decide) (ok_X11_plan hR  g389) ?_
            show mr X _ _ 819 _ [.long q388.1] (MM RR q388.2) _
            refine mr_pop2 (pc' := 820) dL_law_819 rfl ?_
            refine mr_goto (t := 1619) dL_law_820 (by decide) ?_
            refine mr_iinc (pc' := 1622) (x' := (p3 + (6 : Int32))) (lv' := [(3, .int (p3 + (6 : Int32))), (0, .ref mm_ext), (1, .ref 0), (2, .ref 145)]) dL_law_1619 rfl (by decide) rfl rfl rfl ?_
            refine mr_goto (t := 18) dL_law_1622 (by decide) ?_
            exact mr_sub [(0, .ref mm_ext), (1, .ref 0), (2, .ref 145), (3, .int (p3 + (6 : Int32)))] ⟨rfl, rfl, rfl, rfl, trivial⟩ rfl (ih _ _  h390)
          · rw [if_neg c384] at h383
            refine mr_if_eq_f (t := 810) (pc' := 806) dL_law_803 (by decide) rfl c384 ?_
            refine mr_iconst (pc' := 807) (v := (1 : Int32)) dL_law_806 rfl (by decide) ?_
            refine mr_goto (t := 811) dL_law_807 (by decide) ?_
            refine mr_aload_n (pc' := 812) dL_law_811 rfl rfl ?_
            refine mr_iload_n (pc' := 813) dL_law_812 rfl rfl ?_
            refine mr_iconst (pc' := 814) (v := (5 : Int32)) dL_law_813 rfl (by decide) ?_
            refine mr_iadd (pc' := 815) dL_law_814 rfl ?_
            obtain ⟨a391, g392, h393⟩ := Option.bind_eq_some_iff.mp h383
            refine mr_xald (pc' := 816) hL dL_law_815 rfl g392 ?_
            obtain ⟨q394, g395, h396⟩ := Option.bind_eq_some_iff.mp h393
            refine mr_cv (pc' := 819) (a := 145) (d1 := 4) dL_law_816 rfl rfl rfl rfl rfl rfl (by decide) rfl (by decide) (ok_X11_plan hR  g395) ?_
            show mr X _ _ 819 _ [.long q394.1] (MM RR q394.2) _
            refine mr_pop2 (pc' := 820) dL_law_819 rfl ?_
            refine mr_goto (t := 1619) dL_law_820 (by decide) ?_
            refine mr_iinc (pc' := 1622) (x' := (p3 + (6 : Int32))) (lv' := [(3, .int (p3 + (6 : Int32))), (0, .ref mm_ext), (1, .ref 0), (2, .ref 145)]) dL_law_1619 rfl (by decide) rfl rfl rfl ?_
            refine mr_goto (t := 18) dL_law_1622 (by decide) ?_
            exact mr_sub [(0, .ref mm_ext), (1, .ref 0), (2, .ref 145), (3, .int (p3 + (6 : Int32)))] ⟨rfl, rfl, rfl, rfl, trivial⟩ rfl (ih _ _  h396)
      rw [if_neg c321] at h4
      by_cases c397 : (a2 &&& (63 : Int32)) = (17 : Int32)
      · rw [if_pos c397] at h4
        refine mr_sw_in (t := 823) (v := (17 : Int32)) dL_law_33 c397 rfl ?_
        refine mr_aload_n (pc' := 824) dL_law_823 rfl rfl ?_
        refine mr_aload_n (pc' := 825) dL_law_824 rfl rfl ?_
        refine mr_iload_n (pc' := 826) dL_law_825 rfl rfl ?_
        refine mr_iconst (pc' := 827) (v := (1 : Int32)) dL_law_826 rfl (by decide) ?_
        refine mr_iadd (pc' := 828) dL_law_827 rfl ?_
        obtain ⟨a398, g399, h400⟩ := Option.bind_eq_some_iff.mp h4
        refine mr_xald (pc' := 829) hL dL_law_828 rfl g399 ?_
        refine mr_aload_n (pc' := 830) dL_law_829 rfl rfl ?_
        refine mr_iload_n (pc' := 831) dL_law_830 rfl rfl ?_
        refine mr_iconst (pc' := 832) (v := (2 : Int32)) dL_law_831 rfl (by decide) ?_
        refine mr_iadd (pc' := 833) dL_law_832 rfl ?_
        obtain ⟨a401, g402, h403⟩ := Option.bind_eq_some_iff.mp h400
        refine mr_xald (pc' := 834) hL dL_law_833 rfl g402 ?_
        refine mr_aload_n (pc' := 835) dL_law_834 rfl rfl ?_
        refine mr_iload_n (pc' := 836) dL_law_835 rfl rfl ?_
        refine mr_iconst (pc' := 837) (v := (3 : Int32)) dL_law_836 rfl (by decide) ?_
        refine mr_iadd (pc' := 838) dL_law_837 rfl ?_
        obtain ⟨a404, g405, h406⟩ := Option.bind_eq_some_iff.mp h403
        refine mr_xald (pc' := 839) hL dL_law_838 rfl g405 ?_
        refine mr_aload_n (pc' := 840) dL_law_839 rfl rfl ?_
        refine mr_iload_n (pc' := 841) dL_law_840 rfl rfl ?_
        refine mr_iconst (pc' := 842) (v := (4 : Int32)) dL_law_841 rfl (by decide) ?_
        refine mr_iadd (pc' := 843) dL_law_842 rfl ?_
        obtain ⟨a407, g408, h409⟩ := Option.bind_eq_some_iff.mp h406
        refine mr_xald (pc' := 844) hL dL_law_843 rfl g408 ?_
        refine mr_aload_n (pc' := 845) dL_law_844 rfl rfl ?_
        refine mr_iload_n (pc' := 846) dL_law_845 rfl rfl ?_
        refine mr_iconst (pc' := 847) (v := (5 : Int32)) dL_law_846 rfl (by decide) ?_
        refine mr_iadd (pc' := 848) dL_law_847 rfl ?_
        obtain ⟨a410, g411, h412⟩ := Option.bind_eq_some_iff.mp h409
        refine mr_xald (pc' := 849) hL dL_law_848 rfl g411 ?_
        obtain ⟨q413, g414, h415⟩ := Option.bind_eq_some_iff.mp h412
        refine mr_cv (pc' := 852) (a := 0) (d1 := 3) dL_law_849 rfl rfl rfl rfl rfl rfl (by decide) rfl (by decide) (ok_X10_even hR  g414) ?_
        show mr X _ _ 852 _ [.long q413] (MM RR S0) _
        refine mr_pop2 (pc' := 853) dL_law_852 rfl ?_
        refine mr_aload_n (pc' := 854) dL_law_853 rfl rfl ?_
        refine mr_aload_n (pc' := 855) dL_law_854 rfl rfl ?_
        refine mr_iload_n (pc' := 856) dL_law_855 rfl rfl ?_
        refine mr_iconst (pc' := 857) (v := (1 : Int32)) dL_law_856 rfl (by decide) ?_
        refine mr_iadd (pc' := 858) dL_law_857 rfl ?_
        obtain ⟨a416, g417, h418⟩ := Option.bind_eq_some_iff.mp h415
        refine mr_xald (pc' := 859) hL dL_law_858 rfl g417 ?_
        refine mr_aload_n (pc' := 860) dL_law_859 rfl rfl ?_
        refine mr_iload_n (pc' := 861) dL_law_860 rfl rfl ?_
        refine mr_iconst (pc' := 862) (v := (2 : Int32)) dL_law_861 rfl (by decide) ?_
        refine mr_iadd (pc' := 863) dL_law_862 rfl ?_
        obtain ⟨a419, g420, h421⟩ := Option.bind_eq_some_iff.mp h418
        refine mr_xald (pc' := 864) hL dL_law_863 rfl g420 ?_
        refine mr_aload_n (pc' := 865) dL_law_864 rfl rfl ?_
        refine mr_iload_n (pc' := 866) dL_law_865 rfl rfl ?_
        refine mr_iconst (pc' := 867) (v := (3 : Int32)) dL_law_866 rfl (by decide) ?_
        refine mr_iadd (pc' := 868) dL_law_867 rfl ?_
        obtain ⟨a422, g423, h424⟩ := Option.bind_eq_some_iff.mp h421
        refine mr_xald (pc' := 869) hL dL_law_868 rfl g423 ?_
        refine mr_aload_n (pc' := 870) dL_law_869 rfl rfl ?_
        refine mr_iload_n (pc' := 871) dL_law_870 rfl rfl ?_
        refine mr_iconst (pc' := 872) (v := (4 : Int32)) dL_law_871 rfl (by decide) ?_
        refine mr_iadd (pc' := 873) dL_law_872 rfl ?_
        obtain ⟨a425, g426, h427⟩ := Option.bind_eq_some_iff.mp h424
        refine mr_xald (pc' := 874) hL dL_law_873 rfl g426 ?_
        refine mr_aload_n (pc' := 875) dL_law_874 rfl rfl ?_
        refine mr_iload_n (pc' := 876) dL_law_875 rfl rfl ?_
        refine mr_iconst (pc' := 877) (v := (5 : Int32)) dL_law_876 rfl (by decide) ?_
        refine mr_iadd (pc' := 878) dL_law_877 rfl ?_
        obtain ⟨a428, g429, h430⟩ := Option.bind_eq_some_iff.mp h427
        refine mr_xald (pc' := 879) hL dL_law_878 rfl g429 ?_
        obtain ⟨q431, g432, h433⟩ := Option.bind_eq_some_iff.mp h430
        refine mr_cv (pc' := 882) (a := 145) (d1 := 1) dL_law_879 rfl rfl rfl rfl rfl rfl (by decide) rfl (by decide) (ok_X11_even hR  g432) ?_
        show mr X _ _ 882 _ [.long q431] (MM RR S0) _
        refine mr_pop2 (pc' := 883) dL_law_882 rfl ?_
        refine mr_goto (t := 1619) dL_law_883 (by decide) ?_
        refine mr_iinc (pc' := 1622) (x' := (p3 + (6 : Int32))) (lv' := [(3, .int (p3 + (6 : Int32))), (0, .ref mm_ext), (1, .ref 0), (2, .ref 145)]) dL_law_1619 rfl (by decide) rfl rfl rfl ?_
        refine mr_goto (t := 18) dL_law_1622 (by decide) ?_
        exact mr_sub [(0, .ref mm_ext), (1, .ref 0), (2, .ref 145), (3, .int (p3 + (6 : Int32)))] ⟨rfl, rfl, rfl, rfl, trivial⟩ rfl (ih _ _  h433)
      rw [if_neg c397] at h4
      by_cases c434 : (a2 &&& (63 : Int32)) = (18 : Int32)
      · rw [if_pos c434] at h4
        refine mr_sw_in (t := 886) (v := (18 : Int32)) dL_law_33 c434 rfl ?_
        refine mr_aload_n (pc' := 887) dL_law_886 rfl rfl ?_
        refine mr_aload_n (pc' := 888) dL_law_887 rfl rfl ?_
        refine mr_iload_n (pc' := 889) dL_law_888 rfl rfl ?_
        refine mr_iconst (pc' := 890) (v := (1 : Int32)) dL_law_889 rfl (by decide) ?_
        refine mr_iadd (pc' := 891) dL_law_890 rfl ?_
        obtain ⟨a435, g436, h437⟩ := Option.bind_eq_some_iff.mp h4
        refine mr_xald (pc' := 892) hL dL_law_891 rfl g436 ?_
        refine mr_aload_n (pc' := 893) dL_law_892 rfl rfl ?_
        refine mr_iload_n (pc' := 894) dL_law_893 rfl rfl ?_
        refine mr_iconst (pc' := 895) (v := (2 : Int32)) dL_law_894 rfl (by decide) ?_
        refine mr_iadd (pc' := 896) dL_law_895 rfl ?_
        obtain ⟨a438, g439, h440⟩ := Option.bind_eq_some_iff.mp h437
        refine mr_xald (pc' := 897) hL dL_law_896 rfl g439 ?_
        refine mr_aload_n (pc' := 898) dL_law_897 rfl rfl ?_
        refine mr_iload_n (pc' := 899) dL_law_898 rfl rfl ?_
        refine mr_iconst (pc' := 900) (v := (3 : Int32)) dL_law_899 rfl (by decide) ?_
        refine mr_iadd (pc' := 901) dL_law_900 rfl ?_
        obtain ⟨a441, g442, h443⟩ := Option.bind_eq_some_iff.mp h440
        refine mr_xald (pc' := 902) hL dL_law_901 rfl g442 ?_
        refine mr_aload_n (pc' := 903) dL_law_902 rfl rfl ?_
        refine mr_iload_n (pc' := 904) dL_law_903 rfl rfl ?_
        refine mr_iconst (pc' := 905) (v := (4 : Int32)) dL_law_904 rfl (by decide) ?_
        refine mr_iadd (pc' := 906) dL_law_905 rfl ?_
        obtain ⟨a444, g445, h446⟩ := Option.bind_eq_some_iff.mp h443
        refine mr_xald (pc' := 907) hL dL_law_906 rfl g445 ?_
        refine mr_aload_n (pc' := 908) dL_law_907 rfl rfl ?_
        refine mr_iload_n (pc' := 909) dL_law_908 rfl rfl ?_
        refine mr_iconst (pc' := 910) (v := (5 : Int32)) dL_law_909 rfl (by decide) ?_
        refine mr_iadd (pc' := 911) dL_law_910 rfl ?_
        obtain ⟨a447, g448, h449⟩ := Option.bind_eq_some_iff.mp h446
        refine mr_xald (pc' := 912) hL dL_law_911 rfl g448 ?_
        obtain ⟨q450, g451, h452⟩ := Option.bind_eq_some_iff.mp h449
        refine mr_cv (pc' := 915) (a := 0) (d1 := 4) dL_law_912 rfl rfl rfl rfl rfl rfl (by decide) rfl (by decide) (ok_X10_ripe hR  g451) ?_
        show mr X _ _ 915 _ [.int q450.1] (MM RR q450.2) _
        refine mr_pop_int (pc' := 916) dL_law_915 rfl ?_
        refine mr_aload_n (pc' := 917) dL_law_916 rfl rfl ?_
        refine mr_aload_n (pc' := 918) dL_law_917 rfl rfl ?_
        refine mr_iload_n (pc' := 919) dL_law_918 rfl rfl ?_
        refine mr_iconst (pc' := 920) (v := (1 : Int32)) dL_law_919 rfl (by decide) ?_
        refine mr_iadd (pc' := 921) dL_law_920 rfl ?_
        obtain ⟨a453, g454, h455⟩ := Option.bind_eq_some_iff.mp h452
        refine mr_xald (pc' := 922) hL dL_law_921 rfl g454 ?_
        refine mr_aload_n (pc' := 923) dL_law_922 rfl rfl ?_
        refine mr_iload_n (pc' := 924) dL_law_923 rfl rfl ?_
        refine mr_iconst (pc' := 925) (v := (2 : Int32)) dL_law_924 rfl (by decide) ?_
        refine mr_iadd (pc' := 926) dL_law_925 rfl ?_
        obtain ⟨a456, g457, h458⟩ := Option.bind_eq_some_iff.mp h455
        refine mr_xald (pc' := 927) hL dL_law_926 rfl g457 ?_
        refine mr_aload_n (pc' := 928) dL_law_927 rfl rfl ?_
        refine mr_iload_n (pc' := 929) dL_law_928 rfl rfl ?_
        refine mr_iconst (pc' := 930) (v := (3 : Int32)) dL_law_929 rfl (by decide) ?_
        refine mr_iadd (pc' := 931) dL_law_930 rfl ?_
        obtain ⟨a459, g460, h461⟩ := Option.bind_eq_some_iff.mp h458
        refine mr_xald (pc' := 932) hL dL_law_931 rfl g460 ?_
        refine mr_aload_n (pc' := 933) dL_law_932 rfl rfl ?_
        refine mr_iload_n (pc' := 934) dL_law_933 rfl rfl ?_
        refine mr_iconst (pc' := 935) (v := (4 : Int32)) dL_law_934 rfl (by decide) ?_
        refine mr_iadd (pc' := 936) dL_law_935 rfl ?_
        obtain ⟨a462, g463, h464⟩ := Option.bind_eq_some_iff.mp h461
        refine mr_xald (pc' := 937) hL dL_law_936 rfl g463 ?_
        refine mr_aload_n (pc' := 938) dL_law_937 rfl rfl ?_
        refine mr_iload_n (pc' := 939) dL_law_938 rfl rfl ?_
        refine mr_iconst (pc' := 940) (v := (5 : Int32)) dL_law_939 rfl (by decide) ?_
        refine mr_iadd (pc' := 941) dL_law_940 rfl ?_
        obtain ⟨a465, g466, h467⟩ := Option.bind_eq_some_iff.mp h464
        refine mr_xald (pc' := 942) hL dL_law_941 rfl g466 ?_
        obtain ⟨q468, g469, h470⟩ := Option.bind_eq_some_iff.mp h467
        refine mr_cv (pc' := 945) (a := 145) (d1 := 3) dL_law_942 rfl rfl rfl rfl rfl rfl (by decide) rfl (by decide) (ok_X11_ripe hR  g469) ?_
        show mr X _ _ 945 _ [.int q468.1] (MM RR q468.2) _
        refine mr_pop_int (pc' := 946) dL_law_945 rfl ?_
        refine mr_goto (t := 1619) dL_law_946 (by decide) ?_
        refine mr_iinc (pc' := 1622) (x' := (p3 + (6 : Int32))) (lv' := [(3, .int (p3 + (6 : Int32))), (0, .ref mm_ext), (1, .ref 0), (2, .ref 145)]) dL_law_1619 rfl (by decide) rfl rfl rfl ?_
        refine mr_goto (t := 18) dL_law_1622 (by decide) ?_
        exact mr_sub [(0, .ref mm_ext), (1, .ref 0), (2, .ref 145), (3, .int (p3 + (6 : Int32)))] ⟨rfl, rfl, rfl, rfl, trivial⟩ rfl (ih _ _  h470)
      rw [if_neg c434] at h4
      by_cases c471 : (a2 &&& (63 : Int32)) = (19 : Int32)
      · rw [if_pos c471] at h4
        refine mr_sw_in (t := 949) (v := (19 : Int32)) dL_law_33 c471 rfl ?_
        refine mr_aload_n (pc' := 950) dL_law_949 rfl rfl ?_
        refine mr_aload_n (pc' := 951) dL_law_950 rfl rfl ?_
        refine mr_iload_n (pc' := 952) dL_law_951 rfl rfl ?_
        refine mr_iconst (pc' := 953) (v := (1 : Int32)) dL_law_952 rfl (by decide) ?_
        refine mr_iadd (pc' := 954) dL_law_953 rfl ?_
        obtain ⟨a472, g473, h474⟩ := Option.bind_eq_some_iff.mp h4
        refine mr_xald (pc' := 955) hL dL_law_954 rfl g473 ?_
        refine mr_aload_n (pc' := 956) dL_law_955 rfl rfl ?_
        refine mr_iload_n (pc' := 957) dL_law_956 rfl rfl ?_
        refine mr_iconst (pc' := 958) (v := (2 : Int32)) dL_law_957 rfl (by decide) ?_
        refine mr_iadd (pc' := 959) dL_law_958 rfl ?_
        obtain ⟨a475, g476, h477⟩ := Option.bind_eq_some_iff.mp h474
        refine mr_xald (pc' := 960) hL dL_law_959 rfl g476 ?_
        refine mr_aload_n (pc' := 961) dL_law_960 rfl rfl ?_
        refine mr_iload_n (pc' := 962) dL_law_961 rfl rfl ?_
        refine mr_iconst (pc' := 963) (v := (3 : Int32)) dL_law_962 rfl (by decide) ?_
        refine mr_iadd (pc' := 964) dL_law_963 rfl ?_
        obtain ⟨a478, g479, h480⟩ := Option.bind_eq_some_iff.mp h477
        refine mr_xald (pc' := 965) hL dL_law_964 rfl g479 ?_
        refine mr_aload_n (pc' := 966) dL_law_965 rfl rfl ?_
        refine mr_iload_n (pc' := 967) dL_law_966 rfl rfl ?_
        refine mr_iconst (pc' := 968) (v := (4 : Int32)) dL_law_967 rfl (by decide) ?_
        refine mr_iadd (pc' := 969) dL_law_968 rfl ?_
        obtain ⟨a481, g482, h483⟩ := Option.bind_eq_some_iff.mp h480
        refine mr_xald (pc' := 970) hL dL_law_969 rfl g482 ?_
        refine mr_aload_n (pc' := 971) dL_law_970 rfl rfl ?_
        refine mr_iload_n (pc' := 972) dL_law_971 rfl rfl ?_
        refine mr_iconst (pc' := 973) (v := (5 : Int32)) dL_law_972 rfl (by decide) ?_
        refine mr_iadd (pc' := 974) dL_law_973 rfl ?_
        obtain ⟨a484, g485, h486⟩ := Option.bind_eq_some_iff.mp h483
        refine mr_xald (pc' := 975) hL dL_law_974 rfl g485 ?_
        obtain ⟨q487, g488, h489⟩ := Option.bind_eq_some_iff.mp h486
        refine mr_cv (pc' := 978) (a := 0) (d1 := 3) dL_law_975 rfl rfl rfl rfl rfl rfl (by decide) rfl (by decide) (ok_X10_owed hR  g488) ?_
        show mr X _ _ 978 _ [.long q487] (MM RR S0) _
        refine mr_pop2 (pc' := 979) dL_law_978 rfl ?_
        refine mr_aload_n (pc' := 980) dL_law_979 rfl rfl ?_
        refine mr_aload_n (pc' := 981) dL_law_980 rfl rfl ?_
        refine mr_iload_n (pc' := 982) dL_law_981 rfl rfl ?_
        refine mr_iconst (pc' := 983) (v := (1 : Int32)) dL_law_982 rfl (by decide) ?_
        refine mr_iadd (pc' := 984) dL_law_983 rfl ?_
        obtain ⟨a490, g491, h492⟩ := Option.bind_eq_some_iff.mp h489
        refine mr_xald (pc' := 985) hL dL_law_984 rfl g491 ?_
        refine mr_aload_n (pc' := 986) dL_law_985 rfl rfl ?_
        refine mr_iload_n (pc' := 987) dL_law_986 rfl rfl ?_
        refine mr_iconst (pc' := 988) (v := (2 : Int32)) dL_law_987 rfl (by decide) ?_
        refine mr_iadd (pc' := 989) dL_law_988 rfl ?_
        obtain ⟨a493, g494, h495⟩ := Option.bind_eq_some_iff.mp h492
        refine mr_xald (pc' := 990) hL dL_law_989 rfl g494 ?_
        refine mr_aload_n (pc' := 991) dL_law_990 rfl rfl ?_
        refine mr_iload_n (pc' := 992) dL_law_991 rfl rfl ?_
        refine mr_iconst (pc' := 993) (v := (3 : Int32)) dL_law_992 rfl (by decide) ?_
        refine mr_iadd (pc' := 994) dL_law_993 rfl ?_
        obtain ⟨a496, g497, h498⟩ := Option.bind_eq_some_iff.mp h495
        refine mr_xald (pc' := 995) hL dL_law_994 rfl g497 ?_
        refine mr_aload_n (pc' := 996) dL_law_995 rfl rfl ?_
        refine mr_iload_n (pc' := 997) dL_law_996 rfl rfl ?_
        refine mr_iconst (pc' := 998) (v := (4 : Int32)) dL_law_997 rfl (by decide) ?_
        refine mr_iadd (pc' := 999) dL_law_998 rfl ?_
        obtain ⟨a499, g500, h501⟩ := Option.bind_eq_some_iff.mp h498
        refine mr_xald (pc' := 1000) hL dL_law_999 rfl g500 ?_
        refine mr_aload_n (pc' := 1001) dL_law_1000 rfl rfl ?_
        refine mr_iload_n (pc' := 1002) dL_law_1001 rfl rfl ?_
        refine mr_iconst (pc' := 1003) (v := (5 : Int32)) dL_law_1002 rfl (by decide) ?_
        refine mr_iadd (pc' := 1004) dL_law_1003 rfl ?_
        obtain ⟨a502, g503, h504⟩ := Option.bind_eq_some_iff.mp h501
        refine mr_xald (pc' := 1005) hL dL_law_1004 rfl g503 ?_
        obtain ⟨q505, g506, h507⟩ := Option.bind_eq_some_iff.mp h504
        refine mr_cv (pc' := 1008) (a := 145) (d1 := 2) dL_law_1005 rfl rfl rfl rfl rfl rfl (by decide) rfl (by decide) (ok_X11_owed hR  g506) ?_
        show mr X _ _ 1008 _ [.long q505] (MM RR S0) _
        refine mr_pop2 (pc' := 1009) dL_law_1008 rfl ?_
        refine mr_goto (t := 1619) dL_law_1009 (by decide) ?_
        refine mr_iinc (pc' := 1622) (x' := (p3 + (6 : Int32))) (lv' := [(3, .int (p3 + (6 : Int32))), (0, .ref mm_ext), (1, .ref 0), (2, .ref 145)]) dL_law_1619 rfl (by decide) rfl rfl rfl ?_
        refine mr_goto (t := 18) dL_law_1622 (by decide) ?_
        exact mr_sub [(0, .ref mm_ext), (1, .ref 0), (2, .ref 145), (3, .int (p3 + (6 : Int32)))] ⟨rfl, rfl, rfl, rfl, trivial⟩ rfl (ih _ _  h507)
      rw [if_neg c471] at h4
      by_cases c508 : (a2 &&& (63 : Int32)) = (20 : Int32)
      · rw [if_pos c508] at h4
        refine mr_sw_in (t := 1012) (v := (20 : Int32)) dL_law_33 c508 rfl ?_
        refine mr_aload_n (pc' := 1013) dL_law_1012 rfl rfl ?_
        refine mr_aload_n (pc' := 1014) dL_law_1013 rfl rfl ?_
        refine mr_iload_n (pc' := 1015) dL_law_1014 rfl rfl ?_
        refine mr_iconst (pc' := 1016) (v := (1 : Int32)) dL_law_1015 rfl (by decide) ?_
        refine mr_iadd (pc' := 1017) dL_law_1016 rfl ?_
        obtain ⟨a509, g510, h511⟩ := Option.bind_eq_some_iff.mp h4
        refine mr_xald (pc' := 1018) hL dL_law_1017 rfl g510 ?_
        refine mr_aload_n (pc' := 1019) dL_law_1018 rfl rfl ?_
        refine mr_iload_n (pc' := 1020) dL_law_1019 rfl rfl ?_
        refine mr_iconst (pc' := 1021) (v := (2 : Int32)) dL_law_1020 rfl (by decide) ?_
        refine mr_iadd (pc' := 1022) dL_law_1021 rfl ?_
        obtain ⟨a512, g513, h514⟩ := Option.bind_eq_some_iff.mp h511
        refine mr_xald (pc' := 1023) hL dL_law_1022 rfl g513 ?_
        refine mr_aload_n (pc' := 1024) dL_law_1023 rfl rfl ?_
        refine mr_iload_n (pc' := 1025) dL_law_1024 rfl rfl ?_
        refine mr_iconst (pc' := 1026) (v := (3 : Int32)) dL_law_1025 rfl (by decide) ?_
        refine mr_iadd (pc' := 1027) dL_law_1026 rfl ?_
        obtain ⟨a515, g516, h517⟩ := Option.bind_eq_some_iff.mp h514
        refine mr_xald (pc' := 1028) hL dL_law_1027 rfl g516 ?_
        refine mr_aload_n (pc' := 1029) dL_law_1028 rfl rfl ?_
        refine mr_iload_n (pc' := 1030) dL_law_1029 rfl rfl ?_
        refine mr_iconst (pc' := 1031) (v := (4 : Int32)) dL_law_1030 rfl (by decide) ?_
        refine mr_iadd (pc' := 1032) dL_law_1031 rfl ?_
        obtain ⟨a518, g519, h520⟩ := Option.bind_eq_some_iff.mp h517
        refine mr_xald (pc' := 1033) hL dL_law_1032 rfl g519 ?_
        obtain ⟨q521, g522, h523⟩ := Option.bind_eq_some_iff.mp h520
        refine mr_cv (pc' := 1036) (a := 0) (d1 := 2) dL_law_1033 rfl rfl rfl rfl rfl rfl (by decide) rfl (by decide) (ok_X10_hands hR  g522) ?_
        show mr X _ _ 1036 _ [.int q521] (MM RR S0) _
        refine mr_pop_int (pc' := 1037) dL_law_1036 rfl ?_
        refine mr_aload_n (pc' := 1038) dL_law_1037 rfl rfl ?_
        refine mr_aload_n (pc' := 1039) dL_law_1038 rfl rfl ?_
        refine mr_iload_n (pc' := 1040) dL_law_1039 rfl rfl ?_
        refine mr_iconst (pc' := 1041) (v := (1 : Int32)) dL_law_1040 rfl (by decide) ?_
        refine mr_iadd (pc' := 1042) dL_law_1041 rfl ?_
        obtain ⟨a524, g525, h526⟩ := Option.bind_eq_some_iff.mp h523
        refine mr_xald (pc' := 1043) hL dL_law_1042 rfl g525 ?_
        refine mr_aload_n (pc' := 1044) dL_law_1043 rfl rfl ?_
        refine mr_iload_n (pc' := 1045) dL_law_1044 rfl rfl ?_
        refine mr_iconst (pc' := 1046) (v := (2 : Int32)) dL_law_1045 rfl (by decide) ?_
        refine mr_iadd (pc' := 1047) dL_law_1046 rfl ?_
        obtain ⟨a527, g528, h529⟩ := Option.bind_eq_some_iff.mp h526
        refine mr_xald (pc' := 1048) hL dL_law_1047 rfl g528 ?_
        refine mr_aload_n (pc' := 1049) dL_law_1048 rfl rfl ?_
        refine mr_iload_n (pc' := 1050) dL_law_1049 rfl rfl ?_
        refine mr_iconst (pc' := 1051) (v := (3 : Int32)) dL_law_1050 rfl (by decide) ?_
        refine mr_iadd (pc' := 1052) dL_law_1051 rfl ?_
        obtain ⟨a530, g531, h532⟩ := Option.bind_eq_some_iff.mp h529
        refine mr_xald (pc' := 1053) hL dL_law_1052 rfl g531 ?_
        refine mr_aload_n (pc' := 1054) dL_law_1053 rfl rfl ?_
        refine mr_iload_n (pc' := 1055) dL_law_1054 rfl rfl ?_
        refine mr_iconst (pc' := 1056) (v := (4 : Int32)) dL_law_1055 rfl (by decide) ?_
        refine mr_iadd (pc' := 1057) dL_law_1056 rfl ?_
        obtain ⟨a533, g534, h535⟩ := Option.bind_eq_some_iff.mp h532
        refine mr_xald (pc' := 1058) hL dL_law_1057 rfl g534 ?_
        obtain ⟨q536, g537, h538⟩ := Option.bind_eq_some_iff.mp h535
        refine mr_cv (pc' := 1061) (a := 145) (d1 := 1) dL_law_1058 rfl rfl rfl rfl rfl rfl (by decide) rfl (by decide) (ok_X11_hands hR  g537) ?_
        show mr X _ _ 1061 _ [.int q536] (MM RR S0) _
        refine mr_pop_int (pc' := 1062) dL_law_1061 rfl ?_
        refine mr_goto (t := 1619) dL_law_1062 (by decide) ?_
        refine mr_iinc (pc' := 1622) (x' := (p3 + (6 : Int32))) (lv' := [(3, .int (p3 + (6 : Int32))), (0, .ref mm_ext), (1, .ref 0), (2, .ref 145)]) dL_law_1619 rfl (by decide) rfl rfl rfl ?_
        refine mr_goto (t := 18) dL_law_1622 (by decide) ?_
        exact mr_sub [(0, .ref mm_ext), (1, .ref 0), (2, .ref 145), (3, .int (p3 + (6 : Int32)))] ⟨rfl, rfl, rfl, rfl, trivial⟩ rfl (ih _ _  h538)
      rw [if_neg c508] at h4
      by_cases c539 : (a2 &&& (63 : Int32)) = (21 : Int32)
      · rw [if_pos c539] at h4
        refine mr_sw_in (t := 1065) (v := (21 : Int32)) dL_law_33 c539 rfl ?_
        refine mr_aload_n (pc' := 1066) dL_law_1065 rfl rfl ?_
        refine mr_aload_n (pc' := 1067) dL_law_1066 rfl rfl ?_
        refine mr_iload_n (pc' := 1068) dL_law_1067 rfl rfl ?_
        refine mr_iconst (pc' := 1069) (v := (1 : Int32)) dL_law_1068 rfl (by decide) ?_
        refine mr_iadd (pc' := 1070) dL_law_1069 rfl ?_
        obtain ⟨a540, g541, h542⟩ := Option.bind_eq_some_iff.mp h4
        refine mr_xald (pc' := 1071) hL dL_law_1070 rfl g541 ?_
        refine mr_aload_n (pc' := 1072) dL_law_1071 rfl rfl ?_
        refine mr_iload_n (pc' := 1073) dL_law_1072 rfl rfl ?_
        refine mr_iconst (pc' := 1074) (v := (2 : Int32)) dL_law_1073 rfl (by decide) ?_
        refine mr_iadd (pc' := 1075) dL_law_1074 rfl ?_
        obtain ⟨a543, g544, h545⟩ := Option.bind_eq_some_iff.mp h542
        refine mr_xald (pc' := 1076) hL dL_law_1075 rfl g544 ?_
        refine mr_aload_n (pc' := 1077) dL_law_1076 rfl rfl ?_
        refine mr_iload_n (pc' := 1078) dL_law_1077 rfl rfl ?_
        refine mr_iconst (pc' := 1079) (v := (3 : Int32)) dL_law_1078 rfl (by decide) ?_
        refine mr_iadd (pc' := 1080) dL_law_1079 rfl ?_
        obtain ⟨a546, g547, h548⟩ := Option.bind_eq_some_iff.mp h545
        refine mr_xald (pc' := 1081) hL dL_law_1080 rfl g547 ?_
        by_cases c549 : a546 = (0 : Int32)
        · rw [if_pos c549] at h548
          refine mr_if_eq_t (t := 1088) dL_law_1081 (by decide) c549 ?_
          refine mr_iconst (pc' := 1089) (v := (0 : Int32)) dL_law_1088 rfl (by decide) ?_
          obtain ⟨q550, g551, h552⟩ := Option.bind_eq_some_iff.mp h548
          refine mr_cv (pc' := 1092) (a := 0) (d1 := 4) dL_law_1089 rfl rfl rfl rfl rfl rfl (by decide) rfl (by decide) (ok_X10_waiting hR  g551) ?_
          show mr X _ _ 1092 _ [.int q550.1] (MM RR q550.2) _
          refine mr_pop_int (pc' := 1093) dL_law_1092 rfl ?_
          refine mr_aload_n (pc' := 1094) dL_law_1093 rfl rfl ?_
          refine mr_aload_n (pc' := 1095) dL_law_1094 rfl rfl ?_
          refine mr_iload_n (pc' := 1096) dL_law_1095 rfl rfl ?_
          refine mr_iconst (pc' := 1097) (v := (1 : Int32)) dL_law_1096 rfl (by decide) ?_
          refine mr_iadd (pc' := 1098) dL_law_1097 rfl ?_
          obtain ⟨a553, g554, h555⟩ := Option.bind_eq_some_iff.mp h552
          refine mr_xald (pc' := 1099) hL dL_law_1098 rfl g554 ?_
          refine mr_aload_n (pc' := 1100) dL_law_1099 rfl rfl ?_
          refine mr_iload_n (pc' := 1101) dL_law_1100 rfl rfl ?_
          refine mr_iconst (pc' := 1102) (v := (2 : Int32)) dL_law_1101 rfl (by decide) ?_
          refine mr_iadd (pc' := 1103) dL_law_1102 rfl ?_
          obtain ⟨a556, g557, h558⟩ := Option.bind_eq_some_iff.mp h555
          refine mr_xald (pc' := 1104) hL dL_law_1103 rfl g557 ?_
          refine mr_aload_n (pc' := 1105) dL_law_1104 rfl rfl ?_
          refine mr_iload_n (pc' := 1106) dL_law_1105 rfl rfl ?_
          refine mr_iconst (pc' := 1107) (v := (3 : Int32)) dL_law_1106 rfl (by decide) ?_
          refine mr_iadd (pc' := 1108) dL_law_1107 rfl ?_
          obtain ⟨a559, g560, h561⟩ := Option.bind_eq_some_iff.mp h558
          refine mr_xald (pc' := 1109) hL dL_law_1108 rfl g560 ?_
          by_cases c562 : a559 = (0 : Int32)
          · rw [if_pos c562] at h561
            refine mr_if_eq_t (t := 1116) dL_law_1109 (by decide) c562 ?_
            refine mr_iconst (pc' := 1117) (v := (0 : Int32)) dL_law_1116 rfl (by decide) ?_
            obtain ⟨q563, g564, h565⟩ := Option.bind_eq_some_iff.mp h561
            refine mr_cv (pc' := 1120) (a := 145) (d1 := 4) dL_law_1117 rfl rfl rfl rfl rfl rfl (by decide) rfl (by decide) (ok_X11_waiting hR  g564) ?_
            show mr X _ _ 1120 _ [.int q563.1] (MM RR q563.2) _
            refine mr_pop_int (pc' := 1121) dL_law_1120 rfl ?_
            refine mr_goto (t := 1619) dL_law_1121 (by decide) ?_
            refine mr_iinc (pc' := 1622) (x' := (p3 + (6 : Int32))) (lv' := [(3, .int (p3 + (6 : Int32))), (0, .ref mm_ext), (1, .ref 0), (2, .ref 145)]) dL_law_1619 rfl (by decide) rfl rfl rfl ?_
            refine mr_goto (t := 18) dL_law_1622 (by decide) ?_
            exact mr_sub [(0, .ref mm_ext), (1, .ref 0), (2, .ref 145), (3, .int (p3 + (6 : Int32)))] ⟨rfl, rfl, rfl, rfl, trivial⟩ rfl (ih _ _  h565)
          · rw [if_neg c562] at h561
            refine mr_if_eq_f (t := 1116) (pc' := 1112) dL_law_1109 (by decide) rfl c562 ?_
            refine mr_iconst (pc' := 1113) (v := (1 : Int32)) dL_law_1112 rfl (by decide) ?_
            refine mr_goto (t := 1117) dL_law_1113 (by decide) ?_
            obtain ⟨q566, g567, h568⟩ := Option.bind_eq_some_iff.mp h561
            refine mr_cv (pc' := 1120) (a := 145) (d1 := 4) dL_law_1117 rfl rfl rfl rfl rfl rfl (by decide) rfl (by decide) (ok_X11_waiting hR  g567) ?_
            show mr X _ _ 1120 _ [.int q566.1] (MM RR q566.2) _
            refine mr_pop_int (pc' := 1121) dL_law_1120 rfl ?_
            refine mr_goto (t := 1619) dL_law_1121 (by decide) ?_
            refine mr_iinc (pc' := 1622) (x' := (p3 + (6 : Int32))) (lv' := [(3, .int (p3 + (6 : Int32))), (0, .ref mm_ext), (1, .ref 0), (2, .ref 145)]) dL_law_1619 rfl (by decide) rfl rfl rfl ?_
            refine mr_goto (t := 18) dL_law_1622 (by decide) ?_
            exact mr_sub [(0, .ref mm_ext), (1, .ref 0), (2, .ref 145), (3, .int (p3 + (6 : Int32)))] ⟨rfl, rfl, rfl, rfl, trivial⟩ rfl (ih _ _  h568)
        · rw [if_neg c549] at h548
          refine mr_if_eq_f (t := 1088) (pc' := 1084) dL_law_1081 (by decide) rfl c549 ?_
          refine mr_iconst (pc' := 1085) (v := (1 : Int32)) dL_law_1084 rfl (by decide) ?_
          refine mr_goto (t := 1089) dL_law_1085 (by decide) ?_
          obtain ⟨q569, g570, h571⟩ := Option.bind_eq_some_iff.mp h548
          refine mr_cv (pc' := 1092) (a := 0) (d1 := 4) dL_law_1089 rfl rfl rfl rfl rfl rfl (by decide) rfl (by decide) (ok_X10_waiting hR  g570) ?_
          show mr X _ _ 1092 _ [.int q569.1] (MM RR q569.2) _
          refine mr_pop_int (pc' := 1093) dL_law_1092 rfl ?_
          refine mr_aload_n (pc' := 1094) dL_law_1093 rfl rfl ?_
          refine mr_aload_n (pc' := 1095) dL_law_1094 rfl rfl ?_
          refine mr_iload_n (pc' := 1096) dL_law_1095 rfl rfl ?_
          refine mr_iconst (pc' := 1097) (v := (1 : Int32)) dL_law_1096 rfl (by decide) ?_
          refine mr_iadd (pc' := 1098) dL_law_1097 rfl ?_
          obtain ⟨a572, g573, h574⟩ := Option.bind_eq_some_iff.mp h571
          refine mr_xald (pc' := 1099) hL dL_law_1098 rfl g573 ?_
          refine mr_aload_n (pc' := 1100) dL_law_1099 rfl rfl ?_
          refine mr_iload_n (pc' := 1101) dL_law_1100 rfl rfl ?_
          refine mr_iconst (pc' := 1102) (v := (2 : Int32)) dL_law_1101 rfl (by decide) ?_
          refine mr_iadd (pc' := 1103) dL_law_1102 rfl ?_
          obtain ⟨a575, g576, h577⟩ := Option.bind_eq_some_iff.mp h574
          refine mr_xald (pc' := 1104) hL dL_law_1103 rfl g576 ?_
          refine mr_aload_n (pc' := 1105) dL_law_1104 rfl rfl ?_
          refine mr_iload_n (pc' := 1106) dL_law_1105 rfl rfl ?_
          refine mr_iconst (pc' := 1107) (v := (3 : Int32)) dL_law_1106 rfl (by decide) ?_
          refine mr_iadd (pc' := 1108) dL_law_1107 rfl ?_
          obtain ⟨a578, g579, h580⟩ := Option.bind_eq_some_iff.mp h577
          refine mr_xald (pc' := 1109) hL dL_law_1108 rfl g579 ?_
          by_cases c581 : a578 = (0 : Int32)
          · rw [if_pos c581] at h580
            refine mr_if_eq_t (t := 1116) dL_law_1109 (by decide) c581 ?_
            refine mr_iconst (pc' := 1117) (v := (0 : Int32)) dL_law_1116 rfl (by decide) ?_
            obtain ⟨q582, g583, h584⟩ := Option.bind_eq_some_iff.mp h580
            refine mr_cv (pc' := 1120) (a := 145) (d1 := 4) dL_law_1117 rfl rfl rfl rfl rfl rfl (by decide) rfl (by decide) (ok_X11_waiting hR  g583) ?_
            show mr X _ _ 1120 _ [.int q582.1] (MM RR q582.2) _
            refine mr_pop_int (pc' := 1121) dL_law_1120 rfl ?_
            refine mr_goto (t := 1619) dL_law_1121 (by decide) ?_
            refine mr_iinc (pc' := 1622) (x' := (p3 + (6 : Int32))) (lv' := [(3, .int (p3 + (6 : Int32))), (0, .ref mm_ext), (1, .ref 0), (2, .ref 145)]) dL_law_1619 rfl (by decide) rfl rfl rfl ?_
            refine mr_goto (t := 18) dL_law_1622 (by decide) ?_
            exact mr_sub [(0, .ref mm_ext), (1, .ref 0), (2, .ref 145), (3, .int (p3 + (6 : Int32)))] ⟨rfl, rfl, rfl, rfl, trivial⟩ rfl (ih _ _  h584)
          · rw [if_neg c581] at h580
            refine mr_if_eq_f (t := 1116) (pc' := 1112) dL_law_1109 (by decide) rfl c581 ?_
            refine mr_iconst (pc' := 1113) (v := (1 : Int32)) dL_law_1112 rfl (by decide) ?_
            refine mr_goto (t := 1117) dL_law_1113 (by decide) ?_
            obtain ⟨q585, g586, h587⟩ := Option.bind_eq_some_iff.mp h580
            refine mr_cv (pc' := 1120) (a := 145) (d1 := 4) dL_law_1117 rfl rfl rfl rfl rfl rfl (by decide) rfl (by decide) (ok_X11_waiting hR  g586) ?_
            show mr X _ _ 1120 _ [.int q585.1] (MM RR q585.2) _
            refine mr_pop_int (pc' := 1121) dL_law_1120 rfl ?_
            refine mr_goto (t := 1619) dL_law_1121 (by decide) ?_
            refine mr_iinc (pc' := 1622) (x' := (p3 + (6 : Int32))) (lv' := [(3, .int (p3 + (6 : Int32))), (0, .ref mm_ext), (1, .ref 0), (2, .ref 145)]) dL_law_1619 rfl (by decide) rfl rfl rfl ?_
            refine mr_goto (t := 18) dL_law_1622 (by decide) ?_
            exact mr_sub [(0, .ref mm_ext), (1, .ref 0), (2, .ref 145), (3, .int (p3 + (6 : Int32)))] ⟨rfl, rfl, rfl, rfl, trivial⟩ rfl (ih _ _  h587)
      rw [if_neg c539] at h4
      by_cases c588 : (a2 &&& (63 : Int32)) = (22 : Int32)
      · rw [if_pos c588] at h4
        refine mr_sw_in (t := 1124) (v := (22 : Int32)) dL_law_33 c588 rfl ?_
        refine mr_aload_n (pc' := 1125) dL_law_1124 rfl rfl ?_
        refine mr_aload_n (pc' := 1126) dL_law_1125 rfl rfl ?_
        refine mr_iload_n (pc' := 1127) dL_law_1126 rfl rfl ?_
        refine mr_iconst (pc' := 1128) (v := (1 : Int32)) dL_law_1127 rfl (by decide) ?_
        refine mr_iadd (pc' := 1129) dL_law_1128 rfl ?_
        obtain ⟨a589, g590, h591⟩ := Option.bind_eq_some_iff.mp h4
        refine mr_xald (pc' := 1130) hL dL_law_1129 rfl g590 ?_
        refine mr_aload_n (pc' := 1131) dL_law_1130 rfl rfl ?_
        refine mr_iload_n (pc' := 1132) dL_law_1131 rfl rfl ?_
        refine mr_iconst (pc' := 1133) (v := (2 : Int32)) dL_law_1132 rfl (by decide) ?_
        refine mr_iadd (pc' := 1134) dL_law_1133 rfl ?_
        obtain ⟨a592, g593, h594⟩ := Option.bind_eq_some_iff.mp h591
        refine mr_xald (pc' := 1135) hL dL_law_1134 rfl g593 ?_
        refine mr_aload_n (pc' := 1136) dL_law_1135 rfl rfl ?_
        refine mr_iload_n (pc' := 1137) dL_law_1136 rfl rfl ?_
        refine mr_iconst (pc' := 1138) (v := (3 : Int32)) dL_law_1137 rfl (by decide) ?_
        refine mr_iadd (pc' := 1139) dL_law_1138 rfl ?_
        obtain ⟨a595, g596, h597⟩ := Option.bind_eq_some_iff.mp h594
        refine mr_xald (pc' := 1140) hL dL_law_1139 rfl g596 ?_
        refine mr_aload_n (pc' := 1141) dL_law_1140 rfl rfl ?_
        refine mr_iload_n (pc' := 1142) dL_law_1141 rfl rfl ?_
        refine mr_iconst (pc' := 1143) (v := (4 : Int32)) dL_law_1142 rfl (by decide) ?_
        refine mr_iadd (pc' := 1144) dL_law_1143 rfl ?_
        obtain ⟨a598, g599, h600⟩ := Option.bind_eq_some_iff.mp h597
        refine mr_xald (pc' := 1145) hL dL_law_1144 rfl g599 ?_
        obtain ⟨q601, g602, h603⟩ := Option.bind_eq_some_iff.mp h600
        refine mr_cv (pc' := 1148) (a := 0) (d1 := 3) dL_law_1145 rfl rfl rfl rfl rfl rfl (by decide) rfl (by decide) (ok_X10_when hR  g602) ?_
        show mr X _ _ 1148 _ [.long q601] (MM RR S0) _
        refine mr_pop2 (pc' := 1149) dL_law_1148 rfl ?_
        refine mr_aload_n (pc' := 1150) dL_law_1149 rfl rfl ?_
        refine mr_aload_n (pc' := 1151) dL_law_1150 rfl rfl ?_
        refine mr_iload_n (pc' := 1152) dL_law_1151 rfl rfl ?_
        refine mr_iconst (pc' := 1153) (v := (1 : Int32)) dL_law_1152 rfl (by decide) ?_
        refine mr_iadd (pc' := 1154) dL_law_1153 rfl ?_
        obtain ⟨a604, g605, h606⟩ := Option.bind_eq_some_iff.mp h603
        refine mr_xald (pc' := 1155) hL dL_law_1154 rfl g605 ?_
        refine mr_aload_n (pc' := 1156) dL_law_1155 rfl rfl ?_
        refine mr_iload_n (pc' := 1157) dL_law_1156 rfl rfl ?_
        refine mr_iconst (pc' := 1158) (v := (2 : Int32)) dL_law_1157 rfl (by decide) ?_
        refine mr_iadd (pc' := 1159) dL_law_1158 rfl ?_
        obtain ⟨a607, g608, h609⟩ := Option.bind_eq_some_iff.mp h606
        refine mr_xald (pc' := 1160) hL dL_law_1159 rfl g608 ?_
        refine mr_aload_n (pc' := 1161) dL_law_1160 rfl rfl ?_
        refine mr_iload_n (pc' := 1162) dL_law_1161 rfl rfl ?_
        refine mr_iconst (pc' := 1163) (v := (3 : Int32)) dL_law_1162 rfl (by decide) ?_
        refine mr_iadd (pc' := 1164) dL_law_1163 rfl ?_
        obtain ⟨a610, g611, h612⟩ := Option.bind_eq_some_iff.mp h609
        refine mr_xald (pc' := 1165) hL dL_law_1164 rfl g611 ?_
        refine mr_aload_n (pc' := 1166) dL_law_1165 rfl rfl ?_
        refine mr_iload_n (pc' := 1167) dL_law_1166 rfl rfl ?_
        refine mr_iconst (pc' := 1168) (v := (4 : Int32)) dL_law_1167 rfl (by decide) ?_
        refine mr_iadd (pc' := 1169) dL_law_1168 rfl ?_
        obtain ⟨a613, g614, h615⟩ := Option.bind_eq_some_iff.mp h612
        refine mr_xald (pc' := 1170) hL dL_law_1169 rfl g614 ?_
        obtain ⟨q616, g617, h618⟩ := Option.bind_eq_some_iff.mp h615
        refine mr_cv (pc' := 1173) (a := 145) (d1 := 2) dL_law_1170 rfl rfl rfl rfl rfl rfl (by decide) rfl (by decide) (ok_X11_when hR  g617) ?_
        show mr X _ _ 1173 _ [.long q616] (MM RR S0) _
        refine mr_pop2 (pc' := 1174) dL_law_1173 rfl ?_
        refine mr_goto (t := 1619) dL_law_1174 (by decide) ?_
        refine mr_iinc (pc' := 1622) (x' := (p3 + (6 : Int32))) (lv' := [(3, .int (p3 + (6 : Int32))), (0, .ref mm_ext), (1, .ref 0), (2, .ref 145)]) dL_law_1619 rfl (by decide) rfl rfl rfl ?_
        refine mr_goto (t := 18) dL_law_1622 (by decide) ?_
        exact mr_sub [(0, .ref mm_ext), (1, .ref 0), (2, .ref 145), (3, .int (p3 + (6 : Int32)))] ⟨rfl, rfl, rfl, rfl, trivial⟩ rfl (ih _ _  h618)
      rw [if_neg c588] at h4
      by_cases c619 : (a2 &&& (63 : Int32)) = (23 : Int32)
      · rw [if_pos c619] at h4
        refine mr_sw_in (t := 1177) (v := (23 : Int32)) dL_law_33 c619 rfl ?_
        refine mr_aload_n (pc' := 1178) dL_law_1177 rfl rfl ?_
        refine mr_aload_n (pc' := 1179) dL_law_1178 rfl rfl ?_
        refine mr_iload_n (pc' := 1180) dL_law_1179 rfl rfl ?_
        refine mr_iconst (pc' := 1181) (v := (1 : Int32)) dL_law_1180 rfl (by decide) ?_
        refine mr_iadd (pc' := 1182) dL_law_1181 rfl ?_
        obtain ⟨a620, g621, h622⟩ := Option.bind_eq_some_iff.mp h4
        refine mr_xald (pc' := 1183) hL dL_law_1182 rfl g621 ?_
        refine mr_aload_n (pc' := 1184) dL_law_1183 rfl rfl ?_
        refine mr_iload_n (pc' := 1185) dL_law_1184 rfl rfl ?_
        refine mr_iconst (pc' := 1186) (v := (2 : Int32)) dL_law_1185 rfl (by decide) ?_
        refine mr_iadd (pc' := 1187) dL_law_1186 rfl ?_
        obtain ⟨a623, g624, h625⟩ := Option.bind_eq_some_iff.mp h622
        refine mr_xald (pc' := 1188) hL dL_law_1187 rfl g624 ?_
        refine mr_aload_n (pc' := 1189) dL_law_1188 rfl rfl ?_
        refine mr_iload_n (pc' := 1190) dL_law_1189 rfl rfl ?_
        refine mr_iconst (pc' := 1191) (v := (3 : Int32)) dL_law_1190 rfl (by decide) ?_
        refine mr_iadd (pc' := 1192) dL_law_1191 rfl ?_
        obtain ⟨a626, g627, h628⟩ := Option.bind_eq_some_iff.mp h625
        refine mr_xald (pc' := 1193) hL dL_law_1192 rfl g627 ?_
        obtain ⟨q629, g630, h631⟩ := Option.bind_eq_some_iff.mp h628
        refine mr_cv (pc' := 1196) (a := 0) (d1 := 2) dL_law_1193 rfl rfl rfl rfl rfl rfl (by decide) rfl (by decide) (ok_X10_shown hR  g630) ?_
        show mr X _ _ 1196 _ [.int q629] (MM RR S0) _
        refine mr_pop_int (pc' := 1197) dL_law_1196 rfl ?_
        refine mr_aload_n (pc' := 1198) dL_law_1197 rfl rfl ?_
        refine mr_aload_n (pc' := 1199) dL_law_1198 rfl rfl ?_
        refine mr_iload_n (pc' := 1200) dL_law_1199 rfl rfl ?_
        refine mr_iconst (pc' := 1201) (v := (1 : Int32)) dL_law_1200 rfl (by decide) ?_
        refine mr_iadd (pc' := 1202) dL_law_1201 rfl ?_
        obtain ⟨a632, g633, h634⟩ := Option.bind_eq_some_iff.mp h631
        refine mr_xald (pc' := 1203) hL dL_law_1202 rfl g633 ?_
        refine mr_aload_n (pc' := 1204) dL_law_1203 rfl rfl ?_
        refine mr_iload_n (pc' := 1205) dL_law_1204 rfl rfl ?_
        refine mr_iconst (pc' := 1206) (v := (2 : Int32)) dL_law_1205 rfl (by decide) ?_
        refine mr_iadd (pc' := 1207) dL_law_1206 rfl ?_
        obtain ⟨a635, g636, h637⟩ := Option.bind_eq_some_iff.mp h634
        refine mr_xald (pc' := 1208) hL dL_law_1207 rfl g636 ?_
        refine mr_aload_n (pc' := 1209) dL_law_1208 rfl rfl ?_
        refine mr_iload_n (pc' := 1210) dL_law_1209 rfl rfl ?_
        refine mr_iconst (pc' := 1211) (v := (3 : Int32)) dL_law_1210 rfl (by decide) ?_
        refine mr_iadd (pc' := 1212) dL_law_1211 rfl ?_
        obtain ⟨a638, g639, h640⟩ := Option.bind_eq_some_iff.mp h637
        refine mr_xald (pc' := 1213) hL dL_law_1212 rfl g639 ?_
        obtain ⟨q641, g642, h643⟩ := Option.bind_eq_some_iff.mp h640
        refine mr_cv (pc' := 1216) (a := 145) (d1 := 1) dL_law_1213 rfl rfl rfl rfl rfl rfl (by decide) rfl (by decide) (ok_X11_shown hR  g642) ?_
        show mr X _ _ 1216 _ [.int q641] (MM RR S0) _
        refine mr_pop_int (pc' := 1217) dL_law_1216 rfl ?_
        refine mr_goto (t := 1619) dL_law_1217 (by decide) ?_
        refine mr_iinc (pc' := 1622) (x' := (p3 + (6 : Int32))) (lv' := [(3, .int (p3 + (6 : Int32))), (0, .ref mm_ext), (1, .ref 0), (2, .ref 145)]) dL_law_1619 rfl (by decide) rfl rfl rfl ?_
        refine mr_goto (t := 18) dL_law_1622 (by decide) ?_
        exact mr_sub [(0, .ref mm_ext), (1, .ref 0), (2, .ref 145), (3, .int (p3 + (6 : Int32)))] ⟨rfl, rfl, rfl, rfl, trivial⟩ rfl (ih _ _  h643)
      rw [if_neg c619] at h4
      by_cases c644 : (a2 &&& (63 : Int32)) = (24 : Int32)
      · rw [if_pos c644] at h4
        refine mr_sw_in (t := 1220) (v := (24 : Int32)) dL_law_33 c644 rfl ?_
        refine mr_aload_n (pc' := 1221) dL_law_1220 rfl rfl ?_
        refine mr_aload_n (pc' := 1222) dL_law_1221 rfl rfl ?_
        refine mr_iload_n (pc' := 1223) dL_law_1222 rfl rfl ?_
        refine mr_iconst (pc' := 1224) (v := (1 : Int32)) dL_law_1223 rfl (by decide) ?_
        refine mr_iadd (pc' := 1225) dL_law_1224 rfl ?_
        obtain ⟨a645, g646, h647⟩ := Option.bind_eq_some_iff.mp h4
        refine mr_xald (pc' := 1226) hL dL_law_1225 rfl g646 ?_
        refine mr_aload_n (pc' := 1227) dL_law_1226 rfl rfl ?_
        refine mr_iload_n (pc' := 1228) dL_law_1227 rfl rfl ?_
        refine mr_iconst (pc' := 1229) (v := (2 : Int32)) dL_law_1228 rfl (by decide) ?_
        refine mr_iadd (pc' := 1230) dL_law_1229 rfl ?_
        obtain ⟨a648, g649, h650⟩ := Option.bind_eq_some_iff.mp h647
        refine mr_xald (pc' := 1231) hL dL_law_1230 rfl g649 ?_
        refine mr_aload_n (pc' := 1232) dL_law_1231 rfl rfl ?_
        refine mr_iload_n (pc' := 1233) dL_law_1232 rfl rfl ?_
        refine mr_iconst (pc' := 1234) (v := (3 : Int32)) dL_law_1233 rfl (by decide) ?_
        refine mr_iadd (pc' := 1235) dL_law_1234 rfl ?_
        obtain ⟨a651, g652, h653⟩ := Option.bind_eq_some_iff.mp h650
        refine mr_xald (pc' := 1236) hL dL_law_1235 rfl g652 ?_
        obtain ⟨q654, g655, h656⟩ := Option.bind_eq_some_iff.mp h653
        refine mr_cv (pc' := 1239) (a := 0) (d1 := 2) dL_law_1236 rfl rfl rfl rfl rfl rfl (by decide) rfl (by decide) (ok_X10_noonsIn hR  g655) ?_
        show mr X _ _ 1239 _ [.int q654] (MM RR S0) _
        refine mr_pop_int (pc' := 1240) dL_law_1239 rfl ?_
        refine mr_aload_n (pc' := 1241) dL_law_1240 rfl rfl ?_
        refine mr_aload_n (pc' := 1242) dL_law_1241 rfl rfl ?_
        refine mr_iload_n (pc' := 1243) dL_law_1242 rfl rfl ?_
        refine mr_iconst (pc' := 1244) (v := (1 : Int32)) dL_law_1243 rfl (by decide) ?_
        refine mr_iadd (pc' := 1245) dL_law_1244 rfl ?_
        obtain ⟨a657, g658, h659⟩ := Option.bind_eq_some_iff.mp h656
        refine mr_xald (pc' := 1246) hL dL_law_1245 rfl g658 ?_
        refine mr_aload_n (pc' := 1247) dL_law_1246 rfl rfl ?_
        refine mr_iload_n (pc' := 1248) dL_law_1247 rfl rfl ?_
        refine mr_iconst (pc' := 1249) (v := (2 : Int32)) dL_law_1248 rfl (by decide) ?_
        refine mr_iadd (pc' := 1250) dL_law_1249 rfl ?_
        obtain ⟨a660, g661, h662⟩ := Option.bind_eq_some_iff.mp h659
        refine mr_xald (pc' := 1251) hL dL_law_1250 rfl g661 ?_
        refine mr_aload_n (pc' := 1252) dL_law_1251 rfl rfl ?_
        refine mr_iload_n (pc' := 1253) dL_law_1252 rfl rfl ?_
        refine mr_iconst (pc' := 1254) (v := (3 : Int32)) dL_law_1253 rfl (by decide) ?_
        refine mr_iadd (pc' := 1255) dL_law_1254 rfl ?_
        obtain ⟨a663, g664, h665⟩ := Option.bind_eq_some_iff.mp h662
        refine mr_xald (pc' := 1256) hL dL_law_1255 rfl g664 ?_
        obtain ⟨q666, g667, h668⟩ := Option.bind_eq_some_iff.mp h665
        refine mr_cv (pc' := 1259) (a := 145) (d1 := 1) dL_law_1256 rfl rfl rfl rfl rfl rfl (by decide) rfl (by decide) (ok_X11_noonsIn hR  g667) ?_
        show mr X _ _ 1259 _ [.int q666] (MM RR S0) _
        refine mr_pop_int (pc' := 1260) dL_law_1259 rfl ?_
        refine mr_goto (t := 1619) dL_law_1260 (by decide) ?_
        refine mr_iinc (pc' := 1622) (x' := (p3 + (6 : Int32))) (lv' := [(3, .int (p3 + (6 : Int32))), (0, .ref mm_ext), (1, .ref 0), (2, .ref 145)]) dL_law_1619 rfl (by decide) rfl rfl rfl ?_
        refine mr_goto (t := 18) dL_law_1622 (by decide) ?_
        exact mr_sub [(0, .ref mm_ext), (1, .ref 0), (2, .ref 145), (3, .int (p3 + (6 : Int32)))] ⟨rfl, rfl, rfl, rfl, trivial⟩ rfl (ih _ _  h668)
      rw [if_neg c644] at h4
      by_cases c669 : (a2 &&& (63 : Int32)) = (25 : Int32)
      · rw [if_pos c669] at h4
        refine mr_sw_in (t := 1263) (v := (25 : Int32)) dL_law_33 c669 rfl ?_
        refine mr_aload_n (pc' := 1264) dL_law_1263 rfl rfl ?_
        refine mr_aload_n (pc' := 1265) dL_law_1264 rfl rfl ?_
        refine mr_iload_n (pc' := 1266) dL_law_1265 rfl rfl ?_
        refine mr_iconst (pc' := 1267) (v := (1 : Int32)) dL_law_1266 rfl (by decide) ?_
        refine mr_iadd (pc' := 1268) dL_law_1267 rfl ?_
        obtain ⟨a670, g671, h672⟩ := Option.bind_eq_some_iff.mp h4
        refine mr_xald (pc' := 1269) hL dL_law_1268 rfl g671 ?_
        refine mr_aload_n (pc' := 1270) dL_law_1269 rfl rfl ?_
        refine mr_iload_n (pc' := 1271) dL_law_1270 rfl rfl ?_
        refine mr_iconst (pc' := 1272) (v := (2 : Int32)) dL_law_1271 rfl (by decide) ?_
        refine mr_iadd (pc' := 1273) dL_law_1272 rfl ?_
        obtain ⟨a673, g674, h675⟩ := Option.bind_eq_some_iff.mp h672
        refine mr_xald (pc' := 1274) hL dL_law_1273 rfl g674 ?_
        obtain ⟨q676, g677, h678⟩ := Option.bind_eq_some_iff.mp h675
        refine mr_cv (pc' := 1277) (a := 0) (d1 := 2) dL_law_1274 rfl rfl rfl rfl rfl rfl (by decide) rfl (by decide) (ok_X10_due hR  g677) ?_
        show mr X _ _ 1277 _ [.int q676] (MM RR S0) _
        refine mr_pop_int (pc' := 1278) dL_law_1277 rfl ?_
        refine mr_aload_n (pc' := 1279) dL_law_1278 rfl rfl ?_
        refine mr_aload_n (pc' := 1280) dL_law_1279 rfl rfl ?_
        refine mr_iload_n (pc' := 1281) dL_law_1280 rfl rfl ?_
        refine mr_iconst (pc' := 1282) (v := (1 : Int32)) dL_law_1281 rfl (by decide) ?_
        refine mr_iadd (pc' := 1283) dL_law_1282 rfl ?_
        obtain ⟨a679, g680, h681⟩ := Option.bind_eq_some_iff.mp h678
        refine mr_xald (pc' := 1284) hL dL_law_1283 rfl g680 ?_
        refine mr_aload_n (pc' := 1285) dL_law_1284 rfl rfl ?_
        refine mr_iload_n (pc' := 1286) dL_law_1285 rfl rfl ?_
        refine mr_iconst (pc' := 1287) (v := (2 : Int32)) dL_law_1286 rfl (by decide) ?_
        refine mr_iadd (pc' := 1288) dL_law_1287 rfl ?_
        obtain ⟨a682, g683, h684⟩ := Option.bind_eq_some_iff.mp h681
        refine mr_xald (pc' := 1289) hL dL_law_1288 rfl g683 ?_
        obtain ⟨q685, g686, h687⟩ := Option.bind_eq_some_iff.mp h684
        refine mr_cv (pc' := 1292) (a := 145) (d1 := 1) dL_law_1289 rfl rfl rfl rfl rfl rfl (by decide) rfl (by decide) (ok_X11_due hR  g686) ?_
        show mr X _ _ 1292 _ [.int q685] (MM RR S0) _
        refine mr_pop_int (pc' := 1293) dL_law_1292 rfl ?_
        refine mr_goto (t := 1619) dL_law_1293 (by decide) ?_
        refine mr_iinc (pc' := 1622) (x' := (p3 + (6 : Int32))) (lv' := [(3, .int (p3 + (6 : Int32))), (0, .ref mm_ext), (1, .ref 0), (2, .ref 145)]) dL_law_1619 rfl (by decide) rfl rfl rfl ?_
        refine mr_goto (t := 18) dL_law_1622 (by decide) ?_
        exact mr_sub [(0, .ref mm_ext), (1, .ref 0), (2, .ref 145), (3, .int (p3 + (6 : Int32)))] ⟨rfl, rfl, rfl, rfl, trivial⟩ rfl (ih _ _  h687)
      rw [if_neg c669] at h4
      by_cases c688 : (a2 &&& (63 : Int32)) = (26 : Int32)
      · rw [if_pos c688] at h4
        refine mr_sw_in (t := 1296) (v := (26 : Int32)) dL_law_33 c688 rfl ?_
        refine mr_aload_n (pc' := 1297) dL_law_1296 rfl rfl ?_
        obtain ⟨q689, g690, h691⟩ := Option.bind_eq_some_iff.mp h4
        refine mr_cv (pc' := 1300) (a := 0) (d1 := 1) dL_law_1297 rfl rfl rfl rfl rfl rfl (by decide) rfl (by decide) (ok_X10_needed hR  g690) ?_
        show mr X _ _ 1300 _ [.int q689] (MM RR S0) _
        refine mr_pop_int (pc' := 1301) dL_law_1300 rfl ?_
        refine mr_aload_n (pc' := 1302) dL_law_1301 rfl rfl ?_
        obtain ⟨q692, g693, h694⟩ := Option.bind_eq_some_iff.mp h691
        refine mr_cv (pc' := 1305) (a := 145) (d1 := 2) dL_law_1302 rfl rfl rfl rfl rfl rfl (by decide) rfl (by decide) (ok_X11_needed hR  g693) ?_
        show mr X _ _ 1305 _ [.int q692.1] (MM RR q692.2) _
        refine mr_pop_int (pc' := 1306) dL_law_1305 rfl ?_
        refine mr_goto (t := 1619) dL_law_1306 (by decide) ?_
        refine mr_iinc (pc' := 1622) (x' := (p3 + (6 : Int32))) (lv' := [(3, .int (p3 + (6 : Int32))), (0, .ref mm_ext), (1, .ref 0), (2, .ref 145)]) dL_law_1619 rfl (by decide) rfl rfl rfl ?_
        refine mr_goto (t := 18) dL_law_1622 (by decide) ?_
        exact mr_sub [(0, .ref mm_ext), (1, .ref 0), (2, .ref 145), (3, .int (p3 + (6 : Int32)))] ⟨rfl, rfl, rfl, rfl, trivial⟩ rfl (ih _ _  h694)
      rw [if_neg c688] at h4
      by_cases c695 : (a2 &&& (63 : Int32)) = (27 : Int32)
      · rw [if_pos c695] at h4
        refine mr_sw_in (t := 1309) (v := (27 : Int32)) dL_law_33 c695 rfl ?_
        refine mr_aload_n (pc' := 1310) dL_law_1309 rfl rfl ?_
        refine mr_aload_n (pc' := 1311) dL_law_1310 rfl rfl ?_
        refine mr_iload_n (pc' := 1312) dL_law_1311 rfl rfl ?_
        refine mr_iconst (pc' := 1313) (v := (1 : Int32)) dL_law_1312 rfl (by decide) ?_
        refine mr_iadd (pc' := 1314) dL_law_1313 rfl ?_
        obtain ⟨a696, g697, h698⟩ := Option.bind_eq_some_iff.mp h4
        refine mr_xald (pc' := 1315) hL dL_law_1314 rfl g697 ?_
        refine mr_aload_n (pc' := 1316) dL_law_1315 rfl rfl ?_
        refine mr_iload_n (pc' := 1317) dL_law_1316 rfl rfl ?_
        refine mr_iconst (pc' := 1318) (v := (2 : Int32)) dL_law_1317 rfl (by decide) ?_
        refine mr_iadd (pc' := 1319) dL_law_1318 rfl ?_
        obtain ⟨a699, g700, h701⟩ := Option.bind_eq_some_iff.mp h698
        refine mr_xald (pc' := 1320) hL dL_law_1319 rfl g700 ?_
        refine mr_aload_n (pc' := 1321) dL_law_1320 rfl rfl ?_
        refine mr_iload_n (pc' := 1322) dL_law_1321 rfl rfl ?_
        refine mr_iconst (pc' := 1323) (v := (3 : Int32)) dL_law_1322 rfl (by decide) ?_
        refine mr_iadd (pc' := 1324) dL_law_1323 rfl ?_
        obtain ⟨a702, g703, h704⟩ := Option.bind_eq_some_iff.mp h701
        refine mr_xald (pc' := 1325) hL dL_law_1324 rfl g703 ?_
        obtain ⟨q705, g706, h707⟩ := Option.bind_eq_some_iff.mp h704
        refine mr_cv (pc' := 1328) (a := 0) (d1 := 6) dL_law_1325 rfl rfl rfl rfl rfl rfl (by decide) rfl (by decide) (ok_X10_elder hR  g706) ?_
        show mr X _ _ 1328 _ [.long q705.1] (MM RR q705.2) _
        refine mr_pop2 (pc' := 1329) dL_law_1328 rfl ?_
        refine mr_aload_n (pc' := 1330) dL_law_1329 rfl rfl ?_
        refine mr_aload_n (pc' := 1331) dL_law_1330 rfl rfl ?_
        refine mr_iload_n (pc' := 1332) dL_law_1331 rfl rfl ?_
        refine mr_iconst (pc' := 1333) (v := (1 : Int32)) dL_law_1332 rfl (by decide) ?_
        refine mr_iadd (pc' := 1334) dL_law_1333 rfl ?_
        obtain ⟨a708, g709, h710⟩ := Option.bind_eq_some_iff.mp h707
        refine mr_xald (pc' := 1335) hL dL_law_1334 rfl g709 ?_
        refine mr_aload_n (pc' := 1336) dL_law_1335 rfl rfl ?_
        refine mr_iload_n (pc' := 1337) dL_law_1336 rfl rfl ?_
        refine mr_iconst (pc' := 1338) (v := (2 : Int32)) dL_law_1337 rfl (by decide) ?_
        refine mr_iadd (pc' := 1339) dL_law_1338 rfl ?_
        obtain ⟨a711, g712, h713⟩ := Option.bind_eq_some_iff.mp h710
        refine mr_xald (pc' := 1340) hL dL_law_1339 rfl g712 ?_
        refine mr_aload_n (pc' := 1341) dL_law_1340 rfl rfl ?_
        refine mr_iload_n (pc' := 1342) dL_law_1341 rfl rfl ?_
        refine mr_iconst (pc' := 1343) (v := (3 : Int32)) dL_law_1342 rfl (by decide) ?_
        refine mr_iadd (pc' := 1344) dL_law_1343 rfl ?_
        obtain ⟨a714, g715, h716⟩ := Option.bind_eq_some_iff.mp h713
        refine mr_xald (pc' := 1345) hL dL_law_1344 rfl g715 ?_
        obtain ⟨q717, g718, h719⟩ := Option.bind_eq_some_iff.mp h716
        refine mr_cv (pc' := 1348) (a := 145) (d1 := 5) dL_law_1345 rfl rfl rfl rfl rfl rfl (by decide) rfl (by decide) (ok_X11_elder hR  g718) ?_
        show mr X _ _ 1348 _ [.long q717.1] (MM RR q717.2) _
        refine mr_pop2 (pc' := 1349) dL_law_1348 rfl ?_
        refine mr_goto (t := 1619) dL_law_1349 (by decide) ?_
        refine mr_iinc (pc' := 1622) (x' := (p3 + (6 : Int32))) (lv' := [(3, .int (p3 + (6 : Int32))), (0, .ref mm_ext), (1, .ref 0), (2, .ref 145)]) dL_law_1619 rfl (by decide) rfl rfl rfl ?_
        refine mr_goto (t := 18) dL_law_1622 (by decide) ?_
        exact mr_sub [(0, .ref mm_ext), (1, .ref 0), (2, .ref 145), (3, .int (p3 + (6 : Int32)))] ⟨rfl, rfl, rfl, rfl, trivial⟩ rfl (ih _ _  h719)
      rw [if_neg c695] at h4
      by_cases c720 : (a2 &&& (63 : Int32)) = (28 : Int32)
      · rw [if_pos c720] at h4
        refine mr_sw_in (t := 1352) (v := (28 : Int32)) dL_law_33 c720 rfl ?_
        refine mr_aload_n (pc' := 1353) dL_law_1352 rfl rfl ?_
        refine mr_aload_n (pc' := 1354) dL_law_1353 rfl rfl ?_
        refine mr_iload_n (pc' := 1355) dL_law_1354 rfl rfl ?_
        refine mr_iconst (pc' := 1356) (v := (1 : Int32)) dL_law_1355 rfl (by decide) ?_
        refine mr_iadd (pc' := 1357) dL_law_1356 rfl ?_
        obtain ⟨a721, g722, h723⟩ := Option.bind_eq_some_iff.mp h4
        refine mr_xald (pc' := 1358) hL dL_law_1357 rfl g722 ?_
        refine mr_aload_n (pc' := 1359) dL_law_1358 rfl rfl ?_
        refine mr_iload_n (pc' := 1360) dL_law_1359 rfl rfl ?_
        refine mr_iconst (pc' := 1361) (v := (2 : Int32)) dL_law_1360 rfl (by decide) ?_
        refine mr_iadd (pc' := 1362) dL_law_1361 rfl ?_
        obtain ⟨a724, g725, h726⟩ := Option.bind_eq_some_iff.mp h723
        refine mr_xald (pc' := 1363) hL dL_law_1362 rfl g725 ?_
        refine mr_aload_n (pc' := 1364) dL_law_1363 rfl rfl ?_
        refine mr_iload_n (pc' := 1365) dL_law_1364 rfl rfl ?_
        refine mr_iconst (pc' := 1366) (v := (3 : Int32)) dL_law_1365 rfl (by decide) ?_
        refine mr_iadd (pc' := 1367) dL_law_1366 rfl ?_
        obtain ⟨a727, g728, h729⟩ := Option.bind_eq_some_iff.mp h726
        refine mr_xald (pc' := 1368) hL dL_law_1367 rfl g728 ?_
        obtain ⟨q730, g731, h732⟩ := Option.bind_eq_some_iff.mp h729
        refine mr_cv (pc' := 1371) (a := 0) (d1 := 2) dL_law_1368 rfl rfl rfl rfl rfl rfl (by decide) rfl (by decide) (ok_X10_letter hR  g731) ?_
        show mr X _ _ 1371 _ [.int q730.1] (MM RR q730.2) _
        refine mr_pop_int (pc' := 1372) dL_law_1371 rfl ?_
        refine mr_aload_n (pc' := 1373) dL_law_1372 rfl rfl ?_
        refine mr_aload_n (pc' := 1374) dL_law_1373 rfl rfl ?_
        refine mr_iload_n (pc' := 1375) dL_law_1374 rfl rfl ?_
        refine mr_iconst (pc' := 1376) (v := (1 : Int32)) dL_law_1375 rfl (by decide) ?_
        refine mr_iadd (pc' := 1377) dL_law_1376 rfl ?_
        obtain ⟨a733, g734, h735⟩ := Option.bind_eq_some_iff.mp h732
        refine mr_xald (pc' := 1378) hL dL_law_1377 rfl g734 ?_
        refine mr_aload_n (pc' := 1379) dL_law_1378 rfl rfl ?_
        refine mr_iload_n (pc' := 1380) dL_law_1379 rfl rfl ?_
        refine mr_iconst (pc' := 1381) (v := (2 : Int32)) dL_law_1380 rfl (by decide) ?_
        refine mr_iadd (pc' := 1382) dL_law_1381 rfl ?_
        obtain ⟨a736, g737, h738⟩ := Option.bind_eq_some_iff.mp h735
        refine mr_xald (pc' := 1383) hL dL_law_1382 rfl g737 ?_
        refine mr_aload_n (pc' := 1384) dL_law_1383 rfl rfl ?_
        refine mr_iload_n (pc' := 1385) dL_law_1384 rfl rfl ?_
        refine mr_iconst (pc' := 1386) (v := (3 : Int32)) dL_law_1385 rfl (by decide) ?_
        refine mr_iadd (pc' := 1387) dL_law_1386 rfl ?_
        obtain ⟨a739, g740, h741⟩ := Option.bind_eq_some_iff.mp h738
        refine mr_xald (pc' := 1388) hL dL_law_1387 rfl g740 ?_
        obtain ⟨q742, g743, h744⟩ := Option.bind_eq_some_iff.mp h741
        refine mr_cv (pc' := 1391) (a := 145) (d1 := 1) dL_law_1388 rfl rfl rfl rfl rfl rfl (by decide) rfl (by decide) (ok_X11_letter hR  g743) ?_
        show mr X _ _ 1391 _ [.int q742.1] (MM RR q742.2) _
        refine mr_pop_int (pc' := 1392) dL_law_1391 rfl ?_
        refine mr_goto (t := 1619) dL_law_1392 (by decide) ?_
        refine mr_iinc (pc' := 1622) (x' := (p3 + (6 : Int32))) (lv' := [(3, .int (p3 + (6 : Int32))), (0, .ref mm_ext), (1, .ref 0), (2, .ref 145)]) dL_law_1619 rfl (by decide) rfl rfl rfl ?_
        refine mr_goto (t := 18) dL_law_1622 (by decide) ?_
        exact mr_sub [(0, .ref mm_ext), (1, .ref 0), (2, .ref 145), (3, .int (p3 + (6 : Int32)))] ⟨rfl, rfl, rfl, rfl, trivial⟩ rfl (ih _ _  h744)
      rw [if_neg c720] at h4
      by_cases c745 : (a2 &&& (63 : Int32)) = (29 : Int32)
      · rw [if_pos c745] at h4
        refine mr_sw_in (t := 1395) (v := (29 : Int32)) dL_law_33 c745 rfl ?_
        refine mr_aload_n (pc' := 1396) dL_law_1395 rfl rfl ?_
        refine mr_aload_n (pc' := 1397) dL_law_1396 rfl rfl ?_
        refine mr_iload_n (pc' := 1398) dL_law_1397 rfl rfl ?_
        refine mr_iconst (pc' := 1399) (v := (1 : Int32)) dL_law_1398 rfl (by decide) ?_
        refine mr_iadd (pc' := 1400) dL_law_1399 rfl ?_
        obtain ⟨a746, g747, h748⟩ := Option.bind_eq_some_iff.mp h4
        refine mr_xald (pc' := 1401) hL dL_law_1400 rfl g747 ?_
        refine mr_aload_n (pc' := 1402) dL_law_1401 rfl rfl ?_
        refine mr_iload_n (pc' := 1403) dL_law_1402 rfl rfl ?_
        refine mr_iconst (pc' := 1404) (v := (2 : Int32)) dL_law_1403 rfl (by decide) ?_
        refine mr_iadd (pc' := 1405) dL_law_1404 rfl ?_
        obtain ⟨a749, g750, h751⟩ := Option.bind_eq_some_iff.mp h748
        refine mr_xald (pc' := 1406) hL dL_law_1405 rfl g750 ?_
        obtain ⟨q752, g753, h754⟩ := Option.bind_eq_some_iff.mp h751
        refine mr_cv (pc' := 1409) (a := 0) (d1 := 3) dL_law_1406 rfl rfl rfl rfl rfl rfl (by decide) rfl (by decide) (ok_X10_letters hR  g753) ?_
        show mr X _ _ 1409 _ [.int q752] (MM RR S0) _
        refine mr_pop_int (pc' := 1410) dL_law_1409 rfl ?_
        refine mr_aload_n (pc' := 1411) dL_law_1410 rfl rfl ?_
        refine mr_aload_n (pc' := 1412) dL_law_1411 rfl rfl ?_
        refine mr_iload_n (pc' := 1413) dL_law_1412 rfl rfl ?_
        refine mr_iconst (pc' := 1414) (v := (1 : Int32)) dL_law_1413 rfl (by decide) ?_
        refine mr_iadd (pc' := 1415) dL_law_1414 rfl ?_
        obtain ⟨a755, g756, h757⟩ := Option.bind_eq_some_iff.mp h754
        refine mr_xald (pc' := 1416) hL dL_law_1415 rfl g756 ?_
        refine mr_aload_n (pc' := 1417) dL_law_1416 rfl rfl ?_
        refine mr_iload_n (pc' := 1418) dL_law_1417 rfl rfl ?_
        refine mr_iconst (pc' := 1419) (v := (2 : Int32)) dL_law_1418 rfl (by decide) ?_
        refine mr_iadd (pc' := 1420) dL_law_1419 rfl ?_
        obtain ⟨a758, g759, h760⟩ := Option.bind_eq_some_iff.mp h757
        refine mr_xald (pc' := 1421) hL dL_law_1420 rfl g759 ?_
        obtain ⟨q761, g762, h763⟩ := Option.bind_eq_some_iff.mp h760
        refine mr_cv (pc' := 1424) (a := 145) (d1 := 3) dL_law_1421 rfl rfl rfl rfl rfl rfl (by decide) rfl (by decide) (ok_X11_letters hR  g762) ?_
        show mr X _ _ 1424 _ [.int q761] (MM RR S0) _
        refine mr_pop_int (pc' := 1425) dL_law_1424 rfl ?_
        refine mr_goto (t := 1619) dL_law_1425 (by decide) ?_
        refine mr_iinc (pc' := 1622) (x' := (p3 + (6 : Int32))) (lv' := [(3, .int (p3 + (6 : Int32))), (0, .ref mm_ext), (1, .ref 0), (2, .ref 145)]) dL_law_1619 rfl (by decide) rfl rfl rfl ?_
        refine mr_goto (t := 18) dL_law_1622 (by decide) ?_
        exact mr_sub [(0, .ref mm_ext), (1, .ref 0), (2, .ref 145), (3, .int (p3 + (6 : Int32)))] ⟨rfl, rfl, rfl, rfl, trivial⟩ rfl (ih _ _  h763)
      rw [if_neg c745] at h4
      by_cases c764 : (a2 &&& (63 : Int32)) = (30 : Int32)
      · rw [if_pos c764] at h4
        refine mr_sw_in (t := 1428) (v := (30 : Int32)) dL_law_33 c764 rfl ?_
        refine mr_aload_n (pc' := 1429) dL_law_1428 rfl rfl ?_
        obtain ⟨q765, g766, h767⟩ := Option.bind_eq_some_iff.mp h4
        refine mr_cv (pc' := 1432) (a := 0) (d1 := 3) dL_law_1429 rfl rfl rfl rfl rfl rfl (by decide) rfl (by decide) (ok_X10_crossed hR  g766) ?_
        show mr X _ _ 1432 _ [.int q765] (MM RR S0) _
        refine mr_pop_int (pc' := 1433) dL_law_1432 rfl ?_
        refine mr_aload_n (pc' := 1434) dL_law_1433 rfl rfl ?_
        obtain ⟨q768, g769, h770⟩ := Option.bind_eq_some_iff.mp h767
        refine mr_cv (pc' := 1437) (a := 145) (d1 := 2) dL_law_1434 rfl rfl rfl rfl rfl rfl (by decide) rfl (by decide) (ok_X11_crossed hR  g769) ?_
        show mr X _ _ 1437 _ [.int q768] (MM RR S0) _
        refine mr_pop_int (pc' := 1438) dL_law_1437 rfl ?_
        refine mr_goto (t := 1619) dL_law_1438 (by decide) ?_
        refine mr_iinc (pc' := 1622) (x' := (p3 + (6 : Int32))) (lv' := [(3, .int (p3 + (6 : Int32))), (0, .ref mm_ext), (1, .ref 0), (2, .ref 145)]) dL_law_1619 rfl (by decide) rfl rfl rfl ?_
        refine mr_goto (t := 18) dL_law_1622 (by decide) ?_
        exact mr_sub [(0, .ref mm_ext), (1, .ref 0), (2, .ref 145), (3, .int (p3 + (6 : Int32)))] ⟨rfl, rfl, rfl, rfl, trivial⟩ rfl (ih _ _  h770)
      rw [if_neg c764] at h4
      by_cases c771 : (a2 &&& (63 : Int32)) = (31 : Int32)
      · rw [if_pos c771] at h4
        refine mr_sw_in (t := 1441) (v := (31 : Int32)) dL_law_33 c771 rfl ?_
        refine mr_aload_n (pc' := 1442) dL_law_1441 rfl rfl ?_
        refine mr_aload_n (pc' := 1443) dL_law_1442 rfl rfl ?_
        refine mr_iload_n (pc' := 1444) dL_law_1443 rfl rfl ?_
        refine mr_iconst (pc' := 1445) (v := (1 : Int32)) dL_law_1444 rfl (by decide) ?_
        refine mr_iadd (pc' := 1446) dL_law_1445 rfl ?_
        obtain ⟨a772, g773, h774⟩ := Option.bind_eq_some_iff.mp h4
        refine mr_xald (pc' := 1447) hL dL_law_1446 rfl g773 ?_
        obtain ⟨q775, g776, h777⟩ := Option.bind_eq_some_iff.mp h774
        refine mr_cv (pc' := 1450) (a := 0) (d1 := 1) dL_law_1447 rfl rfl rfl rfl rfl rfl (by decide) rfl (by decide) (ok_X10_order hR  g776) ?_
        show mr X _ _ 1450 _ [.int q775] (MM RR S0) _
        refine mr_pop_int (pc' := 1451) dL_law_1450 rfl ?_
        refine mr_aload_n (pc' := 1452) dL_law_1451 rfl rfl ?_
        refine mr_aload_n (pc' := 1453) dL_law_1452 rfl rfl ?_
        refine mr_iload_n (pc' := 1454) dL_law_1453 rfl rfl ?_
        refine mr_iconst (pc' := 1455) (v := (1 : Int32)) dL_law_1454 rfl (by decide) ?_
        refine mr_iadd (pc' := 1456) dL_law_1455 rfl ?_
        obtain ⟨a778, g779, h780⟩ := Option.bind_eq_some_iff.mp h777
        refine mr_xald (pc' := 1457) hL dL_law_1456 rfl g779 ?_
        obtain ⟨q781, g782, h783⟩ := Option.bind_eq_some_iff.mp h780
        refine mr_cv (pc' := 1460) (a := 145) (d1 := 2) dL_law_1457 rfl rfl rfl rfl rfl rfl (by decide) rfl (by decide) (ok_X11_order hR  g782) ?_
        show mr X _ _ 1460 _ [.int q781] (MM RR S0) _
        refine mr_pop_int (pc' := 1461) dL_law_1460 rfl ?_
        refine mr_goto (t := 1619) dL_law_1461 (by decide) ?_
        refine mr_iinc (pc' := 1622) (x' := (p3 + (6 : Int32))) (lv' := [(3, .int (p3 + (6 : Int32))), (0, .ref mm_ext), (1, .ref 0), (2, .ref 145)]) dL_law_1619 rfl (by decide) rfl rfl rfl ?_
        refine mr_goto (t := 18) dL_law_1622 (by decide) ?_
        exact mr_sub [(0, .ref mm_ext), (1, .ref 0), (2, .ref 145), (3, .int (p3 + (6 : Int32)))] ⟨rfl, rfl, rfl, rfl, trivial⟩ rfl (ih _ _  h783)
      rw [if_neg c771] at h4
      by_cases c784 : (a2 &&& (63 : Int32)) = (32 : Int32)
      · rw [if_pos c784] at h4
        refine mr_sw_in (t := 1464) (v := (32 : Int32)) dL_law_33 c784 rfl ?_
        refine mr_aload_n (pc' := 1465) dL_law_1464 rfl rfl ?_
        refine mr_aload_n (pc' := 1466) dL_law_1465 rfl rfl ?_
        refine mr_iload_n (pc' := 1467) dL_law_1466 rfl rfl ?_
        refine mr_iconst (pc' := 1468) (v := (1 : Int32)) dL_law_1467 rfl (by decide) ?_
        refine mr_iadd (pc' := 1469) dL_law_1468 rfl ?_
        obtain ⟨a785, g786, h787⟩ := Option.bind_eq_some_iff.mp h4
        refine mr_xald (pc' := 1470) hL dL_law_1469 rfl g786 ?_
        obtain ⟨q788, g789, h790⟩ := Option.bind_eq_some_iff.mp h787
        refine mr_cv (pc' := 1473) (a := 0) (d1 := 0) dL_law_1470 rfl rfl rfl rfl rfl rfl (by decide) rfl (by decide) (ok_X10_seed hR  g789) ?_
        show mr X _ _ 1473 _ [.int q788.1] (MM RR q788.2) _
        refine mr_pop_int (pc' := 1474) dL_law_1473 rfl ?_
        refine mr_aload_n (pc' := 1475) dL_law_1474 rfl rfl ?_
        refine mr_aload_n (pc' := 1476) dL_law_1475 rfl rfl ?_
        refine mr_iload_n (pc' := 1477) dL_law_1476 rfl rfl ?_
        refine mr_iconst (pc' := 1478) (v := (1 : Int32)) dL_law_1477 rfl (by decide) ?_
        refine mr_iadd (pc' := 1479) dL_law_1478 rfl ?_
        obtain ⟨a791, g792, h793⟩ := Option.bind_eq_some_iff.mp h790
        refine mr_xald (pc' := 1480) hL dL_law_1479 rfl g792 ?_
        obtain ⟨q794, g795, h796⟩ := Option.bind_eq_some_iff.mp h793
        refine mr_cv (pc' := 1483) (a := 145) (d1 := 0) dL_law_1480 rfl rfl rfl rfl rfl rfl (by decide) rfl (by decide) (ok_X11_seed hR  g795) ?_
        show mr X _ _ 1483 _ [.int q794.1] (MM RR q794.2) _
        refine mr_pop_int (pc' := 1484) dL_law_1483 rfl ?_
        refine mr_goto (t := 1619) dL_law_1484 (by decide) ?_
        refine mr_iinc (pc' := 1622) (x' := (p3 + (6 : Int32))) (lv' := [(3, .int (p3 + (6 : Int32))), (0, .ref mm_ext), (1, .ref 0), (2, .ref 145)]) dL_law_1619 rfl (by decide) rfl rfl rfl ?_
        refine mr_goto (t := 18) dL_law_1622 (by decide) ?_
        exact mr_sub [(0, .ref mm_ext), (1, .ref 0), (2, .ref 145), (3, .int (p3 + (6 : Int32)))] ⟨rfl, rfl, rfl, rfl, trivial⟩ rfl (ih _ _  h796)
      rw [if_neg c784] at h4
      by_cases c797 : (a2 &&& (63 : Int32)) = (33 : Int32)
      · rw [if_pos c797] at h4
        refine mr_sw_in (t := 1487) (v := (33 : Int32)) dL_law_33 c797 rfl ?_
        refine mr_aload_n (pc' := 1488) dL_law_1487 rfl rfl ?_
        refine mr_aload_n (pc' := 1489) dL_law_1488 rfl rfl ?_
        refine mr_iload_n (pc' := 1490) dL_law_1489 rfl rfl ?_
        refine mr_iconst (pc' := 1491) (v := (1 : Int32)) dL_law_1490 rfl (by decide) ?_
        refine mr_iadd (pc' := 1492) dL_law_1491 rfl ?_
        obtain ⟨a798, g799, h800⟩ := Option.bind_eq_some_iff.mp h4
        refine mr_xald (pc' := 1493) hL dL_law_1492 rfl g799 ?_
        refine mr_aload_n (pc' := 1494) dL_law_1493 rfl rfl ?_
        refine mr_iload_n (pc' := 1495) dL_law_1494 rfl rfl ?_
        refine mr_iconst (pc' := 1496) (v := (2 : Int32)) dL_law_1495 rfl (by decide) ?_
        refine mr_iadd (pc' := 1497) dL_law_1496 rfl ?_
        obtain ⟨a801, g802, h803⟩ := Option.bind_eq_some_iff.mp h800
        refine mr_xald (pc' := 1498) hL dL_law_1497 rfl g802 ?_
        refine mr_aload_n (pc' := 1499) dL_law_1498 rfl rfl ?_
        refine mr_iload_n (pc' := 1500) dL_law_1499 rfl rfl ?_
        refine mr_iconst (pc' := 1501) (v := (3 : Int32)) dL_law_1500 rfl (by decide) ?_
        refine mr_iadd (pc' := 1502) dL_law_1501 rfl ?_
        obtain ⟨a804, g805, h806⟩ := Option.bind_eq_some_iff.mp h803
        refine mr_xald (pc' := 1503) hL dL_law_1502 rfl g805 ?_
        refine mr_aload_n (pc' := 1504) dL_law_1503 rfl rfl ?_
        refine mr_iload_n (pc' := 1505) dL_law_1504 rfl rfl ?_
        refine mr_iconst (pc' := 1506) (v := (4 : Int32)) dL_law_1505 rfl (by decide) ?_
        refine mr_iadd (pc' := 1507) dL_law_1506 rfl ?_
        obtain ⟨a807, g808, h809⟩ := Option.bind_eq_some_iff.mp h806
        refine mr_xald (pc' := 1508) hL dL_law_1507 rfl g808 ?_
        refine mr_aload_n (pc' := 1509) dL_law_1508 rfl rfl ?_
        refine mr_iload_n (pc' := 1510) dL_law_1509 rfl rfl ?_
        refine mr_iconst (pc' := 1511) (v := (5 : Int32)) dL_law_1510 rfl (by decide) ?_
        refine mr_iadd (pc' := 1512) dL_law_1511 rfl ?_
        obtain ⟨a810, g811, h812⟩ := Option.bind_eq_some_iff.mp h809
        refine mr_xald (pc' := 1513) hL dL_law_1512 rfl g811 ?_
        obtain ⟨q813, g814, h815⟩ := Option.bind_eq_some_iff.mp h812
        refine mr_cv (pc' := 1516) (a := 0) (d1 := 4) dL_law_1513 rfl rfl rfl rfl rfl rfl (by decide) rfl (by decide) (ok_X10_meetings hR  g814) ?_
        show mr X _ _ 1516 _ [.int q813.1] (MM RR q813.2) _
        refine mr_pop_int (pc' := 1517) dL_law_1516 rfl ?_
        refine mr_aload_n (pc' := 1518) dL_law_1517 rfl rfl ?_
        refine mr_aload_n (pc' := 1519) dL_law_1518 rfl rfl ?_
        refine mr_iload_n (pc' := 1520) dL_law_1519 rfl rfl ?_
        refine mr_iconst (pc' := 1521) (v := (1 : Int32)) dL_law_1520 rfl (by decide) ?_
        refine mr_iadd (pc' := 1522) dL_law_1521 rfl ?_
        obtain ⟨a816, g817, h818⟩ := Option.bind_eq_some_iff.mp h815
        refine mr_xald (pc' := 1523) hL dL_law_1522 rfl g817 ?_
        refine mr_aload_n (pc' := 1524) dL_law_1523 rfl rfl ?_
        refine mr_iload_n (pc' := 1525) dL_law_1524 rfl rfl ?_
        refine mr_iconst (pc' := 1526) (v := (2 : Int32)) dL_law_1525 rfl (by decide) ?_
        refine mr_iadd (pc' := 1527) dL_law_1526 rfl ?_
        obtain ⟨a819, g820, h821⟩ := Option.bind_eq_some_iff.mp h818
        refine mr_xald (pc' := 1528) hL dL_law_1527 rfl g820 ?_
        refine mr_aload_n (pc' := 1529) dL_law_1528 rfl rfl ?_
        refine mr_iload_n (pc' := 1530) dL_law_1529 rfl rfl ?_
        refine mr_iconst (pc' := 1531) (v := (3 : Int32)) dL_law_1530 rfl (by decide) ?_
        refine mr_iadd (pc' := 1532) dL_law_1531 rfl ?_
        obtain ⟨a822, g823, h824⟩ := Option.bind_eq_some_iff.mp h821
        refine mr_xald (pc' := 1533) hL dL_law_1532 rfl g823 ?_
        refine mr_aload_n (pc' := 1534) dL_law_1533 rfl rfl ?_
        refine mr_iload_n (pc' := 1535) dL_law_1534 rfl rfl ?_
        refine mr_iconst (pc' := 1536) (v := (4 : Int32)) dL_law_1535 rfl (by decide) ?_
        refine mr_iadd (pc' := 1537) dL_law_1536 rfl ?_
        obtain ⟨a825, g826, h827⟩ := Option.bind_eq_some_iff.mp h824
        refine mr_xald (pc' := 1538) hL dL_law_1537 rfl g826 ?_
        refine mr_aload_n (pc' := 1539) dL_law_1538 rfl rfl ?_
        refine mr_iload_n (pc' := 1540) dL_law_1539 rfl rfl ?_
        refine mr_iconst (pc' := 1541) (v := (5 : Int32)) dL_law_1540 rfl (by decide) ?_
        refine mr_iadd (pc' := 1542) dL_law_1541 rfl ?_
        obtain ⟨a828, g829, h830⟩ := Option.bind_eq_some_iff.mp h827
        refine mr_xald (pc' := 1543) hL dL_law_1542 rfl g829 ?_
        obtain ⟨q831, g832, h833⟩ := Option.bind_eq_some_iff.mp h830
        refine mr_cv (pc' := 1546) (a := 145) (d1 := 4) dL_law_1543 rfl rfl rfl rfl rfl rfl (by decide) rfl (by decide) (ok_X11_meetings hR  g832) ?_
        show mr X _ _ 1546 _ [.int q831.1] (MM RR q831.2) _
        refine mr_pop_int (pc' := 1547) dL_law_1546 rfl ?_
        refine mr_goto (t := 1619) dL_law_1547 (by decide) ?_
        refine mr_iinc (pc' := 1622) (x' := (p3 + (6 : Int32))) (lv' := [(3, .int (p3 + (6 : Int32))), (0, .ref mm_ext), (1, .ref 0), (2, .ref 145)]) dL_law_1619 rfl (by decide) rfl rfl rfl ?_
        refine mr_goto (t := 18) dL_law_1622 (by decide) ?_
        exact mr_sub [(0, .ref mm_ext), (1, .ref 0), (2, .ref 145), (3, .int (p3 + (6 : Int32)))] ⟨rfl, rfl, rfl, rfl, trivial⟩ rfl (ih _ _  h833)
      rw [if_neg c797] at h4
      by_cases c834 : (a2 &&& (63 : Int32)) = (34 : Int32)
      · rw [if_pos c834] at h4
        refine mr_sw_in (t := 1550) (v := (34 : Int32)) dL_law_33 c834 rfl ?_
        refine mr_aload_n (pc' := 1551) dL_law_1550 rfl rfl ?_
        refine mr_aload_n (pc' := 1552) dL_law_1551 rfl rfl ?_
        refine mr_iload_n (pc' := 1553) dL_law_1552 rfl rfl ?_
        refine mr_iconst (pc' := 1554) (v := (1 : Int32)) dL_law_1553 rfl (by decide) ?_
        refine mr_iadd (pc' := 1555) dL_law_1554 rfl ?_
        obtain ⟨a835, g836, h837⟩ := Option.bind_eq_some_iff.mp h4
        refine mr_xald (pc' := 1556) hL dL_law_1555 rfl g836 ?_
        obtain ⟨q838, g839, h840⟩ := Option.bind_eq_some_iff.mp h837
        refine mr_cv (pc' := 1559) (a := 0) (d1 := 4) dL_law_1556 rfl rfl rfl rfl rfl rfl (by decide) rfl (by decide) (ok_X10_count hR  g839) ?_
        show mr X _ _ 1559 _ [.int q838] (MM RR S0) _
        refine mr_pop_int (pc' := 1560) dL_law_1559 rfl ?_
        refine mr_aload_n (pc' := 1561) dL_law_1560 rfl rfl ?_
        refine mr_aload_n (pc' := 1562) dL_law_1561 rfl rfl ?_
        refine mr_iload_n (pc' := 1563) dL_law_1562 rfl rfl ?_
        refine mr_iconst (pc' := 1564) (v := (1 : Int32)) dL_law_1563 rfl (by decide) ?_
        refine mr_iadd (pc' := 1565) dL_law_1564 rfl ?_
        obtain ⟨a841, g842, h843⟩ := Option.bind_eq_some_iff.mp h840
        refine mr_xald (pc' := 1566) hL dL_law_1565 rfl g842 ?_
        obtain ⟨q844, g845, h846⟩ := Option.bind_eq_some_iff.mp h843
        refine mr_cv (pc' := 1569) (a := 145) (d1 := 3) dL_law_1566 rfl rfl rfl rfl rfl rfl (by decide) rfl (by decide) (ok_X11_count hR  g845) ?_
        show mr X _ _ 1569 _ [.int q844] (MM RR S0) _
        refine mr_pop_int (pc' := 1570) dL_law_1569 rfl ?_
        refine mr_goto (t := 1619) dL_law_1570 (by decide) ?_
        refine mr_iinc (pc' := 1622) (x' := (p3 + (6 : Int32))) (lv' := [(3, .int (p3 + (6 : Int32))), (0, .ref mm_ext), (1, .ref 0), (2, .ref 145)]) dL_law_1619 rfl (by decide) rfl rfl rfl ?_
        refine mr_goto (t := 18) dL_law_1622 (by decide) ?_
        exact mr_sub [(0, .ref mm_ext), (1, .ref 0), (2, .ref 145), (3, .int (p3 + (6 : Int32)))] ⟨rfl, rfl, rfl, rfl, trivial⟩ rfl (ih _ _  h846)
      rw [if_neg c834] at h4
      by_cases c847 : (a2 &&& (63 : Int32)) = (35 : Int32)
      · rw [if_pos c847] at h4
        refine mr_sw_in (t := 1573) (v := (35 : Int32)) dL_law_33 c847 rfl ?_
        refine mr_aload_n (pc' := 1574) dL_law_1573 rfl rfl ?_
        refine mr_aload_n (pc' := 1575) dL_law_1574 rfl rfl ?_
        refine mr_iload_n (pc' := 1576) dL_law_1575 rfl rfl ?_
        refine mr_iconst (pc' := 1577) (v := (1 : Int32)) dL_law_1576 rfl (by decide) ?_
        refine mr_iadd (pc' := 1578) dL_law_1577 rfl ?_
        obtain ⟨a848, g849, h850⟩ := Option.bind_eq_some_iff.mp h4
        refine mr_xald (pc' := 1579) hL dL_law_1578 rfl g849 ?_
        obtain ⟨q851, g852, h853⟩ := Option.bind_eq_some_iff.mp h850
        refine mr_cv (pc' := 1582) (a := 0) (d1 := 2) dL_law_1579 rfl rfl rfl rfl rfl rfl (by decide) rfl (by decide) (ok_X10_image hR  g852) ?_
        show mr X _ _ 1582 _ [.int q851.1] (MM RR q851.2) _
        refine mr_pop_int (pc' := 1583) dL_law_1582 rfl ?_
        refine mr_aload_n (pc' := 1584) dL_law_1583 rfl rfl ?_
        refine mr_aload_n (pc' := 1585) dL_law_1584 rfl rfl ?_
        refine mr_iload_n (pc' := 1586) dL_law_1585 rfl rfl ?_
        refine mr_iconst (pc' := 1587) (v := (1 : Int32)) dL_law_1586 rfl (by decide) ?_
        refine mr_iadd (pc' := 1588) dL_law_1587 rfl ?_
        obtain ⟨a854, g855, h856⟩ := Option.bind_eq_some_iff.mp h853
        refine mr_xald (pc' := 1589) hL dL_law_1588 rfl g855 ?_
        obtain ⟨q857, g858, h859⟩ := Option.bind_eq_some_iff.mp h856
        refine mr_cv (pc' := 1592) (a := 145) (d1 := 1) dL_law_1589 rfl rfl rfl rfl rfl rfl (by decide) rfl (by decide) (ok_X11_image hR  g858) ?_
        show mr X _ _ 1592 _ [.int q857.1] (MM RR q857.2) _
        refine mr_pop_int (pc' := 1593) dL_law_1592 rfl ?_
        refine mr_goto (t := 1619) dL_law_1593 (by decide) ?_
        refine mr_iinc (pc' := 1622) (x' := (p3 + (6 : Int32))) (lv' := [(3, .int (p3 + (6 : Int32))), (0, .ref mm_ext), (1, .ref 0), (2, .ref 145)]) dL_law_1619 rfl (by decide) rfl rfl rfl ?_
        refine mr_goto (t := 18) dL_law_1622 (by decide) ?_
        exact mr_sub [(0, .ref mm_ext), (1, .ref 0), (2, .ref 145), (3, .int (p3 + (6 : Int32)))] ⟨rfl, rfl, rfl, rfl, trivial⟩ rfl (ih _ _  h859)
      rw [if_neg c847] at h4
      by_cases c860 : (a2 &&& (63 : Int32)) = (36 : Int32)
      · rw [if_pos c860] at h4
        refine mr_sw_in (t := 1596) (v := (36 : Int32)) dL_law_33 c860 rfl ?_
        refine mr_aload_n (pc' := 1597) dL_law_1596 rfl rfl ?_
        refine mr_aload_n (pc' := 1598) dL_law_1597 rfl rfl ?_
        refine mr_iload_n (pc' := 1599) dL_law_1598 rfl rfl ?_
        refine mr_iconst (pc' := 1600) (v := (1 : Int32)) dL_law_1599 rfl (by decide) ?_
        refine mr_iadd (pc' := 1601) dL_law_1600 rfl ?_
        obtain ⟨a861, g862, h863⟩ := Option.bind_eq_some_iff.mp h4
        refine mr_xald (pc' := 1602) hL dL_law_1601 rfl g862 ?_
        obtain ⟨q864, g865, h866⟩ := Option.bind_eq_some_iff.mp h863
        refine mr_cv (pc' := 1605) (a := 0) (d1 := 2) dL_law_1602 rfl rfl rfl rfl rfl rfl (by decide) rfl (by decide) (ok_X10_back hR  g865) ?_
        show mr X _ _ 1605 _ [.int q864.1] (MM RR q864.2) _
        refine mr_aload_n (pc' := 1606) dL_law_1605 rfl rfl ?_
        refine mr_aload_n (pc' := 1607) dL_law_1606 rfl rfl ?_
        refine mr_iload_n (pc' := 1608) dL_law_1607 rfl rfl ?_
        refine mr_iconst (pc' := 1609) (v := (1 : Int32)) dL_law_1608 rfl (by decide) ?_
        refine mr_iadd (pc' := 1610) dL_law_1609 rfl ?_
        obtain ⟨a867, g868, h869⟩ := Option.bind_eq_some_iff.mp h866
        refine mr_xald (pc' := 1611) hL dL_law_1610 rfl g868 ?_
        obtain ⟨q870, g871, h872⟩ := Option.bind_eq_some_iff.mp h869
        refine mr_cv (pc' := 1614) (a := 145) (d1 := 2) dL_law_1611 rfl rfl rfl rfl rfl rfl (by decide) rfl (by decide) (ok_X11_back hR  g871) ?_
        show mr X _ _ 1614 _ [.int q870.1, .int q864.1] (MM RR q870.2) _
        by_cases c873 : q864.1 = q870.1
        · rw [if_pos c873] at h872
          refine mr_icmp_eq_t (t := 1619) dL_law_1614 (by decide) c873 ?_
          refine mr_iinc (pc' := 1622) (x' := (p3 + (6 : Int32))) (lv' := [(3, .int (p3 + (6 : Int32))), (0, .ref mm_ext), (1, .ref 0), (2, .ref 145)]) dL_law_1619 rfl (by decide) rfl rfl rfl ?_
          refine mr_goto (t := 18) dL_law_1622 (by decide) ?_
          exact mr_sub [(0, .ref mm_ext), (1, .ref 0), (2, .ref 145), (3, .int (p3 + (6 : Int32)))] ⟨rfl, rfl, rfl, rfl, trivial⟩ rfl (ih _ _  h872)
        · rw [if_neg c873] at h872
          refine mr_icmp_eq_f (t := 1619) (pc' := 1617) dL_law_1614 (by decide) rfl c873 ?_
          refine mr_iconst (pc' := 1618) (v := (0 : Int32)) dL_law_1617 rfl (by decide) ?_
          obtain rfl := Option.some.inj h872
          exact mr_zreturn dL_law_1618 rfl (by decide)
      rw [if_neg c860] at h4
      refine mr_sw_out (t := 1619) dL_law_33 (by have := i32ne c5 (k := 0) (by decide); have := i32ne c42 (k := 1) (by decide); have := i32ne c55 (k := 2) (by decide); have := i32ne c62 (k := 3) (by decide); have := i32ne c69 (k := 4) (by decide); have := i32ne c88 (k := 5) (by decide); have := i32ne c107 (k := 6) (by decide); have := i32ne c126 (k := 7) (by decide); have := i32ne c145 (k := 8) (by decide); have := i32ne c164 (k := 9) (by decide); have := i32ne c183 (k := 10) (by decide); have := i32ne c202 (k := 11) (by decide); have := i32ne c233 (k := 12) (by decide); have := i32ne c252 (k := 13) (by decide); have := i32ne c271 (k := 14) (by decide); have := i32ne c296 (k := 15) (by decide); have := i32ne c321 (k := 16) (by decide); have := i32ne c397 (k := 17) (by decide); have := i32ne c434 (k := 18) (by decide); have := i32ne c471 (k := 19) (by decide); have := i32ne c508 (k := 20) (by decide); have := i32ne c539 (k := 21) (by decide); have := i32ne c588 (k := 22) (by decide); have := i32ne c619 (k := 23) (by decide); have := i32ne c644 (k := 24) (by decide); have := i32ne c669 (k := 25) (by decide); have := i32ne c688 (k := 26) (by decide); have := i32ne c695 (k := 27) (by decide); have := i32ne c720 (k := 28) (by decide); have := i32ne c745 (k := 29) (by decide); have := i32ne c764 (k := 30) (by decide); have := i32ne c771 (k := 31) (by decide); have := i32ne c784 (k := 32) (by decide); have := i32ne c797 (k := 33) (by decide); have := i32ne c834 (k := 34) (by decide); have := i32ne c847 (k := 35) (by decide); have := i32ne c860 (k := 36) (by decide); omega) (by decide) ?_
      refine mr_iinc (pc' := 1622) (x' := (p3 + (6 : Int32))) (lv' := [(3, .int (p3 + (6 : Int32))), (0, .ref mm_ext), (1, .ref 0), (2, .ref 145)]) dL_law_1619 rfl (by decide) rfl rfl rfl ?_
      refine mr_goto (t := 18) dL_law_1622 (by decide) ?_
      exact mr_sub [(0, .ref mm_ext), (1, .ref 0), (2, .ref 145), (3, .int (p3 + (6 : Int32)))] ⟨rfl, rfl, rfl, rfl, trivial⟩ rfl (ih _ _  h4)
