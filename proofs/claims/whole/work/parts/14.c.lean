/-! CERTIFICATES (by program: wip/whole/gen_certs.py) -/
set_option maxRecDepth 100000 in
theorem qX10_seeksMost_0 : cks RX10 "seeksMost" cX10_seeksMost tX10_seeksMost 0 9 [[], [], [624, 511, 512, 70, 513], [], [], [], [], [], []] = true := by decide +kernel
theorem nX10_seeksMost : tX10_seeksMost.length = 9 := by decide +kernel
theorem okX10_seeksMost : tOK RX10 "seeksMost" cX10_seeksMost MT tX10_seeksMost := tOK_of (fun j x hj hx => cks_ok qX10_seeksMost_0 j x (by omega) (by rw [nX10_seeksMost] at hj; omega) hx)
set_option maxRecDepth 100000 in
theorem qX10_everyone_0 : cks RX10 "everyone" cX10_everyone tX10_everyone 0 7 [[], [], [159], [], [], [], []] = true := by decide +kernel
theorem nX10_everyone : tX10_everyone.length = 7 := by decide +kernel
theorem okX10_everyone : tOK RX10 "everyone" cX10_everyone MT tX10_everyone := tOK_of (fun j x hj hx => cks_ok qX10_everyone_0 j x (by omega) (by rw [nX10_everyone] at hj; omega) hx)
set_option maxRecDepth 100000 in
theorem qX10_addState_0 : cks RX10 "addState" cX10_addState tX10_addState 0 17 [[], [], [172], [], [], [172], [], [], [159], [], [], [159], [], [159], [], [], []] = true := by decide +kernel
theorem nX10_addState : tX10_addState.length = 17 := by decide +kernel
theorem okX10_addState : tOK RX10 "addState" cX10_addState MT tX10_addState := tOK_of (fun j x hj hx => cks_ok qX10_addState_0 j x (by omega) (by rw [nX10_addState] at hj; omega) hx)
set_option maxRecDepth 100000 in
theorem qX10_addAct_0 : cks RX10 "addAct" cX10_addAct tX10_addAct 0 31 [[], [], [172], [], [], [172], [], [], [], [179], [], [], [518, 519, 520, 70, 521], [], [], [522, 523, 524, 71, 525], [], [179], [], [], [], [], [], [], [], [179], [], [], [], [], []] = true := by decide +kernel
theorem nX10_addAct : tX10_addAct.length = 31 := by decide +kernel
theorem okX10_addAct : tOK RX10 "addAct" cX10_addAct MT tX10_addAct := tOK_of (fun j x hj hx => cks_ok qX10_addAct_0 j x (by omega) (by rw [nX10_addAct] at hj; omega) hx)
set_option maxRecDepth 100000 in
theorem qX10_addOutcome_0 : cks RX10 "addOutcome" cX10_addOutcome tX10_addOutcome 0 13 [[], [], [172], [], [], [172], [], [], [], [551, 552, 553, 71, 554], [], [127], []] = true := by decide +kernel
theorem nX10_addOutcome : tX10_addOutcome.length = 13 := by decide +kernel
theorem okX10_addOutcome : tOK RX10 "addOutcome" cX10_addOutcome MT tX10_addOutcome := tOK_of (fun j x hj hx => cks_ok qX10_addOutcome_0 j x (by omega) (by rw [nX10_addOutcome] at hj; omega) hx)
set_option maxRecDepth 100000 in
theorem qX10_removeAct_0 : cks RX10 "removeAct" cX10_removeAct tX10_removeAct 0 19 [[], [], [172], [], [], [172], [], [179], [], [], [], [], [], [], [], [179], [], [], []] = true := by decide +kernel
theorem nX10_removeAct : tX10_removeAct.length = 19 := by decide +kernel
theorem okX10_removeAct : tOK RX10 "removeAct" cX10_removeAct MT tX10_removeAct := tOK_of (fun j x hj hx => cks_ok qX10_removeAct_0 j x (by omega) (by rw [nX10_removeAct] at hj; omega) hx)
set_option maxRecDepth 100000 in
theorem qX10_setMarked_0 : cks RX10 "setMarked" cX10_setMarked tX10_setMarked 0 10 [[], [], [172], [], [], [172], [], [], [171], []] = true := by decide +kernel
theorem nX10_setMarked : tX10_setMarked.length = 10 := by decide +kernel
theorem okX10_setMarked : tOK RX10 "setMarked" cX10_setMarked MT tX10_setMarked := tOK_of (fun j x hj hx => cks_ok qX10_setMarked_0 j x (by omega) (by rw [nX10_setMarked] at hj; omega) hx)
set_option maxRecDepth 100000 in
theorem qX10_isWhole_0 : cks RX10 "isWhole" cX10_isWhole tX10_isWhole 0 7 [[], [605, 586, 587, 70, 588], [], [], [], [], []] = true := by decide +kernel
theorem nX10_isWhole : tX10_isWhole.length = 7 := by decide +kernel
theorem okX10_isWhole : tOK RX10 "isWhole" cX10_isWhole MT tX10_isWhole := tOK_of (fun j x hj hx => cks_ok qX10_isWhole_0 j x (by omega) (by rw [nX10_isWhole] at hj; omega) hx)
set_option maxRecDepth 100000 in
theorem qX10_lacking_0 : cks RX10 "lacking" cX10_lacking tX10_lacking 0 32 [[], [], [], [], [], [], [159], [], [], [], [], [], [179], [], [], [], [], [], [], [], [], [518, 519, 520, 70, 521], [127], [], [], [], [], [], [], [], [], []] = true := by decide +kernel
theorem nX10_lacking : tX10_lacking.length = 32 := by decide +kernel
theorem okX10_lacking : tOK RX10 "lacking" cX10_lacking MT tX10_lacking := tOK_of (fun j x hj hx => cks_ok qX10_lacking_0 j x (by omega) (by rw [nX10_lacking] at hj; omega) hx)
set_option maxRecDepth 100000 in
theorem qX10_allActs_0 : cks RX10 "allActs" cX10_allActs tX10_allActs 0 19 [[], [], [], [], [], [], [159], [], [], [], [179], [], [], [], [], [], [], [], []] = true := by decide +kernel
theorem nX10_allActs : tX10_allActs.length = 19 := by decide +kernel
theorem okX10_allActs : tOK RX10 "allActs" cX10_allActs MT tX10_allActs := tOK_of (fun j x hj hx => cks_ok qX10_allActs_0 j x (by omega) (by rw [nX10_allActs] at hj; omega) hx)
set_option maxRecDepth 100000 in
theorem qX10_allOutcomes_0 : cks RX10 "allOutcomes" cX10_allOutcomes tX10_allOutcomes 0 30 [[], [], [], [], [], [], [159], [], [], [], [], [], [179], [], [], [], [], [], [], [], [518, 519, 520, 70, 521], [124], [], [], [], [], [], [], [], []] = true := by decide +kernel
theorem nX10_allOutcomes : tX10_allOutcomes.length = 30 := by decide +kernel
theorem okX10_allOutcomes : tOK RX10 "allOutcomes" cX10_allOutcomes MT tX10_allOutcomes := tOK_of (fun j x hj hx => cks_ok qX10_allOutcomes_0 j x (by omega) (by rw [nX10_allOutcomes] at hj; omega) hx)
set_option maxRecDepth 100000 in
theorem qX10_foeActs_0 : cks RX10 "foeActs" cX10_foeActs tX10_foeActs 0 25 [[], [], [], [], [], [], [159], [], [], [], [], [624, 511, 512, 70, 513], [], [], [179], [], [], [], [], [], [], [], [], [], []] = true := by decide +kernel
theorem nX10_foeActs : tX10_foeActs.length = 25 := by decide +kernel
theorem okX10_foeActs : tOK RX10 "foeActs" cX10_foeActs MT tX10_foeActs := tOK_of (fun j x hj hx => cks_ok qX10_foeActs_0 j x (by omega) (by rw [nX10_foeActs] at hj; omega) hx)
set_option maxRecDepth 100000 in
theorem qX10_nextOf_0 : cks RX10 "nextOf" cX10_nextOf tX10_nextOf 0 30 [[], [], [], [], [], [], [179], [], [], [], [], [], [], [518, 519, 520, 70, 521], [], [], [], [], [773, 627, 628, 71, 629], [], [], [132], [], [], [], [], [], [], [], []] = true := by decide +kernel
theorem nX10_nextOf : tX10_nextOf.length = 30 := by decide +kernel
theorem okX10_nextOf : tOK RX10 "nextOf" cX10_nextOf MT tX10_nextOf := tOK_of (fun j x hj hx => cks_ok qX10_nextOf_0 j x (by omega) (by rw [nX10_nextOf] at hj; omega) hx)
set_option maxRecDepth 100000 in
theorem qX10_reachedFrom_0 : cks RX10 "reachedFrom" cX10_reachedFrom tX10_reachedFrom 0 48 [[], [], [], [], [], [], [], [], [], [], [], [], [], [], [], [], [], [], [], [159], [], [], [], [], [767, 545, 69, 546], [], [], [], [], [768, 568, 569, 70, 570], [769, 770, 771, 70, 772], [], [], [], [], [], [], [], [], [], [], [], [], [], [], [], [], []] = true := by decide +kernel
theorem nX10_reachedFrom : tX10_reachedFrom.length = 48 := by decide +kernel
theorem okX10_reachedFrom : tOK RX10 "reachedFrom" cX10_reachedFrom MT tX10_reachedFrom := tOK_of (fun j x hj hx => cks_ok qX10_reachedFrom_0 j x (by omega) (by rw [nX10_reachedFrom] at hj; omega) hx)
set_option maxRecDepth 100000 in
theorem qX11_init_0 : cks RX11 "<init>" cX11_init tX11_init 0 60 [[], [95, 96, 97], [], [98, 99, 70], [], [100, 101, 70, 102], [463], [], [200, 201, 72], [], [], [463], [], [202, 203, 72, 204], [464], [], [200, 201, 72], [], [], [463], [], [202, 203, 72, 204], [465], [], [296, 297, 75], [], [], [463], [], [464], [298, 299, 75, 300], [466], [], [316, 317, 76], [], [], [463], [], [318, 319, 76, 320], [467], [], [316, 317, 76], [], [], [463], [], [318, 319, 76, 320], [468], [], [341, 342, 77], [], [], [463], [], [464], [343, 344, 77, 345], [469], [], [379, 380, 78], []] = true := by decide +kernel
set_option maxRecDepth 100000 in
theorem qX11_init_1 : cks RX11 "<init>" cX11_init tX11_init 60 30 [[], [463], [381, 382, 78, 383], [470], [], [406, 407, 79], [], [], [463], [408, 409, 79, 410], [471], [], [], [433], [472], [], [], [], [], [], [], [472], [], [433, 435, 80], [], [436, 437, 80, 438], [], [], [], []] = true := by decide +kernel
theorem nX11_init : tX11_init.length = 90 := by decide +kernel
theorem okX11_init : tOK RX11 "<init>" cX11_init MT tX11_init := tOK_of (fun j x hj hx => if h0 : j < 60 then cks_ok qX11_init_0 j x (by omega) (by omega) hx else cks_ok qX11_init_1 j x (by omega) (by rw [nX11_init] at hj; omega) hx)
set_option maxRecDepth 100000 in
theorem qX11_state_0 : cks RX11 "state" cX11_state tX11_state 0 11 [[], [463], [158], [], [], [], [], [], [463], [498, 499, 500, 70, 501], []] = true := by decide +kernel
theorem nX11_state : tX11_state.length = 11 := by decide +kernel
theorem okX11_state : tOK RX11 "state" cX11_state MT tX11_state := tOK_of (fun j x hj hx => cks_ok qX11_state_0 j x (by omega) (by rw [nX11_state] at hj; omega) hx)
set_option maxRecDepth 100000 in
theorem qX11_act_0 : cks RX11 "act" cX11_act tX11_act 0 52 [[], [463], [], [506, 507, 508, 70, 509], [], [], [], [], [], [], [], [], [], [], [], [], [], [], [463], [184], [], [], [], [], [], [], [], [463], [184], [], [], [], [], [463], [], [510, 511, 512, 70, 513], [], [], [], [], [], [], [], [], [], [], [463], [], [], [], [514, 515, 516, 70, 517], []] = true := by decide +kernel
theorem nX11_act : tX11_act.length = 52 := by decide +kernel
theorem okX11_act : tOK RX11 "act" cX11_act MT tX11_act := tOK_of (fun j x hj hx => cks_ok qX11_act_0 j x (by omega) (by rw [nX11_act] at hj; omega) hx)
set_option maxRecDepth 100000 in
theorem qX11_outcome_0 : cks RX11 "outcome" cX11_outcome tX11_outcome 0 60 [[], [463], [], [], [530, 531, 532, 70, 533], [], [], [463], [], [506, 507, 508, 70, 509], [], [], [], [], [], [], [], [], [], [], [463], [], [], [535, 519, 520, 70, 521], [], [], [113], [], [], [], [], [], [], [], [], [122], [], [536, 537, 538, 71, 539], [], [], [], [], [126], [], [], [], [], [], [131], [], [544, 545, 69, 546], [], [], [], [], [463], [], [], [], [547, 548, 549, 70, 550]] = true := by decide +kernel
set_option maxRecDepth 100000 in
theorem qX11_outcome_1 : cks RX11 "outcome" cX11_outcome tX11_outcome 60 1 [[]] = true := by decide +kernel
theorem nX11_outcome : tX11_outcome.length = 61 := by decide +kernel
theorem okX11_outcome : tOK RX11 "outcome" cX11_outcome MT tX11_outcome := tOK_of (fun j x hj hx => if h0 : j < 60 then cks_ok qX11_outcome_0 j x (by omega) (by omega) hx else cks_ok qX11_outcome_1 j x (by omega) (by rw [nX11_outcome] at hj; omega) hx)
set_option maxRecDepth 100000 in
theorem qX11_drop_0 : cks RX11 "drop" cX11_drop tX11_drop 0 20 [[], [463], [], [506, 507, 508, 70, 509], [], [], [], [], [463], [184], [], [], [], [], [], [], [463], [], [559, 560, 561, 70, 562], []] = true := by decide +kernel
theorem nX11_drop : tX11_drop.length = 20 := by decide +kernel
theorem okX11_drop : tOK RX11 "drop" cX11_drop MT tX11_drop := tOK_of (fun j x hj hx => cks_ok qX11_drop_0 j x (by omega) (by rw [nX11_drop] at hj; omega) hx)
set_option maxRecDepth 100000 in
theorem qX11_mark_0 : cks RX11 "mark" cX11_mark tX11_mark 0 17 [[], [], [463], [567, 568, 569, 70, 570], [], [], [], [], [], [], [], [463], [], [571, 572, 573, 70, 574], [], [575, 576, 82, 577], []] = true := by decide +kernel
theorem nX11_mark : tX11_mark.length = 17 := by decide +kernel
theorem okX11_mark : tOK RX11 "mark" cX11_mark MT tX11_mark := tOK_of (fun j x hj hx => cks_ok qX11_mark_0 j x (by omega) (by rw [nX11_mark] at hj; omega) hx)
set_option maxRecDepth 100000 in
theorem qX11_whole_0 : cks RX11 "whole" cX11_whole tX11_whole 0 4 [[], [463], [585, 586, 587, 70, 588], []] = true := by decide +kernel
theorem nX11_whole : tX11_whole.length = 4 := by decide +kernel
theorem okX11_whole : tOK RX11 "whole" cX11_whole MT tX11_whole := tOK_of (fun j x hj hx => cks_ok qX11_whole_0 j x (by omega) (by rw [nX11_whole] at hj; omega) hx)
set_option maxRecDepth 100000 in
theorem qX11_value_0 : cks RX11 "value" cX11_value tX11_value 0 36 [[], [463], [], [506, 507, 508, 70, 509], [], [], [593, 594, 69, 595], [], [596], [], [], [], [], [465], [], [], [464], [], [], [], [597, 599, 0, 69, 600], [], [], [], [], [], [], [], [262], [], [], [], [264], [], [685, 686, 69, 687], []] = true := by decide +kernel
theorem nX11_value : tX11_value.length = 36 := by decide +kernel
theorem okX11_value : tOK RX11 "value" cX11_value MT tX11_value := tOK_of (fun j x hj hx => cks_ok qX11_value_0 j x (by omega) (by rw [nX11_value] at hj; omega) hx)
set_option maxRecDepth 100000 in
theorem qX11_choice_0 : cks RX11 "choice" cX11_choice tX11_choice 0 25 [[], [463], [], [], [530, 531, 532, 70, 533], [], [], [], [], [], [464], [597, 599, 0, 69, 600], [], [], [], [], [], [], [466], [696, 697, 698, 75, 699], [], [466], [], [713, 714, 715, 75, 716], []] = true := by decide +kernel
theorem nX11_choice : tX11_choice.length = 25 := by decide +kernel
theorem okX11_choice : tOK RX11 "choice" cX11_choice MT tX11_choice := tOK_of (fun j x hj hx => cks_ok qX11_choice_0 j x (by omega) (by rw [nX11_choice] at hj; omega) hx)
set_option maxRecDepth 100000 in
theorem qX11_distance_0 : cks RX11 "distance" cX11_distance tX11_distance 0 33 [[], [463], [], [506, 507, 508, 70, 509], [], [], [], [], [], [464], [597, 599, 0, 69, 600], [], [], [], [], [], [], [464], [270], [], [544, 545, 69, 546], [], [], [], [], [466], [696, 697, 698, 75, 699], [], [466], [306], [], [], []] = true := by decide +kernel
theorem nX11_distance : tX11_distance.length = 33 := by decide +kernel
theorem okX11_distance : tOK RX11 "distance" cX11_distance MT tX11_distance := tOK_of (fun j x hj hx => cks_ok qX11_distance_0 j x (by omega) (by rw [nX11_distance] at hj; omega) hx)
set_option maxRecDepth 100000 in
theorem qX11_sum_0 : cks RX11 "sum" cX11_sum tX11_sum 0 40 [[], [463], [], [], [530, 531, 532, 70, 533], [], [], [593, 594, 69, 595], [], [596], [], [], [], [464], [597, 599, 0, 69, 600], [], [], [], [], [], [], [], [463], [], [], [535, 519, 520, 70, 521], [], [464], [262], [731, 652, 653, 71, 654], [], [], [732], [], [464], [264], [], [], [685, 686, 69, 687], []] = true := by decide +kernel
theorem nX11_sum : tX11_sum.length = 40 := by decide +kernel
theorem okX11_sum : tOK RX11 "sum" cX11_sum MT tX11_sum := tOK_of (fun j x hj hx => cks_ok qX11_sum_0 j x (by omega) (by rw [nX11_sum] at hj; omega) hx)
set_option maxRecDepth 100000 in
theorem qX11_within_0 : cks RX11 "within" cX11_within tX11_within 0 44 [[], [463], [], [506, 507, 508, 70, 509], [], [], [], [], [], [], [], [593, 594, 69, 595], [], [596], [], [], [463], [601, 602, 603, 70, 604], [], [737], [], [], [], [], [468], [], [], [467], [], [], [738, 739, 740, 76, 741], [], [327], [], [], [], [], [], [329], [], [], [], [685, 686, 69, 687], []] = true := by decide +kernel
theorem nX11_within : tX11_within.length = 44 := by decide +kernel
theorem okX11_within : tOK RX11 "within" cX11_within MT tX11_within := tOK_of (fun j x hj hx => cks_ok qX11_within_0 j x (by omega) (by rw [nX11_within] at hj; omega) hx)
set_option maxRecDepth 100000 in
theorem qX11_bound_0 : cks RX11 "bound" cX11_bound tX11_bound 0 51 [[], [463], [], [506, 507, 508, 70, 509], [], [], [], [], [], [], [], [], [], [463], [601, 602, 603, 70, 604], [], [], [], [], [467], [738, 739, 740, 76, 741], [], [], [], [], [], [732], [], [467], [327], [], [], [], [], [], [], [], [], [467], [329], [], [], [], [], [], [], [], [], [], [], []] = true := by decide +kernel
theorem nX11_bound : tX11_bound.length = 51 := by decide +kernel
theorem okX11_bound : tOK RX11 "bound" cX11_bound MT tX11_bound := tOK_of (fun j x hj hx => cks_ok qX11_bound_0 j x (by omega) (by rw [nX11_bound] at hj; omega) hx)
set_option maxRecDepth 100000 in
theorem qX11_sets_0 : cks RX11 "sets" cX11_sets tX11_sets 0 34 [[], [], [], [], [], [], [], [], [463], [601, 602, 603, 70, 604], [], [], [], [], [], [], [], [464], [], [], [465], [], [], [606, 607, 608, 72, 609], [], [], [], [], [], [267], [], [], [270], []] = true := by decide +kernel
theorem nX11_sets : tX11_sets.length = 34 := by decide +kernel
theorem okX11_sets : tOK RX11 "sets" cX11_sets MT tX11_sets := tOK_of (fun j x hj hx => cks_ok qX11_sets_0 j x (by omega) (by rw [nX11_sets] at hj; omega) hx)
set_option maxRecDepth 100000 in
theorem qX11_reached_0 : cks RX11 "reached" cX11_reached tX11_reached 0 12 [[], [463], [], [506, 507, 508, 70, 509], [], [], [], [], [463], [], [763, 764, 765, 70, 766], []] = true := by decide +kernel
theorem nX11_reached : tX11_reached.length = 12 := by decide +kernel
theorem okX11_reached : tOK RX11 "reached" cX11_reached MT tX11_reached := tOK_of (fun j x hj hx => cks_ok qX11_reached_0 j x (by omega) (by rw [nX11_reached] at hj; omega) hx)
set_option maxRecDepth 100000 in
theorem qX11_cost_0 : cks RX11 "cost" cX11_cost tX11_cost 0 44 [[], [463], [], [506, 507, 508, 70, 509], [], [], [593, 594, 69, 595], [], [596], [], [], [463], [601, 602, 603, 70, 604], [], [737], [], [], [469], [778, 779, 780, 77, 781], [], [469], [361], [], [810], [], [], [464], [267], [], [544, 545, 69, 546], [], [811], [], [], [469], [357], [], [], [], [469], [359], [], [685, 686, 69, 687], []] = true := by decide +kernel
theorem nX11_cost : tX11_cost.length = 44 := by decide +kernel
theorem okX11_cost : tOK RX11 "cost" cX11_cost MT tX11_cost := tOK_of (fun j x hj hx => cks_ok qX11_cost_0 j x (by omega) (by rw [nX11_cost] at hj; omega) hx)
set_option maxRecDepth 100000 in
theorem qX11_hole_0 : cks RX11 "hole" cX11_hole tX11_hole 0 49 [[], [], [], [], [], [], [], [], [463], [601, 602, 603, 70, 604], [], [], [], [], [470], [816, 817, 818, 78, 819], [], [], [], [470], [392], [], [], [], [], [], [470], [392], [], [], [], [], [], [], [], [470], [390], [], [], [], [], [470], [], [470], [390], [], [], [837, 838, 839, 78, 840], []] = true := by decide +kernel
theorem nX11_hole : tX11_hole.length = 49 := by decide +kernel
theorem okX11_hole : tOK RX11 "hole" cX11_hole MT tX11_hole := tOK_of (fun j x hj hx => cks_ok qX11_hole_0 j x (by omega) (by rw [nX11_hole] at hj; omega) hx)
set_option maxRecDepth 100000 in
theorem qX11_twin_0 : cks RX11 "twin" cX11_twin tX11_twin 0 22 [[], [463], [], [506, 507, 508, 70, 509], [], [], [], [], [463], [601, 602, 603, 70, 604], [], [], [], [], [471], [847, 848, 849, 79, 850], [], [471], [417], [], [], []] = true := by decide +kernel
theorem nX11_twin : tX11_twin.length = 22 := by decide +kernel
theorem okX11_twin : tOK RX11 "twin" cX11_twin MT tX11_twin := tOK_of (fun j x hj hx => cks_ok qX11_twin_0 j x (by omega) (by rw [nX11_twin] at hj; omega) hx)
set_option maxRecDepth 100000 in
theorem qX11_count_0 : cks RX11 "count" cX11_count tX11_count 0 33 [[], [], [], [463], [158], [], [], [463], [880, 881, 882, 70, 883], [], [], [463], [884, 885, 886, 70, 887], [], [], [463], [888, 784, 785, 70, 786], [], [], [463], [601, 602, 603, 70, 604], [], [], [], [], [471], [847, 848, 849, 79, 850], [], [471], [419], [], [], []] = true := by decide +kernel
theorem nX11_count : tX11_count.length = 33 := by decide +kernel
theorem okX11_count : tOK RX11 "count" cX11_count MT tX11_count := tOK_of (fun j x hj hx => cks_ok qX11_count_0 j x (by omega) (by rw [nX11_count] at hj; omega) hx)
set_option maxRecDepth 100000 in
theorem qX11_look_0 : cks RX11 "look" cX11_look tX11_look 0 57 [[], [463], [], [], [530, 531, 532, 70, 533], [], [], [], [], [], [], [], [], [], [463], [], [], [535, 519, 520, 70, 521], [], [], [], [], [113], [], [], [118], [], [], [122], [], [], [], [], [], [], [], [], [], [122], [], [], [], [], [], [], [], [], [], [136], [], [], [], [], [141], [], [], []] = true := by decide +kernel
theorem nX11_look : tX11_look.length = 57 := by decide +kernel
theorem okX11_look : tOK RX11 "look" cX11_look MT tX11_look := tOK_of (fun j x hj hx => cks_ok qX11_look_0 j x (by omega) (by rw [nX11_look] at hj; omega) hx)
set_option maxRecDepth 100000 in
theorem qX11_keep_0 : cks RX11 "keep" cX11_keep tX11_keep 0 60 [[], [897, 898, 69, 899], [], [], [], [], [], [], [], [], [], [], [], [], [], [], [], [463], [], [], [530, 531, 532, 70, 533], [], [], [], [], [], [], [], [463], [], [506, 507, 508, 70, 509], [], [], [], [], [], [], [], [], [], [], [], [464], [597, 599, 0, 69, 600], [], [], [], [], [], [], [], [472], [], [], [], [], [], [900, 902, 21, 69, 903], [], []] = true := by decide +kernel
theorem nX11_keep : tX11_keep.length = 60 := by decide +kernel
theorem okX11_keep : tOK RX11 "keep" cX11_keep MT tX11_keep := tOK_of (fun j x hj hx => cks_ok qX11_keep_0 j x (by omega) (by rw [nX11_keep] at hj; omega) hx)
set_option maxRecDepth 100000 in
theorem qX11_make_0 : cks RX11 "make" cX11_make tX11_make 0 27 [[], [897, 898, 69, 899], [], [], [], [], [], [], [], [], [], [], [], [], [], [], [], [], [], [472], [], [], [], [], [927, 923, 924, 80, 925], [], []] = true := by decide +kernel
theorem nX11_make : tX11_make.length = 27 := by decide +kernel
theorem okX11_make : tOK RX11 "make" cX11_make MT tX11_make := tOK_of (fun j x hj hx => cks_ok qX11_make_0 j x (by omega) (by rw [nX11_make] at hj; omega) hx)
