/-! CERTIFICATES (by program: wip/whole/gen_certs.py) -/
theorem okX11_element : tOK RX11 "element" cX11_element MT tX11_element := fun i x hx => by simp [tX11_element] at hx
set_option maxRecDepth 100000 in
theorem qX11_copy_0 : cks RX11 "copy" cX11_copy tX11_copy 0 58 [[], [897, 898, 69, 899], [], [], [897, 898, 69, 899], [], [], [], [], [472], [], [], [], [], [472], [], [], [], [], [443], [], [], [443], [], [], [], [], [936, 937, 938, 80, 939], [], [], [443], [], [443], [], [], [], [], [], [], [940, 941, 942, 80, 943], [], [], [], [], [940, 941, 942, 80, 943], [], [], [], [], [451], [], [], [451], [], [], [944, 875, 874, 84], [], []] = true := by decide +kernel
theorem nX11_copy : tX11_copy.length = 58 := by decide +kernel
theorem okX11_copy : tOK RX11 "copy" cX11_copy MT tX11_copy := tOK_of (fun j x hj hx => cks_ok qX11_copy_0 j x (by omega) (by rw [nX11_copy] at hj; omega) hx)
set_option maxRecDepth 100000 in
theorem qX11_weight_0 : cks RX11 "weight" cX11_weight tX11_weight 0 24 [[], [897, 898, 69, 899], [], [596], [], [], [472], [], [], [], [], [443], [], [949], [], [], [449], [950, 951, 952, 71, 953], [], [], [445], [], [954], []] = true := by decide +kernel
theorem nX11_weight : tX11_weight.length = 24 := by decide +kernel
theorem okX11_weight : tOK RX11 "weight" cX11_weight MT tX11_weight := tOK_of (fun j x hj hx => cks_ok qX11_weight_0 j x (by omega) (by rw [nX11_weight] at hj; omega) hx)
set_option maxRecDepth 100000 in
theorem qX11_ratio_0 : cks RX11 "ratio" cX11_ratio tX11_ratio 0 49 [[], [897, 898, 69, 899], [], [], [897, 898, 69, 899], [], [596], [], [], [472], [], [], [], [], [472], [], [], [], [], [443], [], [], [443], [], [949], [], [], [443], [], [], [], [443], [], [], [954], [], [], [445], [], [], [], [959], [], [], [445], [], [445], [], []] = true := by decide +kernel
theorem nX11_ratio : tX11_ratio.length = 49 := by decide +kernel
theorem okX11_ratio : tOK RX11 "ratio" cX11_ratio MT tX11_ratio := tOK_of (fun j x hj hx => cks_ok qX11_ratio_0 j x (by omega) (by rw [nX11_ratio] at hj; omega) hx)
set_option maxRecDepth 100000 in
theorem qX11_refusalOf_0 : cks RX11 "refusalOf" cX11_refusalOf tX11_refusalOf 0 17 [[], [463], [601, 602, 603, 70, 604], [], [], [], [], [606, 607, 608, 72, 609], [], [630, 631, 632, 72, 633], [], [272], [], [], [], [], []] = true := by decide +kernel
theorem nX11_refusalOf : tX11_refusalOf.length = 17 := by decide +kernel
theorem okX11_refusalOf : tOK RX11 "refusalOf" cX11_refusalOf MT tX11_refusalOf := tOK_of (fun j x hj hx => cks_ok qX11_refusalOf_0 j x (by omega) (by rw [nX11_refusalOf] at hj; omega) hx)
set_option maxRecDepth 100000 in
theorem qX11_fillShelf_0 : cks RX11 "fillShelf" cX11_fillShelf tX11_fillShelf 0 60 [[], [], [], [], [463], [], [], [535, 519, 520, 70, 521], [904, 905, 906, 80, 907], [], [], [], [464], [262], [], [], [], [464], [264], [], [685, 686, 69, 687], [914, 915, 916, 80, 917], [], [], [], [463], [], [], [535, 519, 520, 70, 521], [918, 919, 920, 80, 921], [], [], [], [], [], [463], [158], [], [927, 923, 924, 80, 925], [], [], [], [], [463], [158], [], [], [451], [], [], [], [], [464], [262], [], [], [], [464], [264], []] = true := by decide +kernel
set_option maxRecDepth 100000 in
theorem qX11_fillShelf_1 : cks RX11 "fillShelf" cX11_fillShelf tX11_fillShelf 60 27 [[685, 686, 69, 687], [], [], [451], [], [], [], [], [], [], [464], [262], [], [], [], [464], [264], [], [685, 686, 69, 687], [], [], [], [], [], [], [443], []] = true := by decide +kernel
theorem nX11_fillShelf : tX11_fillShelf.length = 87 := by decide +kernel
theorem okX11_fillShelf : tOK RX11 "fillShelf" cX11_fillShelf MT tX11_fillShelf := tOK_of (fun j x hj hx => if h0 : j < 60 then cks_ok qX11_fillShelf_0 j x (by omega) (by omega) hx else cks_ok qX11_fillShelf_1 j x (by omega) (by rw [nX11_fillShelf] at hj; omega) hx)
set_option maxRecDepth 100000 in
theorem qX11_isHalf_0 : cks RX11 "isHalf" cX11_isHalf tX11_isHalf 0 9 [[], [], [], [], [], [], [], [], []] = true := by decide +kernel
theorem nX11_isHalf : tX11_isHalf.length = 9 := by decide +kernel
theorem okX11_isHalf : tOK RX11 "isHalf" cX11_isHalf MT tX11_isHalf := tOK_of (fun j x hj hx => cks_ok qX11_isHalf_0 j x (by omega) (by rw [nX11_isHalf] at hj; omega) hx)
set_option maxRecDepth 100000 in
theorem qX11_isShelf_0 : cks RX11 "isShelf" cX11_isShelf tX11_isShelf 0 9 [[], [], [], [], [], [], [], [], []] = true := by decide +kernel
theorem nX11_isShelf : tX11_isShelf.length = 9 := by decide +kernel
theorem okX11_isShelf : tOK RX11 "isShelf" cX11_isShelf MT tX11_isShelf := tOK_of (fun j x hj hx => cks_ok qX11_isShelf_0 j x (by omega) (by rw [nX11_isShelf] at hj; omega) hx)
set_option maxRecDepth 100000 in
theorem qX11_has_0 : cks RX11 "has" cX11_has tX11_has 0 11 [[], [], [], [], [], [], [], [], [], [], []] = true := by decide +kernel
theorem nX11_has : tX11_has.length = 11 := by decide +kernel
theorem okX11_has : tOK RX11 "has" cX11_has MT tX11_has := tOK_of (fun j x hj hx => cks_ok qX11_has_0 j x (by omega) (by rw [nX11_has] at hj; omega) hx)
set_option maxRecDepth 100000 in
theorem qX11_lowestTerms_0 : cks RX11 "lowestTerms" cX11_lowestTerms tX11_lowestTerms 0 18 [[], [], [688, 689, 69, 690], [], [], [], [], [], [], [], [], [], [], [], [], [], [], []] = true := by decide +kernel
theorem nX11_lowestTerms : tX11_lowestTerms.length = 18 := by decide +kernel
theorem okX11_lowestTerms : tOK RX11 "lowestTerms" cX11_lowestTerms MT tX11_lowestTerms := tOK_of (fun j x hj hx => cks_ok qX11_lowestTerms_0 j x (by omega) (by rw [nX11_lowestTerms] at hj; omega) hx)
set_option maxRecDepth 100000 in
theorem qX11_commonDivisor_0 : cks RX11 "commonDivisor" cX11_commonDivisor tX11_commonDivisor 0 25 [[], [], [], [], [], [], [], [691], [], [], [], [], [], [], [], [], [], [], [], [], [], [], [], [], []] = true := by decide +kernel
theorem nX11_commonDivisor : tX11_commonDivisor.length = 25 := by decide +kernel
theorem okX11_commonDivisor : tOK RX11 "commonDivisor" cX11_commonDivisor MT tX11_commonDivisor := tOK_of (fun j x hj hx => cks_ok qX11_commonDivisor_0 j x (by omega) (by rw [nX11_commonDivisor] at hj; omega) hx)
set_option maxRecDepth 100000 in
theorem qX12_init_0 : cks RX12 "<init>" cX12_init tX12_init 0 60 [[], [1058, 96, 97], [], [], [157], [1062], [], [], [157], [1063], [], [], [157], [1064], [], [], [157], [1065], [], [], [157], [1066], [], [], [157], [1067], [], [], [236], [1068], [], [], [157], [1069], [], [], [157], [1070], [], [], [236], [1072], [], [], [236], [1073], [], [], [236], [1074], [], [], [236], [1075], [], [], [236], [1076], [], []] = true := by decide +kernel
set_option maxRecDepth 100000 in
theorem qX12_init_1 : cks RX12 "<init>" cX12_init tX12_init 60 60 [[236], [1077], [], [], [236], [1078], [], [], [236], [1079], [], [], [157], [1082], [], [], [236], [1083], [], [], [236], [1084], [], [], [236], [1086], [], [], [236], [1087], [], [], [157], [1088], [], [], [157], [1090], [], [], [157], [1091], [], [], [157], [1092], [], [], [157], [1093], [], [], [236], [1094], [], [], [236], [1095], [], []] = true := by decide +kernel
set_option maxRecDepth 100000 in
theorem qX12_init_2 : cks RX12 "<init>" cX12_init tX12_init 120 3 [[236], [1096], []] = true := by decide +kernel
theorem nX12_init : tX12_init.length = 123 := by decide +kernel
theorem okX12_init : tOK RX12 "<init>" cX12_init MT tX12_init := tOK_of (fun j x hj hx => if h0 : j < 60 then cks_ok qX12_init_0 j x (by omega) (by omega) hx else if h1 : j < 120 then cks_ok qX12_init_1 j x (by omega) (by omega) hx else cks_ok qX12_init_2 j x (by omega) (by rw [nX12_init] at hj; omega) hx)
set_option maxRecDepth 100000 in
theorem qX12_thrown_0 : cks RX12 "thrown" cX12_thrown tX12_thrown 0 3 [[], [1059], []] = true := by decide +kernel
theorem nX12_thrown : tX12_thrown.length = 3 := by decide +kernel
theorem okX12_thrown : tOK RX12 "thrown" cX12_thrown MT tX12_thrown := tOK_of (fun j x hj hx => cks_ok qX12_thrown_0 j x (by omega) (by rw [nX12_thrown] at hj; omega) hx)
set_option maxRecDepth 100000 in
theorem qX12_isIn_0 : cks RX12 "isIn" cX12_isIn tX12_isIn 0 12 [[], [], [], [], [], [], [], [], [], [], [], []] = true := by decide +kernel
theorem nX12_isIn : tX12_isIn.length = 12 := by decide +kernel
theorem okX12_isIn : tOK RX12 "isIn" cX12_isIn MT tX12_isIn := tOK_of (fun j x hj hx => cks_ok qX12_isIn_0 j x (by omega) (by rw [nX12_isIn] at hj; omega) hx)
set_option maxRecDepth 100000 in
theorem qX12_isState_0 : cks RX12 "isState" cX12_isState tX12_isState 0 10 [[], [], [], [], [1060], [], [], [], [], []] = true := by decide +kernel
theorem nX12_isState : tX12_isState.length = 10 := by decide +kernel
theorem okX12_isState : tOK RX12 "isState" cX12_isState MT tX12_isState := tOK_of (fun j x hj hx => cks_ok qX12_isState_0 j x (by omega) (by rw [nX12_isState] at hj; omega) hx)
set_option maxRecDepth 100000 in
theorem qX12_isAct_0 : cks RX12 "isAct" cX12_isAct tX12_isAct 0 16 [[], [], [1186, 1188, 23, 81, 1189], [], [], [], [], [], [1062], [], [], [], [], [], [], []] = true := by decide +kernel
theorem nX12_isAct : tX12_isAct.length = 16 := by decide +kernel
theorem okX12_isAct : tOK RX12 "isAct" cX12_isAct MT tX12_isAct := tOK_of (fun j x hj hx => cks_ok qX12_isAct_0 j x (by omega) (by rw [nX12_isAct] at hj; omega) hx)
set_option maxRecDepth 100000 in
theorem qX12_isMarked_0 : cks RX12 "isMarked" cX12_isMarked tX12_isMarked 0 12 [[], [1061], [], [], [], [], [], [], [], [], [], []] = true := by decide +kernel
theorem nX12_isMarked : tX12_isMarked.length = 12 := by decide +kernel
theorem okX12_isMarked : tOK RX12 "isMarked" cX12_isMarked MT tX12_isMarked := tOK_of (fun j x hj hx => cks_ok qX12_isMarked_0 j x (by omega) (by rw [nX12_isMarked] at hj; omega) hx)
set_option maxRecDepth 100000 in
theorem qX12_isFoe_0 : cks RX12 "isFoe" cX12_isFoe tX12_isFoe 0 17 [[], [1062], [], [], [], [], [1063], [], [], [], [], [], [], [], [], [], []] = true := by decide +kernel
theorem nX12_isFoe : tX12_isFoe.length = 17 := by decide +kernel
theorem okX12_isFoe : tOK RX12 "isFoe" cX12_isFoe MT tX12_isFoe := tOK_of (fun j x hj hx => cks_ok qX12_isFoe_0 j x (by omega) (by rw [nX12_isFoe] at hj; omega) hx)
set_option maxRecDepth 100000 in
theorem qX12_state_0 : cks RX12 "state" cX12_state tX12_state 0 26 [[], [], [1059], [], [1060], [], [], [], [], [], [1062], [], [1060], [], [], [], [], [1060], [], [], [1060], [], [1060], [], [], []] = true := by decide +kernel
theorem nX12_state : tX12_state.length = 26 := by decide +kernel
theorem okX12_state : tOK RX12 "state" cX12_state MT tX12_state := tOK_of (fun j x hj hx => cks_ok qX12_state_0 j x (by omega) (by rw [nX12_state] at hj; omega) hx)
set_option maxRecDepth 100000 in
theorem qX12_act_0 : cks RX12 "act" cX12_act tX12_act 0 60 [[], [], [1059], [], [], [1186, 1188, 23, 81, 1189], [], [], [], [], [1190], [1191, 1192, 81, 1193], [], [], [], [], [1194], [1191, 1192, 81, 1193], [], [], [], [], [1062], [], [], [], [], [], [], [], [1062], [], [], [], [], [], [1195, 1197, 24, 81, 1198], [], [], [], [], [], [], [], [], [], [], [], [], [], [1062], [], [], [], [], [], [1063], [], [], []] = true := by decide +kernel
set_option maxRecDepth 100000 in
theorem qX12_act_1 : cks RX12 "act" cX12_act tX12_act 60 25 [[], [1064], [], [], [], [], [1065], [], [], [], [], [1062], [], [], [], [], [], [], [], [1062], [], [], [], [], []] = true := by decide +kernel
theorem nX12_act : tX12_act.length = 85 := by decide +kernel
theorem okX12_act : tOK RX12 "act" cX12_act MT tX12_act := tOK_of (fun j x hj hx => if h0 : j < 60 then cks_ok qX12_act_0 j x (by omega) (by omega) hx else cks_ok qX12_act_1 j x (by omega) (by rw [nX12_act] at hj; omega) hx)
set_option maxRecDepth 100000 in
theorem qX12_partsOf_0 : cks RX12 "partsOf" cX12_partsOf tX12_partsOf 0 25 [[], [], [], [], [], [], [1065], [], [], [], [], [], [1067], [], [], [], [], [], [], [], [], [], [], [], []] = true := by decide +kernel
theorem nX12_partsOf : tX12_partsOf.length = 25 := by decide +kernel
theorem okX12_partsOf : tOK RX12 "partsOf" cX12_partsOf MT tX12_partsOf := tOK_of (fun j x hj hx => cks_ok qX12_partsOf_0 j x (by omega) (by rw [nX12_partsOf] at hj; omega) hx)
set_option maxRecDepth 100000 in
theorem qX12_outcome_0 : cks RX12 "outcome" cX12_outcome tX12_outcome 0 60 [[], [], [1059], [], [], [], [1203, 1205, 25, 81, 1206], [], [], [], [1186, 1188, 23, 81, 1189], [], [], [], [], [1207], [1191, 1192, 81, 1193], [], [], [], [], [], [], [], [], [], [], [1063], [], [], [], [], [], [], [], [], [], [], [1065], [], [], [], [1063], [], [], [], [], [], [], [], [], [], [], [], [], [], [], [], [], []] = true := by decide +kernel
set_option maxRecDepth 100000 in
theorem qX12_outcome_1 : cks RX12 "outcome" cX12_outcome tX12_outcome 60 60 [[], [1065], [], [], [], [], [], [], [1066], [], [], [], [], [], [], [], [], [], [], [], [], [], [], [], [], [], [], [1208, 1210, 26, 81, 1211], [], [], [], [], [], [], [], [1066], [], [], [], [], [1065], [], [], [], [], [], [], [1067], [], [], [], [], [1065], [], [], [], [], [], [], [1065]] = true := by decide +kernel
set_option maxRecDepth 100000 in
theorem qX12_outcome_2 : cks RX12 "outcome" cX12_outcome tX12_outcome 120 10 [[], [], [], [], [], [], [], [], [1208, 1210, 26, 81, 1211], []] = true := by decide +kernel
theorem nX12_outcome : tX12_outcome.length = 130 := by decide +kernel
theorem okX12_outcome : tOK RX12 "outcome" cX12_outcome MT tX12_outcome := tOK_of (fun j x hj hx => if h0 : j < 60 then cks_ok qX12_outcome_0 j x (by omega) (by omega) hx else if h1 : j < 120 then cks_ok qX12_outcome_1 j x (by omega) (by omega) hx else cks_ok qX12_outcome_2 j x (by omega) (by rw [nX12_outcome] at hj; omega) hx)
set_option maxRecDepth 100000 in
theorem qX12_drop_0 : cks RX12 "drop" cX12_drop tX12_drop 0 29 [[], [], [1059], [], [], [1186, 1188, 23, 81, 1189], [], [], [], [], [1062], [], [], [], [], [], [], [1062], [], [], [], [], [], [], [], [1062], [], [], []] = true := by decide +kernel
theorem nX12_drop : tX12_drop.length = 29 := by decide +kernel
theorem okX12_drop : tOK RX12 "drop" cX12_drop MT tX12_drop := tOK_of (fun j x hj hx => cks_ok qX12_drop_0 j x (by omega) (by rw [nX12_drop] at hj; omega) hx)
set_option maxRecDepth 100000 in
theorem qX12_mark_0 : cks RX12 "mark" cX12_mark tX12_mark 0 36 [[], [], [1059], [], [], [], [], [], [1060], [], [], [], [], [], [], [1061], [], [], [], [], [], [], [1060], [], [], [], [], [], [], [], [], [], [], [], [], []] = true := by decide +kernel
theorem nX12_mark : tX12_mark.length = 36 := by decide +kernel
theorem okX12_mark : tOK RX12 "mark" cX12_mark MT tX12_mark := tOK_of (fun j x hj hx => cks_ok qX12_mark_0 j x (by omega) (by rw [nX12_mark] at hj; omega) hx)
set_option maxRecDepth 100000 in
theorem qX12_lacking_0 : cks RX12 "lacking" cX12_lacking tX12_lacking 0 34 [[], [], [], [], [], [], [1060], [], [], [], [], [], [1062], [], [], [], [], [], [], [], [], [], [], [], [1208, 1210, 26, 81, 1211], [], [], [], [], [], [], [], [], []] = true := by decide +kernel
theorem nX12_lacking : tX12_lacking.length = 34 := by decide +kernel
theorem okX12_lacking : tOK RX12 "lacking" cX12_lacking MT tX12_lacking := tOK_of (fun j x hj hx => cks_ok qX12_lacking_0 j x (by omega) (by rw [nX12_lacking] at hj; omega) hx)
set_option maxRecDepth 100000 in
theorem qX12_whole_0 : cks RX12 "whole" cX12_whole tX12_whole 0 6 [[], [], [1059], [], [1224, 1226, 27, 81, 1227], []] = true := by decide +kernel
theorem nX12_whole : tX12_whole.length = 6 := by decide +kernel
theorem okX12_whole : tOK RX12 "whole" cX12_whole MT tX12_whole := tOK_of (fun j x hj hx => cks_ok qX12_whole_0 j x (by omega) (by rw [nX12_whole] at hj; omega) hx)
set_option maxRecDepth 100000 in
theorem qX12_allIn_0 : cks RX12 "allIn" cX12_allIn tX12_allIn 0 34 [[], [], [], [], [], [], [1065], [], [], [], [], [], [], [], [1066], [], [], [], [], [], [], [], [], [], [], [], [], [], [], [], [], [], [], []] = true := by decide +kernel
theorem nX12_allIn : tX12_allIn.length = 34 := by decide +kernel
theorem okX12_allIn : tOK RX12 "allIn" cX12_allIn MT tX12_allIn := tOK_of (fun j x hj hx => cks_ok qX12_allIn_0 j x (by omega) (by rw [nX12_allIn] at hj; omega) hx)
set_option maxRecDepth 100000 in
theorem qX12_someIn_0 : cks RX12 "someIn" cX12_someIn tX12_someIn 0 34 [[], [], [], [], [], [], [1065], [], [], [], [], [], [], [], [1066], [], [], [], [], [], [], [], [], [], [], [], [], [], [], [], [], [], [], []] = true := by decide +kernel
theorem nX12_someIn : tX12_someIn.length = 34 := by decide +kernel
theorem okX12_someIn : tOK RX12 "someIn" cX12_someIn MT tX12_someIn := tOK_of (fun j x hj hx => cks_ok qX12_someIn_0 j x (by omega) (by rw [nX12_someIn] at hj; omega) hx)
set_option maxRecDepth 100000 in
theorem qX12_wants_0 : cks RX12 "wants" cX12_wants tX12_wants 0 9 [[], [], [1195, 1197, 24, 81, 1198], [], [], [], [], [], []] = true := by decide +kernel
theorem nX12_wants : tX12_wants.length = 9 := by decide +kernel
theorem okX12_wants : tOK RX12 "wants" cX12_wants MT tX12_wants := tOK_of (fun j x hj hx => cks_ok qX12_wants_0 j x (by omega) (by rw [nX12_wants] at hj; omega) hx)
set_option maxRecDepth 100000 in
theorem qX12_leads_0 : cks RX12 "leads" cX12_leads tX12_leads 0 60 [[], [], [], [1062], [], [], [], [], [], [], [], [], [], [], [], [1062], [], [], [], [], [], [], [], [], [], [], [1254, 1256, 33, 81, 1257], [], [], [], [], [], [], [], [], [1258, 1260, 34, 81, 1261], [], [], [], [], [], [], [], [], [], [], [], [], [], [], [], [], [], [], [], [], [], [], [], []] = true := by decide +kernel
set_option maxRecDepth 100000 in
theorem qX12_leads_1 : cks RX12 "leads" cX12_leads tX12_leads 60 8 [[], [], [1262, 1264, 35, 81, 1265], [], [], [], [], []] = true := by decide +kernel
theorem nX12_leads : tX12_leads.length = 68 := by decide +kernel
theorem okX12_leads : tOK RX12 "leads" cX12_leads MT tX12_leads := tOK_of (fun j x hj hx => if h0 : j < 60 then cks_ok qX12_leads_0 j x (by omega) (by omega) hx else cks_ok qX12_leads_1 j x (by omega) (by rw [nX12_leads] at hj; omega) hx)
set_option maxRecDepth 100000 in
theorem qX12_comes_0 : cks RX12 "comes" cX12_comes tX12_comes 0 49 [[], [1061], [], [], [], [], [], [], [], [], [], [], [], [], [], [1060], [], [], [], [], [], [], [], [], [], [], [], [], [], [1250, 1252, 32, 81, 1253], [], [], [], [], [], [], [], [], [], [], [], [], [], [], [], [], [], [], []] = true := by decide +kernel
theorem nX12_comes : tX12_comes.length = 49 := by decide +kernel
theorem okX12_comes : tOK RX12 "comes" cX12_comes MT tX12_comes := tOK_of (fun j x hj hx => cks_ok qX12_comes_0 j x (by omega) (by rw [nX12_comes] at hj; omega) hx)
set_option maxRecDepth 100000 in
theorem qX12_all_0 : cks RX12 "all" cX12_all tX12_all 0 7 [[], [], [1060], [], [], [], []] = true := by decide +kernel
theorem nX12_all : tX12_all.length = 7 := by decide +kernel
theorem okX12_all : tOK RX12 "all" cX12_all MT tX12_all := tOK_of (fun j x hj hx => cks_ok qX12_all_0 j x (by omega) (by rw [nX12_all] at hj; omega) hx)
set_option maxRecDepth 100000 in
theorem qX12_above_0 : cks RX12 "above" cX12_above tX12_above 0 6 [[], [], [1242, 1244, 30, 81, 1245], [], [1246, 1248, 31, 81, 1249], []] = true := by decide +kernel
theorem nX12_above : tX12_above.length = 6 := by decide +kernel
theorem okX12_above : tOK RX12 "above" cX12_above MT tX12_above := tOK_of (fun j x hj hx => cks_ok qX12_above_0 j x (by omega) (by rw [nX12_above] at hj; omega) hx)
set_option maxRecDepth 100000 in
theorem qX12_ones_0 : cks RX12 "ones" cX12_ones tX12_ones 0 27 [[], [1242, 1244, 30, 81, 1245], [], [], [], [], [], [], [], [], [1061], [], [], [1246, 1248, 31, 81, 1249], [], [], [], [], [], [], [], [], [], [], [], [], []] = true := by decide +kernel
theorem nX12_ones : tX12_ones.length = 27 := by decide +kernel
theorem okX12_ones : tOK RX12 "ones" cX12_ones MT tX12_ones := tOK_of (fun j x hj hx => cks_ok qX12_ones_0 j x (by omega) (by rw [nX12_ones] at hj; omega) hx)
