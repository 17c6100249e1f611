/-! CERTIFICATES (by program: wip/whole/gen_certs.py) -/
set_option maxRecDepth 100000 in
theorem qX12_findDistances_0 : cks RX12 "findDistances" cX12_findDistances tX12_findDistances 0 60 [[], [], [], [], [1060], [], [], [1082], [], [], [], [1322, 1324, 48, 81, 1325], [], [], [], [], [], [], [], [], [], [], [], [], [], [], [], [], [1060], [], [], [], [], [], [1062], [], [], [], [], [1076], [], [], [], [], [], [], [], [], [1330, 1332, 50, 81, 1333], [], [], [], [], [], [], [], [], [1338, 1340, 52, 81, 1341], [], []] = true := by decide +kernel
set_option maxRecDepth 100000 in
theorem qX12_findDistances_1 : cks RX12 "findDistances" cX12_findDistances tX12_findDistances 60 25 [[], [], [], [1082], [], [], [], [1082], [], [], [], [], [], [], [1082], [], [], [], [], [], [], [], [], [], []] = true := by decide +kernel
theorem nX12_findDistances : tX12_findDistances.length = 85 := by decide +kernel
theorem okX12_findDistances : tOK RX12 "findDistances" cX12_findDistances MT tX12_findDistances := tOK_of (fun j x hj hx => if h0 : j < 60 then cks_ok qX12_findDistances_0 j x (by omega) (by omega) hx else cks_ok qX12_findDistances_1 j x (by omega) (by rw [nX12_findDistances] at hj; omega) hx)
set_option maxRecDepth 100000 in
theorem qX12_refusal_0 : cks RX12 "refusal" cX12_refusal tX12_refusal 0 13 [[], [1224, 1226, 27, 81, 1227], [], [1233], [], [], [], [1234, 1236, 28, 81, 1237], [], [1313], [], [], []] = true := by decide +kernel
theorem nX12_refusal : tX12_refusal.length = 13 := by decide +kernel
theorem okX12_refusal : tOK RX12 "refusal" cX12_refusal MT tX12_refusal := tOK_of (fun j x hj hx => cks_ok qX12_refusal_0 j x (by omega) (by rw [nX12_refusal] at hj; omega) hx)
set_option maxRecDepth 100000 in
theorem qX12_choice_0 : cks RX12 "choice" cX12_choice tX12_choice 0 60 [[], [], [1059], [], [], [1186, 1188, 23, 81, 1189], [], [], [1062], [], [], [], [], [], [], [1318, 1320, 47, 81, 1321], [], [], [], [], [], [], [], [], [1322, 1324, 48, 81, 1325], [], [], [], [], [1326, 1328, 49, 81, 1329], [], [1076], [], [], [], [], [], [], [], [1195, 1197, 24, 81, 1198], [], [], [], [], [], [], [], [], [], [1062], [], [], [], [], [], [], [1330, 1332, 50, 81, 1333], [], [], []] = true := by decide +kernel
set_option maxRecDepth 100000 in
theorem qX12_choice_1 : cks RX12 "choice" cX12_choice tX12_choice 60 18 [[], [], [], [], [], [], [1338, 1340, 52, 81, 1341], [], [1082], [], [], [], [], [], [], [], [], []] = true := by decide +kernel
theorem nX12_choice : tX12_choice.length = 78 := by decide +kernel
theorem okX12_choice : tOK RX12 "choice" cX12_choice MT tX12_choice := tOK_of (fun j x hj hx => if h0 : j < 60 then cks_ok qX12_choice_0 j x (by omega) (by omega) hx else cks_ok qX12_choice_1 j x (by omega) (by rw [nX12_choice] at hj; omega) hx)
set_option maxRecDepth 100000 in
theorem qX12_distance_0 : cks RX12 "distance" cX12_distance tX12_distance 0 33 [[], [], [1059], [], [], [1186, 1188, 23, 81, 1189], [], [], [], [], [1318, 1320, 47, 81, 1321], [], [], [], [], [], [], [], [1076], [], [], [], [], [], [], [], [], [1326, 1328, 49, 81, 1329], [], [1082], [], [], []] = true := by decide +kernel
theorem nX12_distance : tX12_distance.length = 33 := by decide +kernel
theorem okX12_distance : tOK RX12 "distance" cX12_distance MT tX12_distance := tOK_of (fun j x hj hx => cks_ok qX12_distance_0 j x (by omega) (by rw [nX12_distance] at hj; omega) hx)
set_option maxRecDepth 100000 in
theorem qX12_sum_0 : cks RX12 "sum" cX12_sum tX12_sum 0 40 [[], [], [1059], [], [], [], [1203, 1205, 25, 81, 1206], [], [], [], [], [], [1191, 1192, 81, 1193], [], [1232], [], [], [1318, 1320, 47, 81, 1321], [], [], [], [], [], [], [], [], [], [], [], [], [], [1334, 1336, 51, 81, 1337], [], [], [], [1080], [], [], [1081], []] = true := by decide +kernel
theorem nX12_sum : tX12_sum.length = 40 := by decide +kernel
theorem okX12_sum : tOK RX12 "sum" cX12_sum MT tX12_sum := tOK_of (fun j x hj hx => cks_ok qX12_sum_0 j x (by omega) (by rw [nX12_sum] at hj; omega) hx)
set_option maxRecDepth 100000 in
theorem qX12_start_0 : cks RX12 "start" cX12_start tX12_start 0 22 [[], [], [1085], [], [], [], [], [], [], [1083], [], [], [], [1322, 1324, 48, 81, 1325], [], [], [], [], [], [], [], []] = true := by decide +kernel
theorem nX12_start : tX12_start.length = 22 := by decide +kernel
theorem okX12_start : tOK RX12 "start" cX12_start MT tX12_start := tOK_of (fun j x hj hx => cks_ok qX12_start_0 j x (by omega) (by rw [nX12_start] at hj; omega) hx)
set_option maxRecDepth 100000 in
theorem qX12_onwards_0 : cks RX12 "onwards" cX12_onwards tX12_onwards 0 60 [[], [], [1085], [1207], [], [1085], [], [], [], [], [1060], [], [], [1084], [], [], [], [1322, 1324, 48, 81, 1325], [], [], [1085], [], [], [], [], [], [], [], [1062], [], [], [], [], [], [1322, 1324, 48, 81, 1325], [], [], [], [], [], [], [], [1065], [], [], [], [], [], [], [], [], [], [1067], [], [], [], [], [], [], []] = true := by decide +kernel
set_option maxRecDepth 100000 in
theorem qX12_onwards_1 : cks RX12 "onwards" cX12_onwards tX12_onwards 60 60 [[], [], [], [], [], [1083], [], [1066], [], [], [], [], [], [], [], [], [], [], [], [], [], [], [], [], [], [], [], [1262, 1264, 35, 81, 1265], [], [], [], [1084], [], [], [], [], [], [], [], [], [], [], [1084], [], [], [], [], [], [], [], [], [], [1084], [], [], [], [], [], [], []] = true := by decide +kernel
set_option maxRecDepth 100000 in
theorem qX12_onwards_2 : cks RX12 "onwards" cX12_onwards tX12_onwards 120 26 [[], [1084], [], [], [], [], [], [], [], [], [], [], [], [1060], [], [], [1083], [], [], [1084], [], [], [], [], [], []] = true := by decide +kernel
theorem nX12_onwards : tX12_onwards.length = 146 := by decide +kernel
theorem okX12_onwards : tOK RX12 "onwards" cX12_onwards MT tX12_onwards := tOK_of (fun j x hj hx => if h0 : j < 60 then cks_ok qX12_onwards_0 j x (by omega) (by omega) hx else if h1 : j < 120 then cks_ok qX12_onwards_1 j x (by omega) (by omega) hx else cks_ok qX12_onwards_2 j x (by omega) (by rw [nX12_onwards] at hj; omega) hx)
set_option maxRecDepth 100000 in
theorem qX12_within_0 : cks RX12 "within" cX12_within tX12_within 0 59 [[], [], [1059], [], [], [1186, 1188, 23, 81, 1189], [], [], [], [], [1354], [1191, 1192, 81, 1193], [], [], [], [], [], [1191, 1192, 81, 1193], [], [1232], [], [], [1224, 1226, 27, 81, 1227], [], [1233], [], [], [1355, 1357, 53, 81, 1358], [], [], [], [], [], [], [], [1359, 1361, 54, 81, 1362], [], [], [], [], [1083], [], [], [], [1085], [1302, 1304, 45, 81, 1305], [], [], [], [], [1083], [], [], [], [], [1085], [], [], []] = true := by decide +kernel
theorem nX12_within : tX12_within.length = 59 := by decide +kernel
theorem okX12_within : tOK RX12 "within" cX12_within MT tX12_within := tOK_of (fun j x hj hx => cks_ok qX12_within_0 j x (by omega) (by rw [nX12_within] at hj; omega) hx)
set_option maxRecDepth 100000 in
theorem qX12_bound_0 : cks RX12 "bound" cX12_bound tX12_bound 0 49 [[], [], [1059], [], [], [1186, 1188, 23, 81, 1189], [], [], [], [], [1207], [1191, 1192, 81, 1193], [], [], [], [], [1224, 1226, 27, 81, 1227], [], [], [], [], [1355, 1357, 53, 81, 1358], [], [], [], [], [], [1207], [], [1083], [], [], [], [], [], [], [1085], [], [], [], [], [], [], [], [1359, 1361, 54, 81, 1362], [], [], [], []] = true := by decide +kernel
theorem nX12_bound : tX12_bound.length = 49 := by decide +kernel
theorem okX12_bound : tOK RX12 "bound" cX12_bound MT tX12_bound := tOK_of (fun j x hj hx => cks_ok qX12_bound_0 j x (by omega) (by rw [nX12_bound] at hj; omega) hx)
set_option maxRecDepth 100000 in
theorem qX12_sets_0 : cks RX12 "sets" cX12_sets tX12_sets 0 40 [[], [], [1059], [], [], [], [1190], [1191, 1192, 81, 1193], [], [], [], [], [1224, 1226, 27, 81, 1227], [], [], [], [], [], [], [], [], [], [], [], [], [], [], [], [], [1238, 1240, 29, 81, 1241], [], [], [1242, 1244, 30, 81, 1245], [], [], [1266, 1268, 36, 81, 1269], [], [], [], []] = true := by decide +kernel
theorem nX12_sets : tX12_sets.length = 40 := by decide +kernel
theorem okX12_sets : tOK RX12 "sets" cX12_sets MT tX12_sets := tOK_of (fun j x hj hx => cks_ok qX12_sets_0 j x (by omega) (by rw [nX12_sets] at hj; omega) hx)
set_option maxRecDepth 100000 in
theorem qX12_reachedFrom_0 : cks RX12 "reachedFrom" cX12_reachedFrom tX12_reachedFrom 0 60 [[], [], [], [], [], [], [], [], [], [], [], [], [], [], [], [1060], [], [], [], [], [], [], [], [], [], [], [], [], [], [], [], [1062], [], [], [], [], [], [], [], [], [1254, 1256, 33, 81, 1257], [], [], [], [], [], [], [], [], [], [1065], [], [], [], [], [], [], [], [], [1066]] = true := by decide +kernel
set_option maxRecDepth 100000 in
theorem qX12_reachedFrom_1 : cks RX12 "reachedFrom" cX12_reachedFrom tX12_reachedFrom 60 23 [[], [], [], [], [], [], [], [], [], [], [], [], [], [], [], [], [], [], [], [], [], [], []] = true := by decide +kernel
theorem nX12_reachedFrom : tX12_reachedFrom.length = 83 := by decide +kernel
theorem okX12_reachedFrom : tOK RX12 "reachedFrom" cX12_reachedFrom MT tX12_reachedFrom := tOK_of (fun j x hj hx => if h0 : j < 60 then cks_ok qX12_reachedFrom_0 j x (by omega) (by omega) hx else cks_ok qX12_reachedFrom_1 j x (by omega) (by rw [nX12_reachedFrom] at hj; omega) hx)
set_option maxRecDepth 100000 in
theorem qX12_reached_0 : cks RX12 "reached" cX12_reached tX12_reached 0 15 [[], [], [1059], [], [], [1186, 1188, 23, 81, 1189], [], [], [], [], [1242, 1244, 30, 81, 1245], [1375, 1377, 55, 81, 1378], [], [], []] = true := by decide +kernel
theorem nX12_reached : tX12_reached.length = 15 := by decide +kernel
theorem okX12_reached : tOK RX12 "reached" cX12_reached MT tX12_reached := tOK_of (fun j x hj hx => cks_ok qX12_reached_0 j x (by omega) (by rw [nX12_reached] at hj; omega) hx)
set_option maxRecDepth 100000 in
theorem qX12_sureChosen_0 : cks RX12 "sureChosen" cX12_sureChosen tX12_sureChosen 0 60 [[], [], [], [], [], [], [], [], [1061], [], [], [], [], [], [], [], [1061], [1282, 1284, 40, 81, 1285], [], [], [], [], [], [1060], [], [], [], [], [], [], [], [], [], [], [], [], [], [1069], [], [], [], [], [1254, 1256, 33, 81, 1257], [], [], [], [], [], [], [], [], [], [], [], [], [], [], [], [], []] = true := by decide +kernel
set_option maxRecDepth 100000 in
theorem qX12_sureChosen_1 : cks RX12 "sureChosen" cX12_sureChosen tX12_sureChosen 60 12 [[], [], [], [], [], [], [], [], [], [], [], []] = true := by decide +kernel
theorem nX12_sureChosen : tX12_sureChosen.length = 72 := by decide +kernel
theorem okX12_sureChosen : tOK RX12 "sureChosen" cX12_sureChosen MT tX12_sureChosen := tOK_of (fun j x hj hx => if h0 : j < 60 then cks_ok qX12_sureChosen_0 j x (by omega) (by omega) hx else cks_ok qX12_sureChosen_1 j x (by omega) (by rw [nX12_sureChosen] at hj; omega) hx)
set_option maxRecDepth 100000 in
theorem qX12_costsChosen_0 : cks RX12 "costsChosen" cX12_costsChosen tX12_costsChosen 0 60 [[], [], [1071], [], [], [], [], [1060], [], [], [], [], [], [], [], [], [], [1070], [], [1071], [], [], [], [], [1071], [], [], [1071], [], [], [], [], [], [], [1071], [], [], [], [], [1070], [], [], [1286, 1288, 41, 81, 1289], [], [1073], [], [1207], [], [1064], [], [], [1070], [], [], [], [], [1069], [], [1070], []] = true := by decide +kernel
set_option maxRecDepth 100000 in
theorem qX12_costsChosen_1 : cks RX12 "costsChosen" cX12_costsChosen tX12_costsChosen 60 12 [[], [], [], [], [], [], [], [], [], [], [1294, 1296, 43, 81, 1297], []] = true := by decide +kernel
theorem nX12_costsChosen : tX12_costsChosen.length = 72 := by decide +kernel
theorem okX12_costsChosen : tOK RX12 "costsChosen" cX12_costsChosen MT tX12_costsChosen := tOK_of (fun j x hj hx => if h0 : j < 60 then cks_ok qX12_costsChosen_0 j x (by omega) (by omega) hx else cks_ok qX12_costsChosen_1 j x (by omega) (by rw [nX12_costsChosen] at hj; omega) hx)
set_option maxRecDepth 100000 in
theorem qX12_cost_0 : cks RX12 "cost" cX12_cost tX12_cost 0 60 [[], [], [1059], [], [], [1186, 1188, 23, 81, 1189], [], [], [], [], [], [1191, 1192, 81, 1193], [], [1232], [], [], [1224, 1226, 27, 81, 1227], [], [1233], [], [], [], [1238, 1240, 29, 81, 1241], [], [], [], [1061], [], [], [], [], [], [], [], [], [], [], [1060], [], [], [], [], [], [1195, 1197, 24, 81, 1198], [], [], [], [], [], [], [], [], [], [], [], [1270, 1272, 37, 81, 1273], [], [], [1313], []] = true := by decide +kernel
set_option maxRecDepth 100000 in
theorem qX12_cost_1 : cks RX12 "cost" cX12_cost tX12_cost 60 60 [[], [], [], [], [], [], [1383], [], [], [], [1322, 1324, 48, 81, 1325], [], [], [], [], [], [], [], [], [], [], [1069], [], [], [], [], [], [1232], [], [], [], [], [], [], [], [], [], [1384, 1386, 56, 81, 1387], [], [], [], [], [], [], [], [], [], [], [1388, 1390, 57, 81, 1391], [], [], [], [], [], [1074], [], [], [], [1075], []] = true := by decide +kernel
set_option maxRecDepth 100000 in
theorem qX12_cost_2 : cks RX12 "cost" cX12_cost tX12_cost 120 27 [[], [], [], [1306, 1307, 81, 1308], [], [], [1074], [], [], [], [], [1075], [], [], [], [], [], [], [1309, 1311, 46, 81, 1312], [], [], [], [], [], [], [], []] = true := by decide +kernel
theorem nX12_cost : tX12_cost.length = 147 := by decide +kernel
theorem okX12_cost : tOK RX12 "cost" cX12_cost MT tX12_cost := tOK_of (fun j x hj hx => if h0 : j < 60 then cks_ok qX12_cost_0 j x (by omega) (by omega) hx else if h1 : j < 120 then cks_ok qX12_cost_1 j x (by omega) (by omega) hx else cks_ok qX12_cost_2 j x (by omega) (by rw [nX12_cost] at hj; omega) hx)
set_option maxRecDepth 100000 in
theorem qX12_together_0 : cks RX12 "together" cX12_together tX12_together 0 50 [[], [], [], [1375, 1377, 55, 81, 1378], [], [], [], [], [], [], [], [], [], [1060], [], [], [], [], [], [], [], [], [], [], [], [1375, 1377, 55, 81, 1378], [], [], [], [], [], [], [], [], [], [], [], [], [], [], [], [], [], [], [], [], [], [], [], []] = true := by decide +kernel
theorem nX12_together : tX12_together.length = 50 := by decide +kernel
theorem okX12_together : tOK RX12 "together" cX12_together MT tX12_together := tOK_of (fun j x hj hx => cks_ok qX12_together_0 j x (by omega) (by rw [nX12_together] at hj; omega) hx)
set_option maxRecDepth 100000 in
theorem qX12_staying_0 : cks RX12 "staying" cX12_staying tX12_staying 0 54 [[], [], [], [], [], [], [], [1060], [], [], [], [], [], [], [1062], [], [], [], [], [], [], [], [], [], [], [], [], [], [], [], [], [], [1254, 1256, 33, 81, 1257], [], [], [], [], [], [], [], [], [], [], [], [], [], [], [], [], [], [], [], [], []] = true := by decide +kernel
theorem nX12_staying : tX12_staying.length = 54 := by decide +kernel
theorem okX12_staying : tOK RX12 "staying" cX12_staying MT tX12_staying := tOK_of (fun j x hj hx => cks_ok qX12_staying_0 j x (by omega) (by rw [nX12_staying] at hj; omega) hx)
set_option maxRecDepth 100000 in
theorem qX12_holeOf_0 : cks RX12 "holeOf" cX12_holeOf tX12_holeOf 0 42 [[], [1242, 1244, 30, 81, 1245], [], [], [], [], [], [], [], [], [], [], [], [], [], [], [], [], [1405, 1407, 60, 81, 1408], [1409, 1411, 61, 81, 1412], [], [], [], [], [], [], [], [], [], [], [], [], [], [], [], [], [], [], [], [], [], []] = true := by decide +kernel
theorem nX12_holeOf : tX12_holeOf.length = 42 := by decide +kernel
theorem okX12_holeOf : tOK RX12 "holeOf" cX12_holeOf MT tX12_holeOf := tOK_of (fun j x hj hx => cks_ok qX12_holeOf_0 j x (by omega) (by rw [nX12_holeOf] at hj; omega) hx)
set_option maxRecDepth 100000 in
theorem qX12_findHoles_0 : cks RX12 "findHoles" cX12_findHoles tX12_findHoles 0 45 [[], [], [1089], [], [], [], [], [], [], [1060], [], [], [], [], [], [], [], [], [], [], [], [], [1401, 1403, 59, 81, 1404], [], [], [], [], [1088], [], [1089], [], [], [], [], [1089], [], [], [1089], [], [], [], [], [], [], []] = true := by decide +kernel
theorem nX12_findHoles : tX12_findHoles.length = 45 := by decide +kernel
theorem okX12_findHoles : tOK RX12 "findHoles" cX12_findHoles MT tX12_findHoles := tOK_of (fun j x hj hx => cks_ok qX12_findHoles_0 j x (by omega) (by rw [nX12_findHoles] at hj; omega) hx)
