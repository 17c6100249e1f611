/-! CERTIFICATES (by program: wip/whole/gen_certs.py) -/
set_option maxRecDepth 100000 in
theorem qX12_gcd_0 : cks RX12 "gcd" cX12_gcd tX12_gcd 0 26 [[], [], [], [], [], [], [], [], [], [], [], [], [], [], [], [], [], [], [], [], [], [], [], [], [], []] = true := by decide +kernel
theorem nX12_gcd : tX12_gcd.length = 26 := by decide +kernel
theorem okX12_gcd : tOK RX12 "gcd" cX12_gcd MT tX12_gcd := tOK_of (fun j x hj hx => cks_ok qX12_gcd_0 j x (by omega) (by rw [nX12_gcd] at hj; omega) hx)
set_option maxRecDepth 100000 in
theorem qX12_determinant_0 : cks RX12 "determinant" cX12_determinant tX12_determinant 0 60 [[], [], [], [], [], [], [], [], [], [], [], [], [], [], [], [1068], [], [], [], [], [], [], [], [], [], [], [], [], [], [], [], [], [], [], [], [], [], [], [], [], [], [1068], [], [], [], [], [], [], [], [], [1068], [], [], [], [], [], [], [1068], [], []] = true := by decide +kernel
set_option maxRecDepth 100000 in
theorem qX12_determinant_1 : cks RX12 "determinant" cX12_determinant tX12_determinant 60 60 [[], [], [], [], [], [], [1068], [], [], [], [], [], [], [], [], [], [], [], [], [], [], [], [], [], [], [], [], [], [], [], [], [], [], [], [], [], [], [], [], [1068], [], [], [], [], [], [], [1068], [], [], [], [], [], [], [], [1068], [], [], [], [], []] = true := by decide +kernel
set_option maxRecDepth 100000 in
theorem qX12_determinant_2 : cks RX12 "determinant" cX12_determinant tX12_determinant 120 42 [[], [], [], [1068], [], [], [], [], [], [], [], [1068], [], [], [], [], [], [], [], [], [], [], [], [], [], [], [], [], [1068], [], [], [], [], [], [], [], [], [], [], [], [], []] = true := by decide +kernel
theorem nX12_determinant : tX12_determinant.length = 162 := by decide +kernel
theorem okX12_determinant : tOK RX12 "determinant" cX12_determinant MT tX12_determinant := tOK_of (fun j x hj hx => if h0 : j < 60 then cks_ok qX12_determinant_0 j x (by omega) (by omega) hx else if h1 : j < 120 then cks_ok qX12_determinant_1 j x (by omega) (by omega) hx else cks_ok qX12_determinant_2 j x (by omega) (by rw [nX12_determinant] at hj; omega) hx)
set_option maxRecDepth 100000 in
theorem qX12_placeOf_0 : cks RX12 "placeOf" cX12_placeOf tX12_placeOf 0 22 [[], [], [], [], [], [], [1071], [], [], [1070], [], [], [], [], [], [], [], [], [], [], [], []] = true := by decide +kernel
theorem nX12_placeOf : tX12_placeOf.length = 22 := by decide +kernel
theorem okX12_placeOf : tOK RX12 "placeOf" cX12_placeOf MT tX12_placeOf := tOK_of (fun j x hj hx => cks_ok qX12_placeOf_0 j x (by omega) (by rw [nX12_placeOf] at hj; omega) hx)
set_option maxRecDepth 100000 in
theorem qX12_solve_0 : cks RX12 "solve" cX12_solve tX12_solve 0 60 [[], [], [], [], [1071], [], [], [], [], [], [], [], [], [], [], [1071], [], [], [], [], [], [1071], [], [], [1068], [], [], [], [], [], [], [], [], [], [1073], [], [], [], [], [1072], [], [], [], [], [], [], [], [], [], [], [], [], [], [1071], [1298, 1300, 44, 81, 1301], [], [], [], [], [1075]] = true := by decide +kernel
set_option maxRecDepth 100000 in
theorem qX12_solve_1 : cks RX12 "solve" cX12_solve tX12_solve 60 60 [[], [1070], [], [], [], [], [], [], [1074], [], [1070], [], [], [], [], [], [], [], [], [], [], [], [], [], [], [], [1070], [], [], [], [], [], [1074], [], [], [], [1075], [], [], [1302, 1304, 45, 81, 1305], [], [], [1075], [], [], [], [], [], [], [], [], [], [], [], [1074], [], [], [], [], []] = true := by decide +kernel
set_option maxRecDepth 100000 in
theorem qX12_solve_2 : cks RX12 "solve" cX12_solve tX12_solve 120 12 [[], [], [1075], [], [], [], [], [], [], [], [], []] = true := by decide +kernel
theorem nX12_solve : tX12_solve.length = 132 := by decide +kernel
theorem okX12_solve : tOK RX12 "solve" cX12_solve MT tX12_solve := tOK_of (fun j x hj hx => if h0 : j < 60 then cks_ok qX12_solve_0 j x (by omega) (by omega) hx else if h1 : j < 120 then cks_ok qX12_solve_1 j x (by omega) (by omega) hx else cks_ok qX12_solve_2 j x (by omega) (by rw [nX12_solve] at hj; omega) hx)
set_option maxRecDepth 100000 in
theorem qX12_layRow_0 : cks RX12 "layRow" cX12_layRow tX12_layRow 0 60 [[], [], [], [], [1069], [], [], [], [], [], [], [], [], [1071], [], [], [1072], [], [], [], [], [], [], [], [], [1207], [], [], [], [], [], [], [], [], [], [1065], [], [], [], [], [], [1066], [], [], [], [], [], [], [1290, 1292, 42, 81, 1293], [], [], [], [], [1072], [], [], [], [], [], []] = true := by decide +kernel
set_option maxRecDepth 100000 in
theorem qX12_layRow_1 : cks RX12 "layRow" cX12_layRow tX12_layRow 60 15 [[], [], [1067], [], [], [], [], [], [], [], [], [], [], [], []] = true := by decide +kernel
theorem nX12_layRow : tX12_layRow.length = 75 := by decide +kernel
theorem okX12_layRow : tOK RX12 "layRow" cX12_layRow MT tX12_layRow := tOK_of (fun j x hj hx => if h0 : j < 60 then cks_ok qX12_layRow_0 j x (by omega) (by omega) hx else cks_ok qX12_layRow_1 j x (by omega) (by rw [nX12_layRow] at hj; omega) hx)
set_option maxRecDepth 100000 in
theorem qX12_comesChosen_0 : cks RX12 "comesChosen" cX12_comesChosen tX12_comesChosen 0 53 [[], [], [], [], [], [], [], [], [], [], [], [], [1060], [], [], [], [], [], [], [], [], [], [], [], [], [], [1069], [], [], [], [], [1258, 1260, 34, 81, 1261], [], [], [], [], [], [], [], [], [], [], [], [], [], [], [], [], [], [], [], [], []] = true := by decide +kernel
theorem nX12_comesChosen : tX12_comesChosen.length = 53 := by decide +kernel
theorem okX12_comesChosen : tOK RX12 "comesChosen" cX12_comesChosen MT tX12_comesChosen := tOK_of (fun j x hj hx => cks_ok qX12_comesChosen_0 j x (by omega) (by rw [nX12_comesChosen] at hj; omega) hx)
set_option maxRecDepth 100000 in
theorem qX12_chances_0 : cks RX12 "chances" cX12_chances tX12_chances 0 60 [[], [], [], [1282, 1284, 40, 81, 1285], [], [], [], [1071], [], [], [], [], [1060], [], [], [1074], [], [], [], [], [], [], [], [], [], [1075], [], [], [], [], [], [], [], [], [], [], [], [1070], [], [1071], [], [], [], [], [1071], [], [], [1071], [], [], [], [], [], [], [1071], [], [], [1070], [], []] = true := by decide +kernel
set_option maxRecDepth 100000 in
theorem qX12_chances_1 : cks RX12 "chances" cX12_chances tX12_chances 60 60 [[], [], [], [], [], [1069], [], [], [], [], [], [], [], [1286, 1288, 41, 81, 1289], [], [1073], [], [], [], [], [], [], [], [1065], [], [], [], [], [1073], [], [], [], [], [], [1066], [], [], [], [], [], [], [], [], [], [], [], [], [1067], [], [], [], [], [], [], [], [], [], [], [], []] = true := by decide +kernel
set_option maxRecDepth 100000 in
theorem qX12_chances_2 : cks RX12 "chances" cX12_chances tX12_chances 120 6 [[], [], [], [], [1294, 1296, 43, 81, 1297], []] = true := by decide +kernel
theorem nX12_chances : tX12_chances.length = 126 := by decide +kernel
theorem okX12_chances : tOK RX12 "chances" cX12_chances MT tX12_chances := tOK_of (fun j x hj hx => if h0 : j < 60 then cks_ok qX12_chances_0 j x (by omega) (by omega) hx else if h1 : j < 120 then cks_ok qX12_chances_1 j x (by omega) (by omega) hx else cks_ok qX12_chances_2 j x (by omega) (by rw [nX12_chances] at hj; omega) hx)
set_option maxRecDepth 100000 in
theorem qX12_isBelow_0 : cks RX12 "isBelow" cX12_isBelow tX12_isBelow 0 12 [[], [], [], [], [], [], [], [], [], [], [], []] = true := by decide +kernel
theorem nX12_isBelow : tX12_isBelow.length = 12 := by decide +kernel
theorem okX12_isBelow : tOK RX12 "isBelow" cX12_isBelow MT tX12_isBelow := tOK_of (fun j x hj hx => cks_ok qX12_isBelow_0 j x (by omega) (by rw [nX12_isBelow] at hj; omega) hx)
set_option maxRecDepth 100000 in
theorem qX12_nextChoice_0 : cks RX12 "nextChoice" cX12_nextChoice tX12_nextChoice 0 46 [[], [], [], [], [1060], [], [], [], [], [], [], [], [], [], [], [1195, 1197, 24, 81, 1198], [], [], [], [1069], [], [], [], [], [], [], [], [1069], [], [], [], [1062], [], [], [], [], [], [], [1069], [], [], [], [], [], [], []] = true := by decide +kernel
theorem nX12_nextChoice : tX12_nextChoice.length = 46 := by decide +kernel
theorem okX12_nextChoice : tOK RX12 "nextChoice" cX12_nextChoice MT tX12_nextChoice := tOK_of (fun j x hj hx => cks_ok qX12_nextChoice_0 j x (by omega) (by rw [nX12_nextChoice] at hj; omega) hx)
set_option maxRecDepth 100000 in
theorem qX12_countBits_0 : cks RX12 "countBits" cX12_countBits tX12_countBits 0 19 [[], [], [], [], [], [], [], [], [], [], [], [], [], [], [], [], [], [], []] = true := by decide +kernel
theorem nX12_countBits : tX12_countBits.length = 19 := by decide +kernel
theorem okX12_countBits : tOK RX12 "countBits" cX12_countBits MT tX12_countBits := tOK_of (fun j x hj hx => cks_ok qX12_countBits_0 j x (by omega) (by rw [nX12_countBits] at hj; omega) hx)
set_option maxRecDepth 100000 in
theorem qX12_worst_0 : cks RX12 "worst" cX12_worst tX12_worst 0 60 [[], [], [], [], [], [], [], [], [], [1278, 1280, 39, 81, 1281], [], [], [], [], [1060], [], [], [], [], [1078], [], [], [], [1079], [], [], [], [1074], [], [], [], [1075], [], [], [1306, 1307, 81, 1308], [], [], [1074], [], [], [], [1075], [], [], [], [1078], [], [], [], [1079], [], [], [1306, 1307, 81, 1308], [], [], [], [], [], [], [1078]] = true := by decide +kernel
set_option maxRecDepth 100000 in
theorem qX12_worst_1 : cks RX12 "worst" cX12_worst tX12_worst 60 25 [[], [], [1074], [], [], [], [], [1079], [], [], [1075], [], [], [], [], [], [], [], [], [], [], [1309, 1311, 46, 81, 1312], [], [], []] = true := by decide +kernel
theorem nX12_worst : tX12_worst.length = 85 := by decide +kernel
theorem okX12_worst : tOK RX12 "worst" cX12_worst MT tX12_worst := tOK_of (fun j x hj hx => if h0 : j < 60 then cks_ok qX12_worst_0 j x (by omega) (by omega) hx else cks_ok qX12_worst_1 j x (by omega) (by rw [nX12_worst] at hj; omega) hx)
set_option maxRecDepth 100000 in
theorem qX12_findValues_0 : cks RX12 "findValues" cX12_findValues tX12_findValues 0 60 [[], [], [1238, 1240, 29, 81, 1241], [], [], [], [1266, 1268, 36, 81, 1269], [], [], [], [], [], [], [], [1270, 1272, 37, 81, 1273], [], [], [], [], [], [], [], [], [], [], [], [], [], [], [], [], [1069], [], [], [], [], [], [], [], [], [], [], [], [], [], [], [], [1274, 1276, 38, 81, 1277], [], [], [], [], [1060], [], [], [], [], [], [], []] = true := by decide +kernel
set_option maxRecDepth 100000 in
theorem qX12_findValues_1 : cks RX12 "findValues" cX12_findValues tX12_findValues 60 60 [[], [1078], [], [], [], [1079], [], [], [], [1076], [], [], [], [1077], [], [], [1306, 1307, 81, 1308], [], [], [1076], [], [], [], [1077], [], [], [], [1078], [], [], [], [1079], [], [], [1306, 1307, 81, 1308], [], [], [], [], [], [], [1076], [], [], [1078], [], [], [], [], [1077], [], [], [1079], [], [], [], [], [], [], []] = true := by decide +kernel
set_option maxRecDepth 100000 in
theorem qX12_findValues_2 : cks RX12 "findValues" cX12_findValues tX12_findValues 120 8 [[], [], [], [1309, 1311, 46, 81, 1312], [], [], [], []] = true := by decide +kernel
theorem nX12_findValues : tX12_findValues.length = 128 := by decide +kernel
theorem okX12_findValues : tOK RX12 "findValues" cX12_findValues MT tX12_findValues := tOK_of (fun j x hj hx => if h0 : j < 60 then cks_ok qX12_findValues_0 j x (by omega) (by omega) hx else if h1 : j < 120 then cks_ok qX12_findValues_1 j x (by omega) (by omega) hx else cks_ok qX12_findValues_2 j x (by omega) (by rw [nX12_findValues] at hj; omega) hx)
set_option maxRecDepth 100000 in
theorem qX12_value_0 : cks RX12 "value" cX12_value tX12_value 0 46 [[], [], [1059], [], [], [1186, 1188, 23, 81, 1189], [], [], [], [], [], [1191, 1192, 81, 1193], [], [1232], [], [], [1224, 1226, 27, 81, 1227], [], [1233], [], [], [], [1234, 1236, 28, 81, 1237], [], [1313], [], [], [], [], [], [], [], [], [], [], [], [], [1076], [], [], [], [], [1077], [], [], []] = true := by decide +kernel
theorem nX12_value : tX12_value.length = 46 := by decide +kernel
theorem okX12_value : tOK RX12 "value" cX12_value MT tX12_value := tOK_of (fun j x hj hx => cks_ok qX12_value_0 j x (by omega) (by rw [nX12_value] at hj; omega) hx)
set_option maxRecDepth 100000 in
theorem qX12_findSum_0 : cks RX12 "findSum" cX12_findSum tX12_findSum 0 60 [[], [], [1080], [], [], [1081], [], [], [], [], [1065], [], [], [], [], [1066], [], [], [], [], [], [], [], [], [1067], [], [], [], [], [], [], [], [], [1076], [], [], [], [], [1207], [], [1077], [], [], [], [], [], [], [], [1302, 1304, 45, 81, 1305], [], [], [], [], [], [], [], [], [], [], []] = true := by decide +kernel
set_option maxRecDepth 100000 in
theorem qX12_findSum_1 : cks RX12 "findSum" cX12_findSum tX12_findSum 60 49 [[1081], [], [1302, 1304, 45, 81, 1305], [], [], [], [1080], [], [], [], [], [], [], [1081], [], [], [], [], [1080], [], [], [1081], [], [], [], [], [1081], [], [], [1080], [], [1081], [1302, 1304, 45, 81, 1305], [], [], [], [1080], [], [], [1080], [], [], [1081], [], [], [1081], [], [], []] = true := by decide +kernel
theorem nX12_findSum : tX12_findSum.length = 109 := by decide +kernel
theorem okX12_findSum : tOK RX12 "findSum" cX12_findSum MT tX12_findSum := tOK_of (fun j x hj hx => if h0 : j < 60 then cks_ok qX12_findSum_0 j x (by omega) (by omega) hx else cks_ok qX12_findSum_1 j x (by omega) (by rw [nX12_findSum] at hj; omega) hx)
set_option maxRecDepth 100000 in
theorem qX12_isJust_0 : cks RX12 "isJust" cX12_isJust tX12_isJust 0 27 [[], [], [], [], [], [], [1334, 1336, 51, 81, 1337], [], [1080], [], [1076], [], [], [], [], [], [1081], [], [1077], [], [], [], [], [], [], [], []] = true := by decide +kernel
theorem nX12_isJust : tX12_isJust.length = 27 := by decide +kernel
theorem okX12_isJust : tOK RX12 "isJust" cX12_isJust MT tX12_isJust := tOK_of (fun j x hj hx => cks_ok qX12_isJust_0 j x (by omega) (by rw [nX12_isJust] at hj; omega) hx)
set_option maxRecDepth 100000 in
theorem qX12_nearest_0 : cks RX12 "nearest" cX12_nearest tX12_nearest 0 41 [[], [], [], [], [], [], [1065], [], [], [], [], [1082], [], [1066], [], [], [], [], [], [], [], [], [], [], [1082], [], [1066], [], [], [], [], [], [], [], [], [], [], [], [], [], []] = true := by decide +kernel
theorem nX12_nearest : tX12_nearest.length = 41 := by decide +kernel
theorem okX12_nearest : tOK RX12 "nearest" cX12_nearest MT tX12_nearest := tOK_of (fun j x hj hx => cks_ok qX12_nearest_0 j x (by omega) (by rw [nX12_nearest] at hj; omega) hx)
