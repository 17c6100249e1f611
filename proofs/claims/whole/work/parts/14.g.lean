/-! CERTIFICATES (by program: wip/whole/gen_certs.py) -/
set_option maxRecDepth 100000 in
theorem qX12_hole_0 : cks RX12 "hole" cX12_hole tX12_hole 0 60 [[], [], [1059], [], [], [], [1396], [1191, 1192, 81, 1193], [], [], [], [], [1224, 1226, 27, 81, 1227], [], [], [], [], [1397, 1399, 58, 81, 1400], [], [], [], [1089], [], [], [], [], [], [1089], [], [], [], [], [], [], [], [], [], [], [1060], [], [], [], [], [], [], [], [1062], [], [], [], [], [], [], [1088], [], [], [], [], [], []] = true := by decide +kernel
set_option maxRecDepth 100000 in
theorem qX12_hole_1 : cks RX12 "hole" cX12_hole tX12_hole 60 29 [[], [], [], [], [], [], [], [1088], [], [], [1254, 1256, 33, 81, 1257], [], [], [], [], [], [], [], [], [], [], [], [], [1088], [], [], [], [], []] = true := by decide +kernel
theorem nX12_hole : tX12_hole.length = 89 := by decide +kernel
theorem okX12_hole : tOK RX12 "hole" cX12_hole MT tX12_hole := tOK_of (fun j x hj hx => if h0 : j < 60 then cks_ok qX12_hole_0 j x (by omega) (by omega) hx else cks_ok qX12_hole_1 j x (by omega) (by rw [nX12_hole] at hj; omega) hx)
set_option maxRecDepth 100000 in
theorem qX12_partIn_0 : cks RX12 "partIn" cX12_partIn tX12_partIn 0 40 [[], [], [], [], [], [], [1065], [], [], [], [], [], [1090], [], [1066], [], [], [], [], [], [], [], [], [], [], [1067], [], [], [], [], [], [], [], [], [], [], [], [], [], []] = true := by decide +kernel
theorem nX12_partIn : tX12_partIn.length = 40 := by decide +kernel
theorem okX12_partIn : tOK RX12 "partIn" cX12_partIn MT tX12_partIn := tOK_of (fun j x hj hx => cks_ok qX12_partIn_0 j x (by omega) (by rw [nX12_partIn] at hj; omega) hx)
set_option maxRecDepth 100000 in
theorem qX12_areLike_0 : cks RX12 "areLike" cX12_areLike tX12_areLike 0 56 [[], [1064], [], [], [], [1064], [], [], [], [], [1063], [], [], [], [], [], [], [], [], [1063], [], [], [], [], [], [], [], [], [], [], [], [], [], [], [], [], [], [], [], [], [], [], [1429, 1431, 65, 81, 1432], [], [], [], [1429, 1431, 65, 81, 1432], [], [], [], [], [], [], [], [], []] = true := by decide +kernel
theorem nX12_areLike : tX12_areLike.length = 56 := by decide +kernel
theorem okX12_areLike : tOK RX12 "areLike" cX12_areLike MT tX12_areLike := tOK_of (fun j x hj hx => cks_ok qX12_areLike_0 j x (by omega) (by rw [nX12_areLike] at hj; omega) hx)
set_option maxRecDepth 100000 in
theorem qX12_hasAll_0 : cks RX12 "hasAll" cX12_hasAll tX12_hasAll 0 53 [[], [], [], [], [], [], [1062], [], [], [], [], [], [], [], [], [], [1062], [], [], [], [], [], [], [], [], [], [], [], [], [], [], [], [], [1425, 1427, 64, 81, 1428], [], [], [], [], [], [], [], [], [], [], [], [], [], [], [], [], [], [], []] = true := by decide +kernel
theorem nX12_hasAll : tX12_hasAll.length = 53 := by decide +kernel
theorem okX12_hasAll : tOK RX12 "hasAll" cX12_hasAll MT tX12_hasAll := tOK_of (fun j x hj hx => cks_ok qX12_hasAll_0 j x (by omega) (by rw [nX12_hasAll] at hj; omega) hx)
set_option maxRecDepth 100000 in
theorem qX12_findClasses_0 : cks RX12 "findClasses" cX12_findClasses tX12_findClasses 0 60 [[], [], [], [], [1060], [], [], [1090], [], [], [], [1322, 1324, 48, 81, 1325], [], [], [], [], [], [], [], [], [], [], [], [], [], [], [], [], [], [], [], [], [1060], [], [], [], [], [], [], [], [], [], [], [], [1090], [], [], [], [1090], [], [], [], [], [], [], [1421, 1423, 63, 81, 1424], [], [], [], []] = true := by decide +kernel
set_option maxRecDepth 100000 in
theorem qX12_findClasses_1 : cks RX12 "findClasses" cX12_findClasses tX12_findClasses 60 50 [[1421, 1423, 63, 81, 1424], [], [], [1091], [], [], [], [], [], [], [], [], [1091], [], [], [], [], [], [], [], [], [], [], [], [], [], [], [], [], [], [], [], [], [], [1060], [], [], [1090], [], [], [1091], [], [], [], [], [], [], [], [], []] = true := by decide +kernel
theorem nX12_findClasses : tX12_findClasses.length = 110 := by decide +kernel
theorem okX12_findClasses : tOK RX12 "findClasses" cX12_findClasses MT tX12_findClasses := tOK_of (fun j x hj hx => if h0 : j < 60 then cks_ok qX12_findClasses_0 j x (by omega) (by omega) hx else cks_ok qX12_findClasses_1 j x (by omega) (by rw [nX12_findClasses] at hj; omega) hx)
set_option maxRecDepth 100000 in
theorem qX12_twin_0 : cks RX12 "twin" cX12_twin tX12_twin 0 22 [[], [], [1059], [], [], [1186, 1188, 23, 81, 1189], [], [], [], [], [1224, 1226, 27, 81, 1227], [], [], [], [], [1417, 1419, 62, 81, 1420], [], [], [1090], [], [], []] = true := by decide +kernel
theorem nX12_twin : tX12_twin.length = 22 := by decide +kernel
theorem okX12_twin : tOK RX12 "twin" cX12_twin MT tX12_twin := tOK_of (fun j x hj hx => cks_ok qX12_twin_0 j x (by omega) (by rw [nX12_twin] at hj; omega) hx)
set_option maxRecDepth 100000 in
theorem qX12_count_0 : cks RX12 "count" cX12_count tX12_count 0 60 [[], [], [1059], [], [], [], [], [], [1060], [], [], [], [], [], [1224, 1226, 27, 81, 1227], [], [], [], [], [1417, 1419, 62, 81, 1420], [], [], [], [], [1190], [1191, 1192, 81, 1193], [], [], [], [], [], [], [], [], [1060], [], [], [], [], [], [], [1062], [], [], [], [], [], [], [], [], [], [], [], [], [], [], [], [], [], []] = true := by decide +kernel
set_option maxRecDepth 100000 in
theorem qX12_count_1 : cks RX12 "count" cX12_count tX12_count 60 24 [[], [], [], [], [], [1065], [], [], [], [], [1063], [], [], [], [], [], [], [], [], [], [], [], [], []] = true := by decide +kernel
theorem nX12_count : tX12_count.length = 84 := by decide +kernel
theorem okX12_count : tOK RX12 "count" cX12_count MT tX12_count := tOK_of (fun j x hj hx => if h0 : j < 60 then cks_ok qX12_count_0 j x (by omega) (by omega) hx else cks_ok qX12_count_1 j x (by omega) (by rw [nX12_count] at hj; omega) hx)
set_option maxRecDepth 100000 in
theorem qX12_look_0 : cks RX12 "look" cX12_look tX12_look 0 60 [[], [], [1059], [], [], [], [1203, 1205, 25, 81, 1206], [], [], [], [], [1354], [1191, 1192, 81, 1193], [], [], [], [], [], [], [], [], [], [], [], [], [], [], [], [1063], [], [], [], [], [], [], [], [1064], [], [], [], [], [1065], [], [], [], [], [], [], [], [], [], [], [], [1065], [], [], [], [], [], []] = true := by decide +kernel
set_option maxRecDepth 100000 in
theorem qX12_look_1 : cks RX12 "look" cX12_look tX12_look 60 20 [[], [], [], [1066], [], [], [], [], [], [], [], [], [1067], [], [], [], [], [], [], []] = true := by decide +kernel
theorem nX12_look : tX12_look.length = 80 := by decide +kernel
theorem okX12_look : tOK RX12 "look" cX12_look MT tX12_look := tOK_of (fun j x hj hx => if h0 : j < 60 then cks_ok qX12_look_0 j x (by omega) (by omega) hx else cks_ok qX12_look_1 j x (by omega) (by rw [nX12_look] at hj; omega) hx)
set_option maxRecDepth 100000 in
theorem qX12_isShelf_0 : cks RX12 "isShelf" cX12_isShelf tX12_isShelf 0 9 [[], [], [], [], [], [], [], [], []] = true := by decide +kernel
theorem nX12_isShelf : tX12_isShelf.length = 9 := by decide +kernel
theorem okX12_isShelf : tOK RX12 "isShelf" cX12_isShelf MT tX12_isShelf := tOK_of (fun j x hj hx => cks_ok qX12_isShelf_0 j x (by omega) (by rw [nX12_isShelf] at hj; omega) hx)
set_option maxRecDepth 100000 in
theorem qX12_weightOf_0 : cks RX12 "weightOf" cX12_weightOf tX12_weightOf 0 45 [[], [1064], [], [], [], [], [1065], [], [], [], [], [], [], [1063], [], [], [], [], [], [], [1063], [], [], [], [], [], [], [], [], [], [1063], [], [], [], [], [], [], [], [], [], [], [], [], [], []] = true := by decide +kernel
theorem nX12_weightOf : tX12_weightOf.length = 45 := by decide +kernel
theorem okX12_weightOf : tOK RX12 "weightOf" cX12_weightOf MT tX12_weightOf := tOK_of (fun j x hj hx => cks_ok qX12_weightOf_0 j x (by omega) (by rw [nX12_weightOf] at hj; omega) hx)
set_option maxRecDepth 100000 in
theorem qX12_keep_0 : cks RX12 "keep" cX12_keep tX12_keep 0 60 [[], [], [1059], [], [1445, 1446, 81, 1447], [], [], [], [], [1448], [1191, 1192, 81, 1193], [], [], [], [], [], [], [], [], [], [], [1203, 1205, 25, 81, 1206], [], [], [], [], [], [], [1186, 1188, 23, 81, 1189], [], [], [], [], [], [], [], [], [], [], [], [], [], [], [], [], [1318, 1320, 47, 81, 1321], [], [], [], [], [], [], [], [], [], [1092], [], [], [], []] = true := by decide +kernel
set_option maxRecDepth 100000 in
theorem qX12_keep_1 : cks RX12 "keep" cX12_keep tX12_keep 60 60 [[1093], [], [], [], [], [], [1065], [], [], [], [], [], [], [], [], [], [], [], [], [1060], [], [], [], [], [], [], [], [], [], [], [], [1094], [], [], [], [], [], [], [], [], [], [], [1449, 1451, 66, 81, 1452], [], [], [], [1076], [], [], [], [], [], [], [], [1093], [], [], [], [], [1095]] = true := by decide +kernel
set_option maxRecDepth 100000 in
theorem qX12_keep_2 : cks RX12 "keep" cX12_keep tX12_keep 120 44 [[], [], [], [], [], [], [], [], [], [1067], [], [], [], [], [], [], [], [], [], [], [], [], [], [], [], [], [], [1076], [], [], [], [], [], [], [1077], [], [], [], [], [], [], [], [], []] = true := by decide +kernel
theorem nX12_keep : tX12_keep.length = 164 := by decide +kernel
theorem okX12_keep : tOK RX12 "keep" cX12_keep MT tX12_keep := tOK_of (fun j x hj hx => if h0 : j < 60 then cks_ok qX12_keep_0 j x (by omega) (by omega) hx else if h1 : j < 120 then cks_ok qX12_keep_1 j x (by omega) (by omega) hx else cks_ok qX12_keep_2 j x (by omega) (by rw [nX12_keep] at hj; omega) hx)
set_option maxRecDepth 100000 in
theorem qX12_make_0 : cks RX12 "make" cX12_make tX12_make 0 49 [[], [], [1059], [], [1445, 1446, 81, 1447], [], [], [], [1190], [1448], [1191, 1192, 81, 1193], [], [], [], [], [], [], [], [], [], [], [], [1092], [], [], [], [], [1093], [], [], [], [], [], [], [], [], [], [1095], [], [], [], [], [], [], [], [], [], [], []] = true := by decide +kernel
theorem nX12_make : tX12_make.length = 49 := by decide +kernel
theorem okX12_make : tOK RX12 "make" cX12_make MT tX12_make := tOK_of (fun j x hj hx => cks_ok qX12_make_0 j x (by omega) (by rw [nX12_make] at hj; omega) hx)
set_option maxRecDepth 100000 in
theorem qX12_element_0 : cks RX12 "element" cX12_element tX12_element 0 50 [[], [1445, 1446, 81, 1447], [], [], [1092], [], [], [], [], [], [], [], [], [1093], [], [], [], [], [], [1191, 1192, 81, 1193], [], [], [], [], [], [], [], [1445, 1446, 81, 1447], [], [], [], [], [], [], [], [], [1059], [], [], [], [1095], [], [], [], [], [], [], [], [], []] = true := by decide +kernel
theorem nX12_element : tX12_element.length = 50 := by decide +kernel
theorem okX12_element : tOK RX12 "element" cX12_element MT tX12_element := tOK_of (fun j x hj hx => cks_ok qX12_element_0 j x (by omega) (by rw [nX12_element] at hj; omega) hx)
set_option maxRecDepth 100000 in
theorem qX12_hasPlaces_0 : cks RX12 "hasPlaces" cX12_hasPlaces tX12_hasPlaces 0 22 [[], [], [], [], [], [], [1093], [], [], [], [], [], [1093], [], [], [], [], [], [], [], [], []] = true := by decide +kernel
theorem nX12_hasPlaces : tX12_hasPlaces.length = 22 := by decide +kernel
theorem okX12_hasPlaces : tOK RX12 "hasPlaces" cX12_hasPlaces MT tX12_hasPlaces := tOK_of (fun j x hj hx => cks_ok qX12_hasPlaces_0 j x (by omega) (by rw [nX12_hasPlaces] at hj; omega) hx)
set_option maxRecDepth 100000 in
theorem qX12_copy_0 : cks RX12 "copy" cX12_copy tX12_copy 0 60 [[], [], [1059], [], [1445, 1446, 81, 1447], [], [], [1445, 1446, 81, 1447], [], [], [], [], [1092], [], [], [], [], [1092], [], [], [], [], [], [], [1092], [], [], [], [], [], [1092], [], [], [], [1092], [], [], [], [], [], [], [], [], [], [1465, 1467, 67, 81, 1468], [], [], [], [], [], [1465, 1467, 67, 81, 1468], [], [], [], [], [], [], [], [], []] = true := by decide +kernel
set_option maxRecDepth 100000 in
theorem qX12_copy_1 : cks RX12 "copy" cX12_copy tX12_copy 60 38 [[1096], [], [], [1095], [], [], [], [], [], [], [], [], [], [], [], [], [], [], [], [], [], [1095], [], [], [], [], [], [], [], [], [1096], [], [], [], [], [], [], []] = true := by decide +kernel
theorem nX12_copy : tX12_copy.length = 98 := by decide +kernel
theorem okX12_copy : tOK RX12 "copy" cX12_copy MT tX12_copy := tOK_of (fun j x hj hx => if h0 : j < 60 then cks_ok qX12_copy_0 j x (by omega) (by omega) hx else cks_ok qX12_copy_1 j x (by omega) (by rw [nX12_copy] at hj; omega) hx)
set_option maxRecDepth 100000 in
theorem qX12_weight_0 : cks RX12 "weight" cX12_weight tX12_weight 0 28 [[], [], [1059], [], [1445, 1446, 81, 1447], [], [1232], [], [], [1092], [], [], [], [1473], [], [], [1092], [], [], [], [], [1474], [], [], [1094], [], [], []] = true := by decide +kernel
theorem nX12_weight : tX12_weight.length = 28 := by decide +kernel
theorem okX12_weight : tOK RX12 "weight" cX12_weight MT tX12_weight := tOK_of (fun j x hj hx => cks_ok qX12_weight_0 j x (by omega) (by rw [nX12_weight] at hj; omega) hx)
set_option maxRecDepth 100000 in
theorem qX12_ratio_0 : cks RX12 "ratio" cX12_ratio tX12_ratio 0 56 [[], [], [1059], [], [1445, 1446, 81, 1447], [], [], [1445, 1446, 81, 1447], [], [1232], [], [], [1092], [], [], [], [], [1092], [], [], [], [1473], [], [], [1092], [], [], [], [], [], [1092], [], [], [], [], [1474], [], [], [1094], [], [], [], [], [], [1479], [], [], [1094], [], [], [], [1094], [], [], [], []] = true := by decide +kernel
theorem nX12_ratio : tX12_ratio.length = 56 := by decide +kernel
theorem okX12_ratio : tOK RX12 "ratio" cX12_ratio MT tX12_ratio := tOK_of (fun j x hj hx => cks_ok qX12_ratio_0 j x (by omega) (by rw [nX12_ratio] at hj; omega) hx)
set_option maxRecDepth 100000 in
theorem qJ6_bitCount_0f7a4_0 : cks RJ6 "bitCount" cJ6_bitCount_0f7a4 tJ6_bitCount_0f7a4 0 42 [[], [], [], [], [578], [], [], [], [], [579], [], [], [], [], [579], [], [], [], [], [], [], [], [], [580], [], [], [], [], [], [], [], [], [], [], [], [], [], [], [], [], [], []] = true := by decide +kernel
theorem nJ6_bitCount_0f7a4 : tJ6_bitCount_0f7a4.length = 42 := by decide +kernel
theorem okJ6_bitCount_0f7a4 : tOK RJ6 "bitCount" cJ6_bitCount_0f7a4 MT tJ6_bitCount_0f7a4 := tOK_of (fun j x hj hx => cks_ok qJ6_bitCount_0f7a4_0 j x (by omega) (by rw [nJ6_bitCount_0f7a4] at hj; omega) hx)
set_option maxRecDepth 100000 in
theorem qJ7_fill_d0a16_0 : cks RJ7 "fill" cJ7_fill_d0a16 tJ7_fill_d0a16 0 15 [[], [], [], [], [], [], [], [], [], [], [], [], [], [], []] = true := by decide +kernel
theorem nJ7_fill_d0a16 : tJ7_fill_d0a16.length = 15 := by decide +kernel
theorem okJ7_fill_d0a16 : tOK RJ7 "fill" cJ7_fill_d0a16 MT tJ7_fill_d0a16 := tOK_of (fun j x hj hx => cks_ok qJ7_fill_d0a16_0 j x (by omega) (by rw [nJ7_fill_d0a16] at hj; omega) hx)
