/-! CERTIFICATES (by program: wip/whole/gen_certs.py) -/
set_option maxRecDepth 100000 in
theorem qX5_evaluate_0 : cks RX5 "evaluate" cX5_evaluate tX5_evaluate 0 60 [[], [], [], [], [354], [220], [], [], [354], [217], [], [], [], [], [351], [], [], [353], [246], [], [], [794, 519, 520, 70, 521], [], [], [354], [], [], [], [], [116], [], [], [795, 656, 657, 73, 658], [], [], [], [354], [796, 664, 665, 73, 666], [], [], [354], [222], [358], [], [356], [], [797, 660, 83, 661], [], [], [], [], [354], [220], [], [], [356], [], [354], [217], []] = true := by decide +kernel
set_option maxRecDepth 100000 in
theorem qX5_evaluate_1 : cks RX5 "evaluate" cX5_evaluate tX5_evaluate 60 9 [[], [], [354], [], [798, 672, 673, 73, 674], [], [], [], []] = true := by decide +kernel
theorem nX5_evaluate : tX5_evaluate.length = 69 := by decide +kernel
theorem okX5_evaluate : tOK RX5 "evaluate" cX5_evaluate MT tX5_evaluate := tOK_of (fun j x hj hx => if h0 : j < 60 then cks_ok qX5_evaluate_0 j x (by omega) (by omega) hx else cks_ok qX5_evaluate_1 j x (by omega) (by rw [nX5_evaluate] at hj; omega) hx)
set_option maxRecDepth 100000 in
theorem qX5_improve_0 : cks RX5 "improve" cX5_improve tX5_improve 0 23 [[], [], [], [], [], [], [354], [220], [], [], [], [], [354], [217], [], [], [803, 805, 12, 77, 806], [], [], [], [], [], []] = true := by decide +kernel
theorem nX5_improve : tX5_improve.length = 23 := by decide +kernel
theorem okX5_improve : tOK RX5 "improve" cX5_improve MT tX5_improve := tOK_of (fun j x hj hx => cks_ok qX5_improve_0 j x (by omega) (by rw [nX5_improve] at hj; omega) hx)
set_option maxRecDepth 100000 in
theorem qX5_improveState_0 : cks RX5 "improveState" cX5_improveState tX5_improveState 0 60 [[], [353], [246], [], [], [], [807], [], [356], [], [], [], [], [], [], [], [], [351], [185], [], [], [], [], [351], [], [], [794, 519, 520, 70, 521], [], [], [], [116], [], [], [], [358], [], [], [], [356], [808, 652, 653, 71, 654], [], [], [], [], [352], [266], [809, 627, 628, 71, 629], [], [], [], [], [], [], [], [], [353], [246], [], [], []] = true := by decide +kernel
set_option maxRecDepth 100000 in
theorem qX5_improveState_1 : cks RX5 "improveState" cX5_improveState tX5_improveState 60 13 [[], [], [], [353], [246], [], [], [], [], [], [], [], []] = true := by decide +kernel
theorem nX5_improveState : tX5_improveState.length = 73 := by decide +kernel
theorem okX5_improveState : tOK RX5 "improveState" cX5_improveState MT tX5_improveState := tOK_of (fun j x hj hx => if h0 : j < 60 then cks_ok qX5_improveState_0 j x (by omega) (by omega) hx else cks_ok qX5_improveState_1 j x (by omega) (by rw [nX5_improveState] at hj; omega) hx)
set_option maxRecDepth 100000 in
theorem qX6_init_0 : cks RX6 "<init>" cX6_init tX6_init 0 15 [[], [439, 96, 97], [], [], [442], [], [440, 106, 71], [], [441, 108, 71, 109], [448], [], [], [236], [450], []] = true := by decide +kernel
theorem nX6_init : tX6_init.length = 15 := by decide +kernel
theorem okX6_init : tOK RX6 "<init>" cX6_init MT tX6_init := tOK_of (fun j x hj hx => cks_ok qX6_init_0 j x (by omega) (by rw [nX6_init] at hj; omega) hx)
set_option maxRecDepth 100000 in
theorem qX6_isRow_0 : cks RX6 "isRow" cX6_isRow tX6_isRow 0 12 [[], [442], [], [], [], [442], [], [], [], [], [], []] = true := by decide +kernel
theorem nX6_isRow : tX6_isRow.length = 12 := by decide +kernel
theorem okX6_isRow : tOK RX6 "isRow" cX6_isRow MT tX6_isRow := tOK_of (fun j x hj hx => cks_ok qX6_isRow_0 j x (by omega) (by rw [nX6_isRow] at hj; omega) hx)
set_option maxRecDepth 100000 in
theorem qX6_hasPlaces_0 : cks RX6 "hasPlaces" cX6_hasPlaces tX6_hasPlaces 0 14 [[], [], [], [], [], [], [446], [], [], [], [], [], [], []] = true := by decide +kernel
theorem nX6_hasPlaces : tX6_hasPlaces.length = 14 := by decide +kernel
theorem okX6_hasPlaces : tOK RX6 "hasPlaces" cX6_hasPlaces MT tX6_hasPlaces := tOK_of (fun j x hj hx => cks_ok qX6_hasPlaces_0 j x (by omega) (by rw [nX6_hasPlaces] at hj; omega) hx)
set_option maxRecDepth 100000 in
theorem qX6_holdAct_0 : cks RX6 "holdAct" cX6_holdAct tX6_holdAct 0 8 [[], [], [442], [], [448], [], [908, 909, 910, 71, 911], []] = true := by decide +kernel
theorem nX6_holdAct : tX6_holdAct.length = 8 := by decide +kernel
theorem okX6_holdAct : tOK RX6 "holdAct" cX6_holdAct MT tX6_holdAct := tOK_of (fun j x hj hx => cks_ok qX6_holdAct_0 j x (by omega) (by rw [nX6_holdAct] at hj; omega) hx)
set_option maxRecDepth 100000 in
theorem qX6_holdNumber_0 : cks RX6 "holdNumber" cX6_holdNumber tX6_holdNumber 0 7 [[], [], [442], [], [], [444], []] = true := by decide +kernel
theorem nX6_holdNumber : tX6_holdNumber.length = 7 := by decide +kernel
theorem okX6_holdNumber : tOK RX6 "holdNumber" cX6_holdNumber MT tX6_holdNumber := tOK_of (fun j x hj hx => cks_ok qX6_holdNumber_0 j x (by omega) (by rw [nX6_holdNumber] at hj; omega) hx)
set_option maxRecDepth 100000 in
theorem qX6_holdParts_0 : cks RX6 "holdParts" cX6_holdParts tX6_holdParts 0 23 [[], [], [], [123], [922, 923, 924, 80, 925], [], [], [], [], [123], [], [], [450], [], [], [140], [], [], [], [], [], [], []] = true := by decide +kernel
theorem nX6_holdParts : tX6_holdParts.length = 23 := by decide +kernel
theorem okX6_holdParts : tOK RX6 "holdParts" cX6_holdParts MT tX6_holdParts := tOK_of (fun j x hj hx => cks_ok qX6_holdParts_0 j x (by omega) (by rw [nX6_holdParts] at hj; omega) hx)
set_option maxRecDepth 100000 in
theorem qX6_beginRow_0 : cks RX6 "beginRow" cX6_beginRow tX6_beginRow 0 11 [[], [], [442], [], [], [446], [], [450], [], [926, 660, 83, 661], []] = true := by decide +kernel
theorem nX6_beginRow : tX6_beginRow.length = 11 := by decide +kernel
theorem okX6_beginRow : tOK RX6 "beginRow" cX6_beginRow MT tX6_beginRow := tOK_of (fun j x hj hx => cks_ok qX6_beginRow_0 j x (by omega) (by rw [nX6_beginRow] at hj; omega) hx)
set_option maxRecDepth 100000 in
theorem qX7_init_0 : cks RX7 "<init>" cX7_init tX7_init 0 18 [[], [411, 96, 97], [], [], [157], [413], [], [], [236], [414], [], [], [157], [416], [], [], [412], []] = true := by decide +kernel
theorem nX7_init : tX7_init.length = 18 := by decide +kernel
theorem okX7_init : tOK RX7 "<init>" cX7_init MT tX7_init := tOK_of (fun j x hj hx => cks_ok qX7_init_0 j x (by omega) (by rw [nX7_init] at hj; omega) hx)
set_option maxRecDepth 100000 in
theorem qX7_settle_0 : cks RX7 "settle" cX7_settle tX7_settle 0 58 [[], [415], [], [412], [178], [], [], [], [], [412], [178], [415], [], [], [], [], [412], [160], [], [], [416], [], [], [412], [168], [], [851, 545, 69, 546], [], [], [], [], [], [], [], [], [], [418], [], [], [], [], [], [], [], [], [418], [], [], [], [418], [], [], [852, 854, 16, 79, 855], [], [861, 863, 18, 79, 864], [], [], []] = true := by decide +kernel
theorem nX7_settle : tX7_settle.length = 58 := by decide +kernel
theorem okX7_settle : tOK RX7 "settle" cX7_settle MT tX7_settle := tOK_of (fun j x hj hx => cks_ok qX7_settle_0 j x (by omega) (by rw [nX7_settle] at hj; omega) hx)
set_option maxRecDepth 100000 in
theorem qX7_readFaces_0 : cks RX7 "readFaces" cX7_readFaces tX7_readFaces 0 36 [[], [], [], [], [412], [160], [], [], [], [], [], [412], [181], [], [], [], [], [414], [], [], [], [], [], [], [], [412], [], [], [856, 519, 520, 70, 521], [857, 859, 17, 79, 860], [], [], [], [], [], []] = true := by decide +kernel
theorem nX7_readFaces : tX7_readFaces.length = 36 := by decide +kernel
theorem okX7_readFaces : tOK RX7 "readFaces" cX7_readFaces MT tX7_readFaces := tOK_of (fun j x hj hx => cks_ok qX7_readFaces_0 j x (by omega) (by rw [nX7_readFaces] at hj; omega) hx)
set_option maxRecDepth 100000 in
theorem qX7_faceOf_0 : cks RX7 "faceOf" cX7_faceOf tX7_faceOf 0 48 [[], [112], [], [], [], [], [], [], [], [], [], [], [117], [], [], [], [], [], [], [], [], [], [], [], [121], [], [], [], [139], [], [], [], [], [], [416], [], [135], [], [], [], [], [], [], [], [], [], [], []] = true := by decide +kernel
theorem nX7_faceOf : tX7_faceOf.length = 48 := by decide +kernel
theorem okX7_faceOf : tOK RX7 "faceOf" cX7_faceOf MT tX7_faceOf := tOK_of (fun j x hj hx => cks_ok qX7_faceOf_0 j x (by omega) (by rw [nX7_faceOf] at hj; omega) hx)
set_option maxRecDepth 100000 in
theorem qX7_split_0 : cks RX7 "split" cX7_split tX7_split 0 60 [[], [], [418], [], [], [], [], [412], [160], [], [], [413], [], [], [], [], [], [], [], [], [], [413], [], [], [], [], [416], [], [], [], [416], [], [], [], [], [], [], [865, 867, 19, 79, 868], [], [], [], [], [865, 867, 19, 79, 868], [], [], [413], [], [], [413], [], [], [], [], [], [], [413], [], [], [], []] = true := by decide +kernel
set_option maxRecDepth 100000 in
theorem qX7_split_1 : cks RX7 "split" cX7_split tX7_split 60 22 [[413], [], [], [418], [], [], [], [418], [], [], [418], [], [], [], [413], [], [], [416], [], [], [873, 875, 874, 84], []] = true := by decide +kernel
theorem nX7_split : tX7_split.length = 82 := by decide +kernel
theorem okX7_split : tOK RX7 "split" cX7_split MT tX7_split := tOK_of (fun j x hj hx => if h0 : j < 60 then cks_ok qX7_split_0 j x (by omega) (by omega) hx else cks_ok qX7_split_1 j x (by omega) (by rw [nX7_split] at hj; omega) hx)
set_option maxRecDepth 100000 in
theorem qX7_covers_0 : cks RX7 "covers" cX7_covers tX7_covers 0 27 [[], [], [], [], [412], [181], [], [], [], [], [], [], [414], [], [], [], [], [], [], [869, 871, 20, 79, 872], [], [], [], [], [], [], []] = true := by decide +kernel
theorem nX7_covers : tX7_covers.length = 27 := by decide +kernel
theorem okX7_covers : tOK RX7 "covers" cX7_covers MT tX7_covers := tOK_of (fun j x hj hx => cks_ok qX7_covers_0 j x (by omega) (by rw [nX7_covers] at hj; omega) hx)
set_option maxRecDepth 100000 in
theorem qX7_hasFace_0 : cks RX7 "hasFace" cX7_hasFace tX7_hasFace 0 26 [[], [], [], [], [412], [181], [], [], [], [], [414], [], [], [], [], [], [], [], [], [], [], [], [], [], [], []] = true := by decide +kernel
theorem nX7_hasFace : tX7_hasFace.length = 26 := by decide +kernel
theorem okX7_hasFace : tOK RX7 "hasFace" cX7_hasFace MT tX7_hasFace := tOK_of (fun j x hj hx => cks_ok qX7_hasFace_0 j x (by omega) (by rw [nX7_hasFace] at hj; omega) hx)
set_option maxRecDepth 100000 in
theorem qX8_init_0 : cks RX8 "<init>" cX8_init tX8_init 0 25 [[], [205, 96, 97], [], [206, 207, 73], [], [208, 209, 73, 210], [258], [], [], [236], [261], [], [], [255], [], [], [256], [], [237, 238, 74], [], [], [], [239, 240, 74, 241], [257], []] = true := by decide +kernel
theorem nX8_init : tX8_init.length = 25 := by decide +kernel
theorem okX8_init : tOK RX8 "<init>" cX8_init MT tX8_init := tOK_of (fun j x hj hx => cks_ok qX8_init_0 j x (by omega) (by rw [nX8_init] at hj; omega) hx)
set_option maxRecDepth 100000 in
theorem qX8_sort_0 : cks RX8 "sort" cX8_sort tX8_sort 0 53 [[], [259], [], [255], [173], [], [], [], [], [255], [173], [259], [], [255], [610, 568, 569, 70, 570], [], [], [], [], [], [265], [], [], [], [], [], [], [265], [], [], [], [265], [], [], [], [257], [], [265], [611, 612, 613, 74, 614], [265], [], [], [], [], [], [257], [], [611, 612, 613, 74, 614], [], [], [], [268], []] = true := by decide +kernel
theorem nX8_sort : tX8_sort.length = 53 := by decide +kernel
theorem okX8_sort : tOK RX8 "sort" cX8_sort MT tX8_sort := tOK_of (fun j x hj hx => cks_ok qX8_sort_0 j x (by omega) (by rw [nX8_sort] at hj; omega) hx)
set_option maxRecDepth 100000 in
theorem qX8_settle_0 : cks RX8 "settle" cX8_settle tX8_settle 0 57 [[], [260], [], [255], [173], [], [], [], [], [255], [173], [260], [], [], [258], [], [255], [610, 568, 569, 70, 570], [], [265], [], [], [], [], [268], [], [], [], [634, 635, 636, 73, 637], [271], [], [271], [], [], [], [], [640], [], [], [], [], [641, 643, 2, 72, 644], [], [], [675, 677, 5, 72, 678], [], [], [], [675, 677, 5, 72, 678], [], [], [], [], [], [], [], []] = true := by decide +kernel
theorem nX8_settle : tX8_settle.length = 57 := by decide +kernel
theorem okX8_settle : tOK RX8 "settle" cX8_settle MT tX8_settle := tOK_of (fun j x hj hx => cks_ok qX8_settle_0 j x (by omega) (by rw [nX8_settle] at hj; omega) hx)
set_option maxRecDepth 100000 in
theorem qX8_evaluate_0 : cks RX8 "evaluate" cX8_evaluate tX8_evaluate 0 60 [[], [], [645, 647, 3, 72, 648], [], [], [], [], [258], [221], [], [], [258], [218], [], [], [], [], [255], [], [], [257], [247], [], [], [650, 519, 520, 70, 521], [], [], [258], [], [], [], [], [261], [651, 652, 653, 71, 654], [655, 656, 657, 73, 658], [], [], [], [258], [663, 664, 665, 73, 666], [], [], [258], [224], [263], [], [], [263], [645, 647, 3, 72, 648], [], [], [], [], [258], [221], [], [], [261], [], [258]] = true := by decide +kernel
set_option maxRecDepth 100000 in
theorem qX8_evaluate_1 : cks RX8 "evaluate" cX8_evaluate tX8_evaluate 60 11 [[218], [], [], [], [258], [], [671, 672, 673, 73, 674], [], [], [], []] = true := by decide +kernel
theorem nX8_evaluate : tX8_evaluate.length = 71 := by decide +kernel
theorem okX8_evaluate : tOK RX8 "evaluate" cX8_evaluate MT tX8_evaluate := tOK_of (fun j x hj hx => if h0 : j < 60 then cks_ok qX8_evaluate_0 j x (by omega) (by omega) hx else cks_ok qX8_evaluate_1 j x (by omega) (by rw [nX8_evaluate] at hj; omega) hx)
set_option maxRecDepth 100000 in
theorem qX8_setSureTo_0 : cks RX8 "setSureTo" cX8_setSureTo tX8_setSureTo 0 22 [[], [], [], [], [255], [165], [], [], [261], [], [], [265], [], [649, 545, 69, 546], [], [], [], [], [], [], [], []] = true := by decide +kernel
theorem nX8_setSureTo : tX8_setSureTo.length = 22 := by decide +kernel
theorem okX8_setSureTo : tOK RX8 "setSureTo" cX8_setSureTo MT tX8_setSureTo := tOK_of (fun j x hj hx => cks_ok qX8_setSureTo_0 j x (by omega) (by rw [nX8_setSureTo] at hj; omega) hx)
set_option maxRecDepth 100000 in
theorem qX8_improve_0 : cks RX8 "improve" cX8_improve tX8_improve 0 34 [[], [], [], [], [], [], [258], [221], [], [], [258], [218], [], [], [], [], [255], [], [], [256], [679, 621, 622, 70, 623], [], [], [], [], [], [], [680, 682, 6, 72, 683], [], [], [], [], [], []] = true := by decide +kernel
theorem nX8_improve : tX8_improve.length = 34 := by decide +kernel
theorem okX8_improve : tOK RX8 "improve" cX8_improve MT tX8_improve := tOK_of (fun j x hj hx => cks_ok qX8_improve_0 j x (by omega) (by rw [nX8_improve] at hj; omega) hx)
set_option maxRecDepth 100000 in
theorem qX8_improveState_0 : cks RX8 "improveState" cX8_improveState tX8_improveState 0 60 [[], [257], [247], [], [], [], [684], [], [261], [], [], [], [], [], [], [], [], [255], [187], [], [], [], [], [255], [], [], [650, 519, 520, 70, 521], [], [261], [651, 652, 653, 71, 654], [], [], [], [], [], [], [], [], [], [], [], [], [], [], [], [257], [247], [], [], [], [], [], [], [257], [247], [], [], [], [], []] = true := by decide +kernel
set_option maxRecDepth 100000 in
theorem qX8_improveState_1 : cks RX8 "improveState" cX8_improveState tX8_improveState 60 3 [[], [], []] = true := by decide +kernel
theorem nX8_improveState : tX8_improveState.length = 63 := by decide +kernel
theorem okX8_improveState : tOK RX8 "improveState" cX8_improveState MT tX8_improveState := tOK_of (fun j x hj hx => if h0 : j < 60 then cks_ok qX8_improveState_0 j x (by omega) (by omega) hx else cks_ok qX8_improveState_1 j x (by omega) (by rw [nX8_improveState] at hj; omega) hx)
set_option maxRecDepth 100000 in
theorem qX8_isTight_0 : cks RX8 "isTight" cX8_isTight tX8_isTight 0 20 [[], [255], [], [], [650, 519, 520, 70, 521], [], [261], [651, 652, 653, 71, 654], [684], [], [261], [], [], [], [], [], [], [], [], []] = true := by decide +kernel
theorem nX8_isTight : tX8_isTight.length = 20 := by decide +kernel
theorem okX8_isTight : tOK RX8 "isTight" cX8_isTight MT tX8_isTight := tOK_of (fun j x hj hx => cks_ok qX8_isTight_0 j x (by omega) (by rw [nX8_isTight] at hj; omega) hx)
set_option maxRecDepth 100000 in
theorem qX9_init_0 : cks RX9 "<init>" cX9_init tX9_init 0 13 [[], [242, 96, 97], [], [], [157], [245], [], [], [243], [], [], [244], []] = true := by decide +kernel
theorem nX9_init : tX9_init.length = 13 := by decide +kernel
theorem okX9_init : tOK RX9 "<init>" cX9_init MT tX9_init := tOK_of (fun j x hj hx => cks_ok qX9_init_0 j x (by omega) (by rw [nX9_init] at hj; omega) hx)
set_option maxRecDepth 100000 in
theorem qX9_grow_0 : cks RX9 "grow" cX9_grow tX9_grow 0 53 [[], [243], [166], [], [], [], [], [], [], [], [], [], [], [], [], [], [], [], [], [243], [161], [], [], [], [], [615, 545, 69, 546], [], [], [], [], [], [616, 618, 1, 74, 619], [], [], [], [], [], [], [], [], [], [], [], [], [], [], [], [], [], [], [], [], []] = true := by decide +kernel
theorem nX9_grow : tX9_grow.length = 53 := by decide +kernel
theorem okX9_grow : tOK RX9 "grow" cX9_grow MT tX9_grow := tOK_of (fun j x hj hx => cks_ok qX9_grow_0 j x (by omega) (by rw [nX9_grow] at hj; omega) hx)
set_option maxRecDepth 100000 in
theorem qX9_join_0 : cks RX9 "join" cX9_join tX9_join 0 60 [[], [243], [], [], [244], [620, 621, 622, 70, 623], [], [], [245], [], [], [], [], [], [], [], [243], [183], [], [], [], [], [243], [], [], [625, 519, 520, 70, 521], [], [], [], [626, 627, 628, 71, 629], [], [], [130], [], [], [], [], [], [], [], [], [], [], [], [], [245], [], [], [], [], [], [], [], [], [], [], [], [], [], [243]] = true := by decide +kernel
set_option maxRecDepth 100000 in
theorem qX9_join_1 : cks RX9 "join" cX9_join tX9_join 60 8 [[183], [], [], [], [], [], [], []] = true := by decide +kernel
theorem nX9_join : tX9_join.length = 68 := by decide +kernel
theorem okX9_join : tOK RX9 "join" cX9_join MT tX9_join := tOK_of (fun j x hj hx => if h0 : j < 60 then cks_ok qX9_join_0 j x (by omega) (by omega) hx else cks_ok qX9_join_1 j x (by omega) (by rw [nX9_join] at hj; omega) hx)
set_option maxRecDepth 100000 in
theorem qX10_init_0 : cks RX10 "<init>" cX10_init tX10_init 0 28 [[], [103, 96, 97], [], [], [172], [], [], [157], [179], [], [], [104], [188], [], [], [], [], [], [], [188], [], [104, 106, 71], [], [107, 108, 71, 109], [], [], [], []] = true := by decide +kernel
theorem nX10_init : tX10_init.length = 28 := by decide +kernel
theorem okX10_init : tOK RX10 "<init>" cX10_init MT tX10_init := tOK_of (fun j x hj hx => cks_ok qX10_init_0 j x (by omega) (by rw [nX10_init] at hj; omega) hx)
set_option maxRecDepth 100000 in
theorem qX10_hasState_0 : cks RX10 "hasState" cX10_hasState tX10_hasState 0 10 [[], [], [], [], [159], [], [], [], [], []] = true := by decide +kernel
theorem nX10_hasState : tX10_hasState.length = 10 := by decide +kernel
theorem okX10_hasState : tOK RX10 "hasState" cX10_hasState MT tX10_hasState := tOK_of (fun j x hj hx => cks_ok qX10_hasState_0 j x (by omega) (by rw [nX10_hasState] at hj; omega) hx)
set_option maxRecDepth 100000 in
theorem qX10_hasAct_0 : cks RX10 "hasAct" cX10_hasAct tX10_hasAct 0 16 [[], [], [534, 507, 508, 70, 509], [], [], [], [], [], [179], [], [], [], [], [], [], []] = true := by decide +kernel
theorem nX10_hasAct : tX10_hasAct.length = 16 := by decide +kernel
theorem okX10_hasAct : tOK RX10 "hasAct" cX10_hasAct MT tX10_hasAct := tOK_of (fun j x hj hx => cks_ok qX10_hasAct_0 j x (by omega) (by rw [nX10_hasAct] at hj; omega) hx)
set_option maxRecDepth 100000 in
theorem qX10_actAt_0 : cks RX10 "actAt" cX10_actAt tX10_actAt 0 9 [[], [188], [], [], [], [], [], [], []] = true := by decide +kernel
theorem nX10_actAt : tX10_actAt.length = 9 := by decide +kernel
theorem okX10_actAt : tOK RX10 "actAt" cX10_actAt MT tX10_actAt := tOK_of (fun j x hj hx => cks_ok qX10_actAt_0 j x (by omega) (by rw [nX10_actAt] at hj; omega) hx)
set_option maxRecDepth 100000 in
theorem qX10_isFoes_0 : cks RX10 "isFoes" cX10_isFoes tX10_isFoes 0 18 [[], [179], [], [], [], [], [188], [], [], [], [], [114], [], [], [], [], [], []] = true := by decide +kernel
theorem nX10_isFoes : tX10_isFoes.length = 18 := by decide +kernel
theorem okX10_isFoes : tOK RX10 "isFoes" cX10_isFoes MT tX10_isFoes := tOK_of (fun j x hj hx => cks_ok qX10_isFoes_0 j x (by omega) (by rw [nX10_isFoes] at hj; omega) hx)
