/-! CERTIFICATES (by program: wip/whole/gen_certs.py) -/
set_option maxRecDepth 100000 in
theorem qX0_init_0 : cks RX0 "<init>" cX0_init tX0_init 0 11 [[], [110, 96, 97], [], [], [157], [133], [], [], [157], [137], []] = true := by decide +kernel
theorem nX0_init : tX0_init.length = 11 := by decide +kernel
theorem okX0_init : tOK RX0 "<init>" cX0_init MT tX0_init := tOK_of (fun j x hj hx => cks_ok qX0_init_0 j x (by omega) (by rw [nX0_init] at hj; omega) hx)
set_option maxRecDepth 100000 in
theorem qX0_begin_0 : cks RX0 "begin" cX0_begin tX0_begin 0 16 [[], [], [111], [], [], [115], [], [], [119], [], [], [125], [], [], [128], []] = true := by decide +kernel
theorem nX0_begin : tX0_begin.length = 16 := by decide +kernel
theorem okX0_begin : tOK RX0 "begin" cX0_begin MT tX0_begin := tOK_of (fun j x hj hx => cks_ok qX0_begin_0 j x (by omega) (by rw [nX0_begin] at hj; omega) hx)
set_option maxRecDepth 100000 in
theorem qX0_addOutcome_0 : cks RX0 "addOutcome" cX0_addOutcome tX0_addOutcome 0 33 [[], [133], [], [119], [], [], [], [137], [], [119], [], [], [], [], [119], [], [], [119], [], [], [125], [], [], [125], [], [], [128], [], [], [], [], [128], []] = true := by decide +kernel
theorem nX0_addOutcome : tX0_addOutcome.length = 33 := by decide +kernel
theorem okX0_addOutcome : tOK RX0 "addOutcome" cX0_addOutcome MT tX0_addOutcome := tOK_of (fun j x hj hx => cks_ok qX0_addOutcome_0 j x (by omega) (by rw [nX0_addOutcome] at hj; omega) hx)
set_option maxRecDepth 100000 in
theorem qX0_become_0 : cks RX0 "become" cX0_become tX0_become 0 25 [[], [], [111], [], [115], [912, 523, 524, 71, 525], [], [], [], [], [119], [], [], [], [133], [], [], [], [137], [], [], [913, 552, 553, 71, 554], [], [], []] = true := by decide +kernel
theorem nX0_become : tX0_become.length = 25 := by decide +kernel
theorem okX0_become : tOK RX0 "become" cX0_become MT tX0_become := tOK_of (fun j x hj hx => cks_ok qX0_become_0 j x (by omega) (by rw [nX0_become] at hj; omega) hx)
set_option maxRecDepth 100000 in
theorem qX0_room_0 : cks RX0 "room" cX0_room tX0_room 0 7 [[], [540, 541, 542, 71, 543], [], [], [], [], []] = true := by decide +kernel
theorem nX0_room : tX0_room.length = 7 := by decide +kernel
theorem okX0_room : tOK RX0 "room" cX0_room MT tX0_room := tOK_of (fun j x hj hx => cks_ok qX0_room_0 j x (by omega) (by rw [nX0_room] at hj; omega) hx)
set_option maxRecDepth 100000 in
theorem qX0_isSingle_0 : cks RX0 "isSingle" cX0_isSingle tX0_isSingle 0 12 [[], [111], [], [], [], [111], [], [], [], [], [], []] = true := by decide +kernel
theorem nX0_isSingle : tX0_isSingle.length = 12 := by decide +kernel
theorem okX0_isSingle : tOK RX0 "isSingle" cX0_isSingle MT tX0_isSingle := tOK_of (fun j x hj hx => cks_ok qX0_isSingle_0 j x (by omega) (by rw [nX0_isSingle] at hj; omega) hx)
set_option maxRecDepth 100000 in
theorem qX0_staysIn_0 : cks RX0 "staysIn" cX0_staysIn tX0_staysIn 0 11 [[], [128], [], [], [], [], [], [], [], [], []] = true := by decide +kernel
theorem nX0_staysIn : tX0_staysIn.length = 11 := by decide +kernel
theorem okX0_staysIn : tOK RX0 "staysIn" cX0_staysIn MT tX0_staysIn := tOK_of (fun j x hj hx => cks_ok qX0_staysIn_0 j x (by omega) (by rw [nX0_staysIn] at hj; omega) hx)
set_option maxRecDepth 100000 in
theorem qX0_mean_0 : cks RX0 "mean" cX0_mean tX0_mean 0 27 [[], [], [], [], [], [], [119], [], [], [], [137], [], [], [], [], [], [133], [], [], [], [], [], [], [], [], [], []] = true := by decide +kernel
theorem nX0_mean : tX0_mean.length = 27 := by decide +kernel
theorem okX0_mean : tOK RX0 "mean" cX0_mean MT tX0_mean := tOK_of (fun j x hj hx => cks_ok qX0_mean_0 j x (by omega) (by rw [nX0_mean] at hj; omega) hx)
set_option maxRecDepth 100000 in
theorem qX0_heaviness_0 : cks RX0 "heaviness" cX0_heaviness tX0_heaviness 0 39 [[], [115], [], [], [119], [], [], [], [], [111], [], [], [], [], [], [], [], [], [540, 541, 542, 71, 543], [], [], [], [], [], [111], [], [], [], [], [], [], [], [], [], [], [], [], [], []] = true := by decide +kernel
theorem nX0_heaviness : tX0_heaviness.length = 39 := by decide +kernel
theorem okX0_heaviness : tOK RX0 "heaviness" cX0_heaviness MT tX0_heaviness := tOK_of (fun j x hj hx => cks_ok qX0_heaviness_0 j x (by omega) (by rw [nX0_heaviness] at hj; omega) hx)
set_option maxRecDepth 100000 in
theorem qX1_init_0 : cks RX1 "<init>" cX1_init tX1_init 0 16 [[], [211, 96, 97], [], [], [], [212, 236], [214], [], [], [157], [215], [], [], [157], [216], []] = true := by decide +kernel
theorem nX1_init : tX1_init.length = 16 := by decide +kernel
theorem okX1_init : tOK RX1 "<init>" cX1_init MT tX1_init := tOK_of (fun j x hj hx => cks_ok qX1_init_0 j x (by omega) (by rw [nX1_init] at hj; omega) hx)
set_option maxRecDepth 100000 in
theorem qX1_open_0 : cks RX1 "open" cX1_open tX1_open 0 45 [[], [638, 576, 82, 577], [], [], [], [], [], [], [219], [], [], [], [], [], [], [215], [], [], [], [], [], [639, 545, 69, 546], [], [], [215], [], [], [219], [], [], [216], [], [219], [], [], [], [], [219], [], [], [219], [], [], [], []] = true := by decide +kernel
theorem nX1_open : tX1_open.length = 45 := by decide +kernel
theorem okX1_open : tOK RX1 "open" cX1_open MT tX1_open := tOK_of (fun j x hj hx => cks_ok qX1_open_0 j x (by omega) (by rw [nX1_open] at hj; omega) hx)
set_option maxRecDepth 100000 in
theorem qX1_write_0 : cks RX1 "write" cX1_write tX1_write 0 54 [[], [214], [], [], [], [659, 660, 83, 661], [], [214], [], [], [], [662], [], [], [], [], [], [120], [], [], [215], [], [134], [], [], [], [], [], [], [], [214], [], [], [], [], [], [], [138], [], [], [], [], [], [], [], [], [214], [], [], [], [219], [], [], []] = true := by decide +kernel
theorem nX1_write : tX1_write.length = 54 := by decide +kernel
theorem okX1_write : tOK RX1 "write" cX1_write MT tX1_write := tOK_of (fun j x hj hx => cks_ok qX1_write_0 j x (by omega) (by rw [nX1_write] at hj; omega) hx)
set_option maxRecDepth 100000 in
theorem qX1_solve_0 : cks RX1 "solve" cX1_solve tX1_solve 0 38 [[], [], [223], [], [], [], [], [219], [], [], [214], [], [], [], [], [], [], [], [], [], [219], [], [], [], [], [], [], [], [], [667, 669, 4, 73, 670], [], [], [], [], [223], [], [], []] = true := by decide +kernel
theorem nX1_solve : tX1_solve.length = 38 := by decide +kernel
theorem okX1_solve : tOK RX1 "solve" cX1_solve MT tX1_solve := tOK_of (fun j x hj hx => cks_ok qX1_solve_0 j x (by omega) (by rw [nX1_solve] at hj; omega) hx)
set_option maxRecDepth 100000 in
theorem qX1_clear_0 : cks RX1 "clear" cX1_clear tX1_clear 0 48 [[], [223], [], [], [], [], [], [214], [], [], [], [], [], [], [], [], [], [219], [], [], [214], [], [], [], [], [], [214], [], [], [], [], [], [], [], [214], [], [], [], [], [], [], [], [223], [], [], [], [], []] = true := by decide +kernel
theorem nX1_clear : tX1_clear.length = 48 := by decide +kernel
theorem okX1_clear : tOK RX1 "clear" cX1_clear MT tX1_clear := tOK_of (fun j x hj hx => cks_ok qX1_clear_0 j x (by omega) (by rw [nX1_clear] at hj; omega) hx)
set_option maxRecDepth 100000 in
theorem qX1_upperOf_0 : cks RX1 "upperOf" cX1_upperOf tX1_upperOf 0 8 [[], [214], [], [], [], [219], [], []] = true := by decide +kernel
theorem nX1_upperOf : tX1_upperOf.length = 8 := by decide +kernel
theorem okX1_upperOf : tOK RX1 "upperOf" cX1_upperOf MT tX1_upperOf := tOK_of (fun j x hj hx => cks_ok qX1_upperOf_0 j x (by omega) (by rw [nX1_upperOf] at hj; omega) hx)
set_option maxRecDepth 100000 in
theorem qX2_init_0 : cks RX2 "<init>" cX2_init tX2_init 0 13 [[], [301, 96, 97], [], [], [157], [305], [], [], [302], [], [], [303], []] = true := by decide +kernel
theorem nX2_init : tX2_init.length = 13 := by decide +kernel
theorem okX2_init : tOK RX2 "<init>" cX2_init MT tX2_init := tOK_of (fun j x hj hx => cks_ok qX2_init_0 j x (by omega) (by rw [nX2_init] at hj; omega) hx)
set_option maxRecDepth 100000 in
theorem qX2_settle_0 : cks RX2 "settle" cX2_settle tX2_settle 0 60 [[], [304], [], [302], [174], [], [], [], [], [302], [174], [304], [], [305], [], [700, 701, 83, 702], [], [302], [167], [], [], [], [], [], [], [], [], [], [], [], [], [], [], [], [], [302], [163], [], [], [], [703, 545, 69, 546], [], [], [], [], [704, 706, 7, 75, 707], [], [], [305], [], [], [], [], [], [], [], [], [], [], []] = true := by decide +kernel
set_option maxRecDepth 100000 in
theorem qX2_settle_1 : cks RX2 "settle" cX2_settle tX2_settle 60 12 [[], [], [], [], [], [], [], [], [], [], [], []] = true := by decide +kernel
theorem nX2_settle : tX2_settle.length = 72 := by decide +kernel
theorem okX2_settle : tOK RX2 "settle" cX2_settle MT tX2_settle := tOK_of (fun j x hj hx => if h0 : j < 60 then cks_ok qX2_settle_0 j x (by omega) (by omega) hx else cks_ok qX2_settle_1 j x (by omega) (by rw [nX2_settle] at hj; omega) hx)
set_option maxRecDepth 100000 in
theorem qX2_tightActInto_0 : cks RX2 "tightActInto" cX2_tightActInto tX2_tightActInto 0 30 [[], [], [], [], [302], [180], [], [], [], [], [302], [], [], [708, 519, 520, 70, 521], [129], [], [], [], [], [303], [], [], [709, 710, 711, 72, 712], [], [], [], [], [], [], []] = true := by decide +kernel
theorem nX2_tightActInto : tX2_tightActInto.length = 30 := by decide +kernel
theorem okX2_tightActInto : tOK RX2 "tightActInto" cX2_tightActInto MT tX2_tightActInto := tOK_of (fun j x hj hx => cks_ok qX2_tightActInto_0 j x (by omega) (by rw [nX2_tightActInto] at hj; omega) hx)
set_option maxRecDepth 100000 in
theorem qX2_pick_0 : cks RX2 "pick" cX2_pick tX2_pick 0 36 [[], [302], [167], [], [703, 545, 69, 546], [], [], [], [], [303], [269], [], [703, 545, 69, 546], [], [], [302], [], [717, 511, 512, 70, 513], [], [], [], [], [], [], [], [], [], [], [302], [718, 568, 569, 70, 570], [], [], [], [719, 721, 8, 75, 722], [704, 706, 7, 75, 707], []] = true := by decide +kernel
theorem nX2_pick : tX2_pick.length = 36 := by decide +kernel
theorem okX2_pick : tOK RX2 "pick" cX2_pick MT tX2_pick := tOK_of (fun j x hj hx => cks_ok qX2_pick_0 j x (by omega) (by rw [nX2_pick] at hj; omega) hx)
set_option maxRecDepth 100000 in
theorem qX2_nearerThan_0 : cks RX2 "nearerThan" cX2_nearerThan tX2_nearerThan 0 36 [[], [], [], [], [], [], [302], [163], [], [], [], [303], [269], [], [703, 545, 69, 546], [], [], [305], [], [], [], [305], [], [], [], [], [], [], [], [], [], [], [], [], [], []] = true := by decide +kernel
theorem nX2_nearerThan : tX2_nearerThan.length = 36 := by decide +kernel
theorem okX2_nearerThan : tOK RX2 "nearerThan" cX2_nearerThan MT tX2_nearerThan := tOK_of (fun j x hj hx => cks_ok qX2_nearerThan_0 j x (by omega) (by rw [nX2_nearerThan] at hj; omega) hx)
set_option maxRecDepth 100000 in
theorem qX3_init_0 : cks RX3 "<init>" cX3_init tX3_init 0 18 [[], [384, 96, 97], [], [], [157], [386], [], [], [157], [387], [], [], [157], [389], [], [], [385], []] = true := by decide +kernel
theorem nX3_init : tX3_init.length = 18 := by decide +kernel
theorem okX3_init : tOK RX3 "<init>" cX3_init MT tX3_init := tOK_of (fun j x hj hx => cks_ok qX3_init_0 j x (by omega) (by rw [nX3_init] at hj; omega) hx)
set_option maxRecDepth 100000 in
theorem qX3_settle_0 : cks RX3 "settle" cX3_settle tX3_settle 0 37 [[], [388], [], [385], [177], [], [], [], [], [385], [177], [388], [], [386], [], [385], [820, 568, 569, 70, 570], [821, 701, 83, 702], [], [], [], [], [], [822], [], [], [], [], [823, 825, 13, 78, 826], [], [829, 831, 14, 78, 832], [], [], [], [], [833, 835, 15, 78, 836], []] = true := by decide +kernel
theorem nX3_settle : tX3_settle.length = 37 := by decide +kernel
theorem okX3_settle : tOK RX3 "settle" cX3_settle MT tX3_settle := tOK_of (fun j x hj hx => cks_ok qX3_settle_0 j x (by omega) (by rw [nX3_settle] at hj; omega) hx)
set_option maxRecDepth 100000 in
theorem qX3_findPaths_0 : cks RX3 "findPaths" cX3_findPaths tX3_findPaths 0 60 [[], [], [], [], [385], [164], [], [], [385], [], [], [386], [], [], [827, 770, 771, 70, 772], [], [], [387], [], [], [], [], [], [], [], [], [], [], [], [], [], [], [], [], [], [385], [164], [], [], [], [], [], [385], [164], [], [], [387], [], [], [], [], [387], [], [], [], [828, 545, 69, 546], [], [], [387], []] = true := by decide +kernel
set_option maxRecDepth 100000 in
theorem qX3_findPaths_1 : cks RX3 "findPaths" cX3_findPaths tX3_findPaths 60 10 [[], [], [], [], [], [], [], [], [], []] = true := by decide +kernel
theorem nX3_findPaths : tX3_findPaths.length = 70 := by decide +kernel
theorem okX3_findPaths : tOK RX3 "findPaths" cX3_findPaths MT tX3_findPaths := tOK_of (fun j x hj hx => if h0 : j < 60 then cks_ok qX3_findPaths_0 j x (by omega) (by omega) hx else cks_ok qX3_findPaths_1 j x (by omega) (by rw [nX3_findPaths] at hj; omega) hx)
set_option maxRecDepth 100000 in
theorem qX3_narrow_0 : cks RX3 "narrow" cX3_narrow tX3_narrow 0 60 [[], [], [], [], [], [], [385], [164], [], [], [386], [], [], [], [387], [], [], [], [], [], [], [], [], [385], [164], [], [], [], [387], [], [], [], [828, 545, 69, 546], [], [], [], [], [], [], [], [], [], [], [], [], [], [], [], [386], [], [], [], [], [], [], [], [], [], [386], []] = true := by decide +kernel
set_option maxRecDepth 100000 in
theorem qX3_narrow_1 : cks RX3 "narrow" cX3_narrow tX3_narrow 60 6 [[], [], [], [], [], []] = true := by decide +kernel
theorem nX3_narrow : tX3_narrow.length = 66 := by decide +kernel
theorem okX3_narrow : tOK RX3 "narrow" cX3_narrow MT tX3_narrow := tOK_of (fun j x hj hx => if h0 : j < 60 then cks_ok qX3_narrow_0 j x (by omega) (by omega) hx else cks_ok qX3_narrow_1 j x (by omega) (by rw [nX3_narrow] at hj; omega) hx)
set_option maxRecDepth 100000 in
theorem qX3_gather_0 : cks RX3 "gather" cX3_gather tX3_gather 0 50 [[], [], [391], [], [], [], [], [385], [164], [], [], [386], [], [], [], [], [], [], [], [], [], [], [], [], [], [], [386], [], [], [], [], [], [], [389], [], [391], [], [386], [], [], [], [], [], [391], [], [], [391], [], [], []] = true := by decide +kernel
theorem nX3_gather : tX3_gather.length = 50 := by decide +kernel
theorem okX3_gather : tOK RX3 "gather" cX3_gather MT tX3_gather := tOK_of (fun j x hj hx => cks_ok qX3_gather_0 j x (by omega) (by rw [nX3_gather] at hj; omega) hx)
set_option maxRecDepth 100000 in
theorem qX3_stayingActs_0 : cks RX3 "stayingActs" cX3_stayingActs tX3_stayingActs 0 42 [[], [], [], [], [], [], [385], [164], [], [], [], [], [], [828, 545, 69, 546], [], [], [], [385], [186], [], [], [], [], [], [385], [], [], [841, 519, 520, 70, 521], [], [842, 627, 628, 71, 629], [], [], [], [], [], [], [], [], [], [], [], []] = true := by decide +kernel
theorem nX3_stayingActs : tX3_stayingActs.length = 42 := by decide +kernel
theorem okX3_stayingActs : tOK RX3 "stayingActs" cX3_stayingActs MT tX3_stayingActs := tOK_of (fun j x hj hx => cks_ok qX3_stayingActs_0 j x (by omega) (by rw [nX3_stayingActs] at hj; omega) hx)
set_option maxRecDepth 100000 in
theorem qX4_init_0 : cks RX4 "<init>" cX4_init tX4_init 0 18 [[], [321, 96, 97], [], [], [], [322, 236], [326], [], [], [236], [328], [], [], [323], [], [], [324], []] = true := by decide +kernel
theorem nX4_init : tX4_init.length = 18 := by decide +kernel
theorem okX4_init : tOK RX4 "<init>" cX4_init MT tX4_init := tOK_of (fun j x hj hx => cks_ok qX4_init_0 j x (by omega) (by rw [nX4_init] at hj; omega) hx)
set_option maxRecDepth 100000 in
theorem qX4_settle_0 : cks RX4 "settle" cX4_settle tX4_settle 0 60 [[], [325], [], [323], [175], [], [], [], [], [323], [175], [325], [], [328], [], [], [], [], [], [], [], [323], [162], [], [], [326], [], [], [], [], [323], [169], [], [742, 545, 69, 546], [], [], [], [], [], [], [], [], [], [], [], [], [], [328], [], [743], [], [328], [], [], [], [], [], [], [], []] = true := by decide +kernel
set_option maxRecDepth 100000 in
theorem qX4_settle_1 : cks RX4 "settle" cX4_settle tX4_settle 60 36 [[], [], [323], [162], [], [], [326], [], [], [], [], [323], [169], [], [742, 545, 69, 546], [], [], [328], [], [], [], [], [], [], [326], [], [], [], [], [744, 746, 9, 76, 747], [], [], [], [], [], []] = true := by decide +kernel
theorem nX4_settle : tX4_settle.length = 96 := by decide +kernel
theorem okX4_settle : tOK RX4 "settle" cX4_settle MT tX4_settle := tOK_of (fun j x hj hx => if h0 : j < 60 then cks_ok qX4_settle_0 j x (by omega) (by omega) hx else cks_ok qX4_settle_1 j x (by omega) (by rw [nX4_settle] at hj; omega) hx)
set_option maxRecDepth 100000 in
theorem qX4_best_0 : cks RX4 "best" cX4_best tX4_best 0 45 [[], [323], [], [], [324], [748, 621, 622, 70, 623], [], [], [], [], [], [], [], [323], [182], [], [], [], [], [323], [], [], [749, 519, 520, 70, 521], [], [750, 652, 653, 71, 654], [], [], [], [], [], [], [], [], [], [], [], [], [], [], [], [], [], [], [], []] = true := by decide +kernel
theorem nX4_best : tX4_best.length = 45 := by decide +kernel
theorem okX4_best : tOK RX4 "best" cX4_best MT tX4_best := tOK_of (fun j x hj hx => cks_ok qX4_best_0 j x (by omega) (by rw [nX4_best] at hj; omega) hx)
set_option maxRecDepth 100000 in
theorem qX5_init_0 : cks RX5 "<init>" cX5_init tX5_init 0 25 [[], [346, 96, 97], [], [347, 207, 73], [], [348, 209, 73, 210], [354], [], [], [236], [356], [], [], [351], [], [], [352], [], [349, 238, 74], [], [], [], [350, 240, 74, 241], [353], []] = true := by decide +kernel
theorem nX5_init : tX5_init.length = 25 := by decide +kernel
theorem okX5_init : tOK RX5 "<init>" cX5_init MT tX5_init := tOK_of (fun j x hj hx => cks_ok qX5_init_0 j x (by omega) (by rw [nX5_init] at hj; omega) hx)
set_option maxRecDepth 100000 in
theorem qX5_settle_0 : cks RX5 "settle" cX5_settle tX5_settle 0 60 [[], [355], [], [351], [176], [], [], [], [], [351], [176], [355], [], [352], [782, 607, 608, 72, 609], [], [], [351], [783, 784, 785, 70, 786], [], [], [354], [], [352], [266], [], [351], [170], [], [], [], [787, 635, 636, 73, 637], [], [], [], [], [360], [], [360], [], [], [], [353], [], [352], [266], [788, 612, 613, 74, 614], [], [], [], [], [], [], [789], [], [], [], [], [790, 792, 10, 77, 793], []] = true := by decide +kernel
set_option maxRecDepth 100000 in
theorem qX5_settle_1 : cks RX5 "settle" cX5_settle tX5_settle 60 5 [[799, 801, 11, 77, 802], [], [], [], []] = true := by decide +kernel
theorem nX5_settle : tX5_settle.length = 65 := by decide +kernel
theorem okX5_settle : tOK RX5 "settle" cX5_settle MT tX5_settle := tOK_of (fun j x hj hx => if h0 : j < 60 then cks_ok qX5_settle_0 j x (by omega) (by omega) hx else cks_ok qX5_settle_1 j x (by omega) (by rw [nX5_settle] at hj; omega) hx)
