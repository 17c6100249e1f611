/-! CERTIFICATES (2): the law's, and of the two methods element (by program: wip/whole/gen_certs2.py) -/
def isST (x : Instr) : Bool := match x with | .invokestatic _ => true | _ => false
def isVI (x : Instr) : Bool := match x with | .invokevirtual _ => true | .invokespecial _ => true | _ => false
def xCKE (idE : Nat) (own mname : String) (cc : ByteArray) (tbl : List xI) (i : Nat) (x : xI) (hs : List Nat) : Bool :=
  decide (decode cc x.2.1 = .ok (x.1, x.2.2.1)) && (a_isSw x.1 || decide (x.2.2.1 = a_len x.1)) && (!a_falls x.1 || decide (pcOf tbl (i + 1) = x.2.1 + x.2.2.1)) && (!a_jumps x.1 || decide ((x.2.1 : Int) + a_off x.1 = (pcOf tbl x.2.2.2.1 : Int))) && ((isST x.1 && decide (x.2.2.2.1 = idE)) || lCK own mname tbl x hs) && (!isVI x.1 || decide (x.2.2.2.1 ≠ idE))
theorem xCKE_ok {idE : Nat} {own mname : String} {cc : ByteArray} {tbl : List xI} {i : Nat} {x : xI} {hs : List Nat} (hid : idE ≠ idCopy) (h : xCKE idE own mname cc tbl i x hs = true) : xOKE idE own mname cc MT tbl i x := by
  have h0 := h
  simp only [xCKE, Bool.and_eq_true] at h
  obtain ⟨⟨⟨⟨⟨h1, h2⟩, h3⟩, h4⟩, h5⟩, h6⟩ := h
  rw [Bool.or_eq_true] at h5
  rcases h5 with h5 | h5
  · rw [Bool.and_eq_true, decide_eq_true_eq] at h5
    obtain ⟨h5, h7⟩ := h5
    have hst : ∃ idx, x.1 = .invokestatic idx := by
      unfold isST at h5
      split at h5
      · rename_i idx hq; exact ⟨idx, hq⟩
      · cases h5
    obtain ⟨idx, hq⟩ := hst
    simp only [decide_eq_true_eq, Bool.or_eq_true, Bool.not_eq_true'] at h1 h2 h3 h4
    refine ⟨h1, fun q => ?_, fun q => ?_, fun q => ?_, fun w hw => ?_, fun k q => ?_, fun k q => ?_, ?_, fun k q => ?_, fun k q => ?_, fun k q => ?_, fun d lo hi offs q => ?_⟩
    · rcases h2 with h2 | h2
      · rw [q] at h2; cases h2
      · exact h2
    · rcases h3 with h3 | h3
      · rw [q] at h3; cases h3
      · exact h3
    · rcases h4 with h4 | h4
      · rw [q] at h4; cases h4
      · exact h4
    · rw [hq] at hw; cases hw
    · rw [hq] at q; cases q
    · rw [hq] at q; cases q
    · unfold a_mkS; rw [hq]; trivial
    · rw [hq] at q; cases q
    · rw [if_neg (by rw [h7]; exact hid), if_pos h7]; trivial
    · rw [hq] at q; cases q
    · rw [hq] at q; cases q
  · have hX : xOK own mname cc MT tbl i x := xCK_ok (hs := hs) (by simp only [xCK, Bool.and_eq_true]; exact ⟨⟨⟨⟨h1, h2⟩, h3⟩, h4⟩, h5⟩)
    obtain ⟨o1, o2, o3, o4, o5, o6, o7, o8, o9, o10, o11, o12⟩ := hX
    have nv : isVI x.1 = true → x.2.2.2.1 ≠ idE := fun q => by
      rw [q] at h6
      simpa using h6
    refine ⟨o1, o2, o3, o4, o5, o6, o7, o8, fun k q => ⟨o9 k q, nv (by rw [q]; rfl)⟩, fun k q => ?_, fun k q => ?_, o12⟩
    · have := o10 k q
      split
      · rename_i hc; rw [if_pos hc] at this; exact this
      · rename_i hc
        rw [if_neg hc] at this
        split
        · trivial
        · exact this
    · have := o11 k q
      split
      · rename_i hc; rw [if_pos hc] at this; exact this
      · rename_i hc
        rw [if_neg hc] at this
        exact ⟨this, nv (by rw [q]; rfl)⟩
def cksE (idE : Nat) (own mname : String) (cc : ByteArray) (tbl : List xI) : Nat → Nat → List (List Nat) → Bool
  | _, 0, _ => true
  | i, n + 1, hs => (match tbl[i]? with | some x => xCKE idE own mname cc tbl i x (hs.headD []) | none => false) && cksE idE own mname cc tbl (i + 1) n hs.tail
theorem cksE_ok {idE : Nat} {own mname : String} {cc : ByteArray} {tbl : List xI} (hid : idE ≠ idCopy) : ∀ {n i : Nat} {hs : List (List Nat)}, cksE idE own mname cc tbl i n hs = true → ∀ j x, i ≤ j → j < i + n → tbl[j]? = some x → xOKE idE own mname cc MT tbl j x
  | 0, i, hs, h, j, x, h1, h2, hx => by omega
  | n + 1, i, hs, h, j, x, h1, h2, hx => by
    simp only [cksE, Bool.and_eq_true] at h
    by_cases e : j = i
    · subst e
      rw [hx] at h
      exact xCKE_ok hid h.1
    · exact cksE_ok hid h.2 j x (by omega) (by omega) hx
theorem tOKE_of {idE : Nat} {own mname : String} {cc : ByteArray} {tbl : List xI} (h : ∀ j x, j < tbl.length → tbl[j]? = some x → xOKE idE own mname cc MT tbl j x) : tOKE idE own mname cc MT tbl := fun i x hx => h i x (List.getElem?_eq_some_iff.mp hx).1 hx
/-- with stops -/
def cksK (skip : Nat → Bool) (own mname : String) (cc : ByteArray) (tbl : List xI) : Nat → Nat → List (List Nat) → Bool
  | _, 0, _ => true
  | i, n + 1, hs => (skip i || (match tbl[i]? with | some x => xCK own mname cc tbl i x (hs.headD []) | none => false)) && cksK skip own mname cc tbl (i + 1) n hs.tail
theorem cksK_ok {skip : Nat → Bool} {own mname : String} {cc : ByteArray} {tbl : List xI} : ∀ {n i : Nat} {hs : List (List Nat)}, cksK skip own mname cc tbl i n hs = true → ∀ j x, i ≤ j → j < i + n → skip j = false → tbl[j]? = some x → xOK own mname cc MT tbl j x
  | 0, i, hs, h, j, x, h1, h2, hk, hx => by omega
  | n + 1, i, hs, h, j, x, h1, h2, hk, hx => by
    simp only [cksK, Bool.and_eq_true] at h
    by_cases e : j = i
    · subst e
      rw [hx, hk] at h
      exact xCK_ok h.1
    · exact cksK_ok h.2 j x (by omega) (by omega) hk hx
set_option maxRecDepth 100000 in
theorem qL_law_0 : cksE 189 RL "law" cL_law tL_law 0 60 [[90, 91, 69], [], [92, 93, 69, 94], [], [1053, 1054, 81], [], [1055, 1056, 81, 1057], [], [], [236], [], [], [], [], [], [], [], [], [], [], [], [], [], [], [], [], [494, 495, 496, 69, 497], [], [1178, 1179, 1180, 81, 1181], [], [], [], [], [], [], [], [], [], [], [], [], [], [], [], [], [], [], [], [502, 503, 504, 69, 505], [], [], [], [], [], [], [], [], [], [], []] = true := by decide +kernel
set_option maxRecDepth 100000 in
theorem qL_law_1 : cksE 189 RL "law" cL_law tL_law 60 60 [[], [], [], [], [], [1182, 1183, 1184, 81, 1185], [], [], [], [], [], [], [], [], [], [], [], [], [], [], [], [], [], [], [], [], [], [], [], [], [526, 527, 528, 69, 529], [], [], [], [], [], [], [], [], [], [], [], [], [], [], [], [], [], [], [], [], [], [1199, 1200, 1201, 81, 1202], [], [], [], [], [], [], []] = true := by decide +kernel
set_option maxRecDepth 100000 in
theorem qL_law_2 : cksE 189 RL "law" cL_law tL_law 120 60 [[], [], [555, 556, 557, 69, 558], [], [], [], [], [], [], [1212, 1213, 1214, 81, 1215], [], [], [], [], [], [], [], [], [], [563, 564, 565, 69, 566], [], [], [], [], [], [], [1216, 1217, 1218, 81, 1219], [], [], [], [], [581, 582, 583, 69, 584], [], [1220, 1221, 1222, 81, 1223], [], [], [], [], [], [], [], [], [], [], [], [], [], [], [], [], [], [], [], [], [], [], [], [589, 590, 591, 69, 592], [], []] = true := by decide +kernel
set_option maxRecDepth 100000 in
theorem qL_law_3 : cksE 189 RL "law" cL_law tL_law 180 60 [[], [], [], [], [], [], [], [], [], [], [], [], [], [], [], [], [], [], [1228, 1229, 1230, 81, 1231], [], [], [], [], [], [], [], [], [], [], [692, 693, 694, 69, 695], [], [], [], [], [], [], [1314, 1315, 1316, 81, 1317], [], [], [], [], [], [], [], [], [], [723, 724, 725, 69, 726], [], [], [], [], [], [], [1342, 1343, 1344, 81, 1345], [], [], [], [], [], []] = true := by decide +kernel
set_option maxRecDepth 100000 in
theorem qL_law_4 : cksE 189 RL "law" cL_law tL_law 240 60 [[], [], [], [], [], [], [], [], [], [], [], [], [], [727, 728, 729, 69, 730], [], [], [], [], [], [], [], [], [], [], [], [], [], [], [], [], [1346, 1347, 1348, 81, 1349], [], [], [], [], [], [], [], [], [], [], [], [], [], [], [], [], [], [], [], [], [], [], [], [], [], [], [], [], []] = true := by decide +kernel
set_option maxRecDepth 100000 in
theorem qL_law_5 : cksE 189 RL "law" cL_law tL_law 300 60 [[733, 734, 735, 69, 736], [], [], [], [], [], [], [], [], [], [], [], [], [], [], [], [], [], [], [], [], [], [], [], [], [], [1350, 1351, 1352, 81, 1353], [], [], [], [], [], [], [], [], [], [], [], [], [], [], [], [751, 752, 753, 69, 754], [], [], [], [], [], [], [], [], [], [], [], [1363, 1364, 1365, 81, 1366], [], [], [], [], []] = true := by decide +kernel
set_option maxRecDepth 100000 in
theorem qL_law_6 : cksE 189 RL "law" cL_law tL_law 360 60 [[], [], [], [], [755, 756, 757, 69, 758], [], [], [], [], [], [], [1367, 1368, 1369, 81, 1370], [], [], [], [], [], [], [], [], [], [759, 760, 761, 69, 762], [], [], [], [], [], [], [1371, 1372, 1373, 81, 1374], [], [], [], [], [], [], [], [], [], [], [], [], [], [], [774, 775, 776, 69, 777], [], [], [], [], [], [], [], [], [], [], [], [1379, 1380, 1381, 81, 1382], [], [], [], []] = true := by decide +kernel
set_option maxRecDepth 100000 in
theorem qL_law_7 : cksE 189 RL "law" cL_law tL_law 420 60 [[], [], [], [], [], [], [], [], [], [], [], [812, 813, 814, 69, 815], [], [], [], [], [], [], [], [], [], [], [], [1392, 1393, 1394, 81, 1395], [], [], [], [], [], [], [], [], [], [843, 844, 845, 69, 846], [], [], [], [], [], [], [1413, 1414, 1415, 81, 1416], [], [], [], [], [], [], [], [], [], [876, 877, 878, 69, 879], [], [], [], [], [], [], [1433, 1434, 1435, 81, 1436], [], []] = true := by decide +kernel
set_option maxRecDepth 100000 in
theorem qL_law_8 : cksE 189 RL "law" cL_law tL_law 480 60 [[], [], [], [], [], [], [], [], [], [], [], [], [], [], [], [], [], [889, 890, 891, 69, 892], [], [], [], [], [], [], [], [], [], [], [], [], [], [], [], [], [1437, 1438, 1439, 81, 1440], [], [], [], [], [], [], [], [], [], [], [], [], [], [], [], [], [], [], [], [], [], [], [], [], [893, 894, 895, 69, 896]] = true := by decide +kernel
set_option maxRecDepth 100000 in
theorem qL_law_9 : cksE 189 RL "law" cL_law tL_law 540 60 [[], [], [], [], [], [], [], [], [], [], [], [], [], [], [], [], [], [], [], [], [], [1441, 1442, 1443, 81, 1444], [], [], [], [], [], [], [], [], [], [], [], [], [], [], [], [], [], [], [], [928, 929, 930, 69, 931], [], [], [], [], [], [], [], [], [], [], [], [], [], [], [], [], [1453, 1454, 1455, 81, 1456], []] = true := by decide +kernel
set_option maxRecDepth 100000 in
theorem qL_law_10 : cksE 189 RL "law" cL_law tL_law 600 60 [[], [], [], [], [], [], [], [], [], [], [], [], [], [], [960, 961, 68, 0], [], [], [], [], [], [], [], [], [], [], [], [], [1457, 1458, 1459, 81, 1460], [], [], [1174, 1175, 1176, 81, 1177], [], [], [], [], [], [], [], [], [], [], [], [], [], [], [], [], [], [], [], [], [], [], [], [], [], [], [], [], []] = true := by decide +kernel
set_option maxRecDepth 100000 in
theorem qL_law_11 : cksE 189 RL "law" cL_law tL_law 660 60 [[], [], [], [], [], [], [], [], [], [], [], [], [932, 933, 934, 69, 935], [], [], [], [], [], [], [], [], [], [], [], [], [], [], [], [], [], [], [], [], [], [], [], [], [], [], [1461, 1462, 1463, 81, 1464], [], [], [], [], [], [], [], [], [], [945, 946, 947, 69, 948], [], [], [], [], [], [], [1469, 1470, 1471, 81, 1472], [], [], []] = true := by decide +kernel
set_option maxRecDepth 100000 in
theorem qL_law_12 : cksE 189 RL "law" cL_law tL_law 720 33 [[], [], [], [], [], [], [], [], [], [], [], [], [955, 956, 957, 69, 958], [], [], [], [], [], [], [], [], [], [], [], [1475, 1476, 1477, 81, 1478], [], [], [], [], [], [], [], []] = true := by decide +kernel
theorem nL_law : tL_law.length = 753 := by decide +kernel
theorem okL_law : tOKE 189 RL "law" cL_law MT tL_law := tOKE_of (fun j x hj hx => if h0 : j < 60 then cksE_ok (by decide) qL_law_0 j x (by omega) (by omega) hx else if h1 : j < 120 then cksE_ok (by decide) qL_law_1 j x (by omega) (by omega) hx else if h2 : j < 180 then cksE_ok (by decide) qL_law_2 j x (by omega) (by omega) hx else if h3 : j < 240 then cksE_ok (by decide) qL_law_3 j x (by omega) (by omega) hx else if h4 : j < 300 then cksE_ok (by decide) qL_law_4 j x (by omega) (by omega) hx else if h5 : j < 360 then cksE_ok (by decide) qL_law_5 j x (by omega) (by omega) hx else if h6 : j < 420 then cksE_ok (by decide) qL_law_6 j x (by omega) (by omega) hx else if h7 : j < 480 then cksE_ok (by decide) qL_law_7 j x (by omega) (by omega) hx else if h8 : j < 540 then cksE_ok (by decide) qL_law_8 j x (by omega) (by omega) hx else if h9 : j < 600 then cksE_ok (by decide) qL_law_9 j x (by omega) (by omega) hx else if h10 : j < 660 then cksE_ok (by decide) qL_law_10 j x (by omega) (by omega) hx else if h11 : j < 720 then cksE_ok (by decide) qL_law_11 j x (by omega) (by omega) hx else cksE_ok (by decide) qL_law_12 j x (by omega) (by rw [nL_law] at hj; omega) hx)
def tXE : List xI := [(.iload_n 1, 0, 1, 0, 0, 0, []),
  (.invokestatic 256, 1, 3, 107, 1, 0, [1]),
  (.ifCond .ne 14, 4, 3, 8, 0, 0, []),
  (.new 267, 7, 3, 9999, 0, 0, []),
  (.dup, 10, 1, 9999, 0, 0, []),
  (.ldc_w 269, 11, 3, 9999, 0, 0, []),
  (.invokespecial 271, 14, 3, 9999, 0, 0, []),
  (.athrow, 17, 1, 9999, 0, 0, []),
  (.aload_n 0, 18, 1, 0, 0, 0, []),
  (.getfield 72, 19, 3, 11, 9, 0, []),
  (.iload_n 1, 22, 1, 0, 0, 0, []),
  (.aaload, 23, 1, 0, 0, 0, []),
  (.astore_n 3, 24, 1, 0, 0, 0, []),
  (.aload_n 3, 25, 1, 0, 0, 0, []),
  (.invokevirtual 274, 26, 3, 35, 1, 6, [1]),
  (.ifCond .ne 14, 29, 3, 21, 0, 0, []),
  (.new 277, 32, 3, 9999, 0, 0, []),
  (.dup, 35, 1, 9999, 0, 0, []),
  (.ldc_w 279, 36, 3, 9999, 0, 0, []),
  (.invokespecial 281, 39, 3, 9999, 0, 0, []),
  (.athrow, 42, 1, 9999, 0, 0, []),
  (.iload_n 2, 43, 1, 0, 0, 0, []),
  (.ifCond .lt 11, 44, 3, 27, 0, 0, []),
  (.iload_n 2, 47, 1, 0, 0, 0, []),
  (.aload_n 3, 48, 1, 0, 0, 0, []),
  (.getfield 282, 49, 3, 6, 2, 0, []),
  (.if_icmp .lt 14, 52, 3, 32, 0, 0, []),
  (.new 277, 55, 3, 9999, 0, 0, []),
  (.dup, 58, 1, 9999, 0, 0, []),
  (.ldc_w 285, 59, 3, 9999, 0, 0, []),
  (.invokespecial 281, 62, 3, 9999, 0, 0, []),
  (.athrow, 65, 1, 9999, 0, 0, []),
  (.aload_n 3, 66, 1, 0, 0, 0, []),
  (.getfield 287, 67, 3, 6, 4, 0, []),
  (.iload_n 2, 70, 1, 0, 0, 0, []),
  (.laload, 71, 1, 0, 0, 0, []),
  (.lreturn, 72, 1, 0, 0, 0, [])]
def skXE (i : Nat) : Bool := List.elem i [3, 4, 5, 6, 7, 16, 17, 18, 19, 20, 27, 28, 29, 30, 31]
set_option maxRecDepth 100000 in
theorem qXE : cksK skXE RX11 "element" cX11_element tXE 0 37 [[], [897, 898, 69, 899], [], [], [], [], [], [], [], [472], [], [], [], [], [936, 937, 938, 80, 939], [], [], [], [], [], [], [], [], [], [], [447], [], [], [], [], [], [], [], [451], [], [], []] = true := by decide +kernel
theorem nXE : tXE.length = 37 := by decide +kernel
theorem okXE : ∀ (i : Nat) (x : xI), skXE i = false → tXE[i]? = some x → xOK RX11 "element" cX11_element MT tXE i x := fun i x hk hx => cksK_ok qXE i x (Nat.zero_le _) (by have := (List.getElem?_eq_some_iff.mp hx).1; rw [nXE] at this; omega) hk hx
def tLE : List xI := [(.aload_n 3, 0, 1, 0, 0, 0, []),
  (.iconst 0, 1, 1, 0, 0, 0, []),
  (.aload_n 0, 2, 1, 0, 0, 0, []),
  (.iload_n 1, 3, 1, 0, 0, 0, []),
  (.iload_n 2, 4, 1, 0, 0, 0, []),
  (.invokevirtual 7, 5, 3, 9999, 0, 0, []),
  (.lastore, 8, 1, 0, 0, 0, []),
  (.goto 11, 9, 3, 14, 0, 0, []),
  (.astore 4, 12, 2, 0, 0, 0, []),
  (.iconst 1, 14, 1, 0, 0, 0, []),
  (.ireturn, 15, 1, 0, 0, 0, []),
  (.astore 4, 16, 2, 0, 0, 0, []),
  (.iconst 2, 18, 1, 0, 0, 0, []),
  (.ireturn, 19, 1, 0, 0, 0, []),
  (.iconst 0, 20, 1, 0, 0, 0, []),
  (.ireturn, 21, 1, 0, 0, 0, [])]
def skLE (i : Nat) : Bool := List.elem i [5]
set_option maxRecDepth 100000 in
theorem qLE : cksK skLE RL "element" cL_element tLE 0 16 [[], [], [], [], [], [], [], [], [], [], [], [], [], [], [], []] = true := by decide +kernel
theorem nLE : tLE.length = 16 := by decide +kernel
theorem okLE : ∀ (i : Nat) (x : xI), skLE i = false → tLE[i]? = some x → xOK RL "element" cL_element MT tLE i x := fun i x hk hx => cksK_ok qLE i x (Nat.zero_le _) (by have := (List.getElem?_eq_some_iff.mp hx).1; rw [nLE] at this; omega) hk hx
