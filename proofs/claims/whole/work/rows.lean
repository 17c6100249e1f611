section
-- ===== PART A: goes FIRST, ahead of the names: the tables' words, and 'selects' of the private methods out of them =====
/-- a private method of a class that the tables say can be made, by its rows of tables_1 -/
def lw_okq (q : MethodName × Nat) : Prop := (q.1.cls ≠ "java/lang/invoke/MethodHandle" ∧ q.1.cls ≠ "java/lang/invoke/VarHandle") ∧ Cond.instantiable q.1.cls q.2 ∈ tables_1 ∧ Cond.privateMethod q.1 ∈ tables_1 ∧ Cond.instanceMethod q.1 ∈ tables_1
theorem lw_p0 : lw_okq (⟨"ChanceCourt", "refusalOf", "(LChanceCourt$Verdict;)I"⟩, 10) := ⟨⟨by decide +kernel, by decide +kernel⟩, List.mem_of_getElem? (i := 23) (by decide +kernel), List.mem_of_getElem? (i := 530) (by decide +kernel), List.mem_of_getElem? (i := 531) (by decide +kernel)⟩
theorem lw_p1 : lw_okq (⟨"ChanceCourt$Ways", "join", "(III)Z"⟩, 3) := ⟨⟨by decide +kernel, by decide +kernel⟩, List.mem_of_getElem? (i := 170) (by decide +kernel), List.mem_of_getElem? (i := 549) (by decide +kernel), List.mem_of_getElem? (i := 550) (by decide +kernel)⟩
theorem lw_p2 : lw_okq (⟨"ChanceCourt$Verdict", "evaluate", "()V"⟩, 11) := ⟨⟨by decide +kernel, by decide +kernel⟩, List.mem_of_getElem? (i := 133) (by decide +kernel), List.mem_of_getElem? (i := 574) (by decide +kernel), List.mem_of_getElem? (i := 575) (by decide +kernel)⟩
theorem lw_p3 : lw_okq (⟨"ChanceCourt$Verdict", "setSureTo", "(J)V"⟩, 11) := ⟨⟨by decide +kernel, by decide +kernel⟩, List.mem_of_getElem? (i := 133) (by decide +kernel), List.mem_of_getElem? (i := 578) (by decide +kernel), List.mem_of_getElem? (i := 579) (by decide +kernel)⟩
theorem lw_p4 : lw_okq (⟨"ChanceCourt$Equations", "clear", "(IIJ)V"⟩, 5) := ⟨⟨by decide +kernel, by decide +kernel⟩, List.mem_of_getElem? (i := 139) (by decide +kernel), List.mem_of_getElem? (i := 600) (by decide +kernel), List.mem_of_getElem? (i := 601) (by decide +kernel)⟩
theorem lw_p5 : lw_okq (⟨"ChanceCourt$Verdict", "improve", "(Z)Z"⟩, 11) := ⟨⟨by decide +kernel, by decide +kernel⟩, List.mem_of_getElem? (i := 133) (by decide +kernel), List.mem_of_getElem? (i := 608) (by decide +kernel), List.mem_of_getElem? (i := 609) (by decide +kernel)⟩
theorem lw_p6 : lw_okq (⟨"ChanceCourt$Verdict", "improveState", "(IZ)Z"⟩, 11) := ⟨⟨by decide +kernel, by decide +kernel⟩, List.mem_of_getElem? (i := 133) (by decide +kernel), List.mem_of_getElem? (i := 613) (by decide +kernel), List.mem_of_getElem? (i := 614) (by decide +kernel)⟩
theorem lw_p7 : lw_okq (⟨"ChanceCourt$Guide", "tightActInto", "(II)I"⟩, 4) := ⟨⟨by decide +kernel, by decide +kernel⟩, List.mem_of_getElem? (i := 229) (by decide +kernel), List.mem_of_getElem? (i := 637) (by decide +kernel), List.mem_of_getElem? (i := 638) (by decide +kernel)⟩
theorem lw_p8 : lw_okq (⟨"ChanceCourt$Guide", "nearerThan", "(I)I"⟩, 4) := ⟨⟨by decide +kernel, by decide +kernel⟩, List.mem_of_getElem? (i := 229) (by decide +kernel), List.mem_of_getElem? (i := 652) (by decide +kernel), List.mem_of_getElem? (i := 653) (by decide +kernel)⟩
theorem lw_p9 : lw_okq (⟨"ChanceCourt$Horizon", "best", "(I[J)J"⟩, 5) := ⟨⟨by decide +kernel, by decide +kernel⟩, List.mem_of_getElem? (i := 249) (by decide +kernel), List.mem_of_getElem? (i := 677) (by decide +kernel), List.mem_of_getElem? (i := 678) (by decide +kernel)⟩
theorem lw_p10 : lw_okq (⟨"ChanceCourt$Prices", "evaluate", "()V"⟩, 8) := ⟨⟨by decide +kernel, by decide +kernel⟩, List.mem_of_getElem? (i := 274) (by decide +kernel), List.mem_of_getElem? (i := 723) (by decide +kernel), List.mem_of_getElem? (i := 724) (by decide +kernel)⟩
theorem lw_p11 : lw_okq (⟨"ChanceCourt$Prices", "improve", "()Z"⟩, 8) := ⟨⟨by decide +kernel, by decide +kernel⟩, List.mem_of_getElem? (i := 274) (by decide +kernel), List.mem_of_getElem? (i := 732) (by decide +kernel), List.mem_of_getElem? (i := 733) (by decide +kernel)⟩
theorem lw_p12 : lw_okq (⟨"ChanceCourt$Prices", "improveState", "(I)Z"⟩, 8) := ⟨⟨by decide +kernel, by decide +kernel⟩, List.mem_of_getElem? (i := 274) (by decide +kernel), List.mem_of_getElem? (i := 736) (by decide +kernel), List.mem_of_getElem? (i := 737) (by decide +kernel)⟩
theorem lw_p13 : lw_okq (⟨"ChanceCourt$Holes", "findPaths", "()V"⟩, 6) := ⟨⟨by decide +kernel, by decide +kernel⟩, List.mem_of_getElem? (i := 312) (by decide +kernel), List.mem_of_getElem? (i := 756) (by decide +kernel), List.mem_of_getElem? (i := 757) (by decide +kernel)⟩
theorem lw_p14 : lw_okq (⟨"ChanceCourt$Holes", "narrow", "()Z"⟩, 6) := ⟨⟨by decide +kernel, by decide +kernel⟩, List.mem_of_getElem? (i := 312) (by decide +kernel), List.mem_of_getElem? (i := 762) (by decide +kernel), List.mem_of_getElem? (i := 763) (by decide +kernel)⟩
theorem lw_p15 : lw_okq (⟨"ChanceCourt$Holes", "gather", "()V"⟩, 6) := ⟨⟨by decide +kernel, by decide +kernel⟩, List.mem_of_getElem? (i := 312) (by decide +kernel), List.mem_of_getElem? (i := 766) (by decide +kernel), List.mem_of_getElem? (i := 767) (by decide +kernel)⟩
def lw_privs_1 : List (MethodName × Nat) := [(⟨"ChanceCourt", "refusalOf", "(LChanceCourt$Verdict;)I"⟩, 10), (⟨"ChanceCourt$Ways", "join", "(III)Z"⟩, 3), (⟨"ChanceCourt$Verdict", "evaluate", "()V"⟩, 11), (⟨"ChanceCourt$Verdict", "setSureTo", "(J)V"⟩, 11), (⟨"ChanceCourt$Equations", "clear", "(IIJ)V"⟩, 5), (⟨"ChanceCourt$Verdict", "improve", "(Z)Z"⟩, 11), (⟨"ChanceCourt$Verdict", "improveState", "(IZ)Z"⟩, 11), (⟨"ChanceCourt$Guide", "tightActInto", "(II)I"⟩, 4), (⟨"ChanceCourt$Guide", "nearerThan", "(I)I"⟩, 4), (⟨"ChanceCourt$Horizon", "best", "(I[J)J"⟩, 5), (⟨"ChanceCourt$Prices", "evaluate", "()V"⟩, 8), (⟨"ChanceCourt$Prices", "improve", "()Z"⟩, 8), (⟨"ChanceCourt$Prices", "improveState", "(I)Z"⟩, 8), (⟨"ChanceCourt$Holes", "findPaths", "()V"⟩, 6), (⟨"ChanceCourt$Holes", "narrow", "()Z"⟩, 6), (⟨"ChanceCourt$Holes", "gather", "()V"⟩, 6)]
theorem lw_r1 : ∀ q ∈ lw_privs_1, lw_okq q := List.forall_mem_cons.mpr ⟨lw_p0, List.forall_mem_cons.mpr ⟨lw_p1, List.forall_mem_cons.mpr ⟨lw_p2, List.forall_mem_cons.mpr ⟨lw_p3, List.forall_mem_cons.mpr ⟨lw_p4, List.forall_mem_cons.mpr ⟨lw_p5, List.forall_mem_cons.mpr ⟨lw_p6, List.forall_mem_cons.mpr ⟨lw_p7, List.forall_mem_cons.mpr ⟨lw_p8, List.forall_mem_cons.mpr ⟨lw_p9, List.forall_mem_cons.mpr ⟨lw_p10, List.forall_mem_cons.mpr ⟨lw_p11, List.forall_mem_cons.mpr ⟨lw_p12, List.forall_mem_cons.mpr ⟨lw_p13, List.forall_mem_cons.mpr ⟨lw_p14, List.forall_mem_cons.mpr ⟨lw_p15, fun _ h => absurd h List.not_mem_nil⟩⟩⟩⟩⟩⟩⟩⟩⟩⟩⟩⟩⟩⟩⟩⟩
theorem lw_p16 : lw_okq (⟨"ChanceCourt$Twins", "readFaces", "()V"⟩, 6) := ⟨⟨by decide +kernel, by decide +kernel⟩, List.mem_of_getElem? (i := 339) (by decide +kernel), List.mem_of_getElem? (i := 785) (by decide +kernel), List.mem_of_getElem? (i := 786) (by decide +kernel)⟩
theorem lw_p17 : lw_okq (⟨"ChanceCourt$Twins", "faceOf", "(LChanceCourt$Act;)J"⟩, 6) := ⟨⟨by decide +kernel, by decide +kernel⟩, List.mem_of_getElem? (i := 339) (by decide +kernel), List.mem_of_getElem? (i := 790) (by decide +kernel), List.mem_of_getElem? (i := 791) (by decide +kernel)⟩
theorem lw_p18 : lw_okq (⟨"ChanceCourt$Twins", "split", "()V"⟩, 6) := ⟨⟨by decide +kernel, by decide +kernel⟩, List.mem_of_getElem? (i := 339) (by decide +kernel), List.mem_of_getElem? (i := 794) (by decide +kernel), List.mem_of_getElem? (i := 795) (by decide +kernel)⟩
theorem lw_p19 : lw_okq (⟨"ChanceCourt$Twins", "covers", "(II)Z"⟩, 6) := ⟨⟨by decide +kernel, by decide +kernel⟩, List.mem_of_getElem? (i := 339) (by decide +kernel), List.mem_of_getElem? (i := 798) (by decide +kernel), List.mem_of_getElem? (i := 799) (by decide +kernel)⟩
theorem lw_p20 : lw_okq (⟨"ChanceCourt$Twins", "hasFace", "(IJ)Z"⟩, 6) := ⟨⟨by decide +kernel, by decide +kernel⟩, List.mem_of_getElem? (i := 339) (by decide +kernel), List.mem_of_getElem? (i := 802) (by decide +kernel), List.mem_of_getElem? (i := 803) (by decide +kernel)⟩
theorem lw_p21 : lw_okq (⟨"ChanceCourt", "fillShelf", "(LChanceCourt$Shelf;III)V"⟩, 10) := ⟨⟨by decide +kernel, by decide +kernel⟩, List.mem_of_getElem? (i := 23) (by decide +kernel), List.mem_of_getElem? (i := 833) (by decide +kernel), List.mem_of_getElem? (i := 834) (by decide +kernel)⟩
theorem lw_p22 : lw_okq (⟨"java/lang/Throwable", "fillInStackTrace", "(I)Ljava/lang/Throwable;"⟩, 6) := ⟨⟨by decide +kernel, by decide +kernel⟩, List.mem_of_getElem? (i := 939) (by decide +kernel), List.mem_of_getElem? (i := 937) (by decide +kernel), List.mem_of_getElem? (i := 938) (by decide +kernel)⟩
theorem lw_p23 : lw_okq (⟨"ChanceCourtModel", "isState", "(I)Z"⟩, 38) := ⟨⟨by decide +kernel, by decide +kernel⟩, List.mem_of_getElem? (i := 986) (by decide +kernel), List.mem_of_getElem? (i := 1119) (by decide +kernel), List.mem_of_getElem? (i := 1120) (by decide +kernel)⟩
theorem lw_p24 : lw_okq (⟨"ChanceCourtModel", "isFoe", "(I)Z"⟩, 38) := ⟨⟨by decide +kernel, by decide +kernel⟩, List.mem_of_getElem? (i := 986) (by decide +kernel), List.mem_of_getElem? (i := 1128) (by decide +kernel), List.mem_of_getElem? (i := 1129) (by decide +kernel)⟩
theorem lw_p25 : lw_okq (⟨"ChanceCourtModel", "isAct", "(II)Z"⟩, 38) := ⟨⟨by decide +kernel, by decide +kernel⟩, List.mem_of_getElem? (i := 986) (by decide +kernel), List.mem_of_getElem? (i := 1136) (by decide +kernel), List.mem_of_getElem? (i := 1137) (by decide +kernel)⟩
theorem lw_p26 : lw_okq (⟨"ChanceCourtModel", "partsOf", "(I)I"⟩, 38) := ⟨⟨by decide +kernel, by decide +kernel⟩, List.mem_of_getElem? (i := 986) (by decide +kernel), List.mem_of_getElem? (i := 1141) (by decide +kernel), List.mem_of_getElem? (i := 1142) (by decide +kernel)⟩
theorem lw_p27 : lw_okq (⟨"ChanceCourtModel", "lacking", "()I"⟩, 38) := ⟨⟨by decide +kernel, by decide +kernel⟩, List.mem_of_getElem? (i := 986) (by decide +kernel), List.mem_of_getElem? (i := 1157) (by decide +kernel), List.mem_of_getElem? (i := 1158) (by decide +kernel)⟩
theorem lw_p28 : lw_okq (⟨"ChanceCourtModel", "findValues", "(Z)Z"⟩, 38) := ⟨⟨by decide +kernel, by decide +kernel⟩, List.mem_of_getElem? (i := 986) (by decide +kernel), List.mem_of_getElem? (i := 1167) (by decide +kernel), List.mem_of_getElem? (i := 1168) (by decide +kernel)⟩
theorem lw_p29 : lw_okq (⟨"ChanceCourtModel", "ones", "(Z)I"⟩, 38) := ⟨⟨by decide +kernel, by decide +kernel⟩, List.mem_of_getElem? (i := 986) (by decide +kernel), List.mem_of_getElem? (i := 1171) (by decide +kernel), List.mem_of_getElem? (i := 1172) (by decide +kernel)⟩
theorem lw_p30 : lw_okq (⟨"ChanceCourtModel", "all", "()I"⟩, 38) := ⟨⟨by decide +kernel, by decide +kernel⟩, List.mem_of_getElem? (i := 986) (by decide +kernel), List.mem_of_getElem? (i := 1175) (by decide +kernel), List.mem_of_getElem? (i := 1176) (by decide +kernel)⟩
theorem lw_p31 : lw_okq (⟨"ChanceCourtModel", "comes", "(IZ)I"⟩, 38) := ⟨⟨by decide +kernel, by decide +kernel⟩, List.mem_of_getElem? (i := 986) (by decide +kernel), List.mem_of_getElem? (i := 1179) (by decide +kernel), List.mem_of_getElem? (i := 1180) (by decide +kernel)⟩
def lw_privs_2 : List (MethodName × Nat) := [(⟨"ChanceCourt$Twins", "readFaces", "()V"⟩, 6), (⟨"ChanceCourt$Twins", "faceOf", "(LChanceCourt$Act;)J"⟩, 6), (⟨"ChanceCourt$Twins", "split", "()V"⟩, 6), (⟨"ChanceCourt$Twins", "covers", "(II)Z"⟩, 6), (⟨"ChanceCourt$Twins", "hasFace", "(IJ)Z"⟩, 6), (⟨"ChanceCourt", "fillShelf", "(LChanceCourt$Shelf;III)V"⟩, 10), (⟨"java/lang/Throwable", "fillInStackTrace", "(I)Ljava/lang/Throwable;"⟩, 6), (⟨"ChanceCourtModel", "isState", "(I)Z"⟩, 38), (⟨"ChanceCourtModel", "isFoe", "(I)Z"⟩, 38), (⟨"ChanceCourtModel", "isAct", "(II)Z"⟩, 38), (⟨"ChanceCourtModel", "partsOf", "(I)I"⟩, 38), (⟨"ChanceCourtModel", "lacking", "()I"⟩, 38), (⟨"ChanceCourtModel", "findValues", "(Z)Z"⟩, 38), (⟨"ChanceCourtModel", "ones", "(Z)I"⟩, 38), (⟨"ChanceCourtModel", "all", "()I"⟩, 38), (⟨"ChanceCourtModel", "comes", "(IZ)I"⟩, 38)]
theorem lw_r2 : ∀ q ∈ lw_privs_2, lw_okq q := List.forall_mem_cons.mpr ⟨lw_p16, List.forall_mem_cons.mpr ⟨lw_p17, List.forall_mem_cons.mpr ⟨lw_p18, List.forall_mem_cons.mpr ⟨lw_p19, List.forall_mem_cons.mpr ⟨lw_p20, List.forall_mem_cons.mpr ⟨lw_p21, List.forall_mem_cons.mpr ⟨lw_p22, List.forall_mem_cons.mpr ⟨lw_p23, List.forall_mem_cons.mpr ⟨lw_p24, List.forall_mem_cons.mpr ⟨lw_p25, List.forall_mem_cons.mpr ⟨lw_p26, List.forall_mem_cons.mpr ⟨lw_p27, List.forall_mem_cons.mpr ⟨lw_p28, List.forall_mem_cons.mpr ⟨lw_p29, List.forall_mem_cons.mpr ⟨lw_p30, List.forall_mem_cons.mpr ⟨lw_p31, fun _ h => absurd h List.not_mem_nil⟩⟩⟩⟩⟩⟩⟩⟩⟩⟩⟩⟩⟩⟩⟩⟩
theorem lw_p32 : lw_okq (⟨"ChanceCourtModel", "leads", "(IIIZ)Z"⟩, 38) := ⟨⟨by decide +kernel, by decide +kernel⟩, List.mem_of_getElem? (i := 986) (by decide +kernel), List.mem_of_getElem? (i := 1183) (by decide +kernel), List.mem_of_getElem? (i := 1184) (by decide +kernel)⟩
theorem lw_p33 : lw_okq (⟨"ChanceCourtModel", "allIn", "(II)Z"⟩, 38) := ⟨⟨by decide +kernel, by decide +kernel⟩, List.mem_of_getElem? (i := 986) (by decide +kernel), List.mem_of_getElem? (i := 1187) (by decide +kernel), List.mem_of_getElem? (i := 1188) (by decide +kernel)⟩
theorem lw_p34 : lw_okq (⟨"ChanceCourtModel", "someIn", "(II)Z"⟩, 38) := ⟨⟨by decide +kernel, by decide +kernel⟩, List.mem_of_getElem? (i := 986) (by decide +kernel), List.mem_of_getElem? (i := 1191) (by decide +kernel), List.mem_of_getElem? (i := 1192) (by decide +kernel)⟩
theorem lw_p35 : lw_okq (⟨"ChanceCourtModel", "wants", "(IZ)Z"⟩, 38) := ⟨⟨by decide +kernel, by decide +kernel⟩, List.mem_of_getElem? (i := 986) (by decide +kernel), List.mem_of_getElem? (i := 1195) (by decide +kernel), List.mem_of_getElem? (i := 1196) (by decide +kernel)⟩
theorem lw_p36 : lw_okq (⟨"ChanceCourtModel", "above", "(Z)I"⟩, 38) := ⟨⟨by decide +kernel, by decide +kernel⟩, List.mem_of_getElem? (i := 986) (by decide +kernel), List.mem_of_getElem? (i := 1199) (by decide +kernel), List.mem_of_getElem? (i := 1200) (by decide +kernel)⟩
theorem lw_p37 : lw_okq (⟨"ChanceCourtModel", "countBits", "(I)I"⟩, 38) := ⟨⟨by decide +kernel, by decide +kernel⟩, List.mem_of_getElem? (i := 986) (by decide +kernel), List.mem_of_getElem? (i := 1203) (by decide +kernel), List.mem_of_getElem? (i := 1204) (by decide +kernel)⟩
theorem lw_p38 : lw_okq (⟨"ChanceCourtModel", "worst", "(IIZ)V"⟩, 38) := ⟨⟨by decide +kernel, by decide +kernel⟩, List.mem_of_getElem? (i := 986) (by decide +kernel), List.mem_of_getElem? (i := 1207) (by decide +kernel), List.mem_of_getElem? (i := 1208) (by decide +kernel)⟩
theorem lw_p39 : lw_okq (⟨"ChanceCourtModel", "chances", "(II)V"⟩, 38) := ⟨⟨by decide +kernel, by decide +kernel⟩, List.mem_of_getElem? (i := 986) (by decide +kernel), List.mem_of_getElem? (i := 1211) (by decide +kernel), List.mem_of_getElem? (i := 1212) (by decide +kernel)⟩
theorem lw_p40 : lw_okq (⟨"ChanceCourtModel", "comesChosen", "(II)I"⟩, 38) := ⟨⟨by decide +kernel, by decide +kernel⟩, List.mem_of_getElem? (i := 986) (by decide +kernel), List.mem_of_getElem? (i := 1215) (by decide +kernel), List.mem_of_getElem? (i := 1216) (by decide +kernel)⟩
theorem lw_p41 : lw_okq (⟨"ChanceCourtModel", "layRow", "(II)V"⟩, 38) := ⟨⟨by decide +kernel, by decide +kernel⟩, List.mem_of_getElem? (i := 986) (by decide +kernel), List.mem_of_getElem? (i := 1219) (by decide +kernel), List.mem_of_getElem? (i := 1220) (by decide +kernel)⟩
theorem lw_p42 : lw_okq (⟨"ChanceCourtModel", "placeOf", "(I)I"⟩, 38) := ⟨⟨by decide +kernel, by decide +kernel⟩, List.mem_of_getElem? (i := 986) (by decide +kernel), List.mem_of_getElem? (i := 1223) (by decide +kernel), List.mem_of_getElem? (i := 1224) (by decide +kernel)⟩
theorem lw_p43 : lw_okq (⟨"ChanceCourtModel", "solve", "()V"⟩, 38) := ⟨⟨by decide +kernel, by decide +kernel⟩, List.mem_of_getElem? (i := 986) (by decide +kernel), List.mem_of_getElem? (i := 1227) (by decide +kernel), List.mem_of_getElem? (i := 1228) (by decide +kernel)⟩
theorem lw_p44 : lw_okq (⟨"ChanceCourtModel", "determinant", "(I)J"⟩, 38) := ⟨⟨by decide +kernel, by decide +kernel⟩, List.mem_of_getElem? (i := 986) (by decide +kernel), List.mem_of_getElem? (i := 1231) (by decide +kernel), List.mem_of_getElem? (i := 1232) (by decide +kernel)⟩
theorem lw_p45 : lw_okq (⟨"ChanceCourtModel", "gcd", "(JJ)J"⟩, 38) := ⟨⟨by decide +kernel, by decide +kernel⟩, List.mem_of_getElem? (i := 986) (by decide +kernel), List.mem_of_getElem? (i := 1235) (by decide +kernel), List.mem_of_getElem? (i := 1236) (by decide +kernel)⟩
theorem lw_p46 : lw_okq (⟨"ChanceCourtModel", "nextChoice", "(IZ)Z"⟩, 38) := ⟨⟨by decide +kernel, by decide +kernel⟩, List.mem_of_getElem? (i := 986) (by decide +kernel), List.mem_of_getElem? (i := 1242) (by decide +kernel), List.mem_of_getElem? (i := 1243) (by decide +kernel)⟩
theorem lw_p47 : lw_okq (⟨"ChanceCourtModel", "refusal", "()J"⟩, 38) := ⟨⟨by decide +kernel, by decide +kernel⟩, List.mem_of_getElem? (i := 986) (by decide +kernel), List.mem_of_getElem? (i := 1251) (by decide +kernel), List.mem_of_getElem? (i := 1252) (by decide +kernel)⟩
def lw_privs_3 : List (MethodName × Nat) := [(⟨"ChanceCourtModel", "leads", "(IIIZ)Z"⟩, 38), (⟨"ChanceCourtModel", "allIn", "(II)Z"⟩, 38), (⟨"ChanceCourtModel", "someIn", "(II)Z"⟩, 38), (⟨"ChanceCourtModel", "wants", "(IZ)Z"⟩, 38), (⟨"ChanceCourtModel", "above", "(Z)I"⟩, 38), (⟨"ChanceCourtModel", "countBits", "(I)I"⟩, 38), (⟨"ChanceCourtModel", "worst", "(IIZ)V"⟩, 38), (⟨"ChanceCourtModel", "chances", "(II)V"⟩, 38), (⟨"ChanceCourtModel", "comesChosen", "(II)I"⟩, 38), (⟨"ChanceCourtModel", "layRow", "(II)V"⟩, 38), (⟨"ChanceCourtModel", "placeOf", "(I)I"⟩, 38), (⟨"ChanceCourtModel", "solve", "()V"⟩, 38), (⟨"ChanceCourtModel", "determinant", "(I)J"⟩, 38), (⟨"ChanceCourtModel", "gcd", "(JJ)J"⟩, 38), (⟨"ChanceCourtModel", "nextChoice", "(IZ)Z"⟩, 38), (⟨"ChanceCourtModel", "refusal", "()J"⟩, 38)]
theorem lw_r3 : ∀ q ∈ lw_privs_3, lw_okq q := List.forall_mem_cons.mpr ⟨lw_p32, List.forall_mem_cons.mpr ⟨lw_p33, List.forall_mem_cons.mpr ⟨lw_p34, List.forall_mem_cons.mpr ⟨lw_p35, List.forall_mem_cons.mpr ⟨lw_p36, List.forall_mem_cons.mpr ⟨lw_p37, List.forall_mem_cons.mpr ⟨lw_p38, List.forall_mem_cons.mpr ⟨lw_p39, List.forall_mem_cons.mpr ⟨lw_p40, List.forall_mem_cons.mpr ⟨lw_p41, List.forall_mem_cons.mpr ⟨lw_p42, List.forall_mem_cons.mpr ⟨lw_p43, List.forall_mem_cons.mpr ⟨lw_p44, List.forall_mem_cons.mpr ⟨lw_p45, List.forall_mem_cons.mpr ⟨lw_p46, List.forall_mem_cons.mpr ⟨lw_p47, fun _ h => absurd h List.not_mem_nil⟩⟩⟩⟩⟩⟩⟩⟩⟩⟩⟩⟩⟩⟩⟩⟩
theorem lw_p48 : lw_okq (⟨"ChanceCourtModel", "isMarked", "(I)Z"⟩, 38) := ⟨⟨by decide +kernel, by decide +kernel⟩, List.mem_of_getElem? (i := 986) (by decide +kernel), List.mem_of_getElem? (i := 1255) (by decide +kernel), List.mem_of_getElem? (i := 1256) (by decide +kernel)⟩
theorem lw_p49 : lw_okq (⟨"ChanceCourtModel", "findDistances", "()V"⟩, 38) := ⟨⟨by decide +kernel, by decide +kernel⟩, List.mem_of_getElem? (i := 986) (by decide +kernel), List.mem_of_getElem? (i := 1259) (by decide +kernel), List.mem_of_getElem? (i := 1260) (by decide +kernel)⟩
theorem lw_p50 : lw_okq (⟨"ChanceCourtModel", "isJust", "(II)Z"⟩, 38) := ⟨⟨by decide +kernel, by decide +kernel⟩, List.mem_of_getElem? (i := 986) (by decide +kernel), List.mem_of_getElem? (i := 1263) (by decide +kernel), List.mem_of_getElem? (i := 1264) (by decide +kernel)⟩
theorem lw_p51 : lw_okq (⟨"ChanceCourtModel", "findSum", "(I)V"⟩, 38) := ⟨⟨by decide +kernel, by decide +kernel⟩, List.mem_of_getElem? (i := 986) (by decide +kernel), List.mem_of_getElem? (i := 1267) (by decide +kernel), List.mem_of_getElem? (i := 1268) (by decide +kernel)⟩
theorem lw_p52 : lw_okq (⟨"ChanceCourtModel", "nearest", "(I)I"⟩, 38) := ⟨⟨by decide +kernel, by decide +kernel⟩, List.mem_of_getElem? (i := 986) (by decide +kernel), List.mem_of_getElem? (i := 1271) (by decide +kernel), List.mem_of_getElem? (i := 1272) (by decide +kernel)⟩
theorem lw_p53 : lw_okq (⟨"ChanceCourtModel", "start", "()V"⟩, 38) := ⟨⟨by decide +kernel, by decide +kernel⟩, List.mem_of_getElem? (i := 986) (by decide +kernel), List.mem_of_getElem? (i := 1288) (by decide +kernel), List.mem_of_getElem? (i := 1289) (by decide +kernel)⟩
theorem lw_p54 : lw_okq (⟨"ChanceCourtModel", "onwards", "(Z)V"⟩, 38) := ⟨⟨by decide +kernel, by decide +kernel⟩, List.mem_of_getElem? (i := 986) (by decide +kernel), List.mem_of_getElem? (i := 1292) (by decide +kernel), List.mem_of_getElem? (i := 1293) (by decide +kernel)⟩
theorem lw_p55 : lw_okq (⟨"ChanceCourtModel", "reachedFrom", "(II)I"⟩, 38) := ⟨⟨by decide +kernel, by decide +kernel⟩, List.mem_of_getElem? (i := 986) (by decide +kernel), List.mem_of_getElem? (i := 1308) (by decide +kernel), List.mem_of_getElem? (i := 1309) (by decide +kernel)⟩
theorem lw_p56 : lw_okq (⟨"ChanceCourtModel", "sureChosen", "(I)I"⟩, 38) := ⟨⟨by decide +kernel, by decide +kernel⟩, List.mem_of_getElem? (i := 986) (by decide +kernel), List.mem_of_getElem? (i := 1317) (by decide +kernel), List.mem_of_getElem? (i := 1318) (by decide +kernel)⟩
theorem lw_p57 : lw_okq (⟨"ChanceCourtModel", "costsChosen", "(I)V"⟩, 38) := ⟨⟨by decide +kernel, by decide +kernel⟩, List.mem_of_getElem? (i := 986) (by decide +kernel), List.mem_of_getElem? (i := 1321) (by decide +kernel), List.mem_of_getElem? (i := 1322) (by decide +kernel)⟩
theorem lw_p58 : lw_okq (⟨"ChanceCourtModel", "findHoles", "()V"⟩, 38) := ⟨⟨by decide +kernel, by decide +kernel⟩, List.mem_of_getElem? (i := 986) (by decide +kernel), List.mem_of_getElem? (i := 1330) (by decide +kernel), List.mem_of_getElem? (i := 1331) (by decide +kernel)⟩
theorem lw_p59 : lw_okq (⟨"ChanceCourtModel", "holeOf", "(I)I"⟩, 38) := ⟨⟨by decide +kernel, by decide +kernel⟩, List.mem_of_getElem? (i := 986) (by decide +kernel), List.mem_of_getElem? (i := 1334) (by decide +kernel), List.mem_of_getElem? (i := 1335) (by decide +kernel)⟩
theorem lw_p60 : lw_okq (⟨"ChanceCourtModel", "together", "(II)I"⟩, 38) := ⟨⟨by decide +kernel, by decide +kernel⟩, List.mem_of_getElem? (i := 986) (by decide +kernel), List.mem_of_getElem? (i := 1338) (by decide +kernel), List.mem_of_getElem? (i := 1339) (by decide +kernel)⟩
theorem lw_p61 : lw_okq (⟨"ChanceCourtModel", "staying", "(I)I"⟩, 38) := ⟨⟨by decide +kernel, by decide +kernel⟩, List.mem_of_getElem? (i := 986) (by decide +kernel), List.mem_of_getElem? (i := 1342) (by decide +kernel), List.mem_of_getElem? (i := 1343) (by decide +kernel)⟩
theorem lw_p62 : lw_okq (⟨"ChanceCourtModel", "findClasses", "()I"⟩, 38) := ⟨⟨by decide +kernel, by decide +kernel⟩, List.mem_of_getElem? (i := 986) (by decide +kernel), List.mem_of_getElem? (i := 1350) (by decide +kernel), List.mem_of_getElem? (i := 1351) (by decide +kernel)⟩
theorem lw_p63 : lw_okq (⟨"ChanceCourtModel", "hasAll", "(II)Z"⟩, 38) := ⟨⟨by decide +kernel, by decide +kernel⟩, List.mem_of_getElem? (i := 986) (by decide +kernel), List.mem_of_getElem? (i := 1354) (by decide +kernel), List.mem_of_getElem? (i := 1355) (by decide +kernel)⟩
def lw_privs_4 : List (MethodName × Nat) := [(⟨"ChanceCourtModel", "isMarked", "(I)Z"⟩, 38), (⟨"ChanceCourtModel", "findDistances", "()V"⟩, 38), (⟨"ChanceCourtModel", "isJust", "(II)Z"⟩, 38), (⟨"ChanceCourtModel", "findSum", "(I)V"⟩, 38), (⟨"ChanceCourtModel", "nearest", "(I)I"⟩, 38), (⟨"ChanceCourtModel", "start", "()V"⟩, 38), (⟨"ChanceCourtModel", "onwards", "(Z)V"⟩, 38), (⟨"ChanceCourtModel", "reachedFrom", "(II)I"⟩, 38), (⟨"ChanceCourtModel", "sureChosen", "(I)I"⟩, 38), (⟨"ChanceCourtModel", "costsChosen", "(I)V"⟩, 38), (⟨"ChanceCourtModel", "findHoles", "()V"⟩, 38), (⟨"ChanceCourtModel", "holeOf", "(I)I"⟩, 38), (⟨"ChanceCourtModel", "together", "(II)I"⟩, 38), (⟨"ChanceCourtModel", "staying", "(I)I"⟩, 38), (⟨"ChanceCourtModel", "findClasses", "()I"⟩, 38), (⟨"ChanceCourtModel", "hasAll", "(II)Z"⟩, 38)]
theorem lw_r4 : ∀ q ∈ lw_privs_4, lw_okq q := List.forall_mem_cons.mpr ⟨lw_p48, List.forall_mem_cons.mpr ⟨lw_p49, List.forall_mem_cons.mpr ⟨lw_p50, List.forall_mem_cons.mpr ⟨lw_p51, List.forall_mem_cons.mpr ⟨lw_p52, List.forall_mem_cons.mpr ⟨lw_p53, List.forall_mem_cons.mpr ⟨lw_p54, List.forall_mem_cons.mpr ⟨lw_p55, List.forall_mem_cons.mpr ⟨lw_p56, List.forall_mem_cons.mpr ⟨lw_p57, List.forall_mem_cons.mpr ⟨lw_p58, List.forall_mem_cons.mpr ⟨lw_p59, List.forall_mem_cons.mpr ⟨lw_p60, List.forall_mem_cons.mpr ⟨lw_p61, List.forall_mem_cons.mpr ⟨lw_p62, List.forall_mem_cons.mpr ⟨lw_p63, fun _ h => absurd h List.not_mem_nil⟩⟩⟩⟩⟩⟩⟩⟩⟩⟩⟩⟩⟩⟩⟩⟩
theorem lw_p64 : lw_okq (⟨"ChanceCourtModel", "areLike", "(II)Z"⟩, 38) := ⟨⟨by decide +kernel, by decide +kernel⟩, List.mem_of_getElem? (i := 986) (by decide +kernel), List.mem_of_getElem? (i := 1358) (by decide +kernel), List.mem_of_getElem? (i := 1359) (by decide +kernel)⟩
theorem lw_p65 : lw_okq (⟨"ChanceCourtModel", "partIn", "(II)I"⟩, 38) := ⟨⟨by decide +kernel, by decide +kernel⟩, List.mem_of_getElem? (i := 986) (by decide +kernel), List.mem_of_getElem? (i := 1362) (by decide +kernel), List.mem_of_getElem? (i := 1363) (by decide +kernel)⟩
theorem lw_p66 : lw_okq (⟨"ChanceCourtModel", "weightOf", "(I)I"⟩, 38) := ⟨⟨by decide +kernel, by decide +kernel⟩, List.mem_of_getElem? (i := 986) (by decide +kernel), List.mem_of_getElem? (i := 1382) (by decide +kernel), List.mem_of_getElem? (i := 1383) (by decide +kernel)⟩
theorem lw_p67 : lw_okq (⟨"ChanceCourtModel", "hasPlaces", "(III)Z"⟩, 38) := ⟨⟨by decide +kernel, by decide +kernel⟩, List.mem_of_getElem? (i := 986) (by decide +kernel), List.mem_of_getElem? (i := 1398) (by decide +kernel), List.mem_of_getElem? (i := 1399) (by decide +kernel)⟩
def lw_privs_5 : List (MethodName × Nat) := [(⟨"ChanceCourtModel", "areLike", "(II)Z"⟩, 38), (⟨"ChanceCourtModel", "partIn", "(II)I"⟩, 38), (⟨"ChanceCourtModel", "weightOf", "(I)I"⟩, 38), (⟨"ChanceCourtModel", "hasPlaces", "(III)Z"⟩, 38)]
theorem lw_r5 : ∀ q ∈ lw_privs_5, lw_okq q := List.forall_mem_cons.mpr ⟨lw_p64, List.forall_mem_cons.mpr ⟨lw_p65, List.forall_mem_cons.mpr ⟨lw_p66, List.forall_mem_cons.mpr ⟨lw_p67, fun _ h => absurd h List.not_mem_nil⟩⟩⟩⟩
def lw_privs : List (MethodName × Nat) := lw_privs_1 ++ (lw_privs_2 ++ (lw_privs_3 ++ (lw_privs_4 ++ (lw_privs_5))))
def lw_tbl : List Cond := k2_sels lw_privs ++ tables_1
theorem lw_privs_ok : ∀ q ∈ lw_privs, lw_okq q := by
  show ∀ q ∈ lw_privs_1 ++ (lw_privs_2 ++ (lw_privs_3 ++ (lw_privs_4 ++ (lw_privs_5)))), lw_okq q
  exact List.forall_mem_append.mpr ⟨lw_r1, List.forall_mem_append.mpr ⟨lw_r2, List.forall_mem_append.mpr ⟨lw_r3, List.forall_mem_append.mpr ⟨lw_r4, lw_r5⟩⟩⟩⟩
end
section
def RX0 : String := "ChanceCourt$Act"
def TX0 : u_T := fun k => match k with
  | 0 => ("ChanceCourt$Act", "kind", "I", false)
  | 1 => ("ChanceCourt$Act", "cost", "I", false)
  | 2 => ("ChanceCourt$Act", "outcomes", "I", false)
  | 3 => ("ChanceCourt$Act", "parts", "I", false)
  | 4 => ("ChanceCourt$Act", "goes", "I", false)
  | 5 => ("ChanceCourt$Act", "to", "[I", true)
  | _ => ("ChanceCourt$Act", "part", "[I", true)
def tyX0 : Nat → FieldType := fun k => match k with
  | 0 => .int
  | 1 => .int
  | 2 => .int
  | 3 => .int
  | 4 => .int
  | 5 => .array .int
  | _ => .array .int
theorem nmX0 : ∀ a, a < 7 → ∀ b, b < 7 → a ≠ b → (TX0 a).2.1 ≠ (TX0 b).2.1 := by decide +kernel
theorem tyX0_ok : ∀ k, k < 7 → parseFieldDescriptor (TX0 k).2.2.1 = some (tyX0 k) := by decide +kernel
abbrev cX0_init : ByteArray := prog_2_method_1_code
def yX0_init : MethodName := ⟨RX0, "<init>", "()V"⟩
abbrev cX0_begin : ByteArray := prog_2_method_2_code
def yX0_begin : MethodName := ⟨RX0, "begin", "(II)V"⟩
abbrev cX0_addOutcome : ByteArray := prog_2_method_3_code
def yX0_addOutcome : MethodName := ⟨RX0, "addOutcome", "(II)V"⟩
abbrev cX0_become : ByteArray := prog_2_method_4_code
def yX0_become : MethodName := ⟨RX0, "become", "(LChanceCourt$Act;)V"⟩
abbrev cX0_room : ByteArray := prog_2_method_5_code
def yX0_room : MethodName := ⟨RX0, "room", "()I"⟩
abbrev cX0_isSingle : ByteArray := prog_2_method_6_code
def yX0_isSingle : MethodName := ⟨RX0, "isSingle", "()Z"⟩
abbrev cX0_staysIn : ByteArray := prog_2_method_7_code
def yX0_staysIn : MethodName := ⟨RX0, "staysIn", "(I)Z"⟩
abbrev cX0_mean : ByteArray := prog_2_method_8_code
def yX0_mean : MethodName := ⟨RX0, "mean", "([J)J"⟩
abbrev cX0_heaviness : ByteArray := prog_2_method_9_code
def yX0_heaviness : MethodName := ⟨RX0, "heaviness", "()J"⟩
def RX1 : String := "ChanceCourt$Equations"
def TX1 : u_T := fun k => match k with
  | 0 => ("ChanceCourt$Equations", "rows", "[[J", true)
  | 1 => ("ChanceCourt$Equations", "rowOf", "[I", true)
  | 2 => ("ChanceCourt$Equations", "stateOf", "[I", true)
  | 3 => ("ChanceCourt$Equations", "unknowns", "I", false)
  | _ => ("ChanceCourt$Equations", "lower", "J", false)
def tyX1 : Nat → FieldType := fun k => match k with
  | 0 => .array (.array .long)
  | 1 => .array .int
  | 2 => .array .int
  | 3 => .int
  | _ => .long
theorem nmX1 : ∀ a, a < 5 → ∀ b, b < 5 → a ≠ b → (TX1 a).2.1 ≠ (TX1 b).2.1 := by decide +kernel
theorem tyX1_ok : ∀ k, k < 5 → parseFieldDescriptor (TX1 k).2.2.1 = some (tyX1 k) := by decide +kernel
abbrev cX1_init : ByteArray := prog_3_method_1_code
def yX1_init : MethodName := ⟨RX1, "<init>", "()V"⟩
abbrev cX1_open : ByteArray := prog_3_method_2_code
def yX1_open : MethodName := ⟨RX1, "open", "(I)Z"⟩
abbrev cX1_write : ByteArray := prog_3_method_3_code
def yX1_write : MethodName := ⟨RX1, "write", "(ILChanceCourt$Act;J)V"⟩
abbrev cX1_solve : ByteArray := prog_3_method_4_code
def yX1_solve : MethodName := ⟨RX1, "solve", "()V"⟩
abbrev cX1_clear : ByteArray := prog_3_method_5_code
def yX1_clear : MethodName := ⟨RX1, "clear", "(IIJ)V"⟩
abbrev cX1_upperOf : ByteArray := prog_3_method_6_code
def yX1_upperOf : MethodName := ⟨RX1, "upperOf", "(I)J"⟩
def RX2 : String := "ChanceCourt$Guide"
def TX2 : u_T := fun k => match k with
  | 0 => ("ChanceCourt$Guide", "world", "LChanceCourt$World;", true)
  | 1 => ("ChanceCourt$Guide", "most", "LChanceCourt$Verdict;", true)
  | 2 => ("ChanceCourt$Guide", "settled", "I", false)
  | _ => ("ChanceCourt$Guide", "steps", "[I", true)
def tyX2 : Nat → FieldType := fun k => match k with
  | 0 => .object "ChanceCourt$World"
  | 1 => .object "ChanceCourt$Verdict"
  | 2 => .int
  | _ => .array .int
theorem nmX2 : ∀ a, a < 4 → ∀ b, b < 4 → a ≠ b → (TX2 a).2.1 ≠ (TX2 b).2.1 := by decide +kernel
theorem tyX2_ok : ∀ k, k < 4 → parseFieldDescriptor (TX2 k).2.2.1 = some (tyX2 k) := by decide +kernel
abbrev cX2_init : ByteArray := prog_4_method_1_code
def yX2_init : MethodName := ⟨RX2, "<init>", "(LChanceCourt$World;LChanceCourt$Verdict;)V"⟩
abbrev cX2_settle : ByteArray := prog_4_method_2_code
def yX2_settle : MethodName := ⟨RX2, "settle", "()V"⟩
abbrev cX2_tightActInto : ByteArray := prog_4_method_3_code
def yX2_tightActInto : MethodName := ⟨RX2, "tightActInto", "(II)I"⟩
abbrev cX2_pick : ByteArray := prog_4_method_4_code
def yX2_pick : MethodName := ⟨RX2, "pick", "(I)I"⟩
abbrev cX2_nearerThan : ByteArray := prog_4_method_5_code
def yX2_nearerThan : MethodName := ⟨RX2, "nearerThan", "(I)I"⟩
def RX3 : String := "ChanceCourt$Holes"
def TX3 : u_T := fun k => match k with
  | 0 => ("ChanceCourt$Holes", "world", "LChanceCourt$World;", true)
  | 1 => ("ChanceCourt$Holes", "home", "[I", true)
  | 2 => ("ChanceCourt$Holes", "paths", "[I", true)
  | 3 => ("ChanceCourt$Holes", "settled", "I", false)
  | 4 => ("ChanceCourt$Holes", "members", "[I", true)
  | _ => ("ChanceCourt$Holes", "holes", "I", false)
def tyX3 : Nat → FieldType := fun k => match k with
  | 0 => .object "ChanceCourt$World"
  | 1 => .array .int
  | 2 => .array .int
  | 3 => .int
  | 4 => .array .int
  | _ => .int
theorem nmX3 : ∀ a, a < 6 → ∀ b, b < 6 → a ≠ b → (TX3 a).2.1 ≠ (TX3 b).2.1 := by decide +kernel
theorem tyX3_ok : ∀ k, k < 6 → parseFieldDescriptor (TX3 k).2.2.1 = some (tyX3 k) := by decide +kernel
abbrev cX3_init : ByteArray := prog_5_method_1_code
def yX3_init : MethodName := ⟨RX3, "<init>", "(LChanceCourt$World;)V"⟩
abbrev cX3_settle : ByteArray := prog_5_method_2_code
def yX3_settle : MethodName := ⟨RX3, "settle", "()V"⟩
abbrev cX3_findPaths : ByteArray := prog_5_method_3_code
def yX3_findPaths : MethodName := ⟨RX3, "findPaths", "()V"⟩
abbrev cX3_narrow : ByteArray := prog_5_method_4_code
def yX3_narrow : MethodName := ⟨RX3, "narrow", "()Z"⟩
abbrev cX3_gather : ByteArray := prog_5_method_5_code
def yX3_gather : MethodName := ⟨RX3, "gather", "()V"⟩
abbrev cX3_stayingActs : ByteArray := prog_5_method_6_code
def yX3_stayingActs : MethodName := ⟨RX3, "stayingActs", "(I)I"⟩
def RX4 : String := "ChanceCourt$Horizon"
def TX4 : u_T := fun k => match k with
  | 0 => ("ChanceCourt$Horizon", "world", "LChanceCourt$World;", true)
  | 1 => ("ChanceCourt$Horizon", "least", "Z", true)
  | 2 => ("ChanceCourt$Horizon", "settled", "I", false)
  | 3 => ("ChanceCourt$Horizon", "upper", "[[J", true)
  | _ => ("ChanceCourt$Horizon", "lower", "[J", true)
def tyX4 : Nat → FieldType := fun k => match k with
  | 0 => .object "ChanceCourt$World"
  | 1 => .boolean
  | 2 => .int
  | 3 => .array (.array .long)
  | _ => .array .long
theorem nmX4 : ∀ a, a < 5 → ∀ b, b < 5 → a ≠ b → (TX4 a).2.1 ≠ (TX4 b).2.1 := by decide +kernel
theorem tyX4_ok : ∀ k, k < 5 → parseFieldDescriptor (TX4 k).2.2.1 = some (tyX4 k) := by decide +kernel
abbrev cX4_init : ByteArray := prog_6_method_1_code
def yX4_init : MethodName := ⟨RX4, "<init>", "(LChanceCourt$World;Z)V"⟩
abbrev cX4_settle : ByteArray := prog_6_method_2_code
def yX4_settle : MethodName := ⟨RX4, "settle", "()V"⟩
abbrev cX4_best : ByteArray := prog_6_method_3_code
def yX4_best : MethodName := ⟨RX4, "best", "(I[J)J"⟩
def RX5 : String := "ChanceCourt$Prices"
def TX5 : u_T := fun k => match k with
  | 0 => ("ChanceCourt$Prices", "world", "LChanceCourt$World;", true)
  | 1 => ("ChanceCourt$Prices", "most", "LChanceCourt$Verdict;", true)
  | 2 => ("ChanceCourt$Prices", "ways", "LChanceCourt$Ways;", true)
  | 3 => ("ChanceCourt$Prices", "equations", "LChanceCourt$Equations;", true)
  | 4 => ("ChanceCourt$Prices", "settled", "I", false)
  | 5 => ("ChanceCourt$Prices", "upper", "[J", true)
  | 6 => ("ChanceCourt$Prices", "lower", "J", false)
  | _ => ("ChanceCourt$Prices", "told", "Z", false)
def tyX5 : Nat → FieldType := fun k => match k with
  | 0 => .object "ChanceCourt$World"
  | 1 => .object "ChanceCourt$Verdict"
  | 2 => .object "ChanceCourt$Ways"
  | 3 => .object "ChanceCourt$Equations"
  | 4 => .int
  | 5 => .array .long
  | 6 => .long
  | _ => .boolean
theorem nmX5 : ∀ a, a < 8 → ∀ b, b < 8 → a ≠ b → (TX5 a).2.1 ≠ (TX5 b).2.1 := by decide +kernel
theorem tyX5_ok : ∀ k, k < 8 → parseFieldDescriptor (TX5 k).2.2.1 = some (tyX5 k) := by decide +kernel
abbrev cX5_init : ByteArray := prog_7_method_1_code
def yX5_init : MethodName := ⟨RX5, "<init>", "(LChanceCourt$World;LChanceCourt$Verdict;)V"⟩
abbrev cX5_settle : ByteArray := prog_7_method_2_code
def yX5_settle : MethodName := ⟨RX5, "settle", "()V"⟩
abbrev cX5_evaluate : ByteArray := prog_7_method_3_code
def yX5_evaluate : MethodName := ⟨RX5, "evaluate", "()V"⟩
abbrev cX5_improve : ByteArray := prog_7_method_4_code
def yX5_improve : MethodName := ⟨RX5, "improve", "()Z"⟩
abbrev cX5_improveState : ByteArray := prog_7_method_5_code
def yX5_improveState : MethodName := ⟨RX5, "improveState", "(I)Z"⟩
def RX6 : String := "ChanceCourt$Shelf"
def TX6 : u_T := fun k => match k with
  | 0 => ("ChanceCourt$Shelf", "kind", "I", false)
  | 1 => ("ChanceCourt$Shelf", "upper", "J", false)
  | 2 => ("ChanceCourt$Shelf", "length", "I", false)
  | 3 => ("ChanceCourt$Shelf", "act", "LChanceCourt$Act;", true)
  | _ => ("ChanceCourt$Shelf", "row", "[J", true)
def tyX6 : Nat → FieldType := fun k => match k with
  | 0 => .int
  | 1 => .long
  | 2 => .int
  | 3 => .object "ChanceCourt$Act"
  | _ => .array .long
theorem nmX6 : ∀ a, a < 5 → ∀ b, b < 5 → a ≠ b → (TX6 a).2.1 ≠ (TX6 b).2.1 := by decide +kernel
theorem tyX6_ok : ∀ k, k < 5 → parseFieldDescriptor (TX6 k).2.2.1 = some (tyX6 k) := by decide +kernel
abbrev cX6_init : ByteArray := prog_8_method_1_code
def yX6_init : MethodName := ⟨RX6, "<init>", "()V"⟩
abbrev cX6_isRow : ByteArray := prog_8_method_2_code
def yX6_isRow : MethodName := ⟨RX6, "isRow", "()Z"⟩
abbrev cX6_hasPlaces : ByteArray := prog_8_method_3_code
def yX6_hasPlaces : MethodName := ⟨RX6, "hasPlaces", "(II)Z"⟩
abbrev cX6_holdAct : ByteArray := prog_8_method_4_code
def yX6_holdAct : MethodName := ⟨RX6, "holdAct", "(LChanceCourt$Act;)V"⟩
abbrev cX6_holdNumber : ByteArray := prog_8_method_5_code
def yX6_holdNumber : MethodName := ⟨RX6, "holdNumber", "(J)V"⟩
abbrev cX6_holdParts : ByteArray := prog_8_method_6_code
def yX6_holdParts : MethodName := ⟨RX6, "holdParts", "(LChanceCourt$Act;)V"⟩
abbrev cX6_beginRow : ByteArray := prog_8_method_7_code
def yX6_beginRow : MethodName := ⟨RX6, "beginRow", "(II)V"⟩
def RX7 : String := "ChanceCourt$Twins"
def TX7 : u_T := fun k => match k with
  | 0 => ("ChanceCourt$Twins", "world", "LChanceCourt$World;", true)
  | 1 => ("ChanceCourt$Twins", "next", "[I", true)
  | 2 => ("ChanceCourt$Twins", "faces", "[J", true)
  | 3 => ("ChanceCourt$Twins", "settled", "I", false)
  | 4 => ("ChanceCourt$Twins", "classOf", "[I", true)
  | _ => ("ChanceCourt$Twins", "classes", "I", false)
def tyX7 : Nat → FieldType := fun k => match k with
  | 0 => .object "ChanceCourt$World"
  | 1 => .array .int
  | 2 => .array .long
  | 3 => .int
  | 4 => .array .int
  | _ => .int
theorem nmX7 : ∀ a, a < 6 → ∀ b, b < 6 → a ≠ b → (TX7 a).2.1 ≠ (TX7 b).2.1 := by decide +kernel
theorem tyX7_ok : ∀ k, k < 6 → parseFieldDescriptor (TX7 k).2.2.1 = some (tyX7 k) := by decide +kernel
abbrev cX7_init : ByteArray := prog_9_method_1_code
def yX7_init : MethodName := ⟨RX7, "<init>", "(LChanceCourt$World;)V"⟩
abbrev cX7_settle : ByteArray := prog_9_method_2_code
def yX7_settle : MethodName := ⟨RX7, "settle", "()V"⟩
abbrev cX7_readFaces : ByteArray := prog_9_method_3_code
def yX7_readFaces : MethodName := ⟨RX7, "readFaces", "()V"⟩
abbrev cX7_faceOf : ByteArray := prog_9_method_4_code
def yX7_faceOf : MethodName := ⟨RX7, "faceOf", "(LChanceCourt$Act;)J"⟩
abbrev cX7_split : ByteArray := prog_9_method_5_code
def yX7_split : MethodName := ⟨RX7, "split", "()V"⟩
abbrev cX7_covers : ByteArray := prog_9_method_6_code
def yX7_covers : MethodName := ⟨RX7, "covers", "(II)Z"⟩
abbrev cX7_hasFace : ByteArray := prog_9_method_7_code
def yX7_hasFace : MethodName := ⟨RX7, "hasFace", "(IJ)Z"⟩
def RX8 : String := "ChanceCourt$Verdict"
def TX8 : u_T := fun k => match k with
  | 0 => ("ChanceCourt$Verdict", "world", "LChanceCourt$World;", true)
  | 1 => ("ChanceCourt$Verdict", "least", "Z", true)
  | 2 => ("ChanceCourt$Verdict", "ways", "LChanceCourt$Ways;", true)
  | 3 => ("ChanceCourt$Verdict", "equations", "LChanceCourt$Equations;", true)
  | 4 => ("ChanceCourt$Verdict", "sorted", "I", false)
  | 5 => ("ChanceCourt$Verdict", "settled", "I", false)
  | 6 => ("ChanceCourt$Verdict", "upper", "[J", true)
  | 7 => ("ChanceCourt$Verdict", "lower", "J", false)
  | 8 => ("ChanceCourt$Verdict", "sure", "I", false)
  | 9 => ("ChanceCourt$Verdict", "lost", "I", false)
  | _ => ("ChanceCourt$Verdict", "told", "Z", false)
def tyX8 : Nat → FieldType := fun k => match k with
  | 0 => .object "ChanceCourt$World"
  | 1 => .boolean
  | 2 => .object "ChanceCourt$Ways"
  | 3 => .object "ChanceCourt$Equations"
  | 4 => .int
  | 5 => .int
  | 6 => .array .long
  | 7 => .long
  | 8 => .int
  | 9 => .int
  | _ => .boolean
theorem nmX8 : ∀ a, a < 11 → ∀ b, b < 11 → a ≠ b → (TX8 a).2.1 ≠ (TX8 b).2.1 := by decide +kernel
theorem tyX8_ok : ∀ k, k < 11 → parseFieldDescriptor (TX8 k).2.2.1 = some (tyX8 k) := by decide +kernel
abbrev cX8_init : ByteArray := prog_10_method_1_code
def yX8_init : MethodName := ⟨RX8, "<init>", "(LChanceCourt$World;Z)V"⟩
abbrev cX8_sort : ByteArray := prog_10_method_2_code
def yX8_sort : MethodName := ⟨RX8, "sort", "()V"⟩
abbrev cX8_settle : ByteArray := prog_10_method_3_code
def yX8_settle : MethodName := ⟨RX8, "settle", "()V"⟩
abbrev cX8_evaluate : ByteArray := prog_10_method_4_code
def yX8_evaluate : MethodName := ⟨RX8, "evaluate", "()V"⟩
abbrev cX8_setSureTo : ByteArray := prog_10_method_5_code
def yX8_setSureTo : MethodName := ⟨RX8, "setSureTo", "(J)V"⟩
abbrev cX8_improve : ByteArray := prog_10_method_6_code
def yX8_improve : MethodName := ⟨RX8, "improve", "(Z)Z"⟩
abbrev cX8_improveState : ByteArray := prog_10_method_7_code
def yX8_improveState : MethodName := ⟨RX8, "improveState", "(IZ)Z"⟩
abbrev cX8_isTight : ByteArray := prog_10_method_8_code
def yX8_isTight : MethodName := ⟨RX8, "isTight", "(II)Z"⟩
def RX9 : String := "ChanceCourt$Ways"
def TX9 : u_T := fun k => match k with
  | 0 => ("ChanceCourt$Ways", "world", "LChanceCourt$World;", true)
  | 1 => ("ChanceCourt$Ways", "least", "Z", true)
  | _ => ("ChanceCourt$Ways", "way", "[I", true)
def tyX9 : Nat → FieldType := fun k => match k with
  | 0 => .object "ChanceCourt$World"
  | 1 => .boolean
  | _ => .array .int
theorem nmX9 : ∀ a, a < 3 → ∀ b, b < 3 → a ≠ b → (TX9 a).2.1 ≠ (TX9 b).2.1 := by decide +kernel
theorem tyX9_ok : ∀ k, k < 3 → parseFieldDescriptor (TX9 k).2.2.1 = some (tyX9 k) := by decide +kernel
abbrev cX9_init : ByteArray := prog_11_method_1_code
def yX9_init : MethodName := ⟨RX9, "<init>", "(LChanceCourt$World;Z)V"⟩
abbrev cX9_grow : ByteArray := prog_11_method_2_code
def yX9_grow : MethodName := ⟨RX9, "grow", "(I)I"⟩
abbrev cX9_join : ByteArray := prog_11_method_3_code
def yX9_join : MethodName := ⟨RX9, "join", "(III)Z"⟩
def RX10 : String := "ChanceCourt$World"
def TX10 : u_T := fun k => match k with
  | 0 => ("ChanceCourt$World", "states", "I", false)
  | 1 => ("ChanceCourt$World", "marked", "I", false)
  | 2 => ("ChanceCourt$World", "version", "I", false)
  | 3 => ("ChanceCourt$World", "actCounts", "[I", true)
  | _ => ("ChanceCourt$World", "acts", "[LChanceCourt$Act;", true)
def tyX10 : Nat → FieldType := fun k => match k with
  | 0 => .int
  | 1 => .int
  | 2 => .int
  | 3 => .array .int
  | _ => .array (.object "ChanceCourt$Act")
theorem nmX10 : ∀ a, a < 5 → ∀ b, b < 5 → a ≠ b → (TX10 a).2.1 ≠ (TX10 b).2.1 := by decide +kernel
theorem tyX10_ok : ∀ k, k < 5 → parseFieldDescriptor (TX10 k).2.2.1 = some (tyX10 k) := by decide +kernel
abbrev cX10_init : ByteArray := prog_12_method_1_code
def yX10_init : MethodName := ⟨RX10, "<init>", "()V"⟩
abbrev cX10_hasState : ByteArray := prog_12_method_2_code
def yX10_hasState : MethodName := ⟨RX10, "hasState", "(I)Z"⟩
abbrev cX10_hasAct : ByteArray := prog_12_method_3_code
def yX10_hasAct : MethodName := ⟨RX10, "hasAct", "(II)Z"⟩
abbrev cX10_actAt : ByteArray := prog_12_method_4_code
def yX10_actAt : MethodName := ⟨RX10, "actAt", "(II)LChanceCourt$Act;"⟩
abbrev cX10_isFoes : ByteArray := prog_12_method_5_code
def yX10_isFoes : MethodName := ⟨RX10, "isFoes", "(I)Z"⟩
abbrev cX10_seeksMost : ByteArray := prog_12_method_6_code
def yX10_seeksMost : MethodName := ⟨RX10, "seeksMost", "(IZ)Z"⟩
abbrev cX10_everyone : ByteArray := prog_12_method_7_code
def yX10_everyone : MethodName := ⟨RX10, "everyone", "()I"⟩
abbrev cX10_addState : ByteArray := prog_12_method_8_code
def yX10_addState : MethodName := ⟨RX10, "addState", "()I"⟩
abbrev cX10_addAct : ByteArray := prog_12_method_9_code
def yX10_addAct : MethodName := ⟨RX10, "addAct", "(III)I"⟩
abbrev cX10_addOutcome : ByteArray := prog_12_method_10_code
def yX10_addOutcome : MethodName := ⟨RX10, "addOutcome", "(LChanceCourt$Act;II)I"⟩
abbrev cX10_removeAct : ByteArray := prog_12_method_11_code
def yX10_removeAct : MethodName := ⟨RX10, "removeAct", "(I)I"⟩
abbrev cX10_setMarked : ByteArray := prog_12_method_12_code
def yX10_setMarked : MethodName := ⟨RX10, "setMarked", "(I)V"⟩
abbrev cX10_isWhole : ByteArray := prog_12_method_13_code
def yX10_isWhole : MethodName := ⟨RX10, "isWhole", "()Z"⟩
abbrev cX10_lacking : ByteArray := prog_12_method_14_code
def yX10_lacking : MethodName := ⟨RX10, "lacking", "()I"⟩
abbrev cX10_allActs : ByteArray := prog_12_method_15_code
def yX10_allActs : MethodName := ⟨RX10, "allActs", "()I"⟩
abbrev cX10_allOutcomes : ByteArray := prog_12_method_16_code
def yX10_allOutcomes : MethodName := ⟨RX10, "allOutcomes", "()I"⟩
abbrev cX10_foeActs : ByteArray := prog_12_method_17_code
def yX10_foeActs : MethodName := ⟨RX10, "foeActs", "()I"⟩
abbrev cX10_nextOf : ByteArray := prog_12_method_18_code
def yX10_nextOf : MethodName := ⟨RX10, "nextOf", "(II)I"⟩
abbrev cX10_reachedFrom : ByteArray := prog_12_method_19_code
def yX10_reachedFrom : MethodName := ⟨RX10, "reachedFrom", "(I)I"⟩
def RX11 : String := "ChanceCourt"
def TX11 : u_T := fun k => match k with
  | 0 => ("ChanceCourt", "world", "LChanceCourt$World;", true)
  | 1 => ("ChanceCourt", "mostVerdict", "LChanceCourt$Verdict;", true)
  | 2 => ("ChanceCourt", "leastVerdict", "LChanceCourt$Verdict;", true)
  | 3 => ("ChanceCourt", "guide", "LChanceCourt$Guide;", true)
  | 4 => ("ChanceCourt", "mostSoon", "LChanceCourt$Horizon;", true)
  | 5 => ("ChanceCourt", "leastSoon", "LChanceCourt$Horizon;", true)
  | 6 => ("ChanceCourt", "prices", "LChanceCourt$Prices;", true)
  | 7 => ("ChanceCourt", "holes", "LChanceCourt$Holes;", true)
  | 8 => ("ChanceCourt", "twins", "LChanceCourt$Twins;", true)
  | _ => ("ChanceCourt", "shelves", "[LChanceCourt$Shelf;", true)
def tyX11 : Nat → FieldType := fun k => match k with
  | 0 => .object "ChanceCourt$World"
  | 1 => .object "ChanceCourt$Verdict"
  | 2 => .object "ChanceCourt$Verdict"
  | 3 => .object "ChanceCourt$Guide"
  | 4 => .object "ChanceCourt$Horizon"
  | 5 => .object "ChanceCourt$Horizon"
  | 6 => .object "ChanceCourt$Prices"
  | 7 => .object "ChanceCourt$Holes"
  | 8 => .object "ChanceCourt$Twins"
  | _ => .array (.object "ChanceCourt$Shelf")
theorem nmX11 : ∀ a, a < 10 → ∀ b, b < 10 → a ≠ b → (TX11 a).2.1 ≠ (TX11 b).2.1 := by decide +kernel
theorem tyX11_ok : ∀ k, k < 10 → parseFieldDescriptor (TX11 k).2.2.1 = some (tyX11 k) := by decide +kernel
abbrev cX11_init : ByteArray := prog_1_method_1_code
def yX11_init : MethodName := ⟨RX11, "<init>", "()V"⟩
abbrev cX11_state : ByteArray := prog_1_method_2_code
def yX11_state : MethodName := ⟨RX11, "state", "()I"⟩
abbrev cX11_act : ByteArray := prog_1_method_3_code
def yX11_act : MethodName := ⟨RX11, "act", "(III)I"⟩
abbrev cX11_outcome : ByteArray := prog_1_method_4_code
def yX11_outcome : MethodName := ⟨RX11, "outcome", "(IIII)I"⟩
abbrev cX11_drop : ByteArray := prog_1_method_5_code
def yX11_drop : MethodName := ⟨RX11, "drop", "(I)I"⟩
abbrev cX11_mark : ByteArray := prog_1_method_6_code
def yX11_mark : MethodName := ⟨RX11, "mark", "(I)I"⟩
abbrev cX11_whole : ByteArray := prog_1_method_7_code
def yX11_whole : MethodName := ⟨RX11, "whole", "()I"⟩
abbrev cX11_value : ByteArray := prog_1_method_8_code
def yX11_value : MethodName := ⟨RX11, "value", "(IZI)J"⟩
abbrev cX11_choice : ByteArray := prog_1_method_9_code
def yX11_choice : MethodName := ⟨RX11, "choice", "(I)I"⟩
abbrev cX11_distance : ByteArray := prog_1_method_10_code
def yX11_distance : MethodName := ⟨RX11, "distance", "(I)I"⟩
abbrev cX11_sum : ByteArray := prog_1_method_11_code
def yX11_sum : MethodName := ⟨RX11, "sum", "(III)J"⟩
abbrev cX11_within : ByteArray := prog_1_method_12_code
def yX11_within : MethodName := ⟨RX11, "within", "(IIZI)J"⟩
abbrev cX11_bound : ByteArray := prog_1_method_13_code
def yX11_bound : MethodName := ⟨RX11, "bound", "(II)I"⟩
abbrev cX11_sets : ByteArray := prog_1_method_14_code
def yX11_sets : MethodName := ⟨RX11, "sets", "(I)I"⟩
abbrev cX11_reached : ByteArray := prog_1_method_15_code
def yX11_reached : MethodName := ⟨RX11, "reached", "(I)I"⟩
abbrev cX11_cost : ByteArray := prog_1_method_16_code
def yX11_cost : MethodName := ⟨RX11, "cost", "(II)J"⟩
abbrev cX11_hole : ByteArray := prog_1_method_17_code
def yX11_hole : MethodName := ⟨RX11, "hole", "(II)I"⟩
abbrev cX11_twin : ByteArray := prog_1_method_18_code
def yX11_twin : MethodName := ⟨RX11, "twin", "(I)I"⟩
abbrev cX11_count : ByteArray := prog_1_method_19_code
def yX11_count : MethodName := ⟨RX11, "count", "(I)I"⟩
abbrev cX11_look : ByteArray := prog_1_method_20_code
def yX11_look : MethodName := ⟨RX11, "look", "(III)I"⟩
abbrev cX11_keep : ByteArray := prog_1_method_21_code
def yX11_keep : MethodName := ⟨RX11, "keep", "(IIII)I"⟩
abbrev cX11_make : ByteArray := prog_1_method_22_code
def yX11_make : MethodName := ⟨RX11, "make", "(III)I"⟩
abbrev cX11_element : ByteArray := prog_1_method_23_code
def yX11_element : MethodName := ⟨RX11, "element", "(II)J"⟩
abbrev cX11_copy : ByteArray := prog_1_method_24_code
def yX11_copy : MethodName := ⟨RX11, "copy", "(IIIII)I"⟩
abbrev cX11_weight : ByteArray := prog_1_method_25_code
def yX11_weight : MethodName := ⟨RX11, "weight", "(I)J"⟩
abbrev cX11_ratio : ByteArray := prog_1_method_26_code
def yX11_ratio : MethodName := ⟨RX11, "ratio", "(II)J"⟩
abbrev cX11_refusalOf : ByteArray := prog_1_method_27_code
def yX11_refusalOf : MethodName := ⟨RX11, "refusalOf", "(LChanceCourt$Verdict;)I"⟩
abbrev cX11_fillShelf : ByteArray := prog_1_method_28_code
def yX11_fillShelf : MethodName := ⟨RX11, "fillShelf", "(LChanceCourt$Shelf;III)V"⟩
abbrev cX11_isHalf : ByteArray := prog_1_method_29_code
def yX11_isHalf : MethodName := ⟨RX11, "isHalf", "(I)Z"⟩
abbrev cX11_isShelf : ByteArray := prog_1_method_30_code
def yX11_isShelf : MethodName := ⟨RX11, "isShelf", "(I)Z"⟩
abbrev cX11_has : ByteArray := prog_1_method_31_code
def yX11_has : MethodName := ⟨RX11, "has", "(II)Z"⟩
abbrev cX11_lowestTerms : ByteArray := prog_1_method_32_code
def yX11_lowestTerms : MethodName := ⟨RX11, "lowestTerms", "(JJI)J"⟩
abbrev cX11_commonDivisor : ByteArray := prog_1_method_33_code
def yX11_commonDivisor : MethodName := ⟨RX11, "commonDivisor", "(JJ)J"⟩
def RX12 : String := "ChanceCourtModel"
def TX12 : u_T := fun k => match k with
  | 0 => ("ChanceCourtModel", "thrown", "I", false)
  | 1 => ("ChanceCourtModel", "states", "I", false)
  | 2 => ("ChanceCourtModel", "marked", "I", false)
  | 3 => ("ChanceCourtModel", "acts", "[I", true)
  | 4 => ("ChanceCourtModel", "kind", "[I", true)
  | 5 => ("ChanceCourtModel", "costOf", "[I", true)
  | 6 => ("ChanceCourtModel", "outcomes", "[I", true)
  | 7 => ("ChanceCourtModel", "to", "[I", true)
  | 8 => ("ChanceCourtModel", "part", "[I", true)
  | 9 => ("ChanceCourtModel", "matrix", "[J", true)
  | 10 => ("ChanceCourtModel", "chosen", "[I", true)
  | 11 => ("ChanceCourtModel", "asked", "[I", true)
  | 12 => ("ChanceCourtModel", "askedMany", "I", false)
  | 13 => ("ChanceCourtModel", "rowA", "[J", true)
  | 14 => ("ChanceCourtModel", "rowB", "[J", true)
  | 15 => ("ChanceCourtModel", "upper", "[J", true)
  | 16 => ("ChanceCourtModel", "lower", "[J", true)
  | 17 => ("ChanceCourtModel", "valueUpper", "[J", true)
  | 18 => ("ChanceCourtModel", "valueLower", "[J", true)
  | 19 => ("ChanceCourtModel", "worstUpper", "[J", true)
  | 20 => ("ChanceCourtModel", "worstLower", "[J", true)
  | 21 => ("ChanceCourtModel", "sumUpper", "J", false)
  | 22 => ("ChanceCourtModel", "sumLower", "J", false)
  | 23 => ("ChanceCourtModel", "far", "[I", true)
  | 24 => ("ChanceCourtModel", "now", "[J", true)
  | 25 => ("ChanceCourtModel", "then", "[J", true)
  | 26 => ("ChanceCourtModel", "scale", "J", false)
  | 27 => ("ChanceCourtModel", "costUpper", "[J", true)
  | 28 => ("ChanceCourtModel", "costLower", "[J", true)
  | 29 => ("ChanceCourtModel", "holes", "[I", true)
  | 30 => ("ChanceCourtModel", "holeMany", "I", false)
  | 31 => ("ChanceCourtModel", "classOf", "[I", true)
  | 32 => ("ChanceCourtModel", "classNext", "[I", true)
  | 33 => ("ChanceCourtModel", "shelf", "[I", true)
  | 34 => ("ChanceCourtModel", "shelfSize", "[I", true)
  | 35 => ("ChanceCourtModel", "shelfWeight", "[J", true)
  | 36 => ("ChanceCourtModel", "shelfRow", "[J", true)
  | _ => ("ChanceCourtModel", "between0", "[J", true)
def tyX12 : Nat → FieldType := fun k => match k with
  | 0 => .int
  | 1 => .int
  | 2 => .int
  | 3 => .array .int
  | 4 => .array .int
  | 5 => .array .int
  | 6 => .array .int
  | 7 => .array .int
  | 8 => .array .int
  | 9 => .array .long
  | 10 => .array .int
  | 11 => .array .int
  | 12 => .int
  | 13 => .array .long
  | 14 => .array .long
  | 15 => .array .long
  | 16 => .array .long
  | 17 => .array .long
  | 18 => .array .long
  | 19 => .array .long
  | 20 => .array .long
  | 21 => .long
  | 22 => .long
  | 23 => .array .int
  | 24 => .array .long
  | 25 => .array .long
  | 26 => .long
  | 27 => .array .long
  | 28 => .array .long
  | 29 => .array .int
  | 30 => .int
  | 31 => .array .int
  | 32 => .array .int
  | 33 => .array .int
  | 34 => .array .int
  | 35 => .array .long
  | 36 => .array .long
  | _ => .array .long
theorem nmX12 : ∀ a, a < 38 → ∀ b, b < 38 → a ≠ b → (TX12 a).2.1 ≠ (TX12 b).2.1 := by decide +kernel
theorem tyX12_ok : ∀ k, k < 38 → parseFieldDescriptor (TX12 k).2.2.1 = some (tyX12 k) := by decide +kernel
abbrev cX12_init : ByteArray := prog_14_method_1_code
def yX12_init : MethodName := ⟨RX12, "<init>", "()V"⟩
abbrev cX12_thrown : ByteArray := prog_14_method_2_code
def yX12_thrown : MethodName := ⟨RX12, "thrown", "()I"⟩
abbrev cX12_isIn : ByteArray := prog_14_method_3_code
def yX12_isIn : MethodName := ⟨RX12, "isIn", "(JJJ)Z"⟩
abbrev cX12_isState : ByteArray := prog_14_method_4_code
def yX12_isState : MethodName := ⟨RX12, "isState", "(I)Z"⟩
abbrev cX12_isAct : ByteArray := prog_14_method_5_code
def yX12_isAct : MethodName := ⟨RX12, "isAct", "(II)Z"⟩
abbrev cX12_isMarked : ByteArray := prog_14_method_6_code
def yX12_isMarked : MethodName := ⟨RX12, "isMarked", "(I)Z"⟩
abbrev cX12_isFoe : ByteArray := prog_14_method_7_code
def yX12_isFoe : MethodName := ⟨RX12, "isFoe", "(I)Z"⟩
abbrev cX12_state : ByteArray := prog_14_method_8_code
def yX12_state : MethodName := ⟨RX12, "state", "()I"⟩
abbrev cX12_act : ByteArray := prog_14_method_9_code
def yX12_act : MethodName := ⟨RX12, "act", "(III)I"⟩
abbrev cX12_partsOf : ByteArray := prog_14_method_10_code
def yX12_partsOf : MethodName := ⟨RX12, "partsOf", "(I)I"⟩
abbrev cX12_outcome : ByteArray := prog_14_method_11_code
def yX12_outcome : MethodName := ⟨RX12, "outcome", "(IIII)I"⟩
abbrev cX12_drop : ByteArray := prog_14_method_12_code
def yX12_drop : MethodName := ⟨RX12, "drop", "(I)I"⟩
abbrev cX12_mark : ByteArray := prog_14_method_13_code
def yX12_mark : MethodName := ⟨RX12, "mark", "(I)I"⟩
abbrev cX12_lacking : ByteArray := prog_14_method_14_code
def yX12_lacking : MethodName := ⟨RX12, "lacking", "()I"⟩
abbrev cX12_whole : ByteArray := prog_14_method_15_code
def yX12_whole : MethodName := ⟨RX12, "whole", "()I"⟩
abbrev cX12_allIn : ByteArray := prog_14_method_16_code
def yX12_allIn : MethodName := ⟨RX12, "allIn", "(II)Z"⟩
abbrev cX12_someIn : ByteArray := prog_14_method_17_code
def yX12_someIn : MethodName := ⟨RX12, "someIn", "(II)Z"⟩
abbrev cX12_wants : ByteArray := prog_14_method_18_code
def yX12_wants : MethodName := ⟨RX12, "wants", "(IZ)Z"⟩
abbrev cX12_leads : ByteArray := prog_14_method_19_code
def yX12_leads : MethodName := ⟨RX12, "leads", "(IIIZ)Z"⟩
abbrev cX12_comes : ByteArray := prog_14_method_20_code
def yX12_comes : MethodName := ⟨RX12, "comes", "(IZ)I"⟩
abbrev cX12_all : ByteArray := prog_14_method_21_code
def yX12_all : MethodName := ⟨RX12, "all", "()I"⟩
abbrev cX12_above : ByteArray := prog_14_method_22_code
def yX12_above : MethodName := ⟨RX12, "above", "(Z)I"⟩
abbrev cX12_ones : ByteArray := prog_14_method_23_code
def yX12_ones : MethodName := ⟨RX12, "ones", "(Z)I"⟩
abbrev cX12_gcd : ByteArray := prog_14_method_24_code
def yX12_gcd : MethodName := ⟨RX12, "gcd", "(JJ)J"⟩
abbrev cX12_determinant : ByteArray := prog_14_method_25_code
def yX12_determinant : MethodName := ⟨RX12, "determinant", "(I)J"⟩
abbrev cX12_placeOf : ByteArray := prog_14_method_26_code
def yX12_placeOf : MethodName := ⟨RX12, "placeOf", "(I)I"⟩
abbrev cX12_solve : ByteArray := prog_14_method_27_code
def yX12_solve : MethodName := ⟨RX12, "solve", "()V"⟩
abbrev cX12_layRow : ByteArray := prog_14_method_28_code
def yX12_layRow : MethodName := ⟨RX12, "layRow", "(II)V"⟩
abbrev cX12_comesChosen : ByteArray := prog_14_method_29_code
def yX12_comesChosen : MethodName := ⟨RX12, "comesChosen", "(II)I"⟩
abbrev cX12_chances : ByteArray := prog_14_method_30_code
def yX12_chances : MethodName := ⟨RX12, "chances", "(II)V"⟩
abbrev cX12_isBelow : ByteArray := prog_14_method_31_code
def yX12_isBelow : MethodName := ⟨RX12, "isBelow", "(JJJJ)Z"⟩
abbrev cX12_nextChoice : ByteArray := prog_14_method_32_code
def yX12_nextChoice : MethodName := ⟨RX12, "nextChoice", "(IZ)Z"⟩
abbrev cX12_countBits : ByteArray := prog_14_method_33_code
def yX12_countBits : MethodName := ⟨RX12, "countBits", "(I)I"⟩
abbrev cX12_worst : ByteArray := prog_14_method_34_code
def yX12_worst : MethodName := ⟨RX12, "worst", "(IIZ)V"⟩
abbrev cX12_findValues : ByteArray := prog_14_method_35_code
def yX12_findValues : MethodName := ⟨RX12, "findValues", "(Z)Z"⟩
abbrev cX12_value : ByteArray := prog_14_method_36_code
def yX12_value : MethodName := ⟨RX12, "value", "(IZI)J"⟩
abbrev cX12_findSum : ByteArray := prog_14_method_37_code
def yX12_findSum : MethodName := ⟨RX12, "findSum", "(I)V"⟩
abbrev cX12_isJust : ByteArray := prog_14_method_38_code
def yX12_isJust : MethodName := ⟨RX12, "isJust", "(II)Z"⟩
abbrev cX12_nearest : ByteArray := prog_14_method_39_code
def yX12_nearest : MethodName := ⟨RX12, "nearest", "(I)I"⟩
abbrev cX12_findDistances : ByteArray := prog_14_method_40_code
def yX12_findDistances : MethodName := ⟨RX12, "findDistances", "()V"⟩
abbrev cX12_refusal : ByteArray := prog_14_method_41_code
def yX12_refusal : MethodName := ⟨RX12, "refusal", "()J"⟩
abbrev cX12_choice : ByteArray := prog_14_method_42_code
def yX12_choice : MethodName := ⟨RX12, "choice", "(I)I"⟩
abbrev cX12_distance : ByteArray := prog_14_method_43_code
def yX12_distance : MethodName := ⟨RX12, "distance", "(I)I"⟩
abbrev cX12_sum : ByteArray := prog_14_method_44_code
def yX12_sum : MethodName := ⟨RX12, "sum", "(III)J"⟩
abbrev cX12_start : ByteArray := prog_14_method_45_code
def yX12_start : MethodName := ⟨RX12, "start", "()V"⟩
abbrev cX12_onwards : ByteArray := prog_14_method_46_code
def yX12_onwards : MethodName := ⟨RX12, "onwards", "(Z)V"⟩
abbrev cX12_within : ByteArray := prog_14_method_47_code
def yX12_within : MethodName := ⟨RX12, "within", "(IIZI)J"⟩
abbrev cX12_bound : ByteArray := prog_14_method_48_code
def yX12_bound : MethodName := ⟨RX12, "bound", "(II)I"⟩
abbrev cX12_sets : ByteArray := prog_14_method_49_code
def yX12_sets : MethodName := ⟨RX12, "sets", "(I)I"⟩
abbrev cX12_reachedFrom : ByteArray := prog_14_method_50_code
def yX12_reachedFrom : MethodName := ⟨RX12, "reachedFrom", "(II)I"⟩
abbrev cX12_reached : ByteArray := prog_14_method_51_code
def yX12_reached : MethodName := ⟨RX12, "reached", "(I)I"⟩
abbrev cX12_sureChosen : ByteArray := prog_14_method_52_code
def yX12_sureChosen : MethodName := ⟨RX12, "sureChosen", "(I)I"⟩
abbrev cX12_costsChosen : ByteArray := prog_14_method_53_code
def yX12_costsChosen : MethodName := ⟨RX12, "costsChosen", "(I)V"⟩
abbrev cX12_cost : ByteArray := prog_14_method_54_code
def yX12_cost : MethodName := ⟨RX12, "cost", "(II)J"⟩
abbrev cX12_together : ByteArray := prog_14_method_55_code
def yX12_together : MethodName := ⟨RX12, "together", "(II)I"⟩
abbrev cX12_staying : ByteArray := prog_14_method_56_code
def yX12_staying : MethodName := ⟨RX12, "staying", "(I)I"⟩
abbrev cX12_holeOf : ByteArray := prog_14_method_57_code
def yX12_holeOf : MethodName := ⟨RX12, "holeOf", "(I)I"⟩
abbrev cX12_findHoles : ByteArray := prog_14_method_58_code
def yX12_findHoles : MethodName := ⟨RX12, "findHoles", "()V"⟩
abbrev cX12_hole : ByteArray := prog_14_method_59_code
def yX12_hole : MethodName := ⟨RX12, "hole", "(II)I"⟩
abbrev cX12_partIn : ByteArray := prog_14_method_60_code
def yX12_partIn : MethodName := ⟨RX12, "partIn", "(II)I"⟩
abbrev cX12_areLike : ByteArray := prog_14_method_61_code
def yX12_areLike : MethodName := ⟨RX12, "areLike", "(II)Z"⟩
abbrev cX12_hasAll : ByteArray := prog_14_method_62_code
def yX12_hasAll : MethodName := ⟨RX12, "hasAll", "(II)Z"⟩
abbrev cX12_findClasses : ByteArray := prog_14_method_63_code
def yX12_findClasses : MethodName := ⟨RX12, "findClasses", "()I"⟩
abbrev cX12_twin : ByteArray := prog_14_method_64_code
def yX12_twin : MethodName := ⟨RX12, "twin", "(I)I"⟩
abbrev cX12_count : ByteArray := prog_14_method_65_code
def yX12_count : MethodName := ⟨RX12, "count", "(I)I"⟩
abbrev cX12_look : ByteArray := prog_14_method_66_code
def yX12_look : MethodName := ⟨RX12, "look", "(III)I"⟩
abbrev cX12_isShelf : ByteArray := prog_14_method_67_code
def yX12_isShelf : MethodName := ⟨RX12, "isShelf", "(I)Z"⟩
abbrev cX12_weightOf : ByteArray := prog_14_method_68_code
def yX12_weightOf : MethodName := ⟨RX12, "weightOf", "(I)I"⟩
abbrev cX12_keep : ByteArray := prog_14_method_69_code
def yX12_keep : MethodName := ⟨RX12, "keep", "(IIII)I"⟩
abbrev cX12_make : ByteArray := prog_14_method_70_code
def yX12_make : MethodName := ⟨RX12, "make", "(III)I"⟩
abbrev cX12_element : ByteArray := prog_14_method_71_code
def yX12_element : MethodName := ⟨RX12, "element", "(II)J"⟩
abbrev cX12_hasPlaces : ByteArray := prog_14_method_72_code
def yX12_hasPlaces : MethodName := ⟨RX12, "hasPlaces", "(III)Z"⟩
abbrev cX12_copy : ByteArray := prog_14_method_73_code
def yX12_copy : MethodName := ⟨RX12, "copy", "(IIIII)I"⟩
abbrev cX12_weight : ByteArray := prog_14_method_74_code
def yX12_weight : MethodName := ⟨RX12, "weight", "(I)J"⟩
abbrev cX12_ratio : ByteArray := prog_14_method_75_code
def yX12_ratio : MethodName := ⟨RX12, "ratio", "(II)J"⟩
def RJ6 : String := "java/lang/Integer"
abbrev cJ6_bitCount_0f7a4 : ByteArray := prog_18_method_49_code
def yJ6_bitCount_0f7a4 : MethodName := ⟨RJ6, "bitCount", "(I)I"⟩
def RJ0 : String := "java/lang/String"
def RJ10 : String := "java/lang/System"
def RJ7 : String := "java/util/Arrays"
abbrev cJ7_fill_d0a16 : ByteArray := prog_23_method_101_code
def yJ7_fill_d0a16 : MethodName := ⟨RJ7, "fill", "([JJ)V"⟩
abbrev cJ7_fill_53178 : ByteArray := prog_23_method_103_code
def yJ7_fill_53178 : MethodName := ⟨RJ7, "fill", "([II)V"⟩
def RL : String := "ChanceCourtLaw"
abbrev cL_element : ByteArray := method_3_code
def yL_element : MethodName := ⟨RL, "element", "(LChanceCourt;II[J)I"⟩
abbrev cL_law : ByteArray := code
def yL_law : MethodName := ⟨RL, "law", "([I)Z"⟩
abbrev vwCl : List vw_C := [(RX0, TX0, 7), (RX1, TX1, 5), (RX2, TX2, 4), (RX3, TX3, 6), (RX4, TX4, 5), (RX5, TX5, 8), (RX6, TX6, 5), (RX7, TX7, 6), (RX8, TX8, 11), (RX9, TX9, 3), (RX10, TX10, 5), (RX11, TX11, 10), (RX12, TX12, 38)]
end
section
/-! A SMALL MACHINE OVER LISTS (M1): references are places in a list of cells. What it does, the JVM does too (part 03). -/
/-- an instruction; its pc; its length; two numbers (field: class, place; call: method, how many it takes; jump: target); a constant; a switch's targets -/
abbrev xI : Type := Instr × Nat × Nat × Nat × Nat × Int × List Nat
abbrev aE : Type := (FieldType × vp_A) ⊕ (Nat × List Value)
abbrev aH : Type := List aE
abbrev aL : Type := List (Option Value)
/-- the script's reference -/
def sCR : Nat := 1000000
def a_get (L : aL) (k : Nat) : Option Value := match L[k]? with
  | some (some v) => some v
  | _ => none
def a_kill (L : aL) (k : Nat) : aL := match k with
  | 0 => L
  | j + 1 => match a_get L j with
    | some v => if v.category = 2 then L.set j none else L
    | none => L
def a_set1 (L : aL) (k : Nat) (v : Value) : aL := (a_kill L k).set k (some v)
def a_set2 (L : aL) (k : Nat) (v : Value) : aL := ((a_kill L k).set k (some v)).set (k + 1) none
/-- what changes the stack alone -/
def a_pure (x : Instr) (z : Int) (S : List Value) : Option (List Value) := match x with
  | .iconst n => some (.int (Int32.ofInt n) :: S)
  | .bipush n => some (.int (Int8.ofInt n).toInt32 :: S)
  | .sipush n => some (.int (Int16.ofInt n).toInt32 :: S)
  | .lconst n => some (.long (Int64.ofNat (n : Nat)) :: S)
  | .ldc _ => some (.int (Int32.ofInt z) :: S)
  | .ldc_w _ => some (.int (Int32.ofInt z) :: S)
  | .ldc2_w _ => some (.long (Int64.ofInt z) :: S)
  | .iadd => match S with | .int y :: .int x :: R => some (.int (x + y) :: R) | _ => none
  | .isub => match S with | .int y :: .int x :: R => some (.int (x - y) :: R) | _ => none
  | .imul => match S with | .int y :: .int x :: R => some (.int (x * y) :: R) | _ => none
  | .iand => match S with | .int y :: .int x :: R => some (.int (x &&& y) :: R) | _ => none
  | .ior => match S with | .int y :: .int x :: R => some (.int (x ||| y) :: R) | _ => none
  | .ixor => match S with | .int y :: .int x :: R => some (.int (x ^^^ y) :: R) | _ => none
  | .idiv => match S with | .int y :: .int x :: R => if y = 0 then none else some (.int (x / y) :: R) | _ => none
  | .irem => match S with | .int y :: .int x :: R => if y = 0 then none else some (.int (x - x / y * y) :: R) | _ => none
  | .ishl => match S with | .int y :: .int x :: R => some (.int (x <<< (y &&& 31)) :: R) | _ => none
  | .ishr => match S with | .int y :: .int x :: R => some (.int (x >>> (y &&& 31)) :: R) | _ => none
  | .iushr => match S with | .int y :: .int x :: R => some (.int (x.toUInt32 >>> (y.toUInt32 &&& Int32.toUInt32 31)).toInt32 :: R) | _ => none
  | .ladd => match S with | .long y :: .long x :: R => some (.long (x + y) :: R) | _ => none
  | .lsub => match S with | .long y :: .long x :: R => some (.long (x - y) :: R) | _ => none
  | .lmul => match S with | .long y :: .long x :: R => some (.long (x * y) :: R) | _ => none
  | .lor => match S with | .long y :: .long x :: R => some (.long (x ||| y) :: R) | _ => none
  | .ldiv => match S with | .long y :: .long x :: R => if y = 0 then none else some (.long (x / y) :: R) | _ => none
  | .lrem => match S with | .long y :: .long x :: R => if y = 0 then none else some (.long (x - x / y * y) :: R) | _ => none
  | .lneg => match S with | .long x :: R => some (.long (-x) :: R) | _ => none
  | .lshl => match S with | .int y :: .long x :: R => some (.long (x <<< (y.toInt64 &&& 63)) :: R) | _ => none
  | .lcmp => match S with | .long y :: .long x :: R => some (.int (lg_cmp x y) :: R) | _ => none
  | .i2l => match S with | .int x :: R => some (.long x.toInt64 :: R) | _ => none
  | .l2i => match S with | .long x :: R => some (.int x.toInt32 :: R) | _ => none
  | .dup => match S with | v :: R => if v.category = 1 then some (v :: v :: R) else none | _ => none
  | .pop => match S with | v :: R => if v.category = 1 then some R else none | _ => none
  | .dup2 => match S with | v :: w :: R => if v.category = 1 ∧ w.category = 1 then some (v :: w :: v :: w :: R) else if v.category = 2 then some (v :: v :: w :: R) else none | _ => none
  | _ => none
/-- what puts a local onto the stack -/
def a_load (x : Instr) (L : aL) : Option Value := match x with
  | .iload k => match a_get L k with | some (.int v) => some (.int v) | _ => none
  | .iload_n k => match a_get L k with | some (.int v) => some (.int v) | _ => none
  | .lload k => match a_get L k with | some (.long v) => some (.long v) | _ => none
  | .lload_n k => match a_get L k with | some (.long v) => some (.long v) | _ => none
  | .aload k => match a_get L k with | some (.ref v) => some (.ref v) | _ => none
  | .aload_n k => match a_get L k with | some (.ref v) => some (.ref v) | _ => none
  | _ => none
/-- what changes a local -/
def a_store (x : Instr) (L : aL) (S : List Value) : Option (aL × List Value) := match x with
  | .istore k => match S with | .int v :: R => if k < L.length then some (a_set1 L k (.int v), R) else none | _ => none
  | .istore_n k => match S with | .int v :: R => if (k : Nat) < L.length then some (a_set1 L k (.int v), R) else none | _ => none
  | .lstore k => match S with | .long v :: R => if k + 1 < L.length then some (a_set2 L k (.long v), R) else none | _ => none
  | .lstore_n k => match S with | .long v :: R => if (k : Nat) + 1 < L.length then some (a_set2 L k (.long v), R) else none | _ => none
  | .astore k => match S with | .ref v :: R => if k < L.length then some (a_set1 L k (.ref v), R) else none | _ => none
  | .astore_n k => match S with | .ref v :: R => if (k : Nat) < L.length then some (a_set1 L k (.ref v), R) else none | _ => none
  | .iinc k z => match a_get L k with | some (.int v) => if k < L.length then some (a_set1 L k (.int (v + Int32.ofInt z)), S) else none | _ => none
  | _ => none
/-- what jumps: whether, and the stack behind it -/
def a_br (x : Instr) (S : List Value) : Option (Bool × List Value) := match x with
  | .goto _ => some (true, S)
  | .ifCond .eq _ => match S with | .int v :: R => some (decide (v = 0), R) | _ => none
  | .ifCond .ne _ => match S with | .int v :: R => some (!decide (v = 0), R) | _ => none
  | .ifCond .lt _ => match S with | .int v :: R => some (decide (v < 0), R) | _ => none
  | .ifCond .ge _ => match S with | .int v :: R => some (decide (0 ≤ v), R) | _ => none
  | .ifCond .gt _ => match S with | .int v :: R => some (decide (0 < v), R) | _ => none
  | .ifCond .le _ => match S with | .int v :: R => some (decide (v ≤ 0), R) | _ => none
  | .if_icmp .eq _ => match S with | .int y :: .int x :: R => some (decide (x = y), R) | _ => none
  | .if_icmp .ne _ => match S with | .int y :: .int x :: R => some (!decide (x = y), R) | _ => none
  | .if_icmp .lt _ => match S with | .int y :: .int x :: R => some (decide (x < y), R) | _ => none
  | .if_icmp .ge _ => match S with | .int y :: .int x :: R => some (decide (y ≤ x), R) | _ => none
  | .if_icmp .gt _ => match S with | .int y :: .int x :: R => some (decide (y < x), R) | _ => none
  | .if_icmp .le _ => match S with | .int y :: .int x :: R => some (decide (x ≤ y), R) | _ => none
  | _ => none
/-- which target a switch takes: the first of the list is the default -/
def a_sw (lo : Int) (hi : Int) (tg : List Nat) (v : Int32) : Option Nat := if v.toInt < lo ∨ hi < v.toInt then tg[0]? else tg[(v.toInt - lo).toNat + 1]?
/-- the types of the fields, by class and place -/
def a_ty (ci k : Nat) : FieldType := match ci with
  | 0 => tyX0 k | 1 => tyX1 k | 2 => tyX2 k | 3 => tyX3 k | 4 => tyX4 k | 5 => tyX5 k | 6 => tyX6 k | 7 => tyX7 k | 8 => tyX8 k | 9 => tyX9 k | 10 => tyX10 k | 11 => tyX11 k | _ => tyX12 k
/-- a value that a field of the type takes as it is -/
def a_fit (ty : FieldType) (v : Value) : Bool := match v with
  | .int x => decide (narrow ty (.int x) = .int x) && fits ty (.int x)
  | .long x => fits ty (.long x)
  | .ref _ => fits ty .null
  | _ => false
def a_isRef (ty : FieldType) : Bool := match ty with
  | .object _ => true
  | .array _ => true
  | _ => false
def a_cell (h : aH) (n : Nat) : Option aE := if n = sCR then none else h[n]?
/-- reads of the heap -/
def a_read (xs : Nat × (Nat → Int32)) (x : xI) (S : List Value) (h : aH) : Option (List Value) := match x.1 with
  | .getfield _ => match S with
    | .ref n :: R => match a_cell h n with
      | some (.inr (c, fs)) => if c = x.2.2.2.1 then (match fs[x.2.2.2.2.1]? with | some v => some (v :: R) | none => none) else none
      | _ => none
    | _ => none
  | .iaload => match S with
    | .int j :: .ref n :: R => if n = sCR then (if ¬ (j < 0 ∨ xs.1 ≤ j.toNatClampNeg) then some (.int (xs.2 j.toNatClampNeg) :: R) else none) else match a_cell h n with
      | some (.inl (ty, len, .inl f)) => if ty = .int ∧ ¬ (j < 0 ∨ len ≤ j.toNatClampNeg) then some (.int (f j.toNatClampNeg) :: R) else none
      | _ => none
    | _ => none
  | .laload => match S with
    | .int j :: .ref n :: R => match a_cell h n with
      | some (.inl (ty, len, .inr (.inl f))) => if ty = .long ∧ ¬ (j < 0 ∨ len ≤ j.toNatClampNeg) then some (.long (f j.toNatClampNeg) :: R) else none
      | _ => none
    | _ => none
  | .aaload => match S with
    | .int j :: .ref n :: R => match a_cell h n with
      | some (.inl (ty, len, .inr (.inr (.inr (.inr f))))) => if a_isRef ty = true ∧ ¬ (j < 0 ∨ len ≤ j.toNatClampNeg) then (match f j.toNatClampNeg with | some k => some (.ref k :: R) | none => none) else none
      | _ => none
    | _ => none
  | .arraylength => match S with
    | .ref n :: R => if n = sCR then some (.int (Int32.ofNat xs.1) :: R) else match a_cell h n with
      | some (.inl (_, len, _)) => some (.int (Int32.ofNat len) :: R)
      | _ => none
    | _ => none
  | _ => none
def a_isCls (ci : Nat) (ty : FieldType) : Bool := match vwCl[ci]? with
  | some r => decide (ty = .object r.1)
  | none => false
/-- writes of the heap -/
def a_write (x : xI) (S : List Value) (h : aH) : Option (List Value × aH) := match x.1 with
  | .putfield _ => match S with
    | v :: .ref n :: R => match a_cell h n with
      | some (.inr (c, fs)) => if c = x.2.2.2.1 ∧ x.2.2.2.2.1 < fs.length ∧ a_fit (a_ty x.2.2.2.1 x.2.2.2.2.1) v = true then some (R, h.set n (.inr (c, fs.set x.2.2.2.2.1 v))) else none
      | _ => none
    | _ => none
  | .iastore => match S with
    | .int v :: .int j :: .ref n :: R => match a_cell h n with
      | some (.inl (ty, len, .inl f)) => if ty = .int ∧ ¬ (j < 0 ∨ len ≤ j.toNatClampNeg) then some (R, h.set n (.inl (ty, len, .inl (upd f j.toNatClampNeg v)))) else none
      | _ => none
    | _ => none
  | .lastore => match S with
    | .long v :: .int j :: .ref n :: R => match a_cell h n with
      | some (.inl (ty, len, .inr (.inl f))) => if ty = .long ∧ ¬ (j < 0 ∨ len ≤ j.toNatClampNeg) then some (R, h.set n (.inl (ty, len, .inr (.inl (vp_updL f j.toNatClampNeg v))))) else none
      | _ => none
    | _ => none
  | .aastore => match S with
    | .ref v :: .int j :: .ref n :: R => match a_cell h n, a_cell h v with
      | some (.inl (ty, len, .inr (.inr (.inr (.inr f))))), some (.inr (ci, _)) => if a_isCls ci ty = true ∧ ¬ (j < 0 ∨ len ≤ j.toNatClampNeg) then some (R, h.set n (.inl (ty, len, .inr (.inr (.inr (.inr (va_up f j.toNatClampNeg (some v)))))))) else none
      | _, _ => none
    | _ => none
  | _ => none
/-- an array of n zeros -/
def a_zero (ty : FieldType) (n : Nat) : Option vp_A := match ty with
  | .int => some (n, .inl (fun _ => 0))
  | .long => some (n, .inr (.inl (fun _ => 0)))
  | _ => none
/-- what a class's fields are at first -/
def a_new (ci : Nat) : Option (List Value) := match vwCl[ci]? with
  | some (_, _, N) => some ((List.range N).map (fun k => defaultValue (a_ty ci k)))
  | none => none
/-- what makes cells: the stack, the heap, how many cells and slots it takes -/
def a_make (x : xI) (S : List Value) (h : aH) : Option (List Value × aH × Nat × Nat) := if sCR ≤ h.length + 100 then none else match x.1 with
  | .new _ => match a_new x.2.2.2.1 with
    | some fs => some (.ref h.length :: S, h ++ [.inr (x.2.2.2.1, fs)], 1, fs.length)
    | none => none
  | .newarray ty => match S with
    | .int n :: R => if ¬ n < 0 ∧ n.toNatClampNeg * componentBytes (newarray.typeOf ty) ≤ 536870912 then (match a_zero (newarray.typeOf ty) n.toNatClampNeg with
      | some a => some (.ref h.length :: R, h ++ [.inl (newarray.typeOf ty, a)], 1, n.toNatClampNeg)
      | none => none) else none
    | _ => none
  | .anewarray _ => match S with
    | .int n :: R => match vwCl[x.2.2.2.1]? with
      | some r => if ¬ n < 0 ∧ n.toNatClampNeg * 4 ≤ 536870912 then some (.ref h.length :: R, h ++ [.inl (.object r.1, n.toNatClampNeg, .inr (.inr (.inr (.inr (fun _ => none)))))], 1, n.toNatClampNeg) else none
      | none => none
    | _ => none
  | .multianewarray _ _ => match S with
    | .int k :: .int n :: R => if ¬ n < 0 ∧ ¬ k < 0 ∧ n.toNatClampNeg ≤ 50 ∧ n.toNatClampNeg * 4 ≤ 536870912 ∧ k.toNatClampNeg * 8 ≤ 536870912 then
        some (.ref h.length :: R, (h ++ [.inl (.array .long, n.toNatClampNeg, .inr (.inr (.inr (.inr (fun i => if i < n.toNatClampNeg then some (h.length + 1 + i) else none)))))]) ++ (List.range n.toNatClampNeg).map (fun _ => .inl (.long, k.toNatClampNeg, .inr (.inl (fun _ => 0)))), 1 + n.toNatClampNeg, n.toNatClampNeg + n.toNatClampNeg * k.toNatClampNeg) else none
    | _ => none
  | _ => none
/-- System.arraycopy over ints and longs -/
def a_copy (S : List Value) (h : aH) : Option (List Value × aH) := match S with
  | .int n :: .int dp :: .ref d :: .int sp :: .ref a :: R => match a_cell h a, a_cell h d with
    | some (.inl (ty, n0, .inl f)), some (.inl (ty1, n1, .inl g)) => if ty = .int ∧ ty1 = .int ∧ ¬ sp < 0 ∧ ¬ dp < 0 ∧ ¬ n < 0 ∧ sp.toNatClampNeg + n.toNatClampNeg ≤ n0 ∧ dp.toNatClampNeg + n.toNatClampNeg ≤ n1 then some (R, h.set d (.inl (.int, n1, .inl (va_cpy f g sp.toNatClampNeg dp.toNatClampNeg n.toNatClampNeg)))) else none
    | some (.inl (ty, n0, .inr (.inl f))), some (.inl (ty1, n1, .inr (.inl g))) => if ty = .long ∧ ty1 = .long ∧ ¬ sp < 0 ∧ ¬ dp < 0 ∧ ¬ n < 0 ∧ sp.toNatClampNeg + n.toNatClampNeg ≤ n0 ∧ dp.toNatClampNeg + n.toNatClampNeg ≤ n1 then some (R, h.set d (.inl (.long, n1, .inr (.inl (va_cpy f g sp.toNatClampNeg dp.toNatClampNeg n.toNatClampNeg))))) else none
    | _, _ => none
  | _ => none
/-- how many words stand on a stack -/
def a_words (S : List Value) : Nat := (S.map fun v => v.category).sum
/-- an answer that a method of the type may give: the stack at its return -/
def a_ret (x : Instr) (rt : Option FieldType) (S : List Value) : Option (Option Value) := match x with
  | .return_ => if rt = none ∧ S = [] then some none else none
  | .ireturn => match S with | [.int v] => (match rt with | some ty => if narrow ty (.int v) = .int v then some (some (.int v)) else none | none => none) | _ => none
  | .lreturn => match S with | [.long v] => if rt = some .long then some (some (.long v)) else none | _ => none
  | .areturn => match S with | [.ref v] => (match rt with | some ty => if a_isRef ty = true then some (some (.ref v)) else none | none => none) | _ => none
  | _ => none
/-- a method: its name, code, locals, answer's type, how many arguments it takes, cells and slots that it may make, its instructions -/
abbrev aM : Type := MethodName × ByteArray × Nat × Option FieldType × Nat × (Nat × Nat) × List xI
/-- which arguments, as the locals begin -/
def a_args : List Value → aL
  | [] => []
  | v :: r => if v.category = 2 then some v :: none :: a_args r else some v :: a_args r
def a_locals (maxL : Nat) (vs : List Value) : aL := a_args vs ++ List.replicate (maxL - (a_args vs).length) none
/-- the receiver is an object of class z -/
def a_rcv (h : aH) (z : Int) (args : List Value) : Bool := match args with
  | .ref n :: _ => match a_cell h n with
    | some (.inr (ci, _)) => decide ((ci : Int) = z)
    | _ => false
  | _ => false
def a_isR (args : List Value) : Bool := match args with
  | .ref _ :: _ => true
  | _ => false
/-- calls that aren't methods of the table -/
def idInit : Nat := 1000
def idCopy : Nat := 1001
/-- THE MACHINE, goal first: from instruction i it comes to a return with Q. C: what calls do -/
def wp1 (xs : Nat × (Nat → Int32)) (C : Nat → List Value → aH → (Option Value → aH → Prop) → Prop) (MT : List aM) (tbl : List xI) (rt : Option FieldType) (Q : Option Value → aH → Prop) : Nat → Nat → aL → List Value → aH → Nat → Nat → Prop
  | 0, _, _, _, _, _, _ => False
  | n + 1, i, L, S, h, bc, bs => match tbl[i]? with
    | none => False
    | some x => match x.1 with
      | .invokevirtual _ => a_rcv h x.2.2.2.2.2.1 (S.take x.2.2.2.2.1).reverse = true ∧ a_words (S.drop x.2.2.2.2.1) ≤ 8 ∧ x.2.2.2.2.1 ≤ S.length ∧ ∃ M, MT[x.2.2.2.1]? = some M ∧ M.2.2.2.2.2.1.1 ≤ bc ∧ M.2.2.2.2.2.1.2 ≤ bs ∧ C x.2.2.2.1 (S.take x.2.2.2.2.1).reverse h (fun r h' => wp1 xs C MT tbl rt Q n (i + 1) L (r.toList ++ S.drop x.2.2.2.2.1) h' (bc - M.2.2.2.2.2.1.1) (bs - M.2.2.2.2.2.1.2))
      | .invokestatic _ => if x.2.2.2.1 = idCopy then (∃ R h', a_copy S h = some (R, h') ∧ a_words R ≤ 8 ∧ wp1 xs C MT tbl rt Q n (i + 1) L R h' bc bs) else
        a_words (S.drop x.2.2.2.2.1) ≤ 8 ∧ x.2.2.2.2.1 ≤ S.length ∧ ∃ M, MT[x.2.2.2.1]? = some M ∧ M.2.2.2.2.2.1.1 ≤ bc ∧ M.2.2.2.2.2.1.2 ≤ bs ∧ C x.2.2.2.1 (S.take x.2.2.2.2.1).reverse h (fun r h' => wp1 xs C MT tbl rt Q n (i + 1) L (r.toList ++ S.drop x.2.2.2.2.1) h' (bc - M.2.2.2.2.2.1.1) (bs - M.2.2.2.2.2.1.2))
      | .invokespecial _ => if x.2.2.2.1 = idInit then (∃ v R, S = .ref v :: R ∧ a_words R ≤ 8 ∧ wp1 xs C MT tbl rt Q n (i + 1) L R h bc bs) else
        a_isR (S.take x.2.2.2.2.1).reverse = true ∧ a_words (S.drop x.2.2.2.2.1) ≤ 8 ∧ x.2.2.2.2.1 ≤ S.length ∧ ∃ M, MT[x.2.2.2.1]? = some M ∧ M.2.2.2.2.2.1.1 ≤ bc ∧ M.2.2.2.2.2.1.2 ≤ bs ∧ C x.2.2.2.1 (S.take x.2.2.2.2.1).reverse h (fun r h' => wp1 xs C MT tbl rt Q n (i + 1) L (r.toList ++ S.drop x.2.2.2.2.1) h' (bc - M.2.2.2.2.2.1.1) (bs - M.2.2.2.2.2.1.2))
      | .tableswitch _ lo hi _ => match S with
        | .int v :: R => (match a_sw lo hi x.2.2.2.2.2.2 v with | some j => wp1 xs C MT tbl rt Q n j L R h bc bs | none => False)
        | _ => False
      | _ => match a_ret x.1 rt S with
        | some r => Q r h
        | none => match a_pure x.1 x.2.2.2.2.2.1 S with
          | some R => wp1 xs C MT tbl rt Q n (i + 1) L R h bc bs
          | none => match a_load x.1 L with
            | some v => wp1 xs C MT tbl rt Q n (i + 1) L (v :: S) h bc bs
            | none => match a_store x.1 L S with
              | some (L', R) => wp1 xs C MT tbl rt Q n (i + 1) L' R h bc bs
              | none => match a_br x.1 S with
                | some (b, R) => wp1 xs C MT tbl rt Q n (if b then x.2.2.2.1 else i + 1) L R h bc bs
                | none => match a_read xs x S h with
                  | some R => wp1 xs C MT tbl rt Q n (i + 1) L R h bc bs
                  | none => match a_write x S h with
                    | some (R, h') => wp1 xs C MT tbl rt Q n (i + 1) L R h' bc bs
                    | none => match a_make x S h with
                      | some (R, h', kc, ks) => kc ≤ bc ∧ ks ≤ bs ∧ wp1 xs C MT tbl rt Q n (i + 1) L R h' (bc - kc) (bs - ks)
                      | none => False
/-- a call of method j, at most d calls deep; P: what is known of some methods otherwise -/
def call1 (xs : Nat × (Nat → Int32)) (MT : List aM) (P : Nat → Nat → List Value → aH → (Option Value → aH → Prop) → Prop) : Nat → Nat → List Value → aH → (Option Value → aH → Prop) → Prop
  | 0, j, args, h, Q => P 0 j args h Q
  | d + 1, j, args, h, Q => P (d + 1) j args h Q ∨ ∃ M, MT[j]? = some M ∧ args.length = M.2.2.2.2.1 ∧ (a_args args).length ≤ M.2.2.1 ∧ ∃ n, wp1 xs (call1 xs MT P d) MT M.2.2.2.2.2.2 M.2.2.2.1 Q n 0 (a_locals M.2.2.1 args) [] h M.2.2.2.2.2.1.1 M.2.2.2.2.2.1.2
end
section
/-! WHAT M1'S STATES ARE IN THE JVM -/
def RV (b : Nat) (ad : List Nat) (v v' : Value) : Prop := match v with
  | .ref n => if n = sCR then v' = .ref b else ∃ a, ad[n]? = some a ∧ v' = .ref a
  | w => v' = w
def RVs (b : Nat) (ad : List Nat) : List Value → List Value → Prop
  | [], S' => S' = []
  | v :: S, S' => ∃ v' R', S' = v' :: R' ∧ RV b ad v v' ∧ RVs b ad S R'
theorem RV_ref {b : Nat} {ad : List Nat} {n : Nat} {v' : Value} : RV b ad (.ref n) v' ↔ (if n = sCR then v' = .ref b else ∃ a, ad[n]? = some a ∧ v' = .ref a) := Iff.rfl
theorem RV_int {b : Nat} {ad : List Nat} {x : Int32} {v' : Value} (h : RV b ad (.int x) v') : v' = .int x := h
theorem RV_long {b : Nat} {ad : List Nat} {x : Int64} {v' : Value} (h : RV b ad (.long x) v') : v' = .long x := h
theorem pf_at {α : Type} {a r : List α} {n : Nat} {x : α} (h : a[n]? = some x) : (a ++ r)[n]? = some x := by
  rw [List.getElem?_append_left (List.getElem?_eq_some_iff.mp h).1]; exact h
theorem RV.mono {b : Nat} {ad r : List Nat} {v v' : Value} (h : RV b ad v v') : RV b (ad ++ r) v v' := by
  cases v with
  | ref n =>
    rw [RV_ref] at h ⊢
    by_cases hn : n = sCR
    · rw [if_pos hn] at h ⊢; exact h
    · rw [if_neg hn] at h ⊢
      obtain ⟨a, h1, h2⟩ := h
      exact ⟨a, pf_at h1, h2⟩
  | _ => exact h
theorem RV.cat {b : Nat} {ad : List Nat} {v v' : Value} (h : RV b ad v v') : v'.category = v.category := by
  cases v with
  | ref n =>
    rw [RV_ref] at h
    by_cases hn : n = sCR
    · rw [if_pos hn] at h; rw [h]; rfl
    · rw [if_neg hn] at h
      obtain ⟨a, -, h2⟩ := h
      rw [h2]; rfl
  | _ => rw [show v' = _ from h]
theorem RV.isRef {b : Nat} {ad : List Nat} {n : Nat} {v' : Value} (h : RV b ad (.ref n) v') : ∃ a, v' = .ref a := by
  rw [RV_ref] at h
  by_cases hn : n = sCR
  · rw [if_pos hn] at h; exact ⟨_, h⟩
  · rw [if_neg hn] at h
    obtain ⟨a, -, h2⟩ := h
    exact ⟨a, h2⟩
theorem RVs.mono {b : Nat} {ad r : List Nat} : ∀ {S S' : List Value}, RVs b ad S S' → RVs b (ad ++ r) S S'
  | [], _, h => h
  | _ :: _, _, ⟨v', R', h1, h2, h3⟩ => ⟨v', R', h1, h2.mono, h3.mono⟩
theorem RVs.words {b : Nat} {ad : List Nat} : ∀ {S S' : List Value}, RVs b ad S S' → (S'.map fun v => v.category).sum = a_words S
  | [], _, h => by rw [show _ = [] from h]; rfl
  | v :: S, _, ⟨v', R', h1, h2, h3⟩ => by
    subst h1
    simp only [a_words, List.map_cons, List.sum_cons]
    rw [h2.cat, h3.words]; rfl
theorem RVs.length {b : Nat} {ad : List Nat} : ∀ {S S' : List Value}, RVs b ad S S' → S'.length = S.length
  | [], _, h => by rw [show _ = [] from h]
  | v :: S, _, ⟨v', R', h1, h2, h3⟩ => by subst h1; simp [h3.length]
theorem RVs.drop {b : Nat} {ad : List Nat} : ∀ (k : Nat) {S S' : List Value}, RVs b ad S S' → RVs b ad (S.drop k) (S'.drop k)
  | 0, _, _, h => h
  | k + 1, [], _, h => by rw [show _ = [] from h]; exact (rfl : RVs b ad [] [])
  | k + 1, v :: S, _, ⟨v', R', h1, h2, h3⟩ => by subst h1; exact h3.drop k
theorem RVs.take {b : Nat} {ad : List Nat} : ∀ (k : Nat) {S S' : List Value}, RVs b ad S S' → RVs b ad (S.take k) (S'.take k)
  | 0, _, _, h => by rw [List.take_zero, List.take_zero]; exact rfl
  | k + 1, [], _, h => by rw [show _ = [] from h]; exact (rfl : RVs b ad [] [])
  | k + 1, v :: S, _, ⟨v', R', h1, h2, h3⟩ => by subst h1; exact ⟨v', R'.take k, rfl, h2, h3.take k⟩
theorem RVs.app {b : Nat} {ad : List Nat} : ∀ {S S' T T' : List Value}, RVs b ad S S' → RVs b ad T T' → RVs b ad (S ++ T) (S' ++ T')
  | [], _, T, T', h, k => by rw [show _ = [] from h]; exact k
  | v :: S, _, T, T', ⟨v', R', h1, h2, h3⟩, k => by subst h1; exact ⟨v', R' ++ T', rfl, h2, h3.app k⟩
theorem RVs.rev {b : Nat} {ad : List Nat} : ∀ {S S' : List Value}, RVs b ad S S' → RVs b ad S.reverse S'.reverse
  | [], _, h => by rw [show _ = [] from h]; exact rfl
  | v :: S, _, ⟨v', R', h1, h2, h3⟩ => by
    subst h1
    rw [List.reverse_cons, List.reverse_cons]
    exact h3.rev.app ⟨v', [], rfl, h2, rfl⟩
theorem RVs.at {b : Nat} {ad : List Nat} : ∀ {S S' : List Value} {k : Nat} {v : Value}, RVs b ad S S' → S[k]? = some v → ∃ v', S'[k]? = some v' ∧ RV b ad v v'
  | [], _, _, _, _, h => by simp at h
  | w :: S, _, 0, v, ⟨v', R', h1, h2, h3⟩, h => by subst h1; rw [List.getElem?_cons_zero] at h; cases h; exact ⟨v', rfl, h2⟩
  | w :: S, _, k + 1, v, ⟨v', R', h1, h2, h3⟩, h => by subst h1; rw [List.getElem?_cons_succ] at h ⊢; exact h3.at h
theorem RVs.set {b : Nat} {ad : List Nat} : ∀ {S S' : List Value} (k : Nat) {v v' : Value}, RVs b ad S S' → RV b ad v v' → RVs b ad (S.set k v) (S'.set k v')
  | [], _, _, _, _, h, _ => by rw [show _ = [] from h]; exact (rfl : RVs b ad [] [])
  | w :: S, _, 0, v, v', ⟨w', R', h1, h2, h3⟩, h => by subst h1; exact ⟨v', R', rfl, h, h3⟩
  | w :: S, _, k + 1, v, v', ⟨w', R', h1, h2, h3⟩, h => by subst h1; exact ⟨w', R'.set k v', rfl, h2, h3.set k h⟩
theorem RVs.c1 {b : Nat} {ad : List Nat} {v : Value} {S S' : List Value} (h : RVs b ad (v :: S) S') : ∃ v' R', S' = v' :: R' ∧ RV b ad v v' ∧ RVs b ad S R' := h
/-- the locals -/
def LR (b : Nat) (ad : List Nat) (L : aL) (ls : Array Slot) : Prop := ls.size = L.length ∧ lv_wf ls ∧ ∀ (k : Nat) (v : Value), a_get L k = some v → ∃ v', ls[k]? = some (.val v') ∧ RV b ad v v'
theorem LR.mono {b : Nat} {ad r : List Nat} {L : aL} {ls : Array Slot} (h : LR b ad L ls) : LR b (ad ++ r) L ls := ⟨h.1, h.2.1, fun k v hk => by obtain ⟨v', h1, h2⟩ := h.2.2 k v hk; exact ⟨v', h1, h2.mono⟩⟩
theorem a_get_lt {L : aL} {k : Nat} {v : Value} (h : a_get L k = some v) : L[k]? = some (some v) := by
  unfold a_get at h
  split at h <;> simp_all
theorem a_get_some {L : aL} {k : Nat} {v : Value} (h : L[k]? = some (some v)) : a_get L k = some v := by unfold a_get; rw [h]
theorem a_kill_len (L : aL) (k : Nat) : (a_kill L k).length = L.length := by
  unfold a_kill
  split
  · rfl
  · split
    · split <;> simp
    · rfl
theorem a_kill_get {L : aL} {k j : Nat} {v : Value} (h : a_get (a_kill L k) j = some v) : a_get L j = some v ∧ ¬ (j + 1 = k ∧ v.category = 2) := by
  unfold a_kill at h
  split at h
  · exact ⟨h, by omega⟩
  · rename_i i
    split at h
    · rename_i w hw
      split at h
      · rename_i hc
        by_cases hj : j = i
        · subst hj
          have := a_get_lt h
          rw [List.getElem?_set] at this
          simp at this
        · have h2 := a_get_lt h
          rw [List.getElem?_set_ne (Ne.symm hj)] at h2
          exact ⟨a_get_some h2, by omega⟩
      · rename_i hc
        refine ⟨h, fun q => ?_⟩
        have e : j = i := by omega
        subst e
        rw [hw] at h
        cases h
        exact hc q.2
    · rename_i hw
      refine ⟨h, fun q => ?_⟩
      have e : j = i := by omega
      subst e
      rw [hw] at h
      cases h
theorem a_set1_len (L : aL) (k : Nat) (v : Value) : (a_set1 L k v).length = L.length := by unfold a_set1; rw [List.length_set, a_kill_len]
theorem a_set2_len (L : aL) (k : Nat) (v : Value) : (a_set2 L k v).length = L.length := by unfold a_set2; rw [List.length_set, List.length_set, a_kill_len]
theorem a_set1_get {L : aL} {k j : Nat} {v w : Value} (h : a_get (a_set1 L k v) j = some w) : (j = k ∧ w = v) ∨ (j ≠ k ∧ a_get L j = some w ∧ ¬ (j + 1 = k ∧ w.category = 2)) := by
  unfold a_set1 at h
  by_cases hj : j = k
  · subst hj
    have h2 := a_get_lt h
    rw [List.getElem?_set] at h2
    simp only [if_true] at h2
    split at h2
    · cases h2; exact Or.inl ⟨rfl, rfl⟩
    · cases h2
  · have h2 := a_get_lt h
    rw [List.getElem?_set_ne (Ne.symm hj)] at h2
    exact Or.inr ⟨hj, a_kill_get (a_get_some h2)⟩
theorem a_set2_get {L : aL} {k j : Nat} {v w : Value} (h : a_get (a_set2 L k v) j = some w) : (j = k ∧ w = v) ∨ (j ≠ k ∧ j ≠ k + 1 ∧ a_get L j = some w ∧ ¬ (j + 1 = k ∧ w.category = 2)) := by
  unfold a_set2 at h
  have h2 := a_get_lt h
  by_cases hk : j = k + 1
  · subst hk
    rw [List.getElem?_set] at h2
    simp at h2
  · rw [List.getElem?_set_ne (Ne.symm hk)] at h2
    rcases a_set1_get (L := L) (k := k) (v := v) (a_get_some h2) with q | q
    · exact Or.inl q
    · exact Or.inr ⟨q.1, hk, q.2⟩
/-- all that the locals hold -/
def lvAll (ls : Array Slot) : List (Nat × Value) := (List.range ls.size).filterMap (fun (k : Nat) => match (ls[k]? : Option Slot) with
  | some (Slot.val v) => some (k, v)
  | _ => none)
theorem lvAll_mem {ls : Array Slot} {k : Nat} {v : Value} : (k, v) ∈ lvAll ls ↔ ls[k]? = some (.val v) := by
  unfold lvAll
  rw [List.mem_filterMap]
  constructor
  · rintro ⟨i, -, h⟩
    split at h
    · rename_i w hw
      cases h
      exact hw
    · cases h
  · intro h
    refine ⟨k, List.mem_range.mpr (Array.getElem?_eq_some_iff.mp h).1, ?_⟩
    rw [h]
theorem lvAll_has {ls : Array Slot} (h : lv_wf ls) : lv_has ls ls.size (lvAll ls) := ⟨rfl, h, fun q hq => lvAll_mem.mp hq⟩
theorem LR.set1 {b : Nat} {ad : List Nat} {L : aL} {ls ls' : Array Slot} {k : Nat} {v v' : Value} (h : LR b ad L ls) (hv : RV b ad v v')
    (h' : lv_has ls' ls.size ((k, v') :: (lvAll ls).filter (fun q => !(q.1 == k) && !(q.1 + 1 == k && q.2.category == 2)))) : LR b ad (a_set1 L k v) ls' := by
  refine ⟨by rw [a_set1_len, ← h.1]; exact h'.1, h'.2.1, fun j w hj => ?_⟩
  rcases a_set1_get hj with ⟨h1, h2⟩ | ⟨h1, h2, h3⟩
  · subst h1; subst h2
    exact ⟨v', h'.2.2 (j, v') List.mem_cons_self, hv⟩
  · obtain ⟨w', h4, h5⟩ := h.2.2 j w h2
    refine ⟨w', h'.2.2 (j, w') (List.mem_cons_of_mem _ (List.mem_filter.mpr ⟨lvAll_mem.mpr h4, ?_⟩)), h5⟩
    simp only [Bool.and_eq_true, Bool.not_eq_true', beq_eq_false_iff_ne, ne_eq, Bool.and_eq_false_iff]
    refine ⟨h1, ?_⟩
    by_cases q : j + 1 = k
    · exact Or.inr (by rw [h5.cat]; exact fun z => h3 ⟨q, z⟩)
    · exact Or.inl q
theorem LR.set2 {b : Nat} {ad : List Nat} {L : aL} {ls ls' : Array Slot} {k : Nat} {v v' : Value} (h : LR b ad L ls) (hv : RV b ad v v')
    (h' : lv_has ls' ls.size ((k, v') :: (lvAll ls).filter (fun q => !(q.1 == k) && (!(q.1 == k + 1) && !(q.1 + 1 == k && q.2.category == 2))))) : LR b ad (a_set2 L k v) ls' := by
  refine ⟨by rw [a_set2_len, ← h.1]; exact h'.1, h'.2.1, fun j w hj => ?_⟩
  rcases a_set2_get hj with ⟨h1, h2⟩ | ⟨h1, h0, h2, h3⟩
  · subst h1; subst h2
    exact ⟨v', h'.2.2 (j, v') List.mem_cons_self, hv⟩
  · obtain ⟨w', h4, h5⟩ := h.2.2 j w h2
    refine ⟨w', h'.2.2 (j, w') (List.mem_cons_of_mem _ (List.mem_filter.mpr ⟨lvAll_mem.mpr h4, ?_⟩)), h5⟩
    simp only [Bool.and_eq_true, Bool.not_eq_true', beq_eq_false_iff_ne, ne_eq, Bool.and_eq_false_iff]
    refine ⟨h1, h0, ?_⟩
    by_cases q : j + 1 = k
    · exact Or.inr (by rw [h5.cat]; exact fun z => h3 ⟨q, z⟩)
    · exact Or.inl q
/-- the cells -/
def AR (b : Nat) (ad : List Nat) (n : Nat) (c c' : (Nat → Int32) ⊕ (Nat → Int64) ⊕ (Nat → UInt32) ⊕ (Nat → UInt64) ⊕ (Nat → Option Nat)) : Prop := match c, c' with
  | .inl f, .inl g => f = g
  | .inr (.inl f), .inr (.inl g) => f = g
  | .inr (.inr (.inr (.inr f))), .inr (.inr (.inr (.inr g))) => ∀ i, i < n → match f i with
    | none => g i = none
    | some k => ∃ a, RV b ad (.ref k) (.ref a) ∧ g i = some a
  | _, _ => False
def CR (b : Nat) (ad : List Nat) (tys : List (ClassId × FieldType)) (e : aE) (x : va_E) : Prop := match e with
  | .inl (ty, n, c) => ∃ cA c', x = .inl (cA, n, c') ∧ (∃ t0 : Nat, tys[t0]? = some (cA, ty)) ∧ AR b ad n c c'
  | .inr (ci, fs) => ∃ fs', x = .inr (ci, fs') ∧ RVs b ad fs fs'
def WR (b : Nat) (ad : List Nat) (tys : List (ClassId × FieldType)) (h : aH) (ws : va_W) : Prop := ws.length = h.length ∧ ws.map Prod.fst = ad ∧ ∀ (i : Nat) (e : aE), h[i]? = some e → ∃ a x, ws[i]? = some (a, x) ∧ ad[i]? = some a ∧ CR b ad tys e x
def World (D : va_G) (A : Nat → Prop) (b : Nat) (ad : List Nat) (h : aH) (H : Heap) (s : State) : Prop := ∃ (ws : va_W) (tys : List (ClassId × FieldType)), va_P D vwCl ws H ∧ va_D A ws ∧ va_K D vwCl tys s ∧ WR b ad tys h ws
theorem AR.mono {b : Nat} {ad r : List Nat} {n : Nat} {c c' : (Nat → Int32) ⊕ (Nat → Int64) ⊕ (Nat → UInt32) ⊕ (Nat → UInt64) ⊕ (Nat → Option Nat)} (h : AR b ad n c c') : AR b (ad ++ r) n c c' := by
  unfold AR at h ⊢
  split at h
  · exact h
  · exact h
  · intro i hi
    have h1 := h i hi
    split at h1
    · exact h1
    · rename_i k q
      obtain ⟨a, h2, h3⟩ := h1
      exact ⟨a, h2.mono, h3⟩
  · exact h
theorem CR.mono {b : Nat} {ad r : List Nat} {tys ty2 : List (ClassId × FieldType)} {e : aE} {x : va_E} (h : CR b ad tys e x) : CR b (ad ++ r) (tys ++ ty2) e x := by
  obtain ⟨ty, n, c⟩ | ⟨ci, fs⟩ := e
  · obtain ⟨cA, c', h1, ⟨t0, h2⟩, h3⟩ := h
    exact ⟨cA, c', h1, ⟨t0, pf_at h2⟩, h3.mono⟩
  · obtain ⟨fs', h1, h2⟩ := h
    exact ⟨fs', h1, h2.mono⟩
theorem WR.ad_len {b : Nat} {ad : List Nat} {tys : List (ClassId × FieldType)} {h : aH} {ws : va_W} (w : WR b ad tys h ws) : ad.length = h.length := by rw [← w.2.1, List.length_map, w.1]
/-- one cell anew -/
theorem WR.set {b : Nat} {ad : List Nat} {tys : List (ClassId × FieldType)} {h : aH} {ws : va_W} (w : WR b ad tys h ws) {n a : Nat} {x x' : va_E} {e' : aE} (hn : ws[n]? = some (a, x)) (hc : CR b ad tys e' x') : WR b ad tys (h.set n e') (ws.set n (a, x')) := by
  have hl := (List.getElem?_eq_some_iff.mp hn).1
  refine ⟨by rw [List.length_set, List.length_set]; exact w.1, ?_, fun i e hi => ?_⟩
  · rw [← w.2.1, List.map_set]
    apply List.ext_getElem?
    intro i
    by_cases hi : i = n
    · subst hi
      rw [List.getElem?_set_self (by simpa using hl), List.getElem?_map, hn]; rfl
    · rw [List.getElem?_set_ne (Ne.symm hi)]
  · by_cases hin : i = n
    · subst hin
      rw [List.getElem?_set_self (by rw [← w.1]; exact hl)] at hi
      cases hi
      refine ⟨a, x', by rw [List.getElem?_set_self hl], ?_, hc⟩
      rw [← w.2.1, List.getElem?_map, hn]; rfl
    · rw [List.getElem?_set_ne (Ne.symm hin)] at hi ⊢
      exact w.2.2 i e hi
/-- one cell more -/
theorem WR.push {b : Nat} {ad : List Nat} {tys ty2 : List (ClassId × FieldType)} {h : aH} {ws : va_W} (w : WR b ad tys h ws) {a : Nat} {x : va_E} {e : aE} (hc : CR b (ad ++ [a]) (tys ++ ty2) e x) : WR b (ad ++ [a]) (tys ++ ty2) (h ++ [e]) (ws ++ [(a, x)]) := by
  have hal := w.ad_len
  refine ⟨by simp [w.1], by rw [List.map_append, w.2.1]; rfl, fun i e1 hi => ?_⟩
  by_cases hlt : i < h.length
  · rw [List.getElem?_append_left hlt] at hi
    obtain ⟨a1, x1, h1, h2, h3⟩ := w.2.2 i e1 hi
    exact ⟨a1, x1, pf_at h1, pf_at h2, h3.mono⟩
  · have hl2 := (List.getElem?_eq_some_iff.mp hi).1
    rw [List.length_append] at hl2
    have e0 : i = h.length := by simp at hl2; omega
    subst e0
    rw [List.getElem?_append_right (Nat.le_refl _), Nat.sub_self] at hi
    cases hi
    refine ⟨a, x, ?_, ?_, hc⟩
    · rw [← w.1, List.getElem?_append_right (Nat.le_refl _), Nat.sub_self]; rfl
    · rw [← hal, List.getElem?_append_right (Nat.le_refl _), Nat.sub_self]; rfl
end
section
/-! M1'S STEPS ARE THE JVM'S (1): stack, locals, jumps -/
def a_len (x : Instr) : Nat := match x with
  | .bipush _ => 2 | .sipush _ => 3 | .ldc _ => 2 | .ldc_w _ => 3 | .ldc2_w _ => 3
  | .iload _ => 2 | .lload _ => 2 | .aload _ => 2 | .istore _ => 2 | .lstore _ => 2 | .astore _ => 2 | .iinc _ _ => 3
  | .goto _ => 3 | .ifCond _ _ => 3 | .if_icmp _ _ => 3
  | .getfield _ => 3 | .putfield _ => 3 | .invokevirtual _ => 3 | .invokestatic _ => 3 | .invokespecial _ => 3
  | .new _ => 3 | .newarray _ => 2 | .anewarray _ => 3 | .multianewarray _ _ => 4
  | _ => 1
/-- what the constant pool must hold -/
def a_const (own : String) (x : Instr) (z : Int) : Option Cond := match x with
  | .ldc k => some (.constant own k (Int32.ofInt z))
  | .ldc_w k => some (.constant own k (Int32.ofInt z))
  | .ldc2_w k => some (.constantLong own k (Int64.ofInt z))
  | _ => none
theorem RVs.i1 {b : Nat} {ad : List Nat} {x : Int32} {S S' : List Value} (h : RVs b ad (.int x :: S) S') : ∃ R', S' = .int x :: R' ∧ RVs b ad S R' := by
  obtain ⟨v', R', h1, h2, h3⟩ := h
  rw [show v' = .int x from h2] at h1
  exact ⟨R', h1, h3⟩
theorem RVs.l1 {b : Nat} {ad : List Nat} {x : Int64} {S S' : List Value} (h : RVs b ad (.long x :: S) S') : ∃ R', S' = .long x :: R' ∧ RVs b ad S R' := by
  obtain ⟨v', R', h1, h2, h3⟩ := h
  rw [show v' = .long x from h2] at h1
  exact ⟨R', h1, h3⟩
theorem RVs.i2 {b : Nat} {ad : List Nat} {x y : Int32} {S S' : List Value} (h : RVs b ad (.int y :: .int x :: S) S') : ∃ R', S' = .int y :: .int x :: R' ∧ RVs b ad S R' := by
  obtain ⟨R1, h1, h2⟩ := h.i1
  obtain ⟨R2, h3, h4⟩ := h2.i1
  subst h3
  exact ⟨R2, h1, h4⟩
theorem RVs.l2 {b : Nat} {ad : List Nat} {x y : Int64} {S S' : List Value} (h : RVs b ad (.long y :: .long x :: S) S') : ∃ R', S' = .long y :: .long x :: R' ∧ RVs b ad S R' := by
  obtain ⟨R1, h1, h2⟩ := h.l1
  obtain ⟨R2, h3, h4⟩ := h2.l1
  subst h3
  exact ⟨R2, h1, h4⟩
theorem RVs.il {b : Nat} {ad : List Nat} {x : Int64} {y : Int32} {S S' : List Value} (h : RVs b ad (.int y :: .long x :: S) S') : ∃ R', S' = .int y :: .long x :: R' ∧ RVs b ad S R' := by
  obtain ⟨R1, h1, h2⟩ := h.i1
  obtain ⟨R2, h3, h4⟩ := h2.l1
  subst h3
  exact ⟨R2, h1, h4⟩
section SA
variable {p : Program} {l : Launch} {e : Env} {R : Room} {s : State} {m : MethodId} {args : Array Value} {below : List Frame} {meth : Method} {c : Code} {H : Heap} {locs : List Loc} {cells slots : Nat} {Q : State → Prop}
variable {cc : ByteArray} {pc : Nat} {ls : Array Slot} {b : Nat} {ad : List Nat} {own : String}

set_option maxHeartbeats 4000000 in
theorem s_pure {x : Instr} {z : Int} {S T S' : List Value} (hx : p.tables.exec = Jvm.exec) (hb : c.code = cc) (hown : s.vm.findClass own = some m.cls) (hd : decode cc pc = .ok (x, a_len x)) (hc : ∀ w, a_const own x z = some w → w.before args s = true) (hp : a_pure x z S = some T) (hS : RVs b ad S S') :
    ∃ T', RVs b ad T T' ∧ (W p l e R s m args below meth c H locs cells slots Q (F0 m (pc + a_len x) ls T') → W p l e R s m args below meth c H locs cells slots Q (F0 m pc ls S')) := by
  cases x <;> try (simp only [a_pure, reduceCtorEq] at hp; done)
  case iconst k =>
    cases hp
    exact ⟨_, ⟨_, _, rfl, rfl, hS⟩, fun k => lv_iconst hx hb hd rfl k⟩
  case bipush k =>
    cases hp
    exact ⟨_, ⟨_, _, rfl, rfl, hS⟩, fun k => lv_bipush hx hb hd rfl k⟩
  case sipush k =>
    cases hp
    exact ⟨_, ⟨_, _, rfl, rfl, hS⟩, fun k => lv_sipush hx hb hd rfl k⟩
  case lconst k =>
    cases hp
    exact ⟨_, ⟨_, _, rfl, rfl, hS⟩, fun k => lv_lconst hx hb hd rfl k⟩
  case ldc k =>
    cases hp
    exact ⟨_, ⟨_, _, rfl, rfl, hS⟩, fun k => lv_ldc hx hb hown (hc _ rfl) hd k⟩
  case ldc_w k =>
    cases hp
    exact ⟨_, ⟨_, _, rfl, rfl, hS⟩, fun k => lv_ldcw hx hb hown (hc _ rfl) hd k⟩
  case ldc2_w k =>
    cases hp
    exact ⟨_, ⟨_, _, rfl, rfl, hS⟩, fun k => lv_ldc2 hx hb hown (hc _ rfl) hd k⟩
  case iadd =>
    simp only [a_pure] at hp
    split at hp
    · cases hp
      obtain ⟨R', rfl, h⟩ := hS.i2
      exact ⟨_, ⟨_, _, rfl, rfl, h⟩, fun k => lv_iadd hx hb hd k⟩
    · cases hp
  case isub =>
    simp only [a_pure] at hp
    split at hp
    · cases hp
      obtain ⟨R', rfl, h⟩ := hS.i2
      exact ⟨_, ⟨_, _, rfl, rfl, h⟩, fun k => lv_isub hx hb hd k⟩
    · cases hp
  case imul =>
    simp only [a_pure] at hp
    split at hp
    · cases hp
      obtain ⟨R', rfl, h⟩ := hS.i2
      exact ⟨_, ⟨_, _, rfl, rfl, h⟩, fun k => lv_imul hx hb hd k⟩
    · cases hp
  case iand =>
    simp only [a_pure] at hp
    split at hp
    · cases hp
      obtain ⟨R', rfl, h⟩ := hS.i2
      exact ⟨_, ⟨_, _, rfl, rfl, h⟩, fun k => lv_iand hx hb hd k⟩
    · cases hp
  case ior =>
    simp only [a_pure] at hp
    split at hp
    · cases hp
      obtain ⟨R', rfl, h⟩ := hS.i2
      exact ⟨_, ⟨_, _, rfl, rfl, h⟩, fun k => lv_ior hx hb hd k⟩
    · cases hp
  case ixor =>
    simp only [a_pure] at hp
    split at hp
    · cases hp
      obtain ⟨R', rfl, h⟩ := hS.i2
      exact ⟨_, ⟨_, _, rfl, rfl, h⟩, fun k => lv_ixor hx hb hd k⟩
    · cases hp
  case ishl =>
    simp only [a_pure] at hp
    split at hp
    · cases hp
      obtain ⟨R', rfl, h⟩ := hS.i2
      exact ⟨_, ⟨_, _, rfl, rfl, h⟩, fun k => lv_ishl hx hb hd k⟩
    · cases hp
  case ishr =>
    simp only [a_pure] at hp
    split at hp
    · cases hp
      obtain ⟨R', rfl, h⟩ := hS.i2
      exact ⟨_, ⟨_, _, rfl, rfl, h⟩, fun k => lv_ishr hx hb hd k⟩
    · cases hp
  case iushr =>
    simp only [a_pure] at hp
    split at hp
    · cases hp
      obtain ⟨R', rfl, h⟩ := hS.i2
      exact ⟨_, ⟨_, _, rfl, rfl, h⟩, fun k => lv_iushr hx hb hd rfl k⟩
    · cases hp
  case ladd =>
    simp only [a_pure] at hp
    split at hp
    · cases hp
      obtain ⟨R', rfl, h⟩ := hS.l2
      exact ⟨_, ⟨_, _, rfl, rfl, h⟩, fun k => lv_ladd hx hb hd k⟩
    · cases hp
  case lsub =>
    simp only [a_pure] at hp
    split at hp
    · cases hp
      obtain ⟨R', rfl, h⟩ := hS.l2
      exact ⟨_, ⟨_, _, rfl, rfl, h⟩, fun k => lv_lsub hx hb hd k⟩
    · cases hp
  case lmul =>
    simp only [a_pure] at hp
    split at hp
    · cases hp
      obtain ⟨R', rfl, h⟩ := hS.l2
      exact ⟨_, ⟨_, _, rfl, rfl, h⟩, fun k => lv_lmul hx hb hd k⟩
    · cases hp
  case lor =>
    simp only [a_pure] at hp
    split at hp
    · cases hp
      obtain ⟨R', rfl, h⟩ := hS.l2
      exact ⟨_, ⟨_, _, rfl, rfl, h⟩, fun k => lv_lor hx hb hd k⟩
    · cases hp
  case idiv =>
    simp only [a_pure] at hp
    split at hp
    · split at hp
      · cases hp
      · rename_i hne
        cases hp
        obtain ⟨R', rfl, h⟩ := hS.i2
        exact ⟨_, ⟨_, _, rfl, rfl, h⟩, fun k => lv_idiv hx hb hd hne k⟩
    · cases hp
  case irem =>
    simp only [a_pure] at hp
    split at hp
    · split at hp
      · cases hp
      · rename_i hne
        cases hp
        obtain ⟨R', rfl, h⟩ := hS.i2
        exact ⟨_, ⟨_, _, rfl, rfl, h⟩, fun k => lv_irem hx hb hd hne k⟩
    · cases hp
  case ldiv =>
    simp only [a_pure] at hp
    split at hp
    · split at hp
      · cases hp
      · rename_i hne
        cases hp
        obtain ⟨R', rfl, h⟩ := hS.l2
        exact ⟨_, ⟨_, _, rfl, rfl, h⟩, fun k => lv_ldiv hx hb hd hne k⟩
    · cases hp
  case lrem =>
    simp only [a_pure] at hp
    split at hp
    · split at hp
      · cases hp
      · rename_i hne
        cases hp
        obtain ⟨R', rfl, h⟩ := hS.l2
        exact ⟨_, ⟨_, _, rfl, rfl, h⟩, fun k => lv_lrem hx hb hd hne k⟩
    · cases hp
  case lneg =>
    simp only [a_pure] at hp
    split at hp
    · cases hp
      obtain ⟨R', rfl, h⟩ := hS.l1
      exact ⟨_, ⟨_, _, rfl, rfl, h⟩, fun k => lv_lneg hx hb hd k⟩
    · cases hp
  case lshl =>
    simp only [a_pure] at hp
    split at hp
    · cases hp
      obtain ⟨R', rfl, h⟩ := hS.il
      exact ⟨_, ⟨_, _, rfl, rfl, h⟩, fun k => lv_lshl hx hb hd rfl k⟩
    · cases hp
  case lcmp =>
    simp only [a_pure] at hp
    split at hp
    · cases hp
      obtain ⟨R', rfl, h⟩ := hS.l2
      exact ⟨_, ⟨_, _, rfl, rfl, h⟩, fun k => W.lcmp hx hb hd k⟩
    · cases hp
  case i2l =>
    simp only [a_pure] at hp
    split at hp
    · cases hp
      obtain ⟨R', rfl, h⟩ := hS.i1
      exact ⟨_, ⟨_, _, rfl, rfl, h⟩, fun k => lv_i2l hx hb hd rfl k⟩
    · cases hp
  case l2i =>
    simp only [a_pure] at hp
    split at hp
    · cases hp
      obtain ⟨R', rfl, h⟩ := hS.l1
      exact ⟨_, ⟨_, _, rfl, rfl, h⟩, fun k => lv_l2i hx hb hd rfl k⟩
    · cases hp
  case dup =>
    simp only [a_pure] at hp
    split at hp
    · split at hp
      · rename_i hq
        cases hp
        obtain ⟨v', R', rfl, h1, h2⟩ := hS
        exact ⟨_, ⟨_, _, rfl, h1, _, _, rfl, h1, h2⟩, fun k => lv_dup hx hb hd (h1.cat.trans hq) k⟩
      · cases hp
    · cases hp
  case pop =>
    simp only [a_pure] at hp
    split at hp
    · split at hp
      · rename_i hq
        cases hp
        obtain ⟨v', R', rfl, h1, h2⟩ := hS
        exact ⟨_, h2, fun k => lv_pop hx hb hd (h1.cat.trans hq) k⟩
      · cases hp
    · cases hp
  case dup2 =>
    simp only [a_pure] at hp
    split at hp
    · split at hp
      · rename_i hq
        cases hp
        obtain ⟨v', R1, rfl, h1, w', R', rfl, h2, h3⟩ := hS
        exact ⟨_, ⟨_, _, rfl, h1, _, _, rfl, h2, _, _, rfl, h1, _, _, rfl, h2, h3⟩, fun k => lv_dup2_11 hx hb hd (h1.cat.trans hq.1) (h2.cat.trans hq.2) k⟩
      · split at hp
        · rename_i hq
          cases hp
          obtain ⟨v', R1, rfl, h1, h2⟩ := hS
          exact ⟨_, ⟨_, _, rfl, h1, _, _, rfl, h1, h2⟩, fun k => lv_dup2_2 hx hb hd (h1.cat.trans hq) k⟩
        · cases hp
    · cases hp
set_option maxHeartbeats 4000000 in
theorem s_load {x : Instr} {L : aL} {v : Value} {S' : List Value} (hx : p.tables.exec = Jvm.exec) (hb : c.code = cc) (hd : decode cc pc = .ok (x, a_len x)) (hp : a_load x L = some v) (hL : LR b ad L ls) :
    ∃ v', RV b ad v v' ∧ (W p l e R s m args below meth c H locs cells slots Q (F0 m (pc + a_len x) ls (v' :: S')) → W p l e R s m args below meth c H locs cells slots Q (F0 m pc ls S')) := by
  cases x <;> try (simp only [a_load, reduceCtorEq] at hp; done)
  case iload k =>
    simp only [a_load] at hp
    split at hp
    · rename_i hg
      cases hp
      obtain ⟨v', h1, h2⟩ := hL.2.2 _ _ hg
      rw [show v' = _ from h2] at h1
      exact ⟨_, rfl, fun k => lv_iload hx hb hd h1 k⟩
    · cases hp
  case iload_n k =>
    simp only [a_load] at hp
    split at hp
    · rename_i hg
      cases hp
      obtain ⟨v', h1, h2⟩ := hL.2.2 _ _ hg
      rw [show v' = _ from h2] at h1
      exact ⟨_, rfl, fun k => lv_iload_n hx hb hd rfl h1 k⟩
    · cases hp
  case lload k =>
    simp only [a_load] at hp
    split at hp
    · rename_i hg
      cases hp
      obtain ⟨v', h1, h2⟩ := hL.2.2 _ _ hg
      rw [show v' = _ from h2] at h1
      exact ⟨_, rfl, fun k => lv_lload hx hb hd h1 k⟩
    · cases hp
  case lload_n k =>
    simp only [a_load] at hp
    split at hp
    · rename_i hg
      cases hp
      obtain ⟨v', h1, h2⟩ := hL.2.2 _ _ hg
      rw [show v' = _ from h2] at h1
      exact ⟨_, rfl, fun k => lv_lload_n hx hb hd rfl h1 k⟩
    · cases hp
  case aload k =>
    simp only [a_load] at hp
    split at hp
    · rename_i hg
      cases hp
      obtain ⟨v', h1, h2⟩ := hL.2.2 _ _ hg
      obtain ⟨a, rfl⟩ := h2.isRef
      exact ⟨_, h2, fun k => lv_aload hx hb hd h1 k⟩
    · cases hp
  case aload_n k =>
    simp only [a_load] at hp
    split at hp
    · rename_i hg
      cases hp
      obtain ⟨v', h1, h2⟩ := hL.2.2 _ _ hg
      obtain ⟨a, rfl⟩ := h2.isRef
      exact ⟨_, h2, fun k => lv_aload_n hx hb hd rfl h1 k⟩
    · cases hp
set_option maxHeartbeats 4000000 in
theorem s_store {x : Instr} {L L' : aL} {S T S' : List Value} (hx : p.tables.exec = Jvm.exec) (hb : c.code = cc) (hd : decode cc pc = .ok (x, a_len x)) (hp : a_store x L S = some (L', T)) (hL : LR b ad L ls) (hS : RVs b ad S S') :
    ∃ T', RVs b ad T T' ∧ ((∀ ls', LR b ad L' ls' → W p l e R s m args below meth c H locs cells slots Q (F0 m (pc + a_len x) ls' T')) → W p l e R s m args below meth c H locs cells slots Q (F0 m pc ls S')) := by
  cases x <;> try (simp only [a_store, reduceCtorEq] at hp; done)
  case istore k =>
    simp only [a_store] at hp
    split at hp
    · split at hp
      · rename_i hk
        cases hp
        obtain ⟨R', rfl, h⟩ := hS.i1
        exact ⟨_, h, fun kk => lv_istore hx hb hd (lvAll_has hL.2.1) (by rw [hL.1]; exact hk) rfl (fun ls' h' => kk ls' (hL.set1 rfl h'))⟩
      · cases hp
    · cases hp
  case istore_n k =>
    simp only [a_store] at hp
    split at hp
    · split at hp
      · rename_i hk
        cases hp
        obtain ⟨R', rfl, h⟩ := hS.i1
        exact ⟨_, h, fun kk => lv_istore_n hx hb hd rfl (lvAll_has hL.2.1) (by rw [hL.1]; exact hk) rfl (fun ls' h' => kk ls' (hL.set1 rfl h'))⟩
      · cases hp
    · cases hp
  case lstore k =>
    simp only [a_store] at hp
    split at hp
    · split at hp
      · rename_i hk
        cases hp
        obtain ⟨R', rfl, h⟩ := hS.l1
        exact ⟨_, h, fun kk => lv_lstore hx hb hd (lvAll_has hL.2.1) (by rw [hL.1]; exact hk) rfl (fun ls' h' => kk ls' (hL.set2 rfl h'))⟩
      · cases hp
    · cases hp
  case lstore_n k =>
    simp only [a_store] at hp
    split at hp
    · split at hp
      · rename_i hk
        cases hp
        obtain ⟨R', rfl, h⟩ := hS.l1
        exact ⟨_, h, fun kk => lv_lstore_n hx hb hd rfl (lvAll_has hL.2.1) (by rw [hL.1]; exact hk) rfl (fun ls' h' => kk ls' (hL.set2 rfl h'))⟩
      · cases hp
    · cases hp
  case astore k =>
    simp only [a_store] at hp
    split at hp
    · split at hp
      · rename_i hk
        cases hp
        obtain ⟨v', R', rfl, h1, h⟩ := hS
        obtain ⟨a, rfl⟩ := h1.isRef
        exact ⟨_, h, fun kk => lv_astore hx hb hd (lvAll_has hL.2.1) (by rw [hL.1]; exact hk) rfl (fun ls' h' => kk ls' (hL.set1 h1 h'))⟩
      · cases hp
    · cases hp
  case astore_n k =>
    simp only [a_store] at hp
    split at hp
    · split at hp
      · rename_i hk
        cases hp
        obtain ⟨v', R', rfl, h1, h⟩ := hS
        obtain ⟨a, rfl⟩ := h1.isRef
        exact ⟨_, h, fun kk => lv_astore_n hx hb hd rfl (lvAll_has hL.2.1) (by rw [hL.1]; exact hk) rfl (fun ls' h' => kk ls' (hL.set1 h1 h'))⟩
      · cases hp
    · cases hp
  case iinc k z =>
    simp only [a_store] at hp
    split at hp
    · rename_i hg
      split at hp
      · rename_i hk
        cases hp
        obtain ⟨v', h1, h2⟩ := hL.2.2 _ _ hg
        rw [show v' = _ from h2] at h1
        obtain ⟨i, hi⟩ := List.getElem?_of_mem (lvAll_mem.mpr h1)
        exact ⟨_, hS, fun kk => lv_iinc hx hb hd (lvAll_has hL.2.1) hi rfl (by rw [hL.1]; exact hk) rfl (fun ls' h' => kk ls' (hL.set1 rfl h'))⟩
      · cases hp
    · cases hp
def a_off (x : Instr) : Int := match x with
  | .goto o => o | .ifCond _ o => o | .if_icmp _ o => o | _ => 0
set_option maxHeartbeats 4000000 in
theorem s_br {x : Instr} {S T S' : List Value} {t : Bool} {tgt : Nat} (hx : p.tables.exec = Jvm.exec) (hb : c.code = cc) (hd : decode cc pc = .ok (x, a_len x)) (ht : (pc : Int) + a_off x = (tgt : Int)) (hp : a_br x S = some (t, T)) (hS : RVs b ad S S') :
    ∃ T', RVs b ad T T' ∧ (W p l e R s m args below meth c H locs cells slots Q (F0 m (if t = true then tgt else pc + a_len x) ls T') → W p l e R s m args below meth c H locs cells slots Q (F0 m pc ls S')) := by
  cases x <;> try (simp only [a_br, reduceCtorEq] at hp; done)
  case goto o =>
    cases hp
    exact ⟨_, hS, fun k => lv_goto hx hb hd ht k⟩
  case ifCond cd o =>
    cases cd
    case eq =>
      simp only [a_br] at hp
      split at hp
      · cases hp
        obtain ⟨R', rfl, h⟩ := hS.i1
        exact ⟨_, h, fun k => lv_if_eq hx hb hd ht (fun q => by simpa [q] using k) (fun q => by simpa [q, a_len] using k)⟩
      · cases hp
    case ne =>
      simp only [a_br] at hp
      split at hp
      · cases hp
        obtain ⟨R', rfl, h⟩ := hS.i1
        exact ⟨_, h, fun k => lv_if_ne hx hb hd ht (fun q => by simpa [q] using k) (fun q => by simpa [q, a_len] using k)⟩
      · cases hp
    case lt =>
      simp only [a_br] at hp
      split at hp
      · cases hp
        obtain ⟨R', rfl, h⟩ := hS.i1
        exact ⟨_, h, fun k => lv_if_lt hx hb hd ht (fun q => by simpa [q] using k) (fun q => by simpa [q, a_len] using k)⟩
      · cases hp
    case ge =>
      simp only [a_br] at hp
      split at hp
      · cases hp
        obtain ⟨R', rfl, h⟩ := hS.i1
        exact ⟨_, h, fun k => lv_if_ge hx hb hd ht (fun q => by simpa [q] using k) (fun q => by simpa [q, a_len] using k)⟩
      · cases hp
    case gt =>
      simp only [a_br] at hp
      split at hp
      · cases hp
        obtain ⟨R', rfl, h⟩ := hS.i1
        exact ⟨_, h, fun k => lv_if_gt hx hb hd ht (fun q => by simpa [q] using k) (fun q => by simpa [q, a_len] using k)⟩
      · cases hp
    case le =>
      simp only [a_br] at hp
      split at hp
      · cases hp
        obtain ⟨R', rfl, h⟩ := hS.i1
        exact ⟨_, h, fun k => lv_if_le hx hb hd ht (fun q => by simpa [q] using k) (fun q => by simpa [q, a_len] using k)⟩
      · cases hp
  case if_icmp cd o =>
    cases cd
    case eq =>
      simp only [a_br] at hp
      split at hp
      · cases hp
        obtain ⟨R', rfl, h⟩ := hS.i2
        exact ⟨_, h, fun k => lv_icmp_eq hx hb hd ht (fun q => by simpa [q] using k) (fun q => by simpa [q, a_len] using k)⟩
      · cases hp
    case ne =>
      simp only [a_br] at hp
      split at hp
      · cases hp
        obtain ⟨R', rfl, h⟩ := hS.i2
        exact ⟨_, h, fun k => lv_icmp_ne hx hb hd ht (fun q => by simpa [q] using k) (fun q => by simpa [q, a_len] using k)⟩
      · cases hp
    case lt =>
      simp only [a_br] at hp
      split at hp
      · cases hp
        obtain ⟨R', rfl, h⟩ := hS.i2
        exact ⟨_, h, fun k => lv_icmp_lt hx hb hd ht (fun q => by simpa [q] using k) (fun q => by simpa [q, a_len] using k)⟩
      · cases hp
    case ge =>
      simp only [a_br] at hp
      split at hp
      · cases hp
        obtain ⟨R', rfl, h⟩ := hS.i2
        exact ⟨_, h, fun k => lv_icmp_ge hx hb hd ht (fun q => by simpa [q] using k) (fun q => by simpa [q, a_len] using k)⟩
      · cases hp
    case gt =>
      simp only [a_br] at hp
      split at hp
      · cases hp
        obtain ⟨R', rfl, h⟩ := hS.i2
        exact ⟨_, h, fun k => lv_icmp_gt hx hb hd ht (fun q => by simpa [q] using k) (fun q => by simpa [q, a_len] using k)⟩
      · cases hp
    case le =>
      simp only [a_br] at hp
      split at hp
      · cases hp
        obtain ⟨R', rfl, h⟩ := hS.i2
        exact ⟨_, h, fun k => lv_icmp_le hx hb hd ht (fun q => by simpa [q] using k) (fun q => by simpa [q, a_len] using k)⟩
      · cases hp
theorem s_sw {d lo hi : Int} {offs : Array Int} {len : Nat} {tg : List Nat} {pcs : Nat → Nat} {S' : List Value} {v : Int32} {j : Nat} (hx : p.tables.exec = Jvm.exec) (hb : c.code = cc) (hd : decode cc pc = .ok (.tableswitch d lo hi offs, len))
    (h0 : ∀ j, tg[0]? = some j → (pc : Int) + d = (pcs j : Int)) (h1 : ∀ (k : Nat) (j : Nat), tg[k + 1]? = some j → ∃ o, offs[k]? = some o ∧ (pc : Int) + o = (pcs j : Int)) (hp : a_sw lo hi tg v = some j)
    (kk : W p l e R s m args below meth c H locs cells slots Q (F0 m (pcs j) ls S')) : W p l e R s m args below meth c H locs cells slots Q (F0 m pc ls (.int v :: S')) := by
  unfold a_sw at hp
  split at hp
  · rename_i q
    exact lv_tableOut hx hb hd q (h0 j hp) kk
  · rename_i q
    obtain ⟨o, h2, h3⟩ := h1 _ _ hp
    exact lv_tableIn hx hb hd (fun z => q (Or.inl z)) (fun z => q (Or.inr z)) h2 h3 kk
end SA
end
section
/-! M1'S STEPS ARE THE JVM'S (2): reads and writes of the heap -/
theorem a_cell_spec {h : aH} {n : Nat} {e : aE} (q : a_cell h n = some e) : n ≠ sCR ∧ h[n]? = some e := by
  unfold a_cell at q
  split at q
  · cases q
  · rename_i z; exact ⟨z, q⟩
theorem World.at {D : va_G} {A : Nat → Prop} {b : Nat} {ad : List Nat} {h : aH} {H : Heap} {s : State} (w : World D A b ad h H s) {n : Nat} {e : aE} (hc : a_cell h n = some e) {v' : Value} (hv : RV b ad (.ref n) v') :
    ∃ (ws : va_W) (tys : List (ClassId × FieldType)) (a : Nat) (x : va_E), v' = .ref a ∧ va_P D vwCl ws H ∧ va_D A ws ∧ va_K D vwCl tys s ∧ WR b ad tys h ws ∧ ws[n]? = some (a, x) ∧ CR b ad tys e x := by
  obtain ⟨ws, tys, hP, hD, hK, hR⟩ := w
  obtain ⟨h1, h2⟩ := a_cell_spec hc
  obtain ⟨a, x, h3, h4, h5⟩ := hR.2.2 n e h2
  rw [RV_ref, if_neg h1] at hv
  obtain ⟨a2, h6, h7⟩ := hv
  rw [h4] at h6
  cases h6
  exact ⟨ws, tys, a, x, h7, hP, hD, hK, hR, h3, h5⟩
/-- what a field's instruction links to -/
def a_fld (own : String) (Ts : List Cond) (x : xI) (idx : Nat) : Prop := ∃ (C : String) (T : u_T) (N : Nat), vwCl[x.2.2.2.1]? = some (C, T, N) ∧ x.2.2.2.2.1 < N ∧ (T x.2.2.2.2.1).1 = C ∧ Cond.fieldLink own idx C (T x.2.2.2.2.1).2.1 (T x.2.2.2.2.1).2.2.1 ∈ Ts
/-- the class's rows of fields are words of the list -/
def a_rows (Ts : List Cond) : Prop := ∀ (ci : Nat) (C : String) (T : u_T) (N : Nat), vwCl[ci]? = some (C, T, N) → ∀ w ∈ u_ws C T N, w ∈ Ts
/-- the script stands beside the world -/
def a_scr (A : Nat → Prop) (b : Nat) (xs : Nat × (Nat → Int32)) (s : State) (H0 : Heap) : Prop := va_X b xs.1 xs.2 s H0 ∧ b < H0.size ∧ ¬ A b
section SB
variable {p : Program} {l : Launch} {e : Env} {R : Room} {s : State} {m : MethodId} {args : Array Value} {below : List Frame} {meth : Method} {c : Code} {H : Heap} {locs : List Loc} {cells slots : Nat} {Q : State → Prop}
variable {cc : ByteArray} {pc : Nat} {ls : Array Slot} {b : Nat} {ad : List Nat} {own : String} {D : va_G} {A : Nat → Prop} {H0 : Heap} {Ts : List Cond} {h : aH} {xs : Nat × (Nat → Int32)}
theorem s_aald {cl : List vw_C} {tys : List (ClassId × FieldType)} {ws : va_W} {a : Nat} {rest : List Value} (hexec : p.tables.exec = Jvm.exec) (hb : c.code = cc) (hK : va_K D cl tys s) (hP : va_P D cl ws H) (q0 t0 : Nat) {cA : ClassId} {ty : FieldType} (hty : a_isRef ty = true) {n : Nat} {f : Nat → Option Nat} (ha : ws[q0]? = some (a, .inl (cA, n, .inr (.inr (.inr (.inr f)))))) (ht : tys[t0]? = some (cA, ty)) {i : Int32} (hin : ¬ (i < 0 ∨ n ≤ i.toNatClampNeg)) (hdg : decode cc pc = .ok (.aaload, 1))
    (kk : W p l e R s m args below meth c H locs cells slots Q (F0 m (pc + 1) ls (va_rf (f i.toNatClampNeg) :: rest))) : W p l e R s m args below meth c H locs cells slots Q (F0 m pc ls (.int i :: .ref a :: rest)) := by
  have hlt : i.toNatClampNeg < n := Nat.not_le.mp fun q => hin (Or.inr q)
  exact W.aald (v := va_rf (f i.toNatClampNeg)) (ty := ty) hexec hb (hP q0 _ ha) ((hK.2 t0 _ ht).1 n (fun j => va_rf (f j))) (by cases ty <;> first | rfl | (cases hty)) (fun q => by cases q) (by show ¬ (i < 0 ∨ (arrV _ _ _).slots.size ≤ _); rw [arrV_size]; exact hin) (by show (arrV _ _ _).slots[_]? = _; rw [arrV_read _ _ hlt]) rfl rfl hdg kk
set_option maxHeartbeats 4000000 in
theorem s_read {x : xI} {S T S' : List Value} (hx : p.tables.exec = Jvm.exec) (hb : c.code = cc) (hown : s.vm.findClass own = some m.cls) (hts : ∀ w ∈ Ts, w.before args s = true) (hrows : a_rows Ts) (hd : decode cc pc = .ok (x.1, a_len x.1)) (hf : ∀ idx, x.1 = .getfield idx → a_fld own Ts x idx)
    (hW : World D A b ad h H s) (hS0 : va_S A H0 H locs) (hsc : a_scr A b xs s H0) (hp : a_read xs x S h = some T) (hS : RVs b ad S S') :
    ∃ T', RVs b ad T T' ∧ (W p l e R s m args below meth c H locs cells slots Q (F0 m (pc + a_len x.1) ls T') → W p l e R s m args below meth c H locs cells slots Q (F0 m pc ls S')) := by
  obtain ⟨ins, xr⟩ := x
  dsimp only at hd hf hp ⊢
  cases ins <;> try (simp only [a_read, reduceCtorEq] at hp; done)
  case getfield idx =>
    simp only [a_read] at hp
    obtain ⟨C, TT, N, f1, f2, f3, f4⟩ := hf idx rfl
    split at hp
    · split at hp
      · rename_i c0 fs hc
        split at hp
        · rename_i hci
          split at hp
          · rename_i v hv
            cases hp
            obtain ⟨v1, R1, rfl, r1, r2⟩ := hS
            obtain ⟨ws, tys, a, x1, rfl, hP, hD, hK, hR, w1, w2⟩ := hW.at hc r1
            obtain ⟨fs', rfl, w3⟩ := w2
            obtain ⟨v', w4, w5⟩ := w3.at hv
            refine ⟨v' :: R1, ⟨v', R1, rfl, w5, r2⟩, fun k => ?_⟩
            exact va_get hx hb hts (hrows _ _ _ _ f1) hown hK hP _ (by rw [hci] at w1; exact w1) f1 _ f2 (hts _ f4) (fun y hy => by rw [← f3]; exact hy) w4 hd k
          · cases hp
        · cases hp
      · cases hp
    · cases hp
  case iaload =>
    simp only [a_read] at hp
    split at hp
    · split at hp
      · rename_i hn
        split at hp
        · rename_i hin
          cases hp
          obtain ⟨R0, rfl, r0⟩ := hS.i1
          obtain ⟨v1, R1, rfl, r1, r2⟩ := r0
          rw [RV_ref, if_pos hn] at r1
          subst r1
          exact ⟨_, ⟨_, _, rfl, rfl, r2⟩, fun k => va_sld hx hb hsc.1 hsc.2.1 hsc.2.2 hS0 hin hd k⟩
        · cases hp
      · split at hp
        · rename_i ty len f hc
          split at hp
          · rename_i hin
            obtain ⟨hty, hin⟩ := hin
            subst hty
            cases hp
            obtain ⟨R0, rfl, r0⟩ := hS.i1
            obtain ⟨v1, R1, rfl, r1, r2⟩ := r0
            obtain ⟨ws, tys, a, x1, rfl, hP, hD, hK, hR, w1, w2⟩ := hW.at hc r1
            obtain ⟨cA, c', rfl, ⟨t0, w3⟩, w4⟩ := w2
            cases c' with
            | inr z => exact absurd w4 (by simp [AR])
            | inl g =>
              cases (show f = g from w4)
              exact ⟨_, ⟨_, _, rfl, rfl, r2⟩, fun k => va_iald hx hb hK hP _ t0 w1 w3 hin hd k⟩
          · cases hp
        · cases hp
    · cases hp
  case laload =>
    simp only [a_read] at hp
    split at hp
    · split at hp
      · rename_i ty len f hc
        split at hp
        · rename_i hin
          obtain ⟨hty, hin⟩ := hin
          subst hty
          cases hp
          obtain ⟨R0, rfl, r0⟩ := hS.i1
          obtain ⟨v1, R1, rfl, r1, r2⟩ := r0
          obtain ⟨ws, tys, a, x1, rfl, hP, hD, hK, hR, w1, w2⟩ := hW.at hc r1
          obtain ⟨cA, c', rfl, ⟨t0, w3⟩, w4⟩ := w2
          obtain z | g | z := c'
          · exact absurd w4 (by simp [AR])
          · cases (show f = g from w4)
            exact ⟨_, ⟨_, _, rfl, rfl, r2⟩, fun k => va_lald hx hb hK hP _ t0 w1 w3 hin hd k⟩
          · exact absurd w4 (by simp [AR])
        · cases hp
      · cases hp
    · cases hp
  case aaload =>
    simp only [a_read] at hp
    split at hp
    · split at hp
      · rename_i ty len f hc
        split at hp
        · rename_i j n R2 hin
          obtain ⟨hty, hin⟩ := hin
          split at hp
          · rename_i k hk
            cases hp
            obtain ⟨R0, rfl, r0⟩ := hS.i1
            obtain ⟨v1, R1, rfl, r1, r2⟩ := r0
            obtain ⟨ws, tys, a, x1, rfl, hP, hD, hK, hR, w1, w2⟩ := hW.at hc r1
            obtain ⟨cA, c', rfl, ⟨t0, w3⟩, w4⟩ := w2
            obtain z | z | z | z | g := c'
            · exact absurd w4 (by simp [AR])
            · exact absurd w4 (by simp [AR])
            · exact absurd w4 (by simp [AR])
            · exact absurd w4 (by simp [AR])
            · have w5 := w4 _ (Nat.not_le.mp fun q => hin (Or.inr q))
              rw [hk] at w5
              obtain ⟨a5, w6, w7⟩ := w5
              refine ⟨.ref a5 :: R1, ⟨_, _, rfl, w6, r2⟩, fun k => ?_⟩
              refine s_aald hx hb hK hP _ t0 hty w1 w3 hin hd ?_
              rw [w7]
              exact k
          · cases hp
        · cases hp
      · cases hp
    · cases hp
  case arraylength =>
    simp only [a_read] at hp
    split at hp
    · split at hp
      · rename_i hn
        cases hp
        obtain ⟨v1, R1, rfl, r1, r2⟩ := hS
        rw [RV_ref, if_pos hn] at r1
        subst r1
        exact ⟨_, ⟨_, _, rfl, rfl, r2⟩, fun k => va_slen hx hb hsc.1 hsc.2.1 hsc.2.2 hS0 hd k⟩
      · split at hp
        · rename_i ty len f hc
          cases hp
          obtain ⟨v1, R1, rfl, r1, r2⟩ := hS
          obtain ⟨ws, tys, a, x1, rfl, hP, hD, hK, hR, w1, w2⟩ := hW.at hc r1
          obtain ⟨cA, c', rfl, ⟨t0, w3⟩, w4⟩ := w2
          exact ⟨_, ⟨_, _, rfl, rfl, r2⟩, fun k => va_alen hx hb hK hP _ t0 w1 w3 rfl hd k⟩
        · cases hp
    · cases hp
end SB
end
section
/-! M1'S STEPS ARE THE JVM'S (3): writes of the heap -/
theorem a_ty_ok {C : String} {T : u_T} {N : Nat} : ∀ {ci : Nat}, vwCl[ci]? = some (C, T, N) → ∀ k, k < N → parseFieldDescriptor (T k).2.2.1 = some (a_ty ci k)
  | 0, h => by cases h; exact tyX0_ok
  | 1, h => by cases h; exact tyX1_ok
  | 2, h => by cases h; exact tyX2_ok
  | 3, h => by cases h; exact tyX3_ok
  | 4, h => by cases h; exact tyX4_ok
  | 5, h => by cases h; exact tyX5_ok
  | 6, h => by cases h; exact tyX6_ok
  | 7, h => by cases h; exact tyX7_ok
  | 8, h => by cases h; exact tyX8_ok
  | 9, h => by cases h; exact tyX9_ok
  | 10, h => by cases h; exact tyX10_ok
  | 11, h => by cases h; exact tyX11_ok
  | 12, h => by cases h; exact tyX12_ok
  | n + 13, h => by cases h
theorem a_nm_ok {C : String} {T : u_T} {N : Nat} : ∀ {ci : Nat}, vwCl[ci]? = some (C, T, N) → ∀ a, a < N → ∀ b, b < N → a ≠ b → (T a).2.1 ≠ (T b).2.1
  | 0, h => by cases h; exact nmX0
  | 1, h => by cases h; exact nmX1
  | 2, h => by cases h; exact nmX2
  | 3, h => by cases h; exact nmX3
  | 4, h => by cases h; exact nmX4
  | 5, h => by cases h; exact nmX5
  | 6, h => by cases h; exact nmX6
  | 7, h => by cases h; exact nmX7
  | 8, h => by cases h; exact nmX8
  | 9, h => by cases h; exact nmX9
  | 10, h => by cases h; exact nmX10
  | 11, h => by cases h; exact nmX11
  | 12, h => by cases h; exact nmX12
  | n + 13, h => by cases h
theorem a_fit_ok {b : Nat} {ad : List Nat} {ty : FieldType} {v v' : Value} (h : a_fit ty v = true) (hv : RV b ad v v') : narrow ty v' = v' ∧ fits ty v' = true := by
  cases v with
  | int x =>
    rw [show v' = _ from hv]
    simp only [a_fit, Bool.and_eq_true, decide_eq_true_eq] at h
    exact h
  | long x =>
    rw [show v' = _ from hv]
    refine ⟨?_, h⟩
    cases ty <;> rfl
  | ref n =>
    obtain ⟨a, rfl⟩ := hv.isRef
    cases ty <;> first | exact ⟨rfl, rfl⟩ | (exact absurd h (by simp [a_fit, fits]))
  | _ => cases h
/-- what a field's write may be: not final, or in the constructor -/
def a_fin (own mname : String) (x : xI) : Prop := ∀ (C : String) (T : u_T) (N : Nat), vwCl[x.2.2.2.1]? = some (C, T, N) → (T x.2.2.2.2.1).2.2.2 = false ∨ ((T x.2.2.2.2.1).2.2.2 = true ∧ mname = "<init>" ∧ (T x.2.2.2.2.1).1 = own)
section SC
variable {p : Program} {l : Launch} {e : Env} {R : Room} {s : State} {m : MethodId} {args : Array Value} {below : List Frame} {meth : Method} {c : Code} {H : Heap} {locs : List Loc} {cells slots : Nat} {Q : State → Prop}
variable {cc : ByteArray} {pc : Nat} {ls : Array Slot} {b : Nat} {ad : List Nat} {own : String} {D : va_G} {A : Nat → Prop} {H0 : Heap} {Ts : List Cond} {h h' : aH}
set_option maxHeartbeats 4000000 in
theorem s_write {x : xI} {S T S' : List Value} (hx : p.tables.exec = Jvm.exec) (hb : c.code = cc) (hown : s.vm.findClass own = some m.cls) (hts : ∀ w ∈ Ts, w.before args s = true) (hrows : a_rows Ts) (hd : decode cc pc = .ok (x.1, a_len x.1)) (hf : ∀ idx, x.1 = .putfield idx → a_fld own Ts x idx ∧ a_fin own meth.name x)
    (hW : World D A b ad h H s) (hS0 : va_S A H0 H locs) (hp : a_write x S h = some (T, h')) (hS : RVs b ad S S') :
    ∃ T', RVs b ad T T' ∧ ((∀ (H1 : Heap) (locs1 : List Loc), World D A b ad h' H1 s → va_S A H0 H1 locs1 → W p l e R s m args below meth c H1 locs1 cells slots Q (F0 m (pc + a_len x.1) ls T')) → W p l e R s m args below meth c H locs cells slots Q (F0 m pc ls S')) := by
  obtain ⟨ins, xr⟩ := x
  dsimp only at hd hf hp ⊢
  cases ins <;> try (simp only [a_write, reduceCtorEq] at hp; done)
  case putfield idx =>
    simp only [a_write] at hp
    obtain ⟨⟨C, TT, N, f1, f2, f3, f4⟩, ff⟩ := hf idx rfl
    split at hp
    · split at hp
      · rename_i v n R2 xo c0 fs hc
        split at hp
        · rename_i hq
          obtain ⟨q1, q2, q3⟩ := hq
          cases hp
          obtain ⟨v1, R0, rfl, r0, v2, R1, rfl, r1, r2⟩ := hS
          obtain ⟨ws, tys, a, x1, rfl, hP, hD, hK, hR, w1, w2⟩ := hW.at hc r1
          obtain ⟨fs', rfl, w3⟩ := w2
          obtain ⟨g1, g2⟩ := a_fit_ok q3 r0
          refine ⟨R1, r2, fun k => ?_⟩
          have key : ∀ (H1 : Heap) (locs1 : List Loc), va_P D vwCl (ws.set n (a, .inr (c0, fs'.set xr.2.2.2.1 v1))) H1 → va_D A (ws.set n (a, .inr (c0, fs'.set xr.2.2.2.1 v1))) → va_S A H0 H1 locs1 → W p l e R s m args below meth c H1 locs1 cells slots Q (F0 m (pc + 3) ls R1) := fun H1 locs1 k1 k2 k3 => k H1 locs1 ⟨_, tys, k1, k2, hK, hR.set w1 ⟨_, rfl, w3.set _ r0⟩⟩ k3
          have hl : xr.2.2.2.1 < fs'.length := by rw [w3.length]; exact q2
          have hci : vwCl[c0]? = some (C, TT, N) := by rw [q1]; exact f1
          have hty := a_ty_ok f1
          rcases ff C TT N f1 with q | ⟨qa, qb, qc⟩
          · exact va_put hx hb hts (hrows _ _ _ _ f1) _ hty (a_nm_ok f1) hown hK hP hD hS0 n w1 hci _ f2 (hts _ f4) (fun y hy => by rw [← f3]; exact hy) q (hty _ f2) g1 g2 hl hd key
          · exact va_putF hx hb hts (hrows _ _ _ _ f1) _ hty (a_nm_ok f1) hown hK hP hD hS0 n w1 hci _ f2 (hts _ f4) (fun y hy => by rw [← f3]; exact hy) qa qb qc (hty _ f2) g1 g2 hl hd key
        · cases hp
      · cases hp
    · cases hp
  case iastore =>
    simp only [a_write] at hp
    split at hp
    · split at hp
      · rename_i v j n R2 xo ty len f hc
        split at hp
        · rename_i hin
          obtain ⟨hty, hin⟩ := hin
          subst hty
          cases hp
          obtain ⟨R0, rfl, r0⟩ := hS.i2
          obtain ⟨v1, R1, rfl, r1, r2⟩ := r0
          obtain ⟨ws, tys, a, x1, rfl, hP, hD, hK, hR, w1, w2⟩ := hW.at hc r1
          obtain ⟨cA, c', rfl, ⟨t0, w3⟩, w4⟩ := w2
          obtain g | z := c'
          · cases (show f = g from w4)
            exact ⟨_, r2, fun k => va_iast hx hb hK hP hD hS0 n t0 w1 w3 hin hd (fun H1 locs1 k1 k2 k3 => k H1 locs1 ⟨_, tys, k1, k2, hK, hR.set w1 ⟨cA, _, rfl, ⟨t0, w3⟩, rfl⟩⟩ k3)⟩
          · exact absurd w4 (by simp [AR])
        · cases hp
      · cases hp
    · cases hp
  case lastore =>
    simp only [a_write] at hp
    split at hp
    · split at hp
      · rename_i v j n R2 xo ty len f hc
        split at hp
        · rename_i hin
          obtain ⟨hty, hin⟩ := hin
          subst hty
          cases hp
          obtain ⟨R0, rfl, r0⟩ := hS.l1
          obtain ⟨R3, rfl, r3⟩ := r0.i1
          obtain ⟨v1, R1, rfl, r1, r2⟩ := r3
          obtain ⟨ws, tys, a, x1, rfl, hP, hD, hK, hR, w1, w2⟩ := hW.at hc r1
          obtain ⟨cA, c', rfl, ⟨t0, w3⟩, w4⟩ := w2
          obtain z | g | z := c'
          · exact absurd w4 (by simp [AR])
          · cases (show f = g from w4)
            exact ⟨_, r2, fun k => va_last hx hb hK hP hD hS0 n t0 w1 w3 hin hd (fun H1 locs1 k1 k2 k3 => k H1 locs1 ⟨_, tys, k1, k2, hK, hR.set w1 ⟨cA, _, rfl, ⟨t0, w3⟩, rfl⟩⟩ k3)⟩
          · exact absurd w4 (by simp [AR])
        · cases hp
      · cases hp
    · cases hp
  case aastore =>
    simp only [a_write] at hp
    split at hp
    · split at hp
      · rename_i v j n R2 xo xp ty len f ci vs hc hcv
        split at hp
        · rename_i hin
          obtain ⟨hty, hin⟩ := hin
          cases hp
          obtain ⟨v0, R0, rfl, r0, r3⟩ := hS
          obtain ⟨R3, rfl, r4⟩ := r3.i1
          obtain ⟨v1, R1, rfl, r1, r2⟩ := r4
          obtain ⟨ws, tys, a, x1, rfl, hP, hD, hK, hR, w1, w2⟩ := hW.at hc r1
          obtain ⟨cA, c', rfl, ⟨t0, w3⟩, w4⟩ := w2
          obtain ⟨y1, y2⟩ := a_cell_spec hcv
          obtain ⟨av, xv, y3, y4, y5⟩ := hR.2.2 _ _ y2
          obtain ⟨fv, rfl, y6⟩ := y5
          have e0 : v0 = .ref av := by
            rw [RV_ref, if_neg y1] at r0
            obtain ⟨a2, y7, y8⟩ := r0
            rw [y4] at y7
            cases y7
            exact y8
          subst e0
          unfold a_isCls at hty
          split at hty
          · rename_i r hr
            rw [decide_eq_true_eq] at hty
            subst hty
            obtain z | z | z | z | g := c'
            · exact absurd w4 (by simp [AR])
            · exact absurd w4 (by simp [AR])
            · exact absurd w4 (by simp [AR])
            · exact absurd w4 (by simp [AR])
            · refine ⟨_, r2, fun k => va_astq hx hb hK hP hD hS0 n t0 v ci w1 w3 y3 hr hin hd (fun H1 locs1 k1 k2 k3 => k H1 locs1 ⟨_, tys, k1, k2, hK, hR.set w1 ⟨cA, _, rfl, ⟨t0, w3⟩, ?_⟩⟩ k3)⟩
              intro i hi
              by_cases q : i = j.toNatClampNeg
              · subst q
                simp only [va_up, if_true]
                exact ⟨av, r0, rfl⟩
              · simp only [va_up, if_neg q]
                exact w4 i hi
          · cases hty
        · cases hp
      · cases hp
    · cases hp
end SC
end
section
/-! M1'S STEPS ARE THE JVM'S (4): new cells, System.arraycopy, Object.<init>. The rows to the first END are the printed names' own. -/
/-! ===== BEGIN new T[n][m]: the outer array a place, the inner ones among the pooled ===== -/
/-- f, but v at every address of l -/
def vr_up {α : Type} (f : Nat → α) (l : List Nat) (v : α) : Nat → α := fun a => if a ∈ l then v else f a
theorem vr_up_in {α : Type} {f : Nat → α} {l : List Nat} {v : α} {a : Nat} (h : a ∈ l) : vr_up f l v a = v := if_pos h
theorem vr_up_ne {α : Type} {f : Nat → α} {l : List Nat} {v : α} {a : Nat} (h : a ∉ l) : vr_up f l v a = f a := if_neg h
theorem vr_rows {L l : List Nat} {f : Nat → va_E} {e : va_E} (h : ∀ a, a ∈ l → a ∉ L) : va_pl L f ++ l.map (fun a => (a, e)) = va_pl (L ++ l) (vr_up f l e) := by
  unfold va_pl
  rw [List.map_append]
  congr 1
  · apply List.map_congr_left
    intro a ha
    rw [vr_up_ne (fun q => h a q ha)]
  · apply List.map_congr_left
    intro a ha
    rw [vr_up_in ha]
theorem vr_lay {X rows : va_W} {x : Nat × va_E} {pl : va_W} {D : va_G} {cl : List vw_C} {H : Heap} (hP : va_P D cl (((X ++ pl) ++ [x]) ++ rows) H) : va_P D cl ((X ++ [x]) ++ (pl ++ rows)) H := by
  rw [List.append_assoc (X ++ pl)] at hP
  have h := va_P.swap hP
  rw [← List.append_assoc X] at h
  have h2 := va_P.swap h
  rw [List.append_assoc (X ++ [x])] at h2
  exact h2
theorem vr_layD {X rows : va_W} {x : Nat × va_E} {pl : va_W} {A : Nat → Prop} (hD : va_D A (((X ++ pl) ++ [x]) ++ rows)) : va_D A ((X ++ [x]) ++ (pl ++ rows)) := by
  rw [List.append_assoc (X ++ pl)] at hD
  have h := va_D.swap hD
  rw [← List.append_assoc X] at h
  have h2 := va_D.swap h
  rw [List.append_assoc (X ++ [x])] at h2
  exact h2
theorem vr_outer (c : ClassId) (N h0 : Nat) : ∀ i : Nat, Jvm.Free.Multi.outerC c N h0 i = arrV c N (fun j => va_rf (if j < i then some (h0 + 1 + j) else none))
  | 0 => by
    show ({ cls := c, slots := Array.replicate N .null, vm := .none } : Cell) = _
    rw [arrV_new]
    refine congrArg (arrV c N) (funext fun j => ?_)
    simp [va_rf]
  | i + 1 => by
    show (Jvm.Free.Multi.outerC c N h0 i).setSlot i (.ref (h0 + 1 + i)) = _
    rw [vr_outer c N h0 i, arrV_store]
    refine congrArg (arrV c N) (funext fun j => ?_)
    by_cases e : j = i
    · subst e
      simp [updV, va_rf]
    · by_cases h : j < i
      · simp [updV, e, h, Nat.lt_succ_of_lt h]
      · simp [updV, e, h, show ¬ j < i + 1 by omega]
section VGM
variable {p : Program} {l : Launch} {e : Env} {R : Room} {s : State} {m : MethodId} {args : Array Value} {below : List Frame} {meth : Method} {c : Code} {H : Heap} {locs : List Loc} {cells slots : Nat} {Q : State → Prop}
variable {cc : ByteArray} {pc : Nat} {ls : Array Slot} {rest : List Value} {D : va_G} {cl : List vw_C} {A : Nat → Prop} {a : Nat} {tys : List (ClassId × FieldType)} {ws : va_W} {H0 : Heap}
theorem va_mna {X : va_W} {L : List Nat} {f : Nat → va_E} {cc : ByteArray} (hexec : p.tables.exec = Jvm.exec) (hb : c.code = cc) {own : String} {index : Nat} {ty : FieldType} {cy : ClassId} (hown : s.vm.findClass own = some m.cls) (hclink : (Cond.classLink own index ("[" ++ (FieldType.array ty).toString)).before args s = true) (hover : (Cond.arrayOver (.array ty)).before args s = true) (harr : (Cond.arrayClass ty).before args s = true) (hcy : s.vm.findClass (FieldType.array ty).toString = some cy)
    (hK : va_K D cl tys s) (hP : va_P D cl (X ++ va_pl L f) H) (hD : va_D A (X ++ va_pl L f)) (hS : va_S A H0 H locs) (hA : ∀ q, H0.size ≤ q → A q) {n k : Int32} {N' K' : Nat} {z : vp_A} (hn : ¬ n < 0) (hk : ¬ k < 0) (hN : n.toNatClampNeg = N') (hM : k.toNatClampNeg = K')
    (hb1 : N' * 4 ≤ 536870912) (hb2 : K' * componentBytes ty ≤ 536870912) (hb3 : K' ≤ 536870912) (hdf : fits ty (defaultValue ty) = true) (hdd : (defaultValue ty).isDefault = true) (hcells : cells + (1 + N') ≤ R.cells) (hslots : slots + (N' + N' * K') ≤ R.slots) (hz : ∀ c : ClassId, Jvm.Free.Multi.innerC c K' (defaultValue ty) = vp_cell c z) (hdg : decode cc pc = .ok (.multianewarray index 2, 4))
    (kk : ∀ (q : Nat) (r : Nat → Nat) (cA : ClassId) (H1 : Heap), (∀ i j : Nat, i < N' → j < N' → r i = r j → i = j) → (∀ i : Nat, i < N' → r i ∉ L) → va_K D cl (tys ++ [(cA, .array ty)]) s →
      va_P D cl ((X ++ [(q, .inl (cA, N', .inr (.inr (.inr (.inr (fun i => if i < N' then some (r i) else none))))))]) ++ va_pl (L ++ (List.range N').map r) (vr_up f ((List.range N').map r) (.inl (cy, z)))) H1 → va_D A ((X ++ [(q, .inl (cA, N', .inr (.inr (.inr (.inr (fun i => if i < N' then some (r i) else none))))))]) ++ va_pl (L ++ (List.range N').map r) (vr_up f ((List.range N').map r) (.inl (cy, z)))) → va_S A H0 H1 locs →
      W p l e R s m args below meth c H1 locs (cells + 1 + N') (slots + N' + N' * K') Q (F0 m (pc + 4) ls (.ref q :: rest))) : W p l e R s m args below meth c H locs cells slots Q (F0 m pc ls (.int k :: .int n :: rest)) := by
  subst hN
  subst hM
  intro T hT Xs
  obtain ⟨vm₁, cA, comp, -, fA, fC, hO, -, X', step⟩ := Xs.multianewarray2F hexec hown hclink hover harr (g := F0 m pc ls (.int k :: .int n :: rest)) rfl (by rw [hb]; exact hdg) rfl hn hk hb1 hb2 hb3 hdf hdd hcells hslots
  have ec : some cy = some comp := hcy.symm.trans fC
  cases ec
  generalize hF : Jvm.Free.Multi.fill (T.setVm vm₁) cA cy n.toNatClampNeg k.toNatClampNeg (defaultValue ty) n.toNatClampNeg = F at X' step
  have hTh : (T.setVm vm₁).heap = H := hT
  obtain ⟨f1, f2, -, -⟩ := Jvm.Free.Multi.fill_facts (T.setVm vm₁) cA cy n.toNatClampNeg k.toNatClampNeg (defaultValue ty) n.toNatClampNeg
  rw [hF, hTh] at f1 f2
  have hold : ∀ x : Nat, x < H.size → F.heap[x]? = H[x]? := fun x hx => by
    have := Jvm.Free.Multi.fill_old (T.setVm vm₁) cA cy n.toNatClampNeg k.toNatClampNeg (defaultValue ty) (a := x) (by rw [hTh]; exact hx) n.toNatClampNeg
    rw [hF, hTh] at this
    exact this
  have hrow : ∀ j : Nat, j < n.toNatClampNeg → F.heap[H.size + 1 + j]? = some (vp_cell cy z) := fun j hj => by
    have := Jvm.Free.Multi.fill_inner (T.setVm vm₁) cA cy n.toNatClampNeg k.toNatClampNeg (defaultValue ty) n.toNatClampNeg j hj
    rw [hF, hTh, hz] at this
    exact this
  have hout : Jvm.Free.Multi.outerC cA n.toNatClampNeg H.size n.toNatClampNeg = vp_cell cA (n.toNatClampNeg, .inr (.inr (.inr (.inr (fun i => if i < n.toNatClampNeg then some (H.size + 1 + i) else none))))) := by
    rw [vp_cell_q]
    exact vr_outer cA n.toNatClampNeg H.size n.toNatClampNeg
  rw [hout] at f2
  have hlt : ∀ a, a ∈ L → a < H.size := fun a ha => by
    obtain ⟨k9, hk9⟩ := va_pl_get (X := X) (f := f) ha
    exact (hP k9 _ hk9).lt
  have hnl : ∀ i : Nat, i < n.toNatClampNeg → H.size + 1 + i ∉ L := fun i _ h => by
    have := hlt _ h
    omega
  have hnm : ∀ a, a ∈ (List.range n.toNatClampNeg).map (fun i => H.size + 1 + i) → a ∉ L := fun a ha h => by
    obtain ⟨i, -, rfl⟩ := List.mem_map.mp ha
    have := hlt _ h
    omega
  have hP0 : va_P D cl (X ++ va_pl L f) F.heap := hP.kept (fun k9 x hx => hold x.1 ((hP k9 x hx).lt))
  have hP1 : va_P D cl ((X ++ va_pl L f) ++ [(H.size, .inl (cA, n.toNatClampNeg, .inr (.inr (.inr (.inr (fun i => if i < n.toNatClampNeg then some (H.size + 1 + i) else none))))))]) F.heap := hP0.app (fun k9 x hx => by
    have h0 : k9 < 1 := (List.getElem?_eq_some_iff.mp hx).1
    rw [show k9 = 0 by omega] at hx
    cases hx
    exact f2)
  have hP2 : va_P D cl (((X ++ va_pl L f) ++ [(H.size, .inl (cA, n.toNatClampNeg, .inr (.inr (.inr (.inr (fun i => if i < n.toNatClampNeg then some (H.size + 1 + i) else none))))))]) ++ ((List.range n.toNatClampNeg).map (fun i => H.size + 1 + i)).map (fun a => (a, .inl (cy, z)))) F.heap := hP1.app (fun k9 x hx => by
    obtain ⟨a, ha, rfl⟩ := List.mem_map.mp (List.mem_of_getElem? hx)
    obtain ⟨i, hi, rfl⟩ := List.mem_map.mp ha
    exact hrow i (List.mem_range.mp hi))
  have hD2 : va_D A (((X ++ va_pl L f) ++ [(H.size, .inl (cA, n.toNatClampNeg, .inr (.inr (.inr (.inr (fun i => if i < n.toNatClampNeg then some (H.size + 1 + i) else none))))))]) ++ ((List.range n.toNatClampNeg).map (fun i => H.size + 1 + i)).map (fun a => (a, .inl (cy, z)))) := by
    have hD1 := hD.push (e := .inl (cA, n.toNatClampNeg, .inr (.inr (.inr (.inr (fun i => if i < n.toNatClampNeg then some (H.size + 1 + i) else none)))))) hP rfl (hA _ hS.1)
    generalize hW1 : (X ++ va_pl L f) ++ [(H.size, .inl (cA, n.toNatClampNeg, .inr (.inr (.inr (.inr (fun i => if i < n.toNatClampNeg then some (H.size + 1 + i) else none))))))] = W1 at hD1 hP1 ⊢
    have hle : ∀ (k9 : Nat) (x : Nat × va_E), W1[k9]? = some x → x.1 ≤ H.size := fun k9 x hx => by
      rw [← hW1] at hx
      by_cases hl : k9 < (X ++ va_pl L f).length
      · rw [List.getElem?_append_left hl] at hx
        exact Nat.le_of_lt ((hP k9 x hx).lt)
      · rw [List.getElem?_append_right (by omega)] at hx
        have h0 : k9 - (X ++ va_pl L f).length < 1 := (List.getElem?_eq_some_iff.mp hx).1
        rw [show k9 - (X ++ va_pl L f).length = 0 by omega] at hx
        cases hx
        exact Nat.le_refl _
    have hr : ∀ (k9 : Nat) (x : Nat × va_E), (((List.range n.toNatClampNeg).map (fun i => H.size + 1 + i)).map (fun a => ((a, .inl (cy, z)) : Nat × va_E)))[k9]? = some x → x.1 = H.size + 1 + k9 := fun k9 x hx => by
      rw [List.getElem?_map, List.getElem?_map] at hx
      by_cases h9 : k9 < n.toNatClampNeg
      · rw [List.getElem?_range h9] at hx
        cases hx
        rfl
      · have hn0 : (List.range n.toNatClampNeg)[k9]? = none := List.getElem?_eq_none (by rw [List.length_range]; omega)
        rw [hn0] at hx
        cases hx
    refine ⟨fun i j x y hi hj hxy => ?_, fun k9 x hx => ?_⟩
    · by_cases h1 : i < W1.length <;> by_cases h2 : j < W1.length
      · rw [List.getElem?_append_left h1] at hi
        rw [List.getElem?_append_left h2] at hj
        exact hD1.1 i j x y hi hj hxy
      · rw [List.getElem?_append_left h1] at hi
        rw [List.getElem?_append_right (by omega)] at hj
        have := hle _ _ hi
        have := hr _ _ hj
        omega
      · rw [List.getElem?_append_right (by omega)] at hi
        rw [List.getElem?_append_left h2] at hj
        have := hle _ _ hj
        have := hr _ _ hi
        omega
      · rw [List.getElem?_append_right (by omega)] at hi hj
        have := hr _ _ hi
        have := hr _ _ hj
        omega
    · by_cases h1 : k9 < W1.length
      · rw [List.getElem?_append_left h1] at hx
        exact hD1.2 k9 x hx
      · rw [List.getElem?_append_right (by omega)] at hx
        have := hr _ _ hx
        exact hA _ (by have := hS.1; omega)
  have hAr : ArrOfT s cA (.array ty) := fun N9 z9 => by
    obtain ⟨-, k9, hk9, cm9, hkk9⟩ := (hO 0 0 0).1
    exact ⟨(fun q hq => by cases hq), k9, hk9, cm9, hkk9⟩
  have hK2 : va_K D cl (tys ++ [(cA, .array ty)]) s := ⟨hK.1, fun k9 x hx => by
    by_cases hl : k9 < tys.length
    · rw [List.getElem?_append_left hl] at hx
      exact hK.2 k9 x hx
    · rw [List.getElem?_append_right (by omega)] at hx
      have h0 : k9 - tys.length < 1 := (List.getElem?_eq_some_iff.mp hx).1
      rw [show k9 - tys.length = 0 by omega] at hx
      cases hx
      exact ⟨hAr, fA⟩⟩
  obtain ⟨t, a1, b1⟩ := kk H.size (fun i => H.size + 1 + i) cA F.heap (fun i j _ _ h => by have h9 : H.size + 1 + i = H.size + 1 + j := h; omega) hnl hK2 (by rw [← vr_rows hnm]; exact vr_lay hP2) (by rw [← vr_rows hnm]; exact vr_layD hD2) ⟨by rw [f1]; have := hS.1; omega, fun x h1 h2 => (hold x (Nat.lt_of_lt_of_le h1 hS.1)).trans (hS.2.1 x h1 h2), hS.2.2⟩ F rfl X'
  refine ⟨t, step t ?_, b1⟩
  have e : T.heap.size = H.size := by rw [hT]
  rw [e]
  exact a1
end VGM
/-! ===== END ===== -/
theorem RVs.self {b : Nat} {ad : List Nat} : ∀ {S : List Value}, (∀ v ∈ S, RV b ad v v) → RVs b ad S S
  | [], _ => rfl
  | v :: S, h => ⟨v, S, rfl, h v List.mem_cons_self, RVs.self (fun w hw => h w (List.mem_cons_of_mem _ hw))⟩
theorem RV.default {b : Nat} {ad : List Nat} (ty : FieldType) : RV b ad (defaultValue ty) (defaultValue ty) := by cases ty <;> exact rfl
theorem WR.app {b : Nat} {ad : List Nat} {tys ty2 : List (ClassId × FieldType)} {h : aH} {ws : va_W} (w : WR b ad tys h ws) {as : va_W} {es : List aE} (hl : as.length = es.length) (hc : ∀ (j : Nat) (e : aE) (q : Nat × va_E), es[j]? = some e → as[j]? = some q → CR b (ad ++ as.map Prod.fst) (tys ++ ty2) e q.2) : WR b (ad ++ as.map Prod.fst) (tys ++ ty2) (h ++ es) (ws ++ as) := by
  have hal := w.ad_len
  refine ⟨by simp [w.1, hl], by rw [List.map_append, w.2.1], fun i e1 hi => ?_⟩
  by_cases hlt : i < h.length
  · rw [List.getElem?_append_left hlt] at hi
    obtain ⟨a1, x1, h1, h2, h3⟩ := w.2.2 i e1 hi
    exact ⟨a1, x1, pf_at h1, pf_at h2, h3.mono⟩
  · rw [List.getElem?_append_right (by omega)] at hi
    have hj := (List.getElem?_eq_some_iff.mp hi).1
    have hj2 : i - h.length < as.length := by omega
    have e0 := List.getElem?_eq_getElem hj2
    refine ⟨(as[i - h.length]).1, (as[i - h.length]).2, ?_, ?_, hc _ _ _ hi e0⟩
    · rw [List.getElem?_append_right (by rw [w.1]; omega), w.1]; exact e0
    · rw [List.getElem?_append_right (by omega), hal, List.getElem?_map, e0]; rfl
theorem a_arrK {args : Array Value} {s : State} {ty : FieldType} {cA : ClassId} (h : (Cond.arrayClass ty).before args s = true) (hf : s.vm.findClass ("[" ++ ty.toString) = some cA) (hno : a_isRef ty = false) : ArrOfT s cA ty ∧ va_RA s cA ty := by
  obtain ⟨c, k, comp, h1, h2, h3⟩ := Cond.arrayClass_spec h
  rw [hf] at h1
  cases h1
  refine ⟨fun n z => ⟨fun k h => (by cases h), k, h2, comp, h3⟩, ?_⟩
  cases ty <;> first | exact hf | (cases hno)
/-- what an instruction that makes cells links to -/
def a_mk (own : String) (Ts : List Cond) (args : Array Value) (s : State) (x : xI) : Prop := match x.1 with
  | .new idx => ∀ (C : String) (T : u_T) (N : Nat), vwCl[x.2.2.2.1]? = some (C, T, N) → Cond.classLink own idx C ∈ Ts ∧ Cond.instantiable C N ∈ Ts ∧ Cond.initialized C ∈ Ts
  | .newarray ty => Cond.arrayClass (newarray.typeOf ty) ∈ Ts
  | .anewarray idx => ∀ (C : String) (T : u_T) (N : Nat), vwCl[x.2.2.2.1]? = some (C, T, N) → Cond.classLink own idx C ∈ Ts ∧ va_AO C s
  | .multianewarray idx k => k = 2 ∧ Cond.classLink own idx ("[" ++ (FieldType.array .long).toString) ∈ Ts ∧ Cond.arrayClass .long ∈ Ts ∧ (Cond.arrayOver (.array .long)).before args s = true
  | _ => True
section SD
variable {p : Program} {l : Launch} {e : Env} {R : Room} {s : State} {m : MethodId} {args : Array Value} {below : List Frame} {meth : Method} {c : Code} {H : Heap} {locs : List Loc} {cells slots : Nat} {Q : State → Prop}
variable {cc : ByteArray} {pc : Nat} {ls : Array Slot} {b : Nat} {ad : List Nat} {own : String} {D : va_G} {A : Nat → Prop} {H0 : Heap} {Ts : List Cond} {h h' : aH}
theorem RV_new {b : Nat} {ad : List Nat} {n q : Nat} (hn : n ≠ sCR) (hl : ad.length = n) (r : List Nat) : RV b (ad ++ q :: r) (.ref n) (.ref q) := by
  rw [RV_ref, if_neg hn]
  refine ⟨q, ?_, rfl⟩
  rw [List.getElem?_append_right (by omega), hl, Nat.sub_self]; rfl
set_option maxHeartbeats 4000000 in
theorem s_make {x : xI} {S T S' : List Value} {kc ks : Nat} (hx : p.tables.exec = Jvm.exec) (hb : c.code = cc) (hown : s.vm.findClass own = some m.cls) (hts : ∀ w ∈ Ts, w.before args s = true) (hrows : a_rows Ts) (hd : decode cc pc = .ok (x.1, a_len x.1)) (hmk : a_mk own Ts args s x)
    (hW : World D A b ad h H s) (hS0 : va_S A H0 H locs) (hA : ∀ q, H0.size ≤ q → A q) (hp : a_make x S h = some (T, h', kc, ks)) (hS : RVs b ad S S') (hkc : cells + kc ≤ R.cells) (hks : slots + ks ≤ R.slots)
    (kk : ∀ (H1 : Heap) (ad1 : List Nat) (T' : List Value), World D A b (ad ++ ad1) h' H1 s → va_S A H0 H1 locs → RVs b (ad ++ ad1) T T' → W p l e R s m args below meth c H1 locs (cells + kc) (slots + ks) Q (F0 m (pc + a_len x.1) ls T')) : W p l e R s m args below meth c H locs cells slots Q (F0 m pc ls S') := by
  obtain ⟨ins, xr⟩ := x
  dsimp only at hd kk
  unfold a_make at hp
  split at hp
  · cases hp
  rename_i hlen
  have hne : h.length ≠ sCR := fun q => hlen (by omega)
  obtain ⟨ws, tys, hP, hD, hK, hR⟩ := hW
  have hal := hR.ad_len
  cases ins <;> try (simp only [reduceCtorEq] at hp; done)
  case new idx =>
    simp only at hp
    split at hp
    · rename_i fs hfs
      cases hp
      unfold a_new at hfs
      split at hfs
      · rename_i C TT N hcl
        cases hfs
        obtain ⟨m1, m2, m3⟩ := hmk C TT N hcl
        have hN : ((List.range N).map (fun k => defaultValue (a_ty xr.2.2.1 k))).length = N := by simp
        rw [hN] at hks kk
        refine va_new hx hb hts (hrows _ _ _ _ hcl) (a_ty xr.2.2.1) (a_ty_ok hcl) hown (hts _ m1) (hts _ m2) (hts _ m3) hK hP hD hS0 hA hcl (fs := (List.range N).map (fun k => defaultValue (a_ty xr.2.2.1 k))) (fun j hj => ?_) hkc hks hd (fun q H1 k1 k2 k3 => ?_)
        · simp [vp_V, List.getD, hj]
        · refine kk H1 [q] (.ref q :: S') ⟨_, tys ++ [], k1, k2, by rw [List.append_nil]; exact hK, hR.push ⟨_, rfl, RVs.self (fun v hv => ?_)⟩⟩ k3 ⟨_, _, rfl, RV_new hne hal [], hS.mono⟩
          obtain ⟨k, -, rfl⟩ := List.mem_map.mp hv
          exact RV.default _
      · cases hfs
    · cases hp
  case newarray ty =>
    simp only at hp
    split at hp
    · split at hp
      · rename_i hq
        obtain ⟨q1, q2⟩ := hq
        split at hp
        · rename_i a0 ha0
          cases hp
          obtain ⟨R1, rfl, r1⟩ := hS.i1
          refine va_newa (a0 := a0) hx hb (hts _ hmk) rfl hK hP hD hS0 hA (fun cA => ?_) q1 rfl q2 hkc hks hd (fun q cA H1 k0 k1 k2 k3 => ?_)
          · unfold a_zero at ha0
            split at ha0
            · rename_i e0; cases ha0; rw [e0]; rfl
            · rename_i e0; cases ha0; rw [e0]; rfl
            · cases ha0
          · refine kk H1 [q] (.ref q :: R1) ⟨_, _, k1, k2, k0, hR.push ⟨cA, _, rfl, ⟨tys.length, by rw [List.getElem?_append_right (Nat.le_refl _), Nat.sub_self]; rfl⟩, ?_⟩⟩ k3 ⟨_, _, rfl, RV_new hne hal [], r1.mono⟩
            unfold a_zero at ha0
            split at ha0
            · cases ha0; exact rfl
            · cases ha0; exact rfl
            · cases ha0
        · cases hp
      · cases hp
    · cases hp
  case anewarray idx =>
    simp only at hp
    split at hp
    · split at hp
      · rename_i r hcl
        split at hp
        · rename_i hq
          obtain ⟨q1, q2⟩ := hq
          cases hp
          obtain ⟨R1, rfl, r1⟩ := hS.i1
          obtain ⟨C, TT, N⟩ := r
          obtain ⟨m1, m2⟩ := hmk C TT N hcl
          refine va_newq hx hb hown (hts _ m1) m2 hK hP hD hS0 hA q1 rfl q2 hkc hks hd (fun q cA H1 k0 k1 k2 k3 => ?_)
          refine kk H1 [q] (.ref q :: R1) ⟨_, _, k1, k2, k0, hR.push ⟨cA, _, rfl, ⟨tys.length, by rw [List.getElem?_append_right (Nat.le_refl _), Nat.sub_self]; rfl⟩, ?_⟩⟩ k3 ⟨_, _, rfl, RV_new hne hal [], r1.mono⟩
          exact fun i hi => rfl
        · cases hp
      · cases hp
    · cases hp
  case multianewarray idx dm =>
    simp only at hp
    obtain ⟨m0, m1, m2, m3⟩ := hmk
    subst m0
    split at hp
    · rename_i k n R2
      split at hp
      · rename_i hq
        obtain ⟨q1, q2, q3, q4, q5⟩ := hq
        cases hp
        obtain ⟨R1, rfl, r1⟩ := hS.i2
        obtain ⟨cy, kC, comp, hcy, -, -⟩ := Cond.arrayClass_spec (hts _ m2)
        have hcyK := a_arrK (hts _ m2) hcy rfl
        have e0 : ws ++ va_pl [] (fun _ => (.inr (0, []) : va_E)) = ws := by simp [va_pl]
        refine va_mna (X := ws) (L := []) (f := fun _ => (.inr (0, []) : va_E)) (cl := vwCl) (D := D) (cy := cy) (N' := n.toNatClampNeg) (K' := k.toNatClampNeg) (z := (k.toNatClampNeg, .inr (.inl (fun _ => 0)))) hx hb hown (hts _ m1) m3 (hts _ m2) hcy hK (by rw [e0]; exact hP) (by rw [e0]; exact hD) hS0 hA q1 q2 rfl rfl q4 q5 (by omega) rfl rfl hkc hks (fun c9 => ?_) hd (fun q r cA H1 k5 k6 k0 k1 k2 k3 => ?_)
        · rw [vp_cell_l]
          first | exact arrV_new _ _ _ | (rw [← arrV_new]; rfl) | (unfold Jvm.Free.Multi.innerC; rw [← arrV_new]; rfl)
        · have e1 : (ws ++ [(q, (.inl (cA, n.toNatClampNeg, .inr (.inr (.inr (.inr (fun i => if i < n.toNatClampNeg then some (r i) else none))))) : va_E))]) ++ va_pl ([] ++ (List.range n.toNatClampNeg).map r) (vr_up (fun _ => (.inr (0, []) : va_E)) ((List.range n.toNatClampNeg).map r) (.inl (cy, k.toNatClampNeg, .inr (.inl (fun _ => 0))))) = ws ++ ((q, (.inl (cA, n.toNatClampNeg, .inr (.inr (.inr (.inr (fun i => if i < n.toNatClampNeg then some (r i) else none))))) : va_E)) :: (List.range n.toNatClampNeg).map (fun i => (r i, (.inl (cy, k.toNatClampNeg, .inr (.inl (fun _ => 0))) : va_E)))) := by
            rw [List.append_assoc, List.nil_append, List.singleton_append]
            congr 2
            unfold va_pl
            rw [List.map_map]
            apply List.map_congr_left
            intro i hi
            show (r i, vr_up _ _ _ (r i)) = _
            rw [vr_up_in (List.mem_map.mpr ⟨i, hi, rfl⟩)]
          rw [e1] at k1 k2
          have k9 : va_K D vwCl ((tys ++ [(cA, .array .long)]) ++ [(cy, .long)]) s := k0.app ⟨k0.1, fun t q9 h9 => by
            have ht : t < 1 := (List.getElem?_eq_some_iff.mp h9).1
            rw [show t = 0 by omega] at h9
            cases h9
            exact hcyK⟩
          rw [List.append_assoc] at k9
          have hlen2 : (((q, (.inl (cA, n.toNatClampNeg, .inr (.inr (.inr (.inr (fun i => if i < n.toNatClampNeg then some (r i) else none))))) : va_E)) :: (List.range n.toNatClampNeg).map (fun i => (r i, (.inl (cy, k.toNatClampNeg, .inr (.inl (fun _ => 0))) : va_E)))) : va_W).map Prod.fst = q :: (List.range n.toNatClampNeg).map r := by
            rw [List.map_cons, List.map_map]; rfl
          rw [Nat.add_assoc, Nat.add_assoc]
          have hgo := hR.app (ty2 := [(cA, .array .long)] ++ [(cy, .long)]) (as := (q, (.inl (cA, n.toNatClampNeg, .inr (.inr (.inr (.inr (fun i => if i < n.toNatClampNeg then some (r i) else none))))) : va_E)) :: (List.range n.toNatClampNeg).map (fun i => (r i, (.inl (cy, k.toNatClampNeg, .inr (.inl (fun _ => 0))) : va_E)))) (es := .inl (.array .long, n.toNatClampNeg, .inr (.inr (.inr (.inr (fun i => if i < n.toNatClampNeg then some (h.length + 1 + i) else none))))) :: (List.range n.toNatClampNeg).map (fun _ => .inl (.long, k.toNatClampNeg, .inr (.inl (fun _ => 0))))) (by simp) (fun j e9 q9 h1 h2 => ?_)
          · rw [hlen2] at hgo
            refine kk H1 (q :: (List.range n.toNatClampNeg).map r) (.ref q :: R1) ⟨_, _, k1, k2, k9, ?_⟩ k3 ⟨_, _, rfl, RV_new hne hal _, r1.mono⟩
            rw [List.append_assoc, List.singleton_append]
            exact hgo
          · rw [hlen2]
            cases j with
            | zero =>
              cases h1; cases h2
              refine ⟨cA, _, rfl, ⟨tys.length, by rw [List.getElem?_append_right (Nat.le_refl _), Nat.sub_self]; rfl⟩, fun i hi => ?_⟩
              simp only [if_pos hi]
              refine ⟨r i, ?_, rfl⟩
              rw [RV_ref, if_neg (by omega)]
              refine ⟨r i, ?_, rfl⟩
              rw [List.getElem?_append_right (by omega), hal, show h.length + 1 + i - h.length = i + 1 by omega, List.getElem?_cons_succ, List.getElem?_map, List.getElem?_range hi]; rfl
            | succ j =>
              rw [List.getElem?_cons_succ, List.getElem?_map] at h1 h2
              have hj : j < n.toNatClampNeg := by
                cases hq : (List.range n.toNatClampNeg)[j]? with
                | none => rw [hq] at h1; cases h1
                | some y => exact by simpa using (List.getElem?_eq_some_iff.mp hq).1
              rw [List.getElem?_range hj] at h1 h2
              cases h1; cases h2
              refine ⟨cy, _, rfl, ⟨tys.length + 1, ?_⟩, rfl⟩
              rw [List.getElem?_append_right (by omega), show tys.length + 1 - tys.length = 1 by omega]; rfl
      · cases hp
    · cases hp
end SD
end
section
/-! CALLS, CERTIFICATES, AND THE WALK: what M1 does, the JVM does -/
/-- the words of the tables that hold at every state of the run -/
def GW : List Cond := lw_tbl.filter goodWord
/-- private members of nest mates: who links, where, to what -/
def NWl : List (String × Nat × MethodName) := [("ChanceCourt$Equations", 33, yX11_has), ("ChanceCourt$Guide", 44, yX11_has), ("ChanceCourt$Holes", 62, yX11_has), ("ChanceCourt$Horizon", 43, yX11_has), ("ChanceCourt$Twins", 41, yX11_has), ("ChanceCourt$Verdict", 123, yX11_has), ("ChanceCourt$Ways", 32, yX11_has), ("ChanceCourt$World", 69, yX11_has), ("ChanceCourt", 76, yX6_init), ("ChanceCourt$Prices", 11, yX1_init), ("ChanceCourt$Shelf", 17, yX0_init), ("ChanceCourt$Verdict", 11, yX1_init), ("ChanceCourt$World", 25, yX0_init)]
def ENV (s : State) : Prop := (∀ q ∈ NWl, va_Nw (.methodLinkNest q.1 q.2.1 q.2.2 "ChanceCourt") s) ∧ va_AO "ChanceCourt$Act" s ∧ va_AO "ChanceCourt$Shelf" s ∧ (Cond.arrayOver (.array .long)).before #[] s = true
theorem a_AOA {A A' : Array Value} {u : State} (h : (Cond.arrayOver (.array .long)).before A u = true) : (Cond.arrayOver (.array .long)).before A' u = true := h
theorem a_AOA_spec {t : FieldType} {u : State} (h : (Cond.arrayOver (.array t)).before #[] u = true) : ∃ (comp c : ClassId) (k : Class) (c0 : ClassId), u.vm.findClass (FieldType.array t).toString = some comp ∧ (u.vm.classes.findIdx? fun (x : Class) => match x.kind with | .array component _ => component == comp | _ => false) = some c ∧ u.vm.classes[c]? = some k ∧ k.kind = .array c0 (.array t) ∧ u.vm.findClass ("[" ++ (FieldType.array t).toString) = some c := by
  unfold Cond.before Cond.holds at h
  simp only [Cond.value, beq_iff_eq] at h
  cases hc : u.vm.findClass (FieldType.array t).toString with
  | none => simp [hc] at h
  | some comp =>
    simp only [hc, Option.bind_some] at h
    obtain ⟨c, h2, h3⟩ := Option.bind_eq_some_iff.mp h
    obtain ⟨k, h4, h5⟩ := Option.map_eq_some_iff.mp h3
    split at h5
    · rename_i c0 ty hk
      simp only [Bool.and_eq_true, decide_eq_true_eq] at h5
      obtain ⟨e1, e2⟩ := h5
      subst e1
      exact ⟨comp, c, k, c0, rfl, h2, h4, hk, e2⟩
    · cases h5
theorem a_AOA_moved {t : FieldType} {u U : State} (hvm : u.vm.Alike U.vm) (h : (Cond.arrayOver (.array t)).before #[] u = true) : (Cond.arrayOver (.array t)).before #[] U = true := by
  obtain ⟨comp, c, k, c0, h1, h2, h3, h4, h5⟩ := a_AOA_spec h
  obtain ⟨k', hk', he⟩ := hvm.2.2 _ _ h3
  have hi : (U.vm.classes.findIdx? fun (x : Class) => match x.kind with | .array component _ => component == comp | _ => false) = some c := by
    refine (va_idx_bare U.vm comp).symm.trans ?_
    have e2 : U.vm.bare = u.vm.bare := by first | exact hvm.bare_eq | exact hvm.bare_eq.symm
    rw [e2]
    exact (va_idx_bare u.vm comp).trans h2
  have hkind : k'.kind = .array c0 (.array t) := by rw [he]; exact h4
  have f1 : U.vm.findClass (FieldType.array t).toString = some comp := by rw [hvm.findClass]; exact h1
  have f2 : U.vm.findClass ("[" ++ (FieldType.array t).toString) = some c := by rw [hvm.findClass]; exact h5
  unfold Cond.before Cond.holds
  simp only [Cond.value]
  rw [f1, Option.bind_some]
  refine (congrArg (fun o : Option Nat => (o.bind (fun c => (U.vm.classes[c]?).map fun (k : Class) => match k.kind with | .array _ ty => decide (ty = FieldType.array t) && decide (U.vm.findClass ("[" ++ (FieldType.array t).toString) = some c) | _ => false) == some true)) hi).trans ?_
  simp [hk', hkind, f2]
theorem ENV.moved {s U : State} (hW : s.WarmedH U.vm) (h : ENV s) : ENV U := ⟨fun q hq => va_Nw.warmM hW (h.1 q hq), va_AO.moved hW.alike h.2.1, va_AO.moved hW.alike h.2.2.1, a_AOA_moved hW.alike h.2.2.2⟩
/-- which cells a method may change -/
def aA (ad : List Nat) (sz : Nat) : Nat → Prop := fun q => q ∈ ad ∨ sz ≤ q
def RO (b : Nat) (ad : List Nat) : Option Value → Option Value → Prop
  | none, r => r = none
  | some v, r => ∃ v', r = some v' ∧ RV b ad v v'
theorem RO.list {b : Nat} {ad : List Nat} {r r' : Option Value} (h : RO b ad r r') : RVs b ad r.toList r'.toList := by
  cases r with
  | none => rw [show r' = none from h]; exact rfl
  | some v =>
    obtain ⟨v', h1, h2⟩ := h
    subst h1
    exact ⟨v', [], rfl, h2, rfl⟩
def CtrP (D : va_G) (b : Nat) (xs : Nat × (Nat → Int32)) (args : List Value) (h : aH) (ad : List Nat) (sz : Nat) : Array Value → State → Prop := fun v U =>
  ∃ args', v = args'.toArray ∧ RVs b ad args args' ∧ U.heap.size = sz ∧ World D (fun _ => True) b ad h U.heap U ∧ ENV U ∧ va_X b xs.1 xs.2 U U.heap ∧ b < sz ∧ b ∉ ad
def CtrQ (D : va_G) (b : Nat) (Q : Option Value → aH → Prop) (ad : List Nat) (sz : Nat) : Array Value → State → Outcome → State → Prop := fun _ st oc t =>
  (∃ r r' h' ad1, oc = .returned r' ∧ Q r h' ∧ RO b (ad ++ ad1) r r' ∧ World D (fun _ => True) b (ad ++ ad1) h' t.heap t ∧ ∀ a ∈ ad1, sz ≤ a) ∧ va_F (aA ad sz) st t
def wsM (M : aM) : List Cond := Cond.code M.1 M.2.1 M.2.2.1 M.2.2.2.1 :: GW
def rmD (d : Nat) (M : aM) : Room := { frames := d, cells := M.2.2.2.2.2.1.1, slots := M.2.2.2.2.2.1.2, locals := 39 * d }
/-- THE CONTRACT of a method at depth d: from these arguments and this heap it comes to Q -/
def Ctr (l : Launch) (D : va_G) (b : Nat) (xs : Nat × (Nat → Int32)) (d : Nat) (M : aM) (args : List Value) (h : aH) (Q : Option Value → aH → Prop) : Prop :=
  ∀ ad sz, Met l M.1 (wsM M) (rmD d M) (CtrP D b xs args h ad sz) (CtrQ D b Q ad sz) M.2.2.2.2.2.1.1 M.2.2.2.2.2.1.2 (aA ad sz)
theorem CtrP.blind {D : va_G} {b : Nat} {xs : Nat × (Nat → Int32)} {args : List Value} {h : aH} {ad : List Nat} {sz : Nat} : FrameBlind (CtrP D b xs args h ad sz) := fun _ _ _ _ hp => hp
/-- where an instruction stands -/
def pcOf (tbl : List xI) (i : Nat) : Nat := match tbl[i]? with
  | some x => x.2.1
  | none => 0
def a_isSw (x : Instr) : Bool := match x with | .tableswitch _ _ _ _ => true | _ => false
def a_falls (x : Instr) : Bool := match x with | .tableswitch _ _ _ _ => false | .goto _ => false | .return_ => false | .ireturn => false | .lreturn => false | .areturn => false | _ => true
def a_jumps (x : Instr) : Bool := match x with | .goto _ => true | .ifCond _ _ => true | .if_icmp _ _ => true | _ => false
/-- what an instruction that makes cells links to: the tables' part -/
def a_mkS (own : String) (x : xI) : Prop := match x.1 with
  | .new idx => ∀ (C : String) (T : u_T) (N : Nat), vwCl[x.2.2.2.1]? = some (C, T, N) → Cond.classLink own idx C ∈ GW ∧ Cond.instantiable C N ∈ GW ∧ Cond.initialized C ∈ GW
  | .newarray ty => Cond.arrayClass (newarray.typeOf ty) ∈ GW
  | .anewarray idx => ∀ (C : String) (T : u_T) (N : Nat), vwCl[x.2.2.2.1]? = some (C, T, N) → Cond.classLink own idx C ∈ GW ∧ (C = "ChanceCourt$Act" ∨ C = "ChanceCourt$Shelf")
  | .multianewarray idx k => k = 2 ∧ Cond.classLink own idx ("[" ++ (FieldType.array .long).toString) ∈ GW ∧ Cond.arrayClass .long ∈ GW
  | _ => True
/-- what every callee is -/
def a_cal (M : aM) (n : Nat) : Prop := Cond.code M.1 M.2.1 M.2.2.1 M.2.2.2.1 ∈ GW ∧ Cond.initialized M.1.cls ∈ GW ∧ M.1.cls ≠ "java/lang/invoke/MethodHandle" ∧ M.1.cls ≠ "java/lang/invoke/VarHandle" ∧ (parseMethodDescriptor M.1.desc).map (fun d => d.parameters.length) = some n ∧ M.2.2.1 ≤ 20
def a_lnk (own : String) (idx : Nat) (y : MethodName) : Prop := Cond.methodLink own idx y ∈ GW ∨ (own, idx, y) ∈ NWl
def a_callV (own : String) (MT : List aM) (x : xI) (idx : Nat) : Prop := ∀ M, MT[x.2.2.2.1]? = some M → (∃ n, x.2.2.2.2.1 = n + 1 ∧ a_cal M n) ∧ Cond.methodLink own idx M.1 ∈ GW ∧ Cond.instanceMethod M.1 ∈ GW ∧ Cond.selects M.1.cls M.1 M.1 ∈ GW ∧ ∃ ci : Nat, (ci : Int) = x.2.2.2.2.2.1 ∧ ∃ T N, vwCl[ci]? = some (M.1.cls, T, N)
def a_callS (own : String) (MT : List aM) (x : xI) (idx : Nat) : Prop := ∀ M, MT[x.2.2.2.1]? = some M → a_cal M x.2.2.2.2.1 ∧ a_lnk own idx M.1 ∧ Cond.static M.1 ∈ GW
def a_callI (own : String) (MT : List aM) (x : xI) (idx : Nat) : Prop := ∀ M, MT[x.2.2.2.1]? = some M → (∃ n, x.2.2.2.2.1 = n + 1 ∧ a_cal M n) ∧ a_lnk own idx M.1 ∧ Cond.instanceMethod M.1 ∈ GW ∧ M.1.name = "<init>" ∧ M.2.2.2.1 = none
def a_callC (own : String) (idx : Nat) : Prop := Cond.methodLink own idx arraycopyName ∈ GW ∧ Cond.native arraycopyName ∈ GW ∧ Cond.static arraycopyName ∈ GW ∧ Cond.initialized "java/lang/System" ∈ GW
def a_callO (own : String) (idx : Nat) : Prop := Cond.methodLink own idx objectInit ∈ GW ∧ Cond.instanceMethod objectInit ∈ GW ∧ Cond.code objectInit ⟨#[0xb1]⟩ 1 none ∈ GW
/-- THE CERTIFICATE of an instruction -/
def xOK (own mname : String) (cc : ByteArray) (MT : List aM) (tbl : List xI) (i : Nat) (x : xI) : Prop :=
  decode cc x.2.1 = .ok (x.1, x.2.2.1) ∧ (a_isSw x.1 = false → x.2.2.1 = a_len x.1) ∧ (a_falls x.1 = true → pcOf tbl (i + 1) = x.2.1 + x.2.2.1) ∧ (a_jumps x.1 = true → (x.2.1 : Int) + a_off x.1 = (pcOf tbl x.2.2.2.1 : Int)) ∧
  (∀ w, a_const own x.1 x.2.2.2.2.2.1 = some w → w ∈ GW) ∧ (∀ idx, x.1 = .getfield idx → a_fld own GW x idx) ∧ (∀ idx, x.1 = .putfield idx → a_fld own GW x idx ∧ a_fin own mname x) ∧ a_mkS own x ∧
  (∀ idx, x.1 = .invokevirtual idx → a_callV own MT x idx) ∧ (∀ idx, x.1 = .invokestatic idx → if x.2.2.2.1 = idCopy then a_callC own idx else a_callS own MT x idx) ∧ (∀ idx, x.1 = .invokespecial idx → if x.2.2.2.1 = idInit then a_callO own idx else a_callI own MT x idx) ∧
  (∀ d lo hi offs, x.1 = .tableswitch d lo hi offs → (∀ j, x.2.2.2.2.2.2[0]? = some j → (x.2.1 : Int) + d = (pcOf tbl j : Int)) ∧ ∀ (k j : Nat), x.2.2.2.2.2.2[k + 1]? = some j → ∃ o, offs[k]? = some o ∧ (x.2.1 : Int) + o = (pcOf tbl j : Int))
def tOK (own mname : String) (cc : ByteArray) (MT : List aM) (tbl : List xI) : Prop := ∀ (i : Nat) (x : xI), tbl[i]? = some x → xOK own mname cc MT tbl i x
theorem a_scope {D : va_G} {A : Nat → Prop} {b : Nat} {ad : List Nat} {h : aH} {H : Heap} {s : State} (w : World D A b ad h H s) : ∀ q ∈ ad, A q ∧ q < H.size := by
  obtain ⟨ws, tys, hP, hD, hK, hR⟩ := w
  intro q hq
  rw [← hR.2.1] at hq
  obtain ⟨x, hx, rfl⟩ := List.mem_map.mp hq
  obtain ⟨i, hi⟩ := List.getElem?_of_mem hx
  exact ⟨hD.2 i x hi, (hP i x hi).lt⟩
theorem World.weaken {D : va_G} {A B : Nat → Prop} {b : Nat} {ad : List Nat} {h : aH} {H : Heap} {s : State} (w : World D A b ad h H s) (hB : ∀ q ∈ ad, B q) : World D B b ad h H s := by
  obtain ⟨ws, tys, hP, hD, hK, hR⟩ := w
  refine ⟨ws, tys, hP, ⟨hD.1, fun k q hk => hB _ ?_⟩, hK, hR⟩
  rw [← hR.2.1]
  exact List.mem_map.mpr ⟨q, List.mem_of_getElem? hk, rfl⟩
theorem World.moved {D : va_G} {A : Nat → Prop} {b : Nat} {ad : List Nat} {h : aH} {H : Heap} {s U : State} (hvm : s.vm.Alike U.vm) (w : World D A b ad h H s) : World D A b ad h H U := by
  obtain ⟨ws, tys, hP, hD, hK, hR⟩ := w
  exact ⟨ws, tys, hP, hD, hK.moved hvm, hR⟩
section SE
variable {p : Program} {l : Launch} {e : Env} {R : Room} {s : State} {m : MethodId} {args : Array Value} {below : List Frame} {meth : Method} {c : Code} {H : Heap} {locs : List Loc} {cells slots : Nat} {Q : State → Prop}
variable {cc : ByteArray} {pc : Nat} {ls : Array Slot} {b : Nat} {ad : List Nat} {own : String} {D : va_G} {A0 : Nat → Prop} {H0 : Heap} {h : aH} {xs : Nat × (Nat → Int32)}
theorem s_after {Q1 : Option Value → aH → Prop} {mc ms : Nat} {a : Array Value} {st0 rest : List Value} (hr : va_Run p l e R s m args below meth c H locs cells slots mc ms (F0 m pc ls st0) rest (CtrQ D b Q1 ad H.size a) (aA ad H.size)) (hS : va_S A0 H0 H locs) (hA : ∀ q, H0.size ≤ q → A0 q) (had : ∀ q ∈ ad, A0 q)
    (kk : ∀ (r r' : Option Value) (h' : aH) (ad1 : List Nat) (H1 : Heap) (locs1 : List Loc), Q1 r h' → RO b (ad ++ ad1) r r' → World D A0 b (ad ++ ad1) h' H1 s → va_S A0 H0 H1 locs1 → W p l e R s m args below meth c H1 locs1 (cells + mc) (slots + ms) Q (F0 m (pc + 3) ls (r'.toList ++ rest))) : W p l e R s m args below meth c H locs cells slots Q (F0 m pc ls st0) := by
  intro T hT X
  obtain ⟨v, st₀, t, T', L, h0, X', hL, e1, e2, ⟨⟨r, r', h', ad1, hv, hq, hro, hw, hnew⟩, hz, hk⟩, st⟩ := hr T hT X
  cases hv
  rw [h0] at hz hk
  have hAA : ∀ q, aA ad H.size q → A0 q := fun q hq => hq.elim (had q) (fun z => hA q (Nat.le_trans hS.1 z))
  have hvm : t.vm.Alike s.vm := by rw [← e2]; exact X'.warmed.alike.symm
  rw [← e1] at hw
  obtain ⟨t2, a1, b1⟩ := kk r v h' ad1 T'.heap (locs ++ L) hq hro ((hw.moved hvm).weaken (fun q hq => (List.mem_append.mp hq).elim (had q) (fun z => hA q (Nat.le_trans hS.1 (hnew q z)))))
    ⟨Nat.le_trans hS.1 (by rw [e1]; exact hz), fun q h1 h2 => by rw [e1, hk q (Nat.lt_of_lt_of_le h1 hS.1) (fun z => h2 (hAA q z))]; exact hS.2.1 q h1 h2, fun q hq => by
      rcases List.mem_append.mp hq with h | h
      · exact hS.2.2 q h
      · exact hAA _ (hL q h)⟩ T' rfl X'
  exact ⟨t2, st t2 a1, b1⟩
end SE
end
section
/-! THE WALK: a run of M1 is a run of the JVM -/
theorem GW_good {ws : List Cond} (h : ∀ w ∈ ws, w ∈ GW) : GoodIn GW ws := fun w hw => ⟨h w hw, good_of_word (List.mem_filter.mp (h w hw)).2⟩
theorem wsM_in {M : aM} (h : Cond.code M.1 M.2.1 M.2.2.1 M.2.2.2.1 ∈ GW) : ∀ w ∈ wsM M, w ∈ GW := fun w hw => (List.mem_cons.mp hw).elim (fun q => by rw [q]; exact h) id
theorem a_store_len {x : Instr} {L L' : aL} {S T : List Value} (h : a_store x L S = some (L', T)) : L'.length = L.length := by
  unfold a_store at h
  split at h
  all_goals first
    | (split at h
       · split at h
         · cases h; first | exact a_set1_len _ _ _ | exact a_set2_len _ _ _
         · cases h
       · cases h)
    | cases h
theorem a_take {b : Nat} {ad : List Nat} {S S' : List Value} {k : Nat} (h : RVs b ad S S') (hk : k ≤ S.length) : S' = (S'.take k).reverse.reverse ++ S'.drop k ∧ RVs b ad (S.take k).reverse (S'.take k).reverse ∧ RVs b ad (S.drop k) (S'.drop k) ∧ ((S'.take k).reverse).length = k := by
  refine ⟨by rw [List.reverse_reverse, List.take_append_drop], (h.take k).rev, h.drop k, ?_⟩
  rw [List.length_reverse, List.length_take, h.length]; omega
section SF
variable {p : Program} {l : Launch} {e : Env} {R : Room} {s : State} {m : MethodId} {args : Array Value} {below : List Frame} {meth : Method} {c : Code} {H : Heap} {locs : List Loc} {cells slots : Nat} {Q : State → Prop}
variable {cc : ByteArray} {pc nL : Nat} {ls : Array Slot} {b : Nat} {ad : List Nat} {own : String} {D : va_G} {A : Nat → Prop} {h : aH} {xs : Nat × (Nat → Int32)}
theorem s_pre {argsA args' : List Value} (hr : RVs b ad argsA args') (hW : World D A b ad h H s) (henv : ENV s) (hS0 : va_S A s.heap H locs) (hsc : a_scr A b xs s s.heap) : ∀ U : State, U.heap = H → s.WarmedH U.vm → CtrP D b xs argsA h ad H.size args'.toArray U := by
  intro U hU hw
  refine ⟨args', rfl, hr, by rw [hU], ?_, henv.moved hw, ?_, Nat.lt_of_lt_of_le hsc.2.1 hS0.1, fun q => hsc.2.2 (a_scope hW b q).1⟩
  · rw [hU]
    exact ((hW.weaken (B := fun _ => True) (fun _ _ => trivial)).moved hw.alike)
  · rw [hU]
    exact (hsc.1.moved hw.alike).kept (hS0.2.1 b hsc.2.1 hsc.2.2)
set_option maxHeartbeats 4000000 in
/-- the three calls -/
theorem s_call {x : xI} {S S' : List Value} {M : aM} {d k : Nat} {Q1 : Option Value → aH → Prop} {MT : List aM} (hx : p.tables.exec = Jvm.exec) (hb : c.code = cc) (hml : c.maxLocals = nL) (hown : s.vm.findClass own = some m.cls) (hts : ∀ w ∈ GW, w.before args s = true) (henv : ENV s)
    (hd : decode cc pc = .ok (x.1, 3)) (hM : MT[x.2.2.2.1]? = some M) (hk : x.2.2.2.2.1 = k) (hkS : k ≤ S.length) (hrw : a_words (S.drop k) ≤ 8)
    (hcall : (∃ idx, x.1 = .invokevirtual idx ∧ a_callV own MT x idx ∧ a_rcv h x.2.2.2.2.2.1 (S.take k).reverse = true) ∨ (∃ idx, x.1 = .invokestatic idx ∧ a_callS own MT x idx) ∨ (∃ idx v AsA, x.1 = .invokespecial idx ∧ a_callI own MT x idx ∧ (S.take k).reverse = .ref v :: AsA))
    (hRf : d + 1 ≤ R.frames) (hRl : 39 * (d + 1) ≤ R.locals) (hC : Ctr l D b xs d M (S.take k).reverse h Q1)
    (hW : World D A b ad h H s) (hS0 : va_S A s.heap H locs) (hA : ∀ q, s.heap.size ≤ q → A q) (hsc : a_scr A b xs s s.heap) (hls : ls.size = nL) (hS : RVs b ad S S') (hkc : cells + M.2.2.2.2.2.1.1 ≤ R.cells) (hks : slots + M.2.2.2.2.2.1.2 ≤ R.slots)
    (kk : ∀ (r r' : Option Value) (h' : aH) (ad1 : List Nat) (H1 : Heap) (locs1 : List Loc) (R' : List Value), Q1 r h' → RO b (ad ++ ad1) r r' → RVs b ad (S.drop k) R' → World D A b (ad ++ ad1) h' H1 s → va_S A s.heap H1 locs1 → W p l e R s m args below meth c H1 locs1 (cells + M.2.2.2.2.2.1.1) (slots + M.2.2.2.2.2.1.2) Q (F0 m (pc + 3) ls (r'.toList ++ R'))) : W p l e R s m args below meth c H locs cells slots Q (F0 m pc ls S') := by
  obtain ⟨t1, t2, t3, t4⟩ := a_take hS hkS
  generalize hr' : S'.drop k = rest at t1 t3
  generalize ha' : (S'.take k).reverse = args' at t1 t2 t4
  have hroom : (rest.map fun v => v.category).sum ≤ 8 := by rw [t3.words]; exact hrw
  have hpre := s_pre (locs := locs) (xs := xs) t2 hW henv hS0 hsc
  have CF : CallFix p m c cc nL s args GW own := ⟨hx, hb, hml, hown, hts⟩
  have had : ∀ q ∈ ad, A q := fun q hq => (a_scope hW q hq).1
  have fin : va_Run p l e R s m args below meth c H locs cells slots M.2.2.2.2.2.1.1 M.2.2.2.2.2.1.2 (F0 m pc ls S') rest (CtrQ D b Q1 ad H.size args'.toArray) (aA ad H.size) → W p l e R s m args below meth c H locs cells slots Q (F0 m pc ls S') := fun hrun => s_after hrun hS0 hA had (fun r r' h' ad1 H1 locs1 q1 q2 q3 q4 => kk r r' h' ad1 H1 locs1 rest q1 q2 t3 q3 q4)
  rcases hcall with ⟨idx, e1, hcv, hrc⟩ | ⟨idx, e1, hcs⟩ | ⟨idx, v, AsA, e1, hci, hvA⟩
  · obtain ⟨⟨n, hn, c1, c2, c3, c4, c5, c6⟩, c7, c8, c9, ci, c10, T9, N9, c11⟩ := hcv M hM
    rw [e1] at hd
    unfold a_rcv at hrc
    split at hrc
    · rename_i v AsA hvA
      split at hrc
      · rename_i ci2 fs2 hcell
        rw [decide_eq_true_eq] at hrc
        have eci : ci2 = ci := by omega
        subst eci
        rw [hvA] at t2
        obtain ⟨v', As', g1, g2, g3⟩ := t2
        subst g1
        obtain ⟨ws, tys, a, x1, rfl, hP, hD, hK, hR, w1, w2⟩ := hW.at hcell g2
        obtain ⟨fs', rfl, w3⟩ := w2
        have hlen : As'.length = n := by have := t4; simp only [List.length_cons] at this; omega
        refine fin (va_runV CF (hC ad H.size) (cwV n hts (GW_good (fun w hw => ?_)) rfl rfl rfl ⟨rfl, c3, c4, c5⟩ ⟨hRf, ?_⟩) ⟨CtrP.blind, va_recv hK hP c11 w1, hpre⟩ rfl hlen hls ?_ (lv_room hroom) hd ⟨hkc, hks⟩)
        · rcases List.mem_append.mp hw with hw | hw
          · simp only [List.mem_cons, List.not_mem_nil, or_false] at hw
            rcases hw with rfl | rfl | rfl | rfl
            · exact c7
            · exact c8
            · exact c9
            · exact c2
          · exact wsM_in c1 w hw
        · show 8 + (M.2.2.1 + 11) + 39 * d ≤ R.locals
          omega
        · show S' = _
          rw [t1, List.reverse_cons, List.append_assoc]; rfl
      · cases hrc
    · cases hrc
  · obtain ⟨⟨c1, c2, c3, c4, c5, c6⟩, c7, c8⟩ := hcs M hM
    rw [e1] at hd
    have hRR : (rmD d M).frames + 1 ≤ R.frames ∧ 8 + (M.2.2.1 + 11) + (rmD d M).locals ≤ R.locals := ⟨hRf, by show 8 + (M.2.2.1 + 11) + 39 * d ≤ R.locals; omega⟩
    rcases c7 with c7 | c7
    · refine fin (va_runS CF (hC ad H.size) (va_cwS x.2.2.2.2.1 hts (GW_good (fun w hw => ?_)) rfl rfl rfl ⟨c3, c4, c5⟩ hRR) ⟨CtrP.blind, hpre⟩ rfl (t4.trans hk.symm) hls ?_ (lv_room hroom) hd ⟨hkc, hks⟩)
      · rcases List.mem_append.mp hw with hw | hw
        · simp only [List.mem_cons, List.not_mem_nil, or_false] at hw
          rcases hw with rfl | rfl | rfl
          · exact c7
          · exact c8
          · exact c2
        · exact wsM_in c1 w hw
      · exact t1
    · exact fin (va_runSN CF (hC ad H.size) ⟨va_cnB x.2.2.2.2.1 hts (GW_good (wsM_in c1)) rfl rfl rfl (henv.1 _ c7) (hts _ c2) ⟨c3, c4, c5⟩ hRR, hts _ c8, trivial⟩ ⟨CtrP.blind, hpre⟩ rfl (t4.trans hk.symm) hls t1 (lv_room hroom) hd ⟨hkc, hks⟩)
  · obtain ⟨⟨n, hn, c1, c2, c3, c4, c5, c6⟩, c7, c8, c9, c10⟩ := hci M hM
    rw [e1] at hd
    rw [hvA] at t2
    obtain ⟨v', As', g1, g2, g3⟩ := t2
    subst g1
    obtain ⟨a, rfl⟩ := g2.isRef
    have hlen : As'.length = n := by have := t4; simp only [List.length_cons] at this; omega
    have hst : S' = As'.reverse ++ .ref a :: rest := by rw [t1, List.reverse_cons, List.append_assoc]; rfl
    have hRR : (rmD d M).frames + 1 ≤ R.frames ∧ 8 + (M.2.2.1 + 11) + (rmD d M).locals ≤ R.locals := ⟨hRf, by show 8 + (M.2.2.1 + 11) + 39 * d ≤ R.locals; omega⟩
    have hcode : wsM M = Cond.code M.1 M.2.1 M.2.2.1 none :: GW := by unfold wsM; rw [c10]
    rcases c7 with c7 | c7
    · exact fin (va_runI CF (hC ad H.size) (cwI n hts (GW_good (wsM_in c1)) hcode rfl rfl (hts _ c2) (hts _ c7) (hts _ c8) c9 ⟨c3, c4, c5⟩ hRR) ⟨CtrP.blind, hpre⟩ rfl hlen hls hst (lv_room hroom) hd ⟨hkc, hks⟩)
    · exact fin (va_runIN CF (hC ad H.size) ⟨va_cnB n hts (GW_good (wsM_in c1)) hcode rfl rfl (henv.1 _ c7) (hts _ c2) ⟨c3, c4, c5⟩ hRR, c9, hts _ c8⟩ ⟨CtrP.blind, hpre⟩ rfl hlen hls hst (lv_room hroom) hd ⟨hkc, hks⟩)
end SF
end
section
/-! THE WALK (2): arraycopy, and all instructions together -/
theorem a_ret_len {x : Instr} {rt : Option FieldType} {S : List Value} {r : Option Value} (h : a_ret x rt S = some r) : a_len x = 1 := by
  cases x <;> first | rfl | (simp only [a_ret, reduceCtorEq] at h; done)
theorem a_pure_falls {x : Instr} {z : Int} {S T : List Value} (h : a_pure x z S = some T) : a_falls x = true := by
  cases x <;> first | rfl | (simp only [a_pure, reduceCtorEq] at h; done)
theorem a_load_falls {x : Instr} {L : aL} {v : Value} (h : a_load x L = some v) : a_falls x = true := by
  cases x <;> first | rfl | (simp only [a_load, reduceCtorEq] at h; done)
theorem a_store_falls {x : Instr} {L L' : aL} {S T : List Value} (h : a_store x L S = some (L', T)) : a_falls x = true := by
  cases x <;> first | rfl | (simp only [a_store, reduceCtorEq] at h; done)
theorem a_br_jumps {x : Instr} {S T : List Value} {t : Bool} (h : a_br x S = some (t, T)) : a_jumps x = true := by
  cases x <;> first | rfl | (simp only [a_br, reduceCtorEq] at h; done)
theorem a_br_falls {x : Instr} {S T : List Value} (h : a_br x S = some (false, T)) : a_falls x = true := by
  cases x <;> first | rfl | (simp only [a_br, reduceCtorEq] at h; done) | (simp [a_br] at h; done)
theorem a_read_falls {xs : Nat × (Nat → Int32)} {x : xI} {h1 : aH} {S T : List Value} (h : a_read xs x S h1 = some T) : a_falls x.1 = true := by
  obtain ⟨ins, xr⟩ := x
  cases ins <;> first | rfl | (simp only [a_read, reduceCtorEq] at h; done)
theorem a_write_falls {x : xI} {h1 h2 : aH} {S T : List Value} (h : a_write x S h1 = some (T, h2)) : a_falls x.1 = true := by
  obtain ⟨ins, xr⟩ := x
  cases ins <;> first | rfl | (simp only [a_write, reduceCtorEq] at h; done)
theorem a_make_falls {x : xI} {h1 h2 : aH} {S T : List Value} {kc ks : Nat} (h : a_make x S h1 = some (T, h2, kc, ks)) : a_falls x.1 = true := by
  obtain ⟨ins, xr⟩ := x
  unfold a_make at h
  split at h
  · cases h
  cases ins <;> first | rfl | (simp only [reduceCtorEq] at h; done)
theorem a_mk_of {own : String} {args : Array Value} {s : State} {x : xI} (h : a_mkS own x) (henv : ENV s) : a_mk own GW args s x := by
  obtain ⟨ins, xr⟩ := x
  cases ins
  case anewarray idx =>
    intro C T N hc
    obtain ⟨h1, h2⟩ := h C T N hc
    refine ⟨h1, ?_⟩
    rcases h2 with rfl | rfl
    · exact henv.2.1
    · exact henv.2.2.1
  case multianewarray idx k => exact ⟨h.1, h.2.1, h.2.2, a_AOA henv.2.2.2⟩
  all_goals exact h
section SG
variable {p : Program} {l : Launch} {e : Env} {R : Room} {s : State} {m : MethodId} {args : Array Value} {below : List Frame} {meth : Method} {c : Code} {H : Heap} {locs : List Loc} {cells slots : Nat} {Q : State → Prop}
variable {cc : ByteArray} {pc nL : Nat} {ls : Array Slot} {b : Nat} {ad : List Nat} {own : String} {D : va_G} {A : Nat → Prop} {h h' : aH} {xs : Nat × (Nat → Int32)} {H0 : Heap}
set_option maxHeartbeats 4000000 in
theorem s_copy {S T S' : List Value} {idx : Nat} (hx : p.tables.exec = Jvm.exec) (hb : c.code = cc) (hml : c.maxLocals = ls.size) (hown : s.vm.findClass own = some m.cls) (hts : ∀ w ∈ GW, w.before args s = true) (hc : a_callC own idx) (hd : decode cc pc = .ok (.invokestatic idx, 3)) (hRf : 1 ≤ R.frames) (hRl : 39 ≤ R.locals)
    (hW : World D A b ad h H s) (hS0 : va_S A H0 H locs) (hp : a_copy S h = some (T, h')) (hw : a_words T ≤ 8) (hS : RVs b ad S S')
    (kk : ∀ (H1 : Heap) (locs1 : List Loc) (T' : List Value), RVs b ad T T' → World D A b ad h' H1 s → va_S A H0 H1 locs1 → W p l e R s m args below meth c H1 locs1 cells slots Q (F0 m (pc + 3) ls T')) : W p l e R s m args below meth c H locs cells slots Q (F0 m pc ls S') := by
  obtain ⟨l1, l2, l3, l4⟩ := hc
  unfold a_copy at hp
  split at hp
  · rename_i n dp d sp a0 R2
    obtain ⟨R0, rfl, r0⟩ := hS.i2
    obtain ⟨vd, R1, rfl, rd, r1⟩ := r0
    obtain ⟨R3, rfl, r3⟩ := r1.i1
    obtain ⟨va, R4, rfl, ra, r4⟩ := r3
    have hlo : ∀ T : List Value, T = R2 → (R4.map fun v => v.category).sum + (nativeFrameWords "java/lang/System" "arraycopy" 5 + 11) ≤ R.locals := fun T hT => by
      have e1 : nativeFrameWords "java/lang/System" "arraycopy" 5 = 7 := by decide +kernel
      rw [r4.words, e1]
      have : a_words R2 ≤ 8 := by
        split at hp
        · split at hp
          · cases hp; exact hw
          · cases hp
        · split at hp
          · cases hp; exact hw
          · cases hp
        · cases hp
      omega
    split at hp
    · rename_i ty n0 f ty1 n1 g hca hcd
      split at hp
      · rename_i hq
        obtain ⟨q0, q00, q1, q2, q3, q4, q5⟩ := hq
        subst q0; subst q00
        cases hp
        obtain ⟨y1, y2⟩ := a_cell_spec hca
        obtain ⟨ws, tys, ax, x1, rfl, hP, hD, hK, hR, w1, w2⟩ := hW.at hcd rd
        obtain ⟨cA, c', rfl, ⟨t0, w3⟩, w4⟩ := w2
        obtain ⟨av, xv, y3, y4, y5⟩ := hR.2.2 _ _ y2
        obtain ⟨cB, c'', rfl, ⟨t1, w5⟩, w6⟩ := y5
        have e0 : va = .ref av := by
          rw [RV_ref, if_neg y1] at ra
          obtain ⟨a2, y7, y8⟩ := ra
          rw [y4] at y7
          cases y7
          exact y8
        subst e0
        obtain g1 | z := c'
        · cases (show g = g1 from w4)
          obtain f1 | z := c''
          · cases (show f = f1 from w6)
            refine va_copyi hx hb hml hown (hts _ l1) (hts _ l2) (hts _ l3) (hts _ l4) hK hP hD hS0 a0 d t1 t0 y3 w1 w5 w3 rfl q1 q2 q3 q4 q5 (fun i hi => rfl) hRf (hlo _ rfl) hd (fun H1 locs1 k1 k2 k3 => kk H1 locs1 R4 r4 ⟨_, tys, k1, k2, hK, hR.set w1 ⟨cA, _, rfl, ⟨t0, w3⟩, rfl⟩⟩ k3)
          · exact absurd w6 (by simp [AR])
        · exact absurd w4 (by simp [AR])
      · cases hp
    · rename_i ty n0 f ty1 n1 g hca hcd
      split at hp
      · rename_i hq
        obtain ⟨q0, q00, q1, q2, q3, q4, q5⟩ := hq
        subst q0; subst q00
        cases hp
        obtain ⟨y1, y2⟩ := a_cell_spec hca
        obtain ⟨ws, tys, ax, x1, rfl, hP, hD, hK, hR, w1, w2⟩ := hW.at hcd rd
        obtain ⟨cA, c', rfl, ⟨t0, w3⟩, w4⟩ := w2
        obtain ⟨av, xv, y3, y4, y5⟩ := hR.2.2 _ _ y2
        obtain ⟨cB, c'', rfl, ⟨t1, w5⟩, w6⟩ := y5
        have e0 : va = .ref av := by
          rw [RV_ref, if_neg y1] at ra
          obtain ⟨a2, y7, y8⟩ := ra
          rw [y4] at y7
          cases y7
          exact y8
        subst e0
        obtain z | g1 | z := c'
        · exact absurd w4 (by simp [AR])
        · cases (show g = g1 from w4)
          obtain z | f1 | z := c''
          · exact absurd w6 (by simp [AR])
          · cases (show f = f1 from w6)
            refine va_copyl hx hb hml hown (hts _ l1) (hts _ l2) (hts _ l3) (hts _ l4) hK hP hD hS0 a0 d t1 t0 y3 w1 w5 w3 rfl q1 q2 q3 q4 q5 (fun i hi => rfl) hRf (hlo _ rfl) hd (fun H1 locs1 k1 k2 k3 => kk H1 locs1 R4 r4 ⟨_, tys, k1, k2, hK, hR.set w1 ⟨cA, _, rfl, ⟨t0, w3⟩, rfl⟩⟩ k3)
          · exact absurd w6 (by simp [AR])
        · exact absurd w4 (by simp [AR])
      · cases hp
    · cases hp
  · cases hp
variable {MT : List aM} {C : Nat → List Value → aH → (Option Value → aH → Prop) → Prop} {tbl : List xI} {rt : Option FieldType} {Qf : Option Value → aH → Prop} {mname : String} {d : Nat}
set_option maxHeartbeats 4000000 in
/-- what M1 does from instruction i on, the JVM does -/
theorem s_walk (hx : p.tables.exec = Jvm.exec) (hb : c.code = cc) (hml : c.maxLocals = nL) (hown : s.vm.findClass own = some m.cls) (hts : ∀ w ∈ GW, w.before args s = true) (hrows : a_rows GW) (henv : ENV s) (hmn : meth.name = mname) (hT : tOK own mname cc MT tbl) (hA : ∀ q, s.heap.size ≤ q → A q) (hsc : a_scr A b xs s s.heap)
    (hRf : d + 1 ≤ R.frames) (hRl : 39 * (d + 1) ≤ R.locals) (IH : ∀ j argsA h1 Q1, C j argsA h1 Q1 → ∀ M, MT[j]? = some M → Ctr l D b xs d M argsA h1 Q1) (ad0 : List Nat)
    (hret : ∀ (i : Nat) (x : xI) (S : List Value) (h1 : aH) (r : Option Value) (H1 : Heap) (locs1 : List Loc) (ce sl : Nat) (ad1 : List Nat) (ls1 : Array Slot) (S' : List Value), tbl[i]? = some x → a_ret x.1 rt S = some r → Qf r h1 → World D A b (ad0 ++ ad1) h1 H1 s → va_S A s.heap H1 locs1 → RVs b (ad0 ++ ad1) S S' → ce ≤ R.cells → sl ≤ R.slots → decode cc x.2.1 = .ok (x.1, 1) → W p l e R s m args below meth c H1 locs1 ce sl Q (F0 m x.2.1 ls1 S')) :
    ∀ (n i : Nat) (L : aL) (S : List Value) (h1 : aH) (bc bs : Nat), wp1 xs C MT tbl rt Qf n i L S h1 bc bs → ∀ (H1 : Heap) (locs1 : List Loc) (ce sl : Nat) (ad1 : List Nat) (ls1 : Array Slot) (S' : List Value), World D A b (ad0 ++ ad1) h1 H1 s → va_S A s.heap H1 locs1 → LR b (ad0 ++ ad1) L ls1 → L.length = nL → RVs b (ad0 ++ ad1) S S' → ce + bc = R.cells → sl + bs = R.slots → W p l e R s m args below meth c H1 locs1 ce sl Q (F0 m (pcOf tbl i) ls1 S') := by
  intro n
  induction n with
  | zero => intro i L S h1 bc bs hw; exact hw.elim
  | succ n ih =>
    intro i L S h1 bc bs hw H1 locs1 ce sl ad1 ls1 S' hW hS0 hL hLn hS hce hsl
    unfold wp1 at hw
    split at hw
    · exact hw.elim
    rename_i x hxi
    have hpc : pcOf tbl i = x.2.1 := by unfold pcOf; rw [hxi]
    rw [hpc]
    obtain ⟨o1, o2, o3, o4, o5, o6, o7, o8, o9, o10, o11, o12⟩ := hT i x hxi
    have hls : ls1.size = nL := by rw [hL.1]; exact hLn
    -- a call's continuation
    have aft : ∀ (k : Nat) (M : aM), a_falls x.1 = true → x.2.2.1 = 3 → M.2.2.2.2.2.1.1 ≤ bc → M.2.2.2.2.2.1.2 ≤ bs → ∀ (r r' : Option Value) (h' : aH) (ad2 : List Nat) (H2 : Heap) (locs2 : List Loc) (R' : List Value), wp1 xs C MT tbl rt Qf n (i + 1) L (r.toList ++ S.drop k) h' (bc - M.2.2.2.2.2.1.1) (bs - M.2.2.2.2.2.1.2) → RO b ((ad0 ++ ad1) ++ ad2) r r' → RVs b (ad0 ++ ad1) (S.drop k) R' → World D A b ((ad0 ++ ad1) ++ ad2) h' H2 s → va_S A s.heap H2 locs2 → W p l e R s m args below meth c H2 locs2 (ce + M.2.2.2.2.2.1.1) (sl + M.2.2.2.2.2.1.2) Q (F0 m (x.2.1 + 3) ls1 (r'.toList ++ R')) := by
      intro k M hf h3 hm1 hm2 r r' h' ad2 H2 locs2 R' q1 q2 q3 q4 q5
      have e := o3 hf
      rw [h3] at e
      rw [← e]
      rw [List.append_assoc] at q2 q4
      have q3' : RVs b (ad0 ++ (ad1 ++ ad2)) (S.drop k) R' := by rw [← List.append_assoc]; exact q3.mono
      have hL' : LR b (ad0 ++ (ad1 ++ ad2)) L ls1 := by rw [← List.append_assoc]; exact hL.mono
      exact ih _ _ _ _ _ _ q1 H2 locs2 _ _ (ad1 ++ ad2) ls1 _ q4 q5 hL' hLn (q2.list.app q3') (by omega) (by omega)
    split at hw
    · rename_i idx hins
      obtain ⟨u1, u2, u3, M, u4, u5, u6, u7⟩ := hw
      have h3 : x.2.2.1 = 3 := by rw [o2 (by rw [hins]; rfl), hins]; rfl
      have hf : a_falls x.1 = true := by rw [hins]; rfl
      exact s_call hx hb hml hown hts henv (by rw [h3] at o1; exact o1) u4 rfl u3 u2 (Or.inl ⟨idx, hins, o9 idx hins, u1⟩) hRf hRl (IH _ _ _ _ u7 M u4) hW hS0 hA hsc hls hS (by omega) (by omega) (aft _ M hf h3 u5 u6)
    · rename_i idx hins
      have h3 : x.2.2.1 = 3 := by rw [o2 (by rw [hins]; rfl), hins]; rfl
      have hf : a_falls x.1 = true := by rw [hins]; rfl
      have o10' := o10 idx hins
      split at hw
      · rename_i hid
        rw [if_pos hid] at o10'
        obtain ⟨T, h', u1, u2, u3⟩ := hw
        have e := o3 hf
        rw [h3] at e
        refine s_copy (idx := idx) hx hb (by rw [hml, hls]) hown hts o10' (by rw [hins, h3] at o1; exact o1) (by omega) (by omega) hW hS0 u1 u2 hS (fun H2 locs2 T' q1 q2 q3 => ?_)
        rw [← e]
        exact ih _ _ _ _ _ _ u3 H2 locs2 _ _ ad1 ls1 _ q2 q3 hL hLn q1 hce hsl
      · rename_i hid
        rw [if_neg hid] at o10'
        obtain ⟨u2, u3, M, u4, u5, u6, u7⟩ := hw
        exact s_call hx hb hml hown hts henv (by rw [h3] at o1; exact o1) u4 rfl u3 u2 (Or.inr (Or.inl ⟨idx, hins, o10'⟩)) hRf hRl (IH _ _ _ _ u7 M u4) hW hS0 hA hsc hls hS (by omega) (by omega) (aft _ M hf h3 u5 u6)
    · rename_i idx hins
      have h3 : x.2.2.1 = 3 := by rw [o2 (by rw [hins]; rfl), hins]; rfl
      have hf : a_falls x.1 = true := by rw [hins]; rfl
      have o11' := o11 idx hins
      split at hw
      · rename_i hid
        rw [if_pos hid] at o11'
        obtain ⟨v, R1, u1, u2, u3⟩ := hw
        subst u1
        obtain ⟨v', R', rfl, r1, r2⟩ := hS
        obtain ⟨a, rfl⟩ := r1.isRef
        have e := o3 hf
        rw [h3] at e
        have hw8 : (R'.map fun v => v.category).sum ≤ 8 := by rw [r2.words]; exact u2
        refine W.objInit hx hb hown (hts _ o11'.1) (hts _ o11'.2.1) (hts _ o11'.2.2) rfl (by rw [hml]; exact hls) rfl (by rw [hins, h3] at o1; exact o1) (by omega) (by show 2 * 0 + _ + 12 ≤ _; omega) ?_
        refine W.eq (g2 := F0 m (pcOf tbl (i + 1)) ls1 R') (by rw [e]) ?_
        exact ih _ _ _ _ _ _ u3 H1 locs1 _ _ ad1 ls1 _ hW hS0 hL hLn r2 hce hsl
      · rename_i hid
        rw [if_neg hid] at o11'
        obtain ⟨u1, u2, u3, M, u4, u5, u6, u7⟩ := hw
        unfold a_isR at u1
        split at u1
        · rename_i v AsA hvA
          exact s_call hx hb hml hown hts henv (by rw [h3] at o1; exact o1) u4 rfl u3 u2 (Or.inr (Or.inr ⟨idx, v, AsA, hins, o11', hvA⟩)) hRf hRl (IH _ _ _ _ u7 M u4) hW hS0 hA hsc hls hS (by omega) (by omega) (aft _ M hf h3 u5 u6)
        · cases u1
    · rename_i dd lo hi offs hins
      split at hw
      · rename_i v R1
        split at hw
        · rename_i j hj
          obtain ⟨R', rfl, r1⟩ := hS.i1
          obtain ⟨g1, g2⟩ := o12 dd lo hi offs hins
          exact s_sw (pcs := pcOf tbl) hx hb (by rw [hins] at o1; exact o1) g1 g2 hj (ih _ _ _ _ _ _ hw H1 locs1 _ _ ad1 ls1 _ hW hS0 hL hLn r1 hce hsl)
        · exact hw.elim
      · exact hw.elim
    · rename_i n1 n2 n3 n4
      have hsw : a_isSw x.1 = false := by
        unfold a_isSw
        split
        · rename_i hq; exact (n4 _ _ _ _ hq).elim
        · rfl
      have hlen := o2 hsw
      rw [hlen] at o1 o3
      split at hw
      · rename_i r hr
        refine hret i x S h1 r H1 locs1 ce sl ad1 ls1 S' hxi hr hw hW hS0 hS (by omega) (by omega) ?_
        rw [a_ret_len hr] at o1
        exact o1
      split at hw
      · rename_i T hp
        obtain ⟨T', g1, g2⟩ := s_pure (l := l) (e := e) (R := R) (below := below) (meth := meth) (H := H1) (locs := locs1) (cells := ce) (slots := sl) (Q := Q) (ls := ls1) hx hb hown o1 (fun w hw => hts w (o5 w hw)) hp hS
        refine g2 ?_
        rw [← o3 (a_pure_falls hp)]
        exact ih _ _ _ _ _ _ hw H1 locs1 _ _ ad1 ls1 _ hW hS0 hL hLn g1 hce hsl
      split at hw
      · rename_i v hp
        obtain ⟨v', g1, g2⟩ := s_load (l := l) (e := e) (R := R) (s := s) (args := args) (m := m) (below := below) (meth := meth) (H := H1) (locs := locs1) (cells := ce) (slots := sl) (Q := Q) (S' := S') hx hb o1 hp hL
        refine g2 ?_
        rw [← o3 (a_load_falls hp)]
        exact ih _ _ _ _ _ _ hw H1 locs1 _ _ ad1 ls1 _ hW hS0 hL hLn ⟨v', S', rfl, g1, hS⟩ hce hsl
      split at hw
      · rename_i L' T hp
        obtain ⟨T', g1, g2⟩ := s_store (l := l) (e := e) (R := R) (s := s) (args := args) (m := m) (below := below) (meth := meth) (H := H1) (locs := locs1) (cells := ce) (slots := sl) (Q := Q) hx hb o1 hp hL hS
        refine g2 (fun ls2 hL2 => ?_)
        rw [← o3 (a_store_falls hp)]
        exact ih _ _ _ _ _ _ hw H1 locs1 _ _ ad1 ls2 _ hW hS0 hL2 (by rw [a_store_len hp]; exact hLn) g1 hce hsl
      split at hw
      · rename_i t T hp
        obtain ⟨T', g1, g2⟩ := s_br (l := l) (e := e) (R := R) (s := s) (args := args) (m := m) (below := below) (meth := meth) (H := H1) (locs := locs1) (cells := ce) (slots := sl) (Q := Q) (ls := ls1) hx hb o1 (o4 (a_br_jumps hp)) hp hS
        refine g2 ?_
        cases t with
        | true => exact ih _ _ _ _ _ _ hw H1 locs1 _ _ ad1 ls1 _ hW hS0 hL hLn g1 hce hsl
        | false =>
          show W p l e R s m args below meth c H1 locs1 ce sl Q (F0 m (x.2.1 + a_len x.1) ls1 T')
          rw [← o3 (a_br_falls hp)]
          exact ih _ _ _ _ _ _ hw H1 locs1 _ _ ad1 ls1 _ hW hS0 hL hLn g1 hce hsl
      split at hw
      · rename_i T hp
        obtain ⟨T', g1, g2⟩ := s_read (l := l) (e := e) (R := R) (m := m) (below := below) (meth := meth) (cells := ce) (slots := sl) (Q := Q) (ls := ls1) hx hb hown hts hrows o1 o6 hW hS0 hsc hp hS
        refine g2 ?_
        rw [← o3 (a_read_falls hp)]
        exact ih _ _ _ _ _ _ hw H1 locs1 _ _ ad1 ls1 _ hW hS0 hL hLn g1 hce hsl
      split at hw
      · rename_i T h' hp
        obtain ⟨T', g1, g2⟩ := s_write (l := l) (e := e) (R := R) (below := below) (cells := ce) (slots := sl) (Q := Q) (ls := ls1) hx hb hown hts hrows o1 (fun idx hi => by rw [hmn]; exact o7 idx hi) hW hS0 hp hS
        refine g2 (fun H2 locs2 q1 q2 => ?_)
        rw [← o3 (a_write_falls hp)]
        exact ih _ _ _ _ _ _ hw H2 locs2 _ _ ad1 ls1 _ q1 q2 hL hLn g1 hce hsl
      split at hw
      · rename_i T h' kc ks hp
        obtain ⟨u1, u2, u3⟩ := hw
        refine s_make hx hb hown hts hrows o1 (a_mk_of o8 henv) hW hS0 hA hp hS (by omega) (by omega) (fun H2 ad2 T' q1 q2 q3 => ?_)
        rw [← o3 (a_make_falls hp)]
        rw [List.append_assoc] at q1 q3
        have hL' : LR b (ad0 ++ (ad1 ++ ad2)) L ls1 := by rw [← List.append_assoc]; exact hL.mono
        exact ih _ _ _ _ _ _ u3 H2 locs1 _ _ (ad1 ++ ad2) ls1 _ q1 q2 hL' hLn q3 (by omega) (by omega)
      · exact hw.elim
end SG
end
section
/-! THE CONTRACTS: a call of M1 is a call of the JVM -/
theorem a_args_at {b : Nat} {ad : List Nat} : ∀ {vs vs' : List Value} (o : Nat) {k : Nat} {v : Value}, RVs b ad vs vs' → a_get (a_args vs) k = some v → ∃ v', (o + k, v') ∈ lv_args o vs' ∧ RV b ad v v'
  | [], _, o, k, v, _, h => by simp [a_args, a_get] at h
  | w :: vs, _, o, k, v, ⟨w', R', e, h1, h2⟩, h => by
    subst e
    unfold a_args at h
    have hcat := h1.cat
    split at h
    · rename_i hc
      match k, h with
      | 0, h =>
        simp only [a_get, List.getElem?_cons_zero] at h
        cases h
        exact ⟨w', by simp [lv_args], h1⟩
      | 1, h => simp [a_get] at h
      | k + 2, h =>
        obtain ⟨v', g1, g2⟩ := a_args_at (o + 2) (k := k) h2 (by simpa [a_get] using h)
        refine ⟨v', ?_, g2⟩
        have e : o + (k + 2) = o + 2 + k := by omega
        rw [e]
        simp only [lv_args]
        rw [hcat, hc]
        exact List.mem_cons_of_mem _ g1
    · rename_i hc
      have hc1 : w'.category = 1 := by
        rcases lv_cat w' with q | q
        · exact q
        · exact absurd (hcat.symm.trans q) hc
      match k, h with
      | 0, h =>
        simp only [a_get, List.getElem?_cons_zero] at h
        cases h
        exact ⟨w', by simp [lv_args], h1⟩
      | k + 1, h =>
        obtain ⟨v', g1, g2⟩ := a_args_at (o + 1) (k := k) h2 (by simpa [a_get] using h)
        refine ⟨v', ?_, g2⟩
        have e : o + (k + 1) = o + 1 + k := by omega
        rw [e]
        simp only [lv_args]
        rw [hc1]
        exact List.mem_cons_of_mem _ g1
theorem a_args_len {b : Nat} {ad : List Nat} : ∀ {vs vs' : List Value}, RVs b ad vs vs' → (lg_sl vs').length = (a_args vs).length
  | [], _, h => by rw [show _ = [] from h]; rfl
  | w :: vs, _, ⟨w', R', e, h1, h2⟩ => by
    subst e
    have ih := a_args_len h2
    unfold a_args
    simp only [lg_sl, List.flatMap_cons] at ih ⊢
    rw [h1.cat]
    split <;> simp [ih] <;> omega
theorem a_locals_len {n : Nat} {vs : List Value} (h : (a_args vs).length ≤ n) : (a_locals n vs).length = n := by
  unfold a_locals
  rw [List.length_append, List.length_replicate]; omega
theorem a_locals_LR {b : Nat} {ad : List Nat} {vs vs' : List Value} {n : Nat} (hr : RVs b ad vs vs') (h : (a_args vs).length ≤ n) : LR b ad (a_locals n vs) ((lg_sl vs' ++ List.replicate (n - (lg_sl vs').length) Slot.unset).toArray) := by
  have hl := a_args_len hr
  have hh := lv_entry vs' (n := n) (by omega)
  refine ⟨by rw [hh.1, a_locals_len h], hh.2.1, fun k v hk => ?_⟩
  have hk2 : a_get (a_args vs) k = some v := by
    have := a_get_lt hk
    unfold a_locals at this
    by_cases hlt : k < (a_args vs).length
    · rw [List.getElem?_append_left hlt] at this
      exact a_get_some this
    · rw [List.getElem?_append_right (by omega), List.getElem?_replicate] at this
      split at this <;> cases this
  obtain ⟨v', g1, g2⟩ := a_args_at 0 hr hk2
  rw [Nat.zero_add] at g1
  exact ⟨v', hh.2.2 _ g1, g2⟩
/-- what every method of the table is -/
def mOK (MT : List aM) (M : aM) : Prop := (plainName M.1.cls = true ∧ pcOf M.2.2.2.2.2.2 0 = 0) ∧ tOK M.1.cls M.1.name M.2.1 MT M.2.2.2.2.2.2
theorem World.new {D : va_G} {b : Nat} {ad ad1 : List Nat} {h : aH} {H : Heap} {s : State} {sz : Nat} (w : World D (aA ad sz) b (ad ++ ad1) h H s) : ∀ a ∈ ad1, sz ≤ a := by
  obtain ⟨ws, tys, hP, hD, hK, hR⟩ := w
  intro a ha
  have e := hR.2.1
  obtain ⟨j, hj⟩ := List.getElem?_of_mem ha
  have h1 : (ad ++ ad1)[ad.length + j]? = some a := by rw [List.getElem?_append_right (by omega), show ad.length + j - ad.length = j by omega]; exact hj
  rw [← e, List.getElem?_map] at h1
  obtain ⟨q, h2, h3⟩ := Option.map_eq_some_iff.mp h1
  have h4 := hD.2 _ _ h2
  rw [h3] at h4
  rcases h4 with h4 | h4
  · obtain ⟨i, hi⟩ := List.getElem?_of_mem h4
    have h5 : (ad ++ ad1)[i]? = some a := pf_at hi
    rw [← e, List.getElem?_map] at h5
    obtain ⟨q', h6, h7⟩ := Option.map_eq_some_iff.mp h5
    have := hD.1 _ _ _ _ h2 h6 (h3.trans h7.symm)
    have := (List.getElem?_eq_some_iff.mp hi).1
    omega
  · exact h4
set_option maxHeartbeats 4000000 in
theorem snd_call {l : Launch} {D : va_G} {b : Nat} {xs : Nat × (Nat → Int32)} {MT : List aM} {P : Nat → Nat → List Value → aH → (Option Value → aH → Prop) → Prop} (hrows : a_rows GW) (hMT : ∀ (j : Nat) (M : aM), MT[j]? = some M → mOK MT M)
    (hP : ∀ (d j : Nat) args h Q, P d j args h Q → ∀ M, MT[j]? = some M → Ctr l D b xs d M args h Q) : ∀ (d j : Nat) args h Q, call1 xs MT P d j args h Q → ∀ M, MT[j]? = some M → Ctr l D b xs d M args h Q := by
  intro d
  induction d with
  | zero => exact fun j args h Q hc => hP 0 j args h Q hc
  | succ d IH =>
    intro j argsA h Q hc M hM
    rcases hc with hc | ⟨M2, e, hn, hlen, n, hw⟩
    · exact hP _ _ _ _ _ hc M hM
    rw [hM] at e
    cases e
    obtain ⟨⟨hpl, hp0⟩, hT⟩ := hMT j M hM
    intro ad sz
    refine Met.ofW (cc := M.2.1) (maxL := M.2.2.1) (ret := M.2.2.2.1) (ws' := GW) hpl rfl ?_
    intro p e s m args below meth c s₁ B hml hv
    obtain ⟨args', rfl, hr, hsz, hWd, henv, hX, hbs, hbad⟩ := hv
    have hx := B.exec
    have hb := B.bytes
    have hret := B.returns
    have hts := atoms_spec (ws := wsM M) B.pre
    have hown : s.vm.findClass M.1.cls = some m.cls := findClass_of_methodNamed B.named
    have hmn : meth.name = M.1.name := (name_of_methodNamed B.named B.method).1
    have hlocks := B.notSynchronized
    subst hsz
    have hA : ∀ q, s.heap.size ≤ q → aA ad s.heap.size q := fun q hq => Or.inr hq
    have hsc : a_scr (aA ad s.heap.size) b xs s s.heap := ⟨hX, hbs, fun q => q.elim hbad (fun z => by omega)⟩
    rw [lg_entry_eq]
    have hw0 : World D (aA ad s.heap.size) b (ad ++ []) h s.heap s := by rw [List.append_nil]; exact hWd.weaken (fun q hq => Or.inl hq)
    have key := s_walk (l := l) (e := e) (R := rmD (d + 1) M) (below := below) (meth := meth) (D := D) (A := aA ad s.heap.size) (Q := MQ below (CtrQ D b Q ad s.heap.size) args'.toArray s M.2.2.2.2.2.1.1 M.2.2.2.2.2.1.2 (aA ad s.heap.size)) (rt := M.2.2.2.1) (Qf := Q) (d := d) (C := call1 xs MT P d) hx hb hml hown (fun w hw => hts w (List.mem_cons_of_mem _ hw)) hrows henv hmn hT hA hsc (Nat.le_refl _) (Nat.le_refl _) (fun j a9 h9 Q9 q M9 hM9 => IH j a9 h9 Q9 q M9 hM9) ad ?_ n 0 (a_locals M.2.2.1 argsA) [] h M.2.2.2.2.2.1.1 M.2.2.2.2.2.1.2 hw s.heap [] 0 0 [] _ [] hw0 va_S.rf (by rw [List.append_nil]; exact a_locals_LR hr hlen) (a_locals_len hlen) rfl (Nat.zero_add _) (Nat.zero_add _)
    · rw [hp0] at key
      exact key
    · intro i x S h1 r H1 locs1 ce sl ad1 ls1 S' hxi hrt hq hw1 hS1 hSS hce hsl hdec
      refine W.widen (k := M.2.2.2.2.2.1.1) (n := M.2.2.2.2.2.1.2) hce hsl ?_
      have hfree : ∀ q ∈ locs1, aA ad s.heap.size q.base := hS1.2.2
      have post : ∀ (r' : Option Value), RO b (ad ++ ad1) r r' → ∀ t : State, t.heap = H1 → s.WarmedH t.vm → CtrQ D b Q ad s.heap.size args'.toArray s (.returned r') t := fun r' hro t ht hwm =>
        ⟨⟨r, r', h1, ad1, rfl, hq, hro, by rw [ht]; exact (hw1.weaken (B := fun _ => True) (fun _ _ => trivial)).moved hwm.alike, hw1.new⟩, hS1.F ht⟩
      obtain ⟨ins, xr⟩ := x
      dsimp only at hrt hdec ⊢
      cases ins <;> try (simp only [a_ret, reduceCtorEq] at hrt; done)
      case return_ =>
        simp only [a_ret] at hrt
        split at hrt
        · rename_i hq9
          obtain ⟨q1, q2⟩ := hq9
          cases hrt
          subst q2
          rw [show S' = [] from hSS]
          exact W.vret hx hb (by rw [hret]; exact q1) (post none rfl) hfree hdec
        · cases hrt
      case ireturn =>
        simp only [a_ret] at hrt
        split at hrt
        · split at hrt
          · split at hrt
            · rename_i ty hty hnar
              cases hrt
              obtain ⟨R', rfl, r2⟩ := hSS.i1
              rw [show R' = [] from r2]
              exact W.zret hx hb (by rw [hret]; exact hty) hnar (post _ ⟨_, rfl, rfl⟩) hfree hdec
            · cases hrt
          · cases hrt
        · cases hrt
      case lreturn =>
        simp only [a_ret] at hrt
        split at hrt
        · split at hrt
          · rename_i hty
            cases hrt
            obtain ⟨R', rfl, r2⟩ := hSS.l1
            rw [show R' = [] from r2]
            exact W.lret hx hb (by rw [hret]; exact hty) (post _ ⟨_, rfl, rfl⟩) hfree hdec
          · cases hrt
        · cases hrt
      case areturn =>
        simp only [a_ret] at hrt
        split at hrt
        · split at hrt
          · split at hrt
            · rename_i ty hty hnar
              cases hrt
              obtain ⟨v', R', rfl, r1, r2⟩ := hSS
              rw [show R' = [] from r2]
              obtain ⟨a9, rfl⟩ := r1.isRef
              exact W.aret hx hb (by rw [hret]; exact hty) (by cases ty <;> first | exact Or.inl ⟨_, rfl⟩ | exact Or.inr ⟨_, rfl⟩ | (cases hnar)) (Or.inr ⟨_, rfl⟩) (post _ ⟨_, rfl, r1⟩) hfree hdec
            · cases hrt
          · cases hrt
        · cases hrt
end
section
/-! THE TABLES of all methods (by program: wip/whole/gen_tables.py) -/
def tX0_init : List xI := [(.aload_n 0, 0, 1, 0, 0, 0, []),
  (.invokespecial 3, 1, 3, 1000, 0, 0, []),
  (.aload_n 0, 4, 1, 0, 0, 0, []),
  (.iconst 4, 5, 1, 0, 0, 0, []),
  (.newarray .int, 6, 2, 0, 0, 0, []),
  (.putfield 9, 8, 3, 0, 5, 0, []),
  (.aload_n 0, 11, 1, 0, 0, 0, []),
  (.iconst 4, 12, 1, 0, 0, 0, []),
  (.newarray .int, 13, 2, 0, 0, 0, []),
  (.putfield 15, 15, 3, 0, 6, 0, []),
  (.return_, 18, 1, 0, 0, 0, [])]
def tX0_begin : List xI := [(.aload_n 0, 0, 1, 0, 0, 0, []),
  (.iload_n 1, 1, 1, 0, 0, 0, []),
  (.putfield 18, 2, 3, 0, 0, 0, []),
  (.aload_n 0, 5, 1, 0, 0, 0, []),
  (.iload_n 2, 6, 1, 0, 0, 0, []),
  (.putfield 22, 7, 3, 0, 1, 0, []),
  (.aload_n 0, 10, 1, 0, 0, 0, []),
  (.iconst 0, 11, 1, 0, 0, 0, []),
  (.putfield 25, 12, 3, 0, 2, 0, []),
  (.aload_n 0, 15, 1, 0, 0, 0, []),
  (.iconst 0, 16, 1, 0, 0, 0, []),
  (.putfield 28, 17, 3, 0, 3, 0, []),
  (.aload_n 0, 20, 1, 0, 0, 0, []),
  (.iconst 0, 21, 1, 0, 0, 0, []),
  (.putfield 31, 22, 3, 0, 4, 0, []),
  (.return_, 25, 1, 0, 0, 0, [])]
def tX0_addOutcome : List xI := [(.aload_n 0, 0, 1, 0, 0, 0, []),
  (.getfield 9, 1, 3, 0, 5, 0, []),
  (.aload_n 0, 4, 1, 0, 0, 0, []),
  (.getfield 25, 5, 3, 0, 2, 0, []),
  (.iload_n 1, 8, 1, 0, 0, 0, []),
  (.iastore, 9, 1, 0, 0, 0, []),
  (.aload_n 0, 10, 1, 0, 0, 0, []),
  (.getfield 15, 11, 3, 0, 6, 0, []),
  (.aload_n 0, 14, 1, 0, 0, 0, []),
  (.getfield 25, 15, 3, 0, 2, 0, []),
  (.iload_n 2, 18, 1, 0, 0, 0, []),
  (.iastore, 19, 1, 0, 0, 0, []),
  (.aload_n 0, 20, 1, 0, 0, 0, []),
  (.dup, 21, 1, 0, 0, 0, []),
  (.getfield 25, 22, 3, 0, 2, 0, []),
  (.iconst 1, 25, 1, 0, 0, 0, []),
  (.iadd, 26, 1, 0, 0, 0, []),
  (.putfield 25, 27, 3, 0, 2, 0, []),
  (.aload_n 0, 30, 1, 0, 0, 0, []),
  (.dup, 31, 1, 0, 0, 0, []),
  (.getfield 28, 32, 3, 0, 3, 0, []),
  (.iload_n 2, 35, 1, 0, 0, 0, []),
  (.iadd, 36, 1, 0, 0, 0, []),
  (.putfield 28, 37, 3, 0, 3, 0, []),
  (.aload_n 0, 40, 1, 0, 0, 0, []),
  (.dup, 41, 1, 0, 0, 0, []),
  (.getfield 31, 42, 3, 0, 4, 0, []),
  (.iconst 1, 45, 1, 0, 0, 0, []),
  (.iload_n 1, 46, 1, 0, 0, 0, []),
  (.ishl, 47, 1, 0, 0, 0, []),
  (.ior, 48, 1, 0, 0, 0, []),
  (.putfield 31, 49, 3, 0, 4, 0, []),
  (.return_, 52, 1, 0, 0, 0, [])]
def tX0_become : List xI := [(.aload_n 0, 0, 1, 0, 0, 0, []),
  (.aload_n 1, 1, 1, 0, 0, 0, []),
  (.getfield 18, 2, 3, 0, 0, 0, []),
  (.aload_n 1, 5, 1, 0, 0, 0, []),
  (.getfield 22, 6, 3, 0, 1, 0, []),
  (.invokevirtual 34, 9, 3, 1, 3, 0, [0]),
  (.iconst 0, 12, 1, 0, 0, 0, []),
  (.istore_n 2, 13, 1, 0, 0, 0, []),
  (.iload_n 2, 14, 1, 0, 0, 0, []),
  (.aload_n 1, 15, 1, 0, 0, 0, []),
  (.getfield 25, 16, 3, 0, 2, 0, []),
  (.if_icmp .ge 25, 19, 3, 24, 0, 0, []),
  (.aload_n 0, 22, 1, 0, 0, 0, []),
  (.aload_n 1, 23, 1, 0, 0, 0, []),
  (.getfield 9, 24, 3, 0, 5, 0, []),
  (.iload_n 2, 27, 1, 0, 0, 0, []),
  (.iaload, 28, 1, 0, 0, 0, []),
  (.aload_n 1, 29, 1, 0, 0, 0, []),
  (.getfield 15, 30, 3, 0, 6, 0, []),
  (.iload_n 2, 33, 1, 0, 0, 0, []),
  (.iaload, 34, 1, 0, 0, 0, []),
  (.invokevirtual 38, 35, 3, 2, 3, 0, [0]),
  (.iinc 2 1, 38, 3, 0, 0, 0, []),
  (.goto (-27), 41, 3, 8, 0, 0, []),
  (.return_, 44, 1, 0, 0, 0, [])]
def tX0_room : List xI := [(.aload_n 0, 0, 1, 0, 0, 0, []),
  (.invokevirtual 41, 1, 3, 5, 1, 0, [1]),
  (.ifCond .eq 7, 4, 3, 5, 0, 0, []),
  (.iconst 1, 7, 1, 0, 0, 0, []),
  (.goto 4, 8, 3, 6, 0, 0, []),
  (.iconst 4, 11, 1, 0, 0, 0, []),
  (.ireturn, 12, 1, 0, 0, 0, [])]
def tX0_isSingle : List xI := [(.aload_n 0, 0, 1, 0, 0, 0, []),
  (.getfield 18, 1, 3, 0, 0, 0, []),
  (.iconst 1, 4, 1, 0, 0, 0, []),
  (.if_icmp .eq 11, 5, 3, 8, 0, 0, []),
  (.aload_n 0, 8, 1, 0, 0, 0, []),
  (.getfield 18, 9, 3, 0, 0, 0, []),
  (.iconst 3, 12, 1, 0, 0, 0, []),
  (.if_icmp .ne 7, 13, 3, 10, 0, 0, []),
  (.iconst 1, 16, 1, 0, 0, 0, []),
  (.goto 4, 17, 3, 11, 0, 0, []),
  (.iconst 0, 20, 1, 0, 0, 0, []),
  (.ireturn, 21, 1, 0, 0, 0, [])]
def tX0_staysIn : List xI := [(.aload_n 0, 0, 1, 0, 0, 0, []),
  (.getfield 31, 1, 3, 0, 4, 0, []),
  (.iload_n 1, 4, 1, 0, 0, 0, []),
  (.iconst (-1), 5, 1, 0, 0, 0, []),
  (.ixor, 6, 1, 0, 0, 0, []),
  (.iand, 7, 1, 0, 0, 0, []),
  (.ifCond .ne 7, 8, 3, 9, 0, 0, []),
  (.iconst 1, 11, 1, 0, 0, 0, []),
  (.goto 4, 12, 3, 10, 0, 0, []),
  (.iconst 0, 15, 1, 0, 0, 0, []),
  (.ireturn, 16, 1, 0, 0, 0, [])]
def tX0_mean : List xI := [(.lconst 0, 0, 1, 0, 0, 0, []),
  (.lstore_n 2, 1, 1, 0, 0, 0, []),
  (.iconst 0, 2, 1, 0, 0, 0, []),
  (.istore 4, 3, 2, 0, 0, 0, []),
  (.iload 4, 5, 2, 0, 0, 0, []),
  (.aload_n 0, 7, 1, 0, 0, 0, []),
  (.getfield 25, 8, 3, 0, 2, 0, []),
  (.if_icmp .ge 30, 11, 3, 25, 0, 0, []),
  (.lload_n 2, 14, 1, 0, 0, 0, []),
  (.aload_n 0, 15, 1, 0, 0, 0, []),
  (.getfield 15, 16, 3, 0, 6, 0, []),
  (.iload 4, 19, 2, 0, 0, 0, []),
  (.iaload, 21, 1, 0, 0, 0, []),
  (.i2l, 22, 1, 0, 0, 0, []),
  (.aload_n 1, 23, 1, 0, 0, 0, []),
  (.aload_n 0, 24, 1, 0, 0, 0, []),
  (.getfield 9, 25, 3, 0, 5, 0, []),
  (.iload 4, 28, 2, 0, 0, 0, []),
  (.iaload, 30, 1, 0, 0, 0, []),
  (.laload, 31, 1, 0, 0, 0, []),
  (.lmul, 32, 1, 0, 0, 0, []),
  (.ladd, 33, 1, 0, 0, 0, []),
  (.lstore_n 2, 34, 1, 0, 0, 0, []),
  (.iinc 4 1, 35, 3, 0, 0, 0, []),
  (.goto (-33), 38, 3, 4, 0, 0, []),
  (.lload_n 2, 41, 1, 0, 0, 0, []),
  (.lreturn, 42, 1, 0, 0, 0, [])]
def tX0_heaviness : List xI := [(.aload_n 0, 0, 1, 0, 0, 0, []),
  (.getfield 22, 1, 3, 0, 1, 0, []),
  (.iconst 5, 4, 1, 0, 0, 0, []),
  (.aload_n 0, 5, 1, 0, 0, 0, []),
  (.getfield 25, 6, 3, 0, 2, 0, []),
  (.imul, 9, 1, 0, 0, 0, []),
  (.iadd, 10, 1, 0, 0, 0, []),
  (.istore_n 1, 11, 1, 0, 0, 0, []),
  (.aload_n 0, 12, 1, 0, 0, 0, []),
  (.getfield 18, 13, 3, 0, 0, 0, []),
  (.iconst 2, 16, 1, 0, 0, 0, []),
  (.if_icmp .ne 9, 17, 3, 17, 0, 0, []),
  (.iload_n 1, 20, 1, 0, 0, 0, []),
  (.bipush 7, 21, 2, 0, 0, 0, []),
  (.iadd, 23, 1, 0, 0, 0, []),
  (.i2l, 24, 1, 0, 0, 0, []),
  (.lreturn, 25, 1, 0, 0, 0, []),
  (.aload_n 0, 26, 1, 0, 0, 0, []),
  (.invokevirtual 41, 27, 3, 5, 1, 0, [1]),
  (.ifCond .ne 6, 30, 3, 23, 0, 0, []),
  (.iload_n 1, 33, 1, 0, 0, 0, []),
  (.i2l, 34, 1, 0, 0, 0, []),
  (.lreturn, 35, 1, 0, 0, 0, []),
  (.aload_n 0, 36, 1, 0, 0, 0, []),
  (.getfield 18, 37, 3, 0, 0, 0, []),
  (.iconst 3, 40, 1, 0, 0, 0, []),
  (.if_icmp .ne 13, 41, 3, 34, 0, 0, []),
  (.iconst 2, 44, 1, 0, 0, 0, []),
  (.iload_n 1, 45, 1, 0, 0, 0, []),
  (.bipush 50, 46, 2, 0, 0, 0, []),
  (.iadd, 48, 1, 0, 0, 0, []),
  (.imul, 49, 1, 0, 0, 0, []),
  (.i2l, 50, 1, 0, 0, 0, []),
  (.goto 8, 51, 3, 38, 0, 0, []),
  (.iload_n 1, 54, 1, 0, 0, 0, []),
  (.bipush 50, 55, 2, 0, 0, 0, []),
  (.iadd, 57, 1, 0, 0, 0, []),
  (.i2l, 58, 1, 0, 0, 0, []),
  (.lreturn, 59, 1, 0, 0, 0, [])]
def tX1_init : List xI := [(.aload_n 0, 0, 1, 0, 0, 0, []),
  (.invokespecial 3, 1, 3, 1000, 0, 0, []),
  (.aload_n 0, 4, 1, 0, 0, 0, []),
  (.iconst 5, 5, 1, 0, 0, 0, []),
  (.bipush 6, 6, 2, 0, 0, 0, []),
  (.multianewarray 9 2, 8, 4, 0, 0, 0, []),
  (.putfield 11, 12, 3, 1, 0, 0, []),
  (.aload_n 0, 15, 1, 0, 0, 0, []),
  (.bipush 10, 16, 2, 0, 0, 0, []),
  (.newarray .int, 18, 2, 0, 0, 0, []),
  (.putfield 16, 20, 3, 1, 1, 0, []),
  (.aload_n 0, 23, 1, 0, 0, 0, []),
  (.iconst 5, 24, 1, 0, 0, 0, []),
  (.newarray .int, 25, 2, 0, 0, 0, []),
  (.putfield 20, 27, 3, 1, 2, 0, []),
  (.return_, 30, 1, 0, 0, 0, [])]
def tX1_open : List xI := [(.iload_n 1, 0, 1, 0, 0, 0, []),
  (.invokestatic 23, 1, 3, 186, 1, 0, [1]),
  (.iconst 5, 4, 1, 0, 0, 0, []),
  (.if_icmp .le 5, 5, 3, 6, 0, 0, []),
  (.iconst 0, 8, 1, 0, 0, 0, []),
  (.ireturn, 9, 1, 0, 0, 0, []),
  (.aload_n 0, 10, 1, 0, 0, 0, []),
  (.iconst 0, 11, 1, 0, 0, 0, []),
  (.putfield 29, 12, 3, 1, 3, 0, []),
  (.iconst 0, 15, 1, 0, 0, 0, []),
  (.istore_n 2, 16, 1, 0, 0, 0, []),
  (.iload_n 2, 17, 1, 0, 0, 0, []),
  (.bipush 10, 18, 2, 0, 0, 0, []),
  (.if_icmp .ge 54, 20, 3, 43, 0, 0, []),
  (.aload_n 0, 23, 1, 0, 0, 0, []),
  (.getfield 16, 24, 3, 1, 1, 0, []),
  (.iload_n 2, 27, 1, 0, 0, 0, []),
  (.iconst (-1), 28, 1, 0, 0, 0, []),
  (.iastore, 29, 1, 0, 0, 0, []),
  (.iload_n 1, 30, 1, 0, 0, 0, []),
  (.iload_n 2, 31, 1, 0, 0, 0, []),
  (.invokestatic 33, 32, 3, 108, 2, 0, [1]),
  (.ifCond .eq 33, 35, 3, 41, 0, 0, []),
  (.aload_n 0, 38, 1, 0, 0, 0, []),
  (.getfield 16, 39, 3, 1, 1, 0, []),
  (.iload_n 2, 42, 1, 0, 0, 0, []),
  (.aload_n 0, 43, 1, 0, 0, 0, []),
  (.getfield 29, 44, 3, 1, 3, 0, []),
  (.iastore, 47, 1, 0, 0, 0, []),
  (.aload_n 0, 48, 1, 0, 0, 0, []),
  (.getfield 20, 49, 3, 1, 2, 0, []),
  (.aload_n 0, 52, 1, 0, 0, 0, []),
  (.getfield 29, 53, 3, 1, 3, 0, []),
  (.iload_n 2, 56, 1, 0, 0, 0, []),
  (.iastore, 57, 1, 0, 0, 0, []),
  (.aload_n 0, 58, 1, 0, 0, 0, []),
  (.dup, 59, 1, 0, 0, 0, []),
  (.getfield 29, 60, 3, 1, 3, 0, []),
  (.iconst 1, 63, 1, 0, 0, 0, []),
  (.iadd, 64, 1, 0, 0, 0, []),
  (.putfield 29, 65, 3, 1, 3, 0, []),
  (.iinc 2 1, 68, 3, 0, 0, 0, []),
  (.goto (-54), 71, 3, 11, 0, 0, []),
  (.iconst 1, 74, 1, 0, 0, 0, []),
  (.ireturn, 75, 1, 0, 0, 0, [])]
def tX1_write : List xI := [(.aload_n 0, 0, 1, 0, 0, 0, []),
  (.getfield 11, 1, 3, 1, 0, 0, []),
  (.iload_n 1, 4, 1, 0, 0, 0, []),
  (.aaload, 5, 1, 0, 0, 0, []),
  (.lconst 0, 6, 1, 0, 0, 0, []),
  (.invokestatic 37, 7, 3, 187, 2, 0, [0]),
  (.aload_n 0, 10, 1, 0, 0, 0, []),
  (.getfield 11, 11, 3, 1, 0, 0, []),
  (.iload_n 1, 14, 1, 0, 0, 0, []),
  (.aaload, 15, 1, 0, 0, 0, []),
  (.iload_n 1, 16, 1, 0, 0, 0, []),
  (.ldc2_w 43, 17, 3, 0, 0, 12, []),
  (.lastore, 20, 1, 0, 0, 0, []),
  (.iconst 0, 21, 1, 0, 0, 0, []),
  (.istore 5, 22, 2, 0, 0, 0, []),
  (.iload 5, 24, 2, 0, 0, 0, []),
  (.aload_n 2, 26, 1, 0, 0, 0, []),
  (.getfield 45, 27, 3, 0, 2, 0, []),
  (.if_icmp .ge 48, 30, 3, 45, 0, 0, []),
  (.aload_n 0, 33, 1, 0, 0, 0, []),
  (.getfield 16, 34, 3, 1, 1, 0, []),
  (.aload_n 2, 37, 1, 0, 0, 0, []),
  (.getfield 50, 38, 3, 0, 5, 0, []),
  (.iload 5, 41, 2, 0, 0, 0, []),
  (.iaload, 43, 1, 0, 0, 0, []),
  (.iaload, 44, 1, 0, 0, 0, []),
  (.istore 6, 45, 2, 0, 0, 0, []),
  (.iload 6, 47, 2, 0, 0, 0, []),
  (.ifCond .lt 23, 49, 3, 43, 0, 0, []),
  (.aload_n 0, 52, 1, 0, 0, 0, []),
  (.getfield 11, 53, 3, 1, 0, 0, []),
  (.iload_n 1, 56, 1, 0, 0, 0, []),
  (.aaload, 57, 1, 0, 0, 0, []),
  (.iload 6, 58, 2, 0, 0, 0, []),
  (.dup2, 60, 1, 0, 0, 0, []),
  (.laload, 61, 1, 0, 0, 0, []),
  (.aload_n 2, 62, 1, 0, 0, 0, []),
  (.getfield 53, 63, 3, 0, 6, 0, []),
  (.iload 5, 66, 2, 0, 0, 0, []),
  (.iaload, 68, 1, 0, 0, 0, []),
  (.i2l, 69, 1, 0, 0, 0, []),
  (.lsub, 70, 1, 0, 0, 0, []),
  (.lastore, 71, 1, 0, 0, 0, []),
  (.iinc 5 1, 72, 3, 0, 0, 0, []),
  (.goto (-51), 75, 3, 15, 0, 0, []),
  (.aload_n 0, 78, 1, 0, 0, 0, []),
  (.getfield 11, 79, 3, 1, 0, 0, []),
  (.iload_n 1, 82, 1, 0, 0, 0, []),
  (.aaload, 83, 1, 0, 0, 0, []),
  (.aload_n 0, 84, 1, 0, 0, 0, []),
  (.getfield 29, 85, 3, 1, 3, 0, []),
  (.lload_n 3, 88, 1, 0, 0, 0, []),
  (.lastore, 89, 1, 0, 0, 0, []),
  (.return_, 90, 1, 0, 0, 0, [])]
def tX1_solve : List xI := [(.aload_n 0, 0, 1, 0, 0, 0, []),
  (.lconst 1, 1, 1, 0, 0, 0, []),
  (.putfield 56, 2, 3, 1, 4, 0, []),
  (.iconst 0, 5, 1, 0, 0, 0, []),
  (.istore_n 1, 6, 1, 0, 0, 0, []),
  (.iload_n 1, 7, 1, 0, 0, 0, []),
  (.aload_n 0, 8, 1, 0, 0, 0, []),
  (.getfield 29, 9, 3, 1, 3, 0, []),
  (.if_icmp .ge 55, 12, 3, 37, 0, 0, []),
  (.aload_n 0, 15, 1, 0, 0, 0, []),
  (.getfield 11, 16, 3, 1, 0, 0, []),
  (.iload_n 1, 19, 1, 0, 0, 0, []),
  (.aaload, 20, 1, 0, 0, 0, []),
  (.iload_n 1, 21, 1, 0, 0, 0, []),
  (.laload, 22, 1, 0, 0, 0, []),
  (.lstore_n 2, 23, 1, 0, 0, 0, []),
  (.iconst 0, 24, 1, 0, 0, 0, []),
  (.istore 4, 25, 2, 0, 0, 0, []),
  (.iload 4, 27, 2, 0, 0, 0, []),
  (.aload_n 0, 29, 1, 0, 0, 0, []),
  (.getfield 29, 30, 3, 1, 3, 0, []),
  (.if_icmp .ge 23, 33, 3, 32, 0, 0, []),
  (.iload 4, 36, 2, 0, 0, 0, []),
  (.iload_n 1, 38, 1, 0, 0, 0, []),
  (.if_icmp .eq 11, 39, 3, 30, 0, 0, []),
  (.aload_n 0, 42, 1, 0, 0, 0, []),
  (.iload 4, 43, 2, 0, 0, 0, []),
  (.iload_n 1, 45, 1, 0, 0, 0, []),
  (.lload_n 2, 46, 1, 0, 0, 0, []),
  (.invokevirtual 60, 47, 3, 13, 4, 1, [0]),
  (.iinc 4 1, 50, 3, 0, 0, 0, []),
  (.goto (-26), 53, 3, 18, 0, 0, []),
  (.aload_n 0, 56, 1, 0, 0, 0, []),
  (.lload_n 2, 57, 1, 0, 0, 0, []),
  (.putfield 56, 58, 3, 1, 4, 0, []),
  (.iinc 1 1, 61, 3, 0, 0, 0, []),
  (.goto (-57), 64, 3, 5, 0, 0, []),
  (.return_, 67, 1, 0, 0, 0, [])]
def tX1_clear : List xI := [(.aload_n 0, 0, 1, 0, 0, 0, []),
  (.getfield 56, 1, 3, 1, 4, 0, []),
  (.lconst 0, 4, 1, 0, 0, 0, []),
  (.lcmp, 5, 1, 0, 0, 0, []),
  (.ifCond .ne 4, 6, 3, 6, 0, 0, []),
  (.return_, 9, 1, 0, 0, 0, []),
  (.aload_n 0, 10, 1, 0, 0, 0, []),
  (.getfield 11, 11, 3, 1, 0, 0, []),
  (.iload_n 1, 14, 1, 0, 0, 0, []),
  (.aaload, 15, 1, 0, 0, 0, []),
  (.iload_n 2, 16, 1, 0, 0, 0, []),
  (.laload, 17, 1, 0, 0, 0, []),
  (.lstore 5, 18, 2, 0, 0, 0, []),
  (.iconst 0, 20, 1, 0, 0, 0, []),
  (.istore 7, 21, 2, 0, 0, 0, []),
  (.iload 7, 23, 2, 0, 0, 0, []),
  (.aload_n 0, 25, 1, 0, 0, 0, []),
  (.getfield 29, 26, 3, 1, 3, 0, []),
  (.if_icmp .gt 47, 29, 3, 47, 0, 0, []),
  (.aload_n 0, 32, 1, 0, 0, 0, []),
  (.getfield 11, 33, 3, 1, 0, 0, []),
  (.iload_n 1, 36, 1, 0, 0, 0, []),
  (.aaload, 37, 1, 0, 0, 0, []),
  (.iload 7, 38, 2, 0, 0, 0, []),
  (.lload_n 3, 40, 1, 0, 0, 0, []),
  (.aload_n 0, 41, 1, 0, 0, 0, []),
  (.getfield 11, 42, 3, 1, 0, 0, []),
  (.iload_n 1, 45, 1, 0, 0, 0, []),
  (.aaload, 46, 1, 0, 0, 0, []),
  (.iload 7, 47, 2, 0, 0, 0, []),
  (.laload, 49, 1, 0, 0, 0, []),
  (.lmul, 50, 1, 0, 0, 0, []),
  (.lload 5, 51, 2, 0, 0, 0, []),
  (.aload_n 0, 53, 1, 0, 0, 0, []),
  (.getfield 11, 54, 3, 1, 0, 0, []),
  (.iload_n 2, 57, 1, 0, 0, 0, []),
  (.aaload, 58, 1, 0, 0, 0, []),
  (.iload 7, 59, 2, 0, 0, 0, []),
  (.laload, 61, 1, 0, 0, 0, []),
  (.lmul, 62, 1, 0, 0, 0, []),
  (.lsub, 63, 1, 0, 0, 0, []),
  (.aload_n 0, 64, 1, 0, 0, 0, []),
  (.getfield 56, 65, 3, 1, 4, 0, []),
  (.ldiv, 68, 1, 0, 0, 0, []),
  (.lastore, 69, 1, 0, 0, 0, []),
  (.iinc 7 1, 70, 3, 0, 0, 0, []),
  (.goto (-50), 73, 3, 15, 0, 0, []),
  (.return_, 76, 1, 0, 0, 0, [])]
def tX1_upperOf : List xI := [(.aload_n 0, 0, 1, 0, 0, 0, []),
  (.getfield 11, 1, 3, 1, 0, 0, []),
  (.iload_n 1, 4, 1, 0, 0, 0, []),
  (.aaload, 5, 1, 0, 0, 0, []),
  (.aload_n 0, 6, 1, 0, 0, 0, []),
  (.getfield 29, 7, 3, 1, 3, 0, []),
  (.laload, 10, 1, 0, 0, 0, []),
  (.lreturn, 11, 1, 0, 0, 0, [])]
def tX2_init : List xI := [(.aload_n 0, 0, 1, 0, 0, 0, []),
  (.invokespecial 3, 1, 3, 1000, 0, 0, []),
  (.aload_n 0, 4, 1, 0, 0, 0, []),
  (.bipush 10, 5, 2, 0, 0, 0, []),
  (.newarray .int, 7, 2, 0, 0, 0, []),
  (.putfield 9, 9, 3, 2, 3, 0, []),
  (.aload_n 0, 12, 1, 0, 0, 0, []),
  (.aload_n 1, 13, 1, 0, 0, 0, []),
  (.putfield 15, 14, 3, 2, 0, 0, []),
  (.aload_n 0, 17, 1, 0, 0, 0, []),
  (.aload_n 2, 18, 1, 0, 0, 0, []),
  (.putfield 19, 19, 3, 2, 1, 0, []),
  (.return_, 22, 1, 0, 0, 0, [])]
def tX2_settle : List xI := [(.aload_n 0, 0, 1, 0, 0, 0, []),
  (.getfield 23, 1, 3, 2, 2, 0, []),
  (.aload_n 0, 4, 1, 0, 0, 0, []),
  (.getfield 15, 5, 3, 2, 0, 0, []),
  (.getfield 27, 8, 3, 10, 2, 0, []),
  (.if_icmp .ne 4, 11, 3, 7, 0, 0, []),
  (.return_, 14, 1, 0, 0, 0, []),
  (.aload_n 0, 15, 1, 0, 0, 0, []),
  (.aload_n 0, 16, 1, 0, 0, 0, []),
  (.getfield 15, 17, 3, 2, 0, 0, []),
  (.getfield 27, 20, 3, 10, 2, 0, []),
  (.putfield 23, 23, 3, 2, 2, 0, []),
  (.aload_n 0, 26, 1, 0, 0, 0, []),
  (.getfield 9, 27, 3, 2, 3, 0, []),
  (.iconst 0, 30, 1, 0, 0, 0, []),
  (.invokestatic 32, 31, 3, 188, 2, 0, [0]),
  (.aload_n 0, 34, 1, 0, 0, 0, []),
  (.getfield 15, 35, 3, 2, 0, 0, []),
  (.getfield 38, 38, 3, 10, 1, 0, []),
  (.istore_n 1, 41, 1, 0, 0, 0, []),
  (.iconst 1, 42, 1, 0, 0, 0, []),
  (.istore_n 2, 43, 1, 0, 0, 0, []),
  (.iconst 1, 44, 1, 0, 0, 0, []),
  (.istore_n 3, 45, 1, 0, 0, 0, []),
  (.iload_n 3, 46, 1, 0, 0, 0, []),
  (.bipush 10, 47, 2, 0, 0, 0, []),
  (.if_icmp .gt 88, 49, 3, 71, 0, 0, []),
  (.iload_n 2, 52, 1, 0, 0, 0, []),
  (.ifCond .eq 84, 53, 3, 71, 0, 0, []),
  (.iload_n 1, 56, 1, 0, 0, 0, []),
  (.istore 4, 57, 2, 0, 0, 0, []),
  (.iconst 0, 59, 1, 0, 0, 0, []),
  (.istore 5, 60, 2, 0, 0, 0, []),
  (.iload 5, 62, 2, 0, 0, 0, []),
  (.aload_n 0, 64, 1, 0, 0, 0, []),
  (.getfield 15, 65, 3, 2, 0, 0, []),
  (.getfield 41, 68, 3, 10, 0, 0, []),
  (.if_icmp .ge 45, 71, 3, 60, 0, 0, []),
  (.iload_n 1, 74, 1, 0, 0, 0, []),
  (.iload 5, 75, 2, 0, 0, 0, []),
  (.invokestatic 44, 77, 3, 108, 2, 0, [1]),
  (.ifCond .ne 30, 80, 3, 58, 0, 0, []),
  (.aload_n 0, 83, 1, 0, 0, 0, []),
  (.iload 5, 84, 2, 0, 0, 0, []),
  (.iload_n 1, 86, 1, 0, 0, 0, []),
  (.invokevirtual 48, 87, 3, 17, 3, 2, [1]),
  (.ifCond .lt 20, 90, 3, 58, 0, 0, []),
  (.aload_n 0, 93, 1, 0, 0, 0, []),
  (.getfield 9, 94, 3, 2, 3, 0, []),
  (.iload 5, 97, 2, 0, 0, 0, []),
  (.iload_n 3, 99, 1, 0, 0, 0, []),
  (.iastore, 100, 1, 0, 0, 0, []),
  (.iload 4, 101, 2, 0, 0, 0, []),
  (.iconst 1, 103, 1, 0, 0, 0, []),
  (.iload 5, 104, 2, 0, 0, 0, []),
  (.ishl, 106, 1, 0, 0, 0, []),
  (.ior, 107, 1, 0, 0, 0, []),
  (.istore 4, 108, 2, 0, 0, 0, []),
  (.iinc 5 1, 110, 3, 0, 0, 0, []),
  (.goto (-51), 113, 3, 33, 0, 0, []),
  (.iload 4, 116, 2, 0, 0, 0, []),
  (.iload_n 1, 118, 1, 0, 0, 0, []),
  (.if_icmp .eq 7, 119, 3, 65, 0, 0, []),
  (.iconst 1, 122, 1, 0, 0, 0, []),
  (.goto 4, 123, 3, 66, 0, 0, []),
  (.iconst 0, 126, 1, 0, 0, 0, []),
  (.istore_n 2, 127, 1, 0, 0, 0, []),
  (.iload 4, 128, 2, 0, 0, 0, []),
  (.istore_n 1, 130, 1, 0, 0, 0, []),
  (.iinc 3 1, 131, 3, 0, 0, 0, []),
  (.goto (-88), 134, 3, 24, 0, 0, []),
  (.return_, 137, 1, 0, 0, 0, [])]
def tX2_tightActInto : List xI := [(.iconst 0, 0, 1, 0, 0, 0, []),
  (.istore_n 3, 1, 1, 0, 0, 0, []),
  (.iload_n 3, 2, 1, 0, 0, 0, []),
  (.aload_n 0, 3, 1, 0, 0, 0, []),
  (.getfield 15, 4, 3, 2, 0, 0, []),
  (.getfield 52, 7, 3, 10, 3, 0, []),
  (.iload_n 1, 10, 1, 0, 0, 0, []),
  (.iaload, 11, 1, 0, 0, 0, []),
  (.if_icmp .ge 40, 12, 3, 28, 0, 0, []),
  (.aload_n 0, 15, 1, 0, 0, 0, []),
  (.getfield 15, 16, 3, 2, 0, 0, []),
  (.iload_n 1, 19, 1, 0, 0, 0, []),
  (.iload_n 3, 20, 1, 0, 0, 0, []),
  (.invokevirtual 55, 21, 3, 62, 3, 10, [7]),
  (.getfield 59, 24, 3, 0, 4, 0, []),
  (.iload_n 2, 27, 1, 0, 0, 0, []),
  (.iand, 28, 1, 0, 0, 0, []),
  (.ifCond .eq 17, 29, 3, 26, 0, 0, []),
  (.aload_n 0, 32, 1, 0, 0, 0, []),
  (.getfield 19, 33, 3, 2, 1, 0, []),
  (.iload_n 1, 36, 1, 0, 0, 0, []),
  (.iload_n 3, 37, 1, 0, 0, 0, []),
  (.invokevirtual 64, 38, 3, 55, 3, 8, [1]),
  (.ifCond .eq 5, 41, 3, 26, 0, 0, []),
  (.iload_n 3, 44, 1, 0, 0, 0, []),
  (.ireturn, 45, 1, 0, 0, 0, []),
  (.iinc 3 1, 46, 3, 0, 0, 0, []),
  (.goto (-47), 49, 3, 2, 0, 0, []),
  (.iconst (-1), 52, 1, 0, 0, 0, []),
  (.ireturn, 53, 1, 0, 0, 0, [])]
def tX2_pick : List xI := [(.aload_n 0, 0, 1, 0, 0, 0, []),
  (.getfield 15, 1, 3, 2, 0, 0, []),
  (.getfield 38, 4, 3, 10, 1, 0, []),
  (.iload_n 1, 7, 1, 0, 0, 0, []),
  (.invokestatic 44, 8, 3, 108, 2, 0, [1]),
  (.ifCond .eq 5, 11, 3, 8, 0, 0, []),
  (.iconst 0, 14, 1, 0, 0, 0, []),
  (.ireturn, 15, 1, 0, 0, 0, []),
  (.aload_n 0, 16, 1, 0, 0, 0, []),
  (.getfield 19, 17, 3, 2, 1, 0, []),
  (.getfield 69, 20, 3, 8, 9, 0, []),
  (.iload_n 1, 23, 1, 0, 0, 0, []),
  (.invokestatic 44, 24, 3, 108, 2, 0, [1]),
  (.ifCond .ne 14, 27, 3, 19, 0, 0, []),
  (.aload_n 0, 30, 1, 0, 0, 0, []),
  (.getfield 15, 31, 3, 2, 0, 0, []),
  (.iload_n 1, 34, 1, 0, 0, 0, []),
  (.invokevirtual 72, 35, 3, 63, 2, 10, [1]),
  (.ifCond .eq 7, 38, 3, 21, 0, 0, []),
  (.iconst 1, 41, 1, 0, 0, 0, []),
  (.goto 4, 42, 3, 22, 0, 0, []),
  (.iconst 0, 45, 1, 0, 0, 0, []),
  (.istore_n 2, 46, 1, 0, 0, 0, []),
  (.aload_n 0, 47, 1, 0, 0, 0, []),
  (.iload_n 1, 48, 1, 0, 0, 0, []),
  (.iload_n 2, 49, 1, 0, 0, 0, []),
  (.ifCond .eq 13, 50, 3, 31, 0, 0, []),
  (.aload_n 0, 53, 1, 0, 0, 0, []),
  (.getfield 15, 54, 3, 2, 0, 0, []),
  (.invokevirtual 76, 57, 3, 65, 1, 10, [1]),
  (.goto 8, 60, 3, 34, 0, 0, []),
  (.aload_n 0, 63, 1, 0, 0, 0, []),
  (.iload_n 1, 64, 1, 0, 0, 0, []),
  (.invokevirtual 80, 65, 3, 19, 2, 2, [1]),
  (.invokevirtual 48, 68, 3, 17, 3, 2, [1]),
  (.ireturn, 71, 1, 0, 0, 0, [])]
def tX2_nearerThan : List xI := [(.iconst 0, 0, 1, 0, 0, 0, []),
  (.istore_n 2, 1, 1, 0, 0, 0, []),
  (.iconst 0, 2, 1, 0, 0, 0, []),
  (.istore_n 3, 3, 1, 0, 0, 0, []),
  (.iload_n 3, 4, 1, 0, 0, 0, []),
  (.aload_n 0, 5, 1, 0, 0, 0, []),
  (.getfield 15, 6, 3, 2, 0, 0, []),
  (.getfield 41, 9, 3, 10, 0, 0, []),
  (.if_icmp .ge 48, 12, 3, 34, 0, 0, []),
  (.iload_n 2, 15, 1, 0, 0, 0, []),
  (.aload_n 0, 16, 1, 0, 0, 0, []),
  (.getfield 19, 17, 3, 2, 1, 0, []),
  (.getfield 69, 20, 3, 8, 9, 0, []),
  (.iload_n 3, 23, 1, 0, 0, 0, []),
  (.invokestatic 44, 24, 3, 108, 2, 0, [1]),
  (.ifCond .ne 24, 27, 3, 29, 0, 0, []),
  (.aload_n 0, 30, 1, 0, 0, 0, []),
  (.getfield 9, 31, 3, 2, 3, 0, []),
  (.iload_n 3, 34, 1, 0, 0, 0, []),
  (.iaload, 35, 1, 0, 0, 0, []),
  (.aload_n 0, 36, 1, 0, 0, 0, []),
  (.getfield 9, 37, 3, 2, 3, 0, []),
  (.iload_n 1, 40, 1, 0, 0, 0, []),
  (.iaload, 41, 1, 0, 0, 0, []),
  (.if_icmp .ge 9, 42, 3, 29, 0, 0, []),
  (.iconst 1, 45, 1, 0, 0, 0, []),
  (.iload_n 3, 46, 1, 0, 0, 0, []),
  (.ishl, 47, 1, 0, 0, 0, []),
  (.goto 4, 48, 3, 30, 0, 0, []),
  (.iconst 0, 51, 1, 0, 0, 0, []),
  (.ior, 52, 1, 0, 0, 0, []),
  (.istore_n 2, 53, 1, 0, 0, 0, []),
  (.iinc 3 1, 54, 3, 0, 0, 0, []),
  (.goto (-53), 57, 3, 4, 0, 0, []),
  (.iload_n 2, 60, 1, 0, 0, 0, []),
  (.ireturn, 61, 1, 0, 0, 0, [])]
def tX3_init : List xI := [(.aload_n 0, 0, 1, 0, 0, 0, []),
  (.invokespecial 3, 1, 3, 1000, 0, 0, []),
  (.aload_n 0, 4, 1, 0, 0, 0, []),
  (.bipush 10, 5, 2, 0, 0, 0, []),
  (.newarray .int, 7, 2, 0, 0, 0, []),
  (.putfield 9, 9, 3, 3, 1, 0, []),
  (.aload_n 0, 12, 1, 0, 0, 0, []),
  (.bipush 10, 13, 2, 0, 0, 0, []),
  (.newarray .int, 15, 2, 0, 0, 0, []),
  (.putfield 15, 17, 3, 3, 2, 0, []),
  (.aload_n 0, 20, 1, 0, 0, 0, []),
  (.bipush 10, 21, 2, 0, 0, 0, []),
  (.newarray .int, 23, 2, 0, 0, 0, []),
  (.putfield 18, 25, 3, 3, 4, 0, []),
  (.aload_n 0, 28, 1, 0, 0, 0, []),
  (.aload_n 1, 29, 1, 0, 0, 0, []),
  (.putfield 21, 30, 3, 3, 0, 0, []),
  (.return_, 33, 1, 0, 0, 0, [])]
def tX3_settle : List xI := [(.aload_n 0, 0, 1, 0, 0, 0, []),
  (.getfield 25, 1, 3, 3, 3, 0, []),
  (.aload_n 0, 4, 1, 0, 0, 0, []),
  (.getfield 21, 5, 3, 3, 0, 0, []),
  (.getfield 29, 8, 3, 10, 2, 0, []),
  (.if_icmp .ne 4, 11, 3, 7, 0, 0, []),
  (.return_, 14, 1, 0, 0, 0, []),
  (.aload_n 0, 15, 1, 0, 0, 0, []),
  (.aload_n 0, 16, 1, 0, 0, 0, []),
  (.getfield 21, 17, 3, 3, 0, 0, []),
  (.getfield 29, 20, 3, 10, 2, 0, []),
  (.putfield 25, 23, 3, 3, 3, 0, []),
  (.aload_n 0, 26, 1, 0, 0, 0, []),
  (.getfield 9, 27, 3, 3, 1, 0, []),
  (.aload_n 0, 30, 1, 0, 0, 0, []),
  (.getfield 21, 31, 3, 3, 0, 0, []),
  (.invokevirtual 34, 34, 3, 65, 1, 10, [1]),
  (.invokestatic 38, 37, 3, 188, 2, 0, [0]),
  (.iconst 1, 40, 1, 0, 0, 0, []),
  (.istore_n 1, 41, 1, 0, 0, 0, []),
  (.iconst 0, 42, 1, 0, 0, 0, []),
  (.istore_n 2, 43, 1, 0, 0, 0, []),
  (.iload_n 2, 44, 1, 0, 0, 0, []),
  (.ldc 44, 45, 2, 0, 0, 1000000, []),
  (.if_icmp .ge 22, 47, 3, 34, 0, 0, []),
  (.iload_n 1, 50, 1, 0, 0, 0, []),
  (.ifCond .eq 18, 51, 3, 34, 0, 0, []),
  (.aload_n 0, 54, 1, 0, 0, 0, []),
  (.invokevirtual 45, 55, 3, 22, 1, 3, [0]),
  (.aload_n 0, 58, 1, 0, 0, 0, []),
  (.invokevirtual 48, 59, 3, 23, 1, 3, [1]),
  (.istore_n 1, 62, 1, 0, 0, 0, []),
  (.iinc 2 1, 63, 3, 0, 0, 0, []),
  (.goto (-22), 66, 3, 22, 0, 0, []),
  (.aload_n 0, 69, 1, 0, 0, 0, []),
  (.invokevirtual 52, 70, 3, 24, 1, 3, [0]),
  (.return_, 73, 1, 0, 0, 0, [])]
def tX3_findPaths : List xI := [(.iconst 0, 0, 1, 0, 0, 0, []),
  (.istore_n 1, 1, 1, 0, 0, 0, []),
  (.iload_n 1, 2, 1, 0, 0, 0, []),
  (.aload_n 0, 3, 1, 0, 0, 0, []),
  (.getfield 21, 4, 3, 3, 0, 0, []),
  (.getfield 55, 7, 3, 10, 0, 0, []),
  (.if_icmp .ge 43, 10, 3, 31, 0, 0, []),
  (.aload_n 0, 13, 1, 0, 0, 0, []),
  (.getfield 21, 14, 3, 3, 0, 0, []),
  (.iload_n 1, 17, 1, 0, 0, 0, []),
  (.aload_n 0, 18, 1, 0, 0, 0, []),
  (.getfield 9, 19, 3, 3, 1, 0, []),
  (.iload_n 1, 22, 1, 0, 0, 0, []),
  (.iaload, 23, 1, 0, 0, 0, []),
  (.invokevirtual 58, 24, 3, 76, 3, 10, [1]),
  (.istore_n 2, 27, 1, 0, 0, 0, []),
  (.aload_n 0, 28, 1, 0, 0, 0, []),
  (.getfield 15, 29, 3, 3, 2, 0, []),
  (.iload_n 1, 32, 1, 0, 0, 0, []),
  (.iload_n 2, 33, 1, 0, 0, 0, []),
  (.ifCond .ne 7, 34, 3, 23, 0, 0, []),
  (.iconst 0, 37, 1, 0, 0, 0, []),
  (.goto 8, 38, 3, 28, 0, 0, []),
  (.iload_n 2, 41, 1, 0, 0, 0, []),
  (.iconst 1, 42, 1, 0, 0, 0, []),
  (.iload_n 1, 43, 1, 0, 0, 0, []),
  (.ishl, 44, 1, 0, 0, 0, []),
  (.ior, 45, 1, 0, 0, 0, []),
  (.iastore, 46, 1, 0, 0, 0, []),
  (.iinc 1 1, 47, 3, 0, 0, 0, []),
  (.goto (-48), 50, 3, 2, 0, 0, []),
  (.iconst 0, 53, 1, 0, 0, 0, []),
  (.istore_n 1, 54, 1, 0, 0, 0, []),
  (.iload_n 1, 55, 1, 0, 0, 0, []),
  (.aload_n 0, 56, 1, 0, 0, 0, []),
  (.getfield 21, 57, 3, 3, 0, 0, []),
  (.getfield 55, 60, 3, 10, 0, 0, []),
  (.if_icmp .ge 60, 63, 3, 69, 0, 0, []),
  (.iconst 0, 66, 1, 0, 0, 0, []),
  (.istore_n 2, 67, 1, 0, 0, 0, []),
  (.iload_n 2, 68, 1, 0, 0, 0, []),
  (.aload_n 0, 69, 1, 0, 0, 0, []),
  (.getfield 21, 70, 3, 3, 0, 0, []),
  (.getfield 55, 73, 3, 10, 0, 0, []),
  (.if_icmp .ge 41, 76, 3, 67, 0, 0, []),
  (.aload_n 0, 79, 1, 0, 0, 0, []),
  (.getfield 15, 80, 3, 3, 2, 0, []),
  (.iload_n 2, 83, 1, 0, 0, 0, []),
  (.dup2, 84, 1, 0, 0, 0, []),
  (.iaload, 85, 1, 0, 0, 0, []),
  (.aload_n 0, 86, 1, 0, 0, 0, []),
  (.getfield 15, 87, 3, 3, 2, 0, []),
  (.iload_n 2, 90, 1, 0, 0, 0, []),
  (.iaload, 91, 1, 0, 0, 0, []),
  (.iload_n 1, 92, 1, 0, 0, 0, []),
  (.invokestatic 62, 93, 3, 108, 2, 0, [1]),
  (.ifCond .eq 12, 96, 3, 62, 0, 0, []),
  (.aload_n 0, 99, 1, 0, 0, 0, []),
  (.getfield 15, 100, 3, 3, 2, 0, []),
  (.iload_n 1, 103, 1, 0, 0, 0, []),
  (.iaload, 104, 1, 0, 0, 0, []),
  (.goto 4, 105, 3, 63, 0, 0, []),
  (.iconst 0, 108, 1, 0, 0, 0, []),
  (.ior, 109, 1, 0, 0, 0, []),
  (.iastore, 110, 1, 0, 0, 0, []),
  (.iinc 2 1, 111, 3, 0, 0, 0, []),
  (.goto (-46), 114, 3, 40, 0, 0, []),
  (.iinc 1 1, 117, 3, 0, 0, 0, []),
  (.goto (-65), 120, 3, 33, 0, 0, []),
  (.return_, 123, 1, 0, 0, 0, [])]
def tX3_narrow : List xI := [(.iconst 0, 0, 1, 0, 0, 0, []),
  (.istore_n 1, 1, 1, 0, 0, 0, []),
  (.iconst 0, 2, 1, 0, 0, 0, []),
  (.istore_n 2, 3, 1, 0, 0, 0, []),
  (.iload_n 2, 4, 1, 0, 0, 0, []),
  (.aload_n 0, 5, 1, 0, 0, 0, []),
  (.getfield 21, 6, 3, 3, 0, 0, []),
  (.getfield 55, 9, 3, 10, 0, 0, []),
  (.if_icmp .ge 96, 12, 3, 64, 0, 0, []),
  (.aload_n 0, 15, 1, 0, 0, 0, []),
  (.getfield 9, 16, 3, 3, 1, 0, []),
  (.iload_n 2, 19, 1, 0, 0, 0, []),
  (.iaload, 20, 1, 0, 0, 0, []),
  (.aload_n 0, 21, 1, 0, 0, 0, []),
  (.getfield 15, 22, 3, 3, 2, 0, []),
  (.iload_n 2, 25, 1, 0, 0, 0, []),
  (.iaload, 26, 1, 0, 0, 0, []),
  (.iand, 27, 1, 0, 0, 0, []),
  (.istore_n 3, 28, 1, 0, 0, 0, []),
  (.iconst 0, 29, 1, 0, 0, 0, []),
  (.istore 4, 30, 2, 0, 0, 0, []),
  (.iload 4, 32, 2, 0, 0, 0, []),
  (.aload_n 0, 34, 1, 0, 0, 0, []),
  (.getfield 21, 35, 3, 3, 0, 0, []),
  (.getfield 55, 38, 3, 10, 0, 0, []),
  (.if_icmp .ge 36, 41, 3, 45, 0, 0, []),
  (.iload_n 3, 44, 1, 0, 0, 0, []),
  (.aload_n 0, 45, 1, 0, 0, 0, []),
  (.getfield 15, 46, 3, 3, 2, 0, []),
  (.iload 4, 49, 2, 0, 0, 0, []),
  (.iaload, 51, 1, 0, 0, 0, []),
  (.iload_n 2, 52, 1, 0, 0, 0, []),
  (.invokestatic 62, 53, 3, 108, 2, 0, [1]),
  (.ifCond .eq 7, 56, 3, 36, 0, 0, []),
  (.iconst (-1), 59, 1, 0, 0, 0, []),
  (.goto 9, 60, 3, 41, 0, 0, []),
  (.iconst 1, 63, 1, 0, 0, 0, []),
  (.iload 4, 64, 2, 0, 0, 0, []),
  (.ishl, 66, 1, 0, 0, 0, []),
  (.iconst (-1), 67, 1, 0, 0, 0, []),
  (.ixor, 68, 1, 0, 0, 0, []),
  (.iand, 69, 1, 0, 0, 0, []),
  (.istore_n 3, 70, 1, 0, 0, 0, []),
  (.iinc 4 1, 71, 3, 0, 0, 0, []),
  (.goto (-42), 74, 3, 21, 0, 0, []),
  (.iload_n 1, 77, 1, 0, 0, 0, []),
  (.iload_n 3, 78, 1, 0, 0, 0, []),
  (.aload_n 0, 79, 1, 0, 0, 0, []),
  (.getfield 9, 80, 3, 3, 1, 0, []),
  (.iload_n 2, 83, 1, 0, 0, 0, []),
  (.iaload, 84, 1, 0, 0, 0, []),
  (.if_icmp .eq 7, 85, 3, 54, 0, 0, []),
  (.iconst 1, 88, 1, 0, 0, 0, []),
  (.goto 4, 89, 3, 55, 0, 0, []),
  (.iconst 0, 92, 1, 0, 0, 0, []),
  (.ior, 93, 1, 0, 0, 0, []),
  (.istore_n 1, 94, 1, 0, 0, 0, []),
  (.aload_n 0, 95, 1, 0, 0, 0, []),
  (.getfield 9, 96, 3, 3, 1, 0, []),
  (.iload_n 2, 99, 1, 0, 0, 0, []),
  (.iload_n 3, 100, 1, 0, 0, 0, []),
  (.iastore, 101, 1, 0, 0, 0, []),
  (.iinc 2 1, 102, 3, 0, 0, 0, []),
  (.goto (-101), 105, 3, 4, 0, 0, []),
  (.iload_n 1, 108, 1, 0, 0, 0, []),
  (.ireturn, 109, 1, 0, 0, 0, [])]
def tX3_gather : List xI := [(.aload_n 0, 0, 1, 0, 0, 0, []),
  (.iconst 0, 1, 1, 0, 0, 0, []),
  (.putfield 66, 2, 3, 3, 5, 0, []),
  (.iconst 0, 5, 1, 0, 0, 0, []),
  (.istore_n 1, 6, 1, 0, 0, 0, []),
  (.iload_n 1, 7, 1, 0, 0, 0, []),
  (.aload_n 0, 8, 1, 0, 0, 0, []),
  (.getfield 21, 9, 3, 3, 0, 0, []),
  (.getfield 55, 12, 3, 10, 0, 0, []),
  (.if_icmp .ge 68, 15, 3, 49, 0, 0, []),
  (.aload_n 0, 18, 1, 0, 0, 0, []),
  (.getfield 9, 19, 3, 3, 1, 0, []),
  (.iload_n 1, 22, 1, 0, 0, 0, []),
  (.iaload, 23, 1, 0, 0, 0, []),
  (.iconst 1, 24, 1, 0, 0, 0, []),
  (.iload_n 1, 25, 1, 0, 0, 0, []),
  (.ishl, 26, 1, 0, 0, 0, []),
  (.iconst 1, 27, 1, 0, 0, 0, []),
  (.isub, 28, 1, 0, 0, 0, []),
  (.iand, 29, 1, 0, 0, 0, []),
  (.ifCond .ne 7, 30, 3, 23, 0, 0, []),
  (.iconst 1, 33, 1, 0, 0, 0, []),
  (.goto 4, 34, 3, 24, 0, 0, []),
  (.iconst 0, 37, 1, 0, 0, 0, []),
  (.istore_n 2, 38, 1, 0, 0, 0, []),
  (.aload_n 0, 39, 1, 0, 0, 0, []),
  (.getfield 9, 40, 3, 3, 1, 0, []),
  (.iload_n 1, 43, 1, 0, 0, 0, []),
  (.iaload, 44, 1, 0, 0, 0, []),
  (.ifCond .eq 32, 45, 3, 47, 0, 0, []),
  (.iload_n 2, 48, 1, 0, 0, 0, []),
  (.ifCond .eq 28, 49, 3, 47, 0, 0, []),
  (.aload_n 0, 52, 1, 0, 0, 0, []),
  (.getfield 18, 53, 3, 3, 4, 0, []),
  (.aload_n 0, 56, 1, 0, 0, 0, []),
  (.getfield 66, 57, 3, 3, 5, 0, []),
  (.aload_n 0, 60, 1, 0, 0, 0, []),
  (.getfield 9, 61, 3, 3, 1, 0, []),
  (.iload_n 1, 64, 1, 0, 0, 0, []),
  (.iaload, 65, 1, 0, 0, 0, []),
  (.iastore, 66, 1, 0, 0, 0, []),
  (.aload_n 0, 67, 1, 0, 0, 0, []),
  (.dup, 68, 1, 0, 0, 0, []),
  (.getfield 66, 69, 3, 3, 5, 0, []),
  (.iconst 1, 72, 1, 0, 0, 0, []),
  (.iadd, 73, 1, 0, 0, 0, []),
  (.putfield 66, 74, 3, 3, 5, 0, []),
  (.iinc 1 1, 77, 3, 0, 0, 0, []),
  (.goto (-73), 80, 3, 5, 0, 0, []),
  (.return_, 83, 1, 0, 0, 0, [])]
def tX3_stayingActs : List xI := [(.iconst 0, 0, 1, 0, 0, 0, []),
  (.istore_n 2, 1, 1, 0, 0, 0, []),
  (.iconst 0, 2, 1, 0, 0, 0, []),
  (.istore_n 3, 3, 1, 0, 0, 0, []),
  (.iload_n 3, 4, 1, 0, 0, 0, []),
  (.aload_n 0, 5, 1, 0, 0, 0, []),
  (.getfield 21, 6, 3, 3, 0, 0, []),
  (.getfield 55, 9, 3, 10, 0, 0, []),
  (.if_icmp .ge 65, 12, 3, 40, 0, 0, []),
  (.iconst 0, 15, 1, 0, 0, 0, []),
  (.istore 4, 16, 2, 0, 0, 0, []),
  (.iload_n 1, 18, 1, 0, 0, 0, []),
  (.iload_n 3, 19, 1, 0, 0, 0, []),
  (.invokestatic 62, 20, 3, 108, 2, 0, [1]),
  (.ifCond .eq 48, 23, 3, 38, 0, 0, []),
  (.iload 4, 26, 2, 0, 0, 0, []),
  (.aload_n 0, 28, 1, 0, 0, 0, []),
  (.getfield 21, 29, 3, 3, 0, 0, []),
  (.getfield 69, 32, 3, 10, 3, 0, []),
  (.iload_n 3, 35, 1, 0, 0, 0, []),
  (.iaload, 36, 1, 0, 0, 0, []),
  (.if_icmp .ge 34, 37, 3, 38, 0, 0, []),
  (.iload_n 2, 40, 1, 0, 0, 0, []),
  (.aload_n 0, 41, 1, 0, 0, 0, []),
  (.getfield 21, 42, 3, 3, 0, 0, []),
  (.iload_n 3, 45, 1, 0, 0, 0, []),
  (.iload 4, 46, 2, 0, 0, 0, []),
  (.invokevirtual 72, 48, 3, 62, 3, 10, [7]),
  (.iload_n 1, 51, 1, 0, 0, 0, []),
  (.invokevirtual 76, 52, 3, 6, 2, 0, [1]),
  (.ifCond .eq 7, 55, 3, 33, 0, 0, []),
  (.iconst 1, 58, 1, 0, 0, 0, []),
  (.goto 4, 59, 3, 34, 0, 0, []),
  (.iconst 0, 62, 1, 0, 0, 0, []),
  (.iadd, 63, 1, 0, 0, 0, []),
  (.istore_n 2, 64, 1, 0, 0, 0, []),
  (.iinc 4 1, 65, 3, 0, 0, 0, []),
  (.goto (-50), 68, 3, 11, 0, 0, []),
  (.iinc 3 1, 71, 3, 0, 0, 0, []),
  (.goto (-70), 74, 3, 4, 0, 0, []),
  (.iload_n 2, 77, 1, 0, 0, 0, []),
  (.ireturn, 78, 1, 0, 0, 0, [])]
def tX4_init : List xI := [(.aload_n 0, 0, 1, 0, 0, 0, []),
  (.invokespecial 3, 1, 3, 1000, 0, 0, []),
  (.aload_n 0, 4, 1, 0, 0, 0, []),
  (.bipush 11, 5, 2, 0, 0, 0, []),
  (.bipush 10, 7, 2, 0, 0, 0, []),
  (.multianewarray 9 2, 9, 4, 0, 0, 0, []),
  (.putfield 11, 13, 3, 4, 3, 0, []),
  (.aload_n 0, 16, 1, 0, 0, 0, []),
  (.bipush 11, 17, 2, 0, 0, 0, []),
  (.newarray .long, 19, 2, 0, 0, 0, []),
  (.putfield 16, 21, 3, 4, 4, 0, []),
  (.aload_n 0, 24, 1, 0, 0, 0, []),
  (.aload_n 1, 25, 1, 0, 0, 0, []),
  (.putfield 20, 26, 3, 4, 0, 0, []),
  (.aload_n 0, 29, 1, 0, 0, 0, []),
  (.iload_n 2, 30, 1, 0, 0, 0, []),
  (.putfield 24, 31, 3, 4, 1, 0, []),
  (.return_, 34, 1, 0, 0, 0, [])]
def tX4_settle : List xI := [(.aload_n 0, 0, 1, 0, 0, 0, []),
  (.getfield 28, 1, 3, 4, 2, 0, []),
  (.aload_n 0, 4, 1, 0, 0, 0, []),
  (.getfield 20, 5, 3, 4, 0, 0, []),
  (.getfield 32, 8, 3, 10, 2, 0, []),
  (.if_icmp .ne 4, 11, 3, 7, 0, 0, []),
  (.return_, 14, 1, 0, 0, 0, []),
  (.aload_n 0, 15, 1, 0, 0, 0, []),
  (.aload_n 0, 16, 1, 0, 0, 0, []),
  (.getfield 20, 17, 3, 4, 0, 0, []),
  (.getfield 32, 20, 3, 10, 2, 0, []),
  (.putfield 28, 23, 3, 4, 2, 0, []),
  (.aload_n 0, 26, 1, 0, 0, 0, []),
  (.getfield 16, 27, 3, 4, 4, 0, []),
  (.iconst 0, 30, 1, 0, 0, 0, []),
  (.lconst 1, 31, 1, 0, 0, 0, []),
  (.lastore, 32, 1, 0, 0, 0, []),
  (.iconst 0, 33, 1, 0, 0, 0, []),
  (.istore_n 1, 34, 1, 0, 0, 0, []),
  (.iload_n 1, 35, 1, 0, 0, 0, []),
  (.aload_n 0, 36, 1, 0, 0, 0, []),
  (.getfield 20, 37, 3, 4, 0, 0, []),
  (.getfield 37, 40, 3, 10, 0, 0, []),
  (.if_icmp .ge 36, 43, 3, 41, 0, 0, []),
  (.aload_n 0, 46, 1, 0, 0, 0, []),
  (.getfield 11, 47, 3, 4, 3, 0, []),
  (.iconst 0, 50, 1, 0, 0, 0, []),
  (.aaload, 51, 1, 0, 0, 0, []),
  (.iload_n 1, 52, 1, 0, 0, 0, []),
  (.aload_n 0, 53, 1, 0, 0, 0, []),
  (.getfield 20, 54, 3, 4, 0, 0, []),
  (.getfield 40, 57, 3, 10, 1, 0, []),
  (.iload_n 1, 60, 1, 0, 0, 0, []),
  (.invokestatic 43, 61, 3, 108, 2, 0, [1]),
  (.ifCond .eq 7, 64, 3, 37, 0, 0, []),
  (.lconst 1, 67, 1, 0, 0, 0, []),
  (.goto 4, 68, 3, 38, 0, 0, []),
  (.lconst 0, 71, 1, 0, 0, 0, []),
  (.lastore, 72, 1, 0, 0, 0, []),
  (.iinc 1 1, 73, 3, 0, 0, 0, []),
  (.goto (-41), 76, 3, 19, 0, 0, []),
  (.iconst 1, 79, 1, 0, 0, 0, []),
  (.istore_n 1, 80, 1, 0, 0, 0, []),
  (.iload_n 1, 81, 1, 0, 0, 0, []),
  (.bipush 10, 82, 2, 0, 0, 0, []),
  (.if_icmp .gt 90, 84, 3, 95, 0, 0, []),
  (.aload_n 0, 87, 1, 0, 0, 0, []),
  (.getfield 16, 88, 3, 4, 4, 0, []),
  (.iload_n 1, 91, 1, 0, 0, 0, []),
  (.ldc2_w 47, 92, 3, 0, 0, 12, []),
  (.aload_n 0, 95, 1, 0, 0, 0, []),
  (.getfield 16, 96, 3, 4, 4, 0, []),
  (.iload_n 1, 99, 1, 0, 0, 0, []),
  (.iconst 1, 100, 1, 0, 0, 0, []),
  (.isub, 101, 1, 0, 0, 0, []),
  (.laload, 102, 1, 0, 0, 0, []),
  (.lmul, 103, 1, 0, 0, 0, []),
  (.lastore, 104, 1, 0, 0, 0, []),
  (.iconst 0, 105, 1, 0, 0, 0, []),
  (.istore_n 2, 106, 1, 0, 0, 0, []),
  (.iload_n 2, 107, 1, 0, 0, 0, []),
  (.aload_n 0, 108, 1, 0, 0, 0, []),
  (.getfield 20, 109, 3, 4, 0, 0, []),
  (.getfield 37, 112, 3, 10, 0, 0, []),
  (.if_icmp .ge 53, 115, 3, 93, 0, 0, []),
  (.aload_n 0, 118, 1, 0, 0, 0, []),
  (.getfield 11, 119, 3, 4, 3, 0, []),
  (.iload_n 1, 122, 1, 0, 0, 0, []),
  (.aaload, 123, 1, 0, 0, 0, []),
  (.iload_n 2, 124, 1, 0, 0, 0, []),
  (.aload_n 0, 125, 1, 0, 0, 0, []),
  (.getfield 20, 126, 3, 4, 0, 0, []),
  (.getfield 40, 129, 3, 10, 1, 0, []),
  (.iload_n 2, 132, 1, 0, 0, 0, []),
  (.invokestatic 43, 133, 3, 108, 2, 0, [1]),
  (.ifCond .eq 12, 136, 3, 81, 0, 0, []),
  (.aload_n 0, 139, 1, 0, 0, 0, []),
  (.getfield 16, 140, 3, 4, 4, 0, []),
  (.iload_n 1, 143, 1, 0, 0, 0, []),
  (.laload, 144, 1, 0, 0, 0, []),
  (.goto 16, 145, 3, 90, 0, 0, []),
  (.aload_n 0, 148, 1, 0, 0, 0, []),
  (.iload_n 2, 149, 1, 0, 0, 0, []),
  (.aload_n 0, 150, 1, 0, 0, 0, []),
  (.getfield 11, 151, 3, 4, 3, 0, []),
  (.iload_n 1, 154, 1, 0, 0, 0, []),
  (.iconst 1, 155, 1, 0, 0, 0, []),
  (.isub, 156, 1, 0, 0, 0, []),
  (.aaload, 157, 1, 0, 0, 0, []),
  (.invokevirtual 49, 158, 3, 28, 3, 4, [2]),
  (.lastore, 161, 1, 0, 0, 0, []),
  (.iinc 2 1, 162, 3, 0, 0, 0, []),
  (.goto (-58), 165, 3, 60, 0, 0, []),
  (.iinc 1 1, 168, 3, 0, 0, 0, []),
  (.goto (-90), 171, 3, 43, 0, 0, []),
  (.return_, 174, 1, 0, 0, 0, [])]
def tX4_best : List xI := [(.aload_n 0, 0, 1, 0, 0, 0, []),
  (.getfield 20, 1, 3, 4, 0, 0, []),
  (.iload_n 1, 4, 1, 0, 0, 0, []),
  (.aload_n 0, 5, 1, 0, 0, 0, []),
  (.getfield 24, 6, 3, 4, 1, 0, []),
  (.invokevirtual 53, 9, 3, 64, 3, 10, [1]),
  (.istore_n 3, 12, 1, 0, 0, 0, []),
  (.lconst 0, 13, 1, 0, 0, 0, []),
  (.lstore 4, 14, 2, 0, 0, 0, []),
  (.iconst 0, 16, 1, 0, 0, 0, []),
  (.istore 6, 17, 2, 0, 0, 0, []),
  (.iload 6, 19, 2, 0, 0, 0, []),
  (.aload_n 0, 21, 1, 0, 0, 0, []),
  (.getfield 20, 22, 3, 4, 0, 0, []),
  (.getfield 57, 25, 3, 10, 3, 0, []),
  (.iload_n 1, 28, 1, 0, 0, 0, []),
  (.iaload, 29, 1, 0, 0, 0, []),
  (.if_icmp .ge 57, 30, 3, 43, 0, 0, []),
  (.aload_n 0, 33, 1, 0, 0, 0, []),
  (.getfield 20, 34, 3, 4, 0, 0, []),
  (.iload_n 1, 37, 1, 0, 0, 0, []),
  (.iload 6, 38, 2, 0, 0, 0, []),
  (.invokevirtual 61, 40, 3, 62, 3, 10, [7]),
  (.aload_n 2, 43, 1, 0, 0, 0, []),
  (.invokevirtual 65, 44, 3, 7, 2, 0, [2]),
  (.lstore 7, 47, 2, 0, 0, 0, []),
  (.iload 6, 49, 2, 0, 0, 0, []),
  (.ifCond .eq 26, 51, 3, 39, 0, 0, []),
  (.iload_n 3, 54, 1, 0, 0, 0, []),
  (.ifCond .eq 14, 55, 3, 35, 0, 0, []),
  (.lload 7, 58, 2, 0, 0, 0, []),
  (.lload 4, 60, 2, 0, 0, 0, []),
  (.lcmp, 62, 1, 0, 0, 0, []),
  (.ifCond .le 18, 63, 3, 41, 0, 0, []),
  (.goto 11, 66, 3, 39, 0, 0, []),
  (.lload 7, 69, 2, 0, 0, 0, []),
  (.lload 4, 71, 2, 0, 0, 0, []),
  (.lcmp, 73, 1, 0, 0, 0, []),
  (.ifCond .ge 7, 74, 3, 41, 0, 0, []),
  (.lload 7, 77, 2, 0, 0, 0, []),
  (.lstore 4, 79, 2, 0, 0, 0, []),
  (.iinc 6 1, 81, 3, 0, 0, 0, []),
  (.goto (-65), 84, 3, 11, 0, 0, []),
  (.lload 4, 87, 2, 0, 0, 0, []),
  (.lreturn, 89, 1, 0, 0, 0, [])]
def tX5_init : List xI := [(.aload_n 0, 0, 1, 0, 0, 0, []),
  (.invokespecial 3, 1, 3, 1000, 0, 0, []),
  (.aload_n 0, 4, 1, 0, 0, 0, []),
  (.new 9, 5, 3, 1, 0, 0, []),
  (.dup, 8, 1, 0, 0, 0, []),
  (.invokespecial 11, 9, 3, 9, 1, 0, [0]),
  (.putfield 12, 12, 3, 5, 3, 0, []),
  (.aload_n 0, 15, 1, 0, 0, 0, []),
  (.bipush 10, 16, 2, 0, 0, 0, []),
  (.newarray .long, 18, 2, 0, 0, 0, []),
  (.putfield 18, 20, 3, 5, 5, 0, []),
  (.aload_n 0, 23, 1, 0, 0, 0, []),
  (.aload_n 1, 24, 1, 0, 0, 0, []),
  (.putfield 22, 25, 3, 5, 0, 0, []),
  (.aload_n 0, 28, 1, 0, 0, 0, []),
  (.aload_n 2, 29, 1, 0, 0, 0, []),
  (.putfield 26, 30, 3, 5, 1, 0, []),
  (.aload_n 0, 33, 1, 0, 0, 0, []),
  (.new 30, 34, 3, 9, 0, 0, []),
  (.dup, 37, 1, 0, 0, 0, []),
  (.aload_n 1, 38, 1, 0, 0, 0, []),
  (.iconst 0, 39, 1, 0, 0, 0, []),
  (.invokespecial 32, 40, 3, 56, 3, 0, [0]),
  (.putfield 35, 43, 3, 5, 2, 0, []),
  (.return_, 46, 1, 0, 0, 0, [])]
def tX5_settle : List xI := [(.aload_n 0, 0, 1, 0, 0, 0, []),
  (.getfield 39, 1, 3, 5, 4, 0, []),
  (.aload_n 0, 4, 1, 0, 0, 0, []),
  (.getfield 22, 5, 3, 5, 0, 0, []),
  (.getfield 43, 8, 3, 10, 2, 0, []),
  (.if_icmp .ne 4, 11, 3, 7, 0, 0, []),
  (.return_, 14, 1, 0, 0, 0, []),
  (.aload_n 0, 15, 1, 0, 0, 0, []),
  (.aload_n 0, 16, 1, 0, 0, 0, []),
  (.getfield 22, 17, 3, 5, 0, 0, []),
  (.getfield 43, 20, 3, 10, 2, 0, []),
  (.putfield 39, 23, 3, 5, 4, 0, []),
  (.aload_n 0, 26, 1, 0, 0, 0, []),
  (.getfield 26, 27, 3, 5, 1, 0, []),
  (.invokevirtual 48, 30, 3, 49, 1, 8, [0]),
  (.aload_n 0, 33, 1, 0, 0, 0, []),
  (.aload_n 0, 34, 1, 0, 0, 0, []),
  (.getfield 22, 35, 3, 5, 0, 0, []),
  (.invokevirtual 53, 38, 3, 75, 1, 10, [1]),
  (.ifCond .ne 34, 41, 3, 35, 0, 0, []),
  (.aload_n 0, 44, 1, 0, 0, 0, []),
  (.getfield 12, 45, 3, 5, 3, 0, []),
  (.aload_n 0, 48, 1, 0, 0, 0, []),
  (.getfield 26, 49, 3, 5, 1, 0, []),
  (.getfield 57, 52, 3, 8, 8, 0, []),
  (.aload_n 0, 55, 1, 0, 0, 0, []),
  (.getfield 22, 56, 3, 5, 0, 0, []),
  (.getfield 60, 59, 3, 10, 1, 0, []),
  (.iconst (-1), 62, 1, 0, 0, 0, []),
  (.ixor, 63, 1, 0, 0, 0, []),
  (.iand, 64, 1, 0, 0, 0, []),
  (.invokevirtual 63, 65, 3, 10, 2, 1, [1]),
  (.ifCond .eq 7, 68, 3, 35, 0, 0, []),
  (.iconst 1, 71, 1, 0, 0, 0, []),
  (.goto 4, 72, 3, 36, 0, 0, []),
  (.iconst 0, 75, 1, 0, 0, 0, []),
  (.putfield 67, 76, 3, 5, 7, 0, []),
  (.aload_n 0, 79, 1, 0, 0, 0, []),
  (.getfield 67, 80, 3, 5, 7, 0, []),
  (.ifCond .ne 4, 83, 3, 41, 0, 0, []),
  (.return_, 86, 1, 0, 0, 0, []),
  (.aload_n 0, 87, 1, 0, 0, 0, []),
  (.getfield 35, 88, 3, 5, 2, 0, []),
  (.aload_n 0, 91, 1, 0, 0, 0, []),
  (.getfield 26, 92, 3, 5, 1, 0, []),
  (.getfield 57, 95, 3, 8, 8, 0, []),
  (.invokevirtual 71, 98, 3, 57, 2, 9, [1]),
  (.pop, 101, 1, 0, 0, 0, []),
  (.iconst 1, 102, 1, 0, 0, 0, []),
  (.istore_n 1, 103, 1, 0, 0, 0, []),
  (.iconst 0, 104, 1, 0, 0, 0, []),
  (.istore_n 2, 105, 1, 0, 0, 0, []),
  (.iload_n 2, 106, 1, 0, 0, 0, []),
  (.ldc 75, 107, 2, 0, 0, 1000000, []),
  (.if_icmp .ge 22, 109, 3, 64, 0, 0, []),
  (.iload_n 1, 112, 1, 0, 0, 0, []),
  (.ifCond .eq 18, 113, 3, 64, 0, 0, []),
  (.aload_n 0, 116, 1, 0, 0, 0, []),
  (.invokevirtual 76, 117, 3, 31, 1, 5, [0]),
  (.aload_n 0, 120, 1, 0, 0, 0, []),
  (.invokevirtual 79, 121, 3, 32, 1, 5, [1]),
  (.istore_n 1, 124, 1, 0, 0, 0, []),
  (.iinc 2 1, 125, 3, 0, 0, 0, []),
  (.goto (-22), 128, 3, 52, 0, 0, []),
  (.return_, 131, 1, 0, 0, 0, [])]
def tX5_evaluate : List xI := [(.iconst 0, 0, 1, 0, 0, 0, []),
  (.istore_n 1, 1, 1, 0, 0, 0, []),
  (.iload_n 1, 2, 1, 0, 0, 0, []),
  (.aload_n 0, 3, 1, 0, 0, 0, []),
  (.getfield 12, 4, 3, 5, 3, 0, []),
  (.getfield 83, 7, 3, 1, 3, 0, []),
  (.if_icmp .ge 54, 10, 3, 35, 0, 0, []),
  (.aload_n 0, 13, 1, 0, 0, 0, []),
  (.getfield 12, 14, 3, 5, 3, 0, []),
  (.getfield 86, 17, 3, 1, 2, 0, []),
  (.iload_n 1, 20, 1, 0, 0, 0, []),
  (.iaload, 21, 1, 0, 0, 0, []),
  (.istore_n 2, 22, 1, 0, 0, 0, []),
  (.aload_n 0, 23, 1, 0, 0, 0, []),
  (.getfield 22, 24, 3, 5, 0, 0, []),
  (.iload_n 2, 27, 1, 0, 0, 0, []),
  (.aload_n 0, 28, 1, 0, 0, 0, []),
  (.getfield 35, 29, 3, 5, 2, 0, []),
  (.getfield 90, 32, 3, 9, 2, 0, []),
  (.iload_n 2, 35, 1, 0, 0, 0, []),
  (.iaload, 36, 1, 0, 0, 0, []),
  (.invokevirtual 93, 37, 3, 62, 3, 10, [7]),
  (.astore_n 3, 40, 1, 0, 0, 0, []),
  (.aload_n 0, 41, 1, 0, 0, 0, []),
  (.getfield 12, 42, 3, 5, 3, 0, []),
  (.iload_n 1, 45, 1, 0, 0, 0, []),
  (.aload_n 3, 46, 1, 0, 0, 0, []),
  (.bipush 12, 47, 2, 0, 0, 0, []),
  (.aload_n 3, 49, 1, 0, 0, 0, []),
  (.getfield 97, 50, 3, 0, 1, 0, []),
  (.imul, 53, 1, 0, 0, 0, []),
  (.i2l, 54, 1, 0, 0, 0, []),
  (.invokevirtual 102, 55, 3, 11, 4, 1, [0]),
  (.iinc 1 1, 58, 3, 0, 0, 0, []),
  (.goto (-59), 61, 3, 2, 0, 0, []),
  (.aload_n 0, 64, 1, 0, 0, 0, []),
  (.getfield 12, 65, 3, 5, 3, 0, []),
  (.invokevirtual 106, 68, 3, 12, 1, 1, [0]),
  (.aload_n 0, 71, 1, 0, 0, 0, []),
  (.aload_n 0, 72, 1, 0, 0, 0, []),
  (.getfield 12, 73, 3, 5, 3, 0, []),
  (.getfield 109, 76, 3, 1, 4, 0, []),
  (.putfield 113, 79, 3, 5, 6, 0, []),
  (.aload_n 0, 82, 1, 0, 0, 0, []),
  (.getfield 18, 83, 3, 5, 5, 0, []),
  (.lconst 0, 86, 1, 0, 0, 0, []),
  (.invokestatic 114, 87, 3, 187, 2, 0, [0]),
  (.iconst 0, 90, 1, 0, 0, 0, []),
  (.istore_n 1, 91, 1, 0, 0, 0, []),
  (.iload_n 1, 92, 1, 0, 0, 0, []),
  (.aload_n 0, 93, 1, 0, 0, 0, []),
  (.getfield 12, 94, 3, 5, 3, 0, []),
  (.getfield 83, 97, 3, 1, 3, 0, []),
  (.if_icmp .ge 31, 100, 3, 68, 0, 0, []),
  (.aload_n 0, 103, 1, 0, 0, 0, []),
  (.getfield 18, 104, 3, 5, 5, 0, []),
  (.aload_n 0, 107, 1, 0, 0, 0, []),
  (.getfield 12, 108, 3, 5, 3, 0, []),
  (.getfield 86, 111, 3, 1, 2, 0, []),
  (.iload_n 1, 114, 1, 0, 0, 0, []),
  (.iaload, 115, 1, 0, 0, 0, []),
  (.aload_n 0, 116, 1, 0, 0, 0, []),
  (.getfield 12, 117, 3, 5, 3, 0, []),
  (.iload_n 1, 120, 1, 0, 0, 0, []),
  (.invokevirtual 120, 121, 3, 14, 2, 1, [2]),
  (.lastore, 124, 1, 0, 0, 0, []),
  (.iinc 1 1, 125, 3, 0, 0, 0, []),
  (.goto (-36), 128, 3, 49, 0, 0, []),
  (.return_, 131, 1, 0, 0, 0, [])]
def tX5_improve : List xI := [(.iconst 0, 0, 1, 0, 0, 0, []),
  (.istore_n 1, 1, 1, 0, 0, 0, []),
  (.iconst 0, 2, 1, 0, 0, 0, []),
  (.istore_n 2, 3, 1, 0, 0, 0, []),
  (.iload_n 2, 4, 1, 0, 0, 0, []),
  (.aload_n 0, 5, 1, 0, 0, 0, []),
  (.getfield 12, 6, 3, 5, 3, 0, []),
  (.getfield 83, 9, 3, 1, 3, 0, []),
  (.if_icmp .ge 25, 12, 3, 21, 0, 0, []),
  (.iload_n 1, 15, 1, 0, 0, 0, []),
  (.aload_n 0, 16, 1, 0, 0, 0, []),
  (.aload_n 0, 17, 1, 0, 0, 0, []),
  (.getfield 12, 18, 3, 5, 3, 0, []),
  (.getfield 86, 21, 3, 1, 2, 0, []),
  (.iload_n 2, 24, 1, 0, 0, 0, []),
  (.iaload, 25, 1, 0, 0, 0, []),
  (.invokevirtual 124, 26, 3, 33, 2, 5, [1]),
  (.ior, 29, 1, 0, 0, 0, []),
  (.istore_n 1, 30, 1, 0, 0, 0, []),
  (.iinc 2 1, 31, 3, 0, 0, 0, []),
  (.goto (-30), 34, 3, 4, 0, 0, []),
  (.iload_n 1, 37, 1, 0, 0, 0, []),
  (.ireturn, 38, 1, 0, 0, 0, [])]
def tX5_improveState : List xI := [(.aload_n 0, 0, 1, 0, 0, 0, []),
  (.getfield 35, 1, 3, 5, 2, 0, []),
  (.getfield 90, 4, 3, 9, 2, 0, []),
  (.iload_n 1, 7, 1, 0, 0, 0, []),
  (.iaload, 8, 1, 0, 0, 0, []),
  (.istore_n 2, 9, 1, 0, 0, 0, []),
  (.ldc2_w 127, 10, 3, 0, 0, 12, []),
  (.aload_n 0, 13, 1, 0, 0, 0, []),
  (.getfield 18, 14, 3, 5, 5, 0, []),
  (.iload_n 1, 17, 1, 0, 0, 0, []),
  (.laload, 18, 1, 0, 0, 0, []),
  (.lmul, 19, 1, 0, 0, 0, []),
  (.lstore_n 3, 20, 1, 0, 0, 0, []),
  (.iconst 0, 21, 1, 0, 0, 0, []),
  (.istore 5, 22, 2, 0, 0, 0, []),
  (.iload 5, 24, 2, 0, 0, 0, []),
  (.aload_n 0, 26, 1, 0, 0, 0, []),
  (.getfield 22, 27, 3, 5, 0, 0, []),
  (.getfield 129, 30, 3, 10, 3, 0, []),
  (.iload_n 1, 33, 1, 0, 0, 0, []),
  (.iaload, 34, 1, 0, 0, 0, []),
  (.if_icmp .ge 83, 35, 3, 62, 0, 0, []),
  (.aload_n 0, 38, 1, 0, 0, 0, []),
  (.getfield 22, 39, 3, 5, 0, 0, []),
  (.iload_n 1, 42, 1, 0, 0, 0, []),
  (.iload 5, 43, 2, 0, 0, 0, []),
  (.invokevirtual 93, 45, 3, 62, 3, 10, [7]),
  (.astore 6, 48, 2, 0, 0, 0, []),
  (.bipush 12, 50, 2, 0, 0, 0, []),
  (.aload 6, 52, 2, 0, 0, 0, []),
  (.getfield 97, 54, 3, 0, 1, 0, []),
  (.imul, 57, 1, 0, 0, 0, []),
  (.i2l, 58, 1, 0, 0, 0, []),
  (.aload_n 0, 59, 1, 0, 0, 0, []),
  (.getfield 113, 60, 3, 5, 6, 0, []),
  (.lmul, 63, 1, 0, 0, 0, []),
  (.aload 6, 64, 2, 0, 0, 0, []),
  (.aload_n 0, 66, 1, 0, 0, 0, []),
  (.getfield 18, 67, 3, 5, 5, 0, []),
  (.invokevirtual 132, 70, 3, 7, 2, 0, [2]),
  (.ladd, 73, 1, 0, 0, 0, []),
  (.lstore 7, 74, 2, 0, 0, 0, []),
  (.aload 6, 76, 2, 0, 0, 0, []),
  (.aload_n 0, 78, 1, 0, 0, 0, []),
  (.getfield 26, 79, 3, 5, 1, 0, []),
  (.getfield 57, 82, 3, 8, 8, 0, []),
  (.invokevirtual 136, 85, 3, 6, 2, 0, [1]),
  (.ifCond .eq 24, 88, 3, 60, 0, 0, []),
  (.lload 7, 91, 2, 0, 0, 0, []),
  (.lload_n 3, 93, 1, 0, 0, 0, []),
  (.lcmp, 94, 1, 0, 0, 0, []),
  (.ifCond .ge 17, 95, 3, 60, 0, 0, []),
  (.lload 7, 98, 2, 0, 0, 0, []),
  (.lstore_n 3, 100, 1, 0, 0, 0, []),
  (.aload_n 0, 101, 1, 0, 0, 0, []),
  (.getfield 35, 102, 3, 5, 2, 0, []),
  (.getfield 90, 105, 3, 9, 2, 0, []),
  (.iload_n 1, 108, 1, 0, 0, 0, []),
  (.iload 5, 109, 2, 0, 0, 0, []),
  (.iastore, 111, 1, 0, 0, 0, []),
  (.iinc 5 1, 112, 3, 0, 0, 0, []),
  (.goto (-91), 115, 3, 15, 0, 0, []),
  (.aload_n 0, 118, 1, 0, 0, 0, []),
  (.getfield 35, 119, 3, 5, 2, 0, []),
  (.getfield 90, 122, 3, 9, 2, 0, []),
  (.iload_n 1, 125, 1, 0, 0, 0, []),
  (.iaload, 126, 1, 0, 0, 0, []),
  (.iload_n 2, 127, 1, 0, 0, 0, []),
  (.if_icmp .eq 7, 128, 3, 71, 0, 0, []),
  (.iconst 1, 131, 1, 0, 0, 0, []),
  (.goto 4, 132, 3, 72, 0, 0, []),
  (.iconst 0, 135, 1, 0, 0, 0, []),
  (.ireturn, 136, 1, 0, 0, 0, [])]
def tX6_init : List xI := [(.aload_n 0, 0, 1, 0, 0, 0, []),
  (.invokespecial 3, 1, 3, 1000, 0, 0, []),
  (.aload_n 0, 4, 1, 0, 0, 0, []),
  (.iconst 0, 5, 1, 0, 0, 0, []),
  (.putfield 9, 6, 3, 6, 0, 0, []),
  (.aload_n 0, 9, 1, 0, 0, 0, []),
  (.new 15, 10, 3, 0, 0, 0, []),
  (.dup, 13, 1, 0, 0, 0, []),
  (.invokespecial 17, 14, 3, 0, 1, 0, [0]),
  (.putfield 18, 17, 3, 6, 3, 0, []),
  (.aload_n 0, 20, 1, 0, 0, 0, []),
  (.bipush 60, 21, 2, 0, 0, 0, []),
  (.newarray .long, 23, 2, 0, 0, 0, []),
  (.putfield 22, 25, 3, 6, 4, 0, []),
  (.return_, 28, 1, 0, 0, 0, [])]
def tX6_isRow : List xI := [(.aload_n 0, 0, 1, 0, 0, 0, []),
  (.getfield 9, 1, 3, 6, 0, 0, []),
  (.iconst 3, 4, 1, 0, 0, 0, []),
  (.if_icmp .eq 11, 5, 3, 8, 0, 0, []),
  (.aload_n 0, 8, 1, 0, 0, 0, []),
  (.getfield 9, 9, 3, 6, 0, 0, []),
  (.iconst 4, 12, 1, 0, 0, 0, []),
  (.if_icmp .ne 7, 13, 3, 10, 0, 0, []),
  (.iconst 1, 16, 1, 0, 0, 0, []),
  (.goto 4, 17, 3, 11, 0, 0, []),
  (.iconst 0, 20, 1, 0, 0, 0, []),
  (.ireturn, 21, 1, 0, 0, 0, [])]
def tX6_hasPlaces : List xI := [(.iload_n 2, 0, 1, 0, 0, 0, []),
  (.ifCond .lt 21, 1, 3, 12, 0, 0, []),
  (.iload_n 1, 4, 1, 0, 0, 0, []),
  (.ifCond .lt 17, 5, 3, 12, 0, 0, []),
  (.iload_n 1, 8, 1, 0, 0, 0, []),
  (.aload_n 0, 9, 1, 0, 0, 0, []),
  (.getfield 26, 10, 3, 6, 2, 0, []),
  (.iload_n 2, 13, 1, 0, 0, 0, []),
  (.isub, 14, 1, 0, 0, 0, []),
  (.if_icmp .gt 7, 15, 3, 12, 0, 0, []),
  (.iconst 1, 18, 1, 0, 0, 0, []),
  (.goto 4, 19, 3, 13, 0, 0, []),
  (.iconst 0, 22, 1, 0, 0, 0, []),
  (.ireturn, 23, 1, 0, 0, 0, [])]
def tX6_holdAct : List xI := [(.aload_n 0, 0, 1, 0, 0, 0, []),
  (.iconst 1, 1, 1, 0, 0, 0, []),
  (.putfield 9, 2, 3, 6, 0, 0, []),
  (.aload_n 0, 5, 1, 0, 0, 0, []),
  (.getfield 18, 6, 3, 6, 3, 0, []),
  (.aload_n 1, 9, 1, 0, 0, 0, []),
  (.invokevirtual 29, 10, 3, 3, 2, 0, [0]),
  (.return_, 13, 1, 0, 0, 0, [])]
def tX6_holdNumber : List xI := [(.aload_n 0, 0, 1, 0, 0, 0, []),
  (.iconst 2, 1, 1, 0, 0, 0, []),
  (.putfield 9, 2, 3, 6, 0, 0, []),
  (.aload_n 0, 5, 1, 0, 0, 0, []),
  (.lload_n 1, 6, 1, 0, 0, 0, []),
  (.putfield 33, 7, 3, 6, 1, 0, []),
  (.return_, 10, 1, 0, 0, 0, [])]
def tX6_holdParts : List xI := [(.aload_n 0, 0, 1, 0, 0, 0, []),
  (.iconst 3, 1, 1, 0, 0, 0, []),
  (.aload_n 1, 2, 1, 0, 0, 0, []),
  (.getfield 37, 3, 3, 0, 2, 0, []),
  (.invokevirtual 40, 6, 3, 40, 3, 6, [0]),
  (.iconst 0, 9, 1, 0, 0, 0, []),
  (.istore_n 2, 10, 1, 0, 0, 0, []),
  (.iload_n 2, 11, 1, 0, 0, 0, []),
  (.aload_n 1, 12, 1, 0, 0, 0, []),
  (.getfield 37, 13, 3, 0, 2, 0, []),
  (.if_icmp .ge 22, 16, 3, 22, 0, 0, []),
  (.aload_n 0, 19, 1, 0, 0, 0, []),
  (.getfield 22, 20, 3, 6, 4, 0, []),
  (.iload_n 2, 23, 1, 0, 0, 0, []),
  (.aload_n 1, 24, 1, 0, 0, 0, []),
  (.getfield 44, 25, 3, 0, 6, 0, []),
  (.iload_n 2, 28, 1, 0, 0, 0, []),
  (.iaload, 29, 1, 0, 0, 0, []),
  (.i2l, 30, 1, 0, 0, 0, []),
  (.lastore, 31, 1, 0, 0, 0, []),
  (.iinc 2 1, 32, 3, 0, 0, 0, []),
  (.goto (-24), 35, 3, 7, 0, 0, []),
  (.return_, 38, 1, 0, 0, 0, [])]
def tX6_beginRow : List xI := [(.aload_n 0, 0, 1, 0, 0, 0, []),
  (.iload_n 1, 1, 1, 0, 0, 0, []),
  (.putfield 9, 2, 3, 6, 0, 0, []),
  (.aload_n 0, 5, 1, 0, 0, 0, []),
  (.iload_n 2, 6, 1, 0, 0, 0, []),
  (.putfield 26, 7, 3, 6, 2, 0, []),
  (.aload_n 0, 10, 1, 0, 0, 0, []),
  (.getfield 22, 11, 3, 6, 4, 0, []),
  (.lconst 0, 14, 1, 0, 0, 0, []),
  (.invokestatic 48, 15, 3, 187, 2, 0, [0]),
  (.return_, 18, 1, 0, 0, 0, [])]
def tX7_init : List xI := [(.aload_n 0, 0, 1, 0, 0, 0, []),
  (.invokespecial 3, 1, 3, 1000, 0, 0, []),
  (.aload_n 0, 4, 1, 0, 0, 0, []),
  (.bipush 10, 5, 2, 0, 0, 0, []),
  (.newarray .int, 7, 2, 0, 0, 0, []),
  (.putfield 9, 9, 3, 7, 1, 0, []),
  (.aload_n 0, 12, 1, 0, 0, 0, []),
  (.bipush 40, 13, 2, 0, 0, 0, []),
  (.newarray .long, 15, 2, 0, 0, 0, []),
  (.putfield 15, 17, 3, 7, 2, 0, []),
  (.aload_n 0, 20, 1, 0, 0, 0, []),
  (.bipush 10, 21, 2, 0, 0, 0, []),
  (.newarray .int, 23, 2, 0, 0, 0, []),
  (.putfield 19, 25, 3, 7, 4, 0, []),
  (.aload_n 0, 28, 1, 0, 0, 0, []),
  (.aload_n 1, 29, 1, 0, 0, 0, []),
  (.putfield 22, 30, 3, 7, 0, 0, []),
  (.return_, 33, 1, 0, 0, 0, [])]
def tX7_settle : List xI := [(.aload_n 0, 0, 1, 0, 0, 0, []),
  (.getfield 26, 1, 3, 7, 3, 0, []),
  (.aload_n 0, 4, 1, 0, 0, 0, []),
  (.getfield 22, 5, 3, 7, 0, 0, []),
  (.getfield 30, 8, 3, 10, 2, 0, []),
  (.if_icmp .ne 4, 11, 3, 7, 0, 0, []),
  (.return_, 14, 1, 0, 0, 0, []),
  (.aload_n 0, 15, 1, 0, 0, 0, []),
  (.aload_n 0, 16, 1, 0, 0, 0, []),
  (.getfield 22, 17, 3, 7, 0, 0, []),
  (.getfield 30, 20, 3, 10, 2, 0, []),
  (.putfield 26, 23, 3, 7, 3, 0, []),
  (.iconst 0, 26, 1, 0, 0, 0, []),
  (.istore_n 1, 27, 1, 0, 0, 0, []),
  (.iload_n 1, 28, 1, 0, 0, 0, []),
  (.aload_n 0, 29, 1, 0, 0, 0, []),
  (.getfield 22, 30, 3, 7, 0, 0, []),
  (.getfield 35, 33, 3, 10, 0, 0, []),
  (.if_icmp .ge 34, 36, 3, 34, 0, 0, []),
  (.aload_n 0, 39, 1, 0, 0, 0, []),
  (.getfield 19, 40, 3, 7, 4, 0, []),
  (.iload_n 1, 43, 1, 0, 0, 0, []),
  (.aload_n 0, 44, 1, 0, 0, 0, []),
  (.getfield 22, 45, 3, 7, 0, 0, []),
  (.getfield 38, 48, 3, 10, 1, 0, []),
  (.iload_n 1, 51, 1, 0, 0, 0, []),
  (.invokestatic 41, 52, 3, 108, 2, 0, [1]),
  (.ifCond .eq 7, 55, 3, 30, 0, 0, []),
  (.iconst 1, 58, 1, 0, 0, 0, []),
  (.goto 4, 59, 3, 31, 0, 0, []),
  (.iconst 0, 62, 1, 0, 0, 0, []),
  (.iastore, 63, 1, 0, 0, 0, []),
  (.iinc 1 1, 64, 3, 0, 0, 0, []),
  (.goto (-39), 67, 3, 14, 0, 0, []),
  (.aload_n 0, 70, 1, 0, 0, 0, []),
  (.iconst 0, 71, 1, 0, 0, 0, []),
  (.putfield 45, 72, 3, 7, 5, 0, []),
  (.iconst (-1), 75, 1, 0, 0, 0, []),
  (.istore_n 1, 76, 1, 0, 0, 0, []),
  (.iconst 0, 77, 1, 0, 0, 0, []),
  (.istore_n 2, 78, 1, 0, 0, 0, []),
  (.iload_n 2, 79, 1, 0, 0, 0, []),
  (.bipush 11, 80, 2, 0, 0, 0, []),
  (.if_icmp .gt 30, 82, 3, 57, 0, 0, []),
  (.aload_n 0, 85, 1, 0, 0, 0, []),
  (.getfield 45, 86, 3, 7, 5, 0, []),
  (.iload_n 1, 89, 1, 0, 0, 0, []),
  (.if_icmp .eq 22, 90, 3, 57, 0, 0, []),
  (.aload_n 0, 93, 1, 0, 0, 0, []),
  (.getfield 45, 94, 3, 7, 5, 0, []),
  (.istore_n 1, 97, 1, 0, 0, 0, []),
  (.aload_n 0, 98, 1, 0, 0, 0, []),
  (.invokevirtual 48, 99, 3, 43, 1, 7, [0]),
  (.aload_n 0, 102, 1, 0, 0, 0, []),
  (.invokevirtual 51, 103, 3, 45, 1, 7, [0]),
  (.iinc 2 1, 106, 3, 0, 0, 0, []),
  (.goto (-30), 109, 3, 41, 0, 0, []),
  (.return_, 112, 1, 0, 0, 0, [])]
def tX7_readFaces : List xI := [(.iconst 0, 0, 1, 0, 0, 0, []),
  (.istore_n 1, 1, 1, 0, 0, 0, []),
  (.iload_n 1, 2, 1, 0, 0, 0, []),
  (.aload_n 0, 3, 1, 0, 0, 0, []),
  (.getfield 22, 4, 3, 7, 0, 0, []),
  (.getfield 35, 7, 3, 10, 0, 0, []),
  (.if_icmp .ge 53, 10, 3, 35, 0, 0, []),
  (.iconst 0, 13, 1, 0, 0, 0, []),
  (.istore_n 2, 14, 1, 0, 0, 0, []),
  (.iload_n 2, 15, 1, 0, 0, 0, []),
  (.aload_n 0, 16, 1, 0, 0, 0, []),
  (.getfield 22, 17, 3, 7, 0, 0, []),
  (.getfield 54, 20, 3, 10, 3, 0, []),
  (.iload_n 1, 23, 1, 0, 0, 0, []),
  (.iaload, 24, 1, 0, 0, 0, []),
  (.if_icmp .ge 32, 25, 3, 33, 0, 0, []),
  (.aload_n 0, 28, 1, 0, 0, 0, []),
  (.getfield 15, 29, 3, 7, 2, 0, []),
  (.iload_n 1, 32, 1, 0, 0, 0, []),
  (.iconst 4, 33, 1, 0, 0, 0, []),
  (.imul, 34, 1, 0, 0, 0, []),
  (.iload_n 2, 35, 1, 0, 0, 0, []),
  (.iadd, 36, 1, 0, 0, 0, []),
  (.aload_n 0, 37, 1, 0, 0, 0, []),
  (.aload_n 0, 38, 1, 0, 0, 0, []),
  (.getfield 22, 39, 3, 7, 0, 0, []),
  (.iload_n 1, 42, 1, 0, 0, 0, []),
  (.iload_n 2, 43, 1, 0, 0, 0, []),
  (.invokevirtual 57, 44, 3, 62, 3, 10, [7]),
  (.invokevirtual 61, 47, 3, 44, 2, 7, [2]),
  (.lastore, 50, 1, 0, 0, 0, []),
  (.iinc 2 1, 51, 3, 0, 0, 0, []),
  (.goto (-39), 54, 3, 9, 0, 0, []),
  (.iinc 1 1, 57, 3, 0, 0, 0, []),
  (.goto (-58), 60, 3, 2, 0, 0, []),
  (.return_, 63, 1, 0, 0, 0, [])]
def tX7_faceOf : List xI := [(.aload_n 1, 0, 1, 0, 0, 0, []),
  (.getfield 65, 1, 3, 0, 0, 0, []),
  (.iconst 2, 4, 1, 0, 0, 0, []),
  (.if_icmp .ne 7, 5, 3, 6, 0, 0, []),
  (.lconst 1, 8, 1, 0, 0, 0, []),
  (.goto 4, 9, 3, 7, 0, 0, []),
  (.lconst 0, 12, 1, 0, 0, 0, []),
  (.lstore_n 2, 13, 1, 0, 0, 0, []),
  (.lload_n 2, 14, 1, 0, 0, 0, []),
  (.bipush 10, 15, 2, 0, 0, 0, []),
  (.lshl, 17, 1, 0, 0, 0, []),
  (.aload_n 1, 18, 1, 0, 0, 0, []),
  (.getfield 70, 19, 3, 0, 1, 0, []),
  (.i2l, 22, 1, 0, 0, 0, []),
  (.lor, 23, 1, 0, 0, 0, []),
  (.lstore_n 2, 24, 1, 0, 0, 0, []),
  (.lload_n 2, 25, 1, 0, 0, 0, []),
  (.bipush 40, 26, 2, 0, 0, 0, []),
  (.lshl, 28, 1, 0, 0, 0, []),
  (.lstore_n 2, 29, 1, 0, 0, 0, []),
  (.iconst 0, 30, 1, 0, 0, 0, []),
  (.istore 4, 31, 2, 0, 0, 0, []),
  (.iload 4, 33, 2, 0, 0, 0, []),
  (.aload_n 1, 35, 1, 0, 0, 0, []),
  (.getfield 73, 36, 3, 0, 2, 0, []),
  (.if_icmp .ge 35, 39, 3, 46, 0, 0, []),
  (.lload_n 2, 42, 1, 0, 0, 0, []),
  (.aload_n 1, 43, 1, 0, 0, 0, []),
  (.getfield 76, 44, 3, 0, 6, 0, []),
  (.iload 4, 47, 2, 0, 0, 0, []),
  (.iaload, 49, 1, 0, 0, 0, []),
  (.i2l, 50, 1, 0, 0, 0, []),
  (.iconst 4, 51, 1, 0, 0, 0, []),
  (.aload_n 0, 52, 1, 0, 0, 0, []),
  (.getfield 19, 53, 3, 7, 4, 0, []),
  (.aload_n 1, 56, 1, 0, 0, 0, []),
  (.getfield 79, 57, 3, 0, 5, 0, []),
  (.iload 4, 60, 2, 0, 0, 0, []),
  (.iaload, 62, 1, 0, 0, 0, []),
  (.iaload, 63, 1, 0, 0, 0, []),
  (.imul, 64, 1, 0, 0, 0, []),
  (.lshl, 65, 1, 0, 0, 0, []),
  (.ladd, 66, 1, 0, 0, 0, []),
  (.lstore_n 2, 67, 1, 0, 0, 0, []),
  (.iinc 4 1, 68, 3, 0, 0, 0, []),
  (.goto (-38), 71, 3, 22, 0, 0, []),
  (.lload_n 2, 74, 1, 0, 0, 0, []),
  (.lreturn, 75, 1, 0, 0, 0, [])]
def tX7_split : List xI := [(.aload_n 0, 0, 1, 0, 0, 0, []),
  (.iconst 0, 1, 1, 0, 0, 0, []),
  (.putfield 45, 2, 3, 7, 5, 0, []),
  (.iconst 0, 5, 1, 0, 0, 0, []),
  (.istore_n 1, 6, 1, 0, 0, 0, []),
  (.iload_n 1, 7, 1, 0, 0, 0, []),
  (.aload_n 0, 8, 1, 0, 0, 0, []),
  (.getfield 22, 9, 3, 7, 0, 0, []),
  (.getfield 35, 12, 3, 10, 0, 0, []),
  (.if_icmp .ge 112, 15, 3, 73, 0, 0, []),
  (.aload_n 0, 18, 1, 0, 0, 0, []),
  (.getfield 9, 19, 3, 7, 1, 0, []),
  (.iload_n 1, 22, 1, 0, 0, 0, []),
  (.iconst (-1), 23, 1, 0, 0, 0, []),
  (.iastore, 24, 1, 0, 0, 0, []),
  (.iconst 0, 25, 1, 0, 0, 0, []),
  (.istore_n 2, 26, 1, 0, 0, 0, []),
  (.iload_n 2, 27, 1, 0, 0, 0, []),
  (.iload_n 1, 28, 1, 0, 0, 0, []),
  (.if_icmp .ge 63, 29, 3, 54, 0, 0, []),
  (.aload_n 0, 32, 1, 0, 0, 0, []),
  (.getfield 9, 33, 3, 7, 1, 0, []),
  (.iload_n 1, 36, 1, 0, 0, 0, []),
  (.iaload, 37, 1, 0, 0, 0, []),
  (.ifCond .ge 54, 38, 3, 54, 0, 0, []),
  (.aload_n 0, 41, 1, 0, 0, 0, []),
  (.getfield 19, 42, 3, 7, 4, 0, []),
  (.iload_n 2, 45, 1, 0, 0, 0, []),
  (.iaload, 46, 1, 0, 0, 0, []),
  (.aload_n 0, 47, 1, 0, 0, 0, []),
  (.getfield 19, 48, 3, 7, 4, 0, []),
  (.iload_n 1, 51, 1, 0, 0, 0, []),
  (.iaload, 52, 1, 0, 0, 0, []),
  (.if_icmp .ne 33, 53, 3, 52, 0, 0, []),
  (.aload_n 0, 56, 1, 0, 0, 0, []),
  (.iload_n 1, 57, 1, 0, 0, 0, []),
  (.iload_n 2, 58, 1, 0, 0, 0, []),
  (.invokevirtual 82, 59, 3, 46, 3, 7, [1]),
  (.ifCond .eq 24, 62, 3, 52, 0, 0, []),
  (.aload_n 0, 65, 1, 0, 0, 0, []),
  (.iload_n 2, 66, 1, 0, 0, 0, []),
  (.iload_n 1, 67, 1, 0, 0, 0, []),
  (.invokevirtual 82, 68, 3, 46, 3, 7, [1]),
  (.ifCond .eq 15, 71, 3, 52, 0, 0, []),
  (.aload_n 0, 74, 1, 0, 0, 0, []),
  (.getfield 9, 75, 3, 7, 1, 0, []),
  (.iload_n 1, 78, 1, 0, 0, 0, []),
  (.aload_n 0, 79, 1, 0, 0, 0, []),
  (.getfield 9, 80, 3, 7, 1, 0, []),
  (.iload_n 2, 83, 1, 0, 0, 0, []),
  (.iaload, 84, 1, 0, 0, 0, []),
  (.iastore, 85, 1, 0, 0, 0, []),
  (.iinc 2 1, 86, 3, 0, 0, 0, []),
  (.goto (-62), 89, 3, 17, 0, 0, []),
  (.aload_n 0, 92, 1, 0, 0, 0, []),
  (.getfield 9, 93, 3, 7, 1, 0, []),
  (.iload_n 1, 96, 1, 0, 0, 0, []),
  (.iaload, 97, 1, 0, 0, 0, []),
  (.ifCond .ge 23, 98, 3, 71, 0, 0, []),
  (.aload_n 0, 101, 1, 0, 0, 0, []),
  (.getfield 9, 102, 3, 7, 1, 0, []),
  (.iload_n 1, 105, 1, 0, 0, 0, []),
  (.aload_n 0, 106, 1, 0, 0, 0, []),
  (.getfield 45, 107, 3, 7, 5, 0, []),
  (.iastore, 110, 1, 0, 0, 0, []),
  (.aload_n 0, 111, 1, 0, 0, 0, []),
  (.dup, 112, 1, 0, 0, 0, []),
  (.getfield 45, 113, 3, 7, 5, 0, []),
  (.iconst 1, 116, 1, 0, 0, 0, []),
  (.iadd, 117, 1, 0, 0, 0, []),
  (.putfield 45, 118, 3, 7, 5, 0, []),
  (.iinc 1 1, 121, 3, 0, 0, 0, []),
  (.goto (-117), 124, 3, 5, 0, 0, []),
  (.aload_n 0, 127, 1, 0, 0, 0, []),
  (.getfield 9, 128, 3, 7, 1, 0, []),
  (.iconst 0, 131, 1, 0, 0, 0, []),
  (.aload_n 0, 132, 1, 0, 0, 0, []),
  (.getfield 19, 133, 3, 7, 4, 0, []),
  (.iconst 0, 136, 1, 0, 0, 0, []),
  (.bipush 10, 137, 2, 0, 0, 0, []),
  (.invokestatic 85, 139, 3, 1001, 0, 0, []),
  (.return_, 142, 1, 0, 0, 0, [])]
def tX7_covers : List xI := [(.iconst 0, 0, 1, 0, 0, 0, []),
  (.istore_n 3, 1, 1, 0, 0, 0, []),
  (.iload_n 3, 2, 1, 0, 0, 0, []),
  (.aload_n 0, 3, 1, 0, 0, 0, []),
  (.getfield 22, 4, 3, 7, 0, 0, []),
  (.getfield 54, 7, 3, 10, 3, 0, []),
  (.iload_n 1, 10, 1, 0, 0, 0, []),
  (.iaload, 11, 1, 0, 0, 0, []),
  (.if_icmp .ge 29, 12, 3, 25, 0, 0, []),
  (.aload_n 0, 15, 1, 0, 0, 0, []),
  (.iload_n 2, 16, 1, 0, 0, 0, []),
  (.aload_n 0, 17, 1, 0, 0, 0, []),
  (.getfield 15, 18, 3, 7, 2, 0, []),
  (.iload_n 1, 21, 1, 0, 0, 0, []),
  (.iconst 4, 22, 1, 0, 0, 0, []),
  (.imul, 23, 1, 0, 0, 0, []),
  (.iload_n 3, 24, 1, 0, 0, 0, []),
  (.iadd, 25, 1, 0, 0, 0, []),
  (.laload, 26, 1, 0, 0, 0, []),
  (.invokevirtual 91, 27, 3, 47, 3, 7, [1]),
  (.ifCond .ne 5, 30, 3, 23, 0, 0, []),
  (.iconst 0, 33, 1, 0, 0, 0, []),
  (.ireturn, 34, 1, 0, 0, 0, []),
  (.iinc 3 1, 35, 3, 0, 0, 0, []),
  (.goto (-36), 38, 3, 2, 0, 0, []),
  (.iconst 1, 41, 1, 0, 0, 0, []),
  (.ireturn, 42, 1, 0, 0, 0, [])]
def tX7_hasFace : List xI := [(.iconst 0, 0, 1, 0, 0, 0, []),
  (.istore 4, 1, 2, 0, 0, 0, []),
  (.iload 4, 3, 2, 0, 0, 0, []),
  (.aload_n 0, 5, 1, 0, 0, 0, []),
  (.getfield 22, 6, 3, 7, 0, 0, []),
  (.getfield 54, 9, 3, 10, 3, 0, []),
  (.iload_n 1, 12, 1, 0, 0, 0, []),
  (.iaload, 13, 1, 0, 0, 0, []),
  (.if_icmp .ge 27, 14, 3, 24, 0, 0, []),
  (.aload_n 0, 17, 1, 0, 0, 0, []),
  (.getfield 15, 18, 3, 7, 2, 0, []),
  (.iload_n 1, 21, 1, 0, 0, 0, []),
  (.iconst 4, 22, 1, 0, 0, 0, []),
  (.imul, 23, 1, 0, 0, 0, []),
  (.iload 4, 24, 2, 0, 0, 0, []),
  (.iadd, 26, 1, 0, 0, 0, []),
  (.laload, 27, 1, 0, 0, 0, []),
  (.lload_n 2, 28, 1, 0, 0, 0, []),
  (.lcmp, 29, 1, 0, 0, 0, []),
  (.ifCond .ne 5, 30, 3, 22, 0, 0, []),
  (.iconst 1, 33, 1, 0, 0, 0, []),
  (.ireturn, 34, 1, 0, 0, 0, []),
  (.iinc 4 1, 35, 3, 0, 0, 0, []),
  (.goto (-35), 38, 3, 2, 0, 0, []),
  (.iconst 0, 41, 1, 0, 0, 0, []),
  (.ireturn, 42, 1, 0, 0, 0, [])]
def tX8_init : List xI := [(.aload_n 0, 0, 1, 0, 0, 0, []),
  (.invokespecial 3, 1, 3, 1000, 0, 0, []),
  (.aload_n 0, 4, 1, 0, 0, 0, []),
  (.new 9, 5, 3, 1, 0, 0, []),
  (.dup, 8, 1, 0, 0, 0, []),
  (.invokespecial 11, 9, 3, 9, 1, 0, [0]),
  (.putfield 12, 12, 3, 8, 3, 0, []),
  (.aload_n 0, 15, 1, 0, 0, 0, []),
  (.bipush 10, 16, 2, 0, 0, 0, []),
  (.newarray .long, 18, 2, 0, 0, 0, []),
  (.putfield 18, 20, 3, 8, 6, 0, []),
  (.aload_n 0, 23, 1, 0, 0, 0, []),
  (.aload_n 1, 24, 1, 0, 0, 0, []),
  (.putfield 22, 25, 3, 8, 0, 0, []),
  (.aload_n 0, 28, 1, 0, 0, 0, []),
  (.iload_n 2, 29, 1, 0, 0, 0, []),
  (.putfield 26, 30, 3, 8, 1, 0, []),
  (.aload_n 0, 33, 1, 0, 0, 0, []),
  (.new 30, 34, 3, 9, 0, 0, []),
  (.dup, 37, 1, 0, 0, 0, []),
  (.aload_n 1, 38, 1, 0, 0, 0, []),
  (.iload_n 2, 39, 1, 0, 0, 0, []),
  (.invokespecial 32, 40, 3, 56, 3, 0, [0]),
  (.putfield 35, 43, 3, 8, 2, 0, []),
  (.return_, 46, 1, 0, 0, 0, [])]
def tX8_sort : List xI := [(.aload_n 0, 0, 1, 0, 0, 0, []),
  (.getfield 39, 1, 3, 8, 4, 0, []),
  (.aload_n 0, 4, 1, 0, 0, 0, []),
  (.getfield 22, 5, 3, 8, 0, 0, []),
  (.getfield 43, 8, 3, 10, 2, 0, []),
  (.if_icmp .ne 4, 11, 3, 7, 0, 0, []),
  (.return_, 14, 1, 0, 0, 0, []),
  (.aload_n 0, 15, 1, 0, 0, 0, []),
  (.aload_n 0, 16, 1, 0, 0, 0, []),
  (.getfield 22, 17, 3, 8, 0, 0, []),
  (.getfield 43, 20, 3, 10, 2, 0, []),
  (.putfield 39, 23, 3, 8, 4, 0, []),
  (.aload_n 0, 26, 1, 0, 0, 0, []),
  (.getfield 22, 27, 3, 8, 0, 0, []),
  (.invokevirtual 48, 30, 3, 65, 1, 10, [1]),
  (.istore_n 1, 33, 1, 0, 0, 0, []),
  (.iconst (-1), 34, 1, 0, 0, 0, []),
  (.istore_n 2, 35, 1, 0, 0, 0, []),
  (.aload_n 0, 36, 1, 0, 0, 0, []),
  (.iload_n 1, 37, 1, 0, 0, 0, []),
  (.putfield 52, 38, 3, 8, 8, 0, []),
  (.iconst 0, 41, 1, 0, 0, 0, []),
  (.istore_n 3, 42, 1, 0, 0, 0, []),
  (.iload_n 3, 43, 1, 0, 0, 0, []),
  (.bipush 10, 44, 2, 0, 0, 0, []),
  (.if_icmp .gt 37, 46, 3, 42, 0, 0, []),
  (.aload_n 0, 49, 1, 0, 0, 0, []),
  (.getfield 52, 50, 3, 8, 8, 0, []),
  (.iload_n 2, 53, 1, 0, 0, 0, []),
  (.if_icmp .eq 29, 54, 3, 42, 0, 0, []),
  (.aload_n 0, 57, 1, 0, 0, 0, []),
  (.getfield 52, 58, 3, 8, 8, 0, []),
  (.istore_n 2, 61, 1, 0, 0, 0, []),
  (.aload_n 0, 62, 1, 0, 0, 0, []),
  (.aload_n 0, 63, 1, 0, 0, 0, []),
  (.getfield 35, 64, 3, 8, 2, 0, []),
  (.aload_n 0, 67, 1, 0, 0, 0, []),
  (.getfield 52, 68, 3, 8, 8, 0, []),
  (.invokevirtual 55, 71, 3, 57, 2, 9, [1]),
  (.putfield 52, 74, 3, 8, 8, 0, []),
  (.iinc 3 1, 77, 3, 0, 0, 0, []),
  (.goto (-37), 80, 3, 23, 0, 0, []),
  (.aload_n 0, 83, 1, 0, 0, 0, []),
  (.iload_n 1, 84, 1, 0, 0, 0, []),
  (.aload_n 0, 85, 1, 0, 0, 0, []),
  (.getfield 35, 86, 3, 8, 2, 0, []),
  (.iload_n 1, 89, 1, 0, 0, 0, []),
  (.invokevirtual 55, 90, 3, 57, 2, 9, [1]),
  (.iconst (-1), 93, 1, 0, 0, 0, []),
  (.ixor, 94, 1, 0, 0, 0, []),
  (.iand, 95, 1, 0, 0, 0, []),
  (.putfield 59, 96, 3, 8, 9, 0, []),
  (.return_, 99, 1, 0, 0, 0, [])]
def tX8_settle : List xI := [(.aload_n 0, 0, 1, 0, 0, 0, []),
  (.getfield 62, 1, 3, 8, 5, 0, []),
  (.aload_n 0, 4, 1, 0, 0, 0, []),
  (.getfield 22, 5, 3, 8, 0, 0, []),
  (.getfield 43, 8, 3, 10, 2, 0, []),
  (.if_icmp .ne 4, 11, 3, 7, 0, 0, []),
  (.return_, 14, 1, 0, 0, 0, []),
  (.aload_n 0, 15, 1, 0, 0, 0, []),
  (.aload_n 0, 16, 1, 0, 0, 0, []),
  (.getfield 22, 17, 3, 8, 0, 0, []),
  (.getfield 43, 20, 3, 10, 2, 0, []),
  (.putfield 62, 23, 3, 8, 5, 0, []),
  (.aload_n 0, 26, 1, 0, 0, 0, []),
  (.aload_n 0, 27, 1, 0, 0, 0, []),
  (.getfield 12, 28, 3, 8, 3, 0, []),
  (.aload_n 0, 31, 1, 0, 0, 0, []),
  (.getfield 22, 32, 3, 8, 0, 0, []),
  (.invokevirtual 48, 35, 3, 65, 1, 10, [1]),
  (.aload_n 0, 38, 1, 0, 0, 0, []),
  (.getfield 52, 39, 3, 8, 8, 0, []),
  (.iconst (-1), 42, 1, 0, 0, 0, []),
  (.ixor, 43, 1, 0, 0, 0, []),
  (.iand, 44, 1, 0, 0, 0, []),
  (.aload_n 0, 45, 1, 0, 0, 0, []),
  (.getfield 59, 46, 3, 8, 9, 0, []),
  (.iconst (-1), 49, 1, 0, 0, 0, []),
  (.ixor, 50, 1, 0, 0, 0, []),
  (.iand, 51, 1, 0, 0, 0, []),
  (.invokevirtual 65, 52, 3, 10, 2, 1, [1]),
  (.putfield 69, 55, 3, 8, 10, 0, []),
  (.aload_n 0, 58, 1, 0, 0, 0, []),
  (.getfield 69, 59, 3, 8, 10, 0, []),
  (.istore_n 1, 62, 1, 0, 0, 0, []),
  (.iconst 0, 63, 1, 0, 0, 0, []),
  (.istore_n 2, 64, 1, 0, 0, 0, []),
  (.iload_n 2, 65, 1, 0, 0, 0, []),
  (.ldc 72, 66, 2, 0, 0, 1000000, []),
  (.if_icmp .ge 39, 68, 3, 56, 0, 0, []),
  (.iload_n 1, 71, 1, 0, 0, 0, []),
  (.ifCond .eq 35, 72, 3, 56, 0, 0, []),
  (.aload_n 0, 75, 1, 0, 0, 0, []),
  (.invokevirtual 73, 76, 3, 51, 1, 8, [0]),
  (.aload_n 0, 79, 1, 0, 0, 0, []),
  (.iconst 0, 80, 1, 0, 0, 0, []),
  (.invokevirtual 76, 81, 3, 53, 2, 8, [1]),
  (.ifCond .ne 11, 84, 3, 50, 0, 0, []),
  (.aload_n 0, 87, 1, 0, 0, 0, []),
  (.iconst 1, 88, 1, 0, 0, 0, []),
  (.invokevirtual 76, 89, 3, 53, 2, 8, [1]),
  (.ifCond .eq 7, 92, 3, 52, 0, 0, []),
  (.iconst 1, 95, 1, 0, 0, 0, []),
  (.goto 4, 96, 3, 53, 0, 0, []),
  (.iconst 0, 99, 1, 0, 0, 0, []),
  (.istore_n 1, 100, 1, 0, 0, 0, []),
  (.iinc 2 1, 101, 3, 0, 0, 0, []),
  (.goto (-39), 104, 3, 35, 0, 0, []),
  (.return_, 107, 1, 0, 0, 0, [])]
def tX8_evaluate : List xI := [(.aload_n 0, 0, 1, 0, 0, 0, []),
  (.lconst 1, 1, 1, 0, 0, 0, []),
  (.invokevirtual 80, 2, 3, 52, 2, 8, [0]),
  (.iconst 0, 5, 1, 0, 0, 0, []),
  (.istore_n 1, 6, 1, 0, 0, 0, []),
  (.iload_n 1, 7, 1, 0, 0, 0, []),
  (.aload_n 0, 8, 1, 0, 0, 0, []),
  (.getfield 12, 9, 3, 8, 3, 0, []),
  (.getfield 84, 12, 3, 1, 3, 0, []),
  (.if_icmp .ge 54, 15, 3, 37, 0, 0, []),
  (.aload_n 0, 18, 1, 0, 0, 0, []),
  (.getfield 12, 19, 3, 8, 3, 0, []),
  (.getfield 87, 22, 3, 1, 2, 0, []),
  (.iload_n 1, 25, 1, 0, 0, 0, []),
  (.iaload, 26, 1, 0, 0, 0, []),
  (.istore_n 2, 27, 1, 0, 0, 0, []),
  (.aload_n 0, 28, 1, 0, 0, 0, []),
  (.getfield 22, 29, 3, 8, 0, 0, []),
  (.iload_n 2, 32, 1, 0, 0, 0, []),
  (.aload_n 0, 33, 1, 0, 0, 0, []),
  (.getfield 35, 34, 3, 8, 2, 0, []),
  (.getfield 91, 37, 3, 9, 2, 0, []),
  (.iload_n 2, 40, 1, 0, 0, 0, []),
  (.iaload, 41, 1, 0, 0, 0, []),
  (.invokevirtual 94, 42, 3, 62, 3, 10, [7]),
  (.astore_n 3, 45, 1, 0, 0, 0, []),
  (.aload_n 0, 46, 1, 0, 0, 0, []),
  (.getfield 12, 47, 3, 8, 3, 0, []),
  (.iload_n 1, 50, 1, 0, 0, 0, []),
  (.aload_n 3, 51, 1, 0, 0, 0, []),
  (.aload_n 3, 52, 1, 0, 0, 0, []),
  (.aload_n 0, 53, 1, 0, 0, 0, []),
  (.getfield 18, 54, 3, 8, 6, 0, []),
  (.invokevirtual 98, 57, 3, 7, 2, 0, [2]),
  (.invokevirtual 104, 60, 3, 11, 4, 1, [0]),
  (.iinc 1 1, 63, 3, 0, 0, 0, []),
  (.goto (-59), 66, 3, 5, 0, 0, []),
  (.aload_n 0, 69, 1, 0, 0, 0, []),
  (.getfield 12, 70, 3, 8, 3, 0, []),
  (.invokevirtual 108, 73, 3, 12, 1, 1, [0]),
  (.aload_n 0, 76, 1, 0, 0, 0, []),
  (.aload_n 0, 77, 1, 0, 0, 0, []),
  (.getfield 12, 78, 3, 8, 3, 0, []),
  (.getfield 111, 81, 3, 1, 4, 0, []),
  (.putfield 115, 84, 3, 8, 7, 0, []),
  (.aload_n 0, 87, 1, 0, 0, 0, []),
  (.aload_n 0, 88, 1, 0, 0, 0, []),
  (.getfield 115, 89, 3, 8, 7, 0, []),
  (.invokevirtual 80, 92, 3, 52, 2, 8, [0]),
  (.iconst 0, 95, 1, 0, 0, 0, []),
  (.istore_n 1, 96, 1, 0, 0, 0, []),
  (.iload_n 1, 97, 1, 0, 0, 0, []),
  (.aload_n 0, 98, 1, 0, 0, 0, []),
  (.getfield 12, 99, 3, 8, 3, 0, []),
  (.getfield 84, 102, 3, 1, 3, 0, []),
  (.if_icmp .ge 31, 105, 3, 70, 0, 0, []),
  (.aload_n 0, 108, 1, 0, 0, 0, []),
  (.getfield 18, 109, 3, 8, 6, 0, []),
  (.aload_n 0, 112, 1, 0, 0, 0, []),
  (.getfield 12, 113, 3, 8, 3, 0, []),
  (.getfield 87, 116, 3, 1, 2, 0, []),
  (.iload_n 1, 119, 1, 0, 0, 0, []),
  (.iaload, 120, 1, 0, 0, 0, []),
  (.aload_n 0, 121, 1, 0, 0, 0, []),
  (.getfield 12, 122, 3, 8, 3, 0, []),
  (.iload_n 1, 125, 1, 0, 0, 0, []),
  (.invokevirtual 116, 126, 3, 14, 2, 1, [2]),
  (.lastore, 129, 1, 0, 0, 0, []),
  (.iinc 1 1, 130, 3, 0, 0, 0, []),
  (.goto (-36), 133, 3, 51, 0, 0, []),
  (.return_, 136, 1, 0, 0, 0, [])]
def tX8_setSureTo : List xI := [(.iconst 0, 0, 1, 0, 0, 0, []),
  (.istore_n 3, 1, 1, 0, 0, 0, []),
  (.iload_n 3, 2, 1, 0, 0, 0, []),
  (.aload_n 0, 3, 1, 0, 0, 0, []),
  (.getfield 22, 4, 3, 8, 0, 0, []),
  (.getfield 120, 7, 3, 10, 0, 0, []),
  (.if_icmp .ge 31, 10, 3, 21, 0, 0, []),
  (.aload_n 0, 13, 1, 0, 0, 0, []),
  (.getfield 18, 14, 3, 8, 6, 0, []),
  (.iload_n 3, 17, 1, 0, 0, 0, []),
  (.aload_n 0, 18, 1, 0, 0, 0, []),
  (.getfield 52, 19, 3, 8, 8, 0, []),
  (.iload_n 3, 22, 1, 0, 0, 0, []),
  (.invokestatic 123, 23, 3, 108, 2, 0, [1]),
  (.ifCond .eq 7, 26, 3, 17, 0, 0, []),
  (.lload_n 1, 29, 1, 0, 0, 0, []),
  (.goto 4, 30, 3, 18, 0, 0, []),
  (.lconst 0, 33, 1, 0, 0, 0, []),
  (.lastore, 34, 1, 0, 0, 0, []),
  (.iinc 3 1, 35, 3, 0, 0, 0, []),
  (.goto (-36), 38, 3, 2, 0, 0, []),
  (.return_, 41, 1, 0, 0, 0, [])]
def tX8_improve : List xI := [(.iconst 0, 0, 1, 0, 0, 0, []),
  (.istore_n 2, 1, 1, 0, 0, 0, []),
  (.iconst 0, 2, 1, 0, 0, 0, []),
  (.istore_n 3, 3, 1, 0, 0, 0, []),
  (.iload_n 3, 4, 1, 0, 0, 0, []),
  (.aload_n 0, 5, 1, 0, 0, 0, []),
  (.getfield 12, 6, 3, 8, 3, 0, []),
  (.getfield 84, 9, 3, 1, 3, 0, []),
  (.if_icmp .ge 47, 12, 3, 32, 0, 0, []),
  (.aload_n 0, 15, 1, 0, 0, 0, []),
  (.getfield 12, 16, 3, 8, 3, 0, []),
  (.getfield 87, 19, 3, 1, 2, 0, []),
  (.iload_n 3, 22, 1, 0, 0, 0, []),
  (.iaload, 23, 1, 0, 0, 0, []),
  (.istore 4, 24, 2, 0, 0, 0, []),
  (.aload_n 0, 26, 1, 0, 0, 0, []),
  (.getfield 22, 27, 3, 8, 0, 0, []),
  (.iload 4, 30, 2, 0, 0, 0, []),
  (.aload_n 0, 32, 1, 0, 0, 0, []),
  (.getfield 26, 33, 3, 8, 1, 0, []),
  (.invokevirtual 127, 36, 3, 64, 3, 10, [1]),
  (.iload_n 1, 39, 1, 0, 0, 0, []),
  (.if_icmp .ne 13, 40, 3, 30, 0, 0, []),
  (.iload_n 2, 43, 1, 0, 0, 0, []),
  (.aload_n 0, 44, 1, 0, 0, 0, []),
  (.iload 4, 45, 2, 0, 0, 0, []),
  (.iload_n 1, 47, 1, 0, 0, 0, []),
  (.invokevirtual 131, 48, 3, 54, 3, 8, [1]),
  (.ior, 51, 1, 0, 0, 0, []),
  (.istore_n 2, 52, 1, 0, 0, 0, []),
  (.iinc 3 1, 53, 3, 0, 0, 0, []),
  (.goto (-52), 56, 3, 4, 0, 0, []),
  (.iload_n 2, 59, 1, 0, 0, 0, []),
  (.ireturn, 60, 1, 0, 0, 0, [])]
def tX8_improveState : List xI := [(.aload_n 0, 0, 1, 0, 0, 0, []),
  (.getfield 35, 1, 3, 8, 2, 0, []),
  (.getfield 91, 4, 3, 9, 2, 0, []),
  (.iload_n 1, 7, 1, 0, 0, 0, []),
  (.iaload, 8, 1, 0, 0, 0, []),
  (.istore_n 3, 9, 1, 0, 0, 0, []),
  (.ldc2_w 134, 10, 3, 0, 0, 12, []),
  (.aload_n 0, 13, 1, 0, 0, 0, []),
  (.getfield 18, 14, 3, 8, 6, 0, []),
  (.iload_n 1, 17, 1, 0, 0, 0, []),
  (.laload, 18, 1, 0, 0, 0, []),
  (.lmul, 19, 1, 0, 0, 0, []),
  (.lstore 4, 20, 2, 0, 0, 0, []),
  (.iconst 0, 22, 1, 0, 0, 0, []),
  (.istore 6, 23, 2, 0, 0, 0, []),
  (.iload 6, 25, 2, 0, 0, 0, []),
  (.aload_n 0, 27, 1, 0, 0, 0, []),
  (.getfield 22, 28, 3, 8, 0, 0, []),
  (.getfield 136, 31, 3, 10, 3, 0, []),
  (.iload_n 1, 34, 1, 0, 0, 0, []),
  (.iaload, 35, 1, 0, 0, 0, []),
  (.if_icmp .ge 66, 36, 3, 52, 0, 0, []),
  (.aload_n 0, 39, 1, 0, 0, 0, []),
  (.getfield 22, 40, 3, 8, 0, 0, []),
  (.iload_n 1, 43, 1, 0, 0, 0, []),
  (.iload 6, 44, 2, 0, 0, 0, []),
  (.invokevirtual 94, 46, 3, 62, 3, 10, [7]),
  (.aload_n 0, 49, 1, 0, 0, 0, []),
  (.getfield 18, 50, 3, 8, 6, 0, []),
  (.invokevirtual 98, 53, 3, 7, 2, 0, [2]),
  (.lstore 7, 56, 2, 0, 0, 0, []),
  (.iload_n 2, 58, 1, 0, 0, 0, []),
  (.ifCond .eq 14, 59, 3, 38, 0, 0, []),
  (.lload 7, 62, 2, 0, 0, 0, []),
  (.lload 4, 64, 2, 0, 0, 0, []),
  (.lcmp, 66, 1, 0, 0, 0, []),
  (.ifCond .le 29, 67, 3, 50, 0, 0, []),
  (.goto 11, 70, 3, 42, 0, 0, []),
  (.lload 7, 73, 2, 0, 0, 0, []),
  (.lload 4, 75, 2, 0, 0, 0, []),
  (.lcmp, 77, 1, 0, 0, 0, []),
  (.ifCond .ge 18, 78, 3, 50, 0, 0, []),
  (.lload 7, 81, 2, 0, 0, 0, []),
  (.lstore 4, 83, 2, 0, 0, 0, []),
  (.aload_n 0, 85, 1, 0, 0, 0, []),
  (.getfield 35, 86, 3, 8, 2, 0, []),
  (.getfield 91, 89, 3, 9, 2, 0, []),
  (.iload_n 1, 92, 1, 0, 0, 0, []),
  (.iload 6, 93, 2, 0, 0, 0, []),
  (.iastore, 95, 1, 0, 0, 0, []),
  (.iinc 6 1, 96, 3, 0, 0, 0, []),
  (.goto (-74), 99, 3, 15, 0, 0, []),
  (.aload_n 0, 102, 1, 0, 0, 0, []),
  (.getfield 35, 103, 3, 8, 2, 0, []),
  (.getfield 91, 106, 3, 9, 2, 0, []),
  (.iload_n 1, 109, 1, 0, 0, 0, []),
  (.iaload, 110, 1, 0, 0, 0, []),
  (.iload_n 3, 111, 1, 0, 0, 0, []),
  (.if_icmp .eq 7, 112, 3, 61, 0, 0, []),
  (.iconst 1, 115, 1, 0, 0, 0, []),
  (.goto 4, 116, 3, 62, 0, 0, []),
  (.iconst 0, 119, 1, 0, 0, 0, []),
  (.ireturn, 120, 1, 0, 0, 0, [])]
def tX8_isTight : List xI := [(.aload_n 0, 0, 1, 0, 0, 0, []),
  (.getfield 22, 1, 3, 8, 0, 0, []),
  (.iload_n 1, 4, 1, 0, 0, 0, []),
  (.iload_n 2, 5, 1, 0, 0, 0, []),
  (.invokevirtual 94, 6, 3, 62, 3, 10, [7]),
  (.aload_n 0, 9, 1, 0, 0, 0, []),
  (.getfield 18, 10, 3, 8, 6, 0, []),
  (.invokevirtual 98, 13, 3, 7, 2, 0, [2]),
  (.ldc2_w 134, 16, 3, 0, 0, 12, []),
  (.aload_n 0, 19, 1, 0, 0, 0, []),
  (.getfield 18, 20, 3, 8, 6, 0, []),
  (.iload_n 1, 23, 1, 0, 0, 0, []),
  (.laload, 24, 1, 0, 0, 0, []),
  (.lmul, 25, 1, 0, 0, 0, []),
  (.lcmp, 26, 1, 0, 0, 0, []),
  (.ifCond .ne 7, 27, 3, 18, 0, 0, []),
  (.iconst 1, 30, 1, 0, 0, 0, []),
  (.goto 4, 31, 3, 19, 0, 0, []),
  (.iconst 0, 34, 1, 0, 0, 0, []),
  (.ireturn, 35, 1, 0, 0, 0, [])]
def tX9_init : List xI := [(.aload_n 0, 0, 1, 0, 0, 0, []),
  (.invokespecial 3, 1, 3, 1000, 0, 0, []),
  (.aload_n 0, 4, 1, 0, 0, 0, []),
  (.bipush 10, 5, 2, 0, 0, 0, []),
  (.newarray .int, 7, 2, 0, 0, 0, []),
  (.putfield 9, 9, 3, 9, 2, 0, []),
  (.aload_n 0, 12, 1, 0, 0, 0, []),
  (.aload_n 1, 13, 1, 0, 0, 0, []),
  (.putfield 15, 14, 3, 9, 0, 0, []),
  (.aload_n 0, 17, 1, 0, 0, 0, []),
  (.iload_n 2, 18, 1, 0, 0, 0, []),
  (.putfield 19, 19, 3, 9, 1, 0, []),
  (.return_, 22, 1, 0, 0, 0, [])]
def tX9_grow : List xI := [(.aload_n 0, 0, 1, 0, 0, 0, []),
  (.getfield 15, 1, 3, 9, 0, 0, []),
  (.getfield 23, 4, 3, 10, 1, 0, []),
  (.istore_n 2, 7, 1, 0, 0, 0, []),
  (.iconst 1, 8, 1, 0, 0, 0, []),
  (.istore_n 3, 9, 1, 0, 0, 0, []),
  (.iconst 0, 10, 1, 0, 0, 0, []),
  (.istore 4, 11, 2, 0, 0, 0, []),
  (.iload 4, 13, 2, 0, 0, 0, []),
  (.bipush 10, 15, 2, 0, 0, 0, []),
  (.if_icmp .ge 80, 17, 3, 51, 0, 0, []),
  (.iload_n 3, 20, 1, 0, 0, 0, []),
  (.ifCond .eq 76, 21, 3, 51, 0, 0, []),
  (.iload_n 2, 24, 1, 0, 0, 0, []),
  (.istore 5, 25, 2, 0, 0, 0, []),
  (.iconst 0, 27, 1, 0, 0, 0, []),
  (.istore 6, 28, 2, 0, 0, 0, []),
  (.iload 6, 30, 2, 0, 0, 0, []),
  (.aload_n 0, 32, 1, 0, 0, 0, []),
  (.getfield 15, 33, 3, 9, 0, 0, []),
  (.getfield 29, 36, 3, 10, 0, 0, []),
  (.if_icmp .ge 40, 39, 3, 42, 0, 0, []),
  (.iload_n 2, 42, 1, 0, 0, 0, []),
  (.iload_n 2, 43, 1, 0, 0, 0, []),
  (.iload 6, 44, 2, 0, 0, 0, []),
  (.invokestatic 32, 46, 3, 108, 2, 0, [1]),
  (.ifCond .ne 21, 49, 3, 37, 0, 0, []),
  (.aload_n 0, 52, 1, 0, 0, 0, []),
  (.iload 6, 53, 2, 0, 0, 0, []),
  (.iload_n 1, 55, 1, 0, 0, 0, []),
  (.iload_n 2, 56, 1, 0, 0, 0, []),
  (.invokevirtual 36, 57, 3, 58, 4, 9, [1]),
  (.ifCond .eq 10, 60, 3, 37, 0, 0, []),
  (.iconst 1, 63, 1, 0, 0, 0, []),
  (.iload 6, 64, 2, 0, 0, 0, []),
  (.ishl, 66, 1, 0, 0, 0, []),
  (.goto 4, 67, 3, 38, 0, 0, []),
  (.iconst 0, 70, 1, 0, 0, 0, []),
  (.ior, 71, 1, 0, 0, 0, []),
  (.istore_n 2, 72, 1, 0, 0, 0, []),
  (.iinc 6 1, 73, 3, 0, 0, 0, []),
  (.goto (-46), 76, 3, 17, 0, 0, []),
  (.iload_n 2, 79, 1, 0, 0, 0, []),
  (.iload 5, 80, 2, 0, 0, 0, []),
  (.if_icmp .eq 7, 82, 3, 47, 0, 0, []),
  (.iconst 1, 85, 1, 0, 0, 0, []),
  (.goto 4, 86, 3, 48, 0, 0, []),
  (.iconst 0, 89, 1, 0, 0, 0, []),
  (.istore_n 3, 90, 1, 0, 0, 0, []),
  (.iinc 4 1, 91, 3, 0, 0, 0, []),
  (.goto (-81), 94, 3, 8, 0, 0, []),
  (.iload_n 2, 97, 1, 0, 0, 0, []),
  (.ireturn, 98, 1, 0, 0, 0, [])]
def tX9_join : List xI := [(.aload_n 0, 0, 1, 0, 0, 0, []),
  (.getfield 15, 1, 3, 9, 0, 0, []),
  (.iload_n 1, 4, 1, 0, 0, 0, []),
  (.aload_n 0, 5, 1, 0, 0, 0, []),
  (.getfield 19, 6, 3, 9, 1, 0, []),
  (.invokevirtual 40, 9, 3, 64, 3, 10, [1]),
  (.istore 4, 12, 2, 0, 0, 0, []),
  (.aload_n 0, 14, 1, 0, 0, 0, []),
  (.getfield 9, 15, 3, 9, 2, 0, []),
  (.iload_n 1, 18, 1, 0, 0, 0, []),
  (.iconst 0, 19, 1, 0, 0, 0, []),
  (.iastore, 20, 1, 0, 0, 0, []),
  (.iconst 0, 21, 1, 0, 0, 0, []),
  (.istore 5, 22, 2, 0, 0, 0, []),
  (.iload 5, 24, 2, 0, 0, 0, []),
  (.aload_n 0, 26, 1, 0, 0, 0, []),
  (.getfield 15, 27, 3, 9, 0, 0, []),
  (.getfield 44, 30, 3, 10, 3, 0, []),
  (.iload_n 1, 33, 1, 0, 0, 0, []),
  (.iaload, 34, 1, 0, 0, 0, []),
  (.if_icmp .ge 75, 35, 3, 56, 0, 0, []),
  (.aload_n 0, 38, 1, 0, 0, 0, []),
  (.getfield 15, 39, 3, 9, 0, 0, []),
  (.iload_n 1, 42, 1, 0, 0, 0, []),
  (.iload 5, 43, 2, 0, 0, 0, []),
  (.invokevirtual 47, 45, 3, 62, 3, 10, [7]),
  (.astore 6, 48, 2, 0, 0, 0, []),
  (.aload 6, 50, 2, 0, 0, 0, []),
  (.iload_n 2, 52, 1, 0, 0, 0, []),
  (.invokevirtual 51, 53, 3, 6, 2, 0, [1]),
  (.ifCond .eq 17, 56, 3, 38, 0, 0, []),
  (.aload 6, 59, 2, 0, 0, 0, []),
  (.getfield 57, 61, 3, 0, 4, 0, []),
  (.iload_n 3, 64, 1, 0, 0, 0, []),
  (.iand, 65, 1, 0, 0, 0, []),
  (.ifCond .eq 7, 66, 3, 38, 0, 0, []),
  (.iconst 1, 69, 1, 0, 0, 0, []),
  (.goto 4, 70, 3, 39, 0, 0, []),
  (.iconst 0, 73, 1, 0, 0, 0, []),
  (.istore 7, 74, 2, 0, 0, 0, []),
  (.iload 7, 76, 2, 0, 0, 0, []),
  (.ifCond .eq 16, 78, 3, 49, 0, 0, []),
  (.iload 4, 81, 2, 0, 0, 0, []),
  (.ifCond .eq 11, 83, 3, 49, 0, 0, []),
  (.aload_n 0, 86, 1, 0, 0, 0, []),
  (.getfield 9, 87, 3, 9, 2, 0, []),
  (.iload_n 1, 90, 1, 0, 0, 0, []),
  (.iload 5, 91, 2, 0, 0, 0, []),
  (.iastore, 93, 1, 0, 0, 0, []),
  (.iload 7, 94, 2, 0, 0, 0, []),
  (.iload 4, 96, 2, 0, 0, 0, []),
  (.if_icmp .ne 6, 98, 3, 54, 0, 0, []),
  (.iload 4, 101, 2, 0, 0, 0, []),
  (.ireturn, 103, 1, 0, 0, 0, []),
  (.iinc 5 1, 104, 3, 0, 0, 0, []),
  (.goto (-83), 107, 3, 14, 0, 0, []),
  (.iload 4, 110, 2, 0, 0, 0, []),
  (.ifCond .ne 19, 112, 3, 66, 0, 0, []),
  (.aload_n 0, 115, 1, 0, 0, 0, []),
  (.getfield 15, 116, 3, 9, 0, 0, []),
  (.getfield 44, 119, 3, 10, 3, 0, []),
  (.iload_n 1, 122, 1, 0, 0, 0, []),
  (.iaload, 123, 1, 0, 0, 0, []),
  (.ifCond .le 7, 124, 3, 66, 0, 0, []),
  (.iconst 1, 127, 1, 0, 0, 0, []),
  (.goto 4, 128, 3, 67, 0, 0, []),
  (.iconst 0, 131, 1, 0, 0, 0, []),
  (.ireturn, 132, 1, 0, 0, 0, [])]
def tX10_init : List xI := [(.aload_n 0, 0, 1, 0, 0, 0, []),
  (.invokespecial 3, 1, 3, 1000, 0, 0, []),
  (.aload_n 0, 4, 1, 0, 0, 0, []),
  (.iconst 1, 5, 1, 0, 0, 0, []),
  (.putfield 9, 6, 3, 10, 2, 0, []),
  (.aload_n 0, 9, 1, 0, 0, 0, []),
  (.bipush 10, 10, 2, 0, 0, 0, []),
  (.newarray .int, 12, 2, 0, 0, 0, []),
  (.putfield 15, 14, 3, 10, 3, 0, []),
  (.aload_n 0, 17, 1, 0, 0, 0, []),
  (.bipush 40, 18, 2, 0, 0, 0, []),
  (.anewarray 19, 20, 3, 0, 0, 0, []),
  (.putfield 21, 23, 3, 10, 4, 0, []),
  (.iconst 0, 26, 1, 0, 0, 0, []),
  (.istore_n 1, 27, 1, 0, 0, 0, []),
  (.iload_n 1, 28, 1, 0, 0, 0, []),
  (.bipush 40, 29, 2, 0, 0, 0, []),
  (.if_icmp .ge 22, 31, 3, 27, 0, 0, []),
  (.aload_n 0, 34, 1, 0, 0, 0, []),
  (.getfield 21, 35, 3, 10, 4, 0, []),
  (.iload_n 1, 38, 1, 0, 0, 0, []),
  (.new 19, 39, 3, 0, 0, 0, []),
  (.dup, 42, 1, 0, 0, 0, []),
  (.invokespecial 25, 43, 3, 0, 1, 0, [0]),
  (.aastore, 46, 1, 0, 0, 0, []),
  (.iinc 1 1, 47, 3, 0, 0, 0, []),
  (.goto (-22), 50, 3, 15, 0, 0, []),
  (.return_, 53, 1, 0, 0, 0, [])]
def tX10_hasState : List xI := [(.iload_n 1, 0, 1, 0, 0, 0, []),
  (.ifCond .lt 15, 1, 3, 8, 0, 0, []),
  (.iload_n 1, 4, 1, 0, 0, 0, []),
  (.aload_n 0, 5, 1, 0, 0, 0, []),
  (.getfield 26, 6, 3, 10, 0, 0, []),
  (.if_icmp .ge 7, 9, 3, 8, 0, 0, []),
  (.iconst 1, 12, 1, 0, 0, 0, []),
  (.goto 4, 13, 3, 9, 0, 0, []),
  (.iconst 0, 16, 1, 0, 0, 0, []),
  (.ireturn, 17, 1, 0, 0, 0, [])]
def tX10_hasAct : List xI := [(.aload_n 0, 0, 1, 0, 0, 0, []),
  (.iload_n 1, 1, 1, 0, 0, 0, []),
  (.invokevirtual 29, 2, 3, 60, 2, 10, [1]),
  (.ifCond .eq 21, 5, 3, 14, 0, 0, []),
  (.iload_n 2, 8, 1, 0, 0, 0, []),
  (.ifCond .lt 17, 9, 3, 14, 0, 0, []),
  (.iload_n 2, 12, 1, 0, 0, 0, []),
  (.aload_n 0, 13, 1, 0, 0, 0, []),
  (.getfield 15, 14, 3, 10, 3, 0, []),
  (.iload_n 1, 17, 1, 0, 0, 0, []),
  (.iaload, 18, 1, 0, 0, 0, []),
  (.if_icmp .ge 7, 19, 3, 14, 0, 0, []),
  (.iconst 1, 22, 1, 0, 0, 0, []),
  (.goto 4, 23, 3, 15, 0, 0, []),
  (.iconst 0, 26, 1, 0, 0, 0, []),
  (.ireturn, 27, 1, 0, 0, 0, [])]
def tX10_actAt : List xI := [(.aload_n 0, 0, 1, 0, 0, 0, []),
  (.getfield 21, 1, 3, 10, 4, 0, []),
  (.iload_n 1, 4, 1, 0, 0, 0, []),
  (.iconst 4, 5, 1, 0, 0, 0, []),
  (.imul, 6, 1, 0, 0, 0, []),
  (.iload_n 2, 7, 1, 0, 0, 0, []),
  (.iadd, 8, 1, 0, 0, 0, []),
  (.aaload, 9, 1, 0, 0, 0, []),
  (.areturn, 10, 1, 0, 0, 0, [])]
def tX10_isFoes : List xI := [(.aload_n 0, 0, 1, 0, 0, 0, []),
  (.getfield 15, 1, 3, 10, 3, 0, []),
  (.iload_n 1, 4, 1, 0, 0, 0, []),
  (.iaload, 5, 1, 0, 0, 0, []),
  (.ifCond .le 22, 6, 3, 16, 0, 0, []),
  (.aload_n 0, 9, 1, 0, 0, 0, []),
  (.getfield 21, 10, 3, 10, 4, 0, []),
  (.iload_n 1, 13, 1, 0, 0, 0, []),
  (.iconst 4, 14, 1, 0, 0, 0, []),
  (.imul, 15, 1, 0, 0, 0, []),
  (.aaload, 16, 1, 0, 0, 0, []),
  (.getfield 33, 17, 3, 0, 0, 0, []),
  (.iconst 2, 20, 1, 0, 0, 0, []),
  (.if_icmp .ne 7, 21, 3, 16, 0, 0, []),
  (.iconst 1, 24, 1, 0, 0, 0, []),
  (.goto 4, 25, 3, 17, 0, 0, []),
  (.iconst 0, 28, 1, 0, 0, 0, []),
  (.ireturn, 29, 1, 0, 0, 0, [])]
def tX10_seeksMost : List xI := [(.aload_n 0, 0, 1, 0, 0, 0, []),
  (.iload_n 1, 1, 1, 0, 0, 0, []),
  (.invokevirtual 36, 2, 3, 63, 2, 10, [1]),
  (.iload_n 2, 5, 1, 0, 0, 0, []),
  (.if_icmp .ne 7, 6, 3, 7, 0, 0, []),
  (.iconst 1, 9, 1, 0, 0, 0, []),
  (.goto 4, 10, 3, 8, 0, 0, []),
  (.iconst 0, 13, 1, 0, 0, 0, []),
  (.ireturn, 14, 1, 0, 0, 0, [])]
def tX10_everyone : List xI := [(.iconst 1, 0, 1, 0, 0, 0, []),
  (.aload_n 0, 1, 1, 0, 0, 0, []),
  (.getfield 26, 2, 3, 10, 0, 0, []),
  (.ishl, 5, 1, 0, 0, 0, []),
  (.iconst 1, 6, 1, 0, 0, 0, []),
  (.isub, 7, 1, 0, 0, 0, []),
  (.ireturn, 8, 1, 0, 0, 0, [])]
def tX10_addState : List xI := [(.aload_n 0, 0, 1, 0, 0, 0, []),
  (.dup, 1, 1, 0, 0, 0, []),
  (.getfield 9, 2, 3, 10, 2, 0, []),
  (.iconst 1, 5, 1, 0, 0, 0, []),
  (.iadd, 6, 1, 0, 0, 0, []),
  (.putfield 9, 7, 3, 10, 2, 0, []),
  (.aload_n 0, 10, 1, 0, 0, 0, []),
  (.dup, 11, 1, 0, 0, 0, []),
  (.getfield 26, 12, 3, 10, 0, 0, []),
  (.iconst 1, 15, 1, 0, 0, 0, []),
  (.iadd, 16, 1, 0, 0, 0, []),
  (.putfield 26, 17, 3, 10, 0, 0, []),
  (.aload_n 0, 20, 1, 0, 0, 0, []),
  (.getfield 26, 21, 3, 10, 0, 0, []),
  (.iconst 1, 24, 1, 0, 0, 0, []),
  (.isub, 25, 1, 0, 0, 0, []),
  (.ireturn, 26, 1, 0, 0, 0, [])]
def tX10_addAct : List xI := [(.aload_n 0, 0, 1, 0, 0, 0, []),
  (.dup, 1, 1, 0, 0, 0, []),
  (.getfield 9, 2, 3, 10, 2, 0, []),
  (.iconst 1, 5, 1, 0, 0, 0, []),
  (.iadd, 6, 1, 0, 0, 0, []),
  (.putfield 9, 7, 3, 10, 2, 0, []),
  (.aload_n 0, 10, 1, 0, 0, 0, []),
  (.iload_n 1, 11, 1, 0, 0, 0, []),
  (.aload_n 0, 12, 1, 0, 0, 0, []),
  (.getfield 15, 13, 3, 10, 3, 0, []),
  (.iload_n 1, 16, 1, 0, 0, 0, []),
  (.iaload, 17, 1, 0, 0, 0, []),
  (.invokevirtual 39, 18, 3, 62, 3, 10, [7]),
  (.iload_n 2, 21, 1, 0, 0, 0, []),
  (.iload_n 3, 22, 1, 0, 0, 0, []),
  (.invokevirtual 43, 23, 3, 1, 3, 0, [0]),
  (.aload_n 0, 26, 1, 0, 0, 0, []),
  (.getfield 15, 27, 3, 10, 3, 0, []),
  (.iload_n 1, 30, 1, 0, 0, 0, []),
  (.dup2, 31, 1, 0, 0, 0, []),
  (.iaload, 32, 1, 0, 0, 0, []),
  (.iconst 1, 33, 1, 0, 0, 0, []),
  (.iadd, 34, 1, 0, 0, 0, []),
  (.iastore, 35, 1, 0, 0, 0, []),
  (.aload_n 0, 36, 1, 0, 0, 0, []),
  (.getfield 15, 37, 3, 10, 3, 0, []),
  (.iload_n 1, 40, 1, 0, 0, 0, []),
  (.iaload, 41, 1, 0, 0, 0, []),
  (.iconst 1, 42, 1, 0, 0, 0, []),
  (.isub, 43, 1, 0, 0, 0, []),
  (.ireturn, 44, 1, 0, 0, 0, [])]
def tX10_addOutcome : List xI := [(.aload_n 0, 0, 1, 0, 0, 0, []),
  (.dup, 1, 1, 0, 0, 0, []),
  (.getfield 9, 2, 3, 10, 2, 0, []),
  (.iconst 1, 5, 1, 0, 0, 0, []),
  (.iadd, 6, 1, 0, 0, 0, []),
  (.putfield 9, 7, 3, 10, 2, 0, []),
  (.aload_n 1, 10, 1, 0, 0, 0, []),
  (.iload_n 2, 11, 1, 0, 0, 0, []),
  (.iload_n 3, 12, 1, 0, 0, 0, []),
  (.invokevirtual 47, 13, 3, 2, 3, 0, [0]),
  (.aload_n 1, 16, 1, 0, 0, 0, []),
  (.getfield 50, 17, 3, 0, 3, 0, []),
  (.ireturn, 20, 1, 0, 0, 0, [])]
def tX10_removeAct : List xI := [(.aload_n 0, 0, 1, 0, 0, 0, []),
  (.dup, 1, 1, 0, 0, 0, []),
  (.getfield 9, 2, 3, 10, 2, 0, []),
  (.iconst 1, 5, 1, 0, 0, 0, []),
  (.iadd, 6, 1, 0, 0, 0, []),
  (.putfield 9, 7, 3, 10, 2, 0, []),
  (.aload_n 0, 10, 1, 0, 0, 0, []),
  (.getfield 15, 11, 3, 10, 3, 0, []),
  (.iload_n 1, 14, 1, 0, 0, 0, []),
  (.dup2, 15, 1, 0, 0, 0, []),
  (.iaload, 16, 1, 0, 0, 0, []),
  (.iconst 1, 17, 1, 0, 0, 0, []),
  (.isub, 18, 1, 0, 0, 0, []),
  (.iastore, 19, 1, 0, 0, 0, []),
  (.aload_n 0, 20, 1, 0, 0, 0, []),
  (.getfield 15, 21, 3, 10, 3, 0, []),
  (.iload_n 1, 24, 1, 0, 0, 0, []),
  (.iaload, 25, 1, 0, 0, 0, []),
  (.ireturn, 26, 1, 0, 0, 0, [])]
def tX10_setMarked : List xI := [(.aload_n 0, 0, 1, 0, 0, 0, []),
  (.dup, 1, 1, 0, 0, 0, []),
  (.getfield 9, 2, 3, 10, 2, 0, []),
  (.iconst 1, 5, 1, 0, 0, 0, []),
  (.iadd, 6, 1, 0, 0, 0, []),
  (.putfield 9, 7, 3, 10, 2, 0, []),
  (.aload_n 0, 10, 1, 0, 0, 0, []),
  (.iload_n 1, 11, 1, 0, 0, 0, []),
  (.putfield 53, 12, 3, 10, 1, 0, []),
  (.return_, 15, 1, 0, 0, 0, [])]
def tX10_isWhole : List xI := [(.aload_n 0, 0, 1, 0, 0, 0, []),
  (.invokevirtual 56, 1, 3, 72, 1, 10, [1]),
  (.ifCond .ne 7, 4, 3, 5, 0, 0, []),
  (.iconst 1, 7, 1, 0, 0, 0, []),
  (.goto 4, 8, 3, 6, 0, 0, []),
  (.iconst 0, 11, 1, 0, 0, 0, []),
  (.ireturn, 12, 1, 0, 0, 0, [])]
def tX10_lacking : List xI := [(.iconst 0, 0, 1, 0, 0, 0, []),
  (.istore_n 1, 1, 1, 0, 0, 0, []),
  (.iconst 0, 2, 1, 0, 0, 0, []),
  (.istore_n 2, 3, 1, 0, 0, 0, []),
  (.iload_n 2, 4, 1, 0, 0, 0, []),
  (.aload_n 0, 5, 1, 0, 0, 0, []),
  (.getfield 26, 6, 3, 10, 0, 0, []),
  (.if_icmp .ge 42, 9, 3, 30, 0, 0, []),
  (.iconst 0, 12, 1, 0, 0, 0, []),
  (.istore_n 3, 13, 1, 0, 0, 0, []),
  (.iload_n 3, 14, 1, 0, 0, 0, []),
  (.aload_n 0, 15, 1, 0, 0, 0, []),
  (.getfield 15, 16, 3, 10, 3, 0, []),
  (.iload_n 2, 19, 1, 0, 0, 0, []),
  (.iaload, 20, 1, 0, 0, 0, []),
  (.if_icmp .ge 24, 21, 3, 28, 0, 0, []),
  (.iload_n 1, 24, 1, 0, 0, 0, []),
  (.bipush 12, 25, 2, 0, 0, 0, []),
  (.aload_n 0, 27, 1, 0, 0, 0, []),
  (.iload_n 2, 28, 1, 0, 0, 0, []),
  (.iload_n 3, 29, 1, 0, 0, 0, []),
  (.invokevirtual 39, 30, 3, 62, 3, 10, [7]),
  (.getfield 50, 33, 3, 0, 3, 0, []),
  (.isub, 36, 1, 0, 0, 0, []),
  (.iadd, 37, 1, 0, 0, 0, []),
  (.istore_n 1, 38, 1, 0, 0, 0, []),
  (.iinc 3 1, 39, 3, 0, 0, 0, []),
  (.goto (-28), 42, 3, 10, 0, 0, []),
  (.iinc 2 1, 45, 3, 0, 0, 0, []),
  (.goto (-44), 48, 3, 4, 0, 0, []),
  (.iload_n 1, 51, 1, 0, 0, 0, []),
  (.ireturn, 52, 1, 0, 0, 0, [])]
def tX10_allActs : List xI := [(.iconst 0, 0, 1, 0, 0, 0, []),
  (.istore_n 1, 1, 1, 0, 0, 0, []),
  (.iconst 0, 2, 1, 0, 0, 0, []),
  (.istore_n 2, 3, 1, 0, 0, 0, []),
  (.iload_n 2, 4, 1, 0, 0, 0, []),
  (.aload_n 0, 5, 1, 0, 0, 0, []),
  (.getfield 26, 6, 3, 10, 0, 0, []),
  (.if_icmp .ge 18, 9, 3, 17, 0, 0, []),
  (.iload_n 1, 12, 1, 0, 0, 0, []),
  (.aload_n 0, 13, 1, 0, 0, 0, []),
  (.getfield 15, 14, 3, 10, 3, 0, []),
  (.iload_n 2, 17, 1, 0, 0, 0, []),
  (.iaload, 18, 1, 0, 0, 0, []),
  (.iadd, 19, 1, 0, 0, 0, []),
  (.istore_n 1, 20, 1, 0, 0, 0, []),
  (.iinc 2 1, 21, 3, 0, 0, 0, []),
  (.goto (-20), 24, 3, 4, 0, 0, []),
  (.iload_n 1, 27, 1, 0, 0, 0, []),
  (.ireturn, 28, 1, 0, 0, 0, [])]
def tX10_allOutcomes : List xI := [(.iconst 0, 0, 1, 0, 0, 0, []),
  (.istore_n 1, 1, 1, 0, 0, 0, []),
  (.iconst 0, 2, 1, 0, 0, 0, []),
  (.istore_n 2, 3, 1, 0, 0, 0, []),
  (.iload_n 2, 4, 1, 0, 0, 0, []),
  (.aload_n 0, 5, 1, 0, 0, 0, []),
  (.getfield 26, 6, 3, 10, 0, 0, []),
  (.if_icmp .ge 39, 9, 3, 28, 0, 0, []),
  (.iconst 0, 12, 1, 0, 0, 0, []),
  (.istore_n 3, 13, 1, 0, 0, 0, []),
  (.iload_n 3, 14, 1, 0, 0, 0, []),
  (.aload_n 0, 15, 1, 0, 0, 0, []),
  (.getfield 15, 16, 3, 10, 3, 0, []),
  (.iload_n 2, 19, 1, 0, 0, 0, []),
  (.iaload, 20, 1, 0, 0, 0, []),
  (.if_icmp .ge 21, 21, 3, 26, 0, 0, []),
  (.iload_n 1, 24, 1, 0, 0, 0, []),
  (.aload_n 0, 25, 1, 0, 0, 0, []),
  (.iload_n 2, 26, 1, 0, 0, 0, []),
  (.iload_n 3, 27, 1, 0, 0, 0, []),
  (.invokevirtual 39, 28, 3, 62, 3, 10, [7]),
  (.getfield 60, 31, 3, 0, 2, 0, []),
  (.iadd, 34, 1, 0, 0, 0, []),
  (.istore_n 1, 35, 1, 0, 0, 0, []),
  (.iinc 3 1, 36, 3, 0, 0, 0, []),
  (.goto (-25), 39, 3, 10, 0, 0, []),
  (.iinc 2 1, 42, 3, 0, 0, 0, []),
  (.goto (-41), 45, 3, 4, 0, 0, []),
  (.iload_n 1, 48, 1, 0, 0, 0, []),
  (.ireturn, 49, 1, 0, 0, 0, [])]
def tX10_foeActs : List xI := [(.iconst 0, 0, 1, 0, 0, 0, []),
  (.istore_n 1, 1, 1, 0, 0, 0, []),
  (.iconst 0, 2, 1, 0, 0, 0, []),
  (.istore_n 2, 3, 1, 0, 0, 0, []),
  (.iload_n 2, 4, 1, 0, 0, 0, []),
  (.aload_n 0, 5, 1, 0, 0, 0, []),
  (.getfield 26, 6, 3, 10, 0, 0, []),
  (.if_icmp .ge 30, 9, 3, 23, 0, 0, []),
  (.iload_n 1, 12, 1, 0, 0, 0, []),
  (.aload_n 0, 13, 1, 0, 0, 0, []),
  (.iload_n 2, 14, 1, 0, 0, 0, []),
  (.invokevirtual 36, 15, 3, 63, 2, 10, [1]),
  (.ifCond .eq 12, 18, 3, 18, 0, 0, []),
  (.aload_n 0, 21, 1, 0, 0, 0, []),
  (.getfield 15, 22, 3, 10, 3, 0, []),
  (.iload_n 2, 25, 1, 0, 0, 0, []),
  (.iaload, 26, 1, 0, 0, 0, []),
  (.goto 4, 27, 3, 19, 0, 0, []),
  (.iconst 0, 30, 1, 0, 0, 0, []),
  (.iadd, 31, 1, 0, 0, 0, []),
  (.istore_n 1, 32, 1, 0, 0, 0, []),
  (.iinc 2 1, 33, 3, 0, 0, 0, []),
  (.goto (-32), 36, 3, 4, 0, 0, []),
  (.iload_n 1, 39, 1, 0, 0, 0, []),
  (.ireturn, 40, 1, 0, 0, 0, [])]
def tX10_nextOf : List xI := [(.iconst 0, 0, 1, 0, 0, 0, []),
  (.istore_n 3, 1, 1, 0, 0, 0, []),
  (.iconst 0, 2, 1, 0, 0, 0, []),
  (.istore 4, 3, 2, 0, 0, 0, []),
  (.iload 4, 5, 2, 0, 0, 0, []),
  (.aload_n 0, 7, 1, 0, 0, 0, []),
  (.getfield 15, 8, 3, 10, 3, 0, []),
  (.iload_n 1, 11, 1, 0, 0, 0, []),
  (.iaload, 12, 1, 0, 0, 0, []),
  (.if_icmp .ge 39, 13, 3, 28, 0, 0, []),
  (.aload_n 0, 16, 1, 0, 0, 0, []),
  (.iload_n 1, 17, 1, 0, 0, 0, []),
  (.iload 4, 18, 2, 0, 0, 0, []),
  (.invokevirtual 39, 20, 3, 62, 3, 10, [7]),
  (.astore 5, 23, 2, 0, 0, 0, []),
  (.iload_n 3, 25, 1, 0, 0, 0, []),
  (.aload 5, 26, 2, 0, 0, 0, []),
  (.iload_n 2, 28, 1, 0, 0, 0, []),
  (.invokevirtual 63, 29, 3, 6, 2, 0, [1]),
  (.ifCond .eq 11, 32, 3, 23, 0, 0, []),
  (.aload 5, 35, 2, 0, 0, 0, []),
  (.getfield 66, 37, 3, 0, 4, 0, []),
  (.goto 4, 40, 3, 24, 0, 0, []),
  (.iconst 0, 43, 1, 0, 0, 0, []),
  (.ior, 44, 1, 0, 0, 0, []),
  (.istore_n 3, 45, 1, 0, 0, 0, []),
  (.iinc 4 1, 46, 3, 0, 0, 0, []),
  (.goto (-44), 49, 3, 4, 0, 0, []),
  (.iload_n 3, 52, 1, 0, 0, 0, []),
  (.ireturn, 53, 1, 0, 0, 0, [])]
def tX10_reachedFrom : List xI := [(.iconst 1, 0, 1, 0, 0, 0, []),
  (.iload_n 1, 1, 1, 0, 0, 0, []),
  (.ishl, 2, 1, 0, 0, 0, []),
  (.istore_n 2, 3, 1, 0, 0, 0, []),
  (.iconst 1, 4, 1, 0, 0, 0, []),
  (.istore_n 3, 5, 1, 0, 0, 0, []),
  (.iconst 0, 6, 1, 0, 0, 0, []),
  (.istore 4, 7, 2, 0, 0, 0, []),
  (.iload 4, 9, 2, 0, 0, 0, []),
  (.bipush 10, 11, 2, 0, 0, 0, []),
  (.if_icmp .ge 72, 13, 3, 46, 0, 0, []),
  (.iload_n 3, 16, 1, 0, 0, 0, []),
  (.ifCond .eq 68, 17, 3, 46, 0, 0, []),
  (.iload_n 2, 20, 1, 0, 0, 0, []),
  (.istore 5, 21, 2, 0, 0, 0, []),
  (.iconst 0, 23, 1, 0, 0, 0, []),
  (.istore 6, 24, 2, 0, 0, 0, []),
  (.iload 6, 26, 2, 0, 0, 0, []),
  (.aload_n 0, 28, 1, 0, 0, 0, []),
  (.getfield 26, 29, 3, 10, 0, 0, []),
  (.if_icmp .ge 35, 32, 3, 37, 0, 0, []),
  (.iload_n 2, 35, 1, 0, 0, 0, []),
  (.iload_n 2, 36, 1, 0, 0, 0, []),
  (.iload 6, 37, 2, 0, 0, 0, []),
  (.invokestatic 69, 39, 3, 108, 2, 0, [1]),
  (.ifCond .eq 16, 42, 3, 32, 0, 0, []),
  (.aload_n 0, 45, 1, 0, 0, 0, []),
  (.iload 6, 46, 2, 0, 0, 0, []),
  (.aload_n 0, 48, 1, 0, 0, 0, []),
  (.invokevirtual 73, 49, 3, 65, 1, 10, [1]),
  (.invokevirtual 76, 52, 3, 76, 3, 10, [1]),
  (.goto 4, 55, 3, 33, 0, 0, []),
  (.iconst 0, 58, 1, 0, 0, 0, []),
  (.ior, 59, 1, 0, 0, 0, []),
  (.istore_n 2, 60, 1, 0, 0, 0, []),
  (.iinc 6 1, 61, 3, 0, 0, 0, []),
  (.goto (-38), 64, 3, 17, 0, 0, []),
  (.iload_n 2, 67, 1, 0, 0, 0, []),
  (.iload 5, 68, 2, 0, 0, 0, []),
  (.if_icmp .eq 7, 70, 3, 42, 0, 0, []),
  (.iconst 1, 73, 1, 0, 0, 0, []),
  (.goto 4, 74, 3, 43, 0, 0, []),
  (.iconst 0, 77, 1, 0, 0, 0, []),
  (.istore_n 3, 78, 1, 0, 0, 0, []),
  (.iinc 4 1, 79, 3, 0, 0, 0, []),
  (.goto (-73), 82, 3, 8, 0, 0, []),
  (.iload_n 2, 85, 1, 0, 0, 0, []),
  (.ireturn, 86, 1, 0, 0, 0, [])]
def tX11_init : List xI := [(.aload_n 0, 0, 1, 0, 0, 0, []),
  (.invokespecial 1, 1, 3, 1000, 0, 0, []),
  (.aload_n 0, 4, 1, 0, 0, 0, []),
  (.new 7, 5, 3, 10, 0, 0, []),
  (.dup, 8, 1, 0, 0, 0, []),
  (.invokespecial 9, 9, 3, 59, 1, 0, [0]),
  (.putfield 10, 12, 3, 11, 0, 0, []),
  (.aload_n 0, 15, 1, 0, 0, 0, []),
  (.new 16, 16, 3, 8, 0, 0, []),
  (.dup, 19, 1, 0, 0, 0, []),
  (.aload_n 0, 20, 1, 0, 0, 0, []),
  (.getfield 10, 21, 3, 11, 0, 0, []),
  (.iconst 0, 24, 1, 0, 0, 0, []),
  (.invokespecial 18, 25, 3, 48, 3, 0, [0]),
  (.putfield 21, 28, 3, 11, 1, 0, []),
  (.aload_n 0, 31, 1, 0, 0, 0, []),
  (.new 16, 32, 3, 8, 0, 0, []),
  (.dup, 35, 1, 0, 0, 0, []),
  (.aload_n 0, 36, 1, 0, 0, 0, []),
  (.getfield 10, 37, 3, 11, 0, 0, []),
  (.iconst 1, 40, 1, 0, 0, 0, []),
  (.invokespecial 18, 41, 3, 48, 3, 0, [0]),
  (.putfield 25, 44, 3, 11, 2, 0, []),
  (.aload_n 0, 47, 1, 0, 0, 0, []),
  (.new 28, 48, 3, 2, 0, 0, []),
  (.dup, 51, 1, 0, 0, 0, []),
  (.aload_n 0, 52, 1, 0, 0, 0, []),
  (.getfield 10, 53, 3, 11, 0, 0, []),
  (.aload_n 0, 56, 1, 0, 0, 0, []),
  (.getfield 21, 57, 3, 11, 1, 0, []),
  (.invokespecial 30, 60, 3, 15, 3, 0, [0]),
  (.putfield 33, 63, 3, 11, 3, 0, []),
  (.aload_n 0, 66, 1, 0, 0, 0, []),
  (.new 37, 67, 3, 4, 0, 0, []),
  (.dup, 70, 1, 0, 0, 0, []),
  (.aload_n 0, 71, 1, 0, 0, 0, []),
  (.getfield 10, 72, 3, 11, 0, 0, []),
  (.iconst 0, 75, 1, 0, 0, 0, []),
  (.invokespecial 39, 76, 3, 26, 3, 0, [0]),
  (.putfield 40, 79, 3, 11, 4, 0, []),
  (.aload_n 0, 82, 1, 0, 0, 0, []),
  (.new 37, 83, 3, 4, 0, 0, []),
  (.dup, 86, 1, 0, 0, 0, []),
  (.aload_n 0, 87, 1, 0, 0, 0, []),
  (.getfield 10, 88, 3, 11, 0, 0, []),
  (.iconst 1, 91, 1, 0, 0, 0, []),
  (.invokespecial 39, 92, 3, 26, 3, 0, [0]),
  (.putfield 44, 95, 3, 11, 5, 0, []),
  (.aload_n 0, 98, 1, 0, 0, 0, []),
  (.new 47, 99, 3, 5, 0, 0, []),
  (.dup, 102, 1, 0, 0, 0, []),
  (.aload_n 0, 103, 1, 0, 0, 0, []),
  (.getfield 10, 104, 3, 11, 0, 0, []),
  (.aload_n 0, 107, 1, 0, 0, 0, []),
  (.getfield 21, 108, 3, 11, 1, 0, []),
  (.invokespecial 49, 111, 3, 29, 3, 0, [0]),
  (.putfield 50, 114, 3, 11, 6, 0, []),
  (.aload_n 0, 117, 1, 0, 0, 0, []),
  (.new 54, 118, 3, 3, 0, 0, []),
  (.dup, 121, 1, 0, 0, 0, []),
  (.aload_n 0, 122, 1, 0, 0, 0, []),
  (.getfield 10, 123, 3, 11, 0, 0, []),
  (.invokespecial 56, 126, 3, 20, 2, 0, [0]),
  (.putfield 59, 129, 3, 11, 7, 0, []),
  (.aload_n 0, 132, 1, 0, 0, 0, []),
  (.new 63, 133, 3, 7, 0, 0, []),
  (.dup, 136, 1, 0, 0, 0, []),
  (.aload_n 0, 137, 1, 0, 0, 0, []),
  (.getfield 10, 138, 3, 11, 0, 0, []),
  (.invokespecial 65, 141, 3, 41, 2, 0, [0]),
  (.putfield 66, 144, 3, 11, 8, 0, []),
  (.aload_n 0, 147, 1, 0, 0, 0, []),
  (.bipush 8, 148, 2, 0, 0, 0, []),
  (.anewarray 70, 150, 3, 6, 0, 0, []),
  (.putfield 72, 153, 3, 11, 9, 0, []),
  (.iconst 0, 156, 1, 0, 0, 0, []),
  (.istore_n 1, 157, 1, 0, 0, 0, []),
  (.iload_n 1, 158, 1, 0, 0, 0, []),
  (.bipush 8, 159, 2, 0, 0, 0, []),
  (.if_icmp .ge 22, 161, 3, 89, 0, 0, []),
  (.aload_n 0, 164, 1, 0, 0, 0, []),
  (.getfield 72, 165, 3, 11, 9, 0, []),
  (.iload_n 1, 168, 1, 0, 0, 0, []),
  (.new 70, 169, 3, 6, 0, 0, []),
  (.dup, 172, 1, 0, 0, 0, []),
  (.invokespecial 76, 173, 3, 34, 1, 0, [0]),
  (.aastore, 176, 1, 0, 0, 0, []),
  (.iinc 1 1, 177, 3, 0, 0, 0, []),
  (.goto (-22), 180, 3, 77, 0, 0, []),
  (.return_, 183, 1, 0, 0, 0, [])]
def tX11_state : List xI := [(.aload_n 0, 0, 1, 0, 0, 0, []),
  (.getfield 10, 1, 3, 11, 0, 0, []),
  (.getfield 77, 4, 3, 10, 0, 0, []),
  (.bipush 10, 7, 2, 0, 0, 0, []),
  (.if_icmp .lt 6, 9, 3, 7, 0, 0, []),
  (.bipush (-2), 12, 2, 0, 0, 0, []),
  (.ireturn, 14, 1, 0, 0, 0, []),
  (.aload_n 0, 15, 1, 0, 0, 0, []),
  (.getfield 10, 16, 3, 11, 0, 0, []),
  (.invokevirtual 81, 19, 3, 66, 1, 10, [1]),
  (.ireturn, 22, 1, 0, 0, 0, [])]
def tX11_act : List xI := [(.aload_n 0, 0, 1, 0, 0, 0, []),
  (.getfield 10, 1, 3, 11, 0, 0, []),
  (.iload_n 1, 4, 1, 0, 0, 0, []),
  (.invokevirtual 85, 5, 3, 60, 2, 10, [1]),
  (.ifCond .eq 23, 8, 3, 15, 0, 0, []),
  (.iload_n 2, 11, 1, 0, 0, 0, []),
  (.ifCond .lt 19, 12, 3, 15, 0, 0, []),
  (.iload_n 2, 15, 1, 0, 0, 0, []),
  (.iconst 3, 16, 1, 0, 0, 0, []),
  (.if_icmp .gt 14, 17, 3, 15, 0, 0, []),
  (.iload_n 3, 20, 1, 0, 0, 0, []),
  (.ifCond .lt 10, 21, 3, 15, 0, 0, []),
  (.iload_n 3, 24, 1, 0, 0, 0, []),
  (.sipush 1000, 25, 3, 0, 0, 0, []),
  (.if_icmp .le 5, 28, 3, 17, 0, 0, []),
  (.iconst (-1), 31, 1, 0, 0, 0, []),
  (.ireturn, 32, 1, 0, 0, 0, []),
  (.aload_n 0, 33, 1, 0, 0, 0, []),
  (.getfield 10, 34, 3, 11, 0, 0, []),
  (.getfield 89, 37, 3, 10, 3, 0, []),
  (.iload_n 1, 40, 1, 0, 0, 0, []),
  (.iaload, 41, 1, 0, 0, 0, []),
  (.iconst 4, 42, 1, 0, 0, 0, []),
  (.if_icmp .lt 6, 43, 3, 26, 0, 0, []),
  (.bipush (-2), 46, 2, 0, 0, 0, []),
  (.ireturn, 48, 1, 0, 0, 0, []),
  (.aload_n 0, 49, 1, 0, 0, 0, []),
  (.getfield 10, 50, 3, 11, 0, 0, []),
  (.getfield 89, 53, 3, 10, 3, 0, []),
  (.iload_n 1, 56, 1, 0, 0, 0, []),
  (.iaload, 57, 1, 0, 0, 0, []),
  (.ifCond .le 27, 58, 3, 45, 0, 0, []),
  (.aload_n 0, 61, 1, 0, 0, 0, []),
  (.getfield 10, 62, 3, 11, 0, 0, []),
  (.iload_n 1, 65, 1, 0, 0, 0, []),
  (.invokevirtual 93, 66, 3, 63, 2, 10, [1]),
  (.iload_n 2, 69, 1, 0, 0, 0, []),
  (.iconst 2, 70, 1, 0, 0, 0, []),
  (.if_icmp .ne 7, 71, 3, 41, 0, 0, []),
  (.iconst 1, 74, 1, 0, 0, 0, []),
  (.goto 4, 75, 3, 42, 0, 0, []),
  (.iconst 0, 78, 1, 0, 0, 0, []),
  (.if_icmp .eq 6, 79, 3, 45, 0, 0, []),
  (.bipush (-3), 82, 2, 0, 0, 0, []),
  (.ireturn, 84, 1, 0, 0, 0, []),
  (.aload_n 0, 85, 1, 0, 0, 0, []),
  (.getfield 10, 86, 3, 11, 0, 0, []),
  (.iload_n 1, 89, 1, 0, 0, 0, []),
  (.iload_n 2, 90, 1, 0, 0, 0, []),
  (.iload_n 3, 91, 1, 0, 0, 0, []),
  (.invokevirtual 96, 92, 3, 67, 4, 10, [1]),
  (.ireturn, 95, 1, 0, 0, 0, [])]
def tX11_outcome : List xI := [(.aload_n 0, 0, 1, 0, 0, 0, []),
  (.getfield 10, 1, 3, 11, 0, 0, []),
  (.iload_n 1, 4, 1, 0, 0, 0, []),
  (.iload_n 2, 5, 1, 0, 0, 0, []),
  (.invokevirtual 100, 6, 3, 61, 3, 10, [1]),
  (.ifCond .eq 27, 9, 3, 17, 0, 0, []),
  (.aload_n 0, 12, 1, 0, 0, 0, []),
  (.getfield 10, 13, 3, 11, 0, 0, []),
  (.iload_n 3, 16, 1, 0, 0, 0, []),
  (.invokevirtual 85, 17, 3, 60, 2, 10, [1]),
  (.ifCond .eq 16, 20, 3, 17, 0, 0, []),
  (.iload 4, 23, 2, 0, 0, 0, []),
  (.iconst 1, 25, 1, 0, 0, 0, []),
  (.if_icmp .lt 10, 26, 3, 17, 0, 0, []),
  (.iload 4, 29, 2, 0, 0, 0, []),
  (.bipush 12, 31, 2, 0, 0, 0, []),
  (.if_icmp .le 5, 33, 3, 19, 0, 0, []),
  (.iconst (-1), 36, 1, 0, 0, 0, []),
  (.ireturn, 37, 1, 0, 0, 0, []),
  (.aload_n 0, 38, 1, 0, 0, 0, []),
  (.getfield 10, 39, 3, 11, 0, 0, []),
  (.iload_n 1, 42, 1, 0, 0, 0, []),
  (.iload_n 2, 43, 1, 0, 0, 0, []),
  (.invokevirtual 104, 44, 3, 62, 3, 10, [7]),
  (.astore 5, 47, 2, 0, 0, 0, []),
  (.aload 5, 49, 2, 0, 0, 0, []),
  (.getfield 108, 51, 3, 0, 0, 0, []),
  (.iconst 3, 54, 1, 0, 0, 0, []),
  (.if_icmp .ne 10, 55, 3, 34, 0, 0, []),
  (.iload_n 3, 58, 1, 0, 0, 0, []),
  (.iload_n 1, 59, 1, 0, 0, 0, []),
  (.if_icmp .eq 5, 60, 3, 34, 0, 0, []),
  (.iconst (-1), 63, 1, 0, 0, 0, []),
  (.ireturn, 64, 1, 0, 0, 0, []),
  (.aload 5, 65, 2, 0, 0, 0, []),
  (.getfield 113, 67, 3, 0, 2, 0, []),
  (.aload 5, 70, 2, 0, 0, 0, []),
  (.invokevirtual 116, 72, 3, 4, 1, 0, [1]),
  (.if_icmp .lt 6, 75, 3, 41, 0, 0, []),
  (.bipush (-2), 78, 2, 0, 0, 0, []),
  (.ireturn, 80, 1, 0, 0, 0, []),
  (.aload 5, 81, 2, 0, 0, 0, []),
  (.getfield 119, 83, 3, 0, 3, 0, []),
  (.iload 4, 86, 2, 0, 0, 0, []),
  (.iadd, 88, 1, 0, 0, 0, []),
  (.bipush 12, 89, 2, 0, 0, 0, []),
  (.if_icmp .gt 15, 91, 3, 52, 0, 0, []),
  (.aload 5, 94, 2, 0, 0, 0, []),
  (.getfield 122, 96, 3, 0, 4, 0, []),
  (.iload_n 3, 99, 1, 0, 0, 0, []),
  (.invokestatic 125, 100, 3, 108, 2, 0, [1]),
  (.ifCond .eq 6, 103, 3, 54, 0, 0, []),
  (.bipush (-3), 106, 2, 0, 0, 0, []),
  (.ireturn, 108, 1, 0, 0, 0, []),
  (.aload_n 0, 109, 1, 0, 0, 0, []),
  (.getfield 10, 110, 3, 11, 0, 0, []),
  (.aload 5, 113, 2, 0, 0, 0, []),
  (.iload_n 3, 115, 1, 0, 0, 0, []),
  (.iload 4, 116, 2, 0, 0, 0, []),
  (.invokevirtual 128, 118, 3, 68, 4, 10, [1]),
  (.ireturn, 121, 1, 0, 0, 0, [])]
def tX11_drop : List xI := [(.aload_n 0, 0, 1, 0, 0, 0, []),
  (.getfield 10, 1, 3, 11, 0, 0, []),
  (.iload_n 1, 4, 1, 0, 0, 0, []),
  (.invokevirtual 85, 5, 3, 60, 2, 10, [1]),
  (.ifCond .ne 5, 8, 3, 7, 0, 0, []),
  (.iconst (-1), 11, 1, 0, 0, 0, []),
  (.ireturn, 12, 1, 0, 0, 0, []),
  (.aload_n 0, 13, 1, 0, 0, 0, []),
  (.getfield 10, 14, 3, 11, 0, 0, []),
  (.getfield 89, 17, 3, 10, 3, 0, []),
  (.iload_n 1, 20, 1, 0, 0, 0, []),
  (.iaload, 21, 1, 0, 0, 0, []),
  (.ifCond .ne 6, 22, 3, 15, 0, 0, []),
  (.bipush (-2), 25, 2, 0, 0, 0, []),
  (.ireturn, 27, 1, 0, 0, 0, []),
  (.aload_n 0, 28, 1, 0, 0, 0, []),
  (.getfield 10, 29, 3, 11, 0, 0, []),
  (.iload_n 1, 32, 1, 0, 0, 0, []),
  (.invokevirtual 132, 33, 3, 69, 2, 10, [1]),
  (.ireturn, 36, 1, 0, 0, 0, [])]
def tX11_mark : List xI := [(.iload_n 1, 0, 1, 0, 0, 0, []),
  (.aload_n 0, 1, 1, 0, 0, 0, []),
  (.getfield 10, 2, 3, 11, 0, 0, []),
  (.invokevirtual 136, 5, 3, 65, 1, 10, [1]),
  (.iconst (-1), 8, 1, 0, 0, 0, []),
  (.ixor, 9, 1, 0, 0, 0, []),
  (.iand, 10, 1, 0, 0, 0, []),
  (.ifCond .eq 5, 11, 3, 10, 0, 0, []),
  (.iconst (-1), 14, 1, 0, 0, 0, []),
  (.ireturn, 15, 1, 0, 0, 0, []),
  (.aload_n 0, 16, 1, 0, 0, 0, []),
  (.getfield 10, 17, 3, 11, 0, 0, []),
  (.iload_n 1, 20, 1, 0, 0, 0, []),
  (.invokevirtual 139, 21, 3, 70, 2, 10, [0]),
  (.iload_n 1, 24, 1, 0, 0, 0, []),
  (.invokestatic 143, 25, 3, 186, 1, 0, [1]),
  (.ireturn, 28, 1, 0, 0, 0, [])]
def tX11_whole : List xI := [(.aload_n 0, 0, 1, 0, 0, 0, []),
  (.getfield 10, 1, 3, 11, 0, 0, []),
  (.invokevirtual 148, 4, 3, 72, 1, 10, [1]),
  (.ireturn, 7, 1, 0, 0, 0, [])]
def tX11_value : List xI := [(.aload_n 0, 0, 1, 0, 0, 0, []),
  (.getfield 10, 1, 3, 11, 0, 0, []),
  (.iload_n 1, 4, 1, 0, 0, 0, []),
  (.invokevirtual 85, 5, 3, 60, 2, 10, [1]),
  (.ifCond .eq 10, 8, 3, 8, 0, 0, []),
  (.iload_n 3, 11, 1, 0, 0, 0, []),
  (.invokestatic 151, 12, 3, 106, 1, 0, [1]),
  (.ifCond .ne 7, 15, 3, 10, 0, 0, []),
  (.ldc2_w 154, 18, 3, 0, 0, (-1), []),
  (.lreturn, 21, 1, 0, 0, 0, []),
  (.iload_n 2, 22, 1, 0, 0, 0, []),
  (.ifCond .eq 10, 23, 3, 15, 0, 0, []),
  (.aload_n 0, 26, 1, 0, 0, 0, []),
  (.getfield 25, 27, 3, 11, 2, 0, []),
  (.goto 7, 30, 3, 17, 0, 0, []),
  (.aload_n 0, 33, 1, 0, 0, 0, []),
  (.getfield 21, 34, 3, 11, 1, 0, []),
  (.astore 4, 37, 2, 0, 0, 0, []),
  (.aload_n 0, 39, 1, 0, 0, 0, []),
  (.aload 4, 40, 2, 0, 0, 0, []),
  (.invokevirtual 156, 42, 3, 104, 2, 11, [1]),
  (.istore 5, 45, 2, 0, 0, 0, []),
  (.iload 5, 47, 2, 0, 0, 0, []),
  (.ifCond .eq 7, 49, 3, 27, 0, 0, []),
  (.iload 5, 52, 2, 0, 0, 0, []),
  (.i2l, 54, 1, 0, 0, 0, []),
  (.lreturn, 55, 1, 0, 0, 0, []),
  (.aload 4, 56, 2, 0, 0, 0, []),
  (.getfield 160, 58, 3, 8, 6, 0, []),
  (.iload_n 1, 61, 1, 0, 0, 0, []),
  (.laload, 62, 1, 0, 0, 0, []),
  (.aload 4, 63, 2, 0, 0, 0, []),
  (.getfield 164, 65, 3, 8, 7, 0, []),
  (.iload_n 3, 68, 1, 0, 0, 0, []),
  (.invokestatic 168, 69, 3, 109, 3, 0, [2]),
  (.lreturn, 72, 1, 0, 0, 0, [])]
def tX11_choice : List xI := [(.aload_n 0, 0, 1, 0, 0, 0, []),
  (.getfield 10, 1, 3, 11, 0, 0, []),
  (.iload_n 1, 4, 1, 0, 0, 0, []),
  (.iconst 0, 5, 1, 0, 0, 0, []),
  (.invokevirtual 100, 6, 3, 61, 3, 10, [1]),
  (.ifCond .ne 5, 9, 3, 8, 0, 0, []),
  (.iconst (-1), 12, 1, 0, 0, 0, []),
  (.ireturn, 13, 1, 0, 0, 0, []),
  (.aload_n 0, 14, 1, 0, 0, 0, []),
  (.aload_n 0, 15, 1, 0, 0, 0, []),
  (.getfield 21, 16, 3, 11, 1, 0, []),
  (.invokevirtual 156, 19, 3, 104, 2, 11, [1]),
  (.istore_n 2, 22, 1, 0, 0, 0, []),
  (.iload_n 2, 23, 1, 0, 0, 0, []),
  (.ifCond .eq 5, 24, 3, 17, 0, 0, []),
  (.iload_n 2, 27, 1, 0, 0, 0, []),
  (.ireturn, 28, 1, 0, 0, 0, []),
  (.aload_n 0, 29, 1, 0, 0, 0, []),
  (.getfield 33, 30, 3, 11, 3, 0, []),
  (.invokevirtual 172, 33, 3, 16, 1, 2, [0]),
  (.aload_n 0, 36, 1, 0, 0, 0, []),
  (.getfield 33, 37, 3, 11, 3, 0, []),
  (.iload_n 1, 40, 1, 0, 0, 0, []),
  (.invokevirtual 175, 41, 3, 18, 2, 2, [1]),
  (.ireturn, 44, 1, 0, 0, 0, [])]
def tX11_distance : List xI := [(.aload_n 0, 0, 1, 0, 0, 0, []),
  (.getfield 10, 1, 3, 11, 0, 0, []),
  (.iload_n 1, 4, 1, 0, 0, 0, []),
  (.invokevirtual 85, 5, 3, 60, 2, 10, [1]),
  (.ifCond .ne 5, 8, 3, 7, 0, 0, []),
  (.iconst (-1), 11, 1, 0, 0, 0, []),
  (.ireturn, 12, 1, 0, 0, 0, []),
  (.aload_n 0, 13, 1, 0, 0, 0, []),
  (.aload_n 0, 14, 1, 0, 0, 0, []),
  (.getfield 21, 15, 3, 11, 1, 0, []),
  (.invokevirtual 156, 18, 3, 104, 2, 11, [1]),
  (.istore_n 2, 21, 1, 0, 0, 0, []),
  (.iload_n 2, 22, 1, 0, 0, 0, []),
  (.ifCond .eq 5, 23, 3, 16, 0, 0, []),
  (.iload_n 2, 26, 1, 0, 0, 0, []),
  (.ireturn, 27, 1, 0, 0, 0, []),
  (.aload_n 0, 28, 1, 0, 0, 0, []),
  (.getfield 21, 29, 3, 11, 1, 0, []),
  (.getfield 178, 32, 3, 8, 9, 0, []),
  (.iload_n 1, 35, 1, 0, 0, 0, []),
  (.invokestatic 125, 36, 3, 108, 2, 0, [1]),
  (.ifCond .eq 6, 39, 3, 24, 0, 0, []),
  (.bipush (-4), 42, 2, 0, 0, 0, []),
  (.ireturn, 44, 1, 0, 0, 0, []),
  (.aload_n 0, 45, 1, 0, 0, 0, []),
  (.getfield 33, 46, 3, 11, 3, 0, []),
  (.invokevirtual 172, 49, 3, 16, 1, 2, [0]),
  (.aload_n 0, 52, 1, 0, 0, 0, []),
  (.getfield 33, 53, 3, 11, 3, 0, []),
  (.getfield 181, 56, 3, 2, 3, 0, []),
  (.iload_n 1, 59, 1, 0, 0, 0, []),
  (.iaload, 60, 1, 0, 0, 0, []),
  (.ireturn, 61, 1, 0, 0, 0, [])]
def tX11_sum : List xI := [(.aload_n 0, 0, 1, 0, 0, 0, []),
  (.getfield 10, 1, 3, 11, 0, 0, []),
  (.iload_n 1, 4, 1, 0, 0, 0, []),
  (.iload_n 2, 5, 1, 0, 0, 0, []),
  (.invokevirtual 100, 6, 3, 61, 3, 10, [1]),
  (.ifCond .eq 10, 9, 3, 9, 0, 0, []),
  (.iload_n 3, 12, 1, 0, 0, 0, []),
  (.invokestatic 151, 13, 3, 106, 1, 0, [1]),
  (.ifCond .ne 7, 16, 3, 11, 0, 0, []),
  (.ldc2_w 154, 19, 3, 0, 0, (-1), []),
  (.lreturn, 22, 1, 0, 0, 0, []),
  (.aload_n 0, 23, 1, 0, 0, 0, []),
  (.aload_n 0, 24, 1, 0, 0, 0, []),
  (.getfield 21, 25, 3, 11, 1, 0, []),
  (.invokevirtual 156, 28, 3, 104, 2, 11, [1]),
  (.istore 4, 31, 2, 0, 0, 0, []),
  (.iload 4, 33, 2, 0, 0, 0, []),
  (.ifCond .eq 7, 35, 3, 21, 0, 0, []),
  (.iload 4, 38, 2, 0, 0, 0, []),
  (.i2l, 40, 1, 0, 0, 0, []),
  (.lreturn, 41, 1, 0, 0, 0, []),
  (.aload_n 0, 42, 1, 0, 0, 0, []),
  (.getfield 10, 43, 3, 11, 0, 0, []),
  (.iload_n 1, 46, 1, 0, 0, 0, []),
  (.iload_n 2, 47, 1, 0, 0, 0, []),
  (.invokevirtual 104, 48, 3, 62, 3, 10, [7]),
  (.aload_n 0, 51, 1, 0, 0, 0, []),
  (.getfield 21, 52, 3, 11, 1, 0, []),
  (.getfield 160, 55, 3, 8, 6, 0, []),
  (.invokevirtual 184, 58, 3, 7, 2, 0, [2]),
  (.lstore 5, 61, 2, 0, 0, 0, []),
  (.lload 5, 63, 2, 0, 0, 0, []),
  (.ldc2_w 188, 65, 3, 0, 0, 12, []),
  (.aload_n 0, 68, 1, 0, 0, 0, []),
  (.getfield 21, 69, 3, 11, 1, 0, []),
  (.getfield 164, 72, 3, 8, 7, 0, []),
  (.lmul, 75, 1, 0, 0, 0, []),
  (.iload_n 3, 76, 1, 0, 0, 0, []),
  (.invokestatic 168, 77, 3, 109, 3, 0, [2]),
  (.lreturn, 80, 1, 0, 0, 0, [])]
def tX11_within : List xI := [(.aload_n 0, 0, 1, 0, 0, 0, []),
  (.getfield 10, 1, 3, 11, 0, 0, []),
  (.iload_n 1, 4, 1, 0, 0, 0, []),
  (.invokevirtual 85, 5, 3, 60, 2, 10, [1]),
  (.ifCond .eq 21, 8, 3, 13, 0, 0, []),
  (.iload_n 2, 11, 1, 0, 0, 0, []),
  (.ifCond .lt 17, 12, 3, 13, 0, 0, []),
  (.iload_n 2, 15, 1, 0, 0, 0, []),
  (.bipush 10, 16, 2, 0, 0, 0, []),
  (.if_icmp .gt 11, 18, 3, 13, 0, 0, []),
  (.iload 4, 21, 2, 0, 0, 0, []),
  (.invokestatic 151, 23, 3, 106, 1, 0, [1]),
  (.ifCond .ne 7, 26, 3, 15, 0, 0, []),
  (.ldc2_w 154, 29, 3, 0, 0, (-1), []),
  (.lreturn, 32, 1, 0, 0, 0, []),
  (.aload_n 0, 33, 1, 0, 0, 0, []),
  (.getfield 10, 34, 3, 11, 0, 0, []),
  (.invokevirtual 190, 37, 3, 71, 1, 10, [1]),
  (.ifCond .ne 7, 40, 3, 21, 0, 0, []),
  (.ldc2_w 194, 43, 3, 0, 0, (-2), []),
  (.lreturn, 46, 1, 0, 0, 0, []),
  (.iload_n 3, 47, 1, 0, 0, 0, []),
  (.ifCond .eq 10, 48, 3, 26, 0, 0, []),
  (.aload_n 0, 51, 1, 0, 0, 0, []),
  (.getfield 44, 52, 3, 11, 5, 0, []),
  (.goto 7, 55, 3, 28, 0, 0, []),
  (.aload_n 0, 58, 1, 0, 0, 0, []),
  (.getfield 40, 59, 3, 11, 4, 0, []),
  (.astore 5, 62, 2, 0, 0, 0, []),
  (.aload 5, 64, 2, 0, 0, 0, []),
  (.invokevirtual 196, 66, 3, 27, 1, 4, [0]),
  (.aload 5, 69, 2, 0, 0, 0, []),
  (.getfield 197, 71, 3, 4, 3, 0, []),
  (.iload_n 2, 74, 1, 0, 0, 0, []),
  (.aaload, 75, 1, 0, 0, 0, []),
  (.iload_n 1, 76, 1, 0, 0, 0, []),
  (.laload, 77, 1, 0, 0, 0, []),
  (.aload 5, 78, 2, 0, 0, 0, []),
  (.getfield 200, 80, 3, 4, 4, 0, []),
  (.iload_n 2, 83, 1, 0, 0, 0, []),
  (.laload, 84, 1, 0, 0, 0, []),
  (.iload 4, 85, 2, 0, 0, 0, []),
  (.invokestatic 168, 87, 3, 109, 3, 0, [2]),
  (.lreturn, 90, 1, 0, 0, 0, [])]
def tX11_bound : List xI := [(.aload_n 0, 0, 1, 0, 0, 0, []),
  (.getfield 10, 1, 3, 11, 0, 0, []),
  (.iload_n 1, 4, 1, 0, 0, 0, []),
  (.invokevirtual 85, 5, 3, 60, 2, 10, [1]),
  (.ifCond .eq 13, 8, 3, 10, 0, 0, []),
  (.iload_n 2, 11, 1, 0, 0, 0, []),
  (.ifCond .lt 9, 12, 3, 10, 0, 0, []),
  (.iload_n 2, 15, 1, 0, 0, 0, []),
  (.bipush 12, 16, 2, 0, 0, 0, []),
  (.if_icmp .le 5, 18, 3, 12, 0, 0, []),
  (.iconst (-1), 21, 1, 0, 0, 0, []),
  (.ireturn, 22, 1, 0, 0, 0, []),
  (.aload_n 0, 23, 1, 0, 0, 0, []),
  (.getfield 10, 24, 3, 11, 0, 0, []),
  (.invokevirtual 190, 27, 3, 71, 1, 10, [1]),
  (.ifCond .ne 6, 30, 3, 18, 0, 0, []),
  (.bipush (-2), 33, 2, 0, 0, 0, []),
  (.ireturn, 35, 1, 0, 0, 0, []),
  (.aload_n 0, 36, 1, 0, 0, 0, []),
  (.getfield 40, 37, 3, 11, 4, 0, []),
  (.invokevirtual 196, 40, 3, 27, 1, 4, [0]),
  (.iconst 0, 43, 1, 0, 0, 0, []),
  (.istore_n 3, 44, 1, 0, 0, 0, []),
  (.iload_n 3, 45, 1, 0, 0, 0, []),
  (.bipush 10, 46, 2, 0, 0, 0, []),
  (.if_icmp .gt 42, 48, 3, 49, 0, 0, []),
  (.ldc2_w 188, 51, 3, 0, 0, 12, []),
  (.aload_n 0, 54, 1, 0, 0, 0, []),
  (.getfield 40, 55, 3, 11, 4, 0, []),
  (.getfield 197, 58, 3, 4, 3, 0, []),
  (.iload_n 3, 61, 1, 0, 0, 0, []),
  (.aaload, 62, 1, 0, 0, 0, []),
  (.iload_n 1, 63, 1, 0, 0, 0, []),
  (.laload, 64, 1, 0, 0, 0, []),
  (.lmul, 65, 1, 0, 0, 0, []),
  (.iload_n 2, 66, 1, 0, 0, 0, []),
  (.i2l, 67, 1, 0, 0, 0, []),
  (.aload_n 0, 68, 1, 0, 0, 0, []),
  (.getfield 40, 69, 3, 11, 4, 0, []),
  (.getfield 200, 72, 3, 4, 4, 0, []),
  (.iload_n 3, 75, 1, 0, 0, 0, []),
  (.laload, 76, 1, 0, 0, 0, []),
  (.lmul, 77, 1, 0, 0, 0, []),
  (.lcmp, 78, 1, 0, 0, 0, []),
  (.ifCond .lt 5, 79, 3, 47, 0, 0, []),
  (.iload_n 3, 82, 1, 0, 0, 0, []),
  (.ireturn, 83, 1, 0, 0, 0, []),
  (.iinc 3 1, 84, 3, 0, 0, 0, []),
  (.goto (-42), 87, 3, 23, 0, 0, []),
  (.bipush (-3), 90, 2, 0, 0, 0, []),
  (.ireturn, 92, 1, 0, 0, 0, [])]
def tX11_sets : List xI := [(.iload_n 1, 0, 1, 0, 0, 0, []),
  (.ifCond .lt 8, 1, 3, 5, 0, 0, []),
  (.iload_n 1, 4, 1, 0, 0, 0, []),
  (.iconst 3, 5, 1, 0, 0, 0, []),
  (.if_icmp .le 5, 6, 3, 7, 0, 0, []),
  (.iconst (-1), 9, 1, 0, 0, 0, []),
  (.ireturn, 10, 1, 0, 0, 0, []),
  (.aload_n 0, 11, 1, 0, 0, 0, []),
  (.getfield 10, 12, 3, 11, 0, 0, []),
  (.invokevirtual 190, 15, 3, 71, 1, 10, [1]),
  (.ifCond .ne 6, 18, 3, 13, 0, 0, []),
  (.bipush (-2), 21, 2, 0, 0, 0, []),
  (.ireturn, 23, 1, 0, 0, 0, []),
  (.iload_n 1, 24, 1, 0, 0, 0, []),
  (.iconst 2, 25, 1, 0, 0, 0, []),
  (.if_icmp .ge 10, 26, 3, 19, 0, 0, []),
  (.aload_n 0, 29, 1, 0, 0, 0, []),
  (.getfield 21, 30, 3, 11, 1, 0, []),
  (.goto 7, 33, 3, 21, 0, 0, []),
  (.aload_n 0, 36, 1, 0, 0, 0, []),
  (.getfield 25, 37, 3, 11, 2, 0, []),
  (.astore_n 2, 40, 1, 0, 0, 0, []),
  (.aload_n 2, 41, 1, 0, 0, 0, []),
  (.invokevirtual 202, 42, 3, 49, 1, 8, [0]),
  (.iload_n 1, 45, 1, 0, 0, 0, []),
  (.iconst 2, 46, 1, 0, 0, 0, []),
  (.irem, 47, 1, 0, 0, 0, []),
  (.ifCond .ne 10, 48, 3, 31, 0, 0, []),
  (.aload_n 2, 51, 1, 0, 0, 0, []),
  (.getfield 205, 52, 3, 8, 8, 0, []),
  (.goto 7, 55, 3, 33, 0, 0, []),
  (.aload_n 2, 58, 1, 0, 0, 0, []),
  (.getfield 178, 59, 3, 8, 9, 0, []),
  (.ireturn, 62, 1, 0, 0, 0, [])]
def tX11_reached : List xI := [(.aload_n 0, 0, 1, 0, 0, 0, []),
  (.getfield 10, 1, 3, 11, 0, 0, []),
  (.iload_n 1, 4, 1, 0, 0, 0, []),
  (.invokevirtual 85, 5, 3, 60, 2, 10, [1]),
  (.ifCond .ne 5, 8, 3, 7, 0, 0, []),
  (.iconst (-1), 11, 1, 0, 0, 0, []),
  (.ireturn, 12, 1, 0, 0, 0, []),
  (.aload_n 0, 13, 1, 0, 0, 0, []),
  (.getfield 10, 14, 3, 11, 0, 0, []),
  (.iload_n 1, 17, 1, 0, 0, 0, []),
  (.invokevirtual 208, 18, 3, 77, 2, 10, [1]),
  (.ireturn, 21, 1, 0, 0, 0, [])]
def tX11_cost : List xI := [(.aload_n 0, 0, 1, 0, 0, 0, []),
  (.getfield 10, 1, 3, 11, 0, 0, []),
  (.iload_n 1, 4, 1, 0, 0, 0, []),
  (.invokevirtual 85, 5, 3, 60, 2, 10, [1]),
  (.ifCond .eq 10, 8, 3, 8, 0, 0, []),
  (.iload_n 2, 11, 1, 0, 0, 0, []),
  (.invokestatic 151, 12, 3, 106, 1, 0, [1]),
  (.ifCond .ne 7, 15, 3, 10, 0, 0, []),
  (.ldc2_w 154, 18, 3, 0, 0, (-1), []),
  (.lreturn, 21, 1, 0, 0, 0, []),
  (.aload_n 0, 22, 1, 0, 0, 0, []),
  (.getfield 10, 23, 3, 11, 0, 0, []),
  (.invokevirtual 190, 26, 3, 71, 1, 10, [1]),
  (.ifCond .ne 7, 29, 3, 16, 0, 0, []),
  (.ldc2_w 194, 32, 3, 0, 0, (-2), []),
  (.lreturn, 35, 1, 0, 0, 0, []),
  (.aload_n 0, 36, 1, 0, 0, 0, []),
  (.getfield 50, 37, 3, 11, 6, 0, []),
  (.invokevirtual 211, 40, 3, 30, 1, 5, [0]),
  (.aload_n 0, 43, 1, 0, 0, 0, []),
  (.getfield 50, 44, 3, 11, 6, 0, []),
  (.getfield 212, 47, 3, 5, 7, 0, []),
  (.ifCond .ne 7, 50, 3, 25, 0, 0, []),
  (.ldc2_w 216, 53, 3, 0, 0, (-3), []),
  (.lreturn, 56, 1, 0, 0, 0, []),
  (.aload_n 0, 57, 1, 0, 0, 0, []),
  (.getfield 21, 58, 3, 11, 1, 0, []),
  (.getfield 205, 61, 3, 8, 8, 0, []),
  (.iload_n 1, 64, 1, 0, 0, 0, []),
  (.invokestatic 125, 65, 3, 108, 2, 0, [1]),
  (.ifCond .ne 7, 68, 3, 33, 0, 0, []),
  (.ldc2_w 218, 71, 3, 0, 0, (-4), []),
  (.lreturn, 74, 1, 0, 0, 0, []),
  (.aload_n 0, 75, 1, 0, 0, 0, []),
  (.getfield 50, 76, 3, 11, 6, 0, []),
  (.getfield 220, 79, 3, 5, 5, 0, []),
  (.iload_n 1, 82, 1, 0, 0, 0, []),
  (.laload, 83, 1, 0, 0, 0, []),
  (.aload_n 0, 84, 1, 0, 0, 0, []),
  (.getfield 50, 85, 3, 11, 6, 0, []),
  (.getfield 221, 88, 3, 5, 6, 0, []),
  (.iload_n 2, 91, 1, 0, 0, 0, []),
  (.invokestatic 168, 92, 3, 109, 3, 0, [2]),
  (.lreturn, 95, 1, 0, 0, 0, [])]
def tX11_hole : List xI := [(.iload_n 2, 0, 1, 0, 0, 0, []),
  (.ifCond .lt 8, 1, 3, 5, 0, 0, []),
  (.iload_n 2, 4, 1, 0, 0, 0, []),
  (.iconst 2, 5, 1, 0, 0, 0, []),
  (.if_icmp .le 5, 6, 3, 7, 0, 0, []),
  (.iconst (-1), 9, 1, 0, 0, 0, []),
  (.ireturn, 10, 1, 0, 0, 0, []),
  (.aload_n 0, 11, 1, 0, 0, 0, []),
  (.getfield 10, 12, 3, 11, 0, 0, []),
  (.invokevirtual 190, 15, 3, 71, 1, 10, [1]),
  (.ifCond .ne 6, 18, 3, 13, 0, 0, []),
  (.bipush (-2), 21, 2, 0, 0, 0, []),
  (.ireturn, 23, 1, 0, 0, 0, []),
  (.aload_n 0, 24, 1, 0, 0, 0, []),
  (.getfield 59, 25, 3, 11, 7, 0, []),
  (.invokevirtual 222, 28, 3, 21, 1, 3, [0]),
  (.iload_n 2, 31, 1, 0, 0, 0, []),
  (.ifCond .ne 11, 32, 3, 22, 0, 0, []),
  (.aload_n 0, 35, 1, 0, 0, 0, []),
  (.getfield 59, 36, 3, 11, 7, 0, []),
  (.getfield 223, 39, 3, 3, 5, 0, []),
  (.ireturn, 42, 1, 0, 0, 0, []),
  (.iload_n 1, 43, 1, 0, 0, 0, []),
  (.ifCond .lt 14, 44, 3, 29, 0, 0, []),
  (.iload_n 1, 47, 1, 0, 0, 0, []),
  (.aload_n 0, 48, 1, 0, 0, 0, []),
  (.getfield 59, 49, 3, 11, 7, 0, []),
  (.getfield 223, 52, 3, 3, 5, 0, []),
  (.if_icmp .lt 5, 55, 3, 31, 0, 0, []),
  (.iconst (-1), 58, 1, 0, 0, 0, []),
  (.ireturn, 59, 1, 0, 0, 0, []),
  (.iload_n 2, 60, 1, 0, 0, 0, []),
  (.iconst 1, 61, 1, 0, 0, 0, []),
  (.if_icmp .ne 15, 62, 3, 40, 0, 0, []),
  (.aload_n 0, 65, 1, 0, 0, 0, []),
  (.getfield 59, 66, 3, 11, 7, 0, []),
  (.getfield 225, 69, 3, 3, 4, 0, []),
  (.iload_n 1, 72, 1, 0, 0, 0, []),
  (.iaload, 73, 1, 0, 0, 0, []),
  (.goto 19, 74, 3, 48, 0, 0, []),
  (.aload_n 0, 77, 1, 0, 0, 0, []),
  (.getfield 59, 78, 3, 11, 7, 0, []),
  (.aload_n 0, 81, 1, 0, 0, 0, []),
  (.getfield 59, 82, 3, 11, 7, 0, []),
  (.getfield 225, 85, 3, 3, 4, 0, []),
  (.iload_n 1, 88, 1, 0, 0, 0, []),
  (.iaload, 89, 1, 0, 0, 0, []),
  (.invokevirtual 228, 90, 3, 25, 2, 3, [1]),
  (.ireturn, 93, 1, 0, 0, 0, [])]
def tX11_twin : List xI := [(.aload_n 0, 0, 1, 0, 0, 0, []),
  (.getfield 10, 1, 3, 11, 0, 0, []),
  (.iload_n 1, 4, 1, 0, 0, 0, []),
  (.invokevirtual 85, 5, 3, 60, 2, 10, [1]),
  (.ifCond .ne 5, 8, 3, 7, 0, 0, []),
  (.iconst (-1), 11, 1, 0, 0, 0, []),
  (.ireturn, 12, 1, 0, 0, 0, []),
  (.aload_n 0, 13, 1, 0, 0, 0, []),
  (.getfield 10, 14, 3, 11, 0, 0, []),
  (.invokevirtual 190, 17, 3, 71, 1, 10, [1]),
  (.ifCond .ne 6, 20, 3, 13, 0, 0, []),
  (.bipush (-2), 23, 2, 0, 0, 0, []),
  (.ireturn, 25, 1, 0, 0, 0, []),
  (.aload_n 0, 26, 1, 0, 0, 0, []),
  (.getfield 66, 27, 3, 11, 8, 0, []),
  (.invokevirtual 231, 30, 3, 42, 1, 7, [0]),
  (.aload_n 0, 33, 1, 0, 0, 0, []),
  (.getfield 66, 34, 3, 11, 8, 0, []),
  (.getfield 232, 37, 3, 7, 4, 0, []),
  (.iload_n 1, 40, 1, 0, 0, 0, []),
  (.iaload, 41, 1, 0, 0, 0, []),
  (.ireturn, 42, 1, 0, 0, 0, [])]
def tX11_count : List xI := [(.iload_n 1, 0, 1, 0, 0, 0, []),
  (.tableswitch 95 0 4 #[35, 43, 51, 59, 67], 1, 35, 0, 0, 0, [31, 2, 6, 10, 14, 18]),
  (.aload_n 0, 36, 1, 0, 0, 0, []),
  (.getfield 10, 37, 3, 11, 0, 0, []),
  (.getfield 77, 40, 3, 10, 0, 0, []),
  (.ireturn, 43, 1, 0, 0, 0, []),
  (.aload_n 0, 44, 1, 0, 0, 0, []),
  (.getfield 10, 45, 3, 11, 0, 0, []),
  (.invokevirtual 235, 48, 3, 73, 1, 10, [1]),
  (.ireturn, 51, 1, 0, 0, 0, []),
  (.aload_n 0, 52, 1, 0, 0, 0, []),
  (.getfield 10, 53, 3, 11, 0, 0, []),
  (.invokevirtual 238, 56, 3, 74, 1, 10, [1]),
  (.ireturn, 59, 1, 0, 0, 0, []),
  (.aload_n 0, 60, 1, 0, 0, 0, []),
  (.getfield 10, 61, 3, 11, 0, 0, []),
  (.invokevirtual 241, 64, 3, 75, 1, 10, [1]),
  (.ireturn, 67, 1, 0, 0, 0, []),
  (.aload_n 0, 68, 1, 0, 0, 0, []),
  (.getfield 10, 69, 3, 11, 0, 0, []),
  (.invokevirtual 190, 72, 3, 71, 1, 10, [1]),
  (.ifCond .ne 6, 75, 3, 24, 0, 0, []),
  (.bipush (-2), 78, 2, 0, 0, 0, []),
  (.ireturn, 80, 1, 0, 0, 0, []),
  (.aload_n 0, 81, 1, 0, 0, 0, []),
  (.getfield 66, 82, 3, 11, 8, 0, []),
  (.invokevirtual 231, 85, 3, 42, 1, 7, [0]),
  (.aload_n 0, 88, 1, 0, 0, 0, []),
  (.getfield 66, 89, 3, 11, 8, 0, []),
  (.getfield 244, 92, 3, 7, 5, 0, []),
  (.ireturn, 95, 1, 0, 0, 0, []),
  (.iconst (-1), 96, 1, 0, 0, 0, []),
  (.ireturn, 97, 1, 0, 0, 0, [])]
def tX11_look : List xI := [(.aload_n 0, 0, 1, 0, 0, 0, []),
  (.getfield 10, 1, 3, 11, 0, 0, []),
  (.iload_n 1, 4, 1, 0, 0, 0, []),
  (.iload_n 2, 5, 1, 0, 0, 0, []),
  (.invokevirtual 100, 6, 3, 61, 3, 10, [1]),
  (.ifCond .eq 13, 9, 3, 11, 0, 0, []),
  (.iload_n 3, 12, 1, 0, 0, 0, []),
  (.ifCond .lt 9, 13, 3, 11, 0, 0, []),
  (.iload_n 3, 16, 1, 0, 0, 0, []),
  (.bipush 10, 17, 2, 0, 0, 0, []),
  (.if_icmp .le 5, 19, 3, 13, 0, 0, []),
  (.iconst (-1), 22, 1, 0, 0, 0, []),
  (.ireturn, 23, 1, 0, 0, 0, []),
  (.aload_n 0, 24, 1, 0, 0, 0, []),
  (.getfield 10, 25, 3, 11, 0, 0, []),
  (.iload_n 1, 28, 1, 0, 0, 0, []),
  (.iload_n 2, 29, 1, 0, 0, 0, []),
  (.invokevirtual 104, 30, 3, 62, 3, 10, [7]),
  (.astore 4, 33, 2, 0, 0, 0, []),
  (.iload_n 3, 35, 1, 0, 0, 0, []),
  (.tableswitch 46 0 2 #[28, 34, 40], 36, 28, 0, 0, 0, [30, 21, 24, 27]),
  (.aload 4, 64, 2, 0, 0, 0, []),
  (.getfield 108, 66, 3, 0, 0, 0, []),
  (.ireturn, 69, 1, 0, 0, 0, []),
  (.aload 4, 70, 2, 0, 0, 0, []),
  (.getfield 247, 72, 3, 0, 1, 0, []),
  (.ireturn, 75, 1, 0, 0, 0, []),
  (.aload 4, 76, 2, 0, 0, 0, []),
  (.getfield 113, 78, 3, 0, 2, 0, []),
  (.ireturn, 81, 1, 0, 0, 0, []),
  (.iload_n 3, 82, 1, 0, 0, 0, []),
  (.iconst 3, 83, 1, 0, 0, 0, []),
  (.isub, 84, 1, 0, 0, 0, []),
  (.iconst 4, 85, 1, 0, 0, 0, []),
  (.irem, 86, 1, 0, 0, 0, []),
  (.istore 5, 87, 2, 0, 0, 0, []),
  (.iload 5, 89, 2, 0, 0, 0, []),
  (.aload 4, 91, 2, 0, 0, 0, []),
  (.getfield 113, 93, 3, 0, 2, 0, []),
  (.if_icmp .lt 6, 96, 3, 42, 0, 0, []),
  (.bipush (-2), 99, 2, 0, 0, 0, []),
  (.ireturn, 101, 1, 0, 0, 0, []),
  (.iload_n 3, 102, 1, 0, 0, 0, []),
  (.iconst 3, 103, 1, 0, 0, 0, []),
  (.isub, 104, 1, 0, 0, 0, []),
  (.iconst 4, 105, 1, 0, 0, 0, []),
  (.if_icmp .ge 14, 106, 3, 52, 0, 0, []),
  (.aload 4, 109, 2, 0, 0, 0, []),
  (.getfield 250, 111, 3, 0, 5, 0, []),
  (.iload 5, 114, 2, 0, 0, 0, []),
  (.iaload, 116, 1, 0, 0, 0, []),
  (.goto 11, 117, 3, 56, 0, 0, []),
  (.aload 4, 120, 2, 0, 0, 0, []),
  (.getfield 253, 122, 3, 0, 6, 0, []),
  (.iload 5, 125, 2, 0, 0, 0, []),
  (.iaload, 127, 1, 0, 0, 0, []),
  (.ireturn, 128, 1, 0, 0, 0, [])]
def tX11_keep : List xI := [(.iload_n 1, 0, 1, 0, 0, 0, []),
  (.invokestatic 256, 1, 3, 107, 1, 0, [1]),
  (.ifCond .eq 12, 4, 3, 8, 0, 0, []),
  (.iload_n 2, 7, 1, 0, 0, 0, []),
  (.ifCond .lt 8, 8, 3, 8, 0, 0, []),
  (.iload_n 2, 11, 1, 0, 0, 0, []),
  (.iconst 4, 12, 1, 0, 0, 0, []),
  (.if_icmp .le 5, 13, 3, 10, 0, 0, []),
  (.iconst (-1), 16, 1, 0, 0, 0, []),
  (.ireturn, 17, 1, 0, 0, 0, []),
  (.iload_n 2, 18, 1, 0, 0, 0, []),
  (.iconst 1, 19, 1, 0, 0, 0, []),
  (.if_icmp .eq 8, 20, 3, 16, 0, 0, []),
  (.iload_n 2, 23, 1, 0, 0, 0, []),
  (.iconst 3, 24, 1, 0, 0, 0, []),
  (.if_icmp .ne 18, 25, 3, 24, 0, 0, []),
  (.aload_n 0, 28, 1, 0, 0, 0, []),
  (.getfield 10, 29, 3, 11, 0, 0, []),
  (.iload_n 3, 32, 1, 0, 0, 0, []),
  (.iload 4, 33, 2, 0, 0, 0, []),
  (.invokevirtual 100, 35, 3, 61, 3, 10, [1]),
  (.ifCond .ne 5, 38, 3, 24, 0, 0, []),
  (.iconst (-1), 41, 1, 0, 0, 0, []),
  (.ireturn, 42, 1, 0, 0, 0, []),
  (.iload_n 2, 43, 1, 0, 0, 0, []),
  (.iconst 2, 44, 1, 0, 0, 0, []),
  (.if_icmp .ne 16, 45, 3, 34, 0, 0, []),
  (.aload_n 0, 48, 1, 0, 0, 0, []),
  (.getfield 10, 49, 3, 11, 0, 0, []),
  (.iload_n 3, 52, 1, 0, 0, 0, []),
  (.invokevirtual 85, 53, 3, 60, 2, 10, [1]),
  (.ifCond .ne 5, 56, 3, 34, 0, 0, []),
  (.iconst (-1), 59, 1, 0, 0, 0, []),
  (.ireturn, 60, 1, 0, 0, 0, []),
  (.iload_n 2, 61, 1, 0, 0, 0, []),
  (.iconst 2, 62, 1, 0, 0, 0, []),
  (.if_icmp .eq 8, 63, 3, 40, 0, 0, []),
  (.iload_n 2, 66, 1, 0, 0, 0, []),
  (.iconst 4, 67, 1, 0, 0, 0, []),
  (.if_icmp .ne 21, 68, 3, 49, 0, 0, []),
  (.aload_n 0, 71, 1, 0, 0, 0, []),
  (.aload_n 0, 72, 1, 0, 0, 0, []),
  (.getfield 21, 73, 3, 11, 1, 0, []),
  (.invokevirtual 156, 76, 3, 104, 2, 11, [1]),
  (.istore 5, 79, 2, 0, 0, 0, []),
  (.iload 5, 81, 2, 0, 0, 0, []),
  (.ifCond .eq 6, 83, 3, 49, 0, 0, []),
  (.iload 5, 86, 2, 0, 0, 0, []),
  (.ireturn, 88, 1, 0, 0, 0, []),
  (.aload_n 0, 89, 1, 0, 0, 0, []),
  (.aload_n 0, 90, 1, 0, 0, 0, []),
  (.getfield 72, 91, 3, 11, 9, 0, []),
  (.iload_n 1, 94, 1, 0, 0, 0, []),
  (.aaload, 95, 1, 0, 0, 0, []),
  (.iload_n 2, 96, 1, 0, 0, 0, []),
  (.iload_n 3, 97, 1, 0, 0, 0, []),
  (.iload 4, 98, 2, 0, 0, 0, []),
  (.invokevirtual 259, 100, 3, 105, 5, 11, [0]),
  (.iconst 0, 103, 1, 0, 0, 0, []),
  (.ireturn, 104, 1, 0, 0, 0, [])]
def tX11_make : List xI := [(.iload_n 1, 0, 1, 0, 0, 0, []),
  (.invokestatic 256, 1, 3, 107, 1, 0, [1]),
  (.ifCond .eq 19, 4, 3, 12, 0, 0, []),
  (.iload_n 2, 7, 1, 0, 0, 0, []),
  (.iconst 3, 8, 1, 0, 0, 0, []),
  (.if_icmp .eq 8, 9, 3, 9, 0, 0, []),
  (.iload_n 2, 12, 1, 0, 0, 0, []),
  (.iconst 4, 13, 1, 0, 0, 0, []),
  (.if_icmp .ne 9, 14, 3, 12, 0, 0, []),
  (.iload_n 3, 17, 1, 0, 0, 0, []),
  (.bipush 60, 18, 2, 0, 0, 0, []),
  (.if_icmp .le 5, 20, 3, 14, 0, 0, []),
  (.iconst (-1), 23, 1, 0, 0, 0, []),
  (.ireturn, 24, 1, 0, 0, 0, []),
  (.iload_n 3, 25, 1, 0, 0, 0, []),
  (.ifCond .ge 6, 26, 3, 18, 0, 0, []),
  (.bipush (-14), 29, 2, 0, 0, 0, []),
  (.ireturn, 31, 1, 0, 0, 0, []),
  (.aload_n 0, 32, 1, 0, 0, 0, []),
  (.getfield 72, 33, 3, 11, 9, 0, []),
  (.iload_n 1, 36, 1, 0, 0, 0, []),
  (.aaload, 37, 1, 0, 0, 0, []),
  (.iload_n 2, 38, 1, 0, 0, 0, []),
  (.iload_n 3, 39, 1, 0, 0, 0, []),
  (.invokevirtual 263, 40, 3, 40, 3, 6, [0]),
  (.iconst 0, 43, 1, 0, 0, 0, []),
  (.ireturn, 44, 1, 0, 0, 0, [])]
def tX11_element : List xI := []
def tX11_copy : List xI := [(.iload_n 1, 0, 1, 0, 0, 0, []),
  (.invokestatic 256, 1, 3, 107, 1, 0, [1]),
  (.ifCond .eq 10, 4, 3, 6, 0, 0, []),
  (.iload_n 3, 7, 1, 0, 0, 0, []),
  (.invokestatic 256, 8, 3, 107, 1, 0, [1]),
  (.ifCond .ne 5, 11, 3, 8, 0, 0, []),
  (.iconst (-1), 14, 1, 0, 0, 0, []),
  (.ireturn, 15, 1, 0, 0, 0, []),
  (.aload_n 0, 16, 1, 0, 0, 0, []),
  (.getfield 72, 17, 3, 11, 9, 0, []),
  (.iload_n 1, 20, 1, 0, 0, 0, []),
  (.aaload, 21, 1, 0, 0, 0, []),
  (.astore 6, 22, 2, 0, 0, 0, []),
  (.aload_n 0, 24, 1, 0, 0, 0, []),
  (.getfield 72, 25, 3, 11, 9, 0, []),
  (.iload_n 3, 28, 1, 0, 0, 0, []),
  (.aaload, 29, 1, 0, 0, 0, []),
  (.astore 7, 30, 2, 0, 0, 0, []),
  (.aload 6, 32, 2, 0, 0, 0, []),
  (.getfield 290, 34, 3, 6, 0, 0, []),
  (.ifCond .eq 11, 37, 3, 24, 0, 0, []),
  (.aload 7, 40, 2, 0, 0, 0, []),
  (.getfield 290, 42, 3, 6, 0, 0, []),
  (.ifCond .ne 6, 45, 3, 26, 0, 0, []),
  (.bipush (-11), 48, 2, 0, 0, 0, []),
  (.ireturn, 50, 1, 0, 0, 0, []),
  (.aload 6, 51, 2, 0, 0, 0, []),
  (.invokevirtual 274, 53, 3, 35, 1, 6, [1]),
  (.ifCond .eq 16, 56, 3, 34, 0, 0, []),
  (.aload 6, 59, 2, 0, 0, 0, []),
  (.getfield 290, 61, 3, 6, 0, 0, []),
  (.aload 7, 64, 2, 0, 0, 0, []),
  (.getfield 290, 66, 3, 6, 0, 0, []),
  (.if_icmp .eq 6, 69, 3, 36, 0, 0, []),
  (.bipush (-12), 72, 2, 0, 0, 0, []),
  (.ireturn, 74, 1, 0, 0, 0, []),
  (.aload 6, 75, 2, 0, 0, 0, []),
  (.iload_n 2, 77, 1, 0, 0, 0, []),
  (.iload 5, 78, 2, 0, 0, 0, []),
  (.invokevirtual 291, 80, 3, 36, 3, 6, [1]),
  (.ifCond .eq 15, 83, 3, 46, 0, 0, []),
  (.aload 7, 86, 2, 0, 0, 0, []),
  (.iload 4, 88, 2, 0, 0, 0, []),
  (.iload 5, 90, 2, 0, 0, 0, []),
  (.invokevirtual 291, 92, 3, 36, 3, 6, [1]),
  (.ifCond .ne 6, 95, 3, 48, 0, 0, []),
  (.bipush (-13), 98, 2, 0, 0, 0, []),
  (.ireturn, 100, 1, 0, 0, 0, []),
  (.aload 6, 101, 2, 0, 0, 0, []),
  (.getfield 287, 103, 3, 6, 4, 0, []),
  (.iload_n 2, 106, 1, 0, 0, 0, []),
  (.aload 7, 107, 2, 0, 0, 0, []),
  (.getfield 287, 109, 3, 6, 4, 0, []),
  (.iload 4, 112, 2, 0, 0, 0, []),
  (.iload 5, 114, 2, 0, 0, 0, []),
  (.invokestatic 294, 116, 3, 1001, 0, 0, []),
  (.iload 5, 119, 2, 0, 0, 0, []),
  (.ireturn, 121, 1, 0, 0, 0, [])]
def tX11_weight : List xI := [(.iload_n 1, 0, 1, 0, 0, 0, []),
  (.invokestatic 256, 1, 3, 107, 1, 0, [1]),
  (.ifCond .ne 7, 4, 3, 5, 0, 0, []),
  (.ldc2_w 154, 7, 3, 0, 0, (-1), []),
  (.lreturn, 10, 1, 0, 0, 0, []),
  (.aload_n 0, 11, 1, 0, 0, 0, []),
  (.getfield 72, 12, 3, 11, 9, 0, []),
  (.iload_n 1, 15, 1, 0, 0, 0, []),
  (.aaload, 16, 1, 0, 0, 0, []),
  (.astore_n 2, 17, 1, 0, 0, 0, []),
  (.aload_n 2, 18, 1, 0, 0, 0, []),
  (.getfield 290, 19, 3, 6, 0, 0, []),
  (.tableswitch 43 0 2 #[26, 30, 38], 22, 26, 0, 0, 0, [22, 13, 15, 19]),
  (.ldc2_w 300, 48, 3, 0, 0, (-11), []),
  (.lreturn, 51, 1, 0, 0, 0, []),
  (.aload_n 2, 52, 1, 0, 0, 0, []),
  (.getfield 302, 53, 3, 6, 3, 0, []),
  (.invokevirtual 306, 56, 3, 8, 1, 0, [2]),
  (.lreturn, 59, 1, 0, 0, 0, []),
  (.aload_n 2, 60, 1, 0, 0, 0, []),
  (.getfield 310, 61, 3, 6, 1, 0, []),
  (.lreturn, 64, 1, 0, 0, 0, []),
  (.ldc2_w 312, 65, 3, 0, 0, (-12), []),
  (.lreturn, 68, 1, 0, 0, 0, [])]
def tX11_ratio : List xI := [(.iload_n 1, 0, 1, 0, 0, 0, []),
  (.invokestatic 256, 1, 3, 107, 1, 0, [1]),
  (.ifCond .eq 10, 4, 3, 6, 0, 0, []),
  (.iload_n 2, 7, 1, 0, 0, 0, []),
  (.invokestatic 256, 8, 3, 107, 1, 0, [1]),
  (.ifCond .ne 7, 11, 3, 8, 0, 0, []),
  (.ldc2_w 154, 14, 3, 0, 0, (-1), []),
  (.lreturn, 17, 1, 0, 0, 0, []),
  (.aload_n 0, 18, 1, 0, 0, 0, []),
  (.getfield 72, 19, 3, 11, 9, 0, []),
  (.iload_n 1, 22, 1, 0, 0, 0, []),
  (.aaload, 23, 1, 0, 0, 0, []),
  (.astore_n 3, 24, 1, 0, 0, 0, []),
  (.aload_n 0, 25, 1, 0, 0, 0, []),
  (.getfield 72, 26, 3, 11, 9, 0, []),
  (.iload_n 2, 29, 1, 0, 0, 0, []),
  (.aaload, 30, 1, 0, 0, 0, []),
  (.astore 4, 31, 2, 0, 0, 0, []),
  (.aload_n 3, 33, 1, 0, 0, 0, []),
  (.getfield 290, 34, 3, 6, 0, 0, []),
  (.ifCond .eq 11, 37, 3, 24, 0, 0, []),
  (.aload 4, 40, 2, 0, 0, 0, []),
  (.getfield 290, 42, 3, 6, 0, 0, []),
  (.ifCond .ne 7, 45, 3, 26, 0, 0, []),
  (.ldc2_w 300, 48, 3, 0, 0, (-11), []),
  (.lreturn, 51, 1, 0, 0, 0, []),
  (.aload_n 3, 52, 1, 0, 0, 0, []),
  (.getfield 290, 53, 3, 6, 0, 0, []),
  (.iconst 2, 56, 1, 0, 0, 0, []),
  (.if_icmp .ne 12, 57, 3, 34, 0, 0, []),
  (.aload 4, 60, 2, 0, 0, 0, []),
  (.getfield 290, 62, 3, 6, 0, 0, []),
  (.iconst 2, 65, 1, 0, 0, 0, []),
  (.if_icmp .eq 7, 66, 3, 36, 0, 0, []),
  (.ldc2_w 312, 69, 3, 0, 0, (-12), []),
  (.lreturn, 72, 1, 0, 0, 0, []),
  (.aload 4, 73, 2, 0, 0, 0, []),
  (.getfield 310, 75, 3, 6, 1, 0, []),
  (.lconst 0, 78, 1, 0, 0, 0, []),
  (.lcmp, 79, 1, 0, 0, 0, []),
  (.ifCond .ne 7, 80, 3, 43, 0, 0, []),
  (.ldc2_w 314, 83, 3, 0, 0, (-15), []),
  (.lreturn, 86, 1, 0, 0, 0, []),
  (.aload_n 3, 87, 1, 0, 0, 0, []),
  (.getfield 310, 88, 3, 6, 1, 0, []),
  (.aload 4, 91, 2, 0, 0, 0, []),
  (.getfield 310, 93, 3, 6, 1, 0, []),
  (.ldiv, 96, 1, 0, 0, 0, []),
  (.lreturn, 97, 1, 0, 0, 0, [])]
def tX11_refusalOf : List xI := [(.aload_n 0, 0, 1, 0, 0, 0, []),
  (.getfield 10, 1, 3, 11, 0, 0, []),
  (.invokevirtual 190, 4, 3, 71, 1, 10, [1]),
  (.ifCond .ne 6, 7, 3, 6, 0, 0, []),
  (.bipush (-2), 10, 2, 0, 0, 0, []),
  (.ireturn, 12, 1, 0, 0, 0, []),
  (.aload_n 1, 13, 1, 0, 0, 0, []),
  (.invokevirtual 202, 14, 3, 49, 1, 8, [0]),
  (.aload_n 1, 17, 1, 0, 0, 0, []),
  (.invokevirtual 316, 18, 3, 50, 1, 8, [0]),
  (.aload_n 1, 21, 1, 0, 0, 0, []),
  (.getfield 317, 22, 3, 8, 10, 0, []),
  (.ifCond .eq 7, 25, 3, 15, 0, 0, []),
  (.iconst 0, 28, 1, 0, 0, 0, []),
  (.goto 5, 29, 3, 16, 0, 0, []),
  (.bipush (-3), 32, 2, 0, 0, 0, []),
  (.ireturn, 34, 1, 0, 0, 0, [])]
def tX11_fillShelf : List xI := [(.iload_n 2, 0, 1, 0, 0, 0, []),
  (.tableswitch 192 1 4 #[31, 48, 75, 92], 1, 31, 0, 0, 0, [83, 2, 10, 23, 31]),
  (.aload_n 1, 32, 1, 0, 0, 0, []),
  (.aload_n 0, 33, 1, 0, 0, 0, []),
  (.getfield 10, 34, 3, 11, 0, 0, []),
  (.iload_n 3, 37, 1, 0, 0, 0, []),
  (.iload 4, 38, 2, 0, 0, 0, []),
  (.invokevirtual 104, 40, 3, 62, 3, 10, [7]),
  (.invokevirtual 318, 43, 3, 37, 2, 6, [0]),
  (.goto 152, 46, 3, 86, 0, 0, []),
  (.aload_n 1, 49, 1, 0, 0, 0, []),
  (.aload_n 0, 50, 1, 0, 0, 0, []),
  (.getfield 21, 51, 3, 11, 1, 0, []),
  (.getfield 160, 54, 3, 8, 6, 0, []),
  (.iload_n 3, 57, 1, 0, 0, 0, []),
  (.laload, 58, 1, 0, 0, 0, []),
  (.aload_n 0, 59, 1, 0, 0, 0, []),
  (.getfield 21, 60, 3, 11, 1, 0, []),
  (.getfield 164, 63, 3, 8, 7, 0, []),
  (.iconst 0, 66, 1, 0, 0, 0, []),
  (.invokestatic 168, 67, 3, 109, 3, 0, [2]),
  (.invokevirtual 322, 70, 3, 38, 2, 6, [0]),
  (.goto 125, 73, 3, 86, 0, 0, []),
  (.aload_n 1, 76, 1, 0, 0, 0, []),
  (.aload_n 0, 77, 1, 0, 0, 0, []),
  (.getfield 10, 78, 3, 11, 0, 0, []),
  (.iload_n 3, 81, 1, 0, 0, 0, []),
  (.iload 4, 82, 2, 0, 0, 0, []),
  (.invokevirtual 104, 84, 3, 62, 3, 10, [7]),
  (.invokevirtual 326, 87, 3, 39, 2, 6, [0]),
  (.goto 108, 90, 3, 86, 0, 0, []),
  (.aload_n 1, 93, 1, 0, 0, 0, []),
  (.iconst 4, 94, 1, 0, 0, 0, []),
  (.iconst 2, 95, 1, 0, 0, 0, []),
  (.aload_n 0, 96, 1, 0, 0, 0, []),
  (.getfield 10, 97, 3, 11, 0, 0, []),
  (.getfield 77, 100, 3, 10, 0, 0, []),
  (.imul, 103, 1, 0, 0, 0, []),
  (.invokevirtual 263, 104, 3, 40, 3, 6, [0]),
  (.iconst 0, 107, 1, 0, 0, 0, []),
  (.istore 5, 108, 2, 0, 0, 0, []),
  (.iload 5, 110, 2, 0, 0, 0, []),
  (.aload_n 0, 112, 1, 0, 0, 0, []),
  (.getfield 10, 113, 3, 11, 0, 0, []),
  (.getfield 77, 116, 3, 10, 0, 0, []),
  (.if_icmp .ge 71, 119, 3, 82, 0, 0, []),
  (.aload_n 1, 122, 1, 0, 0, 0, []),
  (.getfield 287, 123, 3, 6, 4, 0, []),
  (.iconst 2, 126, 1, 0, 0, 0, []),
  (.iload 5, 127, 2, 0, 0, 0, []),
  (.imul, 129, 1, 0, 0, 0, []),
  (.aload_n 0, 130, 1, 0, 0, 0, []),
  (.getfield 21, 131, 3, 11, 1, 0, []),
  (.getfield 160, 134, 3, 8, 6, 0, []),
  (.iload 5, 137, 2, 0, 0, 0, []),
  (.laload, 139, 1, 0, 0, 0, []),
  (.aload_n 0, 140, 1, 0, 0, 0, []),
  (.getfield 21, 141, 3, 11, 1, 0, []),
  (.getfield 164, 144, 3, 8, 7, 0, []),
  (.iconst 0, 147, 1, 0, 0, 0, []),
  (.invokestatic 168, 148, 3, 109, 3, 0, [2]),
  (.lastore, 151, 1, 0, 0, 0, []),
  (.aload_n 1, 152, 1, 0, 0, 0, []),
  (.getfield 287, 153, 3, 6, 4, 0, []),
  (.iconst 2, 156, 1, 0, 0, 0, []),
  (.iload 5, 157, 2, 0, 0, 0, []),
  (.imul, 159, 1, 0, 0, 0, []),
  (.iconst 1, 160, 1, 0, 0, 0, []),
  (.iadd, 161, 1, 0, 0, 0, []),
  (.aload_n 0, 162, 1, 0, 0, 0, []),
  (.getfield 21, 163, 3, 11, 1, 0, []),
  (.getfield 160, 166, 3, 8, 6, 0, []),
  (.iload 5, 169, 2, 0, 0, 0, []),
  (.laload, 171, 1, 0, 0, 0, []),
  (.aload_n 0, 172, 1, 0, 0, 0, []),
  (.getfield 21, 173, 3, 11, 1, 0, []),
  (.getfield 164, 176, 3, 8, 7, 0, []),
  (.iconst 1, 179, 1, 0, 0, 0, []),
  (.invokestatic 168, 180, 3, 109, 3, 0, [2]),
  (.lastore, 183, 1, 0, 0, 0, []),
  (.iinc 5 1, 184, 3, 0, 0, 0, []),
  (.goto (-77), 187, 3, 41, 0, 0, []),
  (.goto 8, 190, 3, 86, 0, 0, []),
  (.aload_n 1, 193, 1, 0, 0, 0, []),
  (.iconst 0, 194, 1, 0, 0, 0, []),
  (.putfield 290, 195, 3, 6, 0, 0, []),
  (.return_, 198, 1, 0, 0, 0, [])]
def tX11_isHalf : List xI := [(.iload_n 0, 0, 1, 0, 0, 0, []),
  (.ifCond .eq 8, 1, 3, 5, 0, 0, []),
  (.iload_n 0, 4, 1, 0, 0, 0, []),
  (.iconst 1, 5, 1, 0, 0, 0, []),
  (.if_icmp .ne 7, 6, 3, 7, 0, 0, []),
  (.iconst 1, 9, 1, 0, 0, 0, []),
  (.goto 4, 10, 3, 8, 0, 0, []),
  (.iconst 0, 13, 1, 0, 0, 0, []),
  (.ireturn, 14, 1, 0, 0, 0, [])]
def tX11_isShelf : List xI := [(.iload_n 0, 0, 1, 0, 0, 0, []),
  (.ifCond .lt 13, 1, 3, 7, 0, 0, []),
  (.iload_n 0, 4, 1, 0, 0, 0, []),
  (.bipush 8, 5, 2, 0, 0, 0, []),
  (.if_icmp .ge 7, 7, 3, 7, 0, 0, []),
  (.iconst 1, 10, 1, 0, 0, 0, []),
  (.goto 4, 11, 3, 8, 0, 0, []),
  (.iconst 0, 14, 1, 0, 0, 0, []),
  (.ireturn, 15, 1, 0, 0, 0, [])]
def tX11_has : List xI := [(.iload_n 0, 0, 1, 0, 0, 0, []),
  (.iload_n 1, 1, 1, 0, 0, 0, []),
  (.ishr, 2, 1, 0, 0, 0, []),
  (.iconst 1, 3, 1, 0, 0, 0, []),
  (.iand, 4, 1, 0, 0, 0, []),
  (.iconst 1, 5, 1, 0, 0, 0, []),
  (.if_icmp .ne 7, 6, 3, 9, 0, 0, []),
  (.iconst 1, 9, 1, 0, 0, 0, []),
  (.goto 4, 10, 3, 10, 0, 0, []),
  (.iconst 0, 13, 1, 0, 0, 0, []),
  (.ireturn, 14, 1, 0, 0, 0, [])]
def tX11_lowestTerms : List xI := [(.lload_n 0, 0, 1, 0, 0, 0, []),
  (.lload_n 2, 1, 1, 0, 0, 0, []),
  (.invokestatic 329, 2, 3, 110, 2, 0, [2]),
  (.lstore 5, 5, 2, 0, 0, 0, []),
  (.lload 5, 7, 2, 0, 0, 0, []),
  (.lconst 0, 9, 1, 0, 0, 0, []),
  (.lcmp, 10, 1, 0, 0, 0, []),
  (.ifCond .ne 5, 11, 3, 10, 0, 0, []),
  (.lconst 0, 14, 1, 0, 0, 0, []),
  (.lreturn, 15, 1, 0, 0, 0, []),
  (.iload 4, 16, 2, 0, 0, 0, []),
  (.ifCond .ne 7, 18, 3, 14, 0, 0, []),
  (.lload_n 0, 21, 1, 0, 0, 0, []),
  (.goto 4, 22, 3, 15, 0, 0, []),
  (.lload_n 2, 25, 1, 0, 0, 0, []),
  (.lload 5, 26, 2, 0, 0, 0, []),
  (.ldiv, 28, 1, 0, 0, 0, []),
  (.lreturn, 29, 1, 0, 0, 0, [])]
def tX11_commonDivisor : List xI := [(.lload_n 0, 0, 1, 0, 0, 0, []),
  (.lstore 4, 1, 2, 0, 0, 0, []),
  (.lload_n 2, 3, 1, 0, 0, 0, []),
  (.lstore 6, 4, 2, 0, 0, 0, []),
  (.iconst 0, 6, 1, 0, 0, 0, []),
  (.istore 8, 7, 2, 0, 0, 0, []),
  (.iload 8, 9, 2, 0, 0, 0, []),
  (.ldc_w 333, 11, 3, 0, 0, 1000000, []),
  (.if_icmp .ge 31, 14, 3, 23, 0, 0, []),
  (.lload 6, 17, 2, 0, 0, 0, []),
  (.lconst 0, 19, 1, 0, 0, 0, []),
  (.lcmp, 20, 1, 0, 0, 0, []),
  (.ifCond .eq 24, 21, 3, 23, 0, 0, []),
  (.lload 4, 24, 2, 0, 0, 0, []),
  (.lload 6, 26, 2, 0, 0, 0, []),
  (.lrem, 28, 1, 0, 0, 0, []),
  (.lstore 9, 29, 2, 0, 0, 0, []),
  (.lload 6, 31, 2, 0, 0, 0, []),
  (.lstore 4, 33, 2, 0, 0, 0, []),
  (.lload 9, 35, 2, 0, 0, 0, []),
  (.lstore 6, 37, 2, 0, 0, 0, []),
  (.iinc 8 1, 39, 3, 0, 0, 0, []),
  (.goto (-33), 42, 3, 6, 0, 0, []),
  (.lload 4, 45, 2, 0, 0, 0, []),
  (.lreturn, 47, 1, 0, 0, 0, [])]
def tX12_init : List xI := [(.aload_n 0, 0, 1, 0, 0, 0, []),
  (.invokespecial 1, 1, 3, 1000, 0, 0, []),
  (.aload_n 0, 4, 1, 0, 0, 0, []),
  (.bipush 10, 5, 2, 0, 0, 0, []),
  (.newarray .int, 7, 2, 0, 0, 0, []),
  (.putfield 7, 9, 3, 12, 3, 0, []),
  (.aload_n 0, 12, 1, 0, 0, 0, []),
  (.bipush 40, 13, 2, 0, 0, 0, []),
  (.newarray .int, 15, 2, 0, 0, 0, []),
  (.putfield 13, 17, 3, 12, 4, 0, []),
  (.aload_n 0, 20, 1, 0, 0, 0, []),
  (.bipush 40, 21, 2, 0, 0, 0, []),
  (.newarray .int, 23, 2, 0, 0, 0, []),
  (.putfield 16, 25, 3, 12, 5, 0, []),
  (.aload_n 0, 28, 1, 0, 0, 0, []),
  (.bipush 40, 29, 2, 0, 0, 0, []),
  (.newarray .int, 31, 2, 0, 0, 0, []),
  (.putfield 19, 33, 3, 12, 6, 0, []),
  (.aload_n 0, 36, 1, 0, 0, 0, []),
  (.sipush 160, 37, 3, 0, 0, 0, []),
  (.newarray .int, 40, 2, 0, 0, 0, []),
  (.putfield 22, 42, 3, 12, 7, 0, []),
  (.aload_n 0, 45, 1, 0, 0, 0, []),
  (.sipush 160, 46, 3, 0, 0, 0, []),
  (.newarray .int, 49, 2, 0, 0, 0, []),
  (.putfield 25, 51, 3, 12, 8, 0, []),
  (.aload_n 0, 54, 1, 0, 0, 0, []),
  (.bipush 36, 55, 2, 0, 0, 0, []),
  (.newarray .long, 57, 2, 0, 0, 0, []),
  (.putfield 28, 59, 3, 12, 9, 0, []),
  (.aload_n 0, 62, 1, 0, 0, 0, []),
  (.bipush 10, 63, 2, 0, 0, 0, []),
  (.newarray .int, 65, 2, 0, 0, 0, []),
  (.putfield 32, 67, 3, 12, 10, 0, []),
  (.aload_n 0, 70, 1, 0, 0, 0, []),
  (.bipush 10, 71, 2, 0, 0, 0, []),
  (.newarray .int, 73, 2, 0, 0, 0, []),
  (.putfield 35, 75, 3, 12, 11, 0, []),
  (.aload_n 0, 78, 1, 0, 0, 0, []),
  (.bipush 30, 79, 2, 0, 0, 0, []),
  (.newarray .long, 81, 2, 0, 0, 0, []),
  (.putfield 38, 83, 3, 12, 13, 0, []),
  (.aload_n 0, 86, 1, 0, 0, 0, []),
  (.bipush 6, 87, 2, 0, 0, 0, []),
  (.newarray .long, 89, 2, 0, 0, 0, []),
  (.putfield 41, 91, 3, 12, 14, 0, []),
  (.aload_n 0, 94, 1, 0, 0, 0, []),
  (.bipush 10, 95, 2, 0, 0, 0, []),
  (.newarray .long, 97, 2, 0, 0, 0, []),
  (.putfield 44, 99, 3, 12, 15, 0, []),
  (.aload_n 0, 102, 1, 0, 0, 0, []),
  (.bipush 10, 103, 2, 0, 0, 0, []),
  (.newarray .long, 105, 2, 0, 0, 0, []),
  (.putfield 47, 107, 3, 12, 16, 0, []),
  (.aload_n 0, 110, 1, 0, 0, 0, []),
  (.bipush 20, 111, 2, 0, 0, 0, []),
  (.newarray .long, 113, 2, 0, 0, 0, []),
  (.putfield 50, 115, 3, 12, 17, 0, []),
  (.aload_n 0, 118, 1, 0, 0, 0, []),
  (.bipush 20, 119, 2, 0, 0, 0, []),
  (.newarray .long, 121, 2, 0, 0, 0, []),
  (.putfield 53, 123, 3, 12, 18, 0, []),
  (.aload_n 0, 126, 1, 0, 0, 0, []),
  (.bipush 10, 127, 2, 0, 0, 0, []),
  (.newarray .long, 129, 2, 0, 0, 0, []),
  (.putfield 56, 131, 3, 12, 19, 0, []),
  (.aload_n 0, 134, 1, 0, 0, 0, []),
  (.bipush 10, 135, 2, 0, 0, 0, []),
  (.newarray .long, 137, 2, 0, 0, 0, []),
  (.putfield 59, 139, 3, 12, 20, 0, []),
  (.aload_n 0, 142, 1, 0, 0, 0, []),
  (.bipush 10, 143, 2, 0, 0, 0, []),
  (.newarray .int, 145, 2, 0, 0, 0, []),
  (.putfield 62, 147, 3, 12, 23, 0, []),
  (.aload_n 0, 150, 1, 0, 0, 0, []),
  (.bipush 10, 151, 2, 0, 0, 0, []),
  (.newarray .long, 153, 2, 0, 0, 0, []),
  (.putfield 65, 155, 3, 12, 24, 0, []),
  (.aload_n 0, 158, 1, 0, 0, 0, []),
  (.bipush 10, 159, 2, 0, 0, 0, []),
  (.newarray .long, 161, 2, 0, 0, 0, []),
  (.putfield 68, 163, 3, 12, 25, 0, []),
  (.aload_n 0, 166, 1, 0, 0, 0, []),
  (.bipush 10, 167, 2, 0, 0, 0, []),
  (.newarray .long, 169, 2, 0, 0, 0, []),
  (.putfield 71, 171, 3, 12, 27, 0, []),
  (.aload_n 0, 174, 1, 0, 0, 0, []),
  (.bipush 10, 175, 2, 0, 0, 0, []),
  (.newarray .long, 177, 2, 0, 0, 0, []),
  (.putfield 74, 179, 3, 12, 28, 0, []),
  (.aload_n 0, 182, 1, 0, 0, 0, []),
  (.bipush 10, 183, 2, 0, 0, 0, []),
  (.newarray .int, 185, 2, 0, 0, 0, []),
  (.putfield 77, 187, 3, 12, 29, 0, []),
  (.aload_n 0, 190, 1, 0, 0, 0, []),
  (.bipush 10, 191, 2, 0, 0, 0, []),
  (.newarray .int, 193, 2, 0, 0, 0, []),
  (.putfield 80, 195, 3, 12, 31, 0, []),
  (.aload_n 0, 198, 1, 0, 0, 0, []),
  (.bipush 10, 199, 2, 0, 0, 0, []),
  (.newarray .int, 201, 2, 0, 0, 0, []),
  (.putfield 83, 203, 3, 12, 32, 0, []),
  (.aload_n 0, 206, 1, 0, 0, 0, []),
  (.bipush 8, 207, 2, 0, 0, 0, []),
  (.newarray .int, 209, 2, 0, 0, 0, []),
  (.putfield 86, 211, 3, 12, 33, 0, []),
  (.aload_n 0, 214, 1, 0, 0, 0, []),
  (.bipush 8, 215, 2, 0, 0, 0, []),
  (.newarray .int, 217, 2, 0, 0, 0, []),
  (.putfield 89, 219, 3, 12, 34, 0, []),
  (.aload_n 0, 222, 1, 0, 0, 0, []),
  (.bipush 8, 223, 2, 0, 0, 0, []),
  (.newarray .long, 225, 2, 0, 0, 0, []),
  (.putfield 92, 227, 3, 12, 35, 0, []),
  (.aload_n 0, 230, 1, 0, 0, 0, []),
  (.sipush 480, 231, 3, 0, 0, 0, []),
  (.newarray .long, 234, 2, 0, 0, 0, []),
  (.putfield 95, 236, 3, 12, 36, 0, []),
  (.aload_n 0, 239, 1, 0, 0, 0, []),
  (.bipush 60, 240, 2, 0, 0, 0, []),
  (.newarray .long, 242, 2, 0, 0, 0, []),
  (.putfield 98, 244, 3, 12, 37, 0, []),
  (.return_, 247, 1, 0, 0, 0, [])]
def tX12_thrown : List xI := [(.aload_n 0, 0, 1, 0, 0, 0, []),
  (.getfield 101, 1, 3, 12, 0, 0, []),
  (.ireturn, 4, 1, 0, 0, 0, [])]
def tX12_isIn : List xI := [(.lload_n 0, 0, 1, 0, 0, 0, []),
  (.lload_n 2, 1, 1, 0, 0, 0, []),
  (.lcmp, 2, 1, 0, 0, 0, []),
  (.ifCond .lt 14, 3, 3, 10, 0, 0, []),
  (.lload_n 0, 6, 1, 0, 0, 0, []),
  (.lload 4, 7, 2, 0, 0, 0, []),
  (.lcmp, 9, 1, 0, 0, 0, []),
  (.ifCond .gt 7, 10, 3, 10, 0, 0, []),
  (.iconst 1, 13, 1, 0, 0, 0, []),
  (.goto 4, 14, 3, 11, 0, 0, []),
  (.iconst 0, 17, 1, 0, 0, 0, []),
  (.ireturn, 18, 1, 0, 0, 0, [])]
def tX12_isState : List xI := [(.iload_n 1, 0, 1, 0, 0, 0, []),
  (.ifCond .lt 15, 1, 3, 8, 0, 0, []),
  (.iload_n 1, 4, 1, 0, 0, 0, []),
  (.aload_n 0, 5, 1, 0, 0, 0, []),
  (.getfield 105, 6, 3, 12, 1, 0, []),
  (.if_icmp .ge 7, 9, 3, 8, 0, 0, []),
  (.iconst 1, 12, 1, 0, 0, 0, []),
  (.goto 4, 13, 3, 9, 0, 0, []),
  (.iconst 0, 16, 1, 0, 0, 0, []),
  (.ireturn, 17, 1, 0, 0, 0, [])]
def tX12_isAct : List xI := [(.aload_n 0, 0, 1, 0, 0, 0, []),
  (.iload_n 1, 1, 1, 0, 0, 0, []),
  (.invokevirtual 108, 2, 3, 114, 2, 12, [1]),
  (.ifCond .eq 21, 5, 3, 14, 0, 0, []),
  (.iload_n 2, 8, 1, 0, 0, 0, []),
  (.ifCond .lt 17, 9, 3, 14, 0, 0, []),
  (.iload_n 2, 12, 1, 0, 0, 0, []),
  (.aload_n 0, 13, 1, 0, 0, 0, []),
  (.getfield 7, 14, 3, 12, 3, 0, []),
  (.iload_n 1, 17, 1, 0, 0, 0, []),
  (.iaload, 18, 1, 0, 0, 0, []),
  (.if_icmp .ge 7, 19, 3, 14, 0, 0, []),
  (.iconst 1, 22, 1, 0, 0, 0, []),
  (.goto 4, 23, 3, 15, 0, 0, []),
  (.iconst 0, 26, 1, 0, 0, 0, []),
  (.ireturn, 27, 1, 0, 0, 0, [])]
def tX12_isMarked : List xI := [(.aload_n 0, 0, 1, 0, 0, 0, []),
  (.getfield 112, 1, 3, 12, 2, 0, []),
  (.iload_n 1, 4, 1, 0, 0, 0, []),
  (.ishr, 5, 1, 0, 0, 0, []),
  (.iconst 1, 6, 1, 0, 0, 0, []),
  (.iand, 7, 1, 0, 0, 0, []),
  (.iconst 1, 8, 1, 0, 0, 0, []),
  (.if_icmp .ne 7, 9, 3, 10, 0, 0, []),
  (.iconst 1, 12, 1, 0, 0, 0, []),
  (.goto 4, 13, 3, 11, 0, 0, []),
  (.iconst 0, 16, 1, 0, 0, 0, []),
  (.ireturn, 17, 1, 0, 0, 0, [])]
def tX12_isFoe : List xI := [(.aload_n 0, 0, 1, 0, 0, 0, []),
  (.getfield 7, 1, 3, 12, 3, 0, []),
  (.iload_n 1, 4, 1, 0, 0, 0, []),
  (.iaload, 5, 1, 0, 0, 0, []),
  (.ifCond .le 19, 6, 3, 15, 0, 0, []),
  (.aload_n 0, 9, 1, 0, 0, 0, []),
  (.getfield 13, 10, 3, 12, 4, 0, []),
  (.iconst 4, 13, 1, 0, 0, 0, []),
  (.iload_n 1, 14, 1, 0, 0, 0, []),
  (.imul, 15, 1, 0, 0, 0, []),
  (.iaload, 16, 1, 0, 0, 0, []),
  (.iconst 2, 17, 1, 0, 0, 0, []),
  (.if_icmp .ne 7, 18, 3, 15, 0, 0, []),
  (.iconst 1, 21, 1, 0, 0, 0, []),
  (.goto 4, 22, 3, 16, 0, 0, []),
  (.iconst 0, 25, 1, 0, 0, 0, []),
  (.ireturn, 26, 1, 0, 0, 0, [])]
def tX12_state : List xI := [(.aload_n 0, 0, 1, 0, 0, 0, []),
  (.iconst 0, 1, 1, 0, 0, 0, []),
  (.putfield 101, 2, 3, 12, 0, 0, []),
  (.aload_n 0, 5, 1, 0, 0, 0, []),
  (.getfield 105, 6, 3, 12, 1, 0, []),
  (.bipush 10, 9, 2, 0, 0, 0, []),
  (.if_icmp .ne 6, 11, 3, 9, 0, 0, []),
  (.bipush (-2), 14, 2, 0, 0, 0, []),
  (.ireturn, 16, 1, 0, 0, 0, []),
  (.aload_n 0, 17, 1, 0, 0, 0, []),
  (.getfield 7, 18, 3, 12, 3, 0, []),
  (.aload_n 0, 21, 1, 0, 0, 0, []),
  (.getfield 105, 22, 3, 12, 1, 0, []),
  (.iconst 0, 25, 1, 0, 0, 0, []),
  (.iastore, 26, 1, 0, 0, 0, []),
  (.aload_n 0, 27, 1, 0, 0, 0, []),
  (.dup, 28, 1, 0, 0, 0, []),
  (.getfield 105, 29, 3, 12, 1, 0, []),
  (.iconst 1, 32, 1, 0, 0, 0, []),
  (.iadd, 33, 1, 0, 0, 0, []),
  (.putfield 105, 34, 3, 12, 1, 0, []),
  (.aload_n 0, 37, 1, 0, 0, 0, []),
  (.getfield 105, 38, 3, 12, 1, 0, []),
  (.iconst 1, 41, 1, 0, 0, 0, []),
  (.isub, 42, 1, 0, 0, 0, []),
  (.ireturn, 43, 1, 0, 0, 0, [])]
def tX12_act : List xI := [(.aload_n 0, 0, 1, 0, 0, 0, []),
  (.iconst 0, 1, 1, 0, 0, 0, []),
  (.putfield 101, 2, 3, 12, 0, 0, []),
  (.aload_n 0, 5, 1, 0, 0, 0, []),
  (.iload_n 1, 6, 1, 0, 0, 0, []),
  (.invokevirtual 108, 7, 3, 114, 2, 12, [1]),
  (.ifCond .eq 27, 10, 3, 19, 0, 0, []),
  (.iload_n 2, 13, 1, 0, 0, 0, []),
  (.i2l, 14, 1, 0, 0, 0, []),
  (.lconst 0, 15, 1, 0, 0, 0, []),
  (.ldc2_w 115, 16, 3, 0, 0, 3, []),
  (.invokestatic 117, 19, 3, 113, 3, 0, [1]),
  (.ifCond .eq 15, 22, 3, 19, 0, 0, []),
  (.iload_n 3, 25, 1, 0, 0, 0, []),
  (.i2l, 26, 1, 0, 0, 0, []),
  (.lconst 0, 27, 1, 0, 0, 0, []),
  (.ldc2_w 121, 28, 3, 0, 0, 1000, []),
  (.invokestatic 117, 31, 3, 113, 3, 0, [1]),
  (.ifCond .ne 5, 34, 3, 21, 0, 0, []),
  (.iconst (-1), 37, 1, 0, 0, 0, []),
  (.ireturn, 38, 1, 0, 0, 0, []),
  (.aload_n 0, 39, 1, 0, 0, 0, []),
  (.getfield 7, 40, 3, 12, 3, 0, []),
  (.iload_n 1, 43, 1, 0, 0, 0, []),
  (.iaload, 44, 1, 0, 0, 0, []),
  (.iconst 4, 45, 1, 0, 0, 0, []),
  (.if_icmp .ne 6, 46, 3, 29, 0, 0, []),
  (.bipush (-2), 49, 2, 0, 0, 0, []),
  (.ireturn, 51, 1, 0, 0, 0, []),
  (.aload_n 0, 52, 1, 0, 0, 0, []),
  (.getfield 7, 53, 3, 12, 3, 0, []),
  (.iload_n 1, 56, 1, 0, 0, 0, []),
  (.iaload, 57, 1, 0, 0, 0, []),
  (.ifCond .le 24, 58, 3, 46, 0, 0, []),
  (.aload_n 0, 61, 1, 0, 0, 0, []),
  (.iload_n 1, 62, 1, 0, 0, 0, []),
  (.invokevirtual 123, 63, 3, 117, 2, 12, [1]),
  (.iload_n 2, 66, 1, 0, 0, 0, []),
  (.iconst 2, 67, 1, 0, 0, 0, []),
  (.if_icmp .ne 7, 68, 3, 42, 0, 0, []),
  (.iconst 1, 71, 1, 0, 0, 0, []),
  (.goto 4, 72, 3, 43, 0, 0, []),
  (.iconst 0, 75, 1, 0, 0, 0, []),
  (.if_icmp .eq 6, 76, 3, 46, 0, 0, []),
  (.bipush (-3), 79, 2, 0, 0, 0, []),
  (.ireturn, 81, 1, 0, 0, 0, []),
  (.iconst 4, 82, 1, 0, 0, 0, []),
  (.iload_n 1, 83, 1, 0, 0, 0, []),
  (.imul, 84, 1, 0, 0, 0, []),
  (.aload_n 0, 85, 1, 0, 0, 0, []),
  (.getfield 7, 86, 3, 12, 3, 0, []),
  (.iload_n 1, 89, 1, 0, 0, 0, []),
  (.iaload, 90, 1, 0, 0, 0, []),
  (.iadd, 91, 1, 0, 0, 0, []),
  (.istore 4, 92, 2, 0, 0, 0, []),
  (.aload_n 0, 94, 1, 0, 0, 0, []),
  (.getfield 13, 95, 3, 12, 4, 0, []),
  (.iload 4, 98, 2, 0, 0, 0, []),
  (.iload_n 2, 100, 1, 0, 0, 0, []),
  (.iastore, 101, 1, 0, 0, 0, []),
  (.aload_n 0, 102, 1, 0, 0, 0, []),
  (.getfield 16, 103, 3, 12, 5, 0, []),
  (.iload 4, 106, 2, 0, 0, 0, []),
  (.iload_n 3, 108, 1, 0, 0, 0, []),
  (.iastore, 109, 1, 0, 0, 0, []),
  (.aload_n 0, 110, 1, 0, 0, 0, []),
  (.getfield 19, 111, 3, 12, 6, 0, []),
  (.iload 4, 114, 2, 0, 0, 0, []),
  (.iconst 0, 116, 1, 0, 0, 0, []),
  (.iastore, 117, 1, 0, 0, 0, []),
  (.aload_n 0, 118, 1, 0, 0, 0, []),
  (.getfield 7, 119, 3, 12, 3, 0, []),
  (.iload_n 1, 122, 1, 0, 0, 0, []),
  (.dup2, 123, 1, 0, 0, 0, []),
  (.iaload, 124, 1, 0, 0, 0, []),
  (.iconst 1, 125, 1, 0, 0, 0, []),
  (.iadd, 126, 1, 0, 0, 0, []),
  (.iastore, 127, 1, 0, 0, 0, []),
  (.aload_n 0, 128, 1, 0, 0, 0, []),
  (.getfield 7, 129, 3, 12, 3, 0, []),
  (.iload_n 1, 132, 1, 0, 0, 0, []),
  (.iaload, 133, 1, 0, 0, 0, []),
  (.iconst 1, 134, 1, 0, 0, 0, []),
  (.isub, 135, 1, 0, 0, 0, []),
  (.ireturn, 136, 1, 0, 0, 0, [])]
def tX12_partsOf : List xI := [(.iconst 0, 0, 1, 0, 0, 0, []),
  (.istore_n 2, 1, 1, 0, 0, 0, []),
  (.iconst 0, 2, 1, 0, 0, 0, []),
  (.istore_n 3, 3, 1, 0, 0, 0, []),
  (.iload_n 3, 4, 1, 0, 0, 0, []),
  (.aload_n 0, 5, 1, 0, 0, 0, []),
  (.getfield 19, 6, 3, 12, 6, 0, []),
  (.iload_n 1, 9, 1, 0, 0, 0, []),
  (.iaload, 10, 1, 0, 0, 0, []),
  (.if_icmp .ge 22, 11, 3, 23, 0, 0, []),
  (.iload_n 2, 14, 1, 0, 0, 0, []),
  (.aload_n 0, 15, 1, 0, 0, 0, []),
  (.getfield 25, 16, 3, 12, 8, 0, []),
  (.iconst 4, 19, 1, 0, 0, 0, []),
  (.iload_n 1, 20, 1, 0, 0, 0, []),
  (.imul, 21, 1, 0, 0, 0, []),
  (.iload_n 3, 22, 1, 0, 0, 0, []),
  (.iadd, 23, 1, 0, 0, 0, []),
  (.iaload, 24, 1, 0, 0, 0, []),
  (.iadd, 25, 1, 0, 0, 0, []),
  (.istore_n 2, 26, 1, 0, 0, 0, []),
  (.iinc 3 1, 27, 3, 0, 0, 0, []),
  (.goto (-26), 30, 3, 4, 0, 0, []),
  (.iload_n 2, 33, 1, 0, 0, 0, []),
  (.ireturn, 34, 1, 0, 0, 0, [])]
def tX12_outcome : List xI := [(.aload_n 0, 0, 1, 0, 0, 0, []),
  (.iconst 0, 1, 1, 0, 0, 0, []),
  (.putfield 101, 2, 3, 12, 0, 0, []),
  (.aload_n 0, 5, 1, 0, 0, 0, []),
  (.iload_n 1, 6, 1, 0, 0, 0, []),
  (.iload_n 2, 7, 1, 0, 0, 0, []),
  (.invokevirtual 126, 8, 3, 115, 3, 12, [1]),
  (.ifCond .eq 24, 11, 3, 18, 0, 0, []),
  (.aload_n 0, 14, 1, 0, 0, 0, []),
  (.iload_n 3, 15, 1, 0, 0, 0, []),
  (.invokevirtual 108, 16, 3, 114, 2, 12, [1]),
  (.ifCond .eq 16, 19, 3, 18, 0, 0, []),
  (.iload 4, 22, 2, 0, 0, 0, []),
  (.i2l, 24, 1, 0, 0, 0, []),
  (.lconst 1, 25, 1, 0, 0, 0, []),
  (.ldc2_w 130, 26, 3, 0, 0, 12, []),
  (.invokestatic 117, 29, 3, 113, 3, 0, [1]),
  (.ifCond .ne 5, 32, 3, 20, 0, 0, []),
  (.iconst (-1), 35, 1, 0, 0, 0, []),
  (.ireturn, 36, 1, 0, 0, 0, []),
  (.iconst 4, 37, 1, 0, 0, 0, []),
  (.iload_n 1, 38, 1, 0, 0, 0, []),
  (.imul, 39, 1, 0, 0, 0, []),
  (.iload_n 2, 40, 1, 0, 0, 0, []),
  (.iadd, 41, 1, 0, 0, 0, []),
  (.istore 5, 42, 2, 0, 0, 0, []),
  (.aload_n 0, 44, 1, 0, 0, 0, []),
  (.getfield 13, 45, 3, 12, 4, 0, []),
  (.iload 5, 48, 2, 0, 0, 0, []),
  (.iaload, 50, 1, 0, 0, 0, []),
  (.iconst 3, 51, 1, 0, 0, 0, []),
  (.if_icmp .ne 10, 52, 3, 37, 0, 0, []),
  (.iload_n 3, 55, 1, 0, 0, 0, []),
  (.iload_n 1, 56, 1, 0, 0, 0, []),
  (.if_icmp .eq 5, 57, 3, 37, 0, 0, []),
  (.iconst (-1), 60, 1, 0, 0, 0, []),
  (.ireturn, 61, 1, 0, 0, 0, []),
  (.aload_n 0, 62, 1, 0, 0, 0, []),
  (.getfield 19, 63, 3, 12, 6, 0, []),
  (.iload 5, 66, 2, 0, 0, 0, []),
  (.iaload, 68, 1, 0, 0, 0, []),
  (.aload_n 0, 69, 1, 0, 0, 0, []),
  (.getfield 13, 70, 3, 12, 4, 0, []),
  (.iload 5, 73, 2, 0, 0, 0, []),
  (.iaload, 75, 1, 0, 0, 0, []),
  (.iconst 2, 76, 1, 0, 0, 0, []),
  (.irem, 77, 1, 0, 0, 0, []),
  (.iconst 1, 78, 1, 0, 0, 0, []),
  (.if_icmp .ne 7, 79, 3, 51, 0, 0, []),
  (.iconst 1, 82, 1, 0, 0, 0, []),
  (.goto 4, 83, 3, 52, 0, 0, []),
  (.iconst 4, 86, 1, 0, 0, 0, []),
  (.if_icmp .ne 6, 87, 3, 55, 0, 0, []),
  (.bipush (-2), 90, 2, 0, 0, 0, []),
  (.ireturn, 92, 1, 0, 0, 0, []),
  (.iconst 0, 93, 1, 0, 0, 0, []),
  (.istore 6, 94, 2, 0, 0, 0, []),
  (.iconst 0, 96, 1, 0, 0, 0, []),
  (.istore 7, 97, 2, 0, 0, 0, []),
  (.iload 7, 99, 2, 0, 0, 0, []),
  (.aload_n 0, 101, 1, 0, 0, 0, []),
  (.getfield 19, 102, 3, 12, 6, 0, []),
  (.iload 5, 105, 2, 0, 0, 0, []),
  (.iaload, 107, 1, 0, 0, 0, []),
  (.if_icmp .ge 37, 108, 3, 83, 0, 0, []),
  (.iload 6, 111, 2, 0, 0, 0, []),
  (.ifCond .ne 19, 113, 3, 77, 0, 0, []),
  (.aload_n 0, 116, 1, 0, 0, 0, []),
  (.getfield 22, 117, 3, 12, 7, 0, []),
  (.iconst 4, 120, 1, 0, 0, 0, []),
  (.iload 5, 121, 2, 0, 0, 0, []),
  (.imul, 123, 1, 0, 0, 0, []),
  (.iload 7, 124, 2, 0, 0, 0, []),
  (.iadd, 126, 1, 0, 0, 0, []),
  (.iaload, 127, 1, 0, 0, 0, []),
  (.iload_n 3, 128, 1, 0, 0, 0, []),
  (.if_icmp .ne 7, 129, 3, 79, 0, 0, []),
  (.iconst 1, 132, 1, 0, 0, 0, []),
  (.goto 4, 133, 3, 80, 0, 0, []),
  (.iconst 0, 136, 1, 0, 0, 0, []),
  (.istore 6, 137, 2, 0, 0, 0, []),
  (.iinc 7 1, 139, 3, 0, 0, 0, []),
  (.goto (-43), 142, 3, 59, 0, 0, []),
  (.iload 6, 145, 2, 0, 0, 0, []),
  (.ifCond .ne 17, 147, 3, 92, 0, 0, []),
  (.aload_n 0, 150, 1, 0, 0, 0, []),
  (.iload 5, 151, 2, 0, 0, 0, []),
  (.invokevirtual 132, 153, 3, 120, 2, 12, [1]),
  (.iload 4, 156, 2, 0, 0, 0, []),
  (.iadd, 158, 1, 0, 0, 0, []),
  (.bipush 12, 159, 2, 0, 0, 0, []),
  (.if_icmp .le 6, 161, 3, 94, 0, 0, []),
  (.bipush (-3), 164, 2, 0, 0, 0, []),
  (.ireturn, 166, 1, 0, 0, 0, []),
  (.aload_n 0, 167, 1, 0, 0, 0, []),
  (.getfield 22, 168, 3, 12, 7, 0, []),
  (.iconst 4, 171, 1, 0, 0, 0, []),
  (.iload 5, 172, 2, 0, 0, 0, []),
  (.imul, 174, 1, 0, 0, 0, []),
  (.aload_n 0, 175, 1, 0, 0, 0, []),
  (.getfield 19, 176, 3, 12, 6, 0, []),
  (.iload 5, 179, 2, 0, 0, 0, []),
  (.iaload, 181, 1, 0, 0, 0, []),
  (.iadd, 182, 1, 0, 0, 0, []),
  (.iload_n 3, 183, 1, 0, 0, 0, []),
  (.iastore, 184, 1, 0, 0, 0, []),
  (.aload_n 0, 185, 1, 0, 0, 0, []),
  (.getfield 25, 186, 3, 12, 8, 0, []),
  (.iconst 4, 189, 1, 0, 0, 0, []),
  (.iload 5, 190, 2, 0, 0, 0, []),
  (.imul, 192, 1, 0, 0, 0, []),
  (.aload_n 0, 193, 1, 0, 0, 0, []),
  (.getfield 19, 194, 3, 12, 6, 0, []),
  (.iload 5, 197, 2, 0, 0, 0, []),
  (.iaload, 199, 1, 0, 0, 0, []),
  (.iadd, 200, 1, 0, 0, 0, []),
  (.iload 4, 201, 2, 0, 0, 0, []),
  (.iastore, 203, 1, 0, 0, 0, []),
  (.aload_n 0, 204, 1, 0, 0, 0, []),
  (.getfield 19, 205, 3, 12, 6, 0, []),
  (.iload 5, 208, 2, 0, 0, 0, []),
  (.dup2, 210, 1, 0, 0, 0, []),
  (.iaload, 211, 1, 0, 0, 0, []),
  (.iconst 1, 212, 1, 0, 0, 0, []),
  (.iadd, 213, 1, 0, 0, 0, []),
  (.iastore, 214, 1, 0, 0, 0, []),
  (.aload_n 0, 215, 1, 0, 0, 0, []),
  (.iload 5, 216, 2, 0, 0, 0, []),
  (.invokevirtual 132, 218, 3, 120, 2, 12, [1]),
  (.ireturn, 221, 1, 0, 0, 0, [])]
def tX12_drop : List xI := [(.aload_n 0, 0, 1, 0, 0, 0, []),
  (.iconst 0, 1, 1, 0, 0, 0, []),
  (.putfield 101, 2, 3, 12, 0, 0, []),
  (.aload_n 0, 5, 1, 0, 0, 0, []),
  (.iload_n 1, 6, 1, 0, 0, 0, []),
  (.invokevirtual 108, 7, 3, 114, 2, 12, [1]),
  (.ifCond .ne 5, 10, 3, 9, 0, 0, []),
  (.iconst (-1), 13, 1, 0, 0, 0, []),
  (.ireturn, 14, 1, 0, 0, 0, []),
  (.aload_n 0, 15, 1, 0, 0, 0, []),
  (.getfield 7, 16, 3, 12, 3, 0, []),
  (.iload_n 1, 19, 1, 0, 0, 0, []),
  (.iaload, 20, 1, 0, 0, 0, []),
  (.ifCond .ne 6, 21, 3, 16, 0, 0, []),
  (.bipush (-2), 24, 2, 0, 0, 0, []),
  (.ireturn, 26, 1, 0, 0, 0, []),
  (.aload_n 0, 27, 1, 0, 0, 0, []),
  (.getfield 7, 28, 3, 12, 3, 0, []),
  (.iload_n 1, 31, 1, 0, 0, 0, []),
  (.dup2, 32, 1, 0, 0, 0, []),
  (.iaload, 33, 1, 0, 0, 0, []),
  (.iconst 1, 34, 1, 0, 0, 0, []),
  (.isub, 35, 1, 0, 0, 0, []),
  (.iastore, 36, 1, 0, 0, 0, []),
  (.aload_n 0, 37, 1, 0, 0, 0, []),
  (.getfield 7, 38, 3, 12, 3, 0, []),
  (.iload_n 1, 41, 1, 0, 0, 0, []),
  (.iaload, 42, 1, 0, 0, 0, []),
  (.ireturn, 43, 1, 0, 0, 0, [])]
def tX12_mark : List xI := [(.aload_n 0, 0, 1, 0, 0, 0, []),
  (.iconst 0, 1, 1, 0, 0, 0, []),
  (.putfield 101, 2, 3, 12, 0, 0, []),
  (.iload_n 1, 5, 1, 0, 0, 0, []),
  (.ifCond .lt 13, 6, 3, 11, 0, 0, []),
  (.iload_n 1, 9, 1, 0, 0, 0, []),
  (.iconst 1, 10, 1, 0, 0, 0, []),
  (.aload_n 0, 11, 1, 0, 0, 0, []),
  (.getfield 105, 12, 3, 12, 1, 0, []),
  (.ishl, 15, 1, 0, 0, 0, []),
  (.if_icmp .lt 5, 16, 3, 13, 0, 0, []),
  (.iconst (-1), 19, 1, 0, 0, 0, []),
  (.ireturn, 20, 1, 0, 0, 0, []),
  (.aload_n 0, 21, 1, 0, 0, 0, []),
  (.iload_n 1, 22, 1, 0, 0, 0, []),
  (.putfield 112, 23, 3, 12, 2, 0, []),
  (.iconst 0, 26, 1, 0, 0, 0, []),
  (.istore_n 2, 27, 1, 0, 0, 0, []),
  (.iconst 0, 28, 1, 0, 0, 0, []),
  (.istore_n 3, 29, 1, 0, 0, 0, []),
  (.iload_n 3, 30, 1, 0, 0, 0, []),
  (.aload_n 0, 31, 1, 0, 0, 0, []),
  (.getfield 105, 32, 3, 12, 1, 0, []),
  (.if_icmp .ge 17, 35, 3, 34, 0, 0, []),
  (.iload_n 2, 38, 1, 0, 0, 0, []),
  (.iload_n 1, 39, 1, 0, 0, 0, []),
  (.iload_n 3, 40, 1, 0, 0, 0, []),
  (.ishr, 41, 1, 0, 0, 0, []),
  (.iconst 1, 42, 1, 0, 0, 0, []),
  (.iand, 43, 1, 0, 0, 0, []),
  (.iadd, 44, 1, 0, 0, 0, []),
  (.istore_n 2, 45, 1, 0, 0, 0, []),
  (.iinc 3 1, 46, 3, 0, 0, 0, []),
  (.goto (-19), 49, 3, 20, 0, 0, []),
  (.iload_n 2, 52, 1, 0, 0, 0, []),
  (.ireturn, 53, 1, 0, 0, 0, [])]
def tX12_lacking : List xI := [(.iconst 0, 0, 1, 0, 0, 0, []),
  (.istore_n 1, 1, 1, 0, 0, 0, []),
  (.iconst 0, 2, 1, 0, 0, 0, []),
  (.istore_n 2, 3, 1, 0, 0, 0, []),
  (.iload_n 2, 4, 1, 0, 0, 0, []),
  (.aload_n 0, 5, 1, 0, 0, 0, []),
  (.getfield 105, 6, 3, 12, 1, 0, []),
  (.if_icmp .ge 42, 9, 3, 32, 0, 0, []),
  (.iconst 0, 12, 1, 0, 0, 0, []),
  (.istore_n 3, 13, 1, 0, 0, 0, []),
  (.iload_n 3, 14, 1, 0, 0, 0, []),
  (.aload_n 0, 15, 1, 0, 0, 0, []),
  (.getfield 7, 16, 3, 12, 3, 0, []),
  (.iload_n 2, 19, 1, 0, 0, 0, []),
  (.iaload, 20, 1, 0, 0, 0, []),
  (.if_icmp .ge 24, 21, 3, 30, 0, 0, []),
  (.iload_n 1, 24, 1, 0, 0, 0, []),
  (.bipush 12, 25, 2, 0, 0, 0, []),
  (.aload_n 0, 27, 1, 0, 0, 0, []),
  (.iconst 4, 28, 1, 0, 0, 0, []),
  (.iload_n 2, 29, 1, 0, 0, 0, []),
  (.imul, 30, 1, 0, 0, 0, []),
  (.iload_n 3, 31, 1, 0, 0, 0, []),
  (.iadd, 32, 1, 0, 0, 0, []),
  (.invokevirtual 132, 33, 3, 120, 2, 12, [1]),
  (.isub, 36, 1, 0, 0, 0, []),
  (.iadd, 37, 1, 0, 0, 0, []),
  (.istore_n 1, 38, 1, 0, 0, 0, []),
  (.iinc 3 1, 39, 3, 0, 0, 0, []),
  (.goto (-28), 42, 3, 10, 0, 0, []),
  (.iinc 2 1, 45, 3, 0, 0, 0, []),
  (.goto (-44), 48, 3, 4, 0, 0, []),
  (.iload_n 1, 51, 1, 0, 0, 0, []),
  (.ireturn, 52, 1, 0, 0, 0, [])]
def tX12_whole : List xI := [(.aload_n 0, 0, 1, 0, 0, 0, []),
  (.iconst 0, 1, 1, 0, 0, 0, []),
  (.putfield 101, 2, 3, 12, 0, 0, []),
  (.aload_n 0, 5, 1, 0, 0, 0, []),
  (.invokevirtual 136, 6, 3, 124, 1, 12, [1]),
  (.ireturn, 9, 1, 0, 0, 0, [])]
def tX12_allIn : List xI := [(.iconst 1, 0, 1, 0, 0, 0, []),
  (.istore_n 3, 1, 1, 0, 0, 0, []),
  (.iconst 0, 2, 1, 0, 0, 0, []),
  (.istore 4, 3, 2, 0, 0, 0, []),
  (.iload 4, 5, 2, 0, 0, 0, []),
  (.aload_n 0, 7, 1, 0, 0, 0, []),
  (.getfield 19, 8, 3, 12, 6, 0, []),
  (.iload_n 1, 11, 1, 0, 0, 0, []),
  (.iaload, 12, 1, 0, 0, 0, []),
  (.if_icmp .ge 38, 13, 3, 32, 0, 0, []),
  (.iload_n 3, 16, 1, 0, 0, 0, []),
  (.ifCond .eq 26, 17, 3, 28, 0, 0, []),
  (.iload_n 2, 20, 1, 0, 0, 0, []),
  (.aload_n 0, 21, 1, 0, 0, 0, []),
  (.getfield 22, 22, 3, 12, 7, 0, []),
  (.iconst 4, 25, 1, 0, 0, 0, []),
  (.iload_n 1, 26, 1, 0, 0, 0, []),
  (.imul, 27, 1, 0, 0, 0, []),
  (.iload 4, 28, 2, 0, 0, 0, []),
  (.iadd, 30, 1, 0, 0, 0, []),
  (.iaload, 31, 1, 0, 0, 0, []),
  (.ishr, 32, 1, 0, 0, 0, []),
  (.iconst 1, 33, 1, 0, 0, 0, []),
  (.iand, 34, 1, 0, 0, 0, []),
  (.iconst 1, 35, 1, 0, 0, 0, []),
  (.if_icmp .ne 7, 36, 3, 28, 0, 0, []),
  (.iconst 1, 39, 1, 0, 0, 0, []),
  (.goto 4, 40, 3, 29, 0, 0, []),
  (.iconst 0, 43, 1, 0, 0, 0, []),
  (.istore_n 3, 44, 1, 0, 0, 0, []),
  (.iinc 4 1, 45, 3, 0, 0, 0, []),
  (.goto (-43), 48, 3, 4, 0, 0, []),
  (.iload_n 3, 51, 1, 0, 0, 0, []),
  (.ireturn, 52, 1, 0, 0, 0, [])]
def tX12_someIn : List xI := [(.iconst 0, 0, 1, 0, 0, 0, []),
  (.istore_n 3, 1, 1, 0, 0, 0, []),
  (.iconst 0, 2, 1, 0, 0, 0, []),
  (.istore 4, 3, 2, 0, 0, 0, []),
  (.iload 4, 5, 2, 0, 0, 0, []),
  (.aload_n 0, 7, 1, 0, 0, 0, []),
  (.getfield 19, 8, 3, 12, 6, 0, []),
  (.iload_n 1, 11, 1, 0, 0, 0, []),
  (.iaload, 12, 1, 0, 0, 0, []),
  (.if_icmp .ge 38, 13, 3, 32, 0, 0, []),
  (.iload_n 3, 16, 1, 0, 0, 0, []),
  (.ifCond .ne 22, 17, 3, 26, 0, 0, []),
  (.iload_n 2, 20, 1, 0, 0, 0, []),
  (.aload_n 0, 21, 1, 0, 0, 0, []),
  (.getfield 22, 22, 3, 12, 7, 0, []),
  (.iconst 4, 25, 1, 0, 0, 0, []),
  (.iload_n 1, 26, 1, 0, 0, 0, []),
  (.imul, 27, 1, 0, 0, 0, []),
  (.iload 4, 28, 2, 0, 0, 0, []),
  (.iadd, 30, 1, 0, 0, 0, []),
  (.iaload, 31, 1, 0, 0, 0, []),
  (.ishr, 32, 1, 0, 0, 0, []),
  (.iconst 1, 33, 1, 0, 0, 0, []),
  (.iand, 34, 1, 0, 0, 0, []),
  (.iconst 1, 35, 1, 0, 0, 0, []),
  (.if_icmp .ne 7, 36, 3, 28, 0, 0, []),
  (.iconst 1, 39, 1, 0, 0, 0, []),
  (.goto 4, 40, 3, 29, 0, 0, []),
  (.iconst 0, 43, 1, 0, 0, 0, []),
  (.istore_n 3, 44, 1, 0, 0, 0, []),
  (.iinc 4 1, 45, 3, 0, 0, 0, []),
  (.goto (-43), 48, 3, 4, 0, 0, []),
  (.iload_n 3, 51, 1, 0, 0, 0, []),
  (.ireturn, 52, 1, 0, 0, 0, [])]
def tX12_wants : List xI := [(.aload_n 0, 0, 1, 0, 0, 0, []),
  (.iload_n 1, 1, 1, 0, 0, 0, []),
  (.invokevirtual 123, 2, 3, 117, 2, 12, [1]),
  (.iload_n 2, 5, 1, 0, 0, 0, []),
  (.if_icmp .ne 7, 6, 3, 7, 0, 0, []),
  (.iconst 1, 9, 1, 0, 0, 0, []),
  (.goto 4, 10, 3, 8, 0, 0, []),
  (.iconst 0, 13, 1, 0, 0, 0, []),
  (.ireturn, 14, 1, 0, 0, 0, [])]
def tX12_leads : List xI := [(.iconst 0, 0, 1, 0, 0, 0, []),
  (.istore 5, 1, 2, 0, 0, 0, []),
  (.aload_n 0, 3, 1, 0, 0, 0, []),
  (.getfield 7, 4, 3, 12, 3, 0, []),
  (.iload_n 1, 7, 1, 0, 0, 0, []),
  (.iaload, 8, 1, 0, 0, 0, []),
  (.ifCond .le 7, 9, 3, 9, 0, 0, []),
  (.iconst 1, 12, 1, 0, 0, 0, []),
  (.goto 4, 13, 3, 10, 0, 0, []),
  (.iconst 0, 16, 1, 0, 0, 0, []),
  (.istore 6, 17, 2, 0, 0, 0, []),
  (.iconst 0, 19, 1, 0, 0, 0, []),
  (.istore 7, 20, 2, 0, 0, 0, []),
  (.iload 7, 22, 2, 0, 0, 0, []),
  (.aload_n 0, 24, 1, 0, 0, 0, []),
  (.getfield 7, 25, 3, 12, 3, 0, []),
  (.iload_n 1, 28, 1, 0, 0, 0, []),
  (.iaload, 29, 1, 0, 0, 0, []),
  (.if_icmp .ge 78, 30, 3, 59, 0, 0, []),
  (.aload_n 0, 33, 1, 0, 0, 0, []),
  (.iconst 4, 34, 1, 0, 0, 0, []),
  (.iload_n 1, 35, 1, 0, 0, 0, []),
  (.imul, 36, 1, 0, 0, 0, []),
  (.iload 7, 37, 2, 0, 0, 0, []),
  (.iadd, 39, 1, 0, 0, 0, []),
  (.iload_n 2, 40, 1, 0, 0, 0, []),
  (.invokevirtual 140, 41, 3, 126, 3, 12, [1]),
  (.ifCond .eq 21, 44, 3, 39, 0, 0, []),
  (.aload_n 0, 47, 1, 0, 0, 0, []),
  (.iconst 4, 48, 1, 0, 0, 0, []),
  (.iload_n 1, 49, 1, 0, 0, 0, []),
  (.imul, 50, 1, 0, 0, 0, []),
  (.iload 7, 51, 2, 0, 0, 0, []),
  (.iadd, 53, 1, 0, 0, 0, []),
  (.iload_n 3, 54, 1, 0, 0, 0, []),
  (.invokevirtual 143, 55, 3, 127, 3, 12, [1]),
  (.ifCond .eq 7, 58, 3, 39, 0, 0, []),
  (.iconst 1, 61, 1, 0, 0, 0, []),
  (.goto 4, 62, 3, 40, 0, 0, []),
  (.iconst 0, 65, 1, 0, 0, 0, []),
  (.istore 8, 66, 2, 0, 0, 0, []),
  (.iload 5, 68, 2, 0, 0, 0, []),
  (.ifCond .ne 8, 70, 3, 45, 0, 0, []),
  (.iload 8, 73, 2, 0, 0, 0, []),
  (.ifCond .eq 7, 75, 3, 47, 0, 0, []),
  (.iconst 1, 78, 1, 0, 0, 0, []),
  (.goto 4, 79, 3, 48, 0, 0, []),
  (.iconst 0, 82, 1, 0, 0, 0, []),
  (.istore 5, 83, 2, 0, 0, 0, []),
  (.iload 6, 85, 2, 0, 0, 0, []),
  (.ifCond .eq 12, 87, 3, 55, 0, 0, []),
  (.iload 8, 90, 2, 0, 0, 0, []),
  (.ifCond .eq 7, 92, 3, 55, 0, 0, []),
  (.iconst 1, 95, 1, 0, 0, 0, []),
  (.goto 4, 96, 3, 56, 0, 0, []),
  (.iconst 0, 99, 1, 0, 0, 0, []),
  (.istore 6, 100, 2, 0, 0, 0, []),
  (.iinc 7 1, 102, 3, 0, 0, 0, []),
  (.goto (-83), 105, 3, 13, 0, 0, []),
  (.aload_n 0, 108, 1, 0, 0, 0, []),
  (.iload_n 1, 109, 1, 0, 0, 0, []),
  (.iload 4, 110, 2, 0, 0, 0, []),
  (.invokevirtual 146, 112, 3, 128, 3, 12, [1]),
  (.ifCond .eq 8, 115, 3, 66, 0, 0, []),
  (.iload 5, 118, 2, 0, 0, 0, []),
  (.goto 5, 120, 3, 67, 0, 0, []),
  (.iload 6, 123, 2, 0, 0, 0, []),
  (.ireturn, 125, 1, 0, 0, 0, [])]
def tX12_comes : List xI := [(.aload_n 0, 0, 1, 0, 0, 0, []),
  (.getfield 112, 1, 3, 12, 2, 0, []),
  (.iload_n 1, 4, 1, 0, 0, 0, []),
  (.iand, 5, 1, 0, 0, 0, []),
  (.istore_n 3, 6, 1, 0, 0, 0, []),
  (.iconst 1, 7, 1, 0, 0, 0, []),
  (.istore 4, 8, 2, 0, 0, 0, []),
  (.iload 4, 10, 2, 0, 0, 0, []),
  (.ifCond .eq 69, 12, 3, 47, 0, 0, []),
  (.iload_n 3, 15, 1, 0, 0, 0, []),
  (.istore 5, 16, 2, 0, 0, 0, []),
  (.iconst 0, 18, 1, 0, 0, 0, []),
  (.istore 6, 19, 2, 0, 0, 0, []),
  (.iload 6, 21, 2, 0, 0, 0, []),
  (.aload_n 0, 23, 1, 0, 0, 0, []),
  (.getfield 105, 24, 3, 12, 1, 0, []),
  (.if_icmp .ge 38, 27, 3, 39, 0, 0, []),
  (.iload_n 1, 30, 1, 0, 0, 0, []),
  (.iload 6, 31, 2, 0, 0, 0, []),
  (.ishr, 33, 1, 0, 0, 0, []),
  (.iconst 1, 34, 1, 0, 0, 0, []),
  (.iand, 35, 1, 0, 0, 0, []),
  (.iconst 1, 36, 1, 0, 0, 0, []),
  (.if_icmp .ne 22, 37, 3, 37, 0, 0, []),
  (.aload_n 0, 40, 1, 0, 0, 0, []),
  (.iload 6, 41, 2, 0, 0, 0, []),
  (.iload_n 1, 43, 1, 0, 0, 0, []),
  (.iload_n 3, 44, 1, 0, 0, 0, []),
  (.iload_n 2, 45, 1, 0, 0, 0, []),
  (.invokevirtual 150, 46, 3, 129, 5, 12, [1]),
  (.ifCond .eq 10, 49, 3, 37, 0, 0, []),
  (.iload_n 3, 52, 1, 0, 0, 0, []),
  (.iconst 1, 53, 1, 0, 0, 0, []),
  (.iload 6, 54, 2, 0, 0, 0, []),
  (.ishl, 56, 1, 0, 0, 0, []),
  (.ior, 57, 1, 0, 0, 0, []),
  (.istore_n 3, 58, 1, 0, 0, 0, []),
  (.iinc 6 1, 59, 3, 0, 0, 0, []),
  (.goto (-41), 62, 3, 13, 0, 0, []),
  (.iload_n 3, 65, 1, 0, 0, 0, []),
  (.iload 5, 66, 2, 0, 0, 0, []),
  (.if_icmp .eq 7, 68, 3, 44, 0, 0, []),
  (.iconst 1, 71, 1, 0, 0, 0, []),
  (.goto 4, 72, 3, 45, 0, 0, []),
  (.iconst 0, 75, 1, 0, 0, 0, []),
  (.istore 4, 76, 2, 0, 0, 0, []),
  (.goto (-68), 78, 3, 7, 0, 0, []),
  (.iload_n 3, 81, 1, 0, 0, 0, []),
  (.ireturn, 82, 1, 0, 0, 0, [])]
def tX12_all : List xI := [(.iconst 1, 0, 1, 0, 0, 0, []),
  (.aload_n 0, 1, 1, 0, 0, 0, []),
  (.getfield 105, 2, 3, 12, 1, 0, []),
  (.ishl, 5, 1, 0, 0, 0, []),
  (.iconst 1, 6, 1, 0, 0, 0, []),
  (.isub, 7, 1, 0, 0, 0, []),
  (.ireturn, 8, 1, 0, 0, 0, [])]
def tX12_above : List xI := [(.aload_n 0, 0, 1, 0, 0, 0, []),
  (.aload_n 0, 1, 1, 0, 0, 0, []),
  (.invokevirtual 154, 2, 3, 131, 1, 12, [1]),
  (.iload_n 1, 5, 1, 0, 0, 0, []),
  (.invokevirtual 157, 6, 3, 130, 3, 12, [1]),
  (.ireturn, 9, 1, 0, 0, 0, [])]
def tX12_ones : List xI := [(.aload_n 0, 0, 1, 0, 0, 0, []),
  (.invokevirtual 154, 1, 3, 131, 1, 12, [1]),
  (.istore_n 2, 4, 1, 0, 0, 0, []),
  (.iconst 1, 5, 1, 0, 0, 0, []),
  (.istore_n 3, 6, 1, 0, 0, 0, []),
  (.iload_n 3, 7, 1, 0, 0, 0, []),
  (.ifCond .eq 34, 8, 3, 25, 0, 0, []),
  (.aload_n 0, 11, 1, 0, 0, 0, []),
  (.iload_n 2, 12, 1, 0, 0, 0, []),
  (.aload_n 0, 13, 1, 0, 0, 0, []),
  (.getfield 112, 14, 3, 12, 2, 0, []),
  (.ior, 17, 1, 0, 0, 0, []),
  (.iload_n 1, 18, 1, 0, 0, 0, []),
  (.invokevirtual 157, 19, 3, 130, 3, 12, [1]),
  (.istore 4, 22, 2, 0, 0, 0, []),
  (.iload 4, 24, 2, 0, 0, 0, []),
  (.iload_n 2, 26, 1, 0, 0, 0, []),
  (.if_icmp .eq 7, 27, 3, 20, 0, 0, []),
  (.iconst 1, 30, 1, 0, 0, 0, []),
  (.goto 4, 31, 3, 21, 0, 0, []),
  (.iconst 0, 34, 1, 0, 0, 0, []),
  (.istore_n 3, 35, 1, 0, 0, 0, []),
  (.iload 4, 36, 2, 0, 0, 0, []),
  (.istore_n 2, 38, 1, 0, 0, 0, []),
  (.goto (-32), 39, 3, 5, 0, 0, []),
  (.iload_n 2, 42, 1, 0, 0, 0, []),
  (.ireturn, 43, 1, 0, 0, 0, [])]
def tX12_gcd : List xI := [(.lload_n 1, 0, 1, 0, 0, 0, []),
  (.lconst 0, 1, 1, 0, 0, 0, []),
  (.lcmp, 2, 1, 0, 0, 0, []),
  (.ifCond .ge 8, 3, 3, 7, 0, 0, []),
  (.lload_n 1, 6, 1, 0, 0, 0, []),
  (.lneg, 7, 1, 0, 0, 0, []),
  (.goto 4, 8, 3, 8, 0, 0, []),
  (.lload_n 1, 11, 1, 0, 0, 0, []),
  (.lstore 5, 12, 2, 0, 0, 0, []),
  (.lload_n 3, 14, 1, 0, 0, 0, []),
  (.lstore 7, 15, 2, 0, 0, 0, []),
  (.lload 7, 17, 2, 0, 0, 0, []),
  (.lconst 0, 19, 1, 0, 0, 0, []),
  (.lcmp, 20, 1, 0, 0, 0, []),
  (.ifCond .eq 21, 21, 3, 24, 0, 0, []),
  (.lload 5, 24, 2, 0, 0, 0, []),
  (.lload 7, 26, 2, 0, 0, 0, []),
  (.lrem, 28, 1, 0, 0, 0, []),
  (.lstore 9, 29, 2, 0, 0, 0, []),
  (.lload 7, 31, 2, 0, 0, 0, []),
  (.lstore 5, 33, 2, 0, 0, 0, []),
  (.lload 9, 35, 2, 0, 0, 0, []),
  (.lstore 7, 37, 2, 0, 0, 0, []),
  (.goto (-22), 39, 3, 11, 0, 0, []),
  (.lload 5, 42, 2, 0, 0, 0, []),
  (.lreturn, 44, 1, 0, 0, 0, [])]
def tX12_determinant : List xI := [(.lconst 1, 0, 1, 0, 0, 0, []),
  (.lstore_n 2, 1, 1, 0, 0, 0, []),
  (.lconst 1, 2, 1, 0, 0, 0, []),
  (.lstore 4, 3, 2, 0, 0, 0, []),
  (.iconst 0, 5, 1, 0, 0, 0, []),
  (.istore 6, 6, 2, 0, 0, 0, []),
  (.iload 6, 8, 2, 0, 0, 0, []),
  (.iload_n 1, 10, 1, 0, 0, 0, []),
  (.if_icmp .ge 265, 11, 3, 158, 0, 0, []),
  (.iload 6, 14, 2, 0, 0, 0, []),
  (.istore 7, 16, 2, 0, 0, 0, []),
  (.iload 7, 18, 2, 0, 0, 0, []),
  (.iload_n 1, 20, 1, 0, 0, 0, []),
  (.if_icmp .ge 27, 21, 3, 27, 0, 0, []),
  (.aload_n 0, 24, 1, 0, 0, 0, []),
  (.getfield 28, 25, 3, 12, 9, 0, []),
  (.bipush 6, 28, 2, 0, 0, 0, []),
  (.iload 7, 30, 2, 0, 0, 0, []),
  (.imul, 32, 1, 0, 0, 0, []),
  (.iload 6, 33, 2, 0, 0, 0, []),
  (.iadd, 35, 1, 0, 0, 0, []),
  (.laload, 36, 1, 0, 0, 0, []),
  (.lconst 0, 37, 1, 0, 0, 0, []),
  (.lcmp, 38, 1, 0, 0, 0, []),
  (.ifCond .ne 9, 39, 3, 27, 0, 0, []),
  (.iinc 7 1, 42, 3, 0, 0, 0, []),
  (.goto (-27), 45, 3, 11, 0, 0, []),
  (.iload 7, 48, 2, 0, 0, 0, []),
  (.iload_n 1, 50, 1, 0, 0, 0, []),
  (.if_icmp .ne 5, 51, 3, 32, 0, 0, []),
  (.lconst 0, 54, 1, 0, 0, 0, []),
  (.lreturn, 55, 1, 0, 0, 0, []),
  (.iconst 0, 56, 1, 0, 0, 0, []),
  (.istore 8, 57, 2, 0, 0, 0, []),
  (.iload 8, 59, 2, 0, 0, 0, []),
  (.iload_n 1, 61, 1, 0, 0, 0, []),
  (.if_icmp .ge 72, 62, 3, 76, 0, 0, []),
  (.iload 7, 65, 2, 0, 0, 0, []),
  (.iload 6, 67, 2, 0, 0, 0, []),
  (.if_icmp .eq 65, 69, 3, 76, 0, 0, []),
  (.aload_n 0, 72, 1, 0, 0, 0, []),
  (.getfield 28, 73, 3, 12, 9, 0, []),
  (.bipush 6, 76, 2, 0, 0, 0, []),
  (.iload 7, 78, 2, 0, 0, 0, []),
  (.imul, 80, 1, 0, 0, 0, []),
  (.iload 8, 81, 2, 0, 0, 0, []),
  (.iadd, 83, 1, 0, 0, 0, []),
  (.laload, 84, 1, 0, 0, 0, []),
  (.lstore 9, 85, 2, 0, 0, 0, []),
  (.aload_n 0, 87, 1, 0, 0, 0, []),
  (.getfield 28, 88, 3, 12, 9, 0, []),
  (.bipush 6, 91, 2, 0, 0, 0, []),
  (.iload 7, 93, 2, 0, 0, 0, []),
  (.imul, 95, 1, 0, 0, 0, []),
  (.iload 8, 96, 2, 0, 0, 0, []),
  (.iadd, 98, 1, 0, 0, 0, []),
  (.aload_n 0, 99, 1, 0, 0, 0, []),
  (.getfield 28, 100, 3, 12, 9, 0, []),
  (.bipush 6, 103, 2, 0, 0, 0, []),
  (.iload 6, 105, 2, 0, 0, 0, []),
  (.imul, 107, 1, 0, 0, 0, []),
  (.iload 8, 108, 2, 0, 0, 0, []),
  (.iadd, 110, 1, 0, 0, 0, []),
  (.laload, 111, 1, 0, 0, 0, []),
  (.lastore, 112, 1, 0, 0, 0, []),
  (.aload_n 0, 113, 1, 0, 0, 0, []),
  (.getfield 28, 114, 3, 12, 9, 0, []),
  (.bipush 6, 117, 2, 0, 0, 0, []),
  (.iload 6, 119, 2, 0, 0, 0, []),
  (.imul, 121, 1, 0, 0, 0, []),
  (.iload 8, 122, 2, 0, 0, 0, []),
  (.iadd, 124, 1, 0, 0, 0, []),
  (.lload 9, 125, 2, 0, 0, 0, []),
  (.lastore, 127, 1, 0, 0, 0, []),
  (.iinc 8 1, 128, 3, 0, 0, 0, []),
  (.goto (-72), 131, 3, 34, 0, 0, []),
  (.iload 7, 134, 2, 0, 0, 0, []),
  (.iload 6, 136, 2, 0, 0, 0, []),
  (.if_icmp .ne 7, 138, 3, 81, 0, 0, []),
  (.lload_n 2, 141, 1, 0, 0, 0, []),
  (.goto 5, 142, 3, 83, 0, 0, []),
  (.lload_n 2, 145, 1, 0, 0, 0, []),
  (.lneg, 146, 1, 0, 0, 0, []),
  (.lstore_n 2, 147, 1, 0, 0, 0, []),
  (.iload 6, 148, 2, 0, 0, 0, []),
  (.iconst 1, 150, 1, 0, 0, 0, []),
  (.iadd, 151, 1, 0, 0, 0, []),
  (.istore 8, 152, 2, 0, 0, 0, []),
  (.iload 8, 154, 2, 0, 0, 0, []),
  (.iload_n 1, 156, 1, 0, 0, 0, []),
  (.if_icmp .ge 98, 157, 3, 147, 0, 0, []),
  (.iload 6, 160, 2, 0, 0, 0, []),
  (.iconst 1, 162, 1, 0, 0, 0, []),
  (.iadd, 163, 1, 0, 0, 0, []),
  (.istore 9, 164, 2, 0, 0, 0, []),
  (.iload 9, 166, 2, 0, 0, 0, []),
  (.iload_n 1, 168, 1, 0, 0, 0, []),
  (.if_icmp .ge 80, 169, 3, 145, 0, 0, []),
  (.aload_n 0, 172, 1, 0, 0, 0, []),
  (.getfield 28, 173, 3, 12, 9, 0, []),
  (.bipush 6, 176, 2, 0, 0, 0, []),
  (.iload 8, 178, 2, 0, 0, 0, []),
  (.imul, 180, 1, 0, 0, 0, []),
  (.iload 9, 181, 2, 0, 0, 0, []),
  (.iadd, 183, 1, 0, 0, 0, []),
  (.aload_n 0, 184, 1, 0, 0, 0, []),
  (.getfield 28, 185, 3, 12, 9, 0, []),
  (.bipush 6, 188, 2, 0, 0, 0, []),
  (.iload 8, 190, 2, 0, 0, 0, []),
  (.imul, 192, 1, 0, 0, 0, []),
  (.iload 9, 193, 2, 0, 0, 0, []),
  (.iadd, 195, 1, 0, 0, 0, []),
  (.laload, 196, 1, 0, 0, 0, []),
  (.aload_n 0, 197, 1, 0, 0, 0, []),
  (.getfield 28, 198, 3, 12, 9, 0, []),
  (.bipush 6, 201, 2, 0, 0, 0, []),
  (.iload 6, 203, 2, 0, 0, 0, []),
  (.imul, 205, 1, 0, 0, 0, []),
  (.iload 6, 206, 2, 0, 0, 0, []),
  (.iadd, 208, 1, 0, 0, 0, []),
  (.laload, 209, 1, 0, 0, 0, []),
  (.lmul, 210, 1, 0, 0, 0, []),
  (.aload_n 0, 211, 1, 0, 0, 0, []),
  (.getfield 28, 212, 3, 12, 9, 0, []),
  (.bipush 6, 215, 2, 0, 0, 0, []),
  (.iload 8, 217, 2, 0, 0, 0, []),
  (.imul, 219, 1, 0, 0, 0, []),
  (.iload 6, 220, 2, 0, 0, 0, []),
  (.iadd, 222, 1, 0, 0, 0, []),
  (.laload, 223, 1, 0, 0, 0, []),
  (.aload_n 0, 224, 1, 0, 0, 0, []),
  (.getfield 28, 225, 3, 12, 9, 0, []),
  (.bipush 6, 228, 2, 0, 0, 0, []),
  (.iload 6, 230, 2, 0, 0, 0, []),
  (.imul, 232, 1, 0, 0, 0, []),
  (.iload 9, 233, 2, 0, 0, 0, []),
  (.iadd, 235, 1, 0, 0, 0, []),
  (.laload, 236, 1, 0, 0, 0, []),
  (.lmul, 237, 1, 0, 0, 0, []),
  (.lsub, 238, 1, 0, 0, 0, []),
  (.lload 4, 239, 2, 0, 0, 0, []),
  (.ldiv, 241, 1, 0, 0, 0, []),
  (.lastore, 242, 1, 0, 0, 0, []),
  (.iinc 9 1, 243, 3, 0, 0, 0, []),
  (.goto (-80), 246, 3, 95, 0, 0, []),
  (.iinc 8 1, 249, 3, 0, 0, 0, []),
  (.goto (-98), 252, 3, 88, 0, 0, []),
  (.aload_n 0, 255, 1, 0, 0, 0, []),
  (.getfield 28, 256, 3, 12, 9, 0, []),
  (.bipush 6, 259, 2, 0, 0, 0, []),
  (.iload 6, 261, 2, 0, 0, 0, []),
  (.imul, 263, 1, 0, 0, 0, []),
  (.iload 6, 264, 2, 0, 0, 0, []),
  (.iadd, 266, 1, 0, 0, 0, []),
  (.laload, 267, 1, 0, 0, 0, []),
  (.lstore 4, 268, 2, 0, 0, 0, []),
  (.iinc 6 1, 270, 3, 0, 0, 0, []),
  (.goto (-265), 273, 3, 6, 0, 0, []),
  (.lload_n 2, 276, 1, 0, 0, 0, []),
  (.lload 4, 277, 2, 0, 0, 0, []),
  (.lmul, 279, 1, 0, 0, 0, []),
  (.lreturn, 280, 1, 0, 0, 0, [])]
def tX12_placeOf : List xI := [(.iconst (-1), 0, 1, 0, 0, 0, []),
  (.istore_n 2, 1, 1, 0, 0, 0, []),
  (.iconst 0, 2, 1, 0, 0, 0, []),
  (.istore_n 3, 3, 1, 0, 0, 0, []),
  (.iload_n 3, 4, 1, 0, 0, 0, []),
  (.aload_n 0, 5, 1, 0, 0, 0, []),
  (.getfield 161, 6, 3, 12, 12, 0, []),
  (.if_icmp .ge 25, 9, 3, 20, 0, 0, []),
  (.aload_n 0, 12, 1, 0, 0, 0, []),
  (.getfield 35, 13, 3, 12, 11, 0, []),
  (.iload_n 3, 16, 1, 0, 0, 0, []),
  (.iaload, 17, 1, 0, 0, 0, []),
  (.iload_n 1, 18, 1, 0, 0, 0, []),
  (.if_icmp .ne 7, 19, 3, 16, 0, 0, []),
  (.iload_n 3, 22, 1, 0, 0, 0, []),
  (.goto 4, 23, 3, 17, 0, 0, []),
  (.iload_n 2, 26, 1, 0, 0, 0, []),
  (.istore_n 2, 27, 1, 0, 0, 0, []),
  (.iinc 3 1, 28, 3, 0, 0, 0, []),
  (.goto (-27), 31, 3, 4, 0, 0, []),
  (.iload_n 2, 34, 1, 0, 0, 0, []),
  (.ireturn, 35, 1, 0, 0, 0, [])]
def tX12_solve : List xI := [(.iconst 0, 0, 1, 0, 0, 0, []),
  (.istore_n 1, 1, 1, 0, 0, 0, []),
  (.iload_n 1, 2, 1, 0, 0, 0, []),
  (.aload_n 0, 3, 1, 0, 0, 0, []),
  (.getfield 161, 4, 3, 12, 12, 0, []),
  (.if_icmp .ge 206, 7, 3, 131, 0, 0, []),
  (.iconst (-1), 10, 1, 0, 0, 0, []),
  (.istore_n 2, 11, 1, 0, 0, 0, []),
  (.iload_n 2, 12, 1, 0, 0, 0, []),
  (.iload_n 1, 13, 1, 0, 0, 0, []),
  (.if_icmp .gt 131, 14, 3, 85, 0, 0, []),
  (.iconst 0, 17, 1, 0, 0, 0, []),
  (.istore_n 3, 18, 1, 0, 0, 0, []),
  (.iload_n 3, 19, 1, 0, 0, 0, []),
  (.aload_n 0, 20, 1, 0, 0, 0, []),
  (.getfield 161, 21, 3, 12, 12, 0, []),
  (.if_icmp .ge 65, 24, 3, 51, 0, 0, []),
  (.iconst 0, 27, 1, 0, 0, 0, []),
  (.istore 4, 28, 2, 0, 0, 0, []),
  (.iload 4, 30, 2, 0, 0, 0, []),
  (.aload_n 0, 32, 1, 0, 0, 0, []),
  (.getfield 161, 33, 3, 12, 12, 0, []),
  (.if_icmp .ge 47, 36, 3, 49, 0, 0, []),
  (.aload_n 0, 39, 1, 0, 0, 0, []),
  (.getfield 28, 40, 3, 12, 9, 0, []),
  (.bipush 6, 43, 2, 0, 0, 0, []),
  (.iload_n 3, 45, 1, 0, 0, 0, []),
  (.imul, 46, 1, 0, 0, 0, []),
  (.iload 4, 47, 2, 0, 0, 0, []),
  (.iadd, 49, 1, 0, 0, 0, []),
  (.iload 4, 50, 2, 0, 0, 0, []),
  (.iload_n 2, 52, 1, 0, 0, 0, []),
  (.if_icmp .ne 12, 53, 3, 38, 0, 0, []),
  (.aload_n 0, 56, 1, 0, 0, 0, []),
  (.getfield 41, 57, 3, 12, 14, 0, []),
  (.iload_n 3, 60, 1, 0, 0, 0, []),
  (.laload, 61, 1, 0, 0, 0, []),
  (.goto 14, 62, 3, 46, 0, 0, []),
  (.aload_n 0, 65, 1, 0, 0, 0, []),
  (.getfield 38, 66, 3, 12, 13, 0, []),
  (.iconst 5, 69, 1, 0, 0, 0, []),
  (.iload_n 3, 70, 1, 0, 0, 0, []),
  (.imul, 71, 1, 0, 0, 0, []),
  (.iload 4, 72, 2, 0, 0, 0, []),
  (.iadd, 74, 1, 0, 0, 0, []),
  (.laload, 75, 1, 0, 0, 0, []),
  (.lastore, 76, 1, 0, 0, 0, []),
  (.iinc 4 1, 77, 3, 0, 0, 0, []),
  (.goto (-50), 80, 3, 19, 0, 0, []),
  (.iinc 3 1, 83, 3, 0, 0, 0, []),
  (.goto (-67), 86, 3, 13, 0, 0, []),
  (.aload_n 0, 89, 1, 0, 0, 0, []),
  (.aload_n 0, 90, 1, 0, 0, 0, []),
  (.getfield 161, 91, 3, 12, 12, 0, []),
  (.invokevirtual 164, 94, 3, 135, 2, 12, [2]),
  (.lstore_n 3, 97, 1, 0, 0, 0, []),
  (.iload_n 2, 98, 1, 0, 0, 0, []),
  (.ifCond .ge 18, 99, 3, 67, 0, 0, []),
  (.aload_n 0, 102, 1, 0, 0, 0, []),
  (.getfield 47, 103, 3, 12, 16, 0, []),
  (.aload_n 0, 106, 1, 0, 0, 0, []),
  (.getfield 35, 107, 3, 12, 11, 0, []),
  (.iload_n 1, 110, 1, 0, 0, 0, []),
  (.iaload, 111, 1, 0, 0, 0, []),
  (.lload_n 3, 112, 1, 0, 0, 0, []),
  (.lastore, 113, 1, 0, 0, 0, []),
  (.goto 15, 114, 3, 75, 0, 0, []),
  (.aload_n 0, 117, 1, 0, 0, 0, []),
  (.getfield 44, 118, 3, 12, 15, 0, []),
  (.aload_n 0, 121, 1, 0, 0, 0, []),
  (.getfield 35, 122, 3, 12, 11, 0, []),
  (.iload_n 1, 125, 1, 0, 0, 0, []),
  (.iaload, 126, 1, 0, 0, 0, []),
  (.lload_n 3, 127, 1, 0, 0, 0, []),
  (.lastore, 128, 1, 0, 0, 0, []),
  (.iload_n 2, 129, 1, 0, 0, 0, []),
  (.iload_n 1, 130, 1, 0, 0, 0, []),
  (.if_icmp .ge 7, 131, 3, 80, 0, 0, []),
  (.iload_n 1, 134, 1, 0, 0, 0, []),
  (.goto 6, 135, 3, 83, 0, 0, []),
  (.iload_n 1, 138, 1, 0, 0, 0, []),
  (.iconst 1, 139, 1, 0, 0, 0, []),
  (.iadd, 140, 1, 0, 0, 0, []),
  (.istore_n 2, 141, 1, 0, 0, 0, []),
  (.goto (-130), 142, 3, 8, 0, 0, []),
  (.aload_n 0, 145, 1, 0, 0, 0, []),
  (.getfield 35, 146, 3, 12, 11, 0, []),
  (.iload_n 1, 149, 1, 0, 0, 0, []),
  (.iaload, 150, 1, 0, 0, 0, []),
  (.istore_n 2, 151, 1, 0, 0, 0, []),
  (.aload_n 0, 152, 1, 0, 0, 0, []),
  (.aload_n 0, 153, 1, 0, 0, 0, []),
  (.getfield 44, 154, 3, 12, 15, 0, []),
  (.iload_n 2, 157, 1, 0, 0, 0, []),
  (.laload, 158, 1, 0, 0, 0, []),
  (.aload_n 0, 159, 1, 0, 0, 0, []),
  (.getfield 47, 160, 3, 12, 16, 0, []),
  (.iload_n 2, 163, 1, 0, 0, 0, []),
  (.laload, 164, 1, 0, 0, 0, []),
  (.invokevirtual 168, 165, 3, 134, 3, 12, [2]),
  (.lstore_n 3, 168, 1, 0, 0, 0, []),
  (.aload_n 0, 169, 1, 0, 0, 0, []),
  (.getfield 47, 170, 3, 12, 16, 0, []),
  (.iload_n 2, 173, 1, 0, 0, 0, []),
  (.laload, 174, 1, 0, 0, 0, []),
  (.lconst 0, 175, 1, 0, 0, 0, []),
  (.lcmp, 176, 1, 0, 0, 0, []),
  (.ifCond .ge 8, 177, 3, 111, 0, 0, []),
  (.lload_n 3, 180, 1, 0, 0, 0, []),
  (.lneg, 181, 1, 0, 0, 0, []),
  (.goto 4, 182, 3, 112, 0, 0, []),
  (.lload_n 3, 185, 1, 0, 0, 0, []),
  (.lstore_n 3, 186, 1, 0, 0, 0, []),
  (.aload_n 0, 187, 1, 0, 0, 0, []),
  (.getfield 44, 188, 3, 12, 15, 0, []),
  (.iload_n 2, 191, 1, 0, 0, 0, []),
  (.dup2, 192, 1, 0, 0, 0, []),
  (.laload, 193, 1, 0, 0, 0, []),
  (.lload_n 3, 194, 1, 0, 0, 0, []),
  (.ldiv, 195, 1, 0, 0, 0, []),
  (.lastore, 196, 1, 0, 0, 0, []),
  (.aload_n 0, 197, 1, 0, 0, 0, []),
  (.getfield 47, 198, 3, 12, 16, 0, []),
  (.iload_n 2, 201, 1, 0, 0, 0, []),
  (.dup2, 202, 1, 0, 0, 0, []),
  (.laload, 203, 1, 0, 0, 0, []),
  (.lload_n 3, 204, 1, 0, 0, 0, []),
  (.ldiv, 205, 1, 0, 0, 0, []),
  (.lastore, 206, 1, 0, 0, 0, []),
  (.iinc 1 1, 207, 3, 0, 0, 0, []),
  (.goto (-208), 210, 3, 2, 0, 0, []),
  (.return_, 213, 1, 0, 0, 0, [])]
def tX12_layRow : List xI := [(.iconst 4, 0, 1, 0, 0, 0, []),
  (.iload_n 2, 1, 1, 0, 0, 0, []),
  (.imul, 2, 1, 0, 0, 0, []),
  (.aload_n 0, 3, 1, 0, 0, 0, []),
  (.getfield 32, 4, 3, 12, 10, 0, []),
  (.iload_n 2, 7, 1, 0, 0, 0, []),
  (.iaload, 8, 1, 0, 0, 0, []),
  (.iadd, 9, 1, 0, 0, 0, []),
  (.istore_n 3, 10, 1, 0, 0, 0, []),
  (.iconst 0, 11, 1, 0, 0, 0, []),
  (.istore 4, 12, 2, 0, 0, 0, []),
  (.iload 4, 14, 2, 0, 0, 0, []),
  (.aload_n 0, 16, 1, 0, 0, 0, []),
  (.getfield 161, 17, 3, 12, 12, 0, []),
  (.if_icmp .ge 33, 20, 3, 31, 0, 0, []),
  (.aload_n 0, 23, 1, 0, 0, 0, []),
  (.getfield 38, 24, 3, 12, 13, 0, []),
  (.iconst 5, 27, 1, 0, 0, 0, []),
  (.iload_n 1, 28, 1, 0, 0, 0, []),
  (.imul, 29, 1, 0, 0, 0, []),
  (.iload 4, 30, 2, 0, 0, 0, []),
  (.iadd, 32, 1, 0, 0, 0, []),
  (.iload_n 1, 33, 1, 0, 0, 0, []),
  (.iload 4, 34, 2, 0, 0, 0, []),
  (.if_icmp .ne 9, 36, 3, 27, 0, 0, []),
  (.ldc2_w 130, 39, 3, 0, 0, 12, []),
  (.goto 4, 42, 3, 28, 0, 0, []),
  (.lconst 0, 45, 1, 0, 0, 0, []),
  (.lastore, 46, 1, 0, 0, 0, []),
  (.iinc 4 1, 47, 3, 0, 0, 0, []),
  (.goto (-36), 50, 3, 11, 0, 0, []),
  (.iconst 0, 53, 1, 0, 0, 0, []),
  (.istore 4, 54, 2, 0, 0, 0, []),
  (.iload 4, 56, 2, 0, 0, 0, []),
  (.aload_n 0, 58, 1, 0, 0, 0, []),
  (.getfield 19, 59, 3, 12, 6, 0, []),
  (.iload_n 3, 62, 1, 0, 0, 0, []),
  (.iaload, 63, 1, 0, 0, 0, []),
  (.if_icmp .ge 57, 64, 3, 74, 0, 0, []),
  (.aload_n 0, 67, 1, 0, 0, 0, []),
  (.aload_n 0, 68, 1, 0, 0, 0, []),
  (.getfield 22, 69, 3, 12, 7, 0, []),
  (.iconst 4, 72, 1, 0, 0, 0, []),
  (.iload_n 3, 73, 1, 0, 0, 0, []),
  (.imul, 74, 1, 0, 0, 0, []),
  (.iload 4, 75, 2, 0, 0, 0, []),
  (.iadd, 77, 1, 0, 0, 0, []),
  (.iaload, 78, 1, 0, 0, 0, []),
  (.invokevirtual 172, 79, 3, 136, 2, 12, [1]),
  (.istore 5, 82, 2, 0, 0, 0, []),
  (.iload 5, 84, 2, 0, 0, 0, []),
  (.ifCond .lt 29, 86, 3, 72, 0, 0, []),
  (.aload_n 0, 89, 1, 0, 0, 0, []),
  (.getfield 38, 90, 3, 12, 13, 0, []),
  (.iconst 5, 93, 1, 0, 0, 0, []),
  (.iload_n 1, 94, 1, 0, 0, 0, []),
  (.imul, 95, 1, 0, 0, 0, []),
  (.iload 5, 96, 2, 0, 0, 0, []),
  (.iadd, 98, 1, 0, 0, 0, []),
  (.dup2, 99, 1, 0, 0, 0, []),
  (.laload, 100, 1, 0, 0, 0, []),
  (.aload_n 0, 101, 1, 0, 0, 0, []),
  (.getfield 25, 102, 3, 12, 8, 0, []),
  (.iconst 4, 105, 1, 0, 0, 0, []),
  (.iload_n 3, 106, 1, 0, 0, 0, []),
  (.imul, 107, 1, 0, 0, 0, []),
  (.iload 4, 108, 2, 0, 0, 0, []),
  (.iadd, 110, 1, 0, 0, 0, []),
  (.iaload, 111, 1, 0, 0, 0, []),
  (.i2l, 112, 1, 0, 0, 0, []),
  (.lsub, 113, 1, 0, 0, 0, []),
  (.lastore, 114, 1, 0, 0, 0, []),
  (.iinc 4 1, 115, 3, 0, 0, 0, []),
  (.goto (-62), 118, 3, 33, 0, 0, []),
  (.return_, 121, 1, 0, 0, 0, [])]
def tX12_comesChosen : List xI := [(.iload_n 2, 0, 1, 0, 0, 0, []),
  (.istore_n 3, 1, 1, 0, 0, 0, []),
  (.iconst 1, 2, 1, 0, 0, 0, []),
  (.istore 4, 3, 2, 0, 0, 0, []),
  (.iload 4, 5, 2, 0, 0, 0, []),
  (.ifCond .eq 77, 7, 3, 49, 0, 0, []),
  (.iload_n 3, 10, 1, 0, 0, 0, []),
  (.istore 5, 11, 2, 0, 0, 0, []),
  (.iconst 0, 13, 1, 0, 0, 0, []),
  (.istore 6, 14, 2, 0, 0, 0, []),
  (.iload 6, 16, 2, 0, 0, 0, []),
  (.aload_n 0, 18, 1, 0, 0, 0, []),
  (.getfield 105, 19, 3, 12, 1, 0, []),
  (.if_icmp .ge 46, 22, 3, 41, 0, 0, []),
  (.iload_n 1, 25, 1, 0, 0, 0, []),
  (.iload 6, 26, 2, 0, 0, 0, []),
  (.ishr, 28, 1, 0, 0, 0, []),
  (.iconst 1, 29, 1, 0, 0, 0, []),
  (.iand, 30, 1, 0, 0, 0, []),
  (.iconst 1, 31, 1, 0, 0, 0, []),
  (.if_icmp .ne 30, 32, 3, 39, 0, 0, []),
  (.aload_n 0, 35, 1, 0, 0, 0, []),
  (.iconst 4, 36, 1, 0, 0, 0, []),
  (.iload 6, 37, 2, 0, 0, 0, []),
  (.imul, 39, 1, 0, 0, 0, []),
  (.aload_n 0, 40, 1, 0, 0, 0, []),
  (.getfield 32, 41, 3, 12, 10, 0, []),
  (.iload 6, 44, 2, 0, 0, 0, []),
  (.iaload, 46, 1, 0, 0, 0, []),
  (.iadd, 47, 1, 0, 0, 0, []),
  (.iload_n 3, 48, 1, 0, 0, 0, []),
  (.invokevirtual 143, 49, 3, 127, 3, 12, [1]),
  (.ifCond .eq 10, 52, 3, 39, 0, 0, []),
  (.iload_n 3, 55, 1, 0, 0, 0, []),
  (.iconst 1, 56, 1, 0, 0, 0, []),
  (.iload 6, 57, 2, 0, 0, 0, []),
  (.ishl, 59, 1, 0, 0, 0, []),
  (.ior, 60, 1, 0, 0, 0, []),
  (.istore_n 3, 61, 1, 0, 0, 0, []),
  (.iinc 6 1, 62, 3, 0, 0, 0, []),
  (.goto (-49), 65, 3, 10, 0, 0, []),
  (.iload_n 3, 68, 1, 0, 0, 0, []),
  (.iload 5, 69, 2, 0, 0, 0, []),
  (.if_icmp .eq 7, 71, 3, 46, 0, 0, []),
  (.iconst 1, 74, 1, 0, 0, 0, []),
  (.goto 4, 75, 3, 47, 0, 0, []),
  (.iconst 0, 78, 1, 0, 0, 0, []),
  (.istore 4, 79, 2, 0, 0, 0, []),
  (.goto (-76), 81, 3, 4, 0, 0, []),
  (.iload_n 3, 84, 1, 0, 0, 0, []),
  (.iload_n 1, 85, 1, 0, 0, 0, []),
  (.iand, 86, 1, 0, 0, 0, []),
  (.ireturn, 87, 1, 0, 0, 0, [])]
def tX12_chances : List xI := [(.aload_n 0, 0, 1, 0, 0, 0, []),
  (.iload_n 1, 1, 1, 0, 0, 0, []),
  (.iload_n 2, 2, 1, 0, 0, 0, []),
  (.invokevirtual 175, 3, 3, 139, 3, 12, [1]),
  (.istore_n 3, 6, 1, 0, 0, 0, []),
  (.aload_n 0, 7, 1, 0, 0, 0, []),
  (.iconst 0, 8, 1, 0, 0, 0, []),
  (.putfield 161, 9, 3, 12, 12, 0, []),
  (.iconst 0, 12, 1, 0, 0, 0, []),
  (.istore 4, 13, 2, 0, 0, 0, []),
  (.iload 4, 15, 2, 0, 0, 0, []),
  (.aload_n 0, 17, 1, 0, 0, 0, []),
  (.getfield 105, 18, 3, 12, 1, 0, []),
  (.if_icmp .ge 62, 21, 3, 50, 0, 0, []),
  (.aload_n 0, 24, 1, 0, 0, 0, []),
  (.getfield 44, 25, 3, 12, 15, 0, []),
  (.iload 4, 28, 2, 0, 0, 0, []),
  (.iload_n 2, 30, 1, 0, 0, 0, []),
  (.iload 4, 31, 2, 0, 0, 0, []),
  (.ishr, 33, 1, 0, 0, 0, []),
  (.iconst 1, 34, 1, 0, 0, 0, []),
  (.iand, 35, 1, 0, 0, 0, []),
  (.i2l, 36, 1, 0, 0, 0, []),
  (.lastore, 37, 1, 0, 0, 0, []),
  (.aload_n 0, 38, 1, 0, 0, 0, []),
  (.getfield 47, 39, 3, 12, 16, 0, []),
  (.iload 4, 42, 2, 0, 0, 0, []),
  (.lconst 1, 44, 1, 0, 0, 0, []),
  (.lastore, 45, 1, 0, 0, 0, []),
  (.iload_n 3, 46, 1, 0, 0, 0, []),
  (.iload 4, 47, 2, 0, 0, 0, []),
  (.ishr, 49, 1, 0, 0, 0, []),
  (.iconst 1, 50, 1, 0, 0, 0, []),
  (.iand, 51, 1, 0, 0, 0, []),
  (.iconst 1, 52, 1, 0, 0, 0, []),
  (.if_icmp .ne 24, 53, 3, 48, 0, 0, []),
  (.aload_n 0, 56, 1, 0, 0, 0, []),
  (.getfield 35, 57, 3, 12, 11, 0, []),
  (.aload_n 0, 60, 1, 0, 0, 0, []),
  (.getfield 161, 61, 3, 12, 12, 0, []),
  (.iload 4, 64, 2, 0, 0, 0, []),
  (.iastore, 66, 1, 0, 0, 0, []),
  (.aload_n 0, 67, 1, 0, 0, 0, []),
  (.dup, 68, 1, 0, 0, 0, []),
  (.getfield 161, 69, 3, 12, 12, 0, []),
  (.iconst 1, 72, 1, 0, 0, 0, []),
  (.iadd, 73, 1, 0, 0, 0, []),
  (.putfield 161, 74, 3, 12, 12, 0, []),
  (.iinc 4 1, 77, 3, 0, 0, 0, []),
  (.goto (-65), 80, 3, 10, 0, 0, []),
  (.iconst 0, 83, 1, 0, 0, 0, []),
  (.istore 4, 84, 2, 0, 0, 0, []),
  (.iload 4, 86, 2, 0, 0, 0, []),
  (.aload_n 0, 88, 1, 0, 0, 0, []),
  (.getfield 161, 89, 3, 12, 12, 0, []),
  (.if_icmp .ge 116, 92, 3, 123, 0, 0, []),
  (.aload_n 0, 95, 1, 0, 0, 0, []),
  (.getfield 35, 96, 3, 12, 11, 0, []),
  (.iload 4, 99, 2, 0, 0, 0, []),
  (.iaload, 101, 1, 0, 0, 0, []),
  (.istore 5, 102, 2, 0, 0, 0, []),
  (.iconst 4, 104, 1, 0, 0, 0, []),
  (.iload 5, 105, 2, 0, 0, 0, []),
  (.imul, 107, 1, 0, 0, 0, []),
  (.aload_n 0, 108, 1, 0, 0, 0, []),
  (.getfield 32, 109, 3, 12, 10, 0, []),
  (.iload 5, 112, 2, 0, 0, 0, []),
  (.iaload, 114, 1, 0, 0, 0, []),
  (.iadd, 115, 1, 0, 0, 0, []),
  (.istore 6, 116, 2, 0, 0, 0, []),
  (.aload_n 0, 118, 1, 0, 0, 0, []),
  (.iload 4, 119, 2, 0, 0, 0, []),
  (.iload 5, 121, 2, 0, 0, 0, []),
  (.invokevirtual 179, 123, 3, 138, 3, 12, [0]),
  (.aload_n 0, 126, 1, 0, 0, 0, []),
  (.getfield 41, 127, 3, 12, 14, 0, []),
  (.iload 4, 130, 2, 0, 0, 0, []),
  (.lconst 0, 132, 1, 0, 0, 0, []),
  (.lastore, 133, 1, 0, 0, 0, []),
  (.iconst 0, 134, 1, 0, 0, 0, []),
  (.istore 7, 135, 2, 0, 0, 0, []),
  (.iload 7, 137, 2, 0, 0, 0, []),
  (.aload_n 0, 139, 1, 0, 0, 0, []),
  (.getfield 19, 140, 3, 12, 6, 0, []),
  (.iload 6, 143, 2, 0, 0, 0, []),
  (.iaload, 145, 1, 0, 0, 0, []),
  (.if_icmp .ge 56, 146, 3, 121, 0, 0, []),
  (.aload_n 0, 149, 1, 0, 0, 0, []),
  (.getfield 41, 150, 3, 12, 14, 0, []),
  (.iload 4, 153, 2, 0, 0, 0, []),
  (.dup2, 155, 1, 0, 0, 0, []),
  (.laload, 156, 1, 0, 0, 0, []),
  (.iload_n 2, 157, 1, 0, 0, 0, []),
  (.aload_n 0, 158, 1, 0, 0, 0, []),
  (.getfield 22, 159, 3, 12, 7, 0, []),
  (.iconst 4, 162, 1, 0, 0, 0, []),
  (.iload 6, 163, 2, 0, 0, 0, []),
  (.imul, 165, 1, 0, 0, 0, []),
  (.iload 7, 166, 2, 0, 0, 0, []),
  (.iadd, 168, 1, 0, 0, 0, []),
  (.iaload, 169, 1, 0, 0, 0, []),
  (.ishr, 170, 1, 0, 0, 0, []),
  (.iconst 1, 171, 1, 0, 0, 0, []),
  (.iand, 172, 1, 0, 0, 0, []),
  (.iconst 1, 173, 1, 0, 0, 0, []),
  (.if_icmp .ne 19, 174, 3, 116, 0, 0, []),
  (.aload_n 0, 177, 1, 0, 0, 0, []),
  (.getfield 25, 178, 3, 12, 8, 0, []),
  (.iconst 4, 181, 1, 0, 0, 0, []),
  (.iload 6, 182, 2, 0, 0, 0, []),
  (.imul, 184, 1, 0, 0, 0, []),
  (.iload 7, 185, 2, 0, 0, 0, []),
  (.iadd, 187, 1, 0, 0, 0, []),
  (.iaload, 188, 1, 0, 0, 0, []),
  (.i2l, 189, 1, 0, 0, 0, []),
  (.goto 4, 190, 3, 117, 0, 0, []),
  (.lconst 0, 193, 1, 0, 0, 0, []),
  (.ladd, 194, 1, 0, 0, 0, []),
  (.lastore, 195, 1, 0, 0, 0, []),
  (.iinc 7 1, 196, 3, 0, 0, 0, []),
  (.goto (-62), 199, 3, 81, 0, 0, []),
  (.iinc 4 1, 202, 3, 0, 0, 0, []),
  (.goto (-119), 205, 3, 52, 0, 0, []),
  (.aload_n 0, 208, 1, 0, 0, 0, []),
  (.invokevirtual 183, 209, 3, 137, 1, 12, [0]),
  (.return_, 212, 1, 0, 0, 0, [])]
def tX12_isBelow : List xI := [(.lload_n 0, 0, 1, 0, 0, 0, []),
  (.lload 6, 1, 2, 0, 0, 0, []),
  (.lmul, 3, 1, 0, 0, 0, []),
  (.lload 4, 4, 2, 0, 0, 0, []),
  (.lload_n 2, 6, 1, 0, 0, 0, []),
  (.lmul, 7, 1, 0, 0, 0, []),
  (.lcmp, 8, 1, 0, 0, 0, []),
  (.ifCond .ge 7, 9, 3, 10, 0, 0, []),
  (.iconst 1, 12, 1, 0, 0, 0, []),
  (.goto 4, 13, 3, 11, 0, 0, []),
  (.iconst 0, 16, 1, 0, 0, 0, []),
  (.ireturn, 17, 1, 0, 0, 0, [])]
def tX12_nextChoice : List xI := [(.iconst 0, 0, 1, 0, 0, 0, []),
  (.istore_n 3, 1, 1, 0, 0, 0, []),
  (.iload_n 3, 2, 1, 0, 0, 0, []),
  (.aload_n 0, 3, 1, 0, 0, 0, []),
  (.getfield 105, 4, 3, 12, 1, 0, []),
  (.if_icmp .ge 61, 7, 3, 44, 0, 0, []),
  (.iload_n 1, 10, 1, 0, 0, 0, []),
  (.iload_n 3, 11, 1, 0, 0, 0, []),
  (.ishr, 12, 1, 0, 0, 0, []),
  (.iconst 1, 13, 1, 0, 0, 0, []),
  (.iand, 14, 1, 0, 0, 0, []),
  (.iconst 1, 15, 1, 0, 0, 0, []),
  (.if_icmp .ne 46, 16, 3, 42, 0, 0, []),
  (.aload_n 0, 19, 1, 0, 0, 0, []),
  (.iload_n 3, 20, 1, 0, 0, 0, []),
  (.invokevirtual 123, 21, 3, 117, 2, 12, [1]),
  (.iload_n 2, 24, 1, 0, 0, 0, []),
  (.if_icmp .ne 37, 25, 3, 42, 0, 0, []),
  (.aload_n 0, 28, 1, 0, 0, 0, []),
  (.getfield 32, 29, 3, 12, 10, 0, []),
  (.iload_n 3, 32, 1, 0, 0, 0, []),
  (.dup2, 33, 1, 0, 0, 0, []),
  (.iaload, 34, 1, 0, 0, 0, []),
  (.iconst 1, 35, 1, 0, 0, 0, []),
  (.iadd, 36, 1, 0, 0, 0, []),
  (.iastore, 37, 1, 0, 0, 0, []),
  (.aload_n 0, 38, 1, 0, 0, 0, []),
  (.getfield 32, 39, 3, 12, 10, 0, []),
  (.iload_n 3, 42, 1, 0, 0, 0, []),
  (.iaload, 43, 1, 0, 0, 0, []),
  (.aload_n 0, 44, 1, 0, 0, 0, []),
  (.getfield 7, 45, 3, 12, 3, 0, []),
  (.iload_n 3, 48, 1, 0, 0, 0, []),
  (.iaload, 49, 1, 0, 0, 0, []),
  (.if_icmp .ge 5, 50, 3, 37, 0, 0, []),
  (.iconst 1, 53, 1, 0, 0, 0, []),
  (.ireturn, 54, 1, 0, 0, 0, []),
  (.aload_n 0, 55, 1, 0, 0, 0, []),
  (.getfield 32, 56, 3, 12, 10, 0, []),
  (.iload_n 3, 59, 1, 0, 0, 0, []),
  (.iconst 0, 60, 1, 0, 0, 0, []),
  (.iastore, 61, 1, 0, 0, 0, []),
  (.iinc 3 1, 62, 3, 0, 0, 0, []),
  (.goto (-63), 65, 3, 2, 0, 0, []),
  (.iconst 0, 68, 1, 0, 0, 0, []),
  (.ireturn, 69, 1, 0, 0, 0, [])]
def tX12_countBits : List xI := [(.iconst 0, 0, 1, 0, 0, 0, []),
  (.istore_n 2, 1, 1, 0, 0, 0, []),
  (.iconst 0, 2, 1, 0, 0, 0, []),
  (.istore_n 3, 3, 1, 0, 0, 0, []),
  (.iload_n 3, 4, 1, 0, 0, 0, []),
  (.bipush 10, 5, 2, 0, 0, 0, []),
  (.if_icmp .ge 17, 7, 3, 17, 0, 0, []),
  (.iload_n 2, 10, 1, 0, 0, 0, []),
  (.iload_n 1, 11, 1, 0, 0, 0, []),
  (.iload_n 3, 12, 1, 0, 0, 0, []),
  (.ishr, 13, 1, 0, 0, 0, []),
  (.iconst 1, 14, 1, 0, 0, 0, []),
  (.iand, 15, 1, 0, 0, 0, []),
  (.iadd, 16, 1, 0, 0, 0, []),
  (.istore_n 2, 17, 1, 0, 0, 0, []),
  (.iinc 3 1, 18, 3, 0, 0, 0, []),
  (.goto (-17), 21, 3, 4, 0, 0, []),
  (.iload_n 2, 24, 1, 0, 0, 0, []),
  (.ireturn, 25, 1, 0, 0, 0, [])]
def tX12_worst : List xI := [(.iconst 1, 0, 1, 0, 0, 0, []),
  (.istore 4, 1, 2, 0, 0, 0, []),
  (.iconst 1, 3, 1, 0, 0, 0, []),
  (.istore 5, 4, 2, 0, 0, 0, []),
  (.iload 5, 6, 2, 0, 0, 0, []),
  (.ifCond .eq 150, 8, 3, 84, 0, 0, []),
  (.aload_n 0, 11, 1, 0, 0, 0, []),
  (.iload_n 1, 12, 1, 0, 0, 0, []),
  (.iload_n 2, 13, 1, 0, 0, 0, []),
  (.invokevirtual 186, 14, 3, 140, 3, 12, [0]),
  (.iconst 0, 17, 1, 0, 0, 0, []),
  (.istore 6, 18, 2, 0, 0, 0, []),
  (.iload 6, 20, 2, 0, 0, 0, []),
  (.aload_n 0, 22, 1, 0, 0, 0, []),
  (.getfield 105, 23, 3, 12, 1, 0, []),
  (.if_icmp .ge 118, 26, 3, 76, 0, 0, []),
  (.iload_n 3, 29, 1, 0, 0, 0, []),
  (.ifCond .eq 37, 30, 3, 36, 0, 0, []),
  (.aload_n 0, 33, 1, 0, 0, 0, []),
  (.getfield 56, 34, 3, 12, 19, 0, []),
  (.iload 6, 37, 2, 0, 0, 0, []),
  (.laload, 39, 1, 0, 0, 0, []),
  (.aload_n 0, 40, 1, 0, 0, 0, []),
  (.getfield 59, 41, 3, 12, 20, 0, []),
  (.iload 6, 44, 2, 0, 0, 0, []),
  (.laload, 46, 1, 0, 0, 0, []),
  (.aload_n 0, 47, 1, 0, 0, 0, []),
  (.getfield 44, 48, 3, 12, 15, 0, []),
  (.iload 6, 51, 2, 0, 0, 0, []),
  (.laload, 53, 1, 0, 0, 0, []),
  (.aload_n 0, 54, 1, 0, 0, 0, []),
  (.getfield 47, 55, 3, 12, 16, 0, []),
  (.iload 6, 58, 2, 0, 0, 0, []),
  (.laload, 60, 1, 0, 0, 0, []),
  (.invokestatic 189, 61, 3, 141, 4, 0, [1]),
  (.goto 34, 64, 3, 53, 0, 0, []),
  (.aload_n 0, 67, 1, 0, 0, 0, []),
  (.getfield 44, 68, 3, 12, 15, 0, []),
  (.iload 6, 71, 2, 0, 0, 0, []),
  (.laload, 73, 1, 0, 0, 0, []),
  (.aload_n 0, 74, 1, 0, 0, 0, []),
  (.getfield 47, 75, 3, 12, 16, 0, []),
  (.iload 6, 78, 2, 0, 0, 0, []),
  (.laload, 80, 1, 0, 0, 0, []),
  (.aload_n 0, 81, 1, 0, 0, 0, []),
  (.getfield 56, 82, 3, 12, 19, 0, []),
  (.iload 6, 85, 2, 0, 0, 0, []),
  (.laload, 87, 1, 0, 0, 0, []),
  (.aload_n 0, 88, 1, 0, 0, 0, []),
  (.getfield 59, 89, 3, 12, 20, 0, []),
  (.iload 6, 92, 2, 0, 0, 0, []),
  (.laload, 94, 1, 0, 0, 0, []),
  (.invokestatic 189, 95, 3, 141, 4, 0, [1]),
  (.istore 7, 98, 2, 0, 0, 0, []),
  (.iload 4, 100, 2, 0, 0, 0, []),
  (.ifCond .ne 8, 102, 3, 58, 0, 0, []),
  (.iload 7, 105, 2, 0, 0, 0, []),
  (.ifCond .eq 31, 107, 3, 74, 0, 0, []),
  (.aload_n 0, 110, 1, 0, 0, 0, []),
  (.getfield 56, 111, 3, 12, 19, 0, []),
  (.iload 6, 114, 2, 0, 0, 0, []),
  (.aload_n 0, 116, 1, 0, 0, 0, []),
  (.getfield 44, 117, 3, 12, 15, 0, []),
  (.iload 6, 120, 2, 0, 0, 0, []),
  (.laload, 122, 1, 0, 0, 0, []),
  (.lastore, 123, 1, 0, 0, 0, []),
  (.aload_n 0, 124, 1, 0, 0, 0, []),
  (.getfield 59, 125, 3, 12, 20, 0, []),
  (.iload 6, 128, 2, 0, 0, 0, []),
  (.aload_n 0, 130, 1, 0, 0, 0, []),
  (.getfield 47, 131, 3, 12, 16, 0, []),
  (.iload 6, 134, 2, 0, 0, 0, []),
  (.laload, 136, 1, 0, 0, 0, []),
  (.lastore, 137, 1, 0, 0, 0, []),
  (.iinc 6 1, 138, 3, 0, 0, 0, []),
  (.goto (-121), 141, 3, 12, 0, 0, []),
  (.iconst 0, 144, 1, 0, 0, 0, []),
  (.istore 4, 145, 2, 0, 0, 0, []),
  (.aload_n 0, 147, 1, 0, 0, 0, []),
  (.iload_n 1, 148, 1, 0, 0, 0, []),
  (.iconst 1, 149, 1, 0, 0, 0, []),
  (.invokevirtual 193, 150, 3, 142, 3, 12, [1]),
  (.istore 5, 153, 2, 0, 0, 0, []),
  (.goto (-149), 155, 3, 4, 0, 0, []),
  (.return_, 158, 1, 0, 0, 0, [])]
def tX12_findValues : List xI := [(.aload_n 0, 0, 1, 0, 0, 0, []),
  (.iload_n 1, 1, 1, 0, 0, 0, []),
  (.invokevirtual 196, 2, 3, 133, 2, 12, [1]),
  (.istore_n 2, 5, 1, 0, 0, 0, []),
  (.aload_n 0, 6, 1, 0, 0, 0, []),
  (.iload_n 1, 7, 1, 0, 0, 0, []),
  (.invokevirtual 200, 8, 3, 132, 2, 12, [1]),
  (.iload_n 2, 11, 1, 0, 0, 0, []),
  (.iconst (-1), 12, 1, 0, 0, 0, []),
  (.ixor, 13, 1, 0, 0, 0, []),
  (.iand, 14, 1, 0, 0, 0, []),
  (.istore_n 3, 15, 1, 0, 0, 0, []),
  (.aload_n 0, 16, 1, 0, 0, 0, []),
  (.iload_n 3, 17, 1, 0, 0, 0, []),
  (.invokevirtual 203, 18, 3, 143, 2, 12, [1]),
  (.iconst 5, 21, 1, 0, 0, 0, []),
  (.if_icmp .le 5, 22, 3, 19, 0, 0, []),
  (.iconst 0, 25, 1, 0, 0, 0, []),
  (.ireturn, 26, 1, 0, 0, 0, []),
  (.iload_n 1, 27, 1, 0, 0, 0, []),
  (.ifCond .eq 8, 28, 3, 23, 0, 0, []),
  (.bipush 10, 31, 2, 0, 0, 0, []),
  (.goto 4, 33, 3, 24, 0, 0, []),
  (.iconst 0, 36, 1, 0, 0, 0, []),
  (.istore 4, 37, 2, 0, 0, 0, []),
  (.iconst 0, 39, 1, 0, 0, 0, []),
  (.istore 5, 40, 2, 0, 0, 0, []),
  (.iload 5, 42, 2, 0, 0, 0, []),
  (.bipush 10, 44, 2, 0, 0, 0, []),
  (.if_icmp .ge 17, 46, 3, 37, 0, 0, []),
  (.aload_n 0, 49, 1, 0, 0, 0, []),
  (.getfield 32, 50, 3, 12, 10, 0, []),
  (.iload 5, 53, 2, 0, 0, 0, []),
  (.iconst 0, 55, 1, 0, 0, 0, []),
  (.iastore, 56, 1, 0, 0, 0, []),
  (.iinc 5 1, 57, 3, 0, 0, 0, []),
  (.goto (-18), 60, 3, 27, 0, 0, []),
  (.iconst 1, 63, 1, 0, 0, 0, []),
  (.istore 5, 64, 2, 0, 0, 0, []),
  (.iconst 1, 66, 1, 0, 0, 0, []),
  (.istore 6, 67, 2, 0, 0, 0, []),
  (.iload 6, 69, 2, 0, 0, 0, []),
  (.ifCond .eq 158, 71, 3, 126, 0, 0, []),
  (.aload_n 0, 74, 1, 0, 0, 0, []),
  (.iload_n 3, 75, 1, 0, 0, 0, []),
  (.iload_n 2, 76, 1, 0, 0, 0, []),
  (.iload_n 1, 77, 1, 0, 0, 0, []),
  (.invokevirtual 206, 78, 3, 144, 4, 12, [0]),
  (.iconst 0, 81, 1, 0, 0, 0, []),
  (.istore 7, 82, 2, 0, 0, 0, []),
  (.iload 7, 84, 2, 0, 0, 0, []),
  (.aload_n 0, 86, 1, 0, 0, 0, []),
  (.getfield 105, 87, 3, 12, 1, 0, []),
  (.if_icmp .ge 125, 90, 3, 118, 0, 0, []),
  (.iload 4, 93, 2, 0, 0, 0, []),
  (.iload 7, 95, 2, 0, 0, 0, []),
  (.iadd, 97, 1, 0, 0, 0, []),
  (.istore 8, 98, 2, 0, 0, 0, []),
  (.iload_n 1, 100, 1, 0, 0, 0, []),
  (.ifCond .eq 37, 101, 3, 78, 0, 0, []),
  (.aload_n 0, 104, 1, 0, 0, 0, []),
  (.getfield 56, 105, 3, 12, 19, 0, []),
  (.iload 7, 108, 2, 0, 0, 0, []),
  (.laload, 110, 1, 0, 0, 0, []),
  (.aload_n 0, 111, 1, 0, 0, 0, []),
  (.getfield 59, 112, 3, 12, 20, 0, []),
  (.iload 7, 115, 2, 0, 0, 0, []),
  (.laload, 117, 1, 0, 0, 0, []),
  (.aload_n 0, 118, 1, 0, 0, 0, []),
  (.getfield 50, 119, 3, 12, 17, 0, []),
  (.iload 8, 122, 2, 0, 0, 0, []),
  (.laload, 124, 1, 0, 0, 0, []),
  (.aload_n 0, 125, 1, 0, 0, 0, []),
  (.getfield 53, 126, 3, 12, 18, 0, []),
  (.iload 8, 129, 2, 0, 0, 0, []),
  (.laload, 131, 1, 0, 0, 0, []),
  (.invokestatic 189, 132, 3, 141, 4, 0, [1]),
  (.goto 34, 135, 3, 95, 0, 0, []),
  (.aload_n 0, 138, 1, 0, 0, 0, []),
  (.getfield 50, 139, 3, 12, 17, 0, []),
  (.iload 8, 142, 2, 0, 0, 0, []),
  (.laload, 144, 1, 0, 0, 0, []),
  (.aload_n 0, 145, 1, 0, 0, 0, []),
  (.getfield 53, 146, 3, 12, 18, 0, []),
  (.iload 8, 149, 2, 0, 0, 0, []),
  (.laload, 151, 1, 0, 0, 0, []),
  (.aload_n 0, 152, 1, 0, 0, 0, []),
  (.getfield 56, 153, 3, 12, 19, 0, []),
  (.iload 7, 156, 2, 0, 0, 0, []),
  (.laload, 158, 1, 0, 0, 0, []),
  (.aload_n 0, 159, 1, 0, 0, 0, []),
  (.getfield 59, 160, 3, 12, 20, 0, []),
  (.iload 7, 163, 2, 0, 0, 0, []),
  (.laload, 165, 1, 0, 0, 0, []),
  (.invokestatic 189, 166, 3, 141, 4, 0, [1]),
  (.istore 9, 169, 2, 0, 0, 0, []),
  (.iload 5, 171, 2, 0, 0, 0, []),
  (.ifCond .ne 8, 173, 3, 100, 0, 0, []),
  (.iload 9, 176, 2, 0, 0, 0, []),
  (.ifCond .eq 31, 178, 3, 116, 0, 0, []),
  (.aload_n 0, 181, 1, 0, 0, 0, []),
  (.getfield 50, 182, 3, 12, 17, 0, []),
  (.iload 8, 185, 2, 0, 0, 0, []),
  (.aload_n 0, 187, 1, 0, 0, 0, []),
  (.getfield 56, 188, 3, 12, 19, 0, []),
  (.iload 7, 191, 2, 0, 0, 0, []),
  (.laload, 193, 1, 0, 0, 0, []),
  (.lastore, 194, 1, 0, 0, 0, []),
  (.aload_n 0, 195, 1, 0, 0, 0, []),
  (.getfield 53, 196, 3, 12, 18, 0, []),
  (.iload 8, 199, 2, 0, 0, 0, []),
  (.aload_n 0, 201, 1, 0, 0, 0, []),
  (.getfield 59, 202, 3, 12, 20, 0, []),
  (.iload 7, 205, 2, 0, 0, 0, []),
  (.laload, 207, 1, 0, 0, 0, []),
  (.lastore, 208, 1, 0, 0, 0, []),
  (.iinc 7 1, 209, 3, 0, 0, 0, []),
  (.goto (-128), 212, 3, 50, 0, 0, []),
  (.iconst 0, 215, 1, 0, 0, 0, []),
  (.istore 5, 216, 2, 0, 0, 0, []),
  (.aload_n 0, 218, 1, 0, 0, 0, []),
  (.iload_n 3, 219, 1, 0, 0, 0, []),
  (.iconst 0, 220, 1, 0, 0, 0, []),
  (.invokevirtual 193, 221, 3, 142, 3, 12, [1]),
  (.istore 6, 224, 2, 0, 0, 0, []),
  (.goto (-157), 226, 3, 41, 0, 0, []),
  (.iconst 1, 229, 1, 0, 0, 0, []),
  (.ireturn, 230, 1, 0, 0, 0, [])]
def tX12_value : List xI := [(.aload_n 0, 0, 1, 0, 0, 0, []),
  (.iconst 0, 1, 1, 0, 0, 0, []),
  (.putfield 101, 2, 3, 12, 0, 0, []),
  (.aload_n 0, 5, 1, 0, 0, 0, []),
  (.iload_n 1, 6, 1, 0, 0, 0, []),
  (.invokevirtual 108, 7, 3, 114, 2, 12, [1]),
  (.ifCond .eq 13, 10, 3, 13, 0, 0, []),
  (.iload_n 3, 13, 1, 0, 0, 0, []),
  (.i2l, 14, 1, 0, 0, 0, []),
  (.lconst 0, 15, 1, 0, 0, 0, []),
  (.lconst 1, 16, 1, 0, 0, 0, []),
  (.invokestatic 117, 17, 3, 113, 3, 0, [1]),
  (.ifCond .ne 7, 20, 3, 15, 0, 0, []),
  (.ldc2_w 210, 23, 3, 0, 0, (-1), []),
  (.lreturn, 26, 1, 0, 0, 0, []),
  (.aload_n 0, 27, 1, 0, 0, 0, []),
  (.invokevirtual 136, 28, 3, 124, 1, 12, [1]),
  (.ifCond .le 7, 31, 3, 20, 0, 0, []),
  (.ldc2_w 212, 34, 3, 0, 0, (-2), []),
  (.lreturn, 37, 1, 0, 0, 0, []),
  (.aload_n 0, 38, 1, 0, 0, 0, []),
  (.iload_n 2, 39, 1, 0, 0, 0, []),
  (.invokevirtual 214, 40, 3, 145, 2, 12, [1]),
  (.ifCond .ne 7, 43, 3, 26, 0, 0, []),
  (.ldc2_w 218, 46, 3, 0, 0, (-3), []),
  (.lreturn, 49, 1, 0, 0, 0, []),
  (.iload_n 2, 50, 1, 0, 0, 0, []),
  (.ifCond .eq 10, 51, 3, 32, 0, 0, []),
  (.bipush 10, 54, 2, 0, 0, 0, []),
  (.iload_n 1, 56, 1, 0, 0, 0, []),
  (.iadd, 57, 1, 0, 0, 0, []),
  (.goto 4, 58, 3, 33, 0, 0, []),
  (.iload_n 1, 61, 1, 0, 0, 0, []),
  (.istore 4, 62, 2, 0, 0, 0, []),
  (.iload_n 3, 64, 1, 0, 0, 0, []),
  (.ifCond .ne 13, 65, 3, 41, 0, 0, []),
  (.aload_n 0, 68, 1, 0, 0, 0, []),
  (.getfield 50, 69, 3, 12, 17, 0, []),
  (.iload 4, 72, 2, 0, 0, 0, []),
  (.laload, 74, 1, 0, 0, 0, []),
  (.goto 10, 75, 3, 45, 0, 0, []),
  (.aload_n 0, 78, 1, 0, 0, 0, []),
  (.getfield 53, 79, 3, 12, 18, 0, []),
  (.iload 4, 82, 2, 0, 0, 0, []),
  (.laload, 84, 1, 0, 0, 0, []),
  (.lreturn, 85, 1, 0, 0, 0, [])]
def tX12_findSum : List xI := [(.aload_n 0, 0, 1, 0, 0, 0, []),
  (.lconst 0, 1, 1, 0, 0, 0, []),
  (.putfield 220, 2, 3, 12, 21, 0, []),
  (.aload_n 0, 5, 1, 0, 0, 0, []),
  (.lconst 1, 6, 1, 0, 0, 0, []),
  (.putfield 224, 7, 3, 12, 22, 0, []),
  (.iconst 0, 10, 1, 0, 0, 0, []),
  (.istore_n 2, 11, 1, 0, 0, 0, []),
  (.iload_n 2, 12, 1, 0, 0, 0, []),
  (.aload_n 0, 13, 1, 0, 0, 0, []),
  (.getfield 19, 14, 3, 12, 6, 0, []),
  (.iload_n 1, 17, 1, 0, 0, 0, []),
  (.iaload, 18, 1, 0, 0, 0, []),
  (.if_icmp .ge 163, 19, 3, 108, 0, 0, []),
  (.aload_n 0, 22, 1, 0, 0, 0, []),
  (.getfield 22, 23, 3, 12, 7, 0, []),
  (.iconst 4, 26, 1, 0, 0, 0, []),
  (.iload_n 1, 27, 1, 0, 0, 0, []),
  (.imul, 28, 1, 0, 0, 0, []),
  (.iload_n 2, 29, 1, 0, 0, 0, []),
  (.iadd, 30, 1, 0, 0, 0, []),
  (.iaload, 31, 1, 0, 0, 0, []),
  (.istore_n 3, 32, 1, 0, 0, 0, []),
  (.aload_n 0, 33, 1, 0, 0, 0, []),
  (.getfield 25, 34, 3, 12, 8, 0, []),
  (.iconst 4, 37, 1, 0, 0, 0, []),
  (.iload_n 1, 38, 1, 0, 0, 0, []),
  (.imul, 39, 1, 0, 0, 0, []),
  (.iload_n 2, 40, 1, 0, 0, 0, []),
  (.iadd, 41, 1, 0, 0, 0, []),
  (.iaload, 42, 1, 0, 0, 0, []),
  (.i2l, 43, 1, 0, 0, 0, []),
  (.aload_n 0, 44, 1, 0, 0, 0, []),
  (.getfield 50, 45, 3, 12, 17, 0, []),
  (.iload_n 3, 48, 1, 0, 0, 0, []),
  (.laload, 49, 1, 0, 0, 0, []),
  (.lmul, 50, 1, 0, 0, 0, []),
  (.lstore 4, 51, 2, 0, 0, 0, []),
  (.ldc2_w 130, 53, 3, 0, 0, 12, []),
  (.aload_n 0, 56, 1, 0, 0, 0, []),
  (.getfield 53, 57, 3, 12, 18, 0, []),
  (.iload_n 3, 60, 1, 0, 0, 0, []),
  (.laload, 61, 1, 0, 0, 0, []),
  (.lmul, 62, 1, 0, 0, 0, []),
  (.lstore 6, 63, 2, 0, 0, 0, []),
  (.aload_n 0, 65, 1, 0, 0, 0, []),
  (.lload 4, 66, 2, 0, 0, 0, []),
  (.lload 6, 68, 2, 0, 0, 0, []),
  (.invokevirtual 168, 70, 3, 134, 3, 12, [2]),
  (.lstore 8, 73, 2, 0, 0, 0, []),
  (.lload 4, 75, 2, 0, 0, 0, []),
  (.lload 8, 77, 2, 0, 0, 0, []),
  (.ldiv, 79, 1, 0, 0, 0, []),
  (.lstore 4, 80, 2, 0, 0, 0, []),
  (.lload 6, 82, 2, 0, 0, 0, []),
  (.lload 8, 84, 2, 0, 0, 0, []),
  (.ldiv, 86, 1, 0, 0, 0, []),
  (.lstore 6, 87, 2, 0, 0, 0, []),
  (.aload_n 0, 89, 1, 0, 0, 0, []),
  (.aload_n 0, 90, 1, 0, 0, 0, []),
  (.getfield 224, 91, 3, 12, 22, 0, []),
  (.lload 6, 94, 2, 0, 0, 0, []),
  (.invokevirtual 168, 96, 3, 134, 3, 12, [2]),
  (.lstore 10, 99, 2, 0, 0, 0, []),
  (.aload_n 0, 101, 1, 0, 0, 0, []),
  (.aload_n 0, 102, 1, 0, 0, 0, []),
  (.getfield 220, 103, 3, 12, 21, 0, []),
  (.lload 6, 106, 2, 0, 0, 0, []),
  (.lload 10, 108, 2, 0, 0, 0, []),
  (.ldiv, 110, 1, 0, 0, 0, []),
  (.lmul, 111, 1, 0, 0, 0, []),
  (.lload 4, 112, 2, 0, 0, 0, []),
  (.aload_n 0, 114, 1, 0, 0, 0, []),
  (.getfield 224, 115, 3, 12, 22, 0, []),
  (.lload 10, 118, 2, 0, 0, 0, []),
  (.ldiv, 120, 1, 0, 0, 0, []),
  (.lmul, 121, 1, 0, 0, 0, []),
  (.ladd, 122, 1, 0, 0, 0, []),
  (.putfield 220, 123, 3, 12, 21, 0, []),
  (.aload_n 0, 126, 1, 0, 0, 0, []),
  (.aload_n 0, 127, 1, 0, 0, 0, []),
  (.getfield 224, 128, 3, 12, 22, 0, []),
  (.lload 10, 131, 2, 0, 0, 0, []),
  (.ldiv, 133, 1, 0, 0, 0, []),
  (.lload 6, 134, 2, 0, 0, 0, []),
  (.lmul, 136, 1, 0, 0, 0, []),
  (.putfield 224, 137, 3, 12, 22, 0, []),
  (.aload_n 0, 140, 1, 0, 0, 0, []),
  (.aload_n 0, 141, 1, 0, 0, 0, []),
  (.getfield 220, 142, 3, 12, 21, 0, []),
  (.aload_n 0, 145, 1, 0, 0, 0, []),
  (.getfield 224, 146, 3, 12, 22, 0, []),
  (.invokevirtual 168, 149, 3, 134, 3, 12, [2]),
  (.lstore 12, 152, 2, 0, 0, 0, []),
  (.aload_n 0, 154, 1, 0, 0, 0, []),
  (.dup, 155, 1, 0, 0, 0, []),
  (.getfield 220, 156, 3, 12, 21, 0, []),
  (.lload 12, 159, 2, 0, 0, 0, []),
  (.ldiv, 161, 1, 0, 0, 0, []),
  (.putfield 220, 162, 3, 12, 21, 0, []),
  (.aload_n 0, 165, 1, 0, 0, 0, []),
  (.dup, 166, 1, 0, 0, 0, []),
  (.getfield 224, 167, 3, 12, 22, 0, []),
  (.lload 12, 170, 2, 0, 0, 0, []),
  (.ldiv, 172, 1, 0, 0, 0, []),
  (.putfield 224, 173, 3, 12, 22, 0, []),
  (.iinc 2 1, 176, 3, 0, 0, 0, []),
  (.goto (-167), 179, 3, 8, 0, 0, []),
  (.return_, 182, 1, 0, 0, 0, [])]
def tX12_isJust : List xI := [(.aload_n 0, 0, 1, 0, 0, 0, []),
  (.iconst 4, 1, 1, 0, 0, 0, []),
  (.iload_n 1, 2, 1, 0, 0, 0, []),
  (.imul, 3, 1, 0, 0, 0, []),
  (.iload_n 2, 4, 1, 0, 0, 0, []),
  (.iadd, 5, 1, 0, 0, 0, []),
  (.invokevirtual 227, 6, 3, 147, 2, 12, [0]),
  (.aload_n 0, 9, 1, 0, 0, 0, []),
  (.getfield 220, 10, 3, 12, 21, 0, []),
  (.aload_n 0, 13, 1, 0, 0, 0, []),
  (.getfield 50, 14, 3, 12, 17, 0, []),
  (.iload_n 1, 17, 1, 0, 0, 0, []),
  (.laload, 18, 1, 0, 0, 0, []),
  (.lcmp, 19, 1, 0, 0, 0, []),
  (.ifCond .ne 21, 20, 3, 25, 0, 0, []),
  (.aload_n 0, 23, 1, 0, 0, 0, []),
  (.getfield 224, 24, 3, 12, 22, 0, []),
  (.aload_n 0, 27, 1, 0, 0, 0, []),
  (.getfield 53, 28, 3, 12, 18, 0, []),
  (.iload_n 1, 31, 1, 0, 0, 0, []),
  (.laload, 32, 1, 0, 0, 0, []),
  (.lcmp, 33, 1, 0, 0, 0, []),
  (.ifCond .ne 7, 34, 3, 25, 0, 0, []),
  (.iconst 1, 37, 1, 0, 0, 0, []),
  (.goto 4, 38, 3, 26, 0, 0, []),
  (.iconst 0, 41, 1, 0, 0, 0, []),
  (.ireturn, 42, 1, 0, 0, 0, [])]
def tX12_nearest : List xI := [(.bipush 100, 0, 2, 0, 0, 0, []),
  (.istore_n 2, 2, 1, 0, 0, 0, []),
  (.iconst 0, 3, 1, 0, 0, 0, []),
  (.istore_n 3, 4, 1, 0, 0, 0, []),
  (.iload_n 3, 5, 1, 0, 0, 0, []),
  (.aload_n 0, 6, 1, 0, 0, 0, []),
  (.getfield 19, 7, 3, 12, 6, 0, []),
  (.iload_n 1, 10, 1, 0, 0, 0, []),
  (.iaload, 11, 1, 0, 0, 0, []),
  (.if_icmp .ge 48, 12, 3, 39, 0, 0, []),
  (.aload_n 0, 15, 1, 0, 0, 0, []),
  (.getfield 62, 16, 3, 12, 23, 0, []),
  (.aload_n 0, 19, 1, 0, 0, 0, []),
  (.getfield 22, 20, 3, 12, 7, 0, []),
  (.iconst 4, 23, 1, 0, 0, 0, []),
  (.iload_n 1, 24, 1, 0, 0, 0, []),
  (.imul, 25, 1, 0, 0, 0, []),
  (.iload_n 3, 26, 1, 0, 0, 0, []),
  (.iadd, 27, 1, 0, 0, 0, []),
  (.iaload, 28, 1, 0, 0, 0, []),
  (.iaload, 29, 1, 0, 0, 0, []),
  (.iload_n 2, 30, 1, 0, 0, 0, []),
  (.if_icmp .ge 21, 31, 3, 35, 0, 0, []),
  (.aload_n 0, 34, 1, 0, 0, 0, []),
  (.getfield 62, 35, 3, 12, 23, 0, []),
  (.aload_n 0, 38, 1, 0, 0, 0, []),
  (.getfield 22, 39, 3, 12, 7, 0, []),
  (.iconst 4, 42, 1, 0, 0, 0, []),
  (.iload_n 1, 43, 1, 0, 0, 0, []),
  (.imul, 44, 1, 0, 0, 0, []),
  (.iload_n 3, 45, 1, 0, 0, 0, []),
  (.iadd, 46, 1, 0, 0, 0, []),
  (.iaload, 47, 1, 0, 0, 0, []),
  (.iaload, 48, 1, 0, 0, 0, []),
  (.goto 4, 49, 3, 36, 0, 0, []),
  (.iload_n 2, 52, 1, 0, 0, 0, []),
  (.istore_n 2, 53, 1, 0, 0, 0, []),
  (.iinc 3 1, 54, 3, 0, 0, 0, []),
  (.goto (-52), 57, 3, 4, 0, 0, []),
  (.iload_n 2, 60, 1, 0, 0, 0, []),
  (.ireturn, 61, 1, 0, 0, 0, [])]
def tX12_findDistances : List xI := [(.iconst 0, 0, 1, 0, 0, 0, []),
  (.istore_n 1, 1, 1, 0, 0, 0, []),
  (.iload_n 1, 2, 1, 0, 0, 0, []),
  (.aload_n 0, 3, 1, 0, 0, 0, []),
  (.getfield 105, 4, 3, 12, 1, 0, []),
  (.if_icmp .ge 29, 7, 3, 19, 0, 0, []),
  (.aload_n 0, 10, 1, 0, 0, 0, []),
  (.getfield 62, 11, 3, 12, 23, 0, []),
  (.iload_n 1, 14, 1, 0, 0, 0, []),
  (.aload_n 0, 15, 1, 0, 0, 0, []),
  (.iload_n 1, 16, 1, 0, 0, 0, []),
  (.invokevirtual 231, 17, 3, 116, 2, 12, [1]),
  (.ifCond .eq 7, 20, 3, 15, 0, 0, []),
  (.iconst 0, 23, 1, 0, 0, 0, []),
  (.goto 5, 24, 3, 16, 0, 0, []),
  (.bipush 100, 27, 2, 0, 0, 0, []),
  (.iastore, 29, 1, 0, 0, 0, []),
  (.iinc 1 1, 30, 3, 0, 0, 0, []),
  (.goto (-31), 33, 3, 2, 0, 0, []),
  (.iconst 0, 36, 1, 0, 0, 0, []),
  (.istore_n 1, 37, 1, 0, 0, 0, []),
  (.iload_n 1, 38, 1, 0, 0, 0, []),
  (.bipush 11, 39, 2, 0, 0, 0, []),
  (.if_icmp .ge 109, 41, 3, 84, 0, 0, []),
  (.iconst 0, 44, 1, 0, 0, 0, []),
  (.istore_n 2, 45, 1, 0, 0, 0, []),
  (.iload_n 2, 46, 1, 0, 0, 0, []),
  (.aload_n 0, 47, 1, 0, 0, 0, []),
  (.getfield 105, 48, 3, 12, 1, 0, []),
  (.if_icmp .ge 93, 51, 3, 82, 0, 0, []),
  (.iconst 0, 54, 1, 0, 0, 0, []),
  (.istore_n 3, 55, 1, 0, 0, 0, []),
  (.iload_n 3, 56, 1, 0, 0, 0, []),
  (.aload_n 0, 57, 1, 0, 0, 0, []),
  (.getfield 7, 58, 3, 12, 3, 0, []),
  (.iload_n 2, 61, 1, 0, 0, 0, []),
  (.iaload, 62, 1, 0, 0, 0, []),
  (.if_icmp .ge 75, 63, 3, 80, 0, 0, []),
  (.aload_n 0, 66, 1, 0, 0, 0, []),
  (.getfield 50, 67, 3, 12, 17, 0, []),
  (.iload_n 2, 70, 1, 0, 0, 0, []),
  (.laload, 71, 1, 0, 0, 0, []),
  (.lconst 0, 72, 1, 0, 0, 0, []),
  (.lcmp, 73, 1, 0, 0, 0, []),
  (.ifCond .le 64, 74, 3, 80, 0, 0, []),
  (.aload_n 0, 77, 1, 0, 0, 0, []),
  (.iload_n 2, 78, 1, 0, 0, 0, []),
  (.iload_n 3, 79, 1, 0, 0, 0, []),
  (.invokevirtual 234, 80, 3, 148, 3, 12, [1]),
  (.ifCond .eq 17, 83, 3, 60, 0, 0, []),
  (.iconst 1, 86, 1, 0, 0, 0, []),
  (.aload_n 0, 87, 1, 0, 0, 0, []),
  (.iconst 4, 88, 1, 0, 0, 0, []),
  (.iload_n 2, 89, 1, 0, 0, 0, []),
  (.imul, 90, 1, 0, 0, 0, []),
  (.iload_n 3, 91, 1, 0, 0, 0, []),
  (.iadd, 92, 1, 0, 0, 0, []),
  (.invokevirtual 237, 93, 3, 149, 2, 12, [1]),
  (.iadd, 96, 1, 0, 0, 0, []),
  (.goto 5, 97, 3, 61, 0, 0, []),
  (.bipush 100, 100, 2, 0, 0, 0, []),
  (.istore 4, 102, 2, 0, 0, 0, []),
  (.aload_n 0, 104, 1, 0, 0, 0, []),
  (.getfield 62, 105, 3, 12, 23, 0, []),
  (.iload_n 2, 108, 1, 0, 0, 0, []),
  (.iload 4, 109, 2, 0, 0, 0, []),
  (.aload_n 0, 111, 1, 0, 0, 0, []),
  (.getfield 62, 112, 3, 12, 23, 0, []),
  (.iload_n 2, 115, 1, 0, 0, 0, []),
  (.iaload, 116, 1, 0, 0, 0, []),
  (.if_icmp .ge 8, 117, 3, 73, 0, 0, []),
  (.iload 4, 120, 2, 0, 0, 0, []),
  (.goto 9, 122, 3, 77, 0, 0, []),
  (.aload_n 0, 125, 1, 0, 0, 0, []),
  (.getfield 62, 126, 3, 12, 23, 0, []),
  (.iload_n 2, 129, 1, 0, 0, 0, []),
  (.iaload, 130, 1, 0, 0, 0, []),
  (.iastore, 131, 1, 0, 0, 0, []),
  (.iinc 3 1, 132, 3, 0, 0, 0, []),
  (.goto (-79), 135, 3, 32, 0, 0, []),
  (.iinc 2 1, 138, 3, 0, 0, 0, []),
  (.goto (-95), 141, 3, 26, 0, 0, []),
  (.iinc 1 1, 144, 3, 0, 0, 0, []),
  (.goto (-109), 147, 3, 21, 0, 0, []),
  (.return_, 150, 1, 0, 0, 0, [])]
def tX12_refusal : List xI := [(.aload_n 0, 0, 1, 0, 0, 0, []),
  (.invokevirtual 136, 1, 3, 124, 1, 12, [1]),
  (.ifCond .le 9, 4, 3, 5, 0, 0, []),
  (.ldc2_w 212, 7, 3, 0, 0, (-2), []),
  (.goto 18, 10, 3, 12, 0, 0, []),
  (.aload_n 0, 13, 1, 0, 0, 0, []),
  (.iconst 0, 14, 1, 0, 0, 0, []),
  (.invokevirtual 214, 15, 3, 145, 2, 12, [1]),
  (.ifCond .ne 9, 18, 3, 11, 0, 0, []),
  (.ldc2_w 218, 21, 3, 0, 0, (-3), []),
  (.goto 4, 24, 3, 12, 0, 0, []),
  (.lconst 0, 27, 1, 0, 0, 0, []),
  (.lreturn, 28, 1, 0, 0, 0, [])]
def tX12_choice : List xI := [(.aload_n 0, 0, 1, 0, 0, 0, []),
  (.iconst 0, 1, 1, 0, 0, 0, []),
  (.putfield 101, 2, 3, 12, 0, 0, []),
  (.aload_n 0, 5, 1, 0, 0, 0, []),
  (.iload_n 1, 6, 1, 0, 0, 0, []),
  (.invokevirtual 108, 7, 3, 114, 2, 12, [1]),
  (.ifCond .eq 12, 10, 3, 12, 0, 0, []),
  (.aload_n 0, 13, 1, 0, 0, 0, []),
  (.getfield 7, 14, 3, 12, 3, 0, []),
  (.iload_n 1, 17, 1, 0, 0, 0, []),
  (.iaload, 18, 1, 0, 0, 0, []),
  (.ifCond .ne 5, 19, 3, 14, 0, 0, []),
  (.iconst (-1), 22, 1, 0, 0, 0, []),
  (.ireturn, 23, 1, 0, 0, 0, []),
  (.aload_n 0, 24, 1, 0, 0, 0, []),
  (.invokevirtual 240, 25, 3, 151, 1, 12, [2]),
  (.l2i, 28, 1, 0, 0, 0, []),
  (.istore_n 2, 29, 1, 0, 0, 0, []),
  (.iload_n 2, 30, 1, 0, 0, 0, []),
  (.ifCond .ge 5, 31, 3, 22, 0, 0, []),
  (.iload_n 2, 34, 1, 0, 0, 0, []),
  (.ireturn, 35, 1, 0, 0, 0, []),
  (.aload_n 0, 36, 1, 0, 0, 0, []),
  (.iload_n 1, 37, 1, 0, 0, 0, []),
  (.invokevirtual 231, 38, 3, 116, 2, 12, [1]),
  (.ifCond .eq 5, 41, 3, 28, 0, 0, []),
  (.iconst 0, 44, 1, 0, 0, 0, []),
  (.ireturn, 45, 1, 0, 0, 0, []),
  (.aload_n 0, 46, 1, 0, 0, 0, []),
  (.invokevirtual 244, 47, 3, 150, 1, 12, [0]),
  (.aload_n 0, 50, 1, 0, 0, 0, []),
  (.getfield 50, 51, 3, 12, 17, 0, []),
  (.iload_n 1, 54, 1, 0, 0, 0, []),
  (.laload, 55, 1, 0, 0, 0, []),
  (.lconst 0, 56, 1, 0, 0, 0, []),
  (.lcmp, 57, 1, 0, 0, 0, []),
  (.ifCond .le 15, 58, 3, 43, 0, 0, []),
  (.aload_n 0, 61, 1, 0, 0, 0, []),
  (.iload_n 1, 62, 1, 0, 0, 0, []),
  (.invokevirtual 123, 63, 3, 117, 2, 12, [1]),
  (.ifCond .ne 7, 66, 3, 43, 0, 0, []),
  (.iconst 1, 69, 1, 0, 0, 0, []),
  (.goto 4, 70, 3, 44, 0, 0, []),
  (.iconst 0, 73, 1, 0, 0, 0, []),
  (.istore_n 3, 74, 1, 0, 0, 0, []),
  (.iconst 0, 75, 1, 0, 0, 0, []),
  (.istore 4, 76, 2, 0, 0, 0, []),
  (.iload 4, 78, 2, 0, 0, 0, []),
  (.aload_n 0, 80, 1, 0, 0, 0, []),
  (.getfield 7, 81, 3, 12, 3, 0, []),
  (.iload_n 1, 84, 1, 0, 0, 0, []),
  (.iaload, 85, 1, 0, 0, 0, []),
  (.if_icmp .ge 45, 86, 3, 76, 0, 0, []),
  (.aload_n 0, 89, 1, 0, 0, 0, []),
  (.iload_n 1, 90, 1, 0, 0, 0, []),
  (.iload 4, 91, 2, 0, 0, 0, []),
  (.invokevirtual 234, 93, 3, 148, 3, 12, [1]),
  (.ifCond .eq 29, 96, 3, 74, 0, 0, []),
  (.iload_n 3, 99, 1, 0, 0, 0, []),
  (.ifCond .eq 22, 100, 3, 72, 0, 0, []),
  (.aload_n 0, 103, 1, 0, 0, 0, []),
  (.iconst 4, 104, 1, 0, 0, 0, []),
  (.iload_n 1, 105, 1, 0, 0, 0, []),
  (.imul, 106, 1, 0, 0, 0, []),
  (.iload 4, 107, 2, 0, 0, 0, []),
  (.iadd, 109, 1, 0, 0, 0, []),
  (.invokevirtual 237, 110, 3, 149, 2, 12, [1]),
  (.aload_n 0, 113, 1, 0, 0, 0, []),
  (.getfield 62, 114, 3, 12, 23, 0, []),
  (.iload_n 1, 117, 1, 0, 0, 0, []),
  (.iaload, 118, 1, 0, 0, 0, []),
  (.if_icmp .ge 6, 119, 3, 74, 0, 0, []),
  (.iload 4, 122, 2, 0, 0, 0, []),
  (.ireturn, 124, 1, 0, 0, 0, []),
  (.iinc 4 1, 125, 3, 0, 0, 0, []),
  (.goto (-50), 128, 3, 47, 0, 0, []),
  (.iconst 0, 131, 1, 0, 0, 0, []),
  (.ireturn, 132, 1, 0, 0, 0, [])]
def tX12_distance : List xI := [(.aload_n 0, 0, 1, 0, 0, 0, []),
  (.iconst 0, 1, 1, 0, 0, 0, []),
  (.putfield 101, 2, 3, 12, 0, 0, []),
  (.aload_n 0, 5, 1, 0, 0, 0, []),
  (.iload_n 1, 6, 1, 0, 0, 0, []),
  (.invokevirtual 108, 7, 3, 114, 2, 12, [1]),
  (.ifCond .ne 5, 10, 3, 9, 0, 0, []),
  (.iconst (-1), 13, 1, 0, 0, 0, []),
  (.ireturn, 14, 1, 0, 0, 0, []),
  (.aload_n 0, 15, 1, 0, 0, 0, []),
  (.invokevirtual 240, 16, 3, 151, 1, 12, [2]),
  (.l2i, 19, 1, 0, 0, 0, []),
  (.istore_n 2, 20, 1, 0, 0, 0, []),
  (.iload_n 2, 21, 1, 0, 0, 0, []),
  (.ifCond .ge 5, 22, 3, 17, 0, 0, []),
  (.iload_n 2, 25, 1, 0, 0, 0, []),
  (.ireturn, 26, 1, 0, 0, 0, []),
  (.aload_n 0, 27, 1, 0, 0, 0, []),
  (.getfield 50, 28, 3, 12, 17, 0, []),
  (.iload_n 1, 31, 1, 0, 0, 0, []),
  (.laload, 32, 1, 0, 0, 0, []),
  (.lconst 0, 33, 1, 0, 0, 0, []),
  (.lcmp, 34, 1, 0, 0, 0, []),
  (.ifCond .ne 6, 35, 3, 26, 0, 0, []),
  (.bipush (-4), 38, 2, 0, 0, 0, []),
  (.ireturn, 40, 1, 0, 0, 0, []),
  (.aload_n 0, 41, 1, 0, 0, 0, []),
  (.invokevirtual 244, 42, 3, 150, 1, 12, [0]),
  (.aload_n 0, 45, 1, 0, 0, 0, []),
  (.getfield 62, 46, 3, 12, 23, 0, []),
  (.iload_n 1, 49, 1, 0, 0, 0, []),
  (.iaload, 50, 1, 0, 0, 0, []),
  (.ireturn, 51, 1, 0, 0, 0, [])]
def tX12_sum : List xI := [(.aload_n 0, 0, 1, 0, 0, 0, []),
  (.iconst 0, 1, 1, 0, 0, 0, []),
  (.putfield 101, 2, 3, 12, 0, 0, []),
  (.aload_n 0, 5, 1, 0, 0, 0, []),
  (.iload_n 1, 6, 1, 0, 0, 0, []),
  (.iload_n 2, 7, 1, 0, 0, 0, []),
  (.invokevirtual 126, 8, 3, 115, 3, 12, [1]),
  (.ifCond .eq 13, 11, 3, 14, 0, 0, []),
  (.iload_n 3, 14, 1, 0, 0, 0, []),
  (.i2l, 15, 1, 0, 0, 0, []),
  (.lconst 0, 16, 1, 0, 0, 0, []),
  (.lconst 1, 17, 1, 0, 0, 0, []),
  (.invokestatic 117, 18, 3, 113, 3, 0, [1]),
  (.ifCond .ne 7, 21, 3, 16, 0, 0, []),
  (.ldc2_w 210, 24, 3, 0, 0, (-1), []),
  (.lreturn, 27, 1, 0, 0, 0, []),
  (.aload_n 0, 28, 1, 0, 0, 0, []),
  (.invokevirtual 240, 29, 3, 151, 1, 12, [2]),
  (.lstore 4, 32, 2, 0, 0, 0, []),
  (.lload 4, 34, 2, 0, 0, 0, []),
  (.lconst 0, 36, 1, 0, 0, 0, []),
  (.lcmp, 37, 1, 0, 0, 0, []),
  (.ifCond .ge 6, 38, 3, 25, 0, 0, []),
  (.lload 4, 41, 2, 0, 0, 0, []),
  (.lreturn, 43, 1, 0, 0, 0, []),
  (.aload_n 0, 44, 1, 0, 0, 0, []),
  (.iconst 4, 45, 1, 0, 0, 0, []),
  (.iload_n 1, 46, 1, 0, 0, 0, []),
  (.imul, 47, 1, 0, 0, 0, []),
  (.iload_n 2, 48, 1, 0, 0, 0, []),
  (.iadd, 49, 1, 0, 0, 0, []),
  (.invokevirtual 227, 50, 3, 147, 2, 12, [0]),
  (.iload_n 3, 53, 1, 0, 0, 0, []),
  (.ifCond .ne 10, 54, 3, 37, 0, 0, []),
  (.aload_n 0, 57, 1, 0, 0, 0, []),
  (.getfield 220, 58, 3, 12, 21, 0, []),
  (.goto 7, 61, 3, 39, 0, 0, []),
  (.aload_n 0, 64, 1, 0, 0, 0, []),
  (.getfield 224, 65, 3, 12, 22, 0, []),
  (.lreturn, 68, 1, 0, 0, 0, [])]
def tX12_start : List xI := [(.aload_n 0, 0, 1, 0, 0, 0, []),
  (.lconst 1, 1, 1, 0, 0, 0, []),
  (.putfield 247, 2, 3, 12, 26, 0, []),
  (.iconst 0, 5, 1, 0, 0, 0, []),
  (.istore_n 1, 6, 1, 0, 0, 0, []),
  (.iload_n 1, 7, 1, 0, 0, 0, []),
  (.bipush 10, 8, 2, 0, 0, 0, []),
  (.if_icmp .ge 28, 10, 3, 21, 0, 0, []),
  (.aload_n 0, 13, 1, 0, 0, 0, []),
  (.getfield 65, 14, 3, 12, 24, 0, []),
  (.iload_n 1, 17, 1, 0, 0, 0, []),
  (.aload_n 0, 18, 1, 0, 0, 0, []),
  (.iload_n 1, 19, 1, 0, 0, 0, []),
  (.invokevirtual 231, 20, 3, 116, 2, 12, [1]),
  (.ifCond .eq 7, 23, 3, 17, 0, 0, []),
  (.lconst 1, 26, 1, 0, 0, 0, []),
  (.goto 4, 27, 3, 18, 0, 0, []),
  (.lconst 0, 30, 1, 0, 0, 0, []),
  (.lastore, 31, 1, 0, 0, 0, []),
  (.iinc 1 1, 32, 3, 0, 0, 0, []),
  (.goto (-28), 35, 3, 5, 0, 0, []),
  (.return_, 38, 1, 0, 0, 0, [])]
def tX12_onwards : List xI := [(.aload_n 0, 0, 1, 0, 0, 0, []),
  (.dup, 1, 1, 0, 0, 0, []),
  (.getfield 247, 2, 3, 12, 26, 0, []),
  (.ldc2_w 130, 5, 3, 0, 0, 12, []),
  (.lmul, 8, 1, 0, 0, 0, []),
  (.putfield 247, 9, 3, 12, 26, 0, []),
  (.iconst 0, 12, 1, 0, 0, 0, []),
  (.istore_n 2, 13, 1, 0, 0, 0, []),
  (.iload_n 2, 14, 1, 0, 0, 0, []),
  (.aload_n 0, 15, 1, 0, 0, 0, []),
  (.getfield 105, 16, 3, 12, 1, 0, []),
  (.if_icmp .ge 202, 19, 3, 129, 0, 0, []),
  (.aload_n 0, 22, 1, 0, 0, 0, []),
  (.getfield 68, 23, 3, 12, 25, 0, []),
  (.iload_n 2, 26, 1, 0, 0, 0, []),
  (.aload_n 0, 27, 1, 0, 0, 0, []),
  (.iload_n 2, 28, 1, 0, 0, 0, []),
  (.invokevirtual 231, 29, 3, 116, 2, 12, [1]),
  (.ifCond .eq 10, 32, 3, 22, 0, 0, []),
  (.aload_n 0, 35, 1, 0, 0, 0, []),
  (.getfield 247, 36, 3, 12, 26, 0, []),
  (.goto 4, 39, 3, 23, 0, 0, []),
  (.lconst 0, 42, 1, 0, 0, 0, []),
  (.lastore, 43, 1, 0, 0, 0, []),
  (.iconst 0, 44, 1, 0, 0, 0, []),
  (.istore_n 3, 45, 1, 0, 0, 0, []),
  (.iload_n 3, 46, 1, 0, 0, 0, []),
  (.aload_n 0, 47, 1, 0, 0, 0, []),
  (.getfield 7, 48, 3, 12, 3, 0, []),
  (.iload_n 2, 51, 1, 0, 0, 0, []),
  (.iaload, 52, 1, 0, 0, 0, []),
  (.if_icmp .ge 162, 53, 3, 127, 0, 0, []),
  (.aload_n 0, 56, 1, 0, 0, 0, []),
  (.iload_n 2, 57, 1, 0, 0, 0, []),
  (.invokevirtual 231, 58, 3, 116, 2, 12, [1]),
  (.ifCond .ne 154, 61, 3, 127, 0, 0, []),
  (.lconst 0, 64, 1, 0, 0, 0, []),
  (.lstore 4, 65, 2, 0, 0, 0, []),
  (.iconst 0, 67, 1, 0, 0, 0, []),
  (.istore 6, 68, 2, 0, 0, 0, []),
  (.iload 6, 70, 2, 0, 0, 0, []),
  (.aload_n 0, 72, 1, 0, 0, 0, []),
  (.getfield 19, 73, 3, 12, 6, 0, []),
  (.iconst 4, 76, 1, 0, 0, 0, []),
  (.iload_n 2, 77, 1, 0, 0, 0, []),
  (.imul, 78, 1, 0, 0, 0, []),
  (.iload_n 3, 79, 1, 0, 0, 0, []),
  (.iadd, 80, 1, 0, 0, 0, []),
  (.iaload, 81, 1, 0, 0, 0, []),
  (.if_icmp .ge 53, 82, 3, 84, 0, 0, []),
  (.lload 4, 85, 2, 0, 0, 0, []),
  (.aload_n 0, 87, 1, 0, 0, 0, []),
  (.getfield 25, 88, 3, 12, 8, 0, []),
  (.bipush 16, 91, 2, 0, 0, 0, []),
  (.iload_n 2, 93, 1, 0, 0, 0, []),
  (.imul, 94, 1, 0, 0, 0, []),
  (.iconst 4, 95, 1, 0, 0, 0, []),
  (.iload_n 3, 96, 1, 0, 0, 0, []),
  (.imul, 97, 1, 0, 0, 0, []),
  (.iadd, 98, 1, 0, 0, 0, []),
  (.iload 6, 99, 2, 0, 0, 0, []),
  (.iadd, 101, 1, 0, 0, 0, []),
  (.iaload, 102, 1, 0, 0, 0, []),
  (.i2l, 103, 1, 0, 0, 0, []),
  (.aload_n 0, 104, 1, 0, 0, 0, []),
  (.getfield 65, 105, 3, 12, 24, 0, []),
  (.aload_n 0, 108, 1, 0, 0, 0, []),
  (.getfield 22, 109, 3, 12, 7, 0, []),
  (.bipush 16, 112, 2, 0, 0, 0, []),
  (.iload_n 2, 114, 1, 0, 0, 0, []),
  (.imul, 115, 1, 0, 0, 0, []),
  (.iconst 4, 116, 1, 0, 0, 0, []),
  (.iload_n 3, 117, 1, 0, 0, 0, []),
  (.imul, 118, 1, 0, 0, 0, []),
  (.iadd, 119, 1, 0, 0, 0, []),
  (.iload 6, 120, 2, 0, 0, 0, []),
  (.iadd, 122, 1, 0, 0, 0, []),
  (.iaload, 123, 1, 0, 0, 0, []),
  (.laload, 124, 1, 0, 0, 0, []),
  (.lmul, 125, 1, 0, 0, 0, []),
  (.ladd, 126, 1, 0, 0, 0, []),
  (.lstore 4, 127, 2, 0, 0, 0, []),
  (.iinc 6 1, 129, 3, 0, 0, 0, []),
  (.goto (-62), 132, 3, 40, 0, 0, []),
  (.aload_n 0, 135, 1, 0, 0, 0, []),
  (.iload_n 2, 136, 1, 0, 0, 0, []),
  (.iload_n 1, 137, 1, 0, 0, 0, []),
  (.invokevirtual 146, 138, 3, 128, 3, 12, [1]),
  (.ifCond .eq 23, 141, 3, 100, 0, 0, []),
  (.lload 4, 144, 2, 0, 0, 0, []),
  (.aload_n 0, 146, 1, 0, 0, 0, []),
  (.getfield 68, 147, 3, 12, 25, 0, []),
  (.iload_n 2, 150, 1, 0, 0, 0, []),
  (.laload, 151, 1, 0, 0, 0, []),
  (.lcmp, 152, 1, 0, 0, 0, []),
  (.ifCond .le 7, 153, 3, 98, 0, 0, []),
  (.iconst 1, 156, 1, 0, 0, 0, []),
  (.goto 24, 157, 3, 110, 0, 0, []),
  (.iconst 0, 160, 1, 0, 0, 0, []),
  (.goto 20, 161, 3, 110, 0, 0, []),
  (.lload 4, 164, 2, 0, 0, 0, []),
  (.aload_n 0, 166, 1, 0, 0, 0, []),
  (.getfield 68, 167, 3, 12, 25, 0, []),
  (.iload_n 2, 170, 1, 0, 0, 0, []),
  (.laload, 171, 1, 0, 0, 0, []),
  (.lcmp, 172, 1, 0, 0, 0, []),
  (.ifCond .ge 7, 173, 3, 109, 0, 0, []),
  (.iconst 1, 176, 1, 0, 0, 0, []),
  (.goto 4, 177, 3, 110, 0, 0, []),
  (.iconst 0, 180, 1, 0, 0, 0, []),
  (.istore 6, 181, 2, 0, 0, 0, []),
  (.aload_n 0, 183, 1, 0, 0, 0, []),
  (.getfield 68, 184, 3, 12, 25, 0, []),
  (.iload_n 2, 187, 1, 0, 0, 0, []),
  (.iload_n 3, 188, 1, 0, 0, 0, []),
  (.ifCond .eq 8, 189, 3, 118, 0, 0, []),
  (.iload 6, 192, 2, 0, 0, 0, []),
  (.ifCond .eq 8, 194, 3, 120, 0, 0, []),
  (.lload 4, 197, 2, 0, 0, 0, []),
  (.goto 9, 199, 3, 124, 0, 0, []),
  (.aload_n 0, 202, 1, 0, 0, 0, []),
  (.getfield 68, 203, 3, 12, 25, 0, []),
  (.iload_n 2, 206, 1, 0, 0, 0, []),
  (.laload, 207, 1, 0, 0, 0, []),
  (.lastore, 208, 1, 0, 0, 0, []),
  (.iinc 3 1, 209, 3, 0, 0, 0, []),
  (.goto (-166), 212, 3, 26, 0, 0, []),
  (.iinc 2 1, 215, 3, 0, 0, 0, []),
  (.goto (-204), 218, 3, 8, 0, 0, []),
  (.iconst 0, 221, 1, 0, 0, 0, []),
  (.istore_n 2, 222, 1, 0, 0, 0, []),
  (.iload_n 2, 223, 1, 0, 0, 0, []),
  (.aload_n 0, 224, 1, 0, 0, 0, []),
  (.getfield 105, 225, 3, 12, 1, 0, []),
  (.if_icmp .ge 21, 228, 3, 145, 0, 0, []),
  (.aload_n 0, 231, 1, 0, 0, 0, []),
  (.getfield 65, 232, 3, 12, 24, 0, []),
  (.iload_n 2, 235, 1, 0, 0, 0, []),
  (.aload_n 0, 236, 1, 0, 0, 0, []),
  (.getfield 68, 237, 3, 12, 25, 0, []),
  (.iload_n 2, 240, 1, 0, 0, 0, []),
  (.laload, 241, 1, 0, 0, 0, []),
  (.lastore, 242, 1, 0, 0, 0, []),
  (.iinc 2 1, 243, 3, 0, 0, 0, []),
  (.goto (-23), 246, 3, 131, 0, 0, []),
  (.return_, 249, 1, 0, 0, 0, [])]
def tX12_within : List xI := [(.aload_n 0, 0, 1, 0, 0, 0, []),
  (.iconst 0, 1, 1, 0, 0, 0, []),
  (.putfield 101, 2, 3, 12, 0, 0, []),
  (.aload_n 0, 5, 1, 0, 0, 0, []),
  (.iload_n 1, 6, 1, 0, 0, 0, []),
  (.invokevirtual 108, 7, 3, 114, 2, 12, [1]),
  (.ifCond .eq 26, 10, 3, 19, 0, 0, []),
  (.iload_n 2, 13, 1, 0, 0, 0, []),
  (.i2l, 14, 1, 0, 0, 0, []),
  (.lconst 0, 15, 1, 0, 0, 0, []),
  (.ldc2_w 250, 16, 3, 0, 0, 10, []),
  (.invokestatic 117, 19, 3, 113, 3, 0, [1]),
  (.ifCond .eq 14, 22, 3, 19, 0, 0, []),
  (.iload 4, 25, 2, 0, 0, 0, []),
  (.i2l, 27, 1, 0, 0, 0, []),
  (.lconst 0, 28, 1, 0, 0, 0, []),
  (.lconst 1, 29, 1, 0, 0, 0, []),
  (.invokestatic 117, 30, 3, 113, 3, 0, [1]),
  (.ifCond .ne 7, 33, 3, 21, 0, 0, []),
  (.ldc2_w 210, 36, 3, 0, 0, (-1), []),
  (.lreturn, 39, 1, 0, 0, 0, []),
  (.aload_n 0, 40, 1, 0, 0, 0, []),
  (.invokevirtual 136, 41, 3, 124, 1, 12, [1]),
  (.ifCond .le 7, 44, 3, 26, 0, 0, []),
  (.ldc2_w 212, 47, 3, 0, 0, (-2), []),
  (.lreturn, 50, 1, 0, 0, 0, []),
  (.aload_n 0, 51, 1, 0, 0, 0, []),
  (.invokevirtual 252, 52, 3, 155, 1, 12, [0]),
  (.iconst 0, 55, 1, 0, 0, 0, []),
  (.istore 5, 56, 2, 0, 0, 0, []),
  (.iload 5, 58, 2, 0, 0, 0, []),
  (.iload_n 2, 60, 1, 0, 0, 0, []),
  (.if_icmp .ge 14, 61, 3, 38, 0, 0, []),
  (.aload_n 0, 64, 1, 0, 0, 0, []),
  (.iload_n 3, 65, 1, 0, 0, 0, []),
  (.invokevirtual 255, 66, 3, 156, 2, 12, [0]),
  (.iinc 5 1, 69, 3, 0, 0, 0, []),
  (.goto (-14), 72, 3, 30, 0, 0, []),
  (.aload_n 0, 75, 1, 0, 0, 0, []),
  (.aload_n 0, 76, 1, 0, 0, 0, []),
  (.getfield 65, 77, 3, 12, 24, 0, []),
  (.iload_n 1, 80, 1, 0, 0, 0, []),
  (.laload, 81, 1, 0, 0, 0, []),
  (.aload_n 0, 82, 1, 0, 0, 0, []),
  (.getfield 247, 83, 3, 12, 26, 0, []),
  (.invokevirtual 168, 86, 3, 134, 3, 12, [2]),
  (.lstore 5, 89, 2, 0, 0, 0, []),
  (.iload 4, 91, 2, 0, 0, 0, []),
  (.ifCond .ne 12, 93, 3, 54, 0, 0, []),
  (.aload_n 0, 96, 1, 0, 0, 0, []),
  (.getfield 65, 97, 3, 12, 24, 0, []),
  (.iload_n 1, 100, 1, 0, 0, 0, []),
  (.laload, 101, 1, 0, 0, 0, []),
  (.goto 7, 102, 3, 56, 0, 0, []),
  (.aload_n 0, 105, 1, 0, 0, 0, []),
  (.getfield 247, 106, 3, 12, 26, 0, []),
  (.lload 5, 109, 2, 0, 0, 0, []),
  (.ldiv, 111, 1, 0, 0, 0, []),
  (.lreturn, 112, 1, 0, 0, 0, [])]
def tX12_bound : List xI := [(.aload_n 0, 0, 1, 0, 0, 0, []),
  (.iconst 0, 1, 1, 0, 0, 0, []),
  (.putfield 101, 2, 3, 12, 0, 0, []),
  (.aload_n 0, 5, 1, 0, 0, 0, []),
  (.iload_n 1, 6, 1, 0, 0, 0, []),
  (.invokevirtual 108, 7, 3, 114, 2, 12, [1]),
  (.ifCond .eq 15, 10, 3, 13, 0, 0, []),
  (.iload_n 2, 13, 1, 0, 0, 0, []),
  (.i2l, 14, 1, 0, 0, 0, []),
  (.lconst 0, 15, 1, 0, 0, 0, []),
  (.ldc2_w 130, 16, 3, 0, 0, 12, []),
  (.invokestatic 117, 19, 3, 113, 3, 0, [1]),
  (.ifCond .ne 5, 22, 3, 15, 0, 0, []),
  (.iconst (-1), 25, 1, 0, 0, 0, []),
  (.ireturn, 26, 1, 0, 0, 0, []),
  (.aload_n 0, 27, 1, 0, 0, 0, []),
  (.invokevirtual 136, 28, 3, 124, 1, 12, [1]),
  (.ifCond .le 6, 31, 3, 20, 0, 0, []),
  (.bipush (-2), 34, 2, 0, 0, 0, []),
  (.ireturn, 36, 1, 0, 0, 0, []),
  (.aload_n 0, 37, 1, 0, 0, 0, []),
  (.invokevirtual 252, 38, 3, 155, 1, 12, [0]),
  (.iconst 0, 41, 1, 0, 0, 0, []),
  (.istore_n 3, 42, 1, 0, 0, 0, []),
  (.iload_n 3, 43, 1, 0, 0, 0, []),
  (.bipush 10, 44, 2, 0, 0, 0, []),
  (.if_icmp .gt 37, 46, 3, 47, 0, 0, []),
  (.ldc2_w 130, 49, 3, 0, 0, 12, []),
  (.aload_n 0, 52, 1, 0, 0, 0, []),
  (.getfield 65, 53, 3, 12, 24, 0, []),
  (.iload_n 1, 56, 1, 0, 0, 0, []),
  (.laload, 57, 1, 0, 0, 0, []),
  (.lmul, 58, 1, 0, 0, 0, []),
  (.iload_n 2, 59, 1, 0, 0, 0, []),
  (.i2l, 60, 1, 0, 0, 0, []),
  (.aload_n 0, 61, 1, 0, 0, 0, []),
  (.getfield 247, 62, 3, 12, 26, 0, []),
  (.lmul, 65, 1, 0, 0, 0, []),
  (.lcmp, 66, 1, 0, 0, 0, []),
  (.ifCond .lt 5, 67, 3, 42, 0, 0, []),
  (.iload_n 3, 70, 1, 0, 0, 0, []),
  (.ireturn, 71, 1, 0, 0, 0, []),
  (.aload_n 0, 72, 1, 0, 0, 0, []),
  (.iconst 0, 73, 1, 0, 0, 0, []),
  (.invokevirtual 255, 74, 3, 156, 2, 12, [0]),
  (.iinc 3 1, 77, 3, 0, 0, 0, []),
  (.goto (-37), 80, 3, 24, 0, 0, []),
  (.bipush (-3), 83, 2, 0, 0, 0, []),
  (.ireturn, 85, 1, 0, 0, 0, [])]
def tX12_sets : List xI := [(.aload_n 0, 0, 1, 0, 0, 0, []),
  (.iconst 0, 1, 1, 0, 0, 0, []),
  (.putfield 101, 2, 3, 12, 0, 0, []),
  (.iload_n 1, 5, 1, 0, 0, 0, []),
  (.i2l, 6, 1, 0, 0, 0, []),
  (.lconst 0, 7, 1, 0, 0, 0, []),
  (.ldc2_w 115, 8, 3, 0, 0, 3, []),
  (.invokestatic 117, 11, 3, 113, 3, 0, [1]),
  (.ifCond .ne 5, 14, 3, 11, 0, 0, []),
  (.iconst (-1), 17, 1, 0, 0, 0, []),
  (.ireturn, 18, 1, 0, 0, 0, []),
  (.aload_n 0, 19, 1, 0, 0, 0, []),
  (.invokevirtual 136, 20, 3, 124, 1, 12, [1]),
  (.ifCond .le 6, 23, 3, 16, 0, 0, []),
  (.bipush (-2), 26, 2, 0, 0, 0, []),
  (.ireturn, 28, 1, 0, 0, 0, []),
  (.iload_n 1, 29, 1, 0, 0, 0, []),
  (.iconst 1, 30, 1, 0, 0, 0, []),
  (.if_icmp .le 7, 31, 3, 21, 0, 0, []),
  (.iconst 1, 34, 1, 0, 0, 0, []),
  (.goto 4, 35, 3, 22, 0, 0, []),
  (.iconst 0, 38, 1, 0, 0, 0, []),
  (.istore_n 2, 39, 1, 0, 0, 0, []),
  (.iload_n 1, 40, 1, 0, 0, 0, []),
  (.iconst 2, 41, 1, 0, 0, 0, []),
  (.irem, 42, 1, 0, 0, 0, []),
  (.ifCond .ne 11, 43, 3, 31, 0, 0, []),
  (.aload_n 0, 46, 1, 0, 0, 0, []),
  (.iload_n 2, 47, 1, 0, 0, 0, []),
  (.invokevirtual 196, 48, 3, 133, 2, 12, [1]),
  (.goto 15, 51, 3, 39, 0, 0, []),
  (.aload_n 0, 54, 1, 0, 0, 0, []),
  (.invokevirtual 154, 55, 3, 131, 1, 12, [1]),
  (.aload_n 0, 58, 1, 0, 0, 0, []),
  (.iload_n 2, 59, 1, 0, 0, 0, []),
  (.invokevirtual 200, 60, 3, 132, 2, 12, [1]),
  (.iconst (-1), 63, 1, 0, 0, 0, []),
  (.ixor, 64, 1, 0, 0, 0, []),
  (.iand, 65, 1, 0, 0, 0, []),
  (.ireturn, 66, 1, 0, 0, 0, [])]
def tX12_reachedFrom : List xI := [(.iconst 1, 0, 1, 0, 0, 0, []),
  (.iload_n 1, 1, 1, 0, 0, 0, []),
  (.ishl, 2, 1, 0, 0, 0, []),
  (.istore_n 3, 3, 1, 0, 0, 0, []),
  (.iconst 1, 4, 1, 0, 0, 0, []),
  (.istore 4, 5, 2, 0, 0, 0, []),
  (.iload 4, 7, 2, 0, 0, 0, []),
  (.ifCond .eq 130, 9, 3, 81, 0, 0, []),
  (.iload_n 3, 12, 1, 0, 0, 0, []),
  (.istore 5, 13, 2, 0, 0, 0, []),
  (.iconst 0, 15, 1, 0, 0, 0, []),
  (.istore 6, 16, 2, 0, 0, 0, []),
  (.iload 6, 18, 2, 0, 0, 0, []),
  (.iconst 4, 20, 1, 0, 0, 0, []),
  (.aload_n 0, 21, 1, 0, 0, 0, []),
  (.getfield 105, 22, 3, 12, 1, 0, []),
  (.imul, 25, 1, 0, 0, 0, []),
  (.if_icmp .ge 97, 26, 3, 73, 0, 0, []),
  (.iload_n 3, 29, 1, 0, 0, 0, []),
  (.iload 6, 30, 2, 0, 0, 0, []),
  (.iconst 4, 32, 1, 0, 0, 0, []),
  (.idiv, 33, 1, 0, 0, 0, []),
  (.ishr, 34, 1, 0, 0, 0, []),
  (.iconst 1, 35, 1, 0, 0, 0, []),
  (.iand, 36, 1, 0, 0, 0, []),
  (.iconst 1, 37, 1, 0, 0, 0, []),
  (.if_icmp .ne 33, 38, 3, 44, 0, 0, []),
  (.iload 6, 41, 2, 0, 0, 0, []),
  (.iconst 4, 43, 1, 0, 0, 0, []),
  (.irem, 44, 1, 0, 0, 0, []),
  (.aload_n 0, 45, 1, 0, 0, 0, []),
  (.getfield 7, 46, 3, 12, 3, 0, []),
  (.iload 6, 49, 2, 0, 0, 0, []),
  (.iconst 4, 51, 1, 0, 0, 0, []),
  (.idiv, 52, 1, 0, 0, 0, []),
  (.iaload, 53, 1, 0, 0, 0, []),
  (.if_icmp .ge 17, 54, 3, 44, 0, 0, []),
  (.aload_n 0, 57, 1, 0, 0, 0, []),
  (.iload 6, 58, 2, 0, 0, 0, []),
  (.iload_n 2, 60, 1, 0, 0, 0, []),
  (.invokevirtual 140, 61, 3, 126, 3, 12, [1]),
  (.ifCond .eq 7, 64, 3, 44, 0, 0, []),
  (.iconst 1, 67, 1, 0, 0, 0, []),
  (.goto 4, 68, 3, 45, 0, 0, []),
  (.iconst 0, 71, 1, 0, 0, 0, []),
  (.istore 7, 72, 2, 0, 0, 0, []),
  (.iconst 0, 74, 1, 0, 0, 0, []),
  (.istore 8, 75, 2, 0, 0, 0, []),
  (.iload 8, 77, 2, 0, 0, 0, []),
  (.aload_n 0, 79, 1, 0, 0, 0, []),
  (.getfield 19, 80, 3, 12, 6, 0, []),
  (.iload 6, 83, 2, 0, 0, 0, []),
  (.iaload, 85, 1, 0, 0, 0, []),
  (.if_icmp .ge 31, 86, 3, 71, 0, 0, []),
  (.iload 7, 89, 2, 0, 0, 0, []),
  (.ifCond .eq 26, 91, 3, 71, 0, 0, []),
  (.iload_n 3, 94, 1, 0, 0, 0, []),
  (.iconst 1, 95, 1, 0, 0, 0, []),
  (.aload_n 0, 96, 1, 0, 0, 0, []),
  (.getfield 22, 97, 3, 12, 7, 0, []),
  (.iconst 4, 100, 1, 0, 0, 0, []),
  (.iload 6, 101, 2, 0, 0, 0, []),
  (.imul, 103, 1, 0, 0, 0, []),
  (.iload 8, 104, 2, 0, 0, 0, []),
  (.iadd, 106, 1, 0, 0, 0, []),
  (.iaload, 107, 1, 0, 0, 0, []),
  (.ishl, 108, 1, 0, 0, 0, []),
  (.ior, 109, 1, 0, 0, 0, []),
  (.istore_n 3, 110, 1, 0, 0, 0, []),
  (.iinc 8 1, 111, 3, 0, 0, 0, []),
  (.goto (-37), 114, 3, 48, 0, 0, []),
  (.iinc 6 1, 117, 3, 0, 0, 0, []),
  (.goto (-102), 120, 3, 12, 0, 0, []),
  (.iload_n 3, 123, 1, 0, 0, 0, []),
  (.iload 5, 124, 2, 0, 0, 0, []),
  (.if_icmp .eq 7, 126, 3, 78, 0, 0, []),
  (.iconst 1, 129, 1, 0, 0, 0, []),
  (.goto 4, 130, 3, 79, 0, 0, []),
  (.iconst 0, 133, 1, 0, 0, 0, []),
  (.istore 4, 134, 2, 0, 0, 0, []),
  (.goto (-129), 136, 3, 6, 0, 0, []),
  (.iload_n 3, 139, 1, 0, 0, 0, []),
  (.ireturn, 140, 1, 0, 0, 0, [])]
def tX12_reached : List xI := [(.aload_n 0, 0, 1, 0, 0, 0, []),
  (.iconst 0, 1, 1, 0, 0, 0, []),
  (.putfield 101, 2, 3, 12, 0, 0, []),
  (.aload_n 0, 5, 1, 0, 0, 0, []),
  (.iload_n 1, 6, 1, 0, 0, 0, []),
  (.invokevirtual 108, 7, 3, 114, 2, 12, [1]),
  (.ifCond .eq 15, 10, 3, 13, 0, 0, []),
  (.aload_n 0, 13, 1, 0, 0, 0, []),
  (.iload_n 1, 14, 1, 0, 0, 0, []),
  (.aload_n 0, 15, 1, 0, 0, 0, []),
  (.invokevirtual 154, 16, 3, 131, 1, 12, [1]),
  (.invokevirtual 259, 19, 3, 160, 3, 12, [1]),
  (.goto 4, 22, 3, 14, 0, 0, []),
  (.iconst (-1), 25, 1, 0, 0, 0, []),
  (.ireturn, 26, 1, 0, 0, 0, [])]
def tX12_sureChosen : List xI := [(.iload_n 1, 0, 1, 0, 0, 0, []),
  (.istore_n 2, 1, 1, 0, 0, 0, []),
  (.iconst 1, 2, 1, 0, 0, 0, []),
  (.istore_n 3, 3, 1, 0, 0, 0, []),
  (.iload_n 3, 4, 1, 0, 0, 0, []),
  (.ifCond .eq 118, 5, 3, 70, 0, 0, []),
  (.iload_n 2, 8, 1, 0, 0, 0, []),
  (.aload_n 0, 9, 1, 0, 0, 0, []),
  (.getfield 112, 10, 3, 12, 2, 0, []),
  (.ior, 13, 1, 0, 0, 0, []),
  (.istore 4, 14, 2, 0, 0, 0, []),
  (.iconst 0, 16, 1, 0, 0, 0, []),
  (.istore 5, 17, 2, 0, 0, 0, []),
  (.aload_n 0, 19, 1, 0, 0, 0, []),
  (.iload_n 2, 20, 1, 0, 0, 0, []),
  (.aload_n 0, 21, 1, 0, 0, 0, []),
  (.getfield 112, 22, 3, 12, 2, 0, []),
  (.invokevirtual 175, 25, 3, 139, 3, 12, [1]),
  (.istore 6, 28, 2, 0, 0, 0, []),
  (.iconst 0, 30, 1, 0, 0, 0, []),
  (.istore 7, 31, 2, 0, 0, 0, []),
  (.iload 7, 33, 2, 0, 0, 0, []),
  (.aload_n 0, 35, 1, 0, 0, 0, []),
  (.getfield 105, 36, 3, 12, 1, 0, []),
  (.if_icmp .ge 66, 39, 3, 60, 0, 0, []),
  (.iload 6, 42, 2, 0, 0, 0, []),
  (.iload 7, 44, 2, 0, 0, 0, []),
  (.ishr, 46, 1, 0, 0, 0, []),
  (.iconst 1, 47, 1, 0, 0, 0, []),
  (.iand, 48, 1, 0, 0, 0, []),
  (.iconst 1, 49, 1, 0, 0, 0, []),
  (.if_icmp .ne 28, 50, 3, 46, 0, 0, []),
  (.aload_n 0, 53, 1, 0, 0, 0, []),
  (.iconst 4, 54, 1, 0, 0, 0, []),
  (.iload 7, 55, 2, 0, 0, 0, []),
  (.imul, 57, 1, 0, 0, 0, []),
  (.aload_n 0, 58, 1, 0, 0, 0, []),
  (.getfield 32, 59, 3, 12, 10, 0, []),
  (.iload 7, 62, 2, 0, 0, 0, []),
  (.iaload, 64, 1, 0, 0, 0, []),
  (.iadd, 65, 1, 0, 0, 0, []),
  (.iload 4, 66, 2, 0, 0, 0, []),
  (.invokevirtual 140, 68, 3, 126, 3, 12, [1]),
  (.ifCond .eq 7, 71, 3, 46, 0, 0, []),
  (.iconst 1, 74, 1, 0, 0, 0, []),
  (.goto 4, 75, 3, 47, 0, 0, []),
  (.iconst 0, 78, 1, 0, 0, 0, []),
  (.istore 8, 79, 2, 0, 0, 0, []),
  (.iload 5, 81, 2, 0, 0, 0, []),
  (.iload 8, 83, 2, 0, 0, 0, []),
  (.ifCond .eq 10, 85, 3, 55, 0, 0, []),
  (.iconst 1, 88, 1, 0, 0, 0, []),
  (.iload 7, 89, 2, 0, 0, 0, []),
  (.ishl, 91, 1, 0, 0, 0, []),
  (.goto 4, 92, 3, 56, 0, 0, []),
  (.iconst 0, 95, 1, 0, 0, 0, []),
  (.ior, 96, 1, 0, 0, 0, []),
  (.istore 5, 97, 2, 0, 0, 0, []),
  (.iinc 7 1, 99, 3, 0, 0, 0, []),
  (.goto (-69), 102, 3, 21, 0, 0, []),
  (.iload 5, 105, 2, 0, 0, 0, []),
  (.iload_n 2, 107, 1, 0, 0, 0, []),
  (.if_icmp .eq 7, 108, 3, 65, 0, 0, []),
  (.iconst 1, 111, 1, 0, 0, 0, []),
  (.goto 4, 112, 3, 66, 0, 0, []),
  (.iconst 0, 115, 1, 0, 0, 0, []),
  (.istore_n 3, 116, 1, 0, 0, 0, []),
  (.iload 5, 117, 2, 0, 0, 0, []),
  (.istore_n 2, 119, 1, 0, 0, 0, []),
  (.goto (-116), 120, 3, 4, 0, 0, []),
  (.iload_n 2, 123, 1, 0, 0, 0, []),
  (.ireturn, 124, 1, 0, 0, 0, [])]
def tX12_costsChosen : List xI := [(.aload_n 0, 0, 1, 0, 0, 0, []),
  (.iconst 0, 1, 1, 0, 0, 0, []),
  (.putfield 161, 2, 3, 12, 12, 0, []),
  (.iconst 0, 5, 1, 0, 0, 0, []),
  (.istore_n 2, 6, 1, 0, 0, 0, []),
  (.iload_n 2, 7, 1, 0, 0, 0, []),
  (.aload_n 0, 8, 1, 0, 0, 0, []),
  (.getfield 105, 9, 3, 12, 1, 0, []),
  (.if_icmp .ge 38, 12, 3, 30, 0, 0, []),
  (.iload_n 1, 15, 1, 0, 0, 0, []),
  (.iload_n 2, 16, 1, 0, 0, 0, []),
  (.ishr, 17, 1, 0, 0, 0, []),
  (.iconst 1, 18, 1, 0, 0, 0, []),
  (.iand, 19, 1, 0, 0, 0, []),
  (.iconst 1, 20, 1, 0, 0, 0, []),
  (.if_icmp .ne 23, 21, 3, 28, 0, 0, []),
  (.aload_n 0, 24, 1, 0, 0, 0, []),
  (.getfield 35, 25, 3, 12, 11, 0, []),
  (.aload_n 0, 28, 1, 0, 0, 0, []),
  (.getfield 161, 29, 3, 12, 12, 0, []),
  (.iload_n 2, 32, 1, 0, 0, 0, []),
  (.iastore, 33, 1, 0, 0, 0, []),
  (.aload_n 0, 34, 1, 0, 0, 0, []),
  (.dup, 35, 1, 0, 0, 0, []),
  (.getfield 161, 36, 3, 12, 12, 0, []),
  (.iconst 1, 39, 1, 0, 0, 0, []),
  (.iadd, 40, 1, 0, 0, 0, []),
  (.putfield 161, 41, 3, 12, 12, 0, []),
  (.iinc 2 1, 44, 3, 0, 0, 0, []),
  (.goto (-40), 47, 3, 5, 0, 0, []),
  (.iconst 0, 50, 1, 0, 0, 0, []),
  (.istore_n 2, 51, 1, 0, 0, 0, []),
  (.iload_n 2, 52, 1, 0, 0, 0, []),
  (.aload_n 0, 53, 1, 0, 0, 0, []),
  (.getfield 161, 54, 3, 12, 12, 0, []),
  (.if_icmp .ge 56, 57, 3, 69, 0, 0, []),
  (.aload_n 0, 60, 1, 0, 0, 0, []),
  (.iload_n 2, 61, 1, 0, 0, 0, []),
  (.aload_n 0, 62, 1, 0, 0, 0, []),
  (.getfield 35, 63, 3, 12, 11, 0, []),
  (.iload_n 2, 66, 1, 0, 0, 0, []),
  (.iaload, 67, 1, 0, 0, 0, []),
  (.invokevirtual 179, 68, 3, 138, 3, 12, [0]),
  (.aload_n 0, 71, 1, 0, 0, 0, []),
  (.getfield 41, 72, 3, 12, 14, 0, []),
  (.iload_n 2, 75, 1, 0, 0, 0, []),
  (.ldc2_w 130, 76, 3, 0, 0, 12, []),
  (.aload_n 0, 79, 1, 0, 0, 0, []),
  (.getfield 16, 80, 3, 12, 5, 0, []),
  (.iconst 4, 83, 1, 0, 0, 0, []),
  (.aload_n 0, 84, 1, 0, 0, 0, []),
  (.getfield 35, 85, 3, 12, 11, 0, []),
  (.iload_n 2, 88, 1, 0, 0, 0, []),
  (.iaload, 89, 1, 0, 0, 0, []),
  (.imul, 90, 1, 0, 0, 0, []),
  (.aload_n 0, 91, 1, 0, 0, 0, []),
  (.getfield 32, 92, 3, 12, 10, 0, []),
  (.aload_n 0, 95, 1, 0, 0, 0, []),
  (.getfield 35, 96, 3, 12, 11, 0, []),
  (.iload_n 2, 99, 1, 0, 0, 0, []),
  (.iaload, 100, 1, 0, 0, 0, []),
  (.iaload, 101, 1, 0, 0, 0, []),
  (.iadd, 102, 1, 0, 0, 0, []),
  (.iaload, 103, 1, 0, 0, 0, []),
  (.i2l, 104, 1, 0, 0, 0, []),
  (.lmul, 105, 1, 0, 0, 0, []),
  (.lastore, 106, 1, 0, 0, 0, []),
  (.iinc 2 1, 107, 3, 0, 0, 0, []),
  (.goto (-58), 110, 3, 32, 0, 0, []),
  (.aload_n 0, 113, 1, 0, 0, 0, []),
  (.invokevirtual 183, 114, 3, 137, 1, 12, [0]),
  (.return_, 117, 1, 0, 0, 0, [])]
def tX12_cost : List xI := [(.aload_n 0, 0, 1, 0, 0, 0, []),
  (.iconst 0, 1, 1, 0, 0, 0, []),
  (.putfield 101, 2, 3, 12, 0, 0, []),
  (.aload_n 0, 5, 1, 0, 0, 0, []),
  (.iload_n 1, 6, 1, 0, 0, 0, []),
  (.invokevirtual 108, 7, 3, 114, 2, 12, [1]),
  (.ifCond .eq 13, 10, 3, 13, 0, 0, []),
  (.iload_n 2, 13, 1, 0, 0, 0, []),
  (.i2l, 14, 1, 0, 0, 0, []),
  (.lconst 0, 15, 1, 0, 0, 0, []),
  (.lconst 1, 16, 1, 0, 0, 0, []),
  (.invokestatic 117, 17, 3, 113, 3, 0, [1]),
  (.ifCond .ne 7, 20, 3, 15, 0, 0, []),
  (.ldc2_w 210, 23, 3, 0, 0, (-1), []),
  (.lreturn, 26, 1, 0, 0, 0, []),
  (.aload_n 0, 27, 1, 0, 0, 0, []),
  (.invokevirtual 136, 28, 3, 124, 1, 12, [1]),
  (.ifCond .le 7, 31, 3, 20, 0, 0, []),
  (.ldc2_w 212, 34, 3, 0, 0, (-2), []),
  (.lreturn, 37, 1, 0, 0, 0, []),
  (.aload_n 0, 38, 1, 0, 0, 0, []),
  (.iconst 0, 39, 1, 0, 0, 0, []),
  (.invokevirtual 196, 40, 3, 133, 2, 12, [1]),
  (.istore_n 3, 43, 1, 0, 0, 0, []),
  (.iload_n 3, 44, 1, 0, 0, 0, []),
  (.aload_n 0, 45, 1, 0, 0, 0, []),
  (.getfield 112, 46, 3, 12, 2, 0, []),
  (.iconst (-1), 49, 1, 0, 0, 0, []),
  (.ixor, 50, 1, 0, 0, 0, []),
  (.iand, 51, 1, 0, 0, 0, []),
  (.istore 4, 52, 2, 0, 0, 0, []),
  (.iconst 0, 54, 1, 0, 0, 0, []),
  (.istore 5, 55, 2, 0, 0, 0, []),
  (.iconst 0, 57, 1, 0, 0, 0, []),
  (.istore 6, 58, 2, 0, 0, 0, []),
  (.iload 6, 60, 2, 0, 0, 0, []),
  (.aload_n 0, 62, 1, 0, 0, 0, []),
  (.getfield 105, 63, 3, 12, 1, 0, []),
  (.if_icmp .ge 30, 66, 3, 51, 0, 0, []),
  (.iload 5, 69, 2, 0, 0, 0, []),
  (.ifCond .ne 12, 71, 3, 45, 0, 0, []),
  (.aload_n 0, 74, 1, 0, 0, 0, []),
  (.iload 6, 75, 2, 0, 0, 0, []),
  (.invokevirtual 123, 77, 3, 117, 2, 12, [1]),
  (.ifCond .eq 7, 80, 3, 47, 0, 0, []),
  (.iconst 1, 83, 1, 0, 0, 0, []),
  (.goto 4, 84, 3, 48, 0, 0, []),
  (.iconst 0, 87, 1, 0, 0, 0, []),
  (.istore 5, 88, 2, 0, 0, 0, []),
  (.iinc 6 1, 90, 3, 0, 0, 0, []),
  (.goto (-33), 93, 3, 35, 0, 0, []),
  (.iload 5, 96, 2, 0, 0, 0, []),
  (.ifCond .ne 13, 98, 3, 58, 0, 0, []),
  (.aload_n 0, 101, 1, 0, 0, 0, []),
  (.iload 4, 102, 2, 0, 0, 0, []),
  (.invokevirtual 203, 104, 3, 143, 2, 12, [1]),
  (.iconst 5, 107, 1, 0, 0, 0, []),
  (.if_icmp .le 7, 108, 3, 60, 0, 0, []),
  (.ldc2_w 218, 111, 3, 0, 0, (-3), []),
  (.lreturn, 114, 1, 0, 0, 0, []),
  (.iload_n 3, 115, 1, 0, 0, 0, []),
  (.iload_n 1, 116, 1, 0, 0, 0, []),
  (.ishr, 117, 1, 0, 0, 0, []),
  (.iconst 1, 118, 1, 0, 0, 0, []),
  (.iand, 119, 1, 0, 0, 0, []),
  (.ifCond .ne 7, 120, 3, 68, 0, 0, []),
  (.ldc2_w 262, 123, 3, 0, 0, (-4), []),
  (.lreturn, 126, 1, 0, 0, 0, []),
  (.aload_n 0, 127, 1, 0, 0, 0, []),
  (.iload_n 1, 128, 1, 0, 0, 0, []),
  (.invokevirtual 231, 129, 3, 116, 2, 12, [1]),
  (.ifCond .eq 6, 132, 3, 75, 0, 0, []),
  (.iload_n 2, 135, 1, 0, 0, 0, []),
  (.i2l, 136, 1, 0, 0, 0, []),
  (.lreturn, 137, 1, 0, 0, 0, []),
  (.iconst 0, 138, 1, 0, 0, 0, []),
  (.istore 6, 139, 2, 0, 0, 0, []),
  (.iload 6, 141, 2, 0, 0, 0, []),
  (.bipush 10, 143, 2, 0, 0, 0, []),
  (.if_icmp .ge 17, 145, 3, 87, 0, 0, []),
  (.aload_n 0, 148, 1, 0, 0, 0, []),
  (.getfield 32, 149, 3, 12, 10, 0, []),
  (.iload 6, 152, 2, 0, 0, 0, []),
  (.iconst 0, 154, 1, 0, 0, 0, []),
  (.iastore, 155, 1, 0, 0, 0, []),
  (.iinc 6 1, 156, 3, 0, 0, 0, []),
  (.goto (-18), 159, 3, 77, 0, 0, []),
  (.ldc2_w 210, 162, 3, 0, 0, (-1), []),
  (.lstore 6, 165, 2, 0, 0, 0, []),
  (.lconst 1, 167, 1, 0, 0, 0, []),
  (.lstore 8, 168, 2, 0, 0, 0, []),
  (.iconst 1, 170, 1, 0, 0, 0, []),
  (.istore 10, 171, 2, 0, 0, 0, []),
  (.iload 10, 173, 2, 0, 0, 0, []),
  (.ifCond .eq 84, 175, 3, 141, 0, 0, []),
  (.aload_n 0, 178, 1, 0, 0, 0, []),
  (.iload 4, 179, 2, 0, 0, 0, []),
  (.invokevirtual 264, 181, 3, 162, 2, 12, [1]),
  (.istore 11, 184, 2, 0, 0, 0, []),
  (.iload 11, 186, 2, 0, 0, 0, []),
  (.iload_n 1, 188, 1, 0, 0, 0, []),
  (.ishr, 189, 1, 0, 0, 0, []),
  (.iconst 1, 190, 1, 0, 0, 0, []),
  (.iand, 191, 1, 0, 0, 0, []),
  (.iconst 1, 192, 1, 0, 0, 0, []),
  (.if_icmp .ne 54, 193, 3, 135, 0, 0, []),
  (.aload_n 0, 196, 1, 0, 0, 0, []),
  (.iload 11, 197, 2, 0, 0, 0, []),
  (.invokevirtual 267, 199, 3, 163, 2, 12, [0]),
  (.lload 6, 202, 2, 0, 0, 0, []),
  (.lconst 0, 204, 1, 0, 0, 0, []),
  (.lcmp, 205, 1, 0, 0, 0, []),
  (.ifCond .lt 25, 206, 3, 125, 0, 0, []),
  (.aload_n 0, 209, 1, 0, 0, 0, []),
  (.getfield 44, 210, 3, 12, 15, 0, []),
  (.iload_n 1, 213, 1, 0, 0, 0, []),
  (.laload, 214, 1, 0, 0, 0, []),
  (.aload_n 0, 215, 1, 0, 0, 0, []),
  (.getfield 47, 216, 3, 12, 16, 0, []),
  (.iload_n 1, 219, 1, 0, 0, 0, []),
  (.laload, 220, 1, 0, 0, 0, []),
  (.lload 6, 221, 2, 0, 0, 0, []),
  (.lload 8, 223, 2, 0, 0, 0, []),
  (.invokestatic 189, 225, 3, 141, 4, 0, [1]),
  (.ifCond .eq 19, 228, 3, 135, 0, 0, []),
  (.aload_n 0, 231, 1, 0, 0, 0, []),
  (.getfield 44, 232, 3, 12, 15, 0, []),
  (.iload_n 1, 235, 1, 0, 0, 0, []),
  (.laload, 236, 1, 0, 0, 0, []),
  (.lstore 6, 237, 2, 0, 0, 0, []),
  (.aload_n 0, 239, 1, 0, 0, 0, []),
  (.getfield 47, 240, 3, 12, 16, 0, []),
  (.iload_n 1, 243, 1, 0, 0, 0, []),
  (.laload, 244, 1, 0, 0, 0, []),
  (.lstore 8, 245, 2, 0, 0, 0, []),
  (.aload_n 0, 247, 1, 0, 0, 0, []),
  (.iload 4, 248, 2, 0, 0, 0, []),
  (.iconst 0, 250, 1, 0, 0, 0, []),
  (.invokevirtual 193, 251, 3, 142, 3, 12, [1]),
  (.istore 10, 254, 2, 0, 0, 0, []),
  (.goto (-83), 256, 3, 93, 0, 0, []),
  (.iload_n 2, 259, 1, 0, 0, 0, []),
  (.ifCond .ne 8, 260, 3, 145, 0, 0, []),
  (.lload 6, 263, 2, 0, 0, 0, []),
  (.goto 5, 265, 3, 146, 0, 0, []),
  (.lload 8, 268, 2, 0, 0, 0, []),
  (.lreturn, 270, 1, 0, 0, 0, [])]
def tX12_together : List xI := [(.aload_n 0, 0, 1, 0, 0, 0, []),
  (.iload_n 1, 1, 1, 0, 0, 0, []),
  (.iload_n 2, 2, 1, 0, 0, 0, []),
  (.invokevirtual 259, 3, 3, 160, 3, 12, [1]),
  (.iload_n 2, 6, 1, 0, 0, 0, []),
  (.iand, 7, 1, 0, 0, 0, []),
  (.istore_n 3, 8, 1, 0, 0, 0, []),
  (.iconst 0, 9, 1, 0, 0, 0, []),
  (.istore 4, 10, 2, 0, 0, 0, []),
  (.iconst 0, 12, 1, 0, 0, 0, []),
  (.istore 5, 13, 2, 0, 0, 0, []),
  (.iload 5, 15, 2, 0, 0, 0, []),
  (.aload_n 0, 17, 1, 0, 0, 0, []),
  (.getfield 105, 18, 3, 12, 1, 0, []),
  (.if_icmp .ge 59, 21, 3, 48, 0, 0, []),
  (.iload_n 3, 24, 1, 0, 0, 0, []),
  (.iload 5, 25, 2, 0, 0, 0, []),
  (.ishr, 27, 1, 0, 0, 0, []),
  (.iconst 1, 28, 1, 0, 0, 0, []),
  (.iand, 29, 1, 0, 0, 0, []),
  (.iconst 1, 30, 1, 0, 0, 0, []),
  (.if_icmp .ne 22, 31, 3, 34, 0, 0, []),
  (.aload_n 0, 34, 1, 0, 0, 0, []),
  (.iload 5, 35, 2, 0, 0, 0, []),
  (.iload_n 2, 37, 1, 0, 0, 0, []),
  (.invokevirtual 259, 38, 3, 160, 3, 12, [1]),
  (.iload_n 1, 41, 1, 0, 0, 0, []),
  (.ishr, 42, 1, 0, 0, 0, []),
  (.iconst 1, 43, 1, 0, 0, 0, []),
  (.iand, 44, 1, 0, 0, 0, []),
  (.iconst 1, 45, 1, 0, 0, 0, []),
  (.if_icmp .ne 7, 46, 3, 34, 0, 0, []),
  (.iconst 1, 49, 1, 0, 0, 0, []),
  (.goto 4, 50, 3, 35, 0, 0, []),
  (.iconst 0, 53, 1, 0, 0, 0, []),
  (.istore 6, 54, 2, 0, 0, 0, []),
  (.iload 4, 56, 2, 0, 0, 0, []),
  (.iload 6, 58, 2, 0, 0, 0, []),
  (.ifCond .eq 10, 60, 3, 43, 0, 0, []),
  (.iconst 1, 63, 1, 0, 0, 0, []),
  (.iload 5, 64, 2, 0, 0, 0, []),
  (.ishl, 66, 1, 0, 0, 0, []),
  (.goto 4, 67, 3, 44, 0, 0, []),
  (.iconst 0, 70, 1, 0, 0, 0, []),
  (.ior, 71, 1, 0, 0, 0, []),
  (.istore 4, 72, 2, 0, 0, 0, []),
  (.iinc 5 1, 74, 3, 0, 0, 0, []),
  (.goto (-62), 77, 3, 11, 0, 0, []),
  (.iload 4, 80, 2, 0, 0, 0, []),
  (.ireturn, 82, 1, 0, 0, 0, [])]
def tX12_staying : List xI := [(.iconst 0, 0, 1, 0, 0, 0, []),
  (.istore_n 2, 1, 1, 0, 0, 0, []),
  (.iconst 0, 2, 1, 0, 0, 0, []),
  (.istore_n 3, 3, 1, 0, 0, 0, []),
  (.iload_n 3, 4, 1, 0, 0, 0, []),
  (.iconst 4, 5, 1, 0, 0, 0, []),
  (.aload_n 0, 6, 1, 0, 0, 0, []),
  (.getfield 105, 7, 3, 12, 1, 0, []),
  (.imul, 10, 1, 0, 0, 0, []),
  (.if_icmp .ge 67, 11, 3, 52, 0, 0, []),
  (.iload_n 3, 14, 1, 0, 0, 0, []),
  (.iconst 4, 15, 1, 0, 0, 0, []),
  (.irem, 16, 1, 0, 0, 0, []),
  (.aload_n 0, 17, 1, 0, 0, 0, []),
  (.getfield 7, 18, 3, 12, 3, 0, []),
  (.iload_n 3, 21, 1, 0, 0, 0, []),
  (.iconst 4, 22, 1, 0, 0, 0, []),
  (.idiv, 23, 1, 0, 0, 0, []),
  (.iaload, 24, 1, 0, 0, 0, []),
  (.if_icmp .ge 27, 25, 3, 36, 0, 0, []),
  (.iload_n 1, 28, 1, 0, 0, 0, []),
  (.iload_n 3, 29, 1, 0, 0, 0, []),
  (.iconst 4, 30, 1, 0, 0, 0, []),
  (.idiv, 31, 1, 0, 0, 0, []),
  (.ishr, 32, 1, 0, 0, 0, []),
  (.iconst 1, 33, 1, 0, 0, 0, []),
  (.iand, 34, 1, 0, 0, 0, []),
  (.iconst 1, 35, 1, 0, 0, 0, []),
  (.if_icmp .ne 16, 36, 3, 36, 0, 0, []),
  (.aload_n 0, 39, 1, 0, 0, 0, []),
  (.iload_n 3, 40, 1, 0, 0, 0, []),
  (.iload_n 1, 41, 1, 0, 0, 0, []),
  (.invokevirtual 140, 42, 3, 126, 3, 12, [1]),
  (.ifCond .eq 7, 45, 3, 36, 0, 0, []),
  (.iconst 1, 48, 1, 0, 0, 0, []),
  (.goto 4, 49, 3, 37, 0, 0, []),
  (.iconst 0, 52, 1, 0, 0, 0, []),
  (.istore 4, 53, 2, 0, 0, 0, []),
  (.iload_n 2, 55, 1, 0, 0, 0, []),
  (.iload 4, 56, 2, 0, 0, 0, []),
  (.ifCond .eq 11, 58, 3, 47, 0, 0, []),
  (.iconst 1, 61, 1, 0, 0, 0, []),
  (.iload_n 3, 62, 1, 0, 0, 0, []),
  (.iconst 4, 63, 1, 0, 0, 0, []),
  (.idiv, 64, 1, 0, 0, 0, []),
  (.ishl, 65, 1, 0, 0, 0, []),
  (.goto 4, 66, 3, 48, 0, 0, []),
  (.iconst 0, 69, 1, 0, 0, 0, []),
  (.ior, 70, 1, 0, 0, 0, []),
  (.istore_n 2, 71, 1, 0, 0, 0, []),
  (.iinc 3 1, 72, 3, 0, 0, 0, []),
  (.goto (-71), 75, 3, 4, 0, 0, []),
  (.iload_n 2, 78, 1, 0, 0, 0, []),
  (.ireturn, 79, 1, 0, 0, 0, [])]
def tX12_holeOf : List xI := [(.aload_n 0, 0, 1, 0, 0, 0, []),
  (.invokevirtual 154, 1, 3, 131, 1, 12, [1]),
  (.istore_n 2, 4, 1, 0, 0, 0, []),
  (.iconst 1, 5, 1, 0, 0, 0, []),
  (.istore_n 3, 6, 1, 0, 0, 0, []),
  (.iload_n 3, 7, 1, 0, 0, 0, []),
  (.ifCond .eq 42, 8, 3, 31, 0, 0, []),
  (.iload_n 2, 11, 1, 0, 0, 0, []),
  (.iload_n 1, 12, 1, 0, 0, 0, []),
  (.ishr, 13, 1, 0, 0, 0, []),
  (.iconst 1, 14, 1, 0, 0, 0, []),
  (.iand, 15, 1, 0, 0, 0, []),
  (.iconst 1, 16, 1, 0, 0, 0, []),
  (.if_icmp .ne 33, 17, 3, 31, 0, 0, []),
  (.aload_n 0, 20, 1, 0, 0, 0, []),
  (.aload_n 0, 21, 1, 0, 0, 0, []),
  (.iload_n 1, 22, 1, 0, 0, 0, []),
  (.iload_n 2, 23, 1, 0, 0, 0, []),
  (.invokevirtual 270, 24, 3, 165, 3, 12, [1]),
  (.invokevirtual 273, 27, 3, 166, 2, 12, [1]),
  (.istore 4, 30, 2, 0, 0, 0, []),
  (.iload 4, 32, 2, 0, 0, 0, []),
  (.iload_n 2, 34, 1, 0, 0, 0, []),
  (.if_icmp .eq 7, 35, 3, 26, 0, 0, []),
  (.iconst 1, 38, 1, 0, 0, 0, []),
  (.goto 4, 39, 3, 27, 0, 0, []),
  (.iconst 0, 42, 1, 0, 0, 0, []),
  (.istore_n 3, 43, 1, 0, 0, 0, []),
  (.iload 4, 44, 2, 0, 0, 0, []),
  (.istore_n 2, 46, 1, 0, 0, 0, []),
  (.goto (-40), 47, 3, 5, 0, 0, []),
  (.iload_n 2, 50, 1, 0, 0, 0, []),
  (.iload_n 1, 51, 1, 0, 0, 0, []),
  (.ishr, 52, 1, 0, 0, 0, []),
  (.iconst 1, 53, 1, 0, 0, 0, []),
  (.iand, 54, 1, 0, 0, 0, []),
  (.iconst 1, 55, 1, 0, 0, 0, []),
  (.if_icmp .ne 7, 56, 3, 40, 0, 0, []),
  (.iload_n 2, 59, 1, 0, 0, 0, []),
  (.goto 4, 60, 3, 41, 0, 0, []),
  (.iconst 0, 63, 1, 0, 0, 0, []),
  (.ireturn, 64, 1, 0, 0, 0, [])]
def tX12_findHoles : List xI := [(.aload_n 0, 0, 1, 0, 0, 0, []),
  (.iconst 0, 1, 1, 0, 0, 0, []),
  (.putfield 276, 2, 3, 12, 30, 0, []),
  (.iconst 0, 5, 1, 0, 0, 0, []),
  (.istore_n 1, 6, 1, 0, 0, 0, []),
  (.iconst 0, 7, 1, 0, 0, 0, []),
  (.istore_n 2, 8, 1, 0, 0, 0, []),
  (.iload_n 2, 9, 1, 0, 0, 0, []),
  (.aload_n 0, 10, 1, 0, 0, 0, []),
  (.getfield 105, 11, 3, 12, 1, 0, []),
  (.if_icmp .ge 56, 14, 3, 44, 0, 0, []),
  (.iload_n 1, 17, 1, 0, 0, 0, []),
  (.iload_n 2, 18, 1, 0, 0, 0, []),
  (.ishr, 19, 1, 0, 0, 0, []),
  (.iconst 1, 20, 1, 0, 0, 0, []),
  (.iand, 21, 1, 0, 0, 0, []),
  (.iconst 1, 22, 1, 0, 0, 0, []),
  (.if_icmp .ne 7, 23, 3, 20, 0, 0, []),
  (.iconst 0, 26, 1, 0, 0, 0, []),
  (.goto 8, 27, 3, 23, 0, 0, []),
  (.aload_n 0, 30, 1, 0, 0, 0, []),
  (.iload_n 2, 31, 1, 0, 0, 0, []),
  (.invokevirtual 279, 32, 3, 167, 2, 12, [1]),
  (.istore_n 3, 35, 1, 0, 0, 0, []),
  (.iload_n 3, 36, 1, 0, 0, 0, []),
  (.ifCond .eq 27, 37, 3, 42, 0, 0, []),
  (.aload_n 0, 40, 1, 0, 0, 0, []),
  (.getfield 77, 41, 3, 12, 29, 0, []),
  (.aload_n 0, 44, 1, 0, 0, 0, []),
  (.getfield 276, 45, 3, 12, 30, 0, []),
  (.iload_n 3, 48, 1, 0, 0, 0, []),
  (.iastore, 49, 1, 0, 0, 0, []),
  (.aload_n 0, 50, 1, 0, 0, 0, []),
  (.dup, 51, 1, 0, 0, 0, []),
  (.getfield 276, 52, 3, 12, 30, 0, []),
  (.iconst 1, 55, 1, 0, 0, 0, []),
  (.iadd, 56, 1, 0, 0, 0, []),
  (.putfield 276, 57, 3, 12, 30, 0, []),
  (.iload_n 1, 60, 1, 0, 0, 0, []),
  (.iload_n 3, 61, 1, 0, 0, 0, []),
  (.ior, 62, 1, 0, 0, 0, []),
  (.istore_n 1, 63, 1, 0, 0, 0, []),
  (.iinc 2 1, 64, 3, 0, 0, 0, []),
  (.goto (-58), 67, 3, 7, 0, 0, []),
  (.return_, 70, 1, 0, 0, 0, [])]
def tX12_hole : List xI := [(.aload_n 0, 0, 1, 0, 0, 0, []),
  (.iconst 0, 1, 1, 0, 0, 0, []),
  (.putfield 101, 2, 3, 12, 0, 0, []),
  (.iload_n 2, 5, 1, 0, 0, 0, []),
  (.i2l, 6, 1, 0, 0, 0, []),
  (.lconst 0, 7, 1, 0, 0, 0, []),
  (.ldc2_w 282, 8, 3, 0, 0, 2, []),
  (.invokestatic 117, 11, 3, 113, 3, 0, [1]),
  (.ifCond .ne 5, 14, 3, 11, 0, 0, []),
  (.iconst (-1), 17, 1, 0, 0, 0, []),
  (.ireturn, 18, 1, 0, 0, 0, []),
  (.aload_n 0, 19, 1, 0, 0, 0, []),
  (.invokevirtual 136, 20, 3, 124, 1, 12, [1]),
  (.ifCond .le 6, 23, 3, 16, 0, 0, []),
  (.bipush (-2), 26, 2, 0, 0, 0, []),
  (.ireturn, 28, 1, 0, 0, 0, []),
  (.aload_n 0, 29, 1, 0, 0, 0, []),
  (.invokevirtual 284, 30, 3, 168, 1, 12, [0]),
  (.iload_n 2, 33, 1, 0, 0, 0, []),
  (.ifCond .ne 8, 34, 3, 23, 0, 0, []),
  (.aload_n 0, 37, 1, 0, 0, 0, []),
  (.getfield 276, 38, 3, 12, 30, 0, []),
  (.ireturn, 41, 1, 0, 0, 0, []),
  (.iload_n 1, 42, 1, 0, 0, 0, []),
  (.ifCond .lt 11, 43, 3, 29, 0, 0, []),
  (.iload_n 1, 46, 1, 0, 0, 0, []),
  (.aload_n 0, 47, 1, 0, 0, 0, []),
  (.getfield 276, 48, 3, 12, 30, 0, []),
  (.if_icmp .lt 5, 51, 3, 31, 0, 0, []),
  (.iconst (-1), 54, 1, 0, 0, 0, []),
  (.ireturn, 55, 1, 0, 0, 0, []),
  (.iconst 0, 56, 1, 0, 0, 0, []),
  (.istore_n 3, 57, 1, 0, 0, 0, []),
  (.iconst 0, 58, 1, 0, 0, 0, []),
  (.istore 4, 59, 2, 0, 0, 0, []),
  (.iload 4, 61, 2, 0, 0, 0, []),
  (.iconst 4, 63, 1, 0, 0, 0, []),
  (.aload_n 0, 64, 1, 0, 0, 0, []),
  (.getfield 105, 65, 3, 12, 1, 0, []),
  (.imul, 68, 1, 0, 0, 0, []),
  (.if_icmp .ge 65, 69, 3, 79, 0, 0, []),
  (.iload_n 3, 72, 1, 0, 0, 0, []),
  (.iload 4, 73, 2, 0, 0, 0, []),
  (.iconst 4, 75, 1, 0, 0, 0, []),
  (.irem, 76, 1, 0, 0, 0, []),
  (.aload_n 0, 77, 1, 0, 0, 0, []),
  (.getfield 7, 78, 3, 12, 3, 0, []),
  (.iload 4, 81, 2, 0, 0, 0, []),
  (.iconst 4, 83, 1, 0, 0, 0, []),
  (.idiv, 84, 1, 0, 0, 0, []),
  (.iaload, 85, 1, 0, 0, 0, []),
  (.if_icmp .ge 39, 86, 3, 74, 0, 0, []),
  (.aload_n 0, 89, 1, 0, 0, 0, []),
  (.getfield 77, 90, 3, 12, 29, 0, []),
  (.iload_n 1, 93, 1, 0, 0, 0, []),
  (.iaload, 94, 1, 0, 0, 0, []),
  (.iload 4, 95, 2, 0, 0, 0, []),
  (.iconst 4, 97, 1, 0, 0, 0, []),
  (.idiv, 98, 1, 0, 0, 0, []),
  (.ishr, 99, 1, 0, 0, 0, []),
  (.iconst 1, 100, 1, 0, 0, 0, []),
  (.iand, 101, 1, 0, 0, 0, []),
  (.iconst 1, 102, 1, 0, 0, 0, []),
  (.if_icmp .ne 22, 103, 3, 74, 0, 0, []),
  (.aload_n 0, 106, 1, 0, 0, 0, []),
  (.iload 4, 107, 2, 0, 0, 0, []),
  (.aload_n 0, 109, 1, 0, 0, 0, []),
  (.getfield 77, 110, 3, 12, 29, 0, []),
  (.iload_n 1, 113, 1, 0, 0, 0, []),
  (.iaload, 114, 1, 0, 0, 0, []),
  (.invokevirtual 140, 115, 3, 126, 3, 12, [1]),
  (.ifCond .eq 7, 118, 3, 74, 0, 0, []),
  (.iconst 1, 121, 1, 0, 0, 0, []),
  (.goto 4, 122, 3, 75, 0, 0, []),
  (.iconst 0, 125, 1, 0, 0, 0, []),
  (.iadd, 126, 1, 0, 0, 0, []),
  (.istore_n 3, 127, 1, 0, 0, 0, []),
  (.iinc 4 1, 128, 3, 0, 0, 0, []),
  (.goto (-70), 131, 3, 35, 0, 0, []),
  (.iload_n 2, 134, 1, 0, 0, 0, []),
  (.iconst 1, 135, 1, 0, 0, 0, []),
  (.if_icmp .ne 12, 136, 3, 87, 0, 0, []),
  (.aload_n 0, 139, 1, 0, 0, 0, []),
  (.getfield 77, 140, 3, 12, 29, 0, []),
  (.iload_n 1, 143, 1, 0, 0, 0, []),
  (.iaload, 144, 1, 0, 0, 0, []),
  (.goto 4, 145, 3, 88, 0, 0, []),
  (.iload_n 3, 148, 1, 0, 0, 0, []),
  (.ireturn, 149, 1, 0, 0, 0, [])]
def tX12_partIn : List xI := [(.iconst 0, 0, 1, 0, 0, 0, []),
  (.istore_n 3, 1, 1, 0, 0, 0, []),
  (.iconst 0, 2, 1, 0, 0, 0, []),
  (.istore 4, 3, 2, 0, 0, 0, []),
  (.iload 4, 5, 2, 0, 0, 0, []),
  (.aload_n 0, 7, 1, 0, 0, 0, []),
  (.getfield 19, 8, 3, 12, 6, 0, []),
  (.iload_n 1, 11, 1, 0, 0, 0, []),
  (.iaload, 12, 1, 0, 0, 0, []),
  (.if_icmp .ge 47, 13, 3, 38, 0, 0, []),
  (.iload_n 3, 16, 1, 0, 0, 0, []),
  (.aload_n 0, 17, 1, 0, 0, 0, []),
  (.getfield 80, 18, 3, 12, 31, 0, []),
  (.aload_n 0, 21, 1, 0, 0, 0, []),
  (.getfield 22, 22, 3, 12, 7, 0, []),
  (.iconst 4, 25, 1, 0, 0, 0, []),
  (.iload_n 1, 26, 1, 0, 0, 0, []),
  (.imul, 27, 1, 0, 0, 0, []),
  (.iload 4, 28, 2, 0, 0, 0, []),
  (.iadd, 30, 1, 0, 0, 0, []),
  (.iaload, 31, 1, 0, 0, 0, []),
  (.iaload, 32, 1, 0, 0, 0, []),
  (.iload_n 2, 33, 1, 0, 0, 0, []),
  (.if_icmp .ne 17, 34, 3, 33, 0, 0, []),
  (.aload_n 0, 37, 1, 0, 0, 0, []),
  (.getfield 25, 38, 3, 12, 8, 0, []),
  (.iconst 4, 41, 1, 0, 0, 0, []),
  (.iload_n 1, 42, 1, 0, 0, 0, []),
  (.imul, 43, 1, 0, 0, 0, []),
  (.iload 4, 44, 2, 0, 0, 0, []),
  (.iadd, 46, 1, 0, 0, 0, []),
  (.iaload, 47, 1, 0, 0, 0, []),
  (.goto 4, 48, 3, 34, 0, 0, []),
  (.iconst 0, 51, 1, 0, 0, 0, []),
  (.iadd, 52, 1, 0, 0, 0, []),
  (.istore_n 3, 53, 1, 0, 0, 0, []),
  (.iinc 4 1, 54, 3, 0, 0, 0, []),
  (.goto (-52), 57, 3, 4, 0, 0, []),
  (.iload_n 3, 60, 1, 0, 0, 0, []),
  (.ireturn, 61, 1, 0, 0, 0, [])]
def tX12_areLike : List xI := [(.aload_n 0, 0, 1, 0, 0, 0, []),
  (.getfield 16, 1, 3, 12, 5, 0, []),
  (.iload_n 1, 4, 1, 0, 0, 0, []),
  (.iaload, 5, 1, 0, 0, 0, []),
  (.aload_n 0, 6, 1, 0, 0, 0, []),
  (.getfield 16, 7, 3, 12, 5, 0, []),
  (.iload_n 2, 10, 1, 0, 0, 0, []),
  (.iaload, 11, 1, 0, 0, 0, []),
  (.if_icmp .ne 40, 12, 3, 30, 0, 0, []),
  (.aload_n 0, 15, 1, 0, 0, 0, []),
  (.getfield 13, 16, 3, 12, 4, 0, []),
  (.iload_n 1, 19, 1, 0, 0, 0, []),
  (.iaload, 20, 1, 0, 0, 0, []),
  (.iconst 2, 21, 1, 0, 0, 0, []),
  (.if_icmp .ne 7, 22, 3, 17, 0, 0, []),
  (.iconst 1, 25, 1, 0, 0, 0, []),
  (.goto 4, 26, 3, 18, 0, 0, []),
  (.iconst 0, 29, 1, 0, 0, 0, []),
  (.aload_n 0, 30, 1, 0, 0, 0, []),
  (.getfield 13, 31, 3, 12, 4, 0, []),
  (.iload_n 2, 34, 1, 0, 0, 0, []),
  (.iaload, 35, 1, 0, 0, 0, []),
  (.iconst 2, 36, 1, 0, 0, 0, []),
  (.if_icmp .ne 7, 37, 3, 26, 0, 0, []),
  (.iconst 1, 40, 1, 0, 0, 0, []),
  (.goto 4, 41, 3, 27, 0, 0, []),
  (.iconst 0, 44, 1, 0, 0, 0, []),
  (.if_icmp .ne 7, 45, 3, 30, 0, 0, []),
  (.iconst 1, 48, 1, 0, 0, 0, []),
  (.goto 4, 49, 3, 31, 0, 0, []),
  (.iconst 0, 52, 1, 0, 0, 0, []),
  (.istore_n 3, 53, 1, 0, 0, 0, []),
  (.iconst 0, 54, 1, 0, 0, 0, []),
  (.istore 4, 55, 2, 0, 0, 0, []),
  (.iload 4, 57, 2, 0, 0, 0, []),
  (.bipush 10, 59, 2, 0, 0, 0, []),
  (.if_icmp .ge 36, 61, 3, 54, 0, 0, []),
  (.iload_n 3, 64, 1, 0, 0, 0, []),
  (.ifCond .eq 32, 65, 3, 54, 0, 0, []),
  (.aload_n 0, 68, 1, 0, 0, 0, []),
  (.iload_n 1, 69, 1, 0, 0, 0, []),
  (.iload 4, 70, 2, 0, 0, 0, []),
  (.invokevirtual 287, 72, 3, 170, 3, 12, [1]),
  (.aload_n 0, 75, 1, 0, 0, 0, []),
  (.iload_n 2, 76, 1, 0, 0, 0, []),
  (.iload 4, 77, 2, 0, 0, 0, []),
  (.invokevirtual 287, 79, 3, 170, 3, 12, [1]),
  (.if_icmp .ne 7, 82, 3, 50, 0, 0, []),
  (.iconst 1, 85, 1, 0, 0, 0, []),
  (.goto 4, 86, 3, 51, 0, 0, []),
  (.iconst 0, 89, 1, 0, 0, 0, []),
  (.istore_n 3, 90, 1, 0, 0, 0, []),
  (.iinc 4 1, 91, 3, 0, 0, 0, []),
  (.goto (-37), 94, 3, 34, 0, 0, []),
  (.iload_n 3, 97, 1, 0, 0, 0, []),
  (.ireturn, 98, 1, 0, 0, 0, [])]
def tX12_hasAll : List xI := [(.iconst 1, 0, 1, 0, 0, 0, []),
  (.istore_n 3, 1, 1, 0, 0, 0, []),
  (.iconst 0, 2, 1, 0, 0, 0, []),
  (.istore 4, 3, 2, 0, 0, 0, []),
  (.iload 4, 5, 2, 0, 0, 0, []),
  (.aload_n 0, 7, 1, 0, 0, 0, []),
  (.getfield 7, 8, 3, 12, 3, 0, []),
  (.iload_n 1, 11, 1, 0, 0, 0, []),
  (.iaload, 12, 1, 0, 0, 0, []),
  (.if_icmp .ge 78, 13, 3, 51, 0, 0, []),
  (.iconst 0, 16, 1, 0, 0, 0, []),
  (.istore 5, 17, 2, 0, 0, 0, []),
  (.iconst 0, 19, 1, 0, 0, 0, []),
  (.istore 6, 20, 2, 0, 0, 0, []),
  (.iload 6, 22, 2, 0, 0, 0, []),
  (.aload_n 0, 24, 1, 0, 0, 0, []),
  (.getfield 7, 25, 3, 12, 3, 0, []),
  (.iload_n 2, 28, 1, 0, 0, 0, []),
  (.iaload, 29, 1, 0, 0, 0, []),
  (.if_icmp .ge 40, 30, 3, 41, 0, 0, []),
  (.iload 5, 33, 2, 0, 0, 0, []),
  (.ifCond .ne 22, 35, 3, 35, 0, 0, []),
  (.aload_n 0, 38, 1, 0, 0, 0, []),
  (.iconst 4, 39, 1, 0, 0, 0, []),
  (.iload_n 1, 40, 1, 0, 0, 0, []),
  (.imul, 41, 1, 0, 0, 0, []),
  (.iload 4, 42, 2, 0, 0, 0, []),
  (.iadd, 44, 1, 0, 0, 0, []),
  (.iconst 4, 45, 1, 0, 0, 0, []),
  (.iload_n 2, 46, 1, 0, 0, 0, []),
  (.imul, 47, 1, 0, 0, 0, []),
  (.iload 6, 48, 2, 0, 0, 0, []),
  (.iadd, 50, 1, 0, 0, 0, []),
  (.invokevirtual 290, 51, 3, 171, 3, 12, [1]),
  (.ifCond .eq 7, 54, 3, 37, 0, 0, []),
  (.iconst 1, 57, 1, 0, 0, 0, []),
  (.goto 4, 58, 3, 38, 0, 0, []),
  (.iconst 0, 61, 1, 0, 0, 0, []),
  (.istore 5, 62, 2, 0, 0, 0, []),
  (.iinc 6 1, 64, 3, 0, 0, 0, []),
  (.goto (-45), 67, 3, 14, 0, 0, []),
  (.iload_n 3, 70, 1, 0, 0, 0, []),
  (.ifCond .eq 12, 71, 3, 47, 0, 0, []),
  (.iload 5, 74, 2, 0, 0, 0, []),
  (.ifCond .eq 7, 76, 3, 47, 0, 0, []),
  (.iconst 1, 79, 1, 0, 0, 0, []),
  (.goto 4, 80, 3, 48, 0, 0, []),
  (.iconst 0, 83, 1, 0, 0, 0, []),
  (.istore_n 3, 84, 1, 0, 0, 0, []),
  (.iinc 4 1, 85, 3, 0, 0, 0, []),
  (.goto (-83), 88, 3, 4, 0, 0, []),
  (.iload_n 3, 91, 1, 0, 0, 0, []),
  (.ireturn, 92, 1, 0, 0, 0, [])]
def tX12_findClasses : List xI := [(.iconst 0, 0, 1, 0, 0, 0, []),
  (.istore_n 1, 1, 1, 0, 0, 0, []),
  (.iload_n 1, 2, 1, 0, 0, 0, []),
  (.aload_n 0, 3, 1, 0, 0, 0, []),
  (.getfield 105, 4, 3, 12, 1, 0, []),
  (.if_icmp .ge 28, 7, 3, 19, 0, 0, []),
  (.aload_n 0, 10, 1, 0, 0, 0, []),
  (.getfield 80, 11, 3, 12, 31, 0, []),
  (.iload_n 1, 14, 1, 0, 0, 0, []),
  (.aload_n 0, 15, 1, 0, 0, 0, []),
  (.iload_n 1, 16, 1, 0, 0, 0, []),
  (.invokevirtual 231, 17, 3, 116, 2, 12, [1]),
  (.ifCond .eq 7, 20, 3, 15, 0, 0, []),
  (.iconst 1, 23, 1, 0, 0, 0, []),
  (.goto 4, 24, 3, 16, 0, 0, []),
  (.iconst 0, 27, 1, 0, 0, 0, []),
  (.iastore, 28, 1, 0, 0, 0, []),
  (.iinc 1 1, 29, 3, 0, 0, 0, []),
  (.goto (-30), 32, 3, 2, 0, 0, []),
  (.iconst 0, 35, 1, 0, 0, 0, []),
  (.istore_n 1, 36, 1, 0, 0, 0, []),
  (.iconst 0, 37, 1, 0, 0, 0, []),
  (.istore_n 2, 38, 1, 0, 0, 0, []),
  (.iload_n 2, 39, 1, 0, 0, 0, []),
  (.bipush 12, 40, 2, 0, 0, 0, []),
  (.if_icmp .ge 157, 42, 3, 108, 0, 0, []),
  (.iconst 0, 45, 1, 0, 0, 0, []),
  (.istore_n 1, 46, 1, 0, 0, 0, []),
  (.iconst 0, 47, 1, 0, 0, 0, []),
  (.istore_n 3, 48, 1, 0, 0, 0, []),
  (.iload_n 3, 49, 1, 0, 0, 0, []),
  (.aload_n 0, 50, 1, 0, 0, 0, []),
  (.getfield 105, 51, 3, 12, 1, 0, []),
  (.if_icmp .ge 111, 54, 3, 90, 0, 0, []),
  (.iconst (-1), 57, 1, 0, 0, 0, []),
  (.istore 4, 58, 2, 0, 0, 0, []),
  (.iconst 0, 60, 1, 0, 0, 0, []),
  (.istore 5, 61, 2, 0, 0, 0, []),
  (.iload 5, 63, 2, 0, 0, 0, []),
  (.iload_n 3, 65, 1, 0, 0, 0, []),
  (.if_icmp .ge 63, 66, 3, 71, 0, 0, []),
  (.iload 4, 69, 2, 0, 0, 0, []),
  (.ifCond .ge 58, 71, 3, 71, 0, 0, []),
  (.aload_n 0, 74, 1, 0, 0, 0, []),
  (.getfield 80, 75, 3, 12, 31, 0, []),
  (.iload_n 3, 78, 1, 0, 0, 0, []),
  (.iaload, 79, 1, 0, 0, 0, []),
  (.aload_n 0, 80, 1, 0, 0, 0, []),
  (.getfield 80, 81, 3, 12, 31, 0, []),
  (.iload 5, 84, 2, 0, 0, 0, []),
  (.iaload, 86, 1, 0, 0, 0, []),
  (.if_icmp .ne 33, 87, 3, 67, 0, 0, []),
  (.aload_n 0, 90, 1, 0, 0, 0, []),
  (.iload_n 3, 91, 1, 0, 0, 0, []),
  (.iload 5, 92, 2, 0, 0, 0, []),
  (.invokevirtual 293, 94, 3, 172, 3, 12, [1]),
  (.ifCond .eq 23, 97, 3, 67, 0, 0, []),
  (.aload_n 0, 100, 1, 0, 0, 0, []),
  (.iload 5, 101, 2, 0, 0, 0, []),
  (.iload_n 3, 103, 1, 0, 0, 0, []),
  (.invokevirtual 293, 104, 3, 172, 3, 12, [1]),
  (.ifCond .eq 13, 107, 3, 67, 0, 0, []),
  (.aload_n 0, 110, 1, 0, 0, 0, []),
  (.getfield 83, 111, 3, 12, 32, 0, []),
  (.iload 5, 114, 2, 0, 0, 0, []),
  (.iaload, 116, 1, 0, 0, 0, []),
  (.goto 4, 117, 3, 68, 0, 0, []),
  (.iconst (-1), 120, 1, 0, 0, 0, []),
  (.istore 4, 121, 2, 0, 0, 0, []),
  (.iinc 5 1, 123, 3, 0, 0, 0, []),
  (.goto (-63), 126, 3, 38, 0, 0, []),
  (.aload_n 0, 129, 1, 0, 0, 0, []),
  (.getfield 83, 130, 3, 12, 32, 0, []),
  (.iload_n 3, 133, 1, 0, 0, 0, []),
  (.iload 4, 134, 2, 0, 0, 0, []),
  (.ifCond .ge 7, 136, 3, 78, 0, 0, []),
  (.iload_n 1, 139, 1, 0, 0, 0, []),
  (.goto 5, 140, 3, 79, 0, 0, []),
  (.iload 4, 143, 2, 0, 0, 0, []),
  (.iastore, 145, 1, 0, 0, 0, []),
  (.iload_n 1, 146, 1, 0, 0, 0, []),
  (.iload 4, 147, 2, 0, 0, 0, []),
  (.ifCond .ge 7, 149, 3, 85, 0, 0, []),
  (.iconst 1, 152, 1, 0, 0, 0, []),
  (.goto 4, 153, 3, 86, 0, 0, []),
  (.iconst 0, 156, 1, 0, 0, 0, []),
  (.iadd, 157, 1, 0, 0, 0, []),
  (.istore_n 1, 158, 1, 0, 0, 0, []),
  (.iinc 3 1, 159, 3, 0, 0, 0, []),
  (.goto (-113), 162, 3, 30, 0, 0, []),
  (.iconst 0, 165, 1, 0, 0, 0, []),
  (.istore_n 3, 166, 1, 0, 0, 0, []),
  (.iload_n 3, 167, 1, 0, 0, 0, []),
  (.aload_n 0, 168, 1, 0, 0, 0, []),
  (.getfield 105, 169, 3, 12, 1, 0, []),
  (.if_icmp .ge 21, 172, 3, 106, 0, 0, []),
  (.aload_n 0, 175, 1, 0, 0, 0, []),
  (.getfield 80, 176, 3, 12, 31, 0, []),
  (.iload_n 3, 179, 1, 0, 0, 0, []),
  (.aload_n 0, 180, 1, 0, 0, 0, []),
  (.getfield 83, 181, 3, 12, 32, 0, []),
  (.iload_n 3, 184, 1, 0, 0, 0, []),
  (.iaload, 185, 1, 0, 0, 0, []),
  (.iastore, 186, 1, 0, 0, 0, []),
  (.iinc 3 1, 187, 3, 0, 0, 0, []),
  (.goto (-23), 190, 3, 92, 0, 0, []),
  (.iinc 2 1, 193, 3, 0, 0, 0, []),
  (.goto (-157), 196, 3, 23, 0, 0, []),
  (.iload_n 1, 199, 1, 0, 0, 0, []),
  (.ireturn, 200, 1, 0, 0, 0, [])]
def tX12_twin : List xI := [(.aload_n 0, 0, 1, 0, 0, 0, []),
  (.iconst 0, 1, 1, 0, 0, 0, []),
  (.putfield 101, 2, 3, 12, 0, 0, []),
  (.aload_n 0, 5, 1, 0, 0, 0, []),
  (.iload_n 1, 6, 1, 0, 0, 0, []),
  (.invokevirtual 108, 7, 3, 114, 2, 12, [1]),
  (.ifCond .ne 5, 10, 3, 9, 0, 0, []),
  (.iconst (-1), 13, 1, 0, 0, 0, []),
  (.ireturn, 14, 1, 0, 0, 0, []),
  (.aload_n 0, 15, 1, 0, 0, 0, []),
  (.invokevirtual 136, 16, 3, 124, 1, 12, [1]),
  (.ifCond .le 6, 19, 3, 14, 0, 0, []),
  (.bipush (-2), 22, 2, 0, 0, 0, []),
  (.ireturn, 24, 1, 0, 0, 0, []),
  (.aload_n 0, 25, 1, 0, 0, 0, []),
  (.invokevirtual 296, 26, 3, 173, 1, 12, [1]),
  (.istore_n 2, 29, 1, 0, 0, 0, []),
  (.aload_n 0, 30, 1, 0, 0, 0, []),
  (.getfield 80, 31, 3, 12, 31, 0, []),
  (.iload_n 1, 34, 1, 0, 0, 0, []),
  (.iaload, 35, 1, 0, 0, 0, []),
  (.ireturn, 36, 1, 0, 0, 0, [])]
def tX12_count : List xI := [(.aload_n 0, 0, 1, 0, 0, 0, []),
  (.iconst 0, 1, 1, 0, 0, 0, []),
  (.putfield 101, 2, 3, 12, 0, 0, []),
  (.iconst 0, 5, 1, 0, 0, 0, []),
  (.istore_n 2, 6, 1, 0, 0, 0, []),
  (.iload_n 1, 7, 1, 0, 0, 0, []),
  (.ifCond .ne 8, 8, 3, 10, 0, 0, []),
  (.aload_n 0, 11, 1, 0, 0, 0, []),
  (.getfield 105, 12, 3, 12, 1, 0, []),
  (.ireturn, 15, 1, 0, 0, 0, []),
  (.iload_n 1, 16, 1, 0, 0, 0, []),
  (.iconst 4, 17, 1, 0, 0, 0, []),
  (.if_icmp .ne 20, 18, 3, 21, 0, 0, []),
  (.aload_n 0, 21, 1, 0, 0, 0, []),
  (.invokevirtual 136, 22, 3, 124, 1, 12, [1]),
  (.ifCond .le 8, 25, 3, 18, 0, 0, []),
  (.bipush (-2), 28, 2, 0, 0, 0, []),
  (.goto 7, 30, 3, 20, 0, 0, []),
  (.aload_n 0, 33, 1, 0, 0, 0, []),
  (.invokevirtual 296, 34, 3, 173, 1, 12, [1]),
  (.ireturn, 37, 1, 0, 0, 0, []),
  (.iload_n 1, 38, 1, 0, 0, 0, []),
  (.i2l, 39, 1, 0, 0, 0, []),
  (.lconst 1, 40, 1, 0, 0, 0, []),
  (.ldc2_w 115, 41, 3, 0, 0, 3, []),
  (.invokestatic 117, 44, 3, 113, 3, 0, [1]),
  (.ifCond .ne 5, 47, 3, 29, 0, 0, []),
  (.iconst (-1), 50, 1, 0, 0, 0, []),
  (.ireturn, 51, 1, 0, 0, 0, []),
  (.iconst 0, 52, 1, 0, 0, 0, []),
  (.istore_n 3, 53, 1, 0, 0, 0, []),
  (.iload_n 3, 54, 1, 0, 0, 0, []),
  (.iconst 4, 55, 1, 0, 0, 0, []),
  (.aload_n 0, 56, 1, 0, 0, 0, []),
  (.getfield 105, 57, 3, 12, 1, 0, []),
  (.imul, 60, 1, 0, 0, 0, []),
  (.if_icmp .ge 80, 61, 3, 82, 0, 0, []),
  (.iload_n 3, 64, 1, 0, 0, 0, []),
  (.iconst 4, 65, 1, 0, 0, 0, []),
  (.irem, 66, 1, 0, 0, 0, []),
  (.aload_n 0, 67, 1, 0, 0, 0, []),
  (.getfield 7, 68, 3, 12, 3, 0, []),
  (.iload_n 3, 71, 1, 0, 0, 0, []),
  (.iconst 4, 72, 1, 0, 0, 0, []),
  (.idiv, 73, 1, 0, 0, 0, []),
  (.iaload, 74, 1, 0, 0, 0, []),
  (.if_icmp .ge 7, 75, 3, 49, 0, 0, []),
  (.iconst 1, 78, 1, 0, 0, 0, []),
  (.goto 4, 79, 3, 50, 0, 0, []),
  (.iconst 0, 82, 1, 0, 0, 0, []),
  (.istore 4, 83, 2, 0, 0, 0, []),
  (.iload_n 2, 85, 1, 0, 0, 0, []),
  (.iload 4, 86, 2, 0, 0, 0, []),
  (.ifCond .ne 7, 88, 3, 56, 0, 0, []),
  (.iconst 0, 91, 1, 0, 0, 0, []),
  (.goto 41, 92, 3, 78, 0, 0, []),
  (.iload_n 1, 95, 1, 0, 0, 0, []),
  (.iconst 1, 96, 1, 0, 0, 0, []),
  (.if_icmp .ne 7, 97, 3, 61, 0, 0, []),
  (.iconst 1, 100, 1, 0, 0, 0, []),
  (.goto 32, 101, 3, 78, 0, 0, []),
  (.iload_n 1, 104, 1, 0, 0, 0, []),
  (.iconst 2, 105, 1, 0, 0, 0, []),
  (.if_icmp .ne 12, 106, 3, 69, 0, 0, []),
  (.aload_n 0, 109, 1, 0, 0, 0, []),
  (.getfield 19, 110, 3, 12, 6, 0, []),
  (.iload_n 3, 113, 1, 0, 0, 0, []),
  (.iaload, 114, 1, 0, 0, 0, []),
  (.goto 18, 115, 3, 78, 0, 0, []),
  (.aload_n 0, 118, 1, 0, 0, 0, []),
  (.getfield 13, 119, 3, 12, 4, 0, []),
  (.iload_n 3, 122, 1, 0, 0, 0, []),
  (.iaload, 123, 1, 0, 0, 0, []),
  (.iconst 2, 124, 1, 0, 0, 0, []),
  (.if_icmp .ne 7, 125, 3, 77, 0, 0, []),
  (.iconst 1, 128, 1, 0, 0, 0, []),
  (.goto 4, 129, 3, 78, 0, 0, []),
  (.iconst 0, 132, 1, 0, 0, 0, []),
  (.iadd, 133, 1, 0, 0, 0, []),
  (.istore_n 2, 134, 1, 0, 0, 0, []),
  (.iinc 3 1, 135, 3, 0, 0, 0, []),
  (.goto (-84), 138, 3, 31, 0, 0, []),
  (.iload_n 2, 141, 1, 0, 0, 0, []),
  (.ireturn, 142, 1, 0, 0, 0, [])]
def tX12_look : List xI := [(.aload_n 0, 0, 1, 0, 0, 0, []),
  (.iconst 0, 1, 1, 0, 0, 0, []),
  (.putfield 101, 2, 3, 12, 0, 0, []),
  (.aload_n 0, 5, 1, 0, 0, 0, []),
  (.iload_n 1, 6, 1, 0, 0, 0, []),
  (.iload_n 2, 7, 1, 0, 0, 0, []),
  (.invokevirtual 126, 8, 3, 115, 3, 12, [1]),
  (.ifCond .eq 15, 11, 3, 14, 0, 0, []),
  (.iload_n 3, 14, 1, 0, 0, 0, []),
  (.i2l, 15, 1, 0, 0, 0, []),
  (.lconst 0, 16, 1, 0, 0, 0, []),
  (.ldc2_w 250, 17, 3, 0, 0, 10, []),
  (.invokestatic 117, 20, 3, 113, 3, 0, [1]),
  (.ifCond .ne 5, 23, 3, 16, 0, 0, []),
  (.iconst (-1), 26, 1, 0, 0, 0, []),
  (.ireturn, 27, 1, 0, 0, 0, []),
  (.iconst 4, 28, 1, 0, 0, 0, []),
  (.iload_n 1, 29, 1, 0, 0, 0, []),
  (.imul, 30, 1, 0, 0, 0, []),
  (.iload_n 2, 31, 1, 0, 0, 0, []),
  (.iadd, 32, 1, 0, 0, 0, []),
  (.istore 4, 33, 2, 0, 0, 0, []),
  (.iload_n 3, 35, 1, 0, 0, 0, []),
  (.iconst 3, 36, 1, 0, 0, 0, []),
  (.if_icmp .ge 40, 37, 3, 45, 0, 0, []),
  (.iload_n 3, 40, 1, 0, 0, 0, []),
  (.ifCond .ne 13, 41, 3, 32, 0, 0, []),
  (.aload_n 0, 44, 1, 0, 0, 0, []),
  (.getfield 13, 45, 3, 12, 4, 0, []),
  (.iload 4, 48, 2, 0, 0, 0, []),
  (.iaload, 50, 1, 0, 0, 0, []),
  (.goto 25, 51, 3, 44, 0, 0, []),
  (.iload_n 3, 54, 1, 0, 0, 0, []),
  (.iconst 1, 55, 1, 0, 0, 0, []),
  (.if_icmp .ne 13, 56, 3, 40, 0, 0, []),
  (.aload_n 0, 59, 1, 0, 0, 0, []),
  (.getfield 16, 60, 3, 12, 5, 0, []),
  (.iload 4, 63, 2, 0, 0, 0, []),
  (.iaload, 65, 1, 0, 0, 0, []),
  (.goto 10, 66, 3, 44, 0, 0, []),
  (.aload_n 0, 69, 1, 0, 0, 0, []),
  (.getfield 19, 70, 3, 12, 6, 0, []),
  (.iload 4, 73, 2, 0, 0, 0, []),
  (.iaload, 75, 1, 0, 0, 0, []),
  (.ireturn, 76, 1, 0, 0, 0, []),
  (.iload_n 3, 77, 1, 0, 0, 0, []),
  (.iconst 3, 78, 1, 0, 0, 0, []),
  (.isub, 79, 1, 0, 0, 0, []),
  (.iconst 4, 80, 1, 0, 0, 0, []),
  (.irem, 81, 1, 0, 0, 0, []),
  (.istore 5, 82, 2, 0, 0, 0, []),
  (.iload 5, 84, 2, 0, 0, 0, []),
  (.aload_n 0, 86, 1, 0, 0, 0, []),
  (.getfield 19, 87, 3, 12, 6, 0, []),
  (.iload 4, 90, 2, 0, 0, 0, []),
  (.iaload, 92, 1, 0, 0, 0, []),
  (.if_icmp .lt 8, 93, 3, 59, 0, 0, []),
  (.bipush (-2), 96, 2, 0, 0, 0, []),
  (.goto 36, 98, 3, 79, 0, 0, []),
  (.iload_n 3, 101, 1, 0, 0, 0, []),
  (.bipush 7, 102, 2, 0, 0, 0, []),
  (.if_icmp .ge 18, 104, 3, 71, 0, 0, []),
  (.aload_n 0, 107, 1, 0, 0, 0, []),
  (.getfield 22, 108, 3, 12, 7, 0, []),
  (.iconst 4, 111, 1, 0, 0, 0, []),
  (.iload 4, 112, 2, 0, 0, 0, []),
  (.imul, 114, 1, 0, 0, 0, []),
  (.iload 5, 115, 2, 0, 0, 0, []),
  (.iadd, 117, 1, 0, 0, 0, []),
  (.iaload, 118, 1, 0, 0, 0, []),
  (.goto 15, 119, 3, 79, 0, 0, []),
  (.aload_n 0, 122, 1, 0, 0, 0, []),
  (.getfield 25, 123, 3, 12, 8, 0, []),
  (.iconst 4, 126, 1, 0, 0, 0, []),
  (.iload 4, 127, 2, 0, 0, 0, []),
  (.imul, 129, 1, 0, 0, 0, []),
  (.iload 5, 130, 2, 0, 0, 0, []),
  (.iadd, 132, 1, 0, 0, 0, []),
  (.iaload, 133, 1, 0, 0, 0, []),
  (.ireturn, 134, 1, 0, 0, 0, [])]
def tX12_isShelf : List xI := [(.iload_n 0, 0, 1, 0, 0, 0, []),
  (.ifCond .lt 13, 1, 3, 7, 0, 0, []),
  (.iload_n 0, 4, 1, 0, 0, 0, []),
  (.bipush 8, 5, 2, 0, 0, 0, []),
  (.if_icmp .ge 7, 7, 3, 7, 0, 0, []),
  (.iconst 1, 10, 1, 0, 0, 0, []),
  (.goto 4, 11, 3, 8, 0, 0, []),
  (.iconst 0, 14, 1, 0, 0, 0, []),
  (.ireturn, 15, 1, 0, 0, 0, [])]
def tX12_weightOf : List xI := [(.aload_n 0, 0, 1, 0, 0, 0, []),
  (.getfield 16, 1, 3, 12, 5, 0, []),
  (.iload_n 1, 4, 1, 0, 0, 0, []),
  (.iaload, 5, 1, 0, 0, 0, []),
  (.iconst 5, 6, 1, 0, 0, 0, []),
  (.aload_n 0, 7, 1, 0, 0, 0, []),
  (.getfield 19, 8, 3, 12, 6, 0, []),
  (.iload_n 1, 11, 1, 0, 0, 0, []),
  (.iaload, 12, 1, 0, 0, 0, []),
  (.imul, 13, 1, 0, 0, 0, []),
  (.iadd, 14, 1, 0, 0, 0, []),
  (.istore_n 2, 15, 1, 0, 0, 0, []),
  (.aload_n 0, 16, 1, 0, 0, 0, []),
  (.getfield 13, 17, 3, 12, 4, 0, []),
  (.iload_n 1, 20, 1, 0, 0, 0, []),
  (.iaload, 21, 1, 0, 0, 0, []),
  (.ifCond .ne 7, 22, 3, 19, 0, 0, []),
  (.iload_n 2, 25, 1, 0, 0, 0, []),
  (.goto 43, 26, 3, 44, 0, 0, []),
  (.aload_n 0, 29, 1, 0, 0, 0, []),
  (.getfield 13, 30, 3, 12, 4, 0, []),
  (.iload_n 1, 33, 1, 0, 0, 0, []),
  (.iaload, 34, 1, 0, 0, 0, []),
  (.iconst 1, 35, 1, 0, 0, 0, []),
  (.if_icmp .ne 10, 36, 3, 29, 0, 0, []),
  (.iload_n 2, 39, 1, 0, 0, 0, []),
  (.bipush 50, 40, 2, 0, 0, 0, []),
  (.iadd, 42, 1, 0, 0, 0, []),
  (.goto 26, 43, 3, 44, 0, 0, []),
  (.aload_n 0, 46, 1, 0, 0, 0, []),
  (.getfield 13, 47, 3, 12, 4, 0, []),
  (.iload_n 1, 50, 1, 0, 0, 0, []),
  (.iaload, 51, 1, 0, 0, 0, []),
  (.iconst 2, 52, 1, 0, 0, 0, []),
  (.if_icmp .ne 10, 53, 3, 39, 0, 0, []),
  (.iload_n 2, 56, 1, 0, 0, 0, []),
  (.bipush 7, 57, 2, 0, 0, 0, []),
  (.iadd, 59, 1, 0, 0, 0, []),
  (.goto 9, 60, 3, 44, 0, 0, []),
  (.iconst 2, 63, 1, 0, 0, 0, []),
  (.iload_n 2, 64, 1, 0, 0, 0, []),
  (.bipush 50, 65, 2, 0, 0, 0, []),
  (.iadd, 67, 1, 0, 0, 0, []),
  (.imul, 68, 1, 0, 0, 0, []),
  (.ireturn, 69, 1, 0, 0, 0, [])]
def tX12_keep : List xI := [(.aload_n 0, 0, 1, 0, 0, 0, []),
  (.iconst 0, 1, 1, 0, 0, 0, []),
  (.putfield 101, 2, 3, 12, 0, 0, []),
  (.iload_n 1, 5, 1, 0, 0, 0, []),
  (.invokestatic 299, 6, 3, 177, 1, 0, [1]),
  (.ifCond .eq 52, 9, 3, 32, 0, 0, []),
  (.iload_n 2, 12, 1, 0, 0, 0, []),
  (.i2l, 13, 1, 0, 0, 0, []),
  (.lconst 0, 14, 1, 0, 0, 0, []),
  (.ldc2_w 302, 15, 3, 0, 0, 4, []),
  (.invokestatic 117, 18, 3, 113, 3, 0, [1]),
  (.ifCond .eq 40, 21, 3, 32, 0, 0, []),
  (.iload_n 2, 24, 1, 0, 0, 0, []),
  (.iconst 1, 25, 1, 0, 0, 0, []),
  (.if_icmp .eq 8, 26, 3, 18, 0, 0, []),
  (.iload_n 2, 29, 1, 0, 0, 0, []),
  (.iconst 3, 30, 1, 0, 0, 0, []),
  (.if_icmp .ne 13, 31, 3, 23, 0, 0, []),
  (.aload_n 0, 34, 1, 0, 0, 0, []),
  (.iload_n 3, 35, 1, 0, 0, 0, []),
  (.iload 4, 36, 2, 0, 0, 0, []),
  (.invokevirtual 126, 38, 3, 115, 3, 12, [1]),
  (.ifCond .eq 20, 41, 3, 32, 0, 0, []),
  (.iload_n 2, 44, 1, 0, 0, 0, []),
  (.iconst 2, 45, 1, 0, 0, 0, []),
  (.if_icmp .ne 11, 46, 3, 30, 0, 0, []),
  (.aload_n 0, 49, 1, 0, 0, 0, []),
  (.iload_n 3, 50, 1, 0, 0, 0, []),
  (.invokevirtual 108, 51, 3, 114, 2, 12, [1]),
  (.ifCond .eq 7, 54, 3, 32, 0, 0, []),
  (.iconst 1, 57, 1, 0, 0, 0, []),
  (.goto 4, 58, 3, 33, 0, 0, []),
  (.iconst 0, 61, 1, 0, 0, 0, []),
  (.istore 5, 62, 2, 0, 0, 0, []),
  (.iload 5, 64, 2, 0, 0, 0, []),
  (.ifCond .ne 5, 66, 3, 38, 0, 0, []),
  (.iconst (-1), 69, 1, 0, 0, 0, []),
  (.ireturn, 70, 1, 0, 0, 0, []),
  (.iload_n 2, 71, 1, 0, 0, 0, []),
  (.iconst 2, 72, 1, 0, 0, 0, []),
  (.if_icmp .eq 8, 73, 3, 44, 0, 0, []),
  (.iload_n 2, 76, 1, 0, 0, 0, []),
  (.iconst 4, 77, 1, 0, 0, 0, []),
  (.if_icmp .ne 11, 78, 3, 48, 0, 0, []),
  (.aload_n 0, 81, 1, 0, 0, 0, []),
  (.invokevirtual 240, 82, 3, 151, 1, 12, [2]),
  (.l2i, 85, 1, 0, 0, 0, []),
  (.goto 4, 86, 3, 49, 0, 0, []),
  (.iconst 0, 89, 1, 0, 0, 0, []),
  (.istore 6, 90, 2, 0, 0, 0, []),
  (.iload 6, 92, 2, 0, 0, 0, []),
  (.ifCond .ge 6, 94, 3, 54, 0, 0, []),
  (.iload 6, 97, 2, 0, 0, 0, []),
  (.ireturn, 99, 1, 0, 0, 0, []),
  (.aload_n 0, 100, 1, 0, 0, 0, []),
  (.getfield 86, 101, 3, 12, 33, 0, []),
  (.iload_n 1, 104, 1, 0, 0, 0, []),
  (.iload_n 2, 105, 1, 0, 0, 0, []),
  (.iastore, 106, 1, 0, 0, 0, []),
  (.aload_n 0, 107, 1, 0, 0, 0, []),
  (.getfield 89, 108, 3, 12, 34, 0, []),
  (.iload_n 1, 111, 1, 0, 0, 0, []),
  (.iload_n 2, 112, 1, 0, 0, 0, []),
  (.iconst 3, 113, 1, 0, 0, 0, []),
  (.if_icmp .ne 17, 114, 3, 74, 0, 0, []),
  (.aload_n 0, 117, 1, 0, 0, 0, []),
  (.getfield 19, 118, 3, 12, 6, 0, []),
  (.iconst 4, 121, 1, 0, 0, 0, []),
  (.iload_n 3, 122, 1, 0, 0, 0, []),
  (.imul, 123, 1, 0, 0, 0, []),
  (.iload 4, 124, 2, 0, 0, 0, []),
  (.iadd, 126, 1, 0, 0, 0, []),
  (.iaload, 127, 1, 0, 0, 0, []),
  (.goto 18, 128, 3, 83, 0, 0, []),
  (.iload_n 2, 131, 1, 0, 0, 0, []),
  (.iconst 4, 132, 1, 0, 0, 0, []),
  (.if_icmp .ne 12, 133, 3, 82, 0, 0, []),
  (.iconst 2, 136, 1, 0, 0, 0, []),
  (.aload_n 0, 137, 1, 0, 0, 0, []),
  (.getfield 105, 138, 3, 12, 1, 0, []),
  (.imul, 141, 1, 0, 0, 0, []),
  (.goto 4, 142, 3, 83, 0, 0, []),
  (.iconst 0, 145, 1, 0, 0, 0, []),
  (.iastore, 146, 1, 0, 0, 0, []),
  (.iload_n 2, 147, 1, 0, 0, 0, []),
  (.iconst 1, 148, 1, 0, 0, 0, []),
  (.if_icmp .eq 8, 149, 3, 90, 0, 0, []),
  (.iload_n 2, 152, 1, 0, 0, 0, []),
  (.iconst 2, 153, 1, 0, 0, 0, []),
  (.if_icmp .ne 34, 154, 3, 110, 0, 0, []),
  (.aload_n 0, 157, 1, 0, 0, 0, []),
  (.getfield 92, 158, 3, 12, 35, 0, []),
  (.iload_n 1, 161, 1, 0, 0, 0, []),
  (.iload_n 2, 162, 1, 0, 0, 0, []),
  (.iconst 1, 163, 1, 0, 0, 0, []),
  (.if_icmp .ne 17, 164, 3, 105, 0, 0, []),
  (.aload_n 0, 167, 1, 0, 0, 0, []),
  (.iconst 4, 168, 1, 0, 0, 0, []),
  (.iload_n 3, 169, 1, 0, 0, 0, []),
  (.imul, 170, 1, 0, 0, 0, []),
  (.iload 4, 171, 2, 0, 0, 0, []),
  (.iadd, 173, 1, 0, 0, 0, []),
  (.invokevirtual 304, 174, 3, 178, 2, 12, [1]),
  (.i2l, 177, 1, 0, 0, 0, []),
  (.goto 9, 178, 3, 109, 0, 0, []),
  (.aload_n 0, 181, 1, 0, 0, 0, []),
  (.getfield 50, 182, 3, 12, 17, 0, []),
  (.iload_n 3, 185, 1, 0, 0, 0, []),
  (.laload, 186, 1, 0, 0, 0, []),
  (.lastore, 187, 1, 0, 0, 0, []),
  (.iconst 0, 188, 1, 0, 0, 0, []),
  (.istore 7, 189, 2, 0, 0, 0, []),
  (.iload 7, 191, 2, 0, 0, 0, []),
  (.aload_n 0, 193, 1, 0, 0, 0, []),
  (.getfield 89, 194, 3, 12, 34, 0, []),
  (.iload_n 1, 197, 1, 0, 0, 0, []),
  (.iaload, 198, 1, 0, 0, 0, []),
  (.if_icmp .ge 75, 199, 3, 162, 0, 0, []),
  (.aload_n 0, 202, 1, 0, 0, 0, []),
  (.getfield 95, 203, 3, 12, 36, 0, []),
  (.bipush 60, 206, 2, 0, 0, 0, []),
  (.iload_n 1, 208, 1, 0, 0, 0, []),
  (.imul, 209, 1, 0, 0, 0, []),
  (.iload 7, 210, 2, 0, 0, 0, []),
  (.iadd, 212, 1, 0, 0, 0, []),
  (.iload_n 2, 213, 1, 0, 0, 0, []),
  (.iconst 3, 214, 1, 0, 0, 0, []),
  (.if_icmp .ne 24, 215, 3, 142, 0, 0, []),
  (.aload_n 0, 218, 1, 0, 0, 0, []),
  (.getfield 25, 219, 3, 12, 8, 0, []),
  (.bipush 16, 222, 2, 0, 0, 0, []),
  (.iload_n 3, 224, 1, 0, 0, 0, []),
  (.imul, 225, 1, 0, 0, 0, []),
  (.iconst 4, 226, 1, 0, 0, 0, []),
  (.iload 4, 227, 2, 0, 0, 0, []),
  (.imul, 229, 1, 0, 0, 0, []),
  (.iadd, 230, 1, 0, 0, 0, []),
  (.iload 7, 231, 2, 0, 0, 0, []),
  (.iadd, 233, 1, 0, 0, 0, []),
  (.iaload, 234, 1, 0, 0, 0, []),
  (.i2l, 235, 1, 0, 0, 0, []),
  (.goto 31, 236, 3, 159, 0, 0, []),
  (.iload 7, 239, 2, 0, 0, 0, []),
  (.iconst 2, 241, 1, 0, 0, 0, []),
  (.irem, 242, 1, 0, 0, 0, []),
  (.ifCond .ne 15, 243, 3, 153, 0, 0, []),
  (.aload_n 0, 246, 1, 0, 0, 0, []),
  (.getfield 50, 247, 3, 12, 17, 0, []),
  (.iload 7, 250, 2, 0, 0, 0, []),
  (.iconst 2, 252, 1, 0, 0, 0, []),
  (.idiv, 253, 1, 0, 0, 0, []),
  (.laload, 254, 1, 0, 0, 0, []),
  (.goto 12, 255, 3, 159, 0, 0, []),
  (.aload_n 0, 258, 1, 0, 0, 0, []),
  (.getfield 53, 259, 3, 12, 18, 0, []),
  (.iload 7, 262, 2, 0, 0, 0, []),
  (.iconst 2, 264, 1, 0, 0, 0, []),
  (.idiv, 265, 1, 0, 0, 0, []),
  (.laload, 266, 1, 0, 0, 0, []),
  (.lastore, 267, 1, 0, 0, 0, []),
  (.iinc 7 1, 268, 3, 0, 0, 0, []),
  (.goto (-80), 271, 3, 112, 0, 0, []),
  (.iconst 0, 274, 1, 0, 0, 0, []),
  (.ireturn, 275, 1, 0, 0, 0, [])]
def tX12_make : List xI := [(.aload_n 0, 0, 1, 0, 0, 0, []),
  (.iconst 0, 1, 1, 0, 0, 0, []),
  (.putfield 101, 2, 3, 12, 0, 0, []),
  (.iload_n 1, 5, 1, 0, 0, 0, []),
  (.invokestatic 299, 6, 3, 177, 1, 0, [1]),
  (.ifCond .eq 23, 9, 3, 15, 0, 0, []),
  (.iload_n 2, 12, 1, 0, 0, 0, []),
  (.i2l, 13, 1, 0, 0, 0, []),
  (.ldc2_w 115, 14, 3, 0, 0, 3, []),
  (.ldc2_w 302, 17, 3, 0, 0, 4, []),
  (.invokestatic 117, 20, 3, 113, 3, 0, [1]),
  (.ifCond .eq 9, 23, 3, 15, 0, 0, []),
  (.iload_n 3, 26, 1, 0, 0, 0, []),
  (.bipush 60, 27, 2, 0, 0, 0, []),
  (.if_icmp .le 5, 29, 3, 17, 0, 0, []),
  (.iconst (-1), 32, 1, 0, 0, 0, []),
  (.ireturn, 33, 1, 0, 0, 0, []),
  (.iload_n 3, 34, 1, 0, 0, 0, []),
  (.ifCond .ge 6, 35, 3, 21, 0, 0, []),
  (.bipush (-14), 38, 2, 0, 0, 0, []),
  (.ireturn, 40, 1, 0, 0, 0, []),
  (.aload_n 0, 41, 1, 0, 0, 0, []),
  (.getfield 86, 42, 3, 12, 33, 0, []),
  (.iload_n 1, 45, 1, 0, 0, 0, []),
  (.iload_n 2, 46, 1, 0, 0, 0, []),
  (.iastore, 47, 1, 0, 0, 0, []),
  (.aload_n 0, 48, 1, 0, 0, 0, []),
  (.getfield 89, 49, 3, 12, 34, 0, []),
  (.iload_n 1, 52, 1, 0, 0, 0, []),
  (.iload_n 3, 53, 1, 0, 0, 0, []),
  (.iastore, 54, 1, 0, 0, 0, []),
  (.iconst 0, 55, 1, 0, 0, 0, []),
  (.istore 4, 56, 2, 0, 0, 0, []),
  (.iload 4, 58, 2, 0, 0, 0, []),
  (.iload_n 3, 60, 1, 0, 0, 0, []),
  (.if_icmp .ge 22, 61, 3, 47, 0, 0, []),
  (.aload_n 0, 64, 1, 0, 0, 0, []),
  (.getfield 95, 65, 3, 12, 36, 0, []),
  (.bipush 60, 68, 2, 0, 0, 0, []),
  (.iload_n 1, 70, 1, 0, 0, 0, []),
  (.imul, 71, 1, 0, 0, 0, []),
  (.iload 4, 72, 2, 0, 0, 0, []),
  (.iadd, 74, 1, 0, 0, 0, []),
  (.lconst 0, 75, 1, 0, 0, 0, []),
  (.lastore, 76, 1, 0, 0, 0, []),
  (.iinc 4 1, 77, 3, 0, 0, 0, []),
  (.goto (-22), 80, 3, 33, 0, 0, []),
  (.iconst 0, 83, 1, 0, 0, 0, []),
  (.ireturn, 84, 1, 0, 0, 0, [])]
def tX12_element : List xI := [(.iload_n 1, 0, 1, 0, 0, 0, []),
  (.invokestatic 299, 1, 3, 177, 1, 0, [1]),
  (.ifCond .eq 35, 4, 3, 23, 0, 0, []),
  (.aload_n 0, 7, 1, 0, 0, 0, []),
  (.getfield 86, 8, 3, 12, 33, 0, []),
  (.iload_n 1, 11, 1, 0, 0, 0, []),
  (.iaload, 12, 1, 0, 0, 0, []),
  (.iconst 2, 13, 1, 0, 0, 0, []),
  (.if_icmp .le 25, 14, 3, 23, 0, 0, []),
  (.iload_n 2, 17, 1, 0, 0, 0, []),
  (.i2l, 18, 1, 0, 0, 0, []),
  (.lconst 0, 19, 1, 0, 0, 0, []),
  (.aload_n 0, 20, 1, 0, 0, 0, []),
  (.getfield 89, 21, 3, 12, 34, 0, []),
  (.iload_n 1, 24, 1, 0, 0, 0, []),
  (.iaload, 25, 1, 0, 0, 0, []),
  (.iconst 1, 26, 1, 0, 0, 0, []),
  (.isub, 27, 1, 0, 0, 0, []),
  (.i2l, 28, 1, 0, 0, 0, []),
  (.invokestatic 117, 29, 3, 113, 3, 0, [1]),
  (.ifCond .eq 7, 32, 3, 23, 0, 0, []),
  (.iconst 1, 35, 1, 0, 0, 0, []),
  (.goto 4, 36, 3, 24, 0, 0, []),
  (.iconst 0, 39, 1, 0, 0, 0, []),
  (.istore_n 3, 40, 1, 0, 0, 0, []),
  (.aload_n 0, 41, 1, 0, 0, 0, []),
  (.iload_n 1, 42, 1, 0, 0, 0, []),
  (.invokestatic 299, 43, 3, 177, 1, 0, [1]),
  (.ifCond .ne 7, 46, 3, 31, 0, 0, []),
  (.iconst 1, 49, 1, 0, 0, 0, []),
  (.goto 12, 50, 3, 36, 0, 0, []),
  (.iload_n 3, 53, 1, 0, 0, 0, []),
  (.ifCond .eq 7, 54, 3, 35, 0, 0, []),
  (.iconst 0, 57, 1, 0, 0, 0, []),
  (.goto 4, 58, 3, 36, 0, 0, []),
  (.iconst 2, 61, 1, 0, 0, 0, []),
  (.putfield 101, 62, 3, 12, 0, 0, []),
  (.iload_n 3, 65, 1, 0, 0, 0, []),
  (.ifCond .eq 17, 66, 3, 48, 0, 0, []),
  (.aload_n 0, 69, 1, 0, 0, 0, []),
  (.getfield 95, 70, 3, 12, 36, 0, []),
  (.bipush 60, 73, 2, 0, 0, 0, []),
  (.iload_n 1, 75, 1, 0, 0, 0, []),
  (.imul, 76, 1, 0, 0, 0, []),
  (.iload_n 2, 77, 1, 0, 0, 0, []),
  (.iadd, 78, 1, 0, 0, 0, []),
  (.laload, 79, 1, 0, 0, 0, []),
  (.goto 4, 80, 3, 49, 0, 0, []),
  (.lconst 0, 83, 1, 0, 0, 0, []),
  (.lreturn, 84, 1, 0, 0, 0, [])]
def tX12_hasPlaces : List xI := [(.iload_n 3, 0, 1, 0, 0, 0, []),
  (.ifCond .lt 33, 1, 3, 20, 0, 0, []),
  (.iload_n 2, 4, 1, 0, 0, 0, []),
  (.ifCond .lt 29, 5, 3, 20, 0, 0, []),
  (.iload_n 2, 8, 1, 0, 0, 0, []),
  (.aload_n 0, 9, 1, 0, 0, 0, []),
  (.getfield 89, 10, 3, 12, 34, 0, []),
  (.iload_n 1, 13, 1, 0, 0, 0, []),
  (.iaload, 14, 1, 0, 0, 0, []),
  (.if_icmp .gt 19, 15, 3, 20, 0, 0, []),
  (.iload_n 3, 18, 1, 0, 0, 0, []),
  (.aload_n 0, 19, 1, 0, 0, 0, []),
  (.getfield 89, 20, 3, 12, 34, 0, []),
  (.iload_n 1, 23, 1, 0, 0, 0, []),
  (.iaload, 24, 1, 0, 0, 0, []),
  (.iload_n 2, 25, 1, 0, 0, 0, []),
  (.isub, 26, 1, 0, 0, 0, []),
  (.if_icmp .gt 7, 27, 3, 20, 0, 0, []),
  (.iconst 1, 30, 1, 0, 0, 0, []),
  (.goto 4, 31, 3, 21, 0, 0, []),
  (.iconst 0, 34, 1, 0, 0, 0, []),
  (.ireturn, 35, 1, 0, 0, 0, [])]
def tX12_copy : List xI := [(.aload_n 0, 0, 1, 0, 0, 0, []),
  (.iconst 0, 1, 1, 0, 0, 0, []),
  (.putfield 101, 2, 3, 12, 0, 0, []),
  (.iload_n 1, 5, 1, 0, 0, 0, []),
  (.invokestatic 299, 6, 3, 177, 1, 0, [1]),
  (.ifCond .eq 10, 9, 3, 9, 0, 0, []),
  (.iload_n 3, 12, 1, 0, 0, 0, []),
  (.invokestatic 299, 13, 3, 177, 1, 0, [1]),
  (.ifCond .ne 5, 16, 3, 11, 0, 0, []),
  (.iconst (-1), 19, 1, 0, 0, 0, []),
  (.ireturn, 20, 1, 0, 0, 0, []),
  (.aload_n 0, 21, 1, 0, 0, 0, []),
  (.getfield 86, 22, 3, 12, 33, 0, []),
  (.iload_n 1, 25, 1, 0, 0, 0, []),
  (.iaload, 26, 1, 0, 0, 0, []),
  (.ifCond .eq 12, 27, 3, 21, 0, 0, []),
  (.aload_n 0, 30, 1, 0, 0, 0, []),
  (.getfield 86, 31, 3, 12, 33, 0, []),
  (.iload_n 3, 34, 1, 0, 0, 0, []),
  (.iaload, 35, 1, 0, 0, 0, []),
  (.ifCond .ne 6, 36, 3, 23, 0, 0, []),
  (.bipush (-11), 39, 2, 0, 0, 0, []),
  (.ireturn, 41, 1, 0, 0, 0, []),
  (.aload_n 0, 42, 1, 0, 0, 0, []),
  (.getfield 86, 43, 3, 12, 33, 0, []),
  (.iload_n 1, 46, 1, 0, 0, 0, []),
  (.iaload, 47, 1, 0, 0, 0, []),
  (.iconst 3, 48, 1, 0, 0, 0, []),
  (.if_icmp .lt 18, 49, 3, 38, 0, 0, []),
  (.aload_n 0, 52, 1, 0, 0, 0, []),
  (.getfield 86, 53, 3, 12, 33, 0, []),
  (.iload_n 1, 56, 1, 0, 0, 0, []),
  (.iaload, 57, 1, 0, 0, 0, []),
  (.aload_n 0, 58, 1, 0, 0, 0, []),
  (.getfield 86, 59, 3, 12, 33, 0, []),
  (.iload_n 3, 62, 1, 0, 0, 0, []),
  (.iaload, 63, 1, 0, 0, 0, []),
  (.if_icmp .eq 6, 64, 3, 40, 0, 0, []),
  (.bipush (-12), 67, 2, 0, 0, 0, []),
  (.ireturn, 69, 1, 0, 0, 0, []),
  (.aload_n 0, 70, 1, 0, 0, 0, []),
  (.iload_n 1, 71, 1, 0, 0, 0, []),
  (.iload_n 2, 72, 1, 0, 0, 0, []),
  (.iload 5, 73, 2, 0, 0, 0, []),
  (.invokevirtual 307, 75, 3, 182, 4, 12, [1]),
  (.ifCond .eq 15, 78, 3, 52, 0, 0, []),
  (.aload_n 0, 81, 1, 0, 0, 0, []),
  (.iload_n 3, 82, 1, 0, 0, 0, []),
  (.iload 4, 83, 2, 0, 0, 0, []),
  (.iload 5, 85, 2, 0, 0, 0, []),
  (.invokevirtual 307, 87, 3, 182, 4, 12, [1]),
  (.ifCond .ne 6, 90, 3, 54, 0, 0, []),
  (.bipush (-13), 93, 2, 0, 0, 0, []),
  (.ireturn, 95, 1, 0, 0, 0, []),
  (.iconst 0, 96, 1, 0, 0, 0, []),
  (.istore 6, 97, 2, 0, 0, 0, []),
  (.iload 6, 99, 2, 0, 0, 0, []),
  (.iload 5, 101, 2, 0, 0, 0, []),
  (.if_icmp .ge 30, 103, 3, 75, 0, 0, []),
  (.aload_n 0, 106, 1, 0, 0, 0, []),
  (.getfield 98, 107, 3, 12, 37, 0, []),
  (.iload 6, 110, 2, 0, 0, 0, []),
  (.aload_n 0, 112, 1, 0, 0, 0, []),
  (.getfield 95, 113, 3, 12, 36, 0, []),
  (.bipush 60, 116, 2, 0, 0, 0, []),
  (.iload_n 1, 118, 1, 0, 0, 0, []),
  (.imul, 119, 1, 0, 0, 0, []),
  (.iload_n 2, 120, 1, 0, 0, 0, []),
  (.iadd, 121, 1, 0, 0, 0, []),
  (.iload 6, 122, 2, 0, 0, 0, []),
  (.iadd, 124, 1, 0, 0, 0, []),
  (.laload, 125, 1, 0, 0, 0, []),
  (.lastore, 126, 1, 0, 0, 0, []),
  (.iinc 6 1, 127, 3, 0, 0, 0, []),
  (.goto (-31), 130, 3, 56, 0, 0, []),
  (.iconst 0, 133, 1, 0, 0, 0, []),
  (.istore 6, 134, 2, 0, 0, 0, []),
  (.iload 6, 136, 2, 0, 0, 0, []),
  (.iload 5, 138, 2, 0, 0, 0, []),
  (.if_icmp .ge 31, 140, 3, 96, 0, 0, []),
  (.aload_n 0, 143, 1, 0, 0, 0, []),
  (.getfield 95, 144, 3, 12, 36, 0, []),
  (.bipush 60, 147, 2, 0, 0, 0, []),
  (.iload_n 3, 149, 1, 0, 0, 0, []),
  (.imul, 150, 1, 0, 0, 0, []),
  (.iload 4, 151, 2, 0, 0, 0, []),
  (.iadd, 153, 1, 0, 0, 0, []),
  (.iload 6, 154, 2, 0, 0, 0, []),
  (.iadd, 156, 1, 0, 0, 0, []),
  (.aload_n 0, 157, 1, 0, 0, 0, []),
  (.getfield 98, 158, 3, 12, 37, 0, []),
  (.iload 6, 161, 2, 0, 0, 0, []),
  (.laload, 163, 1, 0, 0, 0, []),
  (.lastore, 164, 1, 0, 0, 0, []),
  (.iinc 6 1, 165, 3, 0, 0, 0, []),
  (.goto (-32), 168, 3, 77, 0, 0, []),
  (.iload 5, 171, 2, 0, 0, 0, []),
  (.ireturn, 173, 1, 0, 0, 0, [])]
def tX12_weight : List xI := [(.aload_n 0, 0, 1, 0, 0, 0, []),
  (.iconst 0, 1, 1, 0, 0, 0, []),
  (.putfield 101, 2, 3, 12, 0, 0, []),
  (.iload_n 1, 5, 1, 0, 0, 0, []),
  (.invokestatic 299, 6, 3, 177, 1, 0, [1]),
  (.ifCond .ne 9, 9, 3, 8, 0, 0, []),
  (.ldc2_w 210, 12, 3, 0, 0, (-1), []),
  (.goto 40, 15, 3, 27, 0, 0, []),
  (.aload_n 0, 18, 1, 0, 0, 0, []),
  (.getfield 86, 19, 3, 12, 33, 0, []),
  (.iload_n 1, 22, 1, 0, 0, 0, []),
  (.iaload, 23, 1, 0, 0, 0, []),
  (.ifCond .ne 9, 24, 3, 15, 0, 0, []),
  (.ldc2_w 311, 27, 3, 0, 0, (-11), []),
  (.goto 25, 30, 3, 27, 0, 0, []),
  (.aload_n 0, 33, 1, 0, 0, 0, []),
  (.getfield 86, 34, 3, 12, 33, 0, []),
  (.iload_n 1, 37, 1, 0, 0, 0, []),
  (.iaload, 38, 1, 0, 0, 0, []),
  (.iconst 2, 39, 1, 0, 0, 0, []),
  (.if_icmp .le 9, 40, 3, 23, 0, 0, []),
  (.ldc2_w 313, 43, 3, 0, 0, (-12), []),
  (.goto 9, 46, 3, 27, 0, 0, []),
  (.aload_n 0, 49, 1, 0, 0, 0, []),
  (.getfield 92, 50, 3, 12, 35, 0, []),
  (.iload_n 1, 53, 1, 0, 0, 0, []),
  (.laload, 54, 1, 0, 0, 0, []),
  (.lreturn, 55, 1, 0, 0, 0, [])]
def tX12_ratio : List xI := [(.aload_n 0, 0, 1, 0, 0, 0, []),
  (.iconst 0, 1, 1, 0, 0, 0, []),
  (.putfield 101, 2, 3, 12, 0, 0, []),
  (.iload_n 1, 5, 1, 0, 0, 0, []),
  (.invokestatic 299, 6, 3, 177, 1, 0, [1]),
  (.ifCond .eq 10, 9, 3, 9, 0, 0, []),
  (.iload_n 2, 12, 1, 0, 0, 0, []),
  (.invokestatic 299, 13, 3, 177, 1, 0, [1]),
  (.ifCond .ne 7, 16, 3, 11, 0, 0, []),
  (.ldc2_w 210, 19, 3, 0, 0, (-1), []),
  (.lreturn, 22, 1, 0, 0, 0, []),
  (.aload_n 0, 23, 1, 0, 0, 0, []),
  (.getfield 86, 24, 3, 12, 33, 0, []),
  (.iload_n 1, 27, 1, 0, 0, 0, []),
  (.iaload, 28, 1, 0, 0, 0, []),
  (.ifCond .eq 12, 29, 3, 21, 0, 0, []),
  (.aload_n 0, 32, 1, 0, 0, 0, []),
  (.getfield 86, 33, 3, 12, 33, 0, []),
  (.iload_n 2, 36, 1, 0, 0, 0, []),
  (.iaload, 37, 1, 0, 0, 0, []),
  (.ifCond .ne 7, 38, 3, 23, 0, 0, []),
  (.ldc2_w 311, 41, 3, 0, 0, (-11), []),
  (.lreturn, 44, 1, 0, 0, 0, []),
  (.aload_n 0, 45, 1, 0, 0, 0, []),
  (.getfield 86, 46, 3, 12, 33, 0, []),
  (.iload_n 1, 49, 1, 0, 0, 0, []),
  (.iaload, 50, 1, 0, 0, 0, []),
  (.iconst 2, 51, 1, 0, 0, 0, []),
  (.if_icmp .ne 13, 52, 3, 35, 0, 0, []),
  (.aload_n 0, 55, 1, 0, 0, 0, []),
  (.getfield 86, 56, 3, 12, 33, 0, []),
  (.iload_n 2, 59, 1, 0, 0, 0, []),
  (.iaload, 60, 1, 0, 0, 0, []),
  (.iconst 2, 61, 1, 0, 0, 0, []),
  (.if_icmp .eq 7, 62, 3, 37, 0, 0, []),
  (.ldc2_w 313, 65, 3, 0, 0, (-12), []),
  (.lreturn, 68, 1, 0, 0, 0, []),
  (.aload_n 0, 69, 1, 0, 0, 0, []),
  (.getfield 92, 70, 3, 12, 35, 0, []),
  (.iload_n 2, 73, 1, 0, 0, 0, []),
  (.laload, 74, 1, 0, 0, 0, []),
  (.lconst 0, 75, 1, 0, 0, 0, []),
  (.lcmp, 76, 1, 0, 0, 0, []),
  (.ifCond .ne 9, 77, 3, 46, 0, 0, []),
  (.ldc2_w 315, 80, 3, 0, 0, (-15), []),
  (.goto 16, 83, 3, 55, 0, 0, []),
  (.aload_n 0, 86, 1, 0, 0, 0, []),
  (.getfield 92, 87, 3, 12, 35, 0, []),
  (.iload_n 1, 90, 1, 0, 0, 0, []),
  (.laload, 91, 1, 0, 0, 0, []),
  (.aload_n 0, 92, 1, 0, 0, 0, []),
  (.getfield 92, 93, 3, 12, 35, 0, []),
  (.iload_n 2, 96, 1, 0, 0, 0, []),
  (.laload, 97, 1, 0, 0, 0, []),
  (.ldiv, 98, 1, 0, 0, 0, []),
  (.lreturn, 99, 1, 0, 0, 0, [])]
def tJ6_bitCount_0f7a4 : List xI := [(.iload_n 0, 0, 1, 0, 0, 0, []),
  (.iload_n 0, 1, 1, 0, 0, 0, []),
  (.iconst 1, 2, 1, 0, 0, 0, []),
  (.iushr, 3, 1, 0, 0, 0, []),
  (.ldc_w 265, 4, 3, 0, 0, 1431655765, []),
  (.iand, 7, 1, 0, 0, 0, []),
  (.isub, 8, 1, 0, 0, 0, []),
  (.istore_n 0, 9, 1, 0, 0, 0, []),
  (.iload_n 0, 10, 1, 0, 0, 0, []),
  (.ldc_w 266, 11, 3, 0, 0, 858993459, []),
  (.iand, 14, 1, 0, 0, 0, []),
  (.iload_n 0, 15, 1, 0, 0, 0, []),
  (.iconst 2, 16, 1, 0, 0, 0, []),
  (.iushr, 17, 1, 0, 0, 0, []),
  (.ldc_w 266, 18, 3, 0, 0, 858993459, []),
  (.iand, 21, 1, 0, 0, 0, []),
  (.iadd, 22, 1, 0, 0, 0, []),
  (.istore_n 0, 23, 1, 0, 0, 0, []),
  (.iload_n 0, 24, 1, 0, 0, 0, []),
  (.iload_n 0, 25, 1, 0, 0, 0, []),
  (.iconst 4, 26, 1, 0, 0, 0, []),
  (.iushr, 27, 1, 0, 0, 0, []),
  (.iadd, 28, 1, 0, 0, 0, []),
  (.ldc_w 267, 29, 3, 0, 0, 252645135, []),
  (.iand, 32, 1, 0, 0, 0, []),
  (.istore_n 0, 33, 1, 0, 0, 0, []),
  (.iload_n 0, 34, 1, 0, 0, 0, []),
  (.iload_n 0, 35, 1, 0, 0, 0, []),
  (.bipush 8, 36, 2, 0, 0, 0, []),
  (.iushr, 38, 1, 0, 0, 0, []),
  (.iadd, 39, 1, 0, 0, 0, []),
  (.istore_n 0, 40, 1, 0, 0, 0, []),
  (.iload_n 0, 41, 1, 0, 0, 0, []),
  (.iload_n 0, 42, 1, 0, 0, 0, []),
  (.bipush 16, 43, 2, 0, 0, 0, []),
  (.iushr, 45, 1, 0, 0, 0, []),
  (.iadd, 46, 1, 0, 0, 0, []),
  (.istore_n 0, 47, 1, 0, 0, 0, []),
  (.iload_n 0, 48, 1, 0, 0, 0, []),
  (.bipush 63, 49, 2, 0, 0, 0, []),
  (.iand, 51, 1, 0, 0, 0, []),
  (.ireturn, 52, 1, 0, 0, 0, [])]
def tJ7_fill_d0a16 : List xI := [(.iconst 0, 0, 1, 0, 0, 0, []),
  (.istore_n 3, 1, 1, 0, 0, 0, []),
  (.aload_n 0, 2, 1, 0, 0, 0, []),
  (.arraylength, 3, 1, 0, 0, 0, []),
  (.istore 4, 4, 2, 0, 0, 0, []),
  (.iload_n 3, 6, 1, 0, 0, 0, []),
  (.iload 4, 7, 2, 0, 0, 0, []),
  (.if_icmp .ge 13, 9, 3, 14, 0, 0, []),
  (.aload_n 0, 12, 1, 0, 0, 0, []),
  (.iload_n 3, 13, 1, 0, 0, 0, []),
  (.lload_n 1, 14, 1, 0, 0, 0, []),
  (.lastore, 15, 1, 0, 0, 0, []),
  (.iinc 3 1, 16, 3, 0, 0, 0, []),
  (.goto (-13), 19, 3, 5, 0, 0, []),
  (.return_, 22, 1, 0, 0, 0, [])]
def tJ7_fill_53178 : List xI := [(.iconst 0, 0, 1, 0, 0, 0, []),
  (.istore_n 2, 1, 1, 0, 0, 0, []),
  (.aload_n 0, 2, 1, 0, 0, 0, []),
  (.arraylength, 3, 1, 0, 0, 0, []),
  (.istore_n 3, 4, 1, 0, 0, 0, []),
  (.iload_n 2, 5, 1, 0, 0, 0, []),
  (.iload_n 3, 6, 1, 0, 0, 0, []),
  (.if_icmp .ge 13, 7, 3, 14, 0, 0, []),
  (.aload_n 0, 10, 1, 0, 0, 0, []),
  (.iload_n 2, 11, 1, 0, 0, 0, []),
  (.iload_n 1, 12, 1, 0, 0, 0, []),
  (.iastore, 13, 1, 0, 0, 0, []),
  (.iinc 2 1, 14, 3, 0, 0, 0, []),
  (.goto (-12), 17, 3, 5, 0, 0, []),
  (.return_, 20, 1, 0, 0, 0, [])]
def tL_element : List xI := []
def tL_law : List xI := [(.new 8, 0, 3, 11, 0, 0, []),
  (.dup, 3, 1, 0, 0, 0, []),
  (.invokespecial 17, 4, 3, 78, 1, 0, [0]),
  (.astore_n 1, 7, 1, 0, 0, 0, []),
  (.new 18, 8, 3, 12, 0, 0, []),
  (.dup, 11, 1, 0, 0, 0, []),
  (.invokespecial 20, 12, 3, 111, 1, 0, [0]),
  (.astore_n 2, 15, 1, 0, 0, 0, []),
  (.iconst 1, 16, 1, 0, 0, 0, []),
  (.newarray .long, 17, 2, 0, 0, 0, []),
  (.astore_n 3, 19, 1, 0, 0, 0, []),
  (.iconst 0, 20, 1, 0, 0, 0, []),
  (.istore 4, 21, 2, 0, 0, 0, []),
  (.iload 4, 23, 2, 0, 0, 0, []),
  (.aload_n 0, 25, 1, 0, 0, 0, []),
  (.arraylength, 26, 1, 0, 0, 0, []),
  (.bipush 6, 27, 2, 0, 0, 0, []),
  (.isub, 29, 1, 0, 0, 0, []),
  (.if_icmp .gt 1137, 30, 3, 751, 0, 0, []),
  (.aload_n 0, 33, 1, 0, 0, 0, []),
  (.iload 4, 34, 2, 0, 0, 0, []),
  (.iaload, 36, 1, 0, 0, 0, []),
  (.bipush 31, 37, 2, 0, 0, 0, []),
  (.iand, 39, 1, 0, 0, 0, []),
  (.tableswitch 1121 0 24 #[116, 129, 178, 239, 264, 289, 302, 368, 393, 418, 468, 546, 583, 608, 633, 671, 708, 733, 758, 807, 868, 917, 984, 1057, 1083], 40, 116, 0, 0, 0, [749, 25, 32, 69, 116, 133, 150, 157, 203, 220, 237, 275, 331, 358, 375, 392, 420, 447, 464, 481, 518, 565, 602, 646, 703, 721]),
  (.aload_n 1, 156, 1, 0, 0, 0, []),
  (.invokevirtual 21, 157, 3, 79, 1, 11, [1]),
  (.aload_n 2, 160, 1, 0, 0, 0, []),
  (.invokevirtual 25, 161, 3, 118, 1, 12, [1]),
  (.if_icmp .eq 997, 164, 3, 749, 0, 0, []),
  (.iconst 0, 167, 1, 0, 0, 0, []),
  (.ireturn, 168, 1, 0, 0, 0, []),
  (.aload_n 1, 169, 1, 0, 0, 0, []),
  (.aload_n 0, 170, 1, 0, 0, 0, []),
  (.iload 4, 171, 2, 0, 0, 0, []),
  (.iconst 1, 173, 1, 0, 0, 0, []),
  (.iadd, 174, 1, 0, 0, 0, []),
  (.iaload, 175, 1, 0, 0, 0, []),
  (.aload_n 0, 176, 1, 0, 0, 0, []),
  (.iload 4, 177, 2, 0, 0, 0, []),
  (.iconst 2, 179, 1, 0, 0, 0, []),
  (.iadd, 180, 1, 0, 0, 0, []),
  (.iaload, 181, 1, 0, 0, 0, []),
  (.aload_n 0, 182, 1, 0, 0, 0, []),
  (.iload 4, 183, 2, 0, 0, 0, []),
  (.iconst 3, 185, 1, 0, 0, 0, []),
  (.iadd, 186, 1, 0, 0, 0, []),
  (.iaload, 187, 1, 0, 0, 0, []),
  (.invokevirtual 26, 188, 3, 80, 4, 11, [1]),
  (.aload_n 2, 191, 1, 0, 0, 0, []),
  (.aload_n 0, 192, 1, 0, 0, 0, []),
  (.iload 4, 193, 2, 0, 0, 0, []),
  (.iconst 1, 195, 1, 0, 0, 0, []),
  (.iadd, 196, 1, 0, 0, 0, []),
  (.iaload, 197, 1, 0, 0, 0, []),
  (.aload_n 0, 198, 1, 0, 0, 0, []),
  (.iload 4, 199, 2, 0, 0, 0, []),
  (.iconst 2, 201, 1, 0, 0, 0, []),
  (.iadd, 202, 1, 0, 0, 0, []),
  (.iaload, 203, 1, 0, 0, 0, []),
  (.aload_n 0, 204, 1, 0, 0, 0, []),
  (.iload 4, 205, 2, 0, 0, 0, []),
  (.iconst 3, 207, 1, 0, 0, 0, []),
  (.iadd, 208, 1, 0, 0, 0, []),
  (.iaload, 209, 1, 0, 0, 0, []),
  (.invokevirtual 30, 210, 3, 119, 4, 12, [1]),
  (.if_icmp .eq 948, 213, 3, 749, 0, 0, []),
  (.iconst 0, 216, 1, 0, 0, 0, []),
  (.ireturn, 217, 1, 0, 0, 0, []),
  (.aload_n 1, 218, 1, 0, 0, 0, []),
  (.aload_n 0, 219, 1, 0, 0, 0, []),
  (.iload 4, 220, 2, 0, 0, 0, []),
  (.iconst 1, 222, 1, 0, 0, 0, []),
  (.iadd, 223, 1, 0, 0, 0, []),
  (.iaload, 224, 1, 0, 0, 0, []),
  (.aload_n 0, 225, 1, 0, 0, 0, []),
  (.iload 4, 226, 2, 0, 0, 0, []),
  (.iconst 2, 228, 1, 0, 0, 0, []),
  (.iadd, 229, 1, 0, 0, 0, []),
  (.iaload, 230, 1, 0, 0, 0, []),
  (.aload_n 0, 231, 1, 0, 0, 0, []),
  (.iload 4, 232, 2, 0, 0, 0, []),
  (.iconst 3, 234, 1, 0, 0, 0, []),
  (.iadd, 235, 1, 0, 0, 0, []),
  (.iaload, 236, 1, 0, 0, 0, []),
  (.aload_n 0, 237, 1, 0, 0, 0, []),
  (.iload 4, 238, 2, 0, 0, 0, []),
  (.iconst 4, 240, 1, 0, 0, 0, []),
  (.iadd, 241, 1, 0, 0, 0, []),
  (.iaload, 242, 1, 0, 0, 0, []),
  (.invokevirtual 31, 243, 3, 81, 5, 11, [1]),
  (.aload_n 2, 246, 1, 0, 0, 0, []),
  (.aload_n 0, 247, 1, 0, 0, 0, []),
  (.iload 4, 248, 2, 0, 0, 0, []),
  (.iconst 1, 250, 1, 0, 0, 0, []),
  (.iadd, 251, 1, 0, 0, 0, []),
  (.iaload, 252, 1, 0, 0, 0, []),
  (.aload_n 0, 253, 1, 0, 0, 0, []),
  (.iload 4, 254, 2, 0, 0, 0, []),
  (.iconst 2, 256, 1, 0, 0, 0, []),
  (.iadd, 257, 1, 0, 0, 0, []),
  (.iaload, 258, 1, 0, 0, 0, []),
  (.aload_n 0, 259, 1, 0, 0, 0, []),
  (.iload 4, 260, 2, 0, 0, 0, []),
  (.iconst 3, 262, 1, 0, 0, 0, []),
  (.iadd, 263, 1, 0, 0, 0, []),
  (.iaload, 264, 1, 0, 0, 0, []),
  (.aload_n 0, 265, 1, 0, 0, 0, []),
  (.iload 4, 266, 2, 0, 0, 0, []),
  (.iconst 4, 268, 1, 0, 0, 0, []),
  (.iadd, 269, 1, 0, 0, 0, []),
  (.iaload, 270, 1, 0, 0, 0, []),
  (.invokevirtual 35, 271, 3, 121, 5, 12, [1]),
  (.if_icmp .eq 887, 274, 3, 749, 0, 0, []),
  (.iconst 0, 277, 1, 0, 0, 0, []),
  (.ireturn, 278, 1, 0, 0, 0, []),
  (.aload_n 1, 279, 1, 0, 0, 0, []),
  (.aload_n 0, 280, 1, 0, 0, 0, []),
  (.iload 4, 281, 2, 0, 0, 0, []),
  (.iconst 1, 283, 1, 0, 0, 0, []),
  (.iadd, 284, 1, 0, 0, 0, []),
  (.iaload, 285, 1, 0, 0, 0, []),
  (.invokevirtual 36, 286, 3, 82, 2, 11, [1]),
  (.aload_n 2, 289, 1, 0, 0, 0, []),
  (.aload_n 0, 290, 1, 0, 0, 0, []),
  (.iload 4, 291, 2, 0, 0, 0, []),
  (.iconst 1, 293, 1, 0, 0, 0, []),
  (.iadd, 294, 1, 0, 0, 0, []),
  (.iaload, 295, 1, 0, 0, 0, []),
  (.invokevirtual 40, 296, 3, 122, 2, 12, [1]),
  (.if_icmp .eq 862, 299, 3, 749, 0, 0, []),
  (.iconst 0, 302, 1, 0, 0, 0, []),
  (.ireturn, 303, 1, 0, 0, 0, []),
  (.aload_n 1, 304, 1, 0, 0, 0, []),
  (.aload_n 0, 305, 1, 0, 0, 0, []),
  (.iload 4, 306, 2, 0, 0, 0, []),
  (.iconst 1, 308, 1, 0, 0, 0, []),
  (.iadd, 309, 1, 0, 0, 0, []),
  (.iaload, 310, 1, 0, 0, 0, []),
  (.invokevirtual 41, 311, 3, 83, 2, 11, [1]),
  (.aload_n 2, 314, 1, 0, 0, 0, []),
  (.aload_n 0, 315, 1, 0, 0, 0, []),
  (.iload 4, 316, 2, 0, 0, 0, []),
  (.iconst 1, 318, 1, 0, 0, 0, []),
  (.iadd, 319, 1, 0, 0, 0, []),
  (.iaload, 320, 1, 0, 0, 0, []),
  (.invokevirtual 44, 321, 3, 123, 2, 12, [1]),
  (.if_icmp .eq 837, 324, 3, 749, 0, 0, []),
  (.iconst 0, 327, 1, 0, 0, 0, []),
  (.ireturn, 328, 1, 0, 0, 0, []),
  (.aload_n 1, 329, 1, 0, 0, 0, []),
  (.invokevirtual 45, 330, 3, 84, 1, 11, [1]),
  (.aload_n 2, 333, 1, 0, 0, 0, []),
  (.invokevirtual 48, 334, 3, 125, 1, 12, [1]),
  (.if_icmp .eq 824, 337, 3, 749, 0, 0, []),
  (.iconst 0, 340, 1, 0, 0, 0, []),
  (.ireturn, 341, 1, 0, 0, 0, []),
  (.aload_n 1, 342, 1, 0, 0, 0, []),
  (.aload_n 0, 343, 1, 0, 0, 0, []),
  (.iload 4, 344, 2, 0, 0, 0, []),
  (.iconst 1, 346, 1, 0, 0, 0, []),
  (.iadd, 347, 1, 0, 0, 0, []),
  (.iaload, 348, 1, 0, 0, 0, []),
  (.aload_n 0, 349, 1, 0, 0, 0, []),
  (.iload 4, 350, 2, 0, 0, 0, []),
  (.iconst 2, 352, 1, 0, 0, 0, []),
  (.iadd, 353, 1, 0, 0, 0, []),
  (.iaload, 354, 1, 0, 0, 0, []),
  (.ifCond .eq 7, 355, 3, 171, 0, 0, []),
  (.iconst 1, 358, 1, 0, 0, 0, []),
  (.goto 4, 359, 3, 172, 0, 0, []),
  (.iconst 0, 362, 1, 0, 0, 0, []),
  (.aload_n 0, 363, 1, 0, 0, 0, []),
  (.iload 4, 364, 2, 0, 0, 0, []),
  (.iconst 3, 366, 1, 0, 0, 0, []),
  (.iadd, 367, 1, 0, 0, 0, []),
  (.iaload, 368, 1, 0, 0, 0, []),
  (.invokevirtual 49, 369, 3, 85, 4, 11, [2]),
  (.aload_n 2, 372, 1, 0, 0, 0, []),
  (.aload_n 0, 373, 1, 0, 0, 0, []),
  (.iload 4, 374, 2, 0, 0, 0, []),
  (.iconst 1, 376, 1, 0, 0, 0, []),
  (.iadd, 377, 1, 0, 0, 0, []),
  (.iaload, 378, 1, 0, 0, 0, []),
  (.aload_n 0, 379, 1, 0, 0, 0, []),
  (.iload 4, 380, 2, 0, 0, 0, []),
  (.iconst 2, 382, 1, 0, 0, 0, []),
  (.iadd, 383, 1, 0, 0, 0, []),
  (.iaload, 384, 1, 0, 0, 0, []),
  (.ifCond .eq 7, 385, 3, 192, 0, 0, []),
  (.iconst 1, 388, 1, 0, 0, 0, []),
  (.goto 4, 389, 3, 193, 0, 0, []),
  (.iconst 0, 392, 1, 0, 0, 0, []),
  (.aload_n 0, 393, 1, 0, 0, 0, []),
  (.iload 4, 394, 2, 0, 0, 0, []),
  (.iconst 3, 396, 1, 0, 0, 0, []),
  (.iadd, 397, 1, 0, 0, 0, []),
  (.iaload, 398, 1, 0, 0, 0, []),
  (.invokevirtual 53, 399, 3, 146, 4, 12, [2]),
  (.lcmp, 402, 1, 0, 0, 0, []),
  (.ifCond .eq 758, 403, 3, 749, 0, 0, []),
  (.iconst 0, 406, 1, 0, 0, 0, []),
  (.ireturn, 407, 1, 0, 0, 0, []),
  (.aload_n 1, 408, 1, 0, 0, 0, []),
  (.aload_n 0, 409, 1, 0, 0, 0, []),
  (.iload 4, 410, 2, 0, 0, 0, []),
  (.iconst 1, 412, 1, 0, 0, 0, []),
  (.iadd, 413, 1, 0, 0, 0, []),
  (.iaload, 414, 1, 0, 0, 0, []),
  (.invokevirtual 54, 415, 3, 86, 2, 11, [1]),
  (.aload_n 2, 418, 1, 0, 0, 0, []),
  (.aload_n 0, 419, 1, 0, 0, 0, []),
  (.iload 4, 420, 2, 0, 0, 0, []),
  (.iconst 1, 422, 1, 0, 0, 0, []),
  (.iadd, 423, 1, 0, 0, 0, []),
  (.iaload, 424, 1, 0, 0, 0, []),
  (.invokevirtual 57, 425, 3, 152, 2, 12, [1]),
  (.if_icmp .eq 733, 428, 3, 749, 0, 0, []),
  (.iconst 0, 431, 1, 0, 0, 0, []),
  (.ireturn, 432, 1, 0, 0, 0, []),
  (.aload_n 1, 433, 1, 0, 0, 0, []),
  (.aload_n 0, 434, 1, 0, 0, 0, []),
  (.iload 4, 435, 2, 0, 0, 0, []),
  (.iconst 1, 437, 1, 0, 0, 0, []),
  (.iadd, 438, 1, 0, 0, 0, []),
  (.iaload, 439, 1, 0, 0, 0, []),
  (.invokevirtual 58, 440, 3, 87, 2, 11, [1]),
  (.aload_n 2, 443, 1, 0, 0, 0, []),
  (.aload_n 0, 444, 1, 0, 0, 0, []),
  (.iload 4, 445, 2, 0, 0, 0, []),
  (.iconst 1, 447, 1, 0, 0, 0, []),
  (.iadd, 448, 1, 0, 0, 0, []),
  (.iaload, 449, 1, 0, 0, 0, []),
  (.invokevirtual 61, 450, 3, 153, 2, 12, [1]),
  (.if_icmp .eq 708, 453, 3, 749, 0, 0, []),
  (.iconst 0, 456, 1, 0, 0, 0, []),
  (.ireturn, 457, 1, 0, 0, 0, []),
  (.aload_n 1, 458, 1, 0, 0, 0, []),
  (.aload_n 0, 459, 1, 0, 0, 0, []),
  (.iload 4, 460, 2, 0, 0, 0, []),
  (.iconst 1, 462, 1, 0, 0, 0, []),
  (.iadd, 463, 1, 0, 0, 0, []),
  (.iaload, 464, 1, 0, 0, 0, []),
  (.aload_n 0, 465, 1, 0, 0, 0, []),
  (.iload 4, 466, 2, 0, 0, 0, []),
  (.iconst 2, 468, 1, 0, 0, 0, []),
  (.iadd, 469, 1, 0, 0, 0, []),
  (.iaload, 470, 1, 0, 0, 0, []),
  (.aload_n 0, 471, 1, 0, 0, 0, []),
  (.iload 4, 472, 2, 0, 0, 0, []),
  (.iconst 3, 474, 1, 0, 0, 0, []),
  (.iadd, 475, 1, 0, 0, 0, []),
  (.iaload, 476, 1, 0, 0, 0, []),
  (.invokevirtual 62, 477, 3, 88, 4, 11, [2]),
  (.aload_n 2, 480, 1, 0, 0, 0, []),
  (.aload_n 0, 481, 1, 0, 0, 0, []),
  (.iload 4, 482, 2, 0, 0, 0, []),
  (.iconst 1, 484, 1, 0, 0, 0, []),
  (.iadd, 485, 1, 0, 0, 0, []),
  (.iaload, 486, 1, 0, 0, 0, []),
  (.aload_n 0, 487, 1, 0, 0, 0, []),
  (.iload 4, 488, 2, 0, 0, 0, []),
  (.iconst 2, 490, 1, 0, 0, 0, []),
  (.iadd, 491, 1, 0, 0, 0, []),
  (.iaload, 492, 1, 0, 0, 0, []),
  (.aload_n 0, 493, 1, 0, 0, 0, []),
  (.iload 4, 494, 2, 0, 0, 0, []),
  (.iconst 3, 496, 1, 0, 0, 0, []),
  (.iadd, 497, 1, 0, 0, 0, []),
  (.iaload, 498, 1, 0, 0, 0, []),
  (.invokevirtual 66, 499, 3, 154, 4, 12, [2]),
  (.lcmp, 502, 1, 0, 0, 0, []),
  (.ifCond .eq 658, 503, 3, 749, 0, 0, []),
  (.iconst 0, 506, 1, 0, 0, 0, []),
  (.ireturn, 507, 1, 0, 0, 0, []),
  (.aload_n 1, 508, 1, 0, 0, 0, []),
  (.aload_n 0, 509, 1, 0, 0, 0, []),
  (.iload 4, 510, 2, 0, 0, 0, []),
  (.iconst 1, 512, 1, 0, 0, 0, []),
  (.iadd, 513, 1, 0, 0, 0, []),
  (.iaload, 514, 1, 0, 0, 0, []),
  (.aload_n 0, 515, 1, 0, 0, 0, []),
  (.iload 4, 516, 2, 0, 0, 0, []),
  (.iconst 2, 518, 1, 0, 0, 0, []),
  (.iadd, 519, 1, 0, 0, 0, []),
  (.iaload, 520, 1, 0, 0, 0, []),
  (.aload_n 0, 521, 1, 0, 0, 0, []),
  (.iload 4, 522, 2, 0, 0, 0, []),
  (.iconst 3, 524, 1, 0, 0, 0, []),
  (.iadd, 525, 1, 0, 0, 0, []),
  (.iaload, 526, 1, 0, 0, 0, []),
  (.ifCond .eq 7, 527, 3, 294, 0, 0, []),
  (.iconst 1, 530, 1, 0, 0, 0, []),
  (.goto 4, 531, 3, 295, 0, 0, []),
  (.iconst 0, 534, 1, 0, 0, 0, []),
  (.aload_n 0, 535, 1, 0, 0, 0, []),
  (.iload 4, 536, 2, 0, 0, 0, []),
  (.iconst 4, 538, 1, 0, 0, 0, []),
  (.iadd, 539, 1, 0, 0, 0, []),
  (.iaload, 540, 1, 0, 0, 0, []),
  (.invokevirtual 67, 541, 3, 89, 5, 11, [2]),
  (.aload_n 2, 544, 1, 0, 0, 0, []),
  (.aload_n 0, 545, 1, 0, 0, 0, []),
  (.iload 4, 546, 2, 0, 0, 0, []),
  (.iconst 1, 548, 1, 0, 0, 0, []),
  (.iadd, 549, 1, 0, 0, 0, []),
  (.iaload, 550, 1, 0, 0, 0, []),
  (.aload_n 0, 551, 1, 0, 0, 0, []),
  (.iload 4, 552, 2, 0, 0, 0, []),
  (.iconst 2, 554, 1, 0, 0, 0, []),
  (.iadd, 555, 1, 0, 0, 0, []),
  (.iaload, 556, 1, 0, 0, 0, []),
  (.aload_n 0, 557, 1, 0, 0, 0, []),
  (.iload 4, 558, 2, 0, 0, 0, []),
  (.iconst 3, 560, 1, 0, 0, 0, []),
  (.iadd, 561, 1, 0, 0, 0, []),
  (.iaload, 562, 1, 0, 0, 0, []),
  (.ifCond .eq 7, 563, 3, 320, 0, 0, []),
  (.iconst 1, 566, 1, 0, 0, 0, []),
  (.goto 4, 567, 3, 321, 0, 0, []),
  (.iconst 0, 570, 1, 0, 0, 0, []),
  (.aload_n 0, 571, 1, 0, 0, 0, []),
  (.iload 4, 572, 2, 0, 0, 0, []),
  (.iconst 4, 574, 1, 0, 0, 0, []),
  (.iadd, 575, 1, 0, 0, 0, []),
  (.iaload, 576, 1, 0, 0, 0, []),
  (.invokevirtual 71, 577, 3, 157, 5, 12, [2]),
  (.lcmp, 580, 1, 0, 0, 0, []),
  (.ifCond .eq 580, 581, 3, 749, 0, 0, []),
  (.iconst 0, 584, 1, 0, 0, 0, []),
  (.ireturn, 585, 1, 0, 0, 0, []),
  (.aload_n 1, 586, 1, 0, 0, 0, []),
  (.aload_n 0, 587, 1, 0, 0, 0, []),
  (.iload 4, 588, 2, 0, 0, 0, []),
  (.iconst 1, 590, 1, 0, 0, 0, []),
  (.iadd, 591, 1, 0, 0, 0, []),
  (.iaload, 592, 1, 0, 0, 0, []),
  (.aload_n 0, 593, 1, 0, 0, 0, []),
  (.iload 4, 594, 2, 0, 0, 0, []),
  (.iconst 2, 596, 1, 0, 0, 0, []),
  (.iadd, 597, 1, 0, 0, 0, []),
  (.iaload, 598, 1, 0, 0, 0, []),
  (.invokevirtual 72, 599, 3, 90, 3, 11, [1]),
  (.aload_n 2, 602, 1, 0, 0, 0, []),
  (.aload_n 0, 603, 1, 0, 0, 0, []),
  (.iload 4, 604, 2, 0, 0, 0, []),
  (.iconst 1, 606, 1, 0, 0, 0, []),
  (.iadd, 607, 1, 0, 0, 0, []),
  (.iaload, 608, 1, 0, 0, 0, []),
  (.aload_n 0, 609, 1, 0, 0, 0, []),
  (.iload 4, 610, 2, 0, 0, 0, []),
  (.iconst 2, 612, 1, 0, 0, 0, []),
  (.iadd, 613, 1, 0, 0, 0, []),
  (.iaload, 614, 1, 0, 0, 0, []),
  (.invokevirtual 76, 615, 3, 158, 3, 12, [1]),
  (.if_icmp .eq 543, 618, 3, 749, 0, 0, []),
  (.iconst 0, 621, 1, 0, 0, 0, []),
  (.ireturn, 622, 1, 0, 0, 0, []),
  (.aload_n 1, 623, 1, 0, 0, 0, []),
  (.aload_n 0, 624, 1, 0, 0, 0, []),
  (.iload 4, 625, 2, 0, 0, 0, []),
  (.iconst 1, 627, 1, 0, 0, 0, []),
  (.iadd, 628, 1, 0, 0, 0, []),
  (.iaload, 629, 1, 0, 0, 0, []),
  (.invokevirtual 77, 630, 3, 91, 2, 11, [1]),
  (.aload_n 2, 633, 1, 0, 0, 0, []),
  (.aload_n 0, 634, 1, 0, 0, 0, []),
  (.iload 4, 635, 2, 0, 0, 0, []),
  (.iconst 1, 637, 1, 0, 0, 0, []),
  (.iadd, 638, 1, 0, 0, 0, []),
  (.iaload, 639, 1, 0, 0, 0, []),
  (.invokevirtual 80, 640, 3, 159, 2, 12, [1]),
  (.if_icmp .eq 518, 643, 3, 749, 0, 0, []),
  (.iconst 0, 646, 1, 0, 0, 0, []),
  (.ireturn, 647, 1, 0, 0, 0, []),
  (.aload_n 1, 648, 1, 0, 0, 0, []),
  (.aload_n 0, 649, 1, 0, 0, 0, []),
  (.iload 4, 650, 2, 0, 0, 0, []),
  (.iconst 1, 652, 1, 0, 0, 0, []),
  (.iadd, 653, 1, 0, 0, 0, []),
  (.iaload, 654, 1, 0, 0, 0, []),
  (.invokevirtual 81, 655, 3, 92, 2, 11, [1]),
  (.aload_n 2, 658, 1, 0, 0, 0, []),
  (.aload_n 0, 659, 1, 0, 0, 0, []),
  (.iload 4, 660, 2, 0, 0, 0, []),
  (.iconst 1, 662, 1, 0, 0, 0, []),
  (.iadd, 663, 1, 0, 0, 0, []),
  (.iaload, 664, 1, 0, 0, 0, []),
  (.invokevirtual 84, 665, 3, 161, 2, 12, [1]),
  (.if_icmp .eq 493, 668, 3, 749, 0, 0, []),
  (.iconst 0, 671, 1, 0, 0, 0, []),
  (.ireturn, 672, 1, 0, 0, 0, []),
  (.aload_n 1, 673, 1, 0, 0, 0, []),
  (.aload_n 0, 674, 1, 0, 0, 0, []),
  (.iload 4, 675, 2, 0, 0, 0, []),
  (.iconst 1, 677, 1, 0, 0, 0, []),
  (.iadd, 678, 1, 0, 0, 0, []),
  (.iaload, 679, 1, 0, 0, 0, []),
  (.aload_n 0, 680, 1, 0, 0, 0, []),
  (.iload 4, 681, 2, 0, 0, 0, []),
  (.iconst 2, 683, 1, 0, 0, 0, []),
  (.iadd, 684, 1, 0, 0, 0, []),
  (.iaload, 685, 1, 0, 0, 0, []),
  (.invokevirtual 85, 686, 3, 93, 3, 11, [2]),
  (.aload_n 2, 689, 1, 0, 0, 0, []),
  (.aload_n 0, 690, 1, 0, 0, 0, []),
  (.iload 4, 691, 2, 0, 0, 0, []),
  (.iconst 1, 693, 1, 0, 0, 0, []),
  (.iadd, 694, 1, 0, 0, 0, []),
  (.iaload, 695, 1, 0, 0, 0, []),
  (.aload_n 0, 696, 1, 0, 0, 0, []),
  (.iload 4, 697, 2, 0, 0, 0, []),
  (.iconst 2, 699, 1, 0, 0, 0, []),
  (.iadd, 700, 1, 0, 0, 0, []),
  (.iaload, 701, 1, 0, 0, 0, []),
  (.invokevirtual 88, 702, 3, 164, 3, 12, [2]),
  (.lcmp, 705, 1, 0, 0, 0, []),
  (.ifCond .eq 455, 706, 3, 749, 0, 0, []),
  (.iconst 0, 709, 1, 0, 0, 0, []),
  (.ireturn, 710, 1, 0, 0, 0, []),
  (.aload_n 1, 711, 1, 0, 0, 0, []),
  (.aload_n 0, 712, 1, 0, 0, 0, []),
  (.iload 4, 713, 2, 0, 0, 0, []),
  (.iconst 1, 715, 1, 0, 0, 0, []),
  (.iadd, 716, 1, 0, 0, 0, []),
  (.iaload, 717, 1, 0, 0, 0, []),
  (.aload_n 0, 718, 1, 0, 0, 0, []),
  (.iload 4, 719, 2, 0, 0, 0, []),
  (.iconst 2, 721, 1, 0, 0, 0, []),
  (.iadd, 722, 1, 0, 0, 0, []),
  (.iaload, 723, 1, 0, 0, 0, []),
  (.invokevirtual 89, 724, 3, 94, 3, 11, [1]),
  (.aload_n 2, 727, 1, 0, 0, 0, []),
  (.aload_n 0, 728, 1, 0, 0, 0, []),
  (.iload 4, 729, 2, 0, 0, 0, []),
  (.iconst 1, 731, 1, 0, 0, 0, []),
  (.iadd, 732, 1, 0, 0, 0, []),
  (.iaload, 733, 1, 0, 0, 0, []),
  (.aload_n 0, 734, 1, 0, 0, 0, []),
  (.iload 4, 735, 2, 0, 0, 0, []),
  (.iconst 2, 737, 1, 0, 0, 0, []),
  (.iadd, 738, 1, 0, 0, 0, []),
  (.iaload, 739, 1, 0, 0, 0, []),
  (.invokevirtual 92, 740, 3, 169, 3, 12, [1]),
  (.if_icmp .eq 418, 743, 3, 749, 0, 0, []),
  (.iconst 0, 746, 1, 0, 0, 0, []),
  (.ireturn, 747, 1, 0, 0, 0, []),
  (.aload_n 1, 748, 1, 0, 0, 0, []),
  (.aload_n 0, 749, 1, 0, 0, 0, []),
  (.iload 4, 750, 2, 0, 0, 0, []),
  (.iconst 1, 752, 1, 0, 0, 0, []),
  (.iadd, 753, 1, 0, 0, 0, []),
  (.iaload, 754, 1, 0, 0, 0, []),
  (.invokevirtual 93, 755, 3, 95, 2, 11, [1]),
  (.aload_n 2, 758, 1, 0, 0, 0, []),
  (.aload_n 0, 759, 1, 0, 0, 0, []),
  (.iload 4, 760, 2, 0, 0, 0, []),
  (.iconst 1, 762, 1, 0, 0, 0, []),
  (.iadd, 763, 1, 0, 0, 0, []),
  (.iaload, 764, 1, 0, 0, 0, []),
  (.invokevirtual 96, 765, 3, 174, 2, 12, [1]),
  (.if_icmp .eq 393, 768, 3, 749, 0, 0, []),
  (.iconst 0, 771, 1, 0, 0, 0, []),
  (.ireturn, 772, 1, 0, 0, 0, []),
  (.aload_n 1, 773, 1, 0, 0, 0, []),
  (.aload_n 0, 774, 1, 0, 0, 0, []),
  (.iload 4, 775, 2, 0, 0, 0, []),
  (.iconst 1, 777, 1, 0, 0, 0, []),
  (.iadd, 778, 1, 0, 0, 0, []),
  (.iaload, 779, 1, 0, 0, 0, []),
  (.invokevirtual 97, 780, 3, 96, 2, 11, [1]),
  (.aload_n 2, 783, 1, 0, 0, 0, []),
  (.aload_n 0, 784, 1, 0, 0, 0, []),
  (.iload 4, 785, 2, 0, 0, 0, []),
  (.iconst 1, 787, 1, 0, 0, 0, []),
  (.iadd, 788, 1, 0, 0, 0, []),
  (.iaload, 789, 1, 0, 0, 0, []),
  (.invokevirtual 100, 790, 3, 175, 2, 12, [1]),
  (.if_icmp .eq 368, 793, 3, 749, 0, 0, []),
  (.iconst 0, 796, 1, 0, 0, 0, []),
  (.ireturn, 797, 1, 0, 0, 0, []),
  (.aload_n 1, 798, 1, 0, 0, 0, []),
  (.aload_n 0, 799, 1, 0, 0, 0, []),
  (.iload 4, 800, 2, 0, 0, 0, []),
  (.iconst 1, 802, 1, 0, 0, 0, []),
  (.iadd, 803, 1, 0, 0, 0, []),
  (.iaload, 804, 1, 0, 0, 0, []),
  (.aload_n 0, 805, 1, 0, 0, 0, []),
  (.iload 4, 806, 2, 0, 0, 0, []),
  (.iconst 2, 808, 1, 0, 0, 0, []),
  (.iadd, 809, 1, 0, 0, 0, []),
  (.iaload, 810, 1, 0, 0, 0, []),
  (.aload_n 0, 811, 1, 0, 0, 0, []),
  (.iload 4, 812, 2, 0, 0, 0, []),
  (.iconst 3, 814, 1, 0, 0, 0, []),
  (.iadd, 815, 1, 0, 0, 0, []),
  (.iaload, 816, 1, 0, 0, 0, []),
  (.invokevirtual 101, 817, 3, 97, 4, 11, [1]),
  (.aload_n 2, 820, 1, 0, 0, 0, []),
  (.aload_n 0, 821, 1, 0, 0, 0, []),
  (.iload 4, 822, 2, 0, 0, 0, []),
  (.iconst 1, 824, 1, 0, 0, 0, []),
  (.iadd, 825, 1, 0, 0, 0, []),
  (.iaload, 826, 1, 0, 0, 0, []),
  (.aload_n 0, 827, 1, 0, 0, 0, []),
  (.iload 4, 828, 2, 0, 0, 0, []),
  (.iconst 2, 830, 1, 0, 0, 0, []),
  (.iadd, 831, 1, 0, 0, 0, []),
  (.iaload, 832, 1, 0, 0, 0, []),
  (.aload_n 0, 833, 1, 0, 0, 0, []),
  (.iload 4, 834, 2, 0, 0, 0, []),
  (.iconst 3, 836, 1, 0, 0, 0, []),
  (.iadd, 837, 1, 0, 0, 0, []),
  (.iaload, 838, 1, 0, 0, 0, []),
  (.invokevirtual 104, 839, 3, 176, 4, 12, [1]),
  (.if_icmp .eq 319, 842, 3, 749, 0, 0, []),
  (.iconst 0, 845, 1, 0, 0, 0, []),
  (.ireturn, 846, 1, 0, 0, 0, []),
  (.aload_n 1, 847, 1, 0, 0, 0, []),
  (.aload_n 0, 848, 1, 0, 0, 0, []),
  (.iload 4, 849, 2, 0, 0, 0, []),
  (.iconst 1, 851, 1, 0, 0, 0, []),
  (.iadd, 852, 1, 0, 0, 0, []),
  (.iaload, 853, 1, 0, 0, 0, []),
  (.aload_n 0, 854, 1, 0, 0, 0, []),
  (.iload 4, 855, 2, 0, 0, 0, []),
  (.iconst 2, 857, 1, 0, 0, 0, []),
  (.iadd, 858, 1, 0, 0, 0, []),
  (.iaload, 859, 1, 0, 0, 0, []),
  (.aload_n 0, 860, 1, 0, 0, 0, []),
  (.iload 4, 861, 2, 0, 0, 0, []),
  (.iconst 3, 863, 1, 0, 0, 0, []),
  (.iadd, 864, 1, 0, 0, 0, []),
  (.iaload, 865, 1, 0, 0, 0, []),
  (.aload_n 0, 866, 1, 0, 0, 0, []),
  (.iload 4, 867, 2, 0, 0, 0, []),
  (.iconst 4, 869, 1, 0, 0, 0, []),
  (.iadd, 870, 1, 0, 0, 0, []),
  (.iaload, 871, 1, 0, 0, 0, []),
  (.invokevirtual 105, 872, 3, 98, 5, 11, [1]),
  (.aload_n 2, 875, 1, 0, 0, 0, []),
  (.aload_n 0, 876, 1, 0, 0, 0, []),
  (.iload 4, 877, 2, 0, 0, 0, []),
  (.iconst 1, 879, 1, 0, 0, 0, []),
  (.iadd, 880, 1, 0, 0, 0, []),
  (.iaload, 881, 1, 0, 0, 0, []),
  (.aload_n 0, 882, 1, 0, 0, 0, []),
  (.iload 4, 883, 2, 0, 0, 0, []),
  (.iconst 2, 885, 1, 0, 0, 0, []),
  (.iadd, 886, 1, 0, 0, 0, []),
  (.iaload, 887, 1, 0, 0, 0, []),
  (.aload_n 0, 888, 1, 0, 0, 0, []),
  (.iload 4, 889, 2, 0, 0, 0, []),
  (.iconst 3, 891, 1, 0, 0, 0, []),
  (.iadd, 892, 1, 0, 0, 0, []),
  (.iaload, 893, 1, 0, 0, 0, []),
  (.aload_n 0, 894, 1, 0, 0, 0, []),
  (.iload 4, 895, 2, 0, 0, 0, []),
  (.iconst 4, 897, 1, 0, 0, 0, []),
  (.iadd, 898, 1, 0, 0, 0, []),
  (.iaload, 899, 1, 0, 0, 0, []),
  (.invokevirtual 108, 900, 3, 179, 5, 12, [1]),
  (.if_icmp .eq 258, 903, 3, 749, 0, 0, []),
  (.iconst 0, 906, 1, 0, 0, 0, []),
  (.ireturn, 907, 1, 0, 0, 0, []),
  (.aload_n 1, 908, 1, 0, 0, 0, []),
  (.aload_n 0, 909, 1, 0, 0, 0, []),
  (.iload 4, 910, 2, 0, 0, 0, []),
  (.iconst 1, 912, 1, 0, 0, 0, []),
  (.iadd, 913, 1, 0, 0, 0, []),
  (.iaload, 914, 1, 0, 0, 0, []),
  (.aload_n 0, 915, 1, 0, 0, 0, []),
  (.iload 4, 916, 2, 0, 0, 0, []),
  (.iconst 2, 918, 1, 0, 0, 0, []),
  (.iadd, 919, 1, 0, 0, 0, []),
  (.iaload, 920, 1, 0, 0, 0, []),
  (.aload_n 0, 921, 1, 0, 0, 0, []),
  (.iload 4, 922, 2, 0, 0, 0, []),
  (.iconst 3, 924, 1, 0, 0, 0, []),
  (.iadd, 925, 1, 0, 0, 0, []),
  (.iaload, 926, 1, 0, 0, 0, []),
  (.invokevirtual 109, 927, 3, 99, 4, 11, [1]),
  (.aload_n 2, 930, 1, 0, 0, 0, []),
  (.aload_n 0, 931, 1, 0, 0, 0, []),
  (.iload 4, 932, 2, 0, 0, 0, []),
  (.iconst 1, 934, 1, 0, 0, 0, []),
  (.iadd, 935, 1, 0, 0, 0, []),
  (.iaload, 936, 1, 0, 0, 0, []),
  (.aload_n 0, 937, 1, 0, 0, 0, []),
  (.iload 4, 938, 2, 0, 0, 0, []),
  (.iconst 2, 940, 1, 0, 0, 0, []),
  (.iadd, 941, 1, 0, 0, 0, []),
  (.iaload, 942, 1, 0, 0, 0, []),
  (.aload_n 0, 943, 1, 0, 0, 0, []),
  (.iload 4, 944, 2, 0, 0, 0, []),
  (.iconst 3, 946, 1, 0, 0, 0, []),
  (.iadd, 947, 1, 0, 0, 0, []),
  (.iaload, 948, 1, 0, 0, 0, []),
  (.invokevirtual 112, 949, 3, 180, 4, 12, [1]),
  (.if_icmp .eq 209, 952, 3, 749, 0, 0, []),
  (.iconst 0, 955, 1, 0, 0, 0, []),
  (.ireturn, 956, 1, 0, 0, 0, []),
  (.aload_n 1, 957, 1, 0, 0, 0, []),
  (.aload_n 0, 958, 1, 0, 0, 0, []),
  (.iload 4, 959, 2, 0, 0, 0, []),
  (.iconst 1, 961, 1, 0, 0, 0, []),
  (.iadd, 962, 1, 0, 0, 0, []),
  (.iaload, 963, 1, 0, 0, 0, []),
  (.aload_n 0, 964, 1, 0, 0, 0, []),
  (.iload 4, 965, 2, 0, 0, 0, []),
  (.iconst 2, 967, 1, 0, 0, 0, []),
  (.iadd, 968, 1, 0, 0, 0, []),
  (.iaload, 969, 1, 0, 0, 0, []),
  (.aload_n 3, 970, 1, 0, 0, 0, []),
  (.invokestatic 113, 971, 3, 189, 4, 0, [1]),
  (.istore 5, 974, 2, 0, 0, 0, []),
  (.aload_n 2, 976, 1, 0, 0, 0, []),
  (.aload_n 0, 977, 1, 0, 0, 0, []),
  (.iload 4, 978, 2, 0, 0, 0, []),
  (.iconst 1, 980, 1, 0, 0, 0, []),
  (.iadd, 981, 1, 0, 0, 0, []),
  (.iaload, 982, 1, 0, 0, 0, []),
  (.aload_n 0, 983, 1, 0, 0, 0, []),
  (.iload 4, 984, 2, 0, 0, 0, []),
  (.iconst 2, 986, 1, 0, 0, 0, []),
  (.iadd, 987, 1, 0, 0, 0, []),
  (.iaload, 988, 1, 0, 0, 0, []),
  (.invokevirtual 118, 989, 3, 181, 3, 12, [2]),
  (.lstore 6, 992, 2, 0, 0, 0, []),
  (.aload_n 2, 994, 1, 0, 0, 0, []),
  (.invokevirtual 119, 995, 3, 112, 1, 12, [1]),
  (.iload 5, 998, 2, 0, 0, 0, []),
  (.if_icmp .eq 5, 1000, 3, 635, 0, 0, []),
  (.iconst 0, 1003, 1, 0, 0, 0, []),
  (.ireturn, 1004, 1, 0, 0, 0, []),
  (.iload 5, 1005, 2, 0, 0, 0, []),
  (.ifCond .ne 14, 1007, 3, 645, 0, 0, []),
  (.aload_n 3, 1010, 1, 0, 0, 0, []),
  (.iconst 0, 1011, 1, 0, 0, 0, []),
  (.laload, 1012, 1, 0, 0, 0, []),
  (.lload 6, 1013, 2, 0, 0, 0, []),
  (.lcmp, 1015, 1, 0, 0, 0, []),
  (.ifCond .eq 5, 1016, 3, 645, 0, 0, []),
  (.iconst 0, 1019, 1, 0, 0, 0, []),
  (.ireturn, 1020, 1, 0, 0, 0, []),
  (.goto 140, 1021, 3, 749, 0, 0, []),
  (.aload_n 1, 1024, 1, 0, 0, 0, []),
  (.aload_n 0, 1025, 1, 0, 0, 0, []),
  (.iload 4, 1026, 2, 0, 0, 0, []),
  (.iconst 1, 1028, 1, 0, 0, 0, []),
  (.iadd, 1029, 1, 0, 0, 0, []),
  (.iaload, 1030, 1, 0, 0, 0, []),
  (.aload_n 0, 1031, 1, 0, 0, 0, []),
  (.iload 4, 1032, 2, 0, 0, 0, []),
  (.iconst 2, 1034, 1, 0, 0, 0, []),
  (.iadd, 1035, 1, 0, 0, 0, []),
  (.iaload, 1036, 1, 0, 0, 0, []),
  (.aload_n 0, 1037, 1, 0, 0, 0, []),
  (.iload 4, 1038, 2, 0, 0, 0, []),
  (.iconst 3, 1040, 1, 0, 0, 0, []),
  (.iadd, 1041, 1, 0, 0, 0, []),
  (.iaload, 1042, 1, 0, 0, 0, []),
  (.aload_n 0, 1043, 1, 0, 0, 0, []),
  (.iload 4, 1044, 2, 0, 0, 0, []),
  (.iconst 4, 1046, 1, 0, 0, 0, []),
  (.iadd, 1047, 1, 0, 0, 0, []),
  (.iaload, 1048, 1, 0, 0, 0, []),
  (.aload_n 0, 1049, 1, 0, 0, 0, []),
  (.iload 4, 1050, 2, 0, 0, 0, []),
  (.iconst 5, 1052, 1, 0, 0, 0, []),
  (.iadd, 1053, 1, 0, 0, 0, []),
  (.iaload, 1054, 1, 0, 0, 0, []),
  (.invokevirtual 122, 1055, 3, 101, 6, 11, [1]),
  (.aload_n 2, 1058, 1, 0, 0, 0, []),
  (.aload_n 0, 1059, 1, 0, 0, 0, []),
  (.iload 4, 1060, 2, 0, 0, 0, []),
  (.iconst 1, 1062, 1, 0, 0, 0, []),
  (.iadd, 1063, 1, 0, 0, 0, []),
  (.iaload, 1064, 1, 0, 0, 0, []),
  (.aload_n 0, 1065, 1, 0, 0, 0, []),
  (.iload 4, 1066, 2, 0, 0, 0, []),
  (.iconst 2, 1068, 1, 0, 0, 0, []),
  (.iadd, 1069, 1, 0, 0, 0, []),
  (.iaload, 1070, 1, 0, 0, 0, []),
  (.aload_n 0, 1071, 1, 0, 0, 0, []),
  (.iload 4, 1072, 2, 0, 0, 0, []),
  (.iconst 3, 1074, 1, 0, 0, 0, []),
  (.iadd, 1075, 1, 0, 0, 0, []),
  (.iaload, 1076, 1, 0, 0, 0, []),
  (.aload_n 0, 1077, 1, 0, 0, 0, []),
  (.iload 4, 1078, 2, 0, 0, 0, []),
  (.iconst 4, 1080, 1, 0, 0, 0, []),
  (.iadd, 1081, 1, 0, 0, 0, []),
  (.iaload, 1082, 1, 0, 0, 0, []),
  (.aload_n 0, 1083, 1, 0, 0, 0, []),
  (.iload 4, 1084, 2, 0, 0, 0, []),
  (.iconst 5, 1086, 1, 0, 0, 0, []),
  (.iadd, 1087, 1, 0, 0, 0, []),
  (.iaload, 1088, 1, 0, 0, 0, []),
  (.invokevirtual 126, 1089, 3, 183, 6, 12, [1]),
  (.if_icmp .eq 69, 1092, 3, 749, 0, 0, []),
  (.iconst 0, 1095, 1, 0, 0, 0, []),
  (.ireturn, 1096, 1, 0, 0, 0, []),
  (.aload_n 1, 1097, 1, 0, 0, 0, []),
  (.aload_n 0, 1098, 1, 0, 0, 0, []),
  (.iload 4, 1099, 2, 0, 0, 0, []),
  (.iconst 1, 1101, 1, 0, 0, 0, []),
  (.iadd, 1102, 1, 0, 0, 0, []),
  (.iaload, 1103, 1, 0, 0, 0, []),
  (.invokevirtual 127, 1104, 3, 102, 2, 11, [2]),
  (.aload_n 2, 1107, 1, 0, 0, 0, []),
  (.aload_n 0, 1108, 1, 0, 0, 0, []),
  (.iload 4, 1109, 2, 0, 0, 0, []),
  (.iconst 1, 1111, 1, 0, 0, 0, []),
  (.iadd, 1112, 1, 0, 0, 0, []),
  (.iaload, 1113, 1, 0, 0, 0, []),
  (.invokevirtual 131, 1114, 3, 184, 2, 12, [2]),
  (.lcmp, 1117, 1, 0, 0, 0, []),
  (.ifCond .eq 43, 1118, 3, 749, 0, 0, []),
  (.iconst 0, 1121, 1, 0, 0, 0, []),
  (.ireturn, 1122, 1, 0, 0, 0, []),
  (.aload_n 1, 1123, 1, 0, 0, 0, []),
  (.aload_n 0, 1124, 1, 0, 0, 0, []),
  (.iload 4, 1125, 2, 0, 0, 0, []),
  (.iconst 1, 1127, 1, 0, 0, 0, []),
  (.iadd, 1128, 1, 0, 0, 0, []),
  (.iaload, 1129, 1, 0, 0, 0, []),
  (.aload_n 0, 1130, 1, 0, 0, 0, []),
  (.iload 4, 1131, 2, 0, 0, 0, []),
  (.iconst 2, 1133, 1, 0, 0, 0, []),
  (.iadd, 1134, 1, 0, 0, 0, []),
  (.iaload, 1135, 1, 0, 0, 0, []),
  (.invokevirtual 132, 1136, 3, 103, 3, 11, [2]),
  (.aload_n 2, 1139, 1, 0, 0, 0, []),
  (.aload_n 0, 1140, 1, 0, 0, 0, []),
  (.iload 4, 1141, 2, 0, 0, 0, []),
  (.iconst 1, 1143, 1, 0, 0, 0, []),
  (.iadd, 1144, 1, 0, 0, 0, []),
  (.iaload, 1145, 1, 0, 0, 0, []),
  (.aload_n 0, 1146, 1, 0, 0, 0, []),
  (.iload 4, 1147, 2, 0, 0, 0, []),
  (.iconst 2, 1149, 1, 0, 0, 0, []),
  (.iadd, 1150, 1, 0, 0, 0, []),
  (.iaload, 1151, 1, 0, 0, 0, []),
  (.invokevirtual 135, 1152, 3, 185, 3, 12, [2]),
  (.lcmp, 1155, 1, 0, 0, 0, []),
  (.ifCond .eq 5, 1156, 3, 749, 0, 0, []),
  (.iconst 0, 1159, 1, 0, 0, 0, []),
  (.ireturn, 1160, 1, 0, 0, 0, []),
  (.iinc 4 6, 1161, 3, 0, 0, 0, []),
  (.goto (-1141), 1164, 3, 13, 0, 0, []),
  (.iconst 1, 1167, 1, 0, 0, 0, []),
  (.ireturn, 1168, 1, 0, 0, 0, [])]
def MT_0 : List aM := [(yX0_init, cX0_init, 1, none, 1, (2, 8), tX0_init),
  (yX0_begin, cX0_begin, 3, none, 3, (0, 0), tX0_begin),
  (yX0_addOutcome, cX0_addOutcome, 3, none, 3, (0, 0), tX0_addOutcome),
  (yX0_become, cX0_become, 3, none, 2, (0, 0), tX0_become),
  (yX0_room, cX0_room, 1, (some .int), 1, (0, 0), tX0_room),
  (yX0_isSingle, cX0_isSingle, 1, (some .boolean), 1, (0, 0), tX0_isSingle),
  (yX0_staysIn, cX0_staysIn, 2, (some .boolean), 2, (0, 0), tX0_staysIn),
  (yX0_mean, cX0_mean, 5, (some .long), 2, (0, 0), tX0_mean),
  (yX0_heaviness, cX0_heaviness, 2, (some .long), 1, (0, 0), tX0_heaviness),
  (yX1_init, cX1_init, 1, none, 1, (8, 50), tX1_init),
  (yX1_open, cX1_open, 3, (some .boolean), 2, (0, 0), tX1_open),
  (yX1_write, cX1_write, 7, none, 4, (0, 0), tX1_write),
  (yX1_solve, cX1_solve, 5, none, 1, (0, 0), tX1_solve),
  (yX1_clear, cX1_clear, 8, none, 4, (0, 0), tX1_clear),
  (yX1_upperOf, cX1_upperOf, 2, (some .long), 2, (0, 0), tX1_upperOf),
  (yX2_init, cX2_init, 3, none, 3, (1, 10), tX2_init),
  (yX2_settle, cX2_settle, 6, none, 1, (0, 0), tX2_settle),
  (yX2_tightActInto, cX2_tightActInto, 4, (some .int), 3, (0, 0), tX2_tightActInto),
  (yX2_pick, cX2_pick, 3, (some .int), 2, (0, 0), tX2_pick),
  (yX2_nearerThan, cX2_nearerThan, 4, (some .int), 2, (0, 0), tX2_nearerThan)]
def MT_1 : List aM := [(yX3_init, cX3_init, 2, none, 2, (3, 30), tX3_init),
  (yX3_settle, cX3_settle, 3, none, 1, (0, 0), tX3_settle),
  (yX3_findPaths, cX3_findPaths, 3, none, 1, (0, 0), tX3_findPaths),
  (yX3_narrow, cX3_narrow, 5, (some .boolean), 1, (0, 0), tX3_narrow),
  (yX3_gather, cX3_gather, 3, none, 1, (0, 0), tX3_gather),
  (yX3_stayingActs, cX3_stayingActs, 5, (some .int), 2, (0, 0), tX3_stayingActs),
  (yX4_init, cX4_init, 3, none, 3, (13, 132), tX4_init),
  (yX4_settle, cX4_settle, 3, none, 1, (0, 0), tX4_settle),
  (yX4_best, cX4_best, 9, (some .long), 3, (0, 0), tX4_best),
  (yX5_init, cX5_init, 3, none, 3, (12, 78), tX5_init),
  (yX5_settle, cX5_settle, 3, none, 1, (0, 0), tX5_settle),
  (yX5_evaluate, cX5_evaluate, 4, none, 1, (0, 0), tX5_evaluate),
  (yX5_improve, cX5_improve, 3, (some .boolean), 1, (0, 0), tX5_improve),
  (yX5_improveState, cX5_improveState, 9, (some .boolean), 2, (0, 0), tX5_improveState),
  (yX6_init, cX6_init, 1, none, 1, (4, 75), tX6_init),
  (yX6_isRow, cX6_isRow, 1, (some .boolean), 1, (0, 0), tX6_isRow),
  (yX6_hasPlaces, cX6_hasPlaces, 3, (some .boolean), 3, (0, 0), tX6_hasPlaces),
  (yX6_holdAct, cX6_holdAct, 2, none, 2, (0, 0), tX6_holdAct),
  (yX6_holdNumber, cX6_holdNumber, 3, none, 2, (0, 0), tX6_holdNumber),
  (yX6_holdParts, cX6_holdParts, 3, none, 2, (0, 0), tX6_holdParts)]
def MT_2 : List aM := [(yX6_beginRow, cX6_beginRow, 3, none, 3, (0, 0), tX6_beginRow),
  (yX7_init, cX7_init, 2, none, 2, (3, 60), tX7_init),
  (yX7_settle, cX7_settle, 3, none, 1, (0, 0), tX7_settle),
  (yX7_readFaces, cX7_readFaces, 3, none, 1, (0, 0), tX7_readFaces),
  (yX7_faceOf, cX7_faceOf, 5, (some .long), 2, (0, 0), tX7_faceOf),
  (yX7_split, cX7_split, 3, none, 1, (0, 0), tX7_split),
  (yX7_covers, cX7_covers, 4, (some .boolean), 3, (0, 0), tX7_covers),
  (yX7_hasFace, cX7_hasFace, 5, (some .boolean), 3, (0, 0), tX7_hasFace),
  (yX8_init, cX8_init, 3, none, 3, (12, 78), tX8_init),
  (yX8_sort, cX8_sort, 4, none, 1, (0, 0), tX8_sort),
  (yX8_settle, cX8_settle, 3, none, 1, (0, 0), tX8_settle),
  (yX8_evaluate, cX8_evaluate, 4, none, 1, (0, 0), tX8_evaluate),
  (yX8_setSureTo, cX8_setSureTo, 4, none, 2, (0, 0), tX8_setSureTo),
  (yX8_improve, cX8_improve, 5, (some .boolean), 2, (0, 0), tX8_improve),
  (yX8_improveState, cX8_improveState, 9, (some .boolean), 3, (0, 0), tX8_improveState),
  (yX8_isTight, cX8_isTight, 3, (some .boolean), 3, (0, 0), tX8_isTight),
  (yX9_init, cX9_init, 3, none, 3, (1, 10), tX9_init),
  (yX9_grow, cX9_grow, 7, (some .int), 2, (0, 0), tX9_grow),
  (yX9_join, cX9_join, 8, (some .boolean), 4, (0, 0), tX9_join),
  (yX10_init, cX10_init, 2, none, 1, (122, 650), tX10_init)]
def MT_3 : List aM := [(yX10_hasState, cX10_hasState, 2, (some .boolean), 2, (0, 0), tX10_hasState),
  (yX10_hasAct, cX10_hasAct, 3, (some .boolean), 3, (0, 0), tX10_hasAct),
  (yX10_actAt, cX10_actAt, 3, (some (.object "ChanceCourt$Act")), 3, (0, 0), tX10_actAt),
  (yX10_isFoes, cX10_isFoes, 2, (some .boolean), 2, (0, 0), tX10_isFoes),
  (yX10_seeksMost, cX10_seeksMost, 3, (some .boolean), 3, (0, 0), tX10_seeksMost),
  (yX10_everyone, cX10_everyone, 1, (some .int), 1, (0, 0), tX10_everyone),
  (yX10_addState, cX10_addState, 1, (some .int), 1, (0, 0), tX10_addState),
  (yX10_addAct, cX10_addAct, 4, (some .int), 4, (0, 0), tX10_addAct),
  (yX10_addOutcome, cX10_addOutcome, 4, (some .int), 4, (0, 0), tX10_addOutcome),
  (yX10_removeAct, cX10_removeAct, 2, (some .int), 2, (0, 0), tX10_removeAct),
  (yX10_setMarked, cX10_setMarked, 2, none, 2, (0, 0), tX10_setMarked),
  (yX10_isWhole, cX10_isWhole, 1, (some .boolean), 1, (0, 0), tX10_isWhole),
  (yX10_lacking, cX10_lacking, 4, (some .int), 1, (0, 0), tX10_lacking),
  (yX10_allActs, cX10_allActs, 3, (some .int), 1, (0, 0), tX10_allActs),
  (yX10_allOutcomes, cX10_allOutcomes, 4, (some .int), 1, (0, 0), tX10_allOutcomes),
  (yX10_foeActs, cX10_foeActs, 3, (some .int), 1, (0, 0), tX10_foeActs),
  (yX10_nextOf, cX10_nextOf, 6, (some .int), 3, (0, 0), tX10_nextOf),
  (yX10_reachedFrom, cX10_reachedFrom, 7, (some .int), 2, (0, 0), tX10_reachedFrom),
  (yX11_init, cX11_init, 2, none, 1, (241, 1957), tX11_init),
  (yX11_state, cX11_state, 1, (some .int), 1, (0, 0), tX11_state)]
def MT_4 : List aM := [(yX11_act, cX11_act, 4, (some .int), 4, (0, 0), tX11_act),
  (yX11_outcome, cX11_outcome, 6, (some .int), 5, (0, 0), tX11_outcome),
  (yX11_drop, cX11_drop, 2, (some .int), 2, (0, 0), tX11_drop),
  (yX11_mark, cX11_mark, 2, (some .int), 2, (0, 0), tX11_mark),
  (yX11_whole, cX11_whole, 1, (some .int), 1, (0, 0), tX11_whole),
  (yX11_value, cX11_value, 6, (some .long), 4, (0, 0), tX11_value),
  (yX11_choice, cX11_choice, 3, (some .int), 2, (0, 0), tX11_choice),
  (yX11_distance, cX11_distance, 3, (some .int), 2, (0, 0), tX11_distance),
  (yX11_sum, cX11_sum, 7, (some .long), 4, (0, 0), tX11_sum),
  (yX11_within, cX11_within, 6, (some .long), 5, (0, 0), tX11_within),
  (yX11_bound, cX11_bound, 4, (some .int), 3, (0, 0), tX11_bound),
  (yX11_sets, cX11_sets, 3, (some .int), 2, (0, 0), tX11_sets),
  (yX11_reached, cX11_reached, 2, (some .int), 2, (0, 0), tX11_reached),
  (yX11_cost, cX11_cost, 3, (some .long), 3, (0, 0), tX11_cost),
  (yX11_hole, cX11_hole, 3, (some .int), 3, (0, 0), tX11_hole),
  (yX11_twin, cX11_twin, 2, (some .int), 2, (0, 0), tX11_twin),
  (yX11_count, cX11_count, 2, (some .int), 2, (0, 0), tX11_count),
  (yX11_look, cX11_look, 6, (some .int), 4, (0, 0), tX11_look),
  (yX11_keep, cX11_keep, 6, (some .int), 5, (0, 0), tX11_keep),
  (yX11_make, cX11_make, 4, (some .int), 4, (0, 0), tX11_make)]
def MT_5 : List aM := [(yX11_element, cX11_element, 4, (some .long), 3, (0, 0), tX11_element),
  (yX11_copy, cX11_copy, 8, (some .int), 6, (0, 0), tX11_copy),
  (yX11_weight, cX11_weight, 3, (some .long), 2, (0, 0), tX11_weight),
  (yX11_ratio, cX11_ratio, 5, (some .long), 3, (0, 0), tX11_ratio),
  (yX11_refusalOf, cX11_refusalOf, 2, (some .int), 2, (0, 0), tX11_refusalOf),
  (yX11_fillShelf, cX11_fillShelf, 6, none, 5, (0, 0), tX11_fillShelf),
  (yX11_isHalf, cX11_isHalf, 1, (some .boolean), 1, (0, 0), tX11_isHalf),
  (yX11_isShelf, cX11_isShelf, 1, (some .boolean), 1, (0, 0), tX11_isShelf),
  (yX11_has, cX11_has, 2, (some .boolean), 2, (0, 0), tX11_has),
  (yX11_lowestTerms, cX11_lowestTerms, 7, (some .long), 3, (0, 0), tX11_lowestTerms),
  (yX11_commonDivisor, cX11_commonDivisor, 11, (some .long), 2, (0, 0), tX11_commonDivisor),
  (yX12_init, cX12_init, 1, none, 1, (30, 1266), tX12_init),
  (yX12_thrown, cX12_thrown, 1, (some .int), 1, (0, 0), tX12_thrown),
  (yX12_isIn, cX12_isIn, 6, (some .boolean), 3, (0, 0), tX12_isIn),
  (yX12_isState, cX12_isState, 2, (some .boolean), 2, (0, 0), tX12_isState),
  (yX12_isAct, cX12_isAct, 3, (some .boolean), 3, (0, 0), tX12_isAct),
  (yX12_isMarked, cX12_isMarked, 2, (some .boolean), 2, (0, 0), tX12_isMarked),
  (yX12_isFoe, cX12_isFoe, 2, (some .boolean), 2, (0, 0), tX12_isFoe),
  (yX12_state, cX12_state, 1, (some .int), 1, (0, 0), tX12_state),
  (yX12_act, cX12_act, 5, (some .int), 4, (0, 0), tX12_act)]
def MT_6 : List aM := [(yX12_partsOf, cX12_partsOf, 4, (some .int), 2, (0, 0), tX12_partsOf),
  (yX12_outcome, cX12_outcome, 8, (some .int), 5, (0, 0), tX12_outcome),
  (yX12_drop, cX12_drop, 2, (some .int), 2, (0, 0), tX12_drop),
  (yX12_mark, cX12_mark, 4, (some .int), 2, (0, 0), tX12_mark),
  (yX12_lacking, cX12_lacking, 4, (some .int), 1, (0, 0), tX12_lacking),
  (yX12_whole, cX12_whole, 1, (some .int), 1, (0, 0), tX12_whole),
  (yX12_allIn, cX12_allIn, 5, (some .boolean), 3, (0, 0), tX12_allIn),
  (yX12_someIn, cX12_someIn, 5, (some .boolean), 3, (0, 0), tX12_someIn),
  (yX12_wants, cX12_wants, 3, (some .boolean), 3, (0, 0), tX12_wants),
  (yX12_leads, cX12_leads, 9, (some .boolean), 5, (0, 0), tX12_leads),
  (yX12_comes, cX12_comes, 7, (some .int), 3, (0, 0), tX12_comes),
  (yX12_all, cX12_all, 1, (some .int), 1, (0, 0), tX12_all),
  (yX12_above, cX12_above, 2, (some .int), 2, (0, 0), tX12_above),
  (yX12_ones, cX12_ones, 5, (some .int), 2, (0, 0), tX12_ones),
  (yX12_gcd, cX12_gcd, 11, (some .long), 3, (0, 0), tX12_gcd),
  (yX12_determinant, cX12_determinant, 11, (some .long), 2, (0, 0), tX12_determinant),
  (yX12_placeOf, cX12_placeOf, 4, (some .int), 2, (0, 0), tX12_placeOf),
  (yX12_solve, cX12_solve, 5, none, 1, (0, 0), tX12_solve),
  (yX12_layRow, cX12_layRow, 6, none, 3, (0, 0), tX12_layRow),
  (yX12_comesChosen, cX12_comesChosen, 7, (some .int), 3, (0, 0), tX12_comesChosen)]
def MT_7 : List aM := [(yX12_chances, cX12_chances, 8, none, 3, (0, 0), tX12_chances),
  (yX12_isBelow, cX12_isBelow, 8, (some .boolean), 4, (0, 0), tX12_isBelow),
  (yX12_nextChoice, cX12_nextChoice, 4, (some .boolean), 3, (0, 0), tX12_nextChoice),
  (yX12_countBits, cX12_countBits, 4, (some .int), 2, (0, 0), tX12_countBits),
  (yX12_worst, cX12_worst, 8, none, 4, (0, 0), tX12_worst),
  (yX12_findValues, cX12_findValues, 10, (some .boolean), 2, (0, 0), tX12_findValues),
  (yX12_value, cX12_value, 5, (some .long), 4, (0, 0), tX12_value),
  (yX12_findSum, cX12_findSum, 14, none, 2, (0, 0), tX12_findSum),
  (yX12_isJust, cX12_isJust, 3, (some .boolean), 3, (0, 0), tX12_isJust),
  (yX12_nearest, cX12_nearest, 4, (some .int), 2, (0, 0), tX12_nearest),
  (yX12_findDistances, cX12_findDistances, 5, none, 1, (0, 0), tX12_findDistances),
  (yX12_refusal, cX12_refusal, 1, (some .long), 1, (0, 0), tX12_refusal),
  (yX12_choice, cX12_choice, 5, (some .int), 2, (0, 0), tX12_choice),
  (yX12_distance, cX12_distance, 3, (some .int), 2, (0, 0), tX12_distance),
  (yX12_sum, cX12_sum, 6, (some .long), 4, (0, 0), tX12_sum),
  (yX12_start, cX12_start, 2, none, 1, (0, 0), tX12_start),
  (yX12_onwards, cX12_onwards, 7, none, 2, (0, 0), tX12_onwards),
  (yX12_within, cX12_within, 7, (some .long), 5, (0, 0), tX12_within),
  (yX12_bound, cX12_bound, 4, (some .int), 3, (0, 0), tX12_bound),
  (yX12_sets, cX12_sets, 3, (some .int), 2, (0, 0), tX12_sets)]
def MT_8 : List aM := [(yX12_reachedFrom, cX12_reachedFrom, 9, (some .int), 3, (0, 0), tX12_reachedFrom),
  (yX12_reached, cX12_reached, 2, (some .int), 2, (0, 0), tX12_reached),
  (yX12_sureChosen, cX12_sureChosen, 9, (some .int), 2, (0, 0), tX12_sureChosen),
  (yX12_costsChosen, cX12_costsChosen, 3, none, 2, (0, 0), tX12_costsChosen),
  (yX12_cost, cX12_cost, 12, (some .long), 3, (0, 0), tX12_cost),
  (yX12_together, cX12_together, 7, (some .int), 3, (0, 0), tX12_together),
  (yX12_staying, cX12_staying, 5, (some .int), 2, (0, 0), tX12_staying),
  (yX12_holeOf, cX12_holeOf, 5, (some .int), 2, (0, 0), tX12_holeOf),
  (yX12_findHoles, cX12_findHoles, 4, none, 1, (0, 0), tX12_findHoles),
  (yX12_hole, cX12_hole, 5, (some .int), 3, (0, 0), tX12_hole),
  (yX12_partIn, cX12_partIn, 5, (some .int), 3, (0, 0), tX12_partIn),
  (yX12_areLike, cX12_areLike, 5, (some .boolean), 3, (0, 0), tX12_areLike),
  (yX12_hasAll, cX12_hasAll, 7, (some .boolean), 3, (0, 0), tX12_hasAll),
  (yX12_findClasses, cX12_findClasses, 6, (some .int), 1, (0, 0), tX12_findClasses),
  (yX12_twin, cX12_twin, 3, (some .int), 2, (0, 0), tX12_twin),
  (yX12_count, cX12_count, 5, (some .int), 2, (0, 0), tX12_count),
  (yX12_look, cX12_look, 6, (some .int), 4, (0, 0), tX12_look),
  (yX12_isShelf, cX12_isShelf, 1, (some .boolean), 1, (0, 0), tX12_isShelf),
  (yX12_weightOf, cX12_weightOf, 3, (some .int), 2, (0, 0), tX12_weightOf),
  (yX12_keep, cX12_keep, 8, (some .int), 5, (0, 0), tX12_keep)]
def MT_9 : List aM := [(yX12_make, cX12_make, 5, (some .int), 4, (0, 0), tX12_make),
  (yX12_element, cX12_element, 4, (some .long), 3, (0, 0), tX12_element),
  (yX12_hasPlaces, cX12_hasPlaces, 4, (some .boolean), 4, (0, 0), tX12_hasPlaces),
  (yX12_copy, cX12_copy, 7, (some .int), 6, (0, 0), tX12_copy),
  (yX12_weight, cX12_weight, 2, (some .long), 2, (0, 0), tX12_weight),
  (yX12_ratio, cX12_ratio, 3, (some .long), 3, (0, 0), tX12_ratio),
  (yJ6_bitCount_0f7a4, cJ6_bitCount_0f7a4, 1, (some .int), 1, (0, 0), tJ6_bitCount_0f7a4),
  (yJ7_fill_d0a16, cJ7_fill_d0a16, 5, none, 2, (0, 0), tJ7_fill_d0a16),
  (yJ7_fill_53178, cJ7_fill_53178, 4, none, 2, (0, 0), tJ7_fill_53178),
  (yL_element, cL_element, 5, (some .int), 4, (4, 40), tL_element)]
def MT : List aM := MT_0 ++ (MT_1 ++ (MT_2 ++ (MT_3 ++ (MT_4 ++ (MT_5 ++ (MT_6 ++ (MT_7 ++ (MT_8 ++ (MT_9)))))))))
end
section
/-! CERTIFICATES: each instruction is what the class files and the tables say -/
def ck (w : Cond) (i : Nat) : Bool := match lw_tbl[i]? with
  | some v => decide (v = w) && goodWord w
  | none => false
theorem ck_ok {w : Cond} {i : Nat} (h : ck w i = true) : w ∈ GW := by
  unfold ck at h
  split at h
  · rename_i v hv
    rw [Bool.and_eq_true, decide_eq_true_eq] at h
    obtain ⟨h1, h2⟩ := h
    subst h1
    exact List.mem_filter.mpr ⟨List.mem_of_getElem? hv, h2⟩
  · cases h
def fCK (own : String) (x : xI) (idx h0 : Nat) : Bool := match vwCl[x.2.2.2.1]? with
  | some (C, T, N) => decide (x.2.2.2.2.1 < N) && decide ((T x.2.2.2.2.1).1 = C) && ck (.fieldLink own idx C (T x.2.2.2.2.1).2.1 (T x.2.2.2.2.1).2.2.1) h0
  | none => false
theorem fCK_ok {own : String} {x : xI} {idx h0 : Nat} (h : fCK own x idx h0 = true) : a_fld own GW x idx := by
  unfold fCK at h
  split at h
  · rename_i C T N hc
    simp only [Bool.and_eq_true, decide_eq_true_eq] at h
    exact ⟨C, T, N, hc, h.1.1, h.1.2, ck_ok h.2⟩
  · cases h
def finCK (own mname : String) (x : xI) : Bool := match vwCl[x.2.2.2.1]? with
  | some (_, T, _) => !(T x.2.2.2.2.1).2.2.2 || (decide (mname = "<init>") && decide ((T x.2.2.2.2.1).1 = own))
  | none => true
theorem finCK_ok {own mname : String} {x : xI} (h : finCK own mname x = true) : a_fin own mname x := by
  intro C T N hc
  unfold finCK at h
  rw [hc] at h
  simp only [Bool.or_eq_true, Bool.and_eq_true, decide_eq_true_eq, Bool.not_eq_true'] at h
  cases hq : (T x.2.2.2.2.1).2.2.2 with
  | false => exact Or.inl rfl
  | true =>
    rcases h with h | h
    · rw [hq] at h; cases h
    · exact Or.inr ⟨rfl, h.1, h.2⟩
def calCK (M : aM) (n h0 h1 : Nat) : Bool := ck (.code M.1 M.2.1 M.2.2.1 M.2.2.2.1) h0 && ck (.initialized M.1.cls) h1 && decide (M.1.cls ≠ "java/lang/invoke/MethodHandle") && decide (M.1.cls ≠ "java/lang/invoke/VarHandle") && decide ((parseMethodDescriptor M.1.desc).map (fun d => d.parameters.length) = some n) && decide (M.2.2.1 ≤ 20)
theorem calCK_ok {M : aM} {n h0 h1 : Nat} (h : calCK M n h0 h1 = true) : a_cal M n := by
  simp only [calCK, Bool.and_eq_true, decide_eq_true_eq] at h
  obtain ⟨⟨⟨⟨⟨a1, a2⟩, a3⟩, a4⟩, a5⟩, a6⟩ := h
  exact ⟨ck_ok a1, ck_ok a2, a3, a4, a5, a6⟩
def lnkCK (own : String) (idx : Nat) (y : MethodName) (h0 : Nat) : Bool := ck (.methodLink own idx y) h0 || decide ((own, idx, y) ∈ NWl)
theorem lnkCK_ok {own : String} {idx : Nat} {y : MethodName} {h0 : Nat} (h : lnkCK own idx y h0 = true) : a_lnk own idx y := by
  simp only [lnkCK, Bool.or_eq_true, decide_eq_true_eq] at h
  exact h.imp ck_ok id
def swCK (tbl : List xI) (pc : Nat) (offs : Array Int) : Nat → List Nat → Bool
  | _, [] => true
  | k, j :: r => (match offs[k]? with | some o => decide ((pc : Int) + o = (pcOf tbl j : Int)) | none => false) && swCK tbl pc offs (k + 1) r
theorem swCK_ok {tbl : List xI} {pc : Nat} {offs : Array Int} : ∀ {tg : List Nat} {k0 : Nat}, swCK tbl pc offs k0 tg = true → ∀ (k j : Nat), tg[k]? = some j → ∃ o, offs[k0 + k]? = some o ∧ (pc : Int) + o = (pcOf tbl j : Int)
  | [], _, _, k, j, h => by simp at h
  | a :: r, k0, h, k, j, hj => by
    simp only [swCK, Bool.and_eq_true] at h
    cases k with
    | zero =>
      rw [List.getElem?_cons_zero] at hj
      cases hj
      have h1 := h.1
      split at h1
      · rename_i o ho
        rw [decide_eq_true_eq] at h1
        exact ⟨o, ho, h1⟩
      · cases h1
    | succ k =>
      rw [List.getElem?_cons_succ] at hj
      have := swCK_ok h.2 k j hj
      rw [show k0 + (k + 1) = k0 + 1 + k by omega]
      exact this
/-- the links of an instruction, by their places in the tables -/
def lCK (own mname : String) (tbl : List xI) (x : xI) (hs : List Nat) : Bool := match x.1 with
  | .ldc k => ck (.constant own k (Int32.ofInt x.2.2.2.2.2.1)) (hs.getD 0 0)
  | .ldc_w k => ck (.constant own k (Int32.ofInt x.2.2.2.2.2.1)) (hs.getD 0 0)
  | .ldc2_w k => ck (.constantLong own k (Int64.ofInt x.2.2.2.2.2.1)) (hs.getD 0 0)
  | .getfield idx => fCK own x idx (hs.getD 0 0)
  | .putfield idx => fCK own x idx (hs.getD 0 0) && finCK own mname x
  | .new idx => (match vwCl[x.2.2.2.1]? with | some (C, _, N) => ck (.classLink own idx C) (hs.getD 0 0) && ck (.instantiable C N) (hs.getD 1 0) && ck (.initialized C) (hs.getD 2 0) | none => true)
  | .newarray ty => ck (.arrayClass (newarray.typeOf ty)) (hs.getD 0 0)
  | .anewarray idx => (match vwCl[x.2.2.2.1]? with | some (C, _, _) => ck (.classLink own idx C) (hs.getD 0 0) && (decide (C = "ChanceCourt$Act") || decide (C = "ChanceCourt$Shelf")) | none => true)
  | .multianewarray idx k => decide (k = 2) && ck (.classLink own idx ("[" ++ (FieldType.array .long).toString)) (hs.getD 0 0) && ck (.arrayClass .long) (hs.getD 1 0)
  | .invokevirtual idx => (match MT[x.2.2.2.1]? with | some M => decide (1 ≤ x.2.2.2.2.1) && calCK M (x.2.2.2.2.1 - 1) (hs.getD 4 0) (hs.getD 3 0) && ck (.methodLink own idx M.1) (hs.getD 0 0) && ck (.instanceMethod M.1) (hs.getD 1 0) && ck (.selects M.1.cls M.1 M.1) (hs.getD 2 0) && decide (0 ≤ x.2.2.2.2.2.1) && (match vwCl[x.2.2.2.2.2.1.toNat]? with | some (C, _, _) => decide (C = M.1.cls) | none => false) | none => true)
  | .invokestatic idx => if x.2.2.2.1 = idCopy then ck (.methodLink own idx arraycopyName) (hs.getD 0 0) && ck (.native arraycopyName) (hs.getD 1 0) && ck (.static arraycopyName) (hs.getD 2 0) && ck (.initialized "java/lang/System") (hs.getD 3 0) else
    (match MT[x.2.2.2.1]? with | some M => calCK M x.2.2.2.2.1 (hs.getD 3 0) (hs.getD 2 0) && lnkCK own idx M.1 (hs.getD 0 0) && ck (.static M.1) (hs.getD 1 0) | none => true)
  | .invokespecial idx => if x.2.2.2.1 = idInit then ck (.methodLink own idx objectInit) (hs.getD 0 0) && ck (.instanceMethod objectInit) (hs.getD 1 0) && ck (.code objectInit ⟨#[0xb1]⟩ 1 none) (hs.getD 2 0) else
    (match MT[x.2.2.2.1]? with | some M => decide (1 ≤ x.2.2.2.2.1) && calCK M (x.2.2.2.2.1 - 1) (hs.getD 3 0) (hs.getD 2 0) && lnkCK own idx M.1 (hs.getD 0 0) && ck (.instanceMethod M.1) (hs.getD 1 0) && decide (M.1.name = "<init>") && decide (M.2.2.2.1 = none) | none => true)
  | .tableswitch d _ _ offs => (match x.2.2.2.2.2.2 with | [] => true | j :: r => decide ((x.2.1 : Int) + d = (pcOf tbl j : Int)) && swCK tbl x.2.1 offs 0 r)
  | _ => true
def xCK (own mname : String) (cc : ByteArray) (tbl : List xI) (i : Nat) (x : xI) (hs : List Nat) : Bool :=
  decide (decode cc x.2.1 = .ok (x.1, x.2.2.1)) && (a_isSw x.1 || decide (x.2.2.1 = a_len x.1)) && (!a_falls x.1 || decide (pcOf tbl (i + 1) = x.2.1 + x.2.2.1)) && (!a_jumps x.1 || decide ((x.2.1 : Int) + a_off x.1 = (pcOf tbl x.2.2.2.1 : Int))) && lCK own mname tbl x hs
set_option maxHeartbeats 4000000 in
theorem xCK_ok {own mname : String} {cc : ByteArray} {tbl : List xI} {i : Nat} {x : xI} {hs : List Nat} (h : xCK own mname cc tbl i x hs = true) : xOK own mname cc MT tbl i x := by
  simp only [xCK, Bool.and_eq_true, Bool.or_eq_true, decide_eq_true_eq, Bool.not_eq_true'] at h
  obtain ⟨⟨⟨⟨h1, h2⟩, h3⟩, h4⟩, h5⟩ := h
  unfold lCK at h5
  refine ⟨h1, fun q => ?_, fun q => ?_, fun q => ?_, fun w hw => ?_, fun idx q => ?_, fun idx q => ?_, ?_, fun idx q => ?_, fun idx q => ?_, fun idx q => ?_, fun d lo hi offs q => ?_⟩
  · rcases h2 with h2 | h2
    · rw [q] at h2; cases h2
    · exact h2
  · rcases h3 with h3 | h3
    · rw [q] at h3; cases h3
    · exact h3
  · rcases h4 with h4 | h4
    · rw [q] at h4; cases h4
    · exact h4
  · unfold a_const at hw
    split at hw
    · rename_i k hq; rw [hq] at h5; cases hw; exact ck_ok h5
    · rename_i k hq; rw [hq] at h5; cases hw; exact ck_ok h5
    · rename_i k hq; rw [hq] at h5; cases hw; exact ck_ok h5
    · cases hw
  · rw [q] at h5; exact fCK_ok h5
  · rw [q] at h5
    simp only [Bool.and_eq_true] at h5
    exact ⟨fCK_ok h5.1, finCK_ok h5.2⟩
  · unfold a_mkS
    split
    · rename_i idx hq
      rw [hq] at h5
      intro C T N hc
      simp only [hc, Bool.and_eq_true] at h5
      exact ⟨ck_ok h5.1.1, ck_ok h5.1.2, ck_ok h5.2⟩
    · rename_i ty hq
      rw [hq] at h5
      exact ck_ok h5
    · rename_i idx hq
      rw [hq] at h5
      intro C T N hc
      simp only [hc, Bool.and_eq_true, Bool.or_eq_true, decide_eq_true_eq] at h5
      exact ⟨ck_ok h5.1, h5.2⟩
    · rename_i idx k hq
      rw [hq] at h5
      simp only [Bool.and_eq_true, decide_eq_true_eq] at h5
      exact ⟨h5.1.1, ck_ok h5.1.2, ck_ok h5.2⟩
    · trivial
  · rw [q] at h5
    intro M hM
    simp only [hM, Bool.and_eq_true, decide_eq_true_eq] at h5
    obtain ⟨⟨⟨⟨⟨⟨a1, a2⟩, a3⟩, a4⟩, a5⟩, a6⟩, a7⟩ := h5
    refine ⟨⟨x.2.2.2.2.1 - 1, by omega, calCK_ok a2⟩, ck_ok a3, ck_ok a4, ck_ok a5, x.2.2.2.2.2.1.toNat, by omega, ?_⟩
    split at a7
    · rename_i C T N hc
      rw [decide_eq_true_eq] at a7
      subst a7
      exact ⟨T, N, hc⟩
    · cases a7
  · rw [q] at h5
    dsimp only at h5
    split
    · rename_i hid
      rw [if_pos hid] at h5
      simp only [Bool.and_eq_true] at h5
      exact ⟨ck_ok h5.1.1.1, ck_ok h5.1.1.2, ck_ok h5.1.2, ck_ok h5.2⟩
    · rename_i hid
      rw [if_neg hid] at h5
      intro M hM
      simp only [hM, Bool.and_eq_true] at h5
      exact ⟨calCK_ok h5.1.1, lnkCK_ok h5.1.2, ck_ok h5.2⟩
  · rw [q] at h5
    dsimp only at h5
    split
    · rename_i hid
      rw [if_pos hid] at h5
      simp only [Bool.and_eq_true] at h5
      exact ⟨ck_ok h5.1.1, ck_ok h5.1.2, ck_ok h5.2⟩
    · rename_i hid
      rw [if_neg hid] at h5
      intro M hM
      simp only [hM, Bool.and_eq_true, decide_eq_true_eq] at h5
      obtain ⟨⟨⟨⟨⟨a1, a2⟩, a3⟩, a4⟩, a5⟩, a6⟩ := h5
      exact ⟨⟨x.2.2.2.2.1 - 1, by omega, calCK_ok a2⟩, lnkCK_ok a3, ck_ok a4, a5, a6⟩
  · rw [q] at h5
    dsimp only at h5
    split at h5
    · rename_i hq
      rw [hq]
      exact ⟨fun j hj => by simp at hj, fun k j hj => by simp at hj⟩
    · rename_i j0 r hq
      rw [hq]
      simp only [Bool.and_eq_true, decide_eq_true_eq] at h5
      refine ⟨fun j hj => ?_, fun k j hj => ?_⟩
      · rw [List.getElem?_cons_zero] at hj; cases hj; exact h5.1
      · rw [List.getElem?_cons_succ] at hj
        have := swCK_ok h5.2 k j hj
        rw [Nat.zero_add] at this
        exact this
/-- a stretch of a method's table -/
def cks (own mname : String) (cc : ByteArray) (tbl : List xI) : Nat → Nat → List (List Nat) → Bool
  | _, 0, _ => true
  | i, n + 1, hs => (match tbl[i]? with | some x => xCK own mname cc tbl i x (hs.headD []) | none => false) && cks own mname cc tbl (i + 1) n hs.tail
theorem cks_ok {own mname : String} {cc : ByteArray} {tbl : List xI} : ∀ {n i : Nat} {hs : List (List Nat)}, cks own mname cc tbl i n hs = true → ∀ j x, i ≤ j → j < i + n → tbl[j]? = some x → xOK own mname cc MT tbl j x
  | 0, i, hs, h, j, x, h1, h2, hx => by omega
  | n + 1, i, hs, h, j, x, h1, h2, hx => by
    simp only [cks, Bool.and_eq_true] at h
    by_cases e : j = i
    · subst e
      rw [hx] at h
      exact xCK_ok h.1
    · exact cks_ok h.2 j x (by omega) (by omega) hx
theorem tOK_of {own mname : String} {cc : ByteArray} {tbl : List xI} (h : ∀ j x, j < tbl.length → tbl[j]? = some x → xOK own mname cc MT tbl j x) : tOK own mname cc MT tbl := fun i x hx => h i x (List.getElem?_eq_some_iff.mp hx).1 hx
end
section
/-! CERTIFICATES (by program: wip/whole/gen_certs.py) -/
set_option maxRecDepth 100000 in
theorem qX0_init_0 : cks RX0 "<init>" cX0_init tX0_init 0 11 [[], [110, 96, 97], [], [], [157], [133], [], [], [157], [137], []] = true := by decide +kernel
theorem nX0_init : tX0_init.length = 11 := by decide +kernel
theorem okX0_init : tOK RX0 "<init>" cX0_init MT tX0_init := tOK_of (fun j x hj hx => cks_ok qX0_init_0 j x (by omega) (by rw [nX0_init] at hj; omega) hx)
set_option maxRecDepth 100000 in
theorem qX0_begin_0 : cks RX0 "begin" cX0_begin tX0_begin 0 16 [[], [], [111], [], [], [115], [], [], [119], [], [], [125], [], [], [128], []] = true := by decide +kernel
theorem nX0_begin : tX0_begin.length = 16 := by decide +kernel
theorem okX0_begin : tOK RX0 "begin" cX0_begin MT tX0_begin := tOK_of (fun j x hj hx => cks_ok qX0_begin_0 j x (by omega) (by rw [nX0_begin] at hj; omega) hx)
set_option maxRecDepth 100000 in
theorem qX0_addOutcome_0 : cks RX0 "addOutcome" cX0_addOutcome tX0_addOutcome 0 33 [[], [133], [], [119], [], [], [], [137], [], [119], [], [], [], [], [119], [], [], [119], [], [], [125], [], [], [125], [], [], [128], [], [], [], [], [128], []] = true := by decide +kernel
theorem nX0_addOutcome : tX0_addOutcome.length = 33 := by decide +kernel
theorem okX0_addOutcome : tOK RX0 "addOutcome" cX0_addOutcome MT tX0_addOutcome := tOK_of (fun j x hj hx => cks_ok qX0_addOutcome_0 j x (by omega) (by rw [nX0_addOutcome] at hj; omega) hx)
set_option maxRecDepth 100000 in
theorem qX0_become_0 : cks RX0 "become" cX0_become tX0_become 0 25 [[], [], [111], [], [115], [912, 523, 524, 71, 525], [], [], [], [], [119], [], [], [], [133], [], [], [], [137], [], [], [913, 552, 553, 71, 554], [], [], []] = true := by decide +kernel
theorem nX0_become : tX0_become.length = 25 := by decide +kernel
theorem okX0_become : tOK RX0 "become" cX0_become MT tX0_become := tOK_of (fun j x hj hx => cks_ok qX0_become_0 j x (by omega) (by rw [nX0_become] at hj; omega) hx)
set_option maxRecDepth 100000 in
theorem qX0_room_0 : cks RX0 "room" cX0_room tX0_room 0 7 [[], [540, 541, 542, 71, 543], [], [], [], [], []] = true := by decide +kernel
theorem nX0_room : tX0_room.length = 7 := by decide +kernel
theorem okX0_room : tOK RX0 "room" cX0_room MT tX0_room := tOK_of (fun j x hj hx => cks_ok qX0_room_0 j x (by omega) (by rw [nX0_room] at hj; omega) hx)
set_option maxRecDepth 100000 in
theorem qX0_isSingle_0 : cks RX0 "isSingle" cX0_isSingle tX0_isSingle 0 12 [[], [111], [], [], [], [111], [], [], [], [], [], []] = true := by decide +kernel
theorem nX0_isSingle : tX0_isSingle.length = 12 := by decide +kernel
theorem okX0_isSingle : tOK RX0 "isSingle" cX0_isSingle MT tX0_isSingle := tOK_of (fun j x hj hx => cks_ok qX0_isSingle_0 j x (by omega) (by rw [nX0_isSingle] at hj; omega) hx)
set_option maxRecDepth 100000 in
theorem qX0_staysIn_0 : cks RX0 "staysIn" cX0_staysIn tX0_staysIn 0 11 [[], [128], [], [], [], [], [], [], [], [], []] = true := by decide +kernel
theorem nX0_staysIn : tX0_staysIn.length = 11 := by decide +kernel
theorem okX0_staysIn : tOK RX0 "staysIn" cX0_staysIn MT tX0_staysIn := tOK_of (fun j x hj hx => cks_ok qX0_staysIn_0 j x (by omega) (by rw [nX0_staysIn] at hj; omega) hx)
set_option maxRecDepth 100000 in
theorem qX0_mean_0 : cks RX0 "mean" cX0_mean tX0_mean 0 27 [[], [], [], [], [], [], [119], [], [], [], [137], [], [], [], [], [], [133], [], [], [], [], [], [], [], [], [], []] = true := by decide +kernel
theorem nX0_mean : tX0_mean.length = 27 := by decide +kernel
theorem okX0_mean : tOK RX0 "mean" cX0_mean MT tX0_mean := tOK_of (fun j x hj hx => cks_ok qX0_mean_0 j x (by omega) (by rw [nX0_mean] at hj; omega) hx)
set_option maxRecDepth 100000 in
theorem qX0_heaviness_0 : cks RX0 "heaviness" cX0_heaviness tX0_heaviness 0 39 [[], [115], [], [], [119], [], [], [], [], [111], [], [], [], [], [], [], [], [], [540, 541, 542, 71, 543], [], [], [], [], [], [111], [], [], [], [], [], [], [], [], [], [], [], [], [], []] = true := by decide +kernel
theorem nX0_heaviness : tX0_heaviness.length = 39 := by decide +kernel
theorem okX0_heaviness : tOK RX0 "heaviness" cX0_heaviness MT tX0_heaviness := tOK_of (fun j x hj hx => cks_ok qX0_heaviness_0 j x (by omega) (by rw [nX0_heaviness] at hj; omega) hx)
set_option maxRecDepth 100000 in
theorem qX1_init_0 : cks RX1 "<init>" cX1_init tX1_init 0 16 [[], [211, 96, 97], [], [], [], [212, 236], [214], [], [], [157], [215], [], [], [157], [216], []] = true := by decide +kernel
theorem nX1_init : tX1_init.length = 16 := by decide +kernel
theorem okX1_init : tOK RX1 "<init>" cX1_init MT tX1_init := tOK_of (fun j x hj hx => cks_ok qX1_init_0 j x (by omega) (by rw [nX1_init] at hj; omega) hx)
set_option maxRecDepth 100000 in
theorem qX1_open_0 : cks RX1 "open" cX1_open tX1_open 0 45 [[], [638, 576, 82, 577], [], [], [], [], [], [], [219], [], [], [], [], [], [], [215], [], [], [], [], [], [639, 545, 69, 546], [], [], [215], [], [], [219], [], [], [216], [], [219], [], [], [], [], [219], [], [], [219], [], [], [], []] = true := by decide +kernel
theorem nX1_open : tX1_open.length = 45 := by decide +kernel
theorem okX1_open : tOK RX1 "open" cX1_open MT tX1_open := tOK_of (fun j x hj hx => cks_ok qX1_open_0 j x (by omega) (by rw [nX1_open] at hj; omega) hx)
set_option maxRecDepth 100000 in
theorem qX1_write_0 : cks RX1 "write" cX1_write tX1_write 0 54 [[], [214], [], [], [], [659, 660, 83, 661], [], [214], [], [], [], [662], [], [], [], [], [], [120], [], [], [215], [], [134], [], [], [], [], [], [], [], [214], [], [], [], [], [], [], [138], [], [], [], [], [], [], [], [], [214], [], [], [], [219], [], [], []] = true := by decide +kernel
theorem nX1_write : tX1_write.length = 54 := by decide +kernel
theorem okX1_write : tOK RX1 "write" cX1_write MT tX1_write := tOK_of (fun j x hj hx => cks_ok qX1_write_0 j x (by omega) (by rw [nX1_write] at hj; omega) hx)
set_option maxRecDepth 100000 in
theorem qX1_solve_0 : cks RX1 "solve" cX1_solve tX1_solve 0 38 [[], [], [223], [], [], [], [], [219], [], [], [214], [], [], [], [], [], [], [], [], [], [219], [], [], [], [], [], [], [], [], [667, 669, 4, 73, 670], [], [], [], [], [223], [], [], []] = true := by decide +kernel
theorem nX1_solve : tX1_solve.length = 38 := by decide +kernel
theorem okX1_solve : tOK RX1 "solve" cX1_solve MT tX1_solve := tOK_of (fun j x hj hx => cks_ok qX1_solve_0 j x (by omega) (by rw [nX1_solve] at hj; omega) hx)
set_option maxRecDepth 100000 in
theorem qX1_clear_0 : cks RX1 "clear" cX1_clear tX1_clear 0 48 [[], [223], [], [], [], [], [], [214], [], [], [], [], [], [], [], [], [], [219], [], [], [214], [], [], [], [], [], [214], [], [], [], [], [], [], [], [214], [], [], [], [], [], [], [], [223], [], [], [], [], []] = true := by decide +kernel
theorem nX1_clear : tX1_clear.length = 48 := by decide +kernel
theorem okX1_clear : tOK RX1 "clear" cX1_clear MT tX1_clear := tOK_of (fun j x hj hx => cks_ok qX1_clear_0 j x (by omega) (by rw [nX1_clear] at hj; omega) hx)
set_option maxRecDepth 100000 in
theorem qX1_upperOf_0 : cks RX1 "upperOf" cX1_upperOf tX1_upperOf 0 8 [[], [214], [], [], [], [219], [], []] = true := by decide +kernel
theorem nX1_upperOf : tX1_upperOf.length = 8 := by decide +kernel
theorem okX1_upperOf : tOK RX1 "upperOf" cX1_upperOf MT tX1_upperOf := tOK_of (fun j x hj hx => cks_ok qX1_upperOf_0 j x (by omega) (by rw [nX1_upperOf] at hj; omega) hx)
set_option maxRecDepth 100000 in
theorem qX2_init_0 : cks RX2 "<init>" cX2_init tX2_init 0 13 [[], [301, 96, 97], [], [], [157], [305], [], [], [302], [], [], [303], []] = true := by decide +kernel
theorem nX2_init : tX2_init.length = 13 := by decide +kernel
theorem okX2_init : tOK RX2 "<init>" cX2_init MT tX2_init := tOK_of (fun j x hj hx => cks_ok qX2_init_0 j x (by omega) (by rw [nX2_init] at hj; omega) hx)
set_option maxRecDepth 100000 in
theorem qX2_settle_0 : cks RX2 "settle" cX2_settle tX2_settle 0 60 [[], [304], [], [302], [174], [], [], [], [], [302], [174], [304], [], [305], [], [700, 701, 83, 702], [], [302], [167], [], [], [], [], [], [], [], [], [], [], [], [], [], [], [], [], [302], [163], [], [], [], [703, 545, 69, 546], [], [], [], [], [704, 706, 7, 75, 707], [], [], [305], [], [], [], [], [], [], [], [], [], [], []] = true := by decide +kernel
set_option maxRecDepth 100000 in
theorem qX2_settle_1 : cks RX2 "settle" cX2_settle tX2_settle 60 12 [[], [], [], [], [], [], [], [], [], [], [], []] = true := by decide +kernel
theorem nX2_settle : tX2_settle.length = 72 := by decide +kernel
theorem okX2_settle : tOK RX2 "settle" cX2_settle MT tX2_settle := tOK_of (fun j x hj hx => if h0 : j < 60 then cks_ok qX2_settle_0 j x (by omega) (by omega) hx else cks_ok qX2_settle_1 j x (by omega) (by rw [nX2_settle] at hj; omega) hx)
set_option maxRecDepth 100000 in
theorem qX2_tightActInto_0 : cks RX2 "tightActInto" cX2_tightActInto tX2_tightActInto 0 30 [[], [], [], [], [302], [180], [], [], [], [], [302], [], [], [708, 519, 520, 70, 521], [129], [], [], [], [], [303], [], [], [709, 710, 711, 72, 712], [], [], [], [], [], [], []] = true := by decide +kernel
theorem nX2_tightActInto : tX2_tightActInto.length = 30 := by decide +kernel
theorem okX2_tightActInto : tOK RX2 "tightActInto" cX2_tightActInto MT tX2_tightActInto := tOK_of (fun j x hj hx => cks_ok qX2_tightActInto_0 j x (by omega) (by rw [nX2_tightActInto] at hj; omega) hx)
set_option maxRecDepth 100000 in
theorem qX2_pick_0 : cks RX2 "pick" cX2_pick tX2_pick 0 36 [[], [302], [167], [], [703, 545, 69, 546], [], [], [], [], [303], [269], [], [703, 545, 69, 546], [], [], [302], [], [717, 511, 512, 70, 513], [], [], [], [], [], [], [], [], [], [], [302], [718, 568, 569, 70, 570], [], [], [], [719, 721, 8, 75, 722], [704, 706, 7, 75, 707], []] = true := by decide +kernel
theorem nX2_pick : tX2_pick.length = 36 := by decide +kernel
theorem okX2_pick : tOK RX2 "pick" cX2_pick MT tX2_pick := tOK_of (fun j x hj hx => cks_ok qX2_pick_0 j x (by omega) (by rw [nX2_pick] at hj; omega) hx)
set_option maxRecDepth 100000 in
theorem qX2_nearerThan_0 : cks RX2 "nearerThan" cX2_nearerThan tX2_nearerThan 0 36 [[], [], [], [], [], [], [302], [163], [], [], [], [303], [269], [], [703, 545, 69, 546], [], [], [305], [], [], [], [305], [], [], [], [], [], [], [], [], [], [], [], [], [], []] = true := by decide +kernel
theorem nX2_nearerThan : tX2_nearerThan.length = 36 := by decide +kernel
theorem okX2_nearerThan : tOK RX2 "nearerThan" cX2_nearerThan MT tX2_nearerThan := tOK_of (fun j x hj hx => cks_ok qX2_nearerThan_0 j x (by omega) (by rw [nX2_nearerThan] at hj; omega) hx)
set_option maxRecDepth 100000 in
theorem qX3_init_0 : cks RX3 "<init>" cX3_init tX3_init 0 18 [[], [384, 96, 97], [], [], [157], [386], [], [], [157], [387], [], [], [157], [389], [], [], [385], []] = true := by decide +kernel
theorem nX3_init : tX3_init.length = 18 := by decide +kernel
theorem okX3_init : tOK RX3 "<init>" cX3_init MT tX3_init := tOK_of (fun j x hj hx => cks_ok qX3_init_0 j x (by omega) (by rw [nX3_init] at hj; omega) hx)
set_option maxRecDepth 100000 in
theorem qX3_settle_0 : cks RX3 "settle" cX3_settle tX3_settle 0 37 [[], [388], [], [385], [177], [], [], [], [], [385], [177], [388], [], [386], [], [385], [820, 568, 569, 70, 570], [821, 701, 83, 702], [], [], [], [], [], [822], [], [], [], [], [823, 825, 13, 78, 826], [], [829, 831, 14, 78, 832], [], [], [], [], [833, 835, 15, 78, 836], []] = true := by decide +kernel
theorem nX3_settle : tX3_settle.length = 37 := by decide +kernel
theorem okX3_settle : tOK RX3 "settle" cX3_settle MT tX3_settle := tOK_of (fun j x hj hx => cks_ok qX3_settle_0 j x (by omega) (by rw [nX3_settle] at hj; omega) hx)
set_option maxRecDepth 100000 in
theorem qX3_findPaths_0 : cks RX3 "findPaths" cX3_findPaths tX3_findPaths 0 60 [[], [], [], [], [385], [164], [], [], [385], [], [], [386], [], [], [827, 770, 771, 70, 772], [], [], [387], [], [], [], [], [], [], [], [], [], [], [], [], [], [], [], [], [], [385], [164], [], [], [], [], [], [385], [164], [], [], [387], [], [], [], [], [387], [], [], [], [828, 545, 69, 546], [], [], [387], []] = true := by decide +kernel
set_option maxRecDepth 100000 in
theorem qX3_findPaths_1 : cks RX3 "findPaths" cX3_findPaths tX3_findPaths 60 10 [[], [], [], [], [], [], [], [], [], []] = true := by decide +kernel
theorem nX3_findPaths : tX3_findPaths.length = 70 := by decide +kernel
theorem okX3_findPaths : tOK RX3 "findPaths" cX3_findPaths MT tX3_findPaths := tOK_of (fun j x hj hx => if h0 : j < 60 then cks_ok qX3_findPaths_0 j x (by omega) (by omega) hx else cks_ok qX3_findPaths_1 j x (by omega) (by rw [nX3_findPaths] at hj; omega) hx)
set_option maxRecDepth 100000 in
theorem qX3_narrow_0 : cks RX3 "narrow" cX3_narrow tX3_narrow 0 60 [[], [], [], [], [], [], [385], [164], [], [], [386], [], [], [], [387], [], [], [], [], [], [], [], [], [385], [164], [], [], [], [387], [], [], [], [828, 545, 69, 546], [], [], [], [], [], [], [], [], [], [], [], [], [], [], [], [386], [], [], [], [], [], [], [], [], [], [386], []] = true := by decide +kernel
set_option maxRecDepth 100000 in
theorem qX3_narrow_1 : cks RX3 "narrow" cX3_narrow tX3_narrow 60 6 [[], [], [], [], [], []] = true := by decide +kernel
theorem nX3_narrow : tX3_narrow.length = 66 := by decide +kernel
theorem okX3_narrow : tOK RX3 "narrow" cX3_narrow MT tX3_narrow := tOK_of (fun j x hj hx => if h0 : j < 60 then cks_ok qX3_narrow_0 j x (by omega) (by omega) hx else cks_ok qX3_narrow_1 j x (by omega) (by rw [nX3_narrow] at hj; omega) hx)
set_option maxRecDepth 100000 in
theorem qX3_gather_0 : cks RX3 "gather" cX3_gather tX3_gather 0 50 [[], [], [391], [], [], [], [], [385], [164], [], [], [386], [], [], [], [], [], [], [], [], [], [], [], [], [], [], [386], [], [], [], [], [], [], [389], [], [391], [], [386], [], [], [], [], [], [391], [], [], [391], [], [], []] = true := by decide +kernel
theorem nX3_gather : tX3_gather.length = 50 := by decide +kernel
theorem okX3_gather : tOK RX3 "gather" cX3_gather MT tX3_gather := tOK_of (fun j x hj hx => cks_ok qX3_gather_0 j x (by omega) (by rw [nX3_gather] at hj; omega) hx)
set_option maxRecDepth 100000 in
theorem qX3_stayingActs_0 : cks RX3 "stayingActs" cX3_stayingActs tX3_stayingActs 0 42 [[], [], [], [], [], [], [385], [164], [], [], [], [], [], [828, 545, 69, 546], [], [], [], [385], [186], [], [], [], [], [], [385], [], [], [841, 519, 520, 70, 521], [], [842, 627, 628, 71, 629], [], [], [], [], [], [], [], [], [], [], [], []] = true := by decide +kernel
theorem nX3_stayingActs : tX3_stayingActs.length = 42 := by decide +kernel
theorem okX3_stayingActs : tOK RX3 "stayingActs" cX3_stayingActs MT tX3_stayingActs := tOK_of (fun j x hj hx => cks_ok qX3_stayingActs_0 j x (by omega) (by rw [nX3_stayingActs] at hj; omega) hx)
set_option maxRecDepth 100000 in
theorem qX4_init_0 : cks RX4 "<init>" cX4_init tX4_init 0 18 [[], [321, 96, 97], [], [], [], [322, 236], [326], [], [], [236], [328], [], [], [323], [], [], [324], []] = true := by decide +kernel
theorem nX4_init : tX4_init.length = 18 := by decide +kernel
theorem okX4_init : tOK RX4 "<init>" cX4_init MT tX4_init := tOK_of (fun j x hj hx => cks_ok qX4_init_0 j x (by omega) (by rw [nX4_init] at hj; omega) hx)
set_option maxRecDepth 100000 in
theorem qX4_settle_0 : cks RX4 "settle" cX4_settle tX4_settle 0 60 [[], [325], [], [323], [175], [], [], [], [], [323], [175], [325], [], [328], [], [], [], [], [], [], [], [323], [162], [], [], [326], [], [], [], [], [323], [169], [], [742, 545, 69, 546], [], [], [], [], [], [], [], [], [], [], [], [], [], [328], [], [743], [], [328], [], [], [], [], [], [], [], []] = true := by decide +kernel
set_option maxRecDepth 100000 in
theorem qX4_settle_1 : cks RX4 "settle" cX4_settle tX4_settle 60 36 [[], [], [323], [162], [], [], [326], [], [], [], [], [323], [169], [], [742, 545, 69, 546], [], [], [328], [], [], [], [], [], [], [326], [], [], [], [], [744, 746, 9, 76, 747], [], [], [], [], [], []] = true := by decide +kernel
theorem nX4_settle : tX4_settle.length = 96 := by decide +kernel
theorem okX4_settle : tOK RX4 "settle" cX4_settle MT tX4_settle := tOK_of (fun j x hj hx => if h0 : j < 60 then cks_ok qX4_settle_0 j x (by omega) (by omega) hx else cks_ok qX4_settle_1 j x (by omega) (by rw [nX4_settle] at hj; omega) hx)
set_option maxRecDepth 100000 in
theorem qX4_best_0 : cks RX4 "best" cX4_best tX4_best 0 45 [[], [323], [], [], [324], [748, 621, 622, 70, 623], [], [], [], [], [], [], [], [323], [182], [], [], [], [], [323], [], [], [749, 519, 520, 70, 521], [], [750, 652, 653, 71, 654], [], [], [], [], [], [], [], [], [], [], [], [], [], [], [], [], [], [], [], []] = true := by decide +kernel
theorem nX4_best : tX4_best.length = 45 := by decide +kernel
theorem okX4_best : tOK RX4 "best" cX4_best MT tX4_best := tOK_of (fun j x hj hx => cks_ok qX4_best_0 j x (by omega) (by rw [nX4_best] at hj; omega) hx)
set_option maxRecDepth 100000 in
theorem qX5_init_0 : cks RX5 "<init>" cX5_init tX5_init 0 25 [[], [346, 96, 97], [], [347, 207, 73], [], [348, 209, 73, 210], [354], [], [], [236], [356], [], [], [351], [], [], [352], [], [349, 238, 74], [], [], [], [350, 240, 74, 241], [353], []] = true := by decide +kernel
theorem nX5_init : tX5_init.length = 25 := by decide +kernel
theorem okX5_init : tOK RX5 "<init>" cX5_init MT tX5_init := tOK_of (fun j x hj hx => cks_ok qX5_init_0 j x (by omega) (by rw [nX5_init] at hj; omega) hx)
set_option maxRecDepth 100000 in
theorem qX5_settle_0 : cks RX5 "settle" cX5_settle tX5_settle 0 60 [[], [355], [], [351], [176], [], [], [], [], [351], [176], [355], [], [352], [782, 607, 608, 72, 609], [], [], [351], [783, 784, 785, 70, 786], [], [], [354], [], [352], [266], [], [351], [170], [], [], [], [787, 635, 636, 73, 637], [], [], [], [], [360], [], [360], [], [], [], [353], [], [352], [266], [788, 612, 613, 74, 614], [], [], [], [], [], [], [789], [], [], [], [], [790, 792, 10, 77, 793], []] = true := by decide +kernel
set_option maxRecDepth 100000 in
theorem qX5_settle_1 : cks RX5 "settle" cX5_settle tX5_settle 60 5 [[799, 801, 11, 77, 802], [], [], [], []] = true := by decide +kernel
theorem nX5_settle : tX5_settle.length = 65 := by decide +kernel
theorem okX5_settle : tOK RX5 "settle" cX5_settle MT tX5_settle := tOK_of (fun j x hj hx => if h0 : j < 60 then cks_ok qX5_settle_0 j x (by omega) (by omega) hx else cks_ok qX5_settle_1 j x (by omega) (by rw [nX5_settle] at hj; omega) hx)
end
section
/-! CERTIFICATES (by program: wip/whole/gen_certs.py) -/
set_option maxRecDepth 100000 in
theorem qX5_evaluate_0 : cks RX5 "evaluate" cX5_evaluate tX5_evaluate 0 60 [[], [], [], [], [354], [220], [], [], [354], [217], [], [], [], [], [351], [], [], [353], [246], [], [], [794, 519, 520, 70, 521], [], [], [354], [], [], [], [], [116], [], [], [795, 656, 657, 73, 658], [], [], [], [354], [796, 664, 665, 73, 666], [], [], [354], [222], [358], [], [356], [], [797, 660, 83, 661], [], [], [], [], [354], [220], [], [], [356], [], [354], [217], []] = true := by decide +kernel
set_option maxRecDepth 100000 in
theorem qX5_evaluate_1 : cks RX5 "evaluate" cX5_evaluate tX5_evaluate 60 9 [[], [], [354], [], [798, 672, 673, 73, 674], [], [], [], []] = true := by decide +kernel
theorem nX5_evaluate : tX5_evaluate.length = 69 := by decide +kernel
theorem okX5_evaluate : tOK RX5 "evaluate" cX5_evaluate MT tX5_evaluate := tOK_of (fun j x hj hx => if h0 : j < 60 then cks_ok qX5_evaluate_0 j x (by omega) (by omega) hx else cks_ok qX5_evaluate_1 j x (by omega) (by rw [nX5_evaluate] at hj; omega) hx)
set_option maxRecDepth 100000 in
theorem qX5_improve_0 : cks RX5 "improve" cX5_improve tX5_improve 0 23 [[], [], [], [], [], [], [354], [220], [], [], [], [], [354], [217], [], [], [803, 805, 12, 77, 806], [], [], [], [], [], []] = true := by decide +kernel
theorem nX5_improve : tX5_improve.length = 23 := by decide +kernel
theorem okX5_improve : tOK RX5 "improve" cX5_improve MT tX5_improve := tOK_of (fun j x hj hx => cks_ok qX5_improve_0 j x (by omega) (by rw [nX5_improve] at hj; omega) hx)
set_option maxRecDepth 100000 in
theorem qX5_improveState_0 : cks RX5 "improveState" cX5_improveState tX5_improveState 0 60 [[], [353], [246], [], [], [], [807], [], [356], [], [], [], [], [], [], [], [], [351], [185], [], [], [], [], [351], [], [], [794, 519, 520, 70, 521], [], [], [], [116], [], [], [], [358], [], [], [], [356], [808, 652, 653, 71, 654], [], [], [], [], [352], [266], [809, 627, 628, 71, 629], [], [], [], [], [], [], [], [], [353], [246], [], [], []] = true := by decide +kernel
set_option maxRecDepth 100000 in
theorem qX5_improveState_1 : cks RX5 "improveState" cX5_improveState tX5_improveState 60 13 [[], [], [], [353], [246], [], [], [], [], [], [], [], []] = true := by decide +kernel
theorem nX5_improveState : tX5_improveState.length = 73 := by decide +kernel
theorem okX5_improveState : tOK RX5 "improveState" cX5_improveState MT tX5_improveState := tOK_of (fun j x hj hx => if h0 : j < 60 then cks_ok qX5_improveState_0 j x (by omega) (by omega) hx else cks_ok qX5_improveState_1 j x (by omega) (by rw [nX5_improveState] at hj; omega) hx)
set_option maxRecDepth 100000 in
theorem qX6_init_0 : cks RX6 "<init>" cX6_init tX6_init 0 15 [[], [439, 96, 97], [], [], [442], [], [440, 106, 71], [], [441, 108, 71, 109], [448], [], [], [236], [450], []] = true := by decide +kernel
theorem nX6_init : tX6_init.length = 15 := by decide +kernel
theorem okX6_init : tOK RX6 "<init>" cX6_init MT tX6_init := tOK_of (fun j x hj hx => cks_ok qX6_init_0 j x (by omega) (by rw [nX6_init] at hj; omega) hx)
set_option maxRecDepth 100000 in
theorem qX6_isRow_0 : cks RX6 "isRow" cX6_isRow tX6_isRow 0 12 [[], [442], [], [], [], [442], [], [], [], [], [], []] = true := by decide +kernel
theorem nX6_isRow : tX6_isRow.length = 12 := by decide +kernel
theorem okX6_isRow : tOK RX6 "isRow" cX6_isRow MT tX6_isRow := tOK_of (fun j x hj hx => cks_ok qX6_isRow_0 j x (by omega) (by rw [nX6_isRow] at hj; omega) hx)
set_option maxRecDepth 100000 in
theorem qX6_hasPlaces_0 : cks RX6 "hasPlaces" cX6_hasPlaces tX6_hasPlaces 0 14 [[], [], [], [], [], [], [446], [], [], [], [], [], [], []] = true := by decide +kernel
theorem nX6_hasPlaces : tX6_hasPlaces.length = 14 := by decide +kernel
theorem okX6_hasPlaces : tOK RX6 "hasPlaces" cX6_hasPlaces MT tX6_hasPlaces := tOK_of (fun j x hj hx => cks_ok qX6_hasPlaces_0 j x (by omega) (by rw [nX6_hasPlaces] at hj; omega) hx)
set_option maxRecDepth 100000 in
theorem qX6_holdAct_0 : cks RX6 "holdAct" cX6_holdAct tX6_holdAct 0 8 [[], [], [442], [], [448], [], [908, 909, 910, 71, 911], []] = true := by decide +kernel
theorem nX6_holdAct : tX6_holdAct.length = 8 := by decide +kernel
theorem okX6_holdAct : tOK RX6 "holdAct" cX6_holdAct MT tX6_holdAct := tOK_of (fun j x hj hx => cks_ok qX6_holdAct_0 j x (by omega) (by rw [nX6_holdAct] at hj; omega) hx)
set_option maxRecDepth 100000 in
theorem qX6_holdNumber_0 : cks RX6 "holdNumber" cX6_holdNumber tX6_holdNumber 0 7 [[], [], [442], [], [], [444], []] = true := by decide +kernel
theorem nX6_holdNumber : tX6_holdNumber.length = 7 := by decide +kernel
theorem okX6_holdNumber : tOK RX6 "holdNumber" cX6_holdNumber MT tX6_holdNumber := tOK_of (fun j x hj hx => cks_ok qX6_holdNumber_0 j x (by omega) (by rw [nX6_holdNumber] at hj; omega) hx)
set_option maxRecDepth 100000 in
theorem qX6_holdParts_0 : cks RX6 "holdParts" cX6_holdParts tX6_holdParts 0 23 [[], [], [], [123], [922, 923, 924, 80, 925], [], [], [], [], [123], [], [], [450], [], [], [140], [], [], [], [], [], [], []] = true := by decide +kernel
theorem nX6_holdParts : tX6_holdParts.length = 23 := by decide +kernel
theorem okX6_holdParts : tOK RX6 "holdParts" cX6_holdParts MT tX6_holdParts := tOK_of (fun j x hj hx => cks_ok qX6_holdParts_0 j x (by omega) (by rw [nX6_holdParts] at hj; omega) hx)
set_option maxRecDepth 100000 in
theorem qX6_beginRow_0 : cks RX6 "beginRow" cX6_beginRow tX6_beginRow 0 11 [[], [], [442], [], [], [446], [], [450], [], [926, 660, 83, 661], []] = true := by decide +kernel
theorem nX6_beginRow : tX6_beginRow.length = 11 := by decide +kernel
theorem okX6_beginRow : tOK RX6 "beginRow" cX6_beginRow MT tX6_beginRow := tOK_of (fun j x hj hx => cks_ok qX6_beginRow_0 j x (by omega) (by rw [nX6_beginRow] at hj; omega) hx)
set_option maxRecDepth 100000 in
theorem qX7_init_0 : cks RX7 "<init>" cX7_init tX7_init 0 18 [[], [411, 96, 97], [], [], [157], [413], [], [], [236], [414], [], [], [157], [416], [], [], [412], []] = true := by decide +kernel
theorem nX7_init : tX7_init.length = 18 := by decide +kernel
theorem okX7_init : tOK RX7 "<init>" cX7_init MT tX7_init := tOK_of (fun j x hj hx => cks_ok qX7_init_0 j x (by omega) (by rw [nX7_init] at hj; omega) hx)
set_option maxRecDepth 100000 in
theorem qX7_settle_0 : cks RX7 "settle" cX7_settle tX7_settle 0 58 [[], [415], [], [412], [178], [], [], [], [], [412], [178], [415], [], [], [], [], [412], [160], [], [], [416], [], [], [412], [168], [], [851, 545, 69, 546], [], [], [], [], [], [], [], [], [], [418], [], [], [], [], [], [], [], [], [418], [], [], [], [418], [], [], [852, 854, 16, 79, 855], [], [861, 863, 18, 79, 864], [], [], []] = true := by decide +kernel
theorem nX7_settle : tX7_settle.length = 58 := by decide +kernel
theorem okX7_settle : tOK RX7 "settle" cX7_settle MT tX7_settle := tOK_of (fun j x hj hx => cks_ok qX7_settle_0 j x (by omega) (by rw [nX7_settle] at hj; omega) hx)
set_option maxRecDepth 100000 in
theorem qX7_readFaces_0 : cks RX7 "readFaces" cX7_readFaces tX7_readFaces 0 36 [[], [], [], [], [412], [160], [], [], [], [], [], [412], [181], [], [], [], [], [414], [], [], [], [], [], [], [], [412], [], [], [856, 519, 520, 70, 521], [857, 859, 17, 79, 860], [], [], [], [], [], []] = true := by decide +kernel
theorem nX7_readFaces : tX7_readFaces.length = 36 := by decide +kernel
theorem okX7_readFaces : tOK RX7 "readFaces" cX7_readFaces MT tX7_readFaces := tOK_of (fun j x hj hx => cks_ok qX7_readFaces_0 j x (by omega) (by rw [nX7_readFaces] at hj; omega) hx)
set_option maxRecDepth 100000 in
theorem qX7_faceOf_0 : cks RX7 "faceOf" cX7_faceOf tX7_faceOf 0 48 [[], [112], [], [], [], [], [], [], [], [], [], [], [117], [], [], [], [], [], [], [], [], [], [], [], [121], [], [], [], [139], [], [], [], [], [], [416], [], [135], [], [], [], [], [], [], [], [], [], [], []] = true := by decide +kernel
theorem nX7_faceOf : tX7_faceOf.length = 48 := by decide +kernel
theorem okX7_faceOf : tOK RX7 "faceOf" cX7_faceOf MT tX7_faceOf := tOK_of (fun j x hj hx => cks_ok qX7_faceOf_0 j x (by omega) (by rw [nX7_faceOf] at hj; omega) hx)
set_option maxRecDepth 100000 in
theorem qX7_split_0 : cks RX7 "split" cX7_split tX7_split 0 60 [[], [], [418], [], [], [], [], [412], [160], [], [], [413], [], [], [], [], [], [], [], [], [], [413], [], [], [], [], [416], [], [], [], [416], [], [], [], [], [], [], [865, 867, 19, 79, 868], [], [], [], [], [865, 867, 19, 79, 868], [], [], [413], [], [], [413], [], [], [], [], [], [], [413], [], [], [], []] = true := by decide +kernel
set_option maxRecDepth 100000 in
theorem qX7_split_1 : cks RX7 "split" cX7_split tX7_split 60 22 [[413], [], [], [418], [], [], [], [418], [], [], [418], [], [], [], [413], [], [], [416], [], [], [873, 875, 874, 84], []] = true := by decide +kernel
theorem nX7_split : tX7_split.length = 82 := by decide +kernel
theorem okX7_split : tOK RX7 "split" cX7_split MT tX7_split := tOK_of (fun j x hj hx => if h0 : j < 60 then cks_ok qX7_split_0 j x (by omega) (by omega) hx else cks_ok qX7_split_1 j x (by omega) (by rw [nX7_split] at hj; omega) hx)
set_option maxRecDepth 100000 in
theorem qX7_covers_0 : cks RX7 "covers" cX7_covers tX7_covers 0 27 [[], [], [], [], [412], [181], [], [], [], [], [], [], [414], [], [], [], [], [], [], [869, 871, 20, 79, 872], [], [], [], [], [], [], []] = true := by decide +kernel
theorem nX7_covers : tX7_covers.length = 27 := by decide +kernel
theorem okX7_covers : tOK RX7 "covers" cX7_covers MT tX7_covers := tOK_of (fun j x hj hx => cks_ok qX7_covers_0 j x (by omega) (by rw [nX7_covers] at hj; omega) hx)
set_option maxRecDepth 100000 in
theorem qX7_hasFace_0 : cks RX7 "hasFace" cX7_hasFace tX7_hasFace 0 26 [[], [], [], [], [412], [181], [], [], [], [], [414], [], [], [], [], [], [], [], [], [], [], [], [], [], [], []] = true := by decide +kernel
theorem nX7_hasFace : tX7_hasFace.length = 26 := by decide +kernel
theorem okX7_hasFace : tOK RX7 "hasFace" cX7_hasFace MT tX7_hasFace := tOK_of (fun j x hj hx => cks_ok qX7_hasFace_0 j x (by omega) (by rw [nX7_hasFace] at hj; omega) hx)
set_option maxRecDepth 100000 in
theorem qX8_init_0 : cks RX8 "<init>" cX8_init tX8_init 0 25 [[], [205, 96, 97], [], [206, 207, 73], [], [208, 209, 73, 210], [258], [], [], [236], [261], [], [], [255], [], [], [256], [], [237, 238, 74], [], [], [], [239, 240, 74, 241], [257], []] = true := by decide +kernel
theorem nX8_init : tX8_init.length = 25 := by decide +kernel
theorem okX8_init : tOK RX8 "<init>" cX8_init MT tX8_init := tOK_of (fun j x hj hx => cks_ok qX8_init_0 j x (by omega) (by rw [nX8_init] at hj; omega) hx)
set_option maxRecDepth 100000 in
theorem qX8_sort_0 : cks RX8 "sort" cX8_sort tX8_sort 0 53 [[], [259], [], [255], [173], [], [], [], [], [255], [173], [259], [], [255], [610, 568, 569, 70, 570], [], [], [], [], [], [265], [], [], [], [], [], [], [265], [], [], [], [265], [], [], [], [257], [], [265], [611, 612, 613, 74, 614], [265], [], [], [], [], [], [257], [], [611, 612, 613, 74, 614], [], [], [], [268], []] = true := by decide +kernel
theorem nX8_sort : tX8_sort.length = 53 := by decide +kernel
theorem okX8_sort : tOK RX8 "sort" cX8_sort MT tX8_sort := tOK_of (fun j x hj hx => cks_ok qX8_sort_0 j x (by omega) (by rw [nX8_sort] at hj; omega) hx)
set_option maxRecDepth 100000 in
theorem qX8_settle_0 : cks RX8 "settle" cX8_settle tX8_settle 0 57 [[], [260], [], [255], [173], [], [], [], [], [255], [173], [260], [], [], [258], [], [255], [610, 568, 569, 70, 570], [], [265], [], [], [], [], [268], [], [], [], [634, 635, 636, 73, 637], [271], [], [271], [], [], [], [], [640], [], [], [], [], [641, 643, 2, 72, 644], [], [], [675, 677, 5, 72, 678], [], [], [], [675, 677, 5, 72, 678], [], [], [], [], [], [], [], []] = true := by decide +kernel
theorem nX8_settle : tX8_settle.length = 57 := by decide +kernel
theorem okX8_settle : tOK RX8 "settle" cX8_settle MT tX8_settle := tOK_of (fun j x hj hx => cks_ok qX8_settle_0 j x (by omega) (by rw [nX8_settle] at hj; omega) hx)
set_option maxRecDepth 100000 in
theorem qX8_evaluate_0 : cks RX8 "evaluate" cX8_evaluate tX8_evaluate 0 60 [[], [], [645, 647, 3, 72, 648], [], [], [], [], [258], [221], [], [], [258], [218], [], [], [], [], [255], [], [], [257], [247], [], [], [650, 519, 520, 70, 521], [], [], [258], [], [], [], [], [261], [651, 652, 653, 71, 654], [655, 656, 657, 73, 658], [], [], [], [258], [663, 664, 665, 73, 666], [], [], [258], [224], [263], [], [], [263], [645, 647, 3, 72, 648], [], [], [], [], [258], [221], [], [], [261], [], [258]] = true := by decide +kernel
set_option maxRecDepth 100000 in
theorem qX8_evaluate_1 : cks RX8 "evaluate" cX8_evaluate tX8_evaluate 60 11 [[218], [], [], [], [258], [], [671, 672, 673, 73, 674], [], [], [], []] = true := by decide +kernel
theorem nX8_evaluate : tX8_evaluate.length = 71 := by decide +kernel
theorem okX8_evaluate : tOK RX8 "evaluate" cX8_evaluate MT tX8_evaluate := tOK_of (fun j x hj hx => if h0 : j < 60 then cks_ok qX8_evaluate_0 j x (by omega) (by omega) hx else cks_ok qX8_evaluate_1 j x (by omega) (by rw [nX8_evaluate] at hj; omega) hx)
set_option maxRecDepth 100000 in
theorem qX8_setSureTo_0 : cks RX8 "setSureTo" cX8_setSureTo tX8_setSureTo 0 22 [[], [], [], [], [255], [165], [], [], [261], [], [], [265], [], [649, 545, 69, 546], [], [], [], [], [], [], [], []] = true := by decide +kernel
theorem nX8_setSureTo : tX8_setSureTo.length = 22 := by decide +kernel
theorem okX8_setSureTo : tOK RX8 "setSureTo" cX8_setSureTo MT tX8_setSureTo := tOK_of (fun j x hj hx => cks_ok qX8_setSureTo_0 j x (by omega) (by rw [nX8_setSureTo] at hj; omega) hx)
set_option maxRecDepth 100000 in
theorem qX8_improve_0 : cks RX8 "improve" cX8_improve tX8_improve 0 34 [[], [], [], [], [], [], [258], [221], [], [], [258], [218], [], [], [], [], [255], [], [], [256], [679, 621, 622, 70, 623], [], [], [], [], [], [], [680, 682, 6, 72, 683], [], [], [], [], [], []] = true := by decide +kernel
theorem nX8_improve : tX8_improve.length = 34 := by decide +kernel
theorem okX8_improve : tOK RX8 "improve" cX8_improve MT tX8_improve := tOK_of (fun j x hj hx => cks_ok qX8_improve_0 j x (by omega) (by rw [nX8_improve] at hj; omega) hx)
set_option maxRecDepth 100000 in
theorem qX8_improveState_0 : cks RX8 "improveState" cX8_improveState tX8_improveState 0 60 [[], [257], [247], [], [], [], [684], [], [261], [], [], [], [], [], [], [], [], [255], [187], [], [], [], [], [255], [], [], [650, 519, 520, 70, 521], [], [261], [651, 652, 653, 71, 654], [], [], [], [], [], [], [], [], [], [], [], [], [], [], [], [257], [247], [], [], [], [], [], [], [257], [247], [], [], [], [], []] = true := by decide +kernel
set_option maxRecDepth 100000 in
theorem qX8_improveState_1 : cks RX8 "improveState" cX8_improveState tX8_improveState 60 3 [[], [], []] = true := by decide +kernel
theorem nX8_improveState : tX8_improveState.length = 63 := by decide +kernel
theorem okX8_improveState : tOK RX8 "improveState" cX8_improveState MT tX8_improveState := tOK_of (fun j x hj hx => if h0 : j < 60 then cks_ok qX8_improveState_0 j x (by omega) (by omega) hx else cks_ok qX8_improveState_1 j x (by omega) (by rw [nX8_improveState] at hj; omega) hx)
set_option maxRecDepth 100000 in
theorem qX8_isTight_0 : cks RX8 "isTight" cX8_isTight tX8_isTight 0 20 [[], [255], [], [], [650, 519, 520, 70, 521], [], [261], [651, 652, 653, 71, 654], [684], [], [261], [], [], [], [], [], [], [], [], []] = true := by decide +kernel
theorem nX8_isTight : tX8_isTight.length = 20 := by decide +kernel
theorem okX8_isTight : tOK RX8 "isTight" cX8_isTight MT tX8_isTight := tOK_of (fun j x hj hx => cks_ok qX8_isTight_0 j x (by omega) (by rw [nX8_isTight] at hj; omega) hx)
set_option maxRecDepth 100000 in
theorem qX9_init_0 : cks RX9 "<init>" cX9_init tX9_init 0 13 [[], [242, 96, 97], [], [], [157], [245], [], [], [243], [], [], [244], []] = true := by decide +kernel
theorem nX9_init : tX9_init.length = 13 := by decide +kernel
theorem okX9_init : tOK RX9 "<init>" cX9_init MT tX9_init := tOK_of (fun j x hj hx => cks_ok qX9_init_0 j x (by omega) (by rw [nX9_init] at hj; omega) hx)
set_option maxRecDepth 100000 in
theorem qX9_grow_0 : cks RX9 "grow" cX9_grow tX9_grow 0 53 [[], [243], [166], [], [], [], [], [], [], [], [], [], [], [], [], [], [], [], [], [243], [161], [], [], [], [], [615, 545, 69, 546], [], [], [], [], [], [616, 618, 1, 74, 619], [], [], [], [], [], [], [], [], [], [], [], [], [], [], [], [], [], [], [], [], []] = true := by decide +kernel
theorem nX9_grow : tX9_grow.length = 53 := by decide +kernel
theorem okX9_grow : tOK RX9 "grow" cX9_grow MT tX9_grow := tOK_of (fun j x hj hx => cks_ok qX9_grow_0 j x (by omega) (by rw [nX9_grow] at hj; omega) hx)
set_option maxRecDepth 100000 in
theorem qX9_join_0 : cks RX9 "join" cX9_join tX9_join 0 60 [[], [243], [], [], [244], [620, 621, 622, 70, 623], [], [], [245], [], [], [], [], [], [], [], [243], [183], [], [], [], [], [243], [], [], [625, 519, 520, 70, 521], [], [], [], [626, 627, 628, 71, 629], [], [], [130], [], [], [], [], [], [], [], [], [], [], [], [], [245], [], [], [], [], [], [], [], [], [], [], [], [], [], [243]] = true := by decide +kernel
set_option maxRecDepth 100000 in
theorem qX9_join_1 : cks RX9 "join" cX9_join tX9_join 60 8 [[183], [], [], [], [], [], [], []] = true := by decide +kernel
theorem nX9_join : tX9_join.length = 68 := by decide +kernel
theorem okX9_join : tOK RX9 "join" cX9_join MT tX9_join := tOK_of (fun j x hj hx => if h0 : j < 60 then cks_ok qX9_join_0 j x (by omega) (by omega) hx else cks_ok qX9_join_1 j x (by omega) (by rw [nX9_join] at hj; omega) hx)
set_option maxRecDepth 100000 in
theorem qX10_init_0 : cks RX10 "<init>" cX10_init tX10_init 0 28 [[], [103, 96, 97], [], [], [172], [], [], [157], [179], [], [], [104], [188], [], [], [], [], [], [], [188], [], [104, 106, 71], [], [107, 108, 71, 109], [], [], [], []] = true := by decide +kernel
theorem nX10_init : tX10_init.length = 28 := by decide +kernel
theorem okX10_init : tOK RX10 "<init>" cX10_init MT tX10_init := tOK_of (fun j x hj hx => cks_ok qX10_init_0 j x (by omega) (by rw [nX10_init] at hj; omega) hx)
set_option maxRecDepth 100000 in
theorem qX10_hasState_0 : cks RX10 "hasState" cX10_hasState tX10_hasState 0 10 [[], [], [], [], [159], [], [], [], [], []] = true := by decide +kernel
theorem nX10_hasState : tX10_hasState.length = 10 := by decide +kernel
theorem okX10_hasState : tOK RX10 "hasState" cX10_hasState MT tX10_hasState := tOK_of (fun j x hj hx => cks_ok qX10_hasState_0 j x (by omega) (by rw [nX10_hasState] at hj; omega) hx)
set_option maxRecDepth 100000 in
theorem qX10_hasAct_0 : cks RX10 "hasAct" cX10_hasAct tX10_hasAct 0 16 [[], [], [534, 507, 508, 70, 509], [], [], [], [], [], [179], [], [], [], [], [], [], []] = true := by decide +kernel
theorem nX10_hasAct : tX10_hasAct.length = 16 := by decide +kernel
theorem okX10_hasAct : tOK RX10 "hasAct" cX10_hasAct MT tX10_hasAct := tOK_of (fun j x hj hx => cks_ok qX10_hasAct_0 j x (by omega) (by rw [nX10_hasAct] at hj; omega) hx)
set_option maxRecDepth 100000 in
theorem qX10_actAt_0 : cks RX10 "actAt" cX10_actAt tX10_actAt 0 9 [[], [188], [], [], [], [], [], [], []] = true := by decide +kernel
theorem nX10_actAt : tX10_actAt.length = 9 := by decide +kernel
theorem okX10_actAt : tOK RX10 "actAt" cX10_actAt MT tX10_actAt := tOK_of (fun j x hj hx => cks_ok qX10_actAt_0 j x (by omega) (by rw [nX10_actAt] at hj; omega) hx)
set_option maxRecDepth 100000 in
theorem qX10_isFoes_0 : cks RX10 "isFoes" cX10_isFoes tX10_isFoes 0 18 [[], [179], [], [], [], [], [188], [], [], [], [], [114], [], [], [], [], [], []] = true := by decide +kernel
theorem nX10_isFoes : tX10_isFoes.length = 18 := by decide +kernel
theorem okX10_isFoes : tOK RX10 "isFoes" cX10_isFoes MT tX10_isFoes := tOK_of (fun j x hj hx => cks_ok qX10_isFoes_0 j x (by omega) (by rw [nX10_isFoes] at hj; omega) hx)
end
section
/-! CERTIFICATES (by program: wip/whole/gen_certs.py) -/
set_option maxRecDepth 100000 in
theorem qX10_seeksMost_0 : cks RX10 "seeksMost" cX10_seeksMost tX10_seeksMost 0 9 [[], [], [624, 511, 512, 70, 513], [], [], [], [], [], []] = true := by decide +kernel
theorem nX10_seeksMost : tX10_seeksMost.length = 9 := by decide +kernel
theorem okX10_seeksMost : tOK RX10 "seeksMost" cX10_seeksMost MT tX10_seeksMost := tOK_of (fun j x hj hx => cks_ok qX10_seeksMost_0 j x (by omega) (by rw [nX10_seeksMost] at hj; omega) hx)
set_option maxRecDepth 100000 in
theorem qX10_everyone_0 : cks RX10 "everyone" cX10_everyone tX10_everyone 0 7 [[], [], [159], [], [], [], []] = true := by decide +kernel
theorem nX10_everyone : tX10_everyone.length = 7 := by decide +kernel
theorem okX10_everyone : tOK RX10 "everyone" cX10_everyone MT tX10_everyone := tOK_of (fun j x hj hx => cks_ok qX10_everyone_0 j x (by omega) (by rw [nX10_everyone] at hj; omega) hx)
set_option maxRecDepth 100000 in
theorem qX10_addState_0 : cks RX10 "addState" cX10_addState tX10_addState 0 17 [[], [], [172], [], [], [172], [], [], [159], [], [], [159], [], [159], [], [], []] = true := by decide +kernel
theorem nX10_addState : tX10_addState.length = 17 := by decide +kernel
theorem okX10_addState : tOK RX10 "addState" cX10_addState MT tX10_addState := tOK_of (fun j x hj hx => cks_ok qX10_addState_0 j x (by omega) (by rw [nX10_addState] at hj; omega) hx)
set_option maxRecDepth 100000 in
theorem qX10_addAct_0 : cks RX10 "addAct" cX10_addAct tX10_addAct 0 31 [[], [], [172], [], [], [172], [], [], [], [179], [], [], [518, 519, 520, 70, 521], [], [], [522, 523, 524, 71, 525], [], [179], [], [], [], [], [], [], [], [179], [], [], [], [], []] = true := by decide +kernel
theorem nX10_addAct : tX10_addAct.length = 31 := by decide +kernel
theorem okX10_addAct : tOK RX10 "addAct" cX10_addAct MT tX10_addAct := tOK_of (fun j x hj hx => cks_ok qX10_addAct_0 j x (by omega) (by rw [nX10_addAct] at hj; omega) hx)
set_option maxRecDepth 100000 in
theorem qX10_addOutcome_0 : cks RX10 "addOutcome" cX10_addOutcome tX10_addOutcome 0 13 [[], [], [172], [], [], [172], [], [], [], [551, 552, 553, 71, 554], [], [127], []] = true := by decide +kernel
theorem nX10_addOutcome : tX10_addOutcome.length = 13 := by decide +kernel
theorem okX10_addOutcome : tOK RX10 "addOutcome" cX10_addOutcome MT tX10_addOutcome := tOK_of (fun j x hj hx => cks_ok qX10_addOutcome_0 j x (by omega) (by rw [nX10_addOutcome] at hj; omega) hx)
set_option maxRecDepth 100000 in
theorem qX10_removeAct_0 : cks RX10 "removeAct" cX10_removeAct tX10_removeAct 0 19 [[], [], [172], [], [], [172], [], [179], [], [], [], [], [], [], [], [179], [], [], []] = true := by decide +kernel
theorem nX10_removeAct : tX10_removeAct.length = 19 := by decide +kernel
theorem okX10_removeAct : tOK RX10 "removeAct" cX10_removeAct MT tX10_removeAct := tOK_of (fun j x hj hx => cks_ok qX10_removeAct_0 j x (by omega) (by rw [nX10_removeAct] at hj; omega) hx)
set_option maxRecDepth 100000 in
theorem qX10_setMarked_0 : cks RX10 "setMarked" cX10_setMarked tX10_setMarked 0 10 [[], [], [172], [], [], [172], [], [], [171], []] = true := by decide +kernel
theorem nX10_setMarked : tX10_setMarked.length = 10 := by decide +kernel
theorem okX10_setMarked : tOK RX10 "setMarked" cX10_setMarked MT tX10_setMarked := tOK_of (fun j x hj hx => cks_ok qX10_setMarked_0 j x (by omega) (by rw [nX10_setMarked] at hj; omega) hx)
set_option maxRecDepth 100000 in
theorem qX10_isWhole_0 : cks RX10 "isWhole" cX10_isWhole tX10_isWhole 0 7 [[], [605, 586, 587, 70, 588], [], [], [], [], []] = true := by decide +kernel
theorem nX10_isWhole : tX10_isWhole.length = 7 := by decide +kernel
theorem okX10_isWhole : tOK RX10 "isWhole" cX10_isWhole MT tX10_isWhole := tOK_of (fun j x hj hx => cks_ok qX10_isWhole_0 j x (by omega) (by rw [nX10_isWhole] at hj; omega) hx)
set_option maxRecDepth 100000 in
theorem qX10_lacking_0 : cks RX10 "lacking" cX10_lacking tX10_lacking 0 32 [[], [], [], [], [], [], [159], [], [], [], [], [], [179], [], [], [], [], [], [], [], [], [518, 519, 520, 70, 521], [127], [], [], [], [], [], [], [], [], []] = true := by decide +kernel
theorem nX10_lacking : tX10_lacking.length = 32 := by decide +kernel
theorem okX10_lacking : tOK RX10 "lacking" cX10_lacking MT tX10_lacking := tOK_of (fun j x hj hx => cks_ok qX10_lacking_0 j x (by omega) (by rw [nX10_lacking] at hj; omega) hx)
set_option maxRecDepth 100000 in
theorem qX10_allActs_0 : cks RX10 "allActs" cX10_allActs tX10_allActs 0 19 [[], [], [], [], [], [], [159], [], [], [], [179], [], [], [], [], [], [], [], []] = true := by decide +kernel
theorem nX10_allActs : tX10_allActs.length = 19 := by decide +kernel
theorem okX10_allActs : tOK RX10 "allActs" cX10_allActs MT tX10_allActs := tOK_of (fun j x hj hx => cks_ok qX10_allActs_0 j x (by omega) (by rw [nX10_allActs] at hj; omega) hx)
set_option maxRecDepth 100000 in
theorem qX10_allOutcomes_0 : cks RX10 "allOutcomes" cX10_allOutcomes tX10_allOutcomes 0 30 [[], [], [], [], [], [], [159], [], [], [], [], [], [179], [], [], [], [], [], [], [], [518, 519, 520, 70, 521], [124], [], [], [], [], [], [], [], []] = true := by decide +kernel
theorem nX10_allOutcomes : tX10_allOutcomes.length = 30 := by decide +kernel
theorem okX10_allOutcomes : tOK RX10 "allOutcomes" cX10_allOutcomes MT tX10_allOutcomes := tOK_of (fun j x hj hx => cks_ok qX10_allOutcomes_0 j x (by omega) (by rw [nX10_allOutcomes] at hj; omega) hx)
set_option maxRecDepth 100000 in
theorem qX10_foeActs_0 : cks RX10 "foeActs" cX10_foeActs tX10_foeActs 0 25 [[], [], [], [], [], [], [159], [], [], [], [], [624, 511, 512, 70, 513], [], [], [179], [], [], [], [], [], [], [], [], [], []] = true := by decide +kernel
theorem nX10_foeActs : tX10_foeActs.length = 25 := by decide +kernel
theorem okX10_foeActs : tOK RX10 "foeActs" cX10_foeActs MT tX10_foeActs := tOK_of (fun j x hj hx => cks_ok qX10_foeActs_0 j x (by omega) (by rw [nX10_foeActs] at hj; omega) hx)
set_option maxRecDepth 100000 in
theorem qX10_nextOf_0 : cks RX10 "nextOf" cX10_nextOf tX10_nextOf 0 30 [[], [], [], [], [], [], [179], [], [], [], [], [], [], [518, 519, 520, 70, 521], [], [], [], [], [773, 627, 628, 71, 629], [], [], [132], [], [], [], [], [], [], [], []] = true := by decide +kernel
theorem nX10_nextOf : tX10_nextOf.length = 30 := by decide +kernel
theorem okX10_nextOf : tOK RX10 "nextOf" cX10_nextOf MT tX10_nextOf := tOK_of (fun j x hj hx => cks_ok qX10_nextOf_0 j x (by omega) (by rw [nX10_nextOf] at hj; omega) hx)
set_option maxRecDepth 100000 in
theorem qX10_reachedFrom_0 : cks RX10 "reachedFrom" cX10_reachedFrom tX10_reachedFrom 0 48 [[], [], [], [], [], [], [], [], [], [], [], [], [], [], [], [], [], [], [], [159], [], [], [], [], [767, 545, 69, 546], [], [], [], [], [768, 568, 569, 70, 570], [769, 770, 771, 70, 772], [], [], [], [], [], [], [], [], [], [], [], [], [], [], [], [], []] = true := by decide +kernel
theorem nX10_reachedFrom : tX10_reachedFrom.length = 48 := by decide +kernel
theorem okX10_reachedFrom : tOK RX10 "reachedFrom" cX10_reachedFrom MT tX10_reachedFrom := tOK_of (fun j x hj hx => cks_ok qX10_reachedFrom_0 j x (by omega) (by rw [nX10_reachedFrom] at hj; omega) hx)
set_option maxRecDepth 100000 in
theorem qX11_init_0 : cks RX11 "<init>" cX11_init tX11_init 0 60 [[], [95, 96, 97], [], [98, 99, 70], [], [100, 101, 70, 102], [463], [], [200, 201, 72], [], [], [463], [], [202, 203, 72, 204], [464], [], [200, 201, 72], [], [], [463], [], [202, 203, 72, 204], [465], [], [296, 297, 75], [], [], [463], [], [464], [298, 299, 75, 300], [466], [], [316, 317, 76], [], [], [463], [], [318, 319, 76, 320], [467], [], [316, 317, 76], [], [], [463], [], [318, 319, 76, 320], [468], [], [341, 342, 77], [], [], [463], [], [464], [343, 344, 77, 345], [469], [], [379, 380, 78], []] = true := by decide +kernel
set_option maxRecDepth 100000 in
theorem qX11_init_1 : cks RX11 "<init>" cX11_init tX11_init 60 30 [[], [463], [381, 382, 78, 383], [470], [], [406, 407, 79], [], [], [463], [408, 409, 79, 410], [471], [], [], [433], [472], [], [], [], [], [], [], [472], [], [433, 435, 80], [], [436, 437, 80, 438], [], [], [], []] = true := by decide +kernel
theorem nX11_init : tX11_init.length = 90 := by decide +kernel
theorem okX11_init : tOK RX11 "<init>" cX11_init MT tX11_init := tOK_of (fun j x hj hx => if h0 : j < 60 then cks_ok qX11_init_0 j x (by omega) (by omega) hx else cks_ok qX11_init_1 j x (by omega) (by rw [nX11_init] at hj; omega) hx)
set_option maxRecDepth 100000 in
theorem qX11_state_0 : cks RX11 "state" cX11_state tX11_state 0 11 [[], [463], [158], [], [], [], [], [], [463], [498, 499, 500, 70, 501], []] = true := by decide +kernel
theorem nX11_state : tX11_state.length = 11 := by decide +kernel
theorem okX11_state : tOK RX11 "state" cX11_state MT tX11_state := tOK_of (fun j x hj hx => cks_ok qX11_state_0 j x (by omega) (by rw [nX11_state] at hj; omega) hx)
set_option maxRecDepth 100000 in
theorem qX11_act_0 : cks RX11 "act" cX11_act tX11_act 0 52 [[], [463], [], [506, 507, 508, 70, 509], [], [], [], [], [], [], [], [], [], [], [], [], [], [], [463], [184], [], [], [], [], [], [], [], [463], [184], [], [], [], [], [463], [], [510, 511, 512, 70, 513], [], [], [], [], [], [], [], [], [], [], [463], [], [], [], [514, 515, 516, 70, 517], []] = true := by decide +kernel
theorem nX11_act : tX11_act.length = 52 := by decide +kernel
theorem okX11_act : tOK RX11 "act" cX11_act MT tX11_act := tOK_of (fun j x hj hx => cks_ok qX11_act_0 j x (by omega) (by rw [nX11_act] at hj; omega) hx)
set_option maxRecDepth 100000 in
theorem qX11_outcome_0 : cks RX11 "outcome" cX11_outcome tX11_outcome 0 60 [[], [463], [], [], [530, 531, 532, 70, 533], [], [], [463], [], [506, 507, 508, 70, 509], [], [], [], [], [], [], [], [], [], [], [463], [], [], [535, 519, 520, 70, 521], [], [], [113], [], [], [], [], [], [], [], [], [122], [], [536, 537, 538, 71, 539], [], [], [], [], [126], [], [], [], [], [], [131], [], [544, 545, 69, 546], [], [], [], [], [463], [], [], [], [547, 548, 549, 70, 550]] = true := by decide +kernel
set_option maxRecDepth 100000 in
theorem qX11_outcome_1 : cks RX11 "outcome" cX11_outcome tX11_outcome 60 1 [[]] = true := by decide +kernel
theorem nX11_outcome : tX11_outcome.length = 61 := by decide +kernel
theorem okX11_outcome : tOK RX11 "outcome" cX11_outcome MT tX11_outcome := tOK_of (fun j x hj hx => if h0 : j < 60 then cks_ok qX11_outcome_0 j x (by omega) (by omega) hx else cks_ok qX11_outcome_1 j x (by omega) (by rw [nX11_outcome] at hj; omega) hx)
set_option maxRecDepth 100000 in
theorem qX11_drop_0 : cks RX11 "drop" cX11_drop tX11_drop 0 20 [[], [463], [], [506, 507, 508, 70, 509], [], [], [], [], [463], [184], [], [], [], [], [], [], [463], [], [559, 560, 561, 70, 562], []] = true := by decide +kernel
theorem nX11_drop : tX11_drop.length = 20 := by decide +kernel
theorem okX11_drop : tOK RX11 "drop" cX11_drop MT tX11_drop := tOK_of (fun j x hj hx => cks_ok qX11_drop_0 j x (by omega) (by rw [nX11_drop] at hj; omega) hx)
set_option maxRecDepth 100000 in
theorem qX11_mark_0 : cks RX11 "mark" cX11_mark tX11_mark 0 17 [[], [], [463], [567, 568, 569, 70, 570], [], [], [], [], [], [], [], [463], [], [571, 572, 573, 70, 574], [], [575, 576, 82, 577], []] = true := by decide +kernel
theorem nX11_mark : tX11_mark.length = 17 := by decide +kernel
theorem okX11_mark : tOK RX11 "mark" cX11_mark MT tX11_mark := tOK_of (fun j x hj hx => cks_ok qX11_mark_0 j x (by omega) (by rw [nX11_mark] at hj; omega) hx)
set_option maxRecDepth 100000 in
theorem qX11_whole_0 : cks RX11 "whole" cX11_whole tX11_whole 0 4 [[], [463], [585, 586, 587, 70, 588], []] = true := by decide +kernel
theorem nX11_whole : tX11_whole.length = 4 := by decide +kernel
theorem okX11_whole : tOK RX11 "whole" cX11_whole MT tX11_whole := tOK_of (fun j x hj hx => cks_ok qX11_whole_0 j x (by omega) (by rw [nX11_whole] at hj; omega) hx)
set_option maxRecDepth 100000 in
theorem qX11_value_0 : cks RX11 "value" cX11_value tX11_value 0 36 [[], [463], [], [506, 507, 508, 70, 509], [], [], [593, 594, 69, 595], [], [596], [], [], [], [], [465], [], [], [464], [], [], [], [597, 599, 0, 69, 600], [], [], [], [], [], [], [], [262], [], [], [], [264], [], [685, 686, 69, 687], []] = true := by decide +kernel
theorem nX11_value : tX11_value.length = 36 := by decide +kernel
theorem okX11_value : tOK RX11 "value" cX11_value MT tX11_value := tOK_of (fun j x hj hx => cks_ok qX11_value_0 j x (by omega) (by rw [nX11_value] at hj; omega) hx)
set_option maxRecDepth 100000 in
theorem qX11_choice_0 : cks RX11 "choice" cX11_choice tX11_choice 0 25 [[], [463], [], [], [530, 531, 532, 70, 533], [], [], [], [], [], [464], [597, 599, 0, 69, 600], [], [], [], [], [], [], [466], [696, 697, 698, 75, 699], [], [466], [], [713, 714, 715, 75, 716], []] = true := by decide +kernel
theorem nX11_choice : tX11_choice.length = 25 := by decide +kernel
theorem okX11_choice : tOK RX11 "choice" cX11_choice MT tX11_choice := tOK_of (fun j x hj hx => cks_ok qX11_choice_0 j x (by omega) (by rw [nX11_choice] at hj; omega) hx)
set_option maxRecDepth 100000 in
theorem qX11_distance_0 : cks RX11 "distance" cX11_distance tX11_distance 0 33 [[], [463], [], [506, 507, 508, 70, 509], [], [], [], [], [], [464], [597, 599, 0, 69, 600], [], [], [], [], [], [], [464], [270], [], [544, 545, 69, 546], [], [], [], [], [466], [696, 697, 698, 75, 699], [], [466], [306], [], [], []] = true := by decide +kernel
theorem nX11_distance : tX11_distance.length = 33 := by decide +kernel
theorem okX11_distance : tOK RX11 "distance" cX11_distance MT tX11_distance := tOK_of (fun j x hj hx => cks_ok qX11_distance_0 j x (by omega) (by rw [nX11_distance] at hj; omega) hx)
set_option maxRecDepth 100000 in
theorem qX11_sum_0 : cks RX11 "sum" cX11_sum tX11_sum 0 40 [[], [463], [], [], [530, 531, 532, 70, 533], [], [], [593, 594, 69, 595], [], [596], [], [], [], [464], [597, 599, 0, 69, 600], [], [], [], [], [], [], [], [463], [], [], [535, 519, 520, 70, 521], [], [464], [262], [731, 652, 653, 71, 654], [], [], [732], [], [464], [264], [], [], [685, 686, 69, 687], []] = true := by decide +kernel
theorem nX11_sum : tX11_sum.length = 40 := by decide +kernel
theorem okX11_sum : tOK RX11 "sum" cX11_sum MT tX11_sum := tOK_of (fun j x hj hx => cks_ok qX11_sum_0 j x (by omega) (by rw [nX11_sum] at hj; omega) hx)
set_option maxRecDepth 100000 in
theorem qX11_within_0 : cks RX11 "within" cX11_within tX11_within 0 44 [[], [463], [], [506, 507, 508, 70, 509], [], [], [], [], [], [], [], [593, 594, 69, 595], [], [596], [], [], [463], [601, 602, 603, 70, 604], [], [737], [], [], [], [], [468], [], [], [467], [], [], [738, 739, 740, 76, 741], [], [327], [], [], [], [], [], [329], [], [], [], [685, 686, 69, 687], []] = true := by decide +kernel
theorem nX11_within : tX11_within.length = 44 := by decide +kernel
theorem okX11_within : tOK RX11 "within" cX11_within MT tX11_within := tOK_of (fun j x hj hx => cks_ok qX11_within_0 j x (by omega) (by rw [nX11_within] at hj; omega) hx)
set_option maxRecDepth 100000 in
theorem qX11_bound_0 : cks RX11 "bound" cX11_bound tX11_bound 0 51 [[], [463], [], [506, 507, 508, 70, 509], [], [], [], [], [], [], [], [], [], [463], [601, 602, 603, 70, 604], [], [], [], [], [467], [738, 739, 740, 76, 741], [], [], [], [], [], [732], [], [467], [327], [], [], [], [], [], [], [], [], [467], [329], [], [], [], [], [], [], [], [], [], [], []] = true := by decide +kernel
theorem nX11_bound : tX11_bound.length = 51 := by decide +kernel
theorem okX11_bound : tOK RX11 "bound" cX11_bound MT tX11_bound := tOK_of (fun j x hj hx => cks_ok qX11_bound_0 j x (by omega) (by rw [nX11_bound] at hj; omega) hx)
set_option maxRecDepth 100000 in
theorem qX11_sets_0 : cks RX11 "sets" cX11_sets tX11_sets 0 34 [[], [], [], [], [], [], [], [], [463], [601, 602, 603, 70, 604], [], [], [], [], [], [], [], [464], [], [], [465], [], [], [606, 607, 608, 72, 609], [], [], [], [], [], [267], [], [], [270], []] = true := by decide +kernel
theorem nX11_sets : tX11_sets.length = 34 := by decide +kernel
theorem okX11_sets : tOK RX11 "sets" cX11_sets MT tX11_sets := tOK_of (fun j x hj hx => cks_ok qX11_sets_0 j x (by omega) (by rw [nX11_sets] at hj; omega) hx)
set_option maxRecDepth 100000 in
theorem qX11_reached_0 : cks RX11 "reached" cX11_reached tX11_reached 0 12 [[], [463], [], [506, 507, 508, 70, 509], [], [], [], [], [463], [], [763, 764, 765, 70, 766], []] = true := by decide +kernel
theorem nX11_reached : tX11_reached.length = 12 := by decide +kernel
theorem okX11_reached : tOK RX11 "reached" cX11_reached MT tX11_reached := tOK_of (fun j x hj hx => cks_ok qX11_reached_0 j x (by omega) (by rw [nX11_reached] at hj; omega) hx)
set_option maxRecDepth 100000 in
theorem qX11_cost_0 : cks RX11 "cost" cX11_cost tX11_cost 0 44 [[], [463], [], [506, 507, 508, 70, 509], [], [], [593, 594, 69, 595], [], [596], [], [], [463], [601, 602, 603, 70, 604], [], [737], [], [], [469], [778, 779, 780, 77, 781], [], [469], [361], [], [810], [], [], [464], [267], [], [544, 545, 69, 546], [], [811], [], [], [469], [357], [], [], [], [469], [359], [], [685, 686, 69, 687], []] = true := by decide +kernel
theorem nX11_cost : tX11_cost.length = 44 := by decide +kernel
theorem okX11_cost : tOK RX11 "cost" cX11_cost MT tX11_cost := tOK_of (fun j x hj hx => cks_ok qX11_cost_0 j x (by omega) (by rw [nX11_cost] at hj; omega) hx)
set_option maxRecDepth 100000 in
theorem qX11_hole_0 : cks RX11 "hole" cX11_hole tX11_hole 0 49 [[], [], [], [], [], [], [], [], [463], [601, 602, 603, 70, 604], [], [], [], [], [470], [816, 817, 818, 78, 819], [], [], [], [470], [392], [], [], [], [], [], [470], [392], [], [], [], [], [], [], [], [470], [390], [], [], [], [], [470], [], [470], [390], [], [], [837, 838, 839, 78, 840], []] = true := by decide +kernel
theorem nX11_hole : tX11_hole.length = 49 := by decide +kernel
theorem okX11_hole : tOK RX11 "hole" cX11_hole MT tX11_hole := tOK_of (fun j x hj hx => cks_ok qX11_hole_0 j x (by omega) (by rw [nX11_hole] at hj; omega) hx)
set_option maxRecDepth 100000 in
theorem qX11_twin_0 : cks RX11 "twin" cX11_twin tX11_twin 0 22 [[], [463], [], [506, 507, 508, 70, 509], [], [], [], [], [463], [601, 602, 603, 70, 604], [], [], [], [], [471], [847, 848, 849, 79, 850], [], [471], [417], [], [], []] = true := by decide +kernel
theorem nX11_twin : tX11_twin.length = 22 := by decide +kernel
theorem okX11_twin : tOK RX11 "twin" cX11_twin MT tX11_twin := tOK_of (fun j x hj hx => cks_ok qX11_twin_0 j x (by omega) (by rw [nX11_twin] at hj; omega) hx)
set_option maxRecDepth 100000 in
theorem qX11_count_0 : cks RX11 "count" cX11_count tX11_count 0 33 [[], [], [], [463], [158], [], [], [463], [880, 881, 882, 70, 883], [], [], [463], [884, 885, 886, 70, 887], [], [], [463], [888, 784, 785, 70, 786], [], [], [463], [601, 602, 603, 70, 604], [], [], [], [], [471], [847, 848, 849, 79, 850], [], [471], [419], [], [], []] = true := by decide +kernel
theorem nX11_count : tX11_count.length = 33 := by decide +kernel
theorem okX11_count : tOK RX11 "count" cX11_count MT tX11_count := tOK_of (fun j x hj hx => cks_ok qX11_count_0 j x (by omega) (by rw [nX11_count] at hj; omega) hx)
set_option maxRecDepth 100000 in
theorem qX11_look_0 : cks RX11 "look" cX11_look tX11_look 0 57 [[], [463], [], [], [530, 531, 532, 70, 533], [], [], [], [], [], [], [], [], [], [463], [], [], [535, 519, 520, 70, 521], [], [], [], [], [113], [], [], [118], [], [], [122], [], [], [], [], [], [], [], [], [], [122], [], [], [], [], [], [], [], [], [], [136], [], [], [], [], [141], [], [], []] = true := by decide +kernel
theorem nX11_look : tX11_look.length = 57 := by decide +kernel
theorem okX11_look : tOK RX11 "look" cX11_look MT tX11_look := tOK_of (fun j x hj hx => cks_ok qX11_look_0 j x (by omega) (by rw [nX11_look] at hj; omega) hx)
set_option maxRecDepth 100000 in
theorem qX11_keep_0 : cks RX11 "keep" cX11_keep tX11_keep 0 60 [[], [897, 898, 69, 899], [], [], [], [], [], [], [], [], [], [], [], [], [], [], [], [463], [], [], [530, 531, 532, 70, 533], [], [], [], [], [], [], [], [463], [], [506, 507, 508, 70, 509], [], [], [], [], [], [], [], [], [], [], [], [464], [597, 599, 0, 69, 600], [], [], [], [], [], [], [], [472], [], [], [], [], [], [900, 902, 21, 69, 903], [], []] = true := by decide +kernel
theorem nX11_keep : tX11_keep.length = 60 := by decide +kernel
theorem okX11_keep : tOK RX11 "keep" cX11_keep MT tX11_keep := tOK_of (fun j x hj hx => cks_ok qX11_keep_0 j x (by omega) (by rw [nX11_keep] at hj; omega) hx)
set_option maxRecDepth 100000 in
theorem qX11_make_0 : cks RX11 "make" cX11_make tX11_make 0 27 [[], [897, 898, 69, 899], [], [], [], [], [], [], [], [], [], [], [], [], [], [], [], [], [], [472], [], [], [], [], [927, 923, 924, 80, 925], [], []] = true := by decide +kernel
theorem nX11_make : tX11_make.length = 27 := by decide +kernel
theorem okX11_make : tOK RX11 "make" cX11_make MT tX11_make := tOK_of (fun j x hj hx => cks_ok qX11_make_0 j x (by omega) (by rw [nX11_make] at hj; omega) hx)
end
section
/-! CERTIFICATES (by program: wip/whole/gen_certs.py) -/
theorem okX11_element : tOK RX11 "element" cX11_element MT tX11_element := fun i x hx => by simp [tX11_element] at hx
set_option maxRecDepth 100000 in
theorem qX11_copy_0 : cks RX11 "copy" cX11_copy tX11_copy 0 58 [[], [897, 898, 69, 899], [], [], [897, 898, 69, 899], [], [], [], [], [472], [], [], [], [], [472], [], [], [], [], [443], [], [], [443], [], [], [], [], [936, 937, 938, 80, 939], [], [], [443], [], [443], [], [], [], [], [], [], [940, 941, 942, 80, 943], [], [], [], [], [940, 941, 942, 80, 943], [], [], [], [], [451], [], [], [451], [], [], [944, 875, 874, 84], [], []] = true := by decide +kernel
theorem nX11_copy : tX11_copy.length = 58 := by decide +kernel
theorem okX11_copy : tOK RX11 "copy" cX11_copy MT tX11_copy := tOK_of (fun j x hj hx => cks_ok qX11_copy_0 j x (by omega) (by rw [nX11_copy] at hj; omega) hx)
set_option maxRecDepth 100000 in
theorem qX11_weight_0 : cks RX11 "weight" cX11_weight tX11_weight 0 24 [[], [897, 898, 69, 899], [], [596], [], [], [472], [], [], [], [], [443], [], [949], [], [], [449], [950, 951, 952, 71, 953], [], [], [445], [], [954], []] = true := by decide +kernel
theorem nX11_weight : tX11_weight.length = 24 := by decide +kernel
theorem okX11_weight : tOK RX11 "weight" cX11_weight MT tX11_weight := tOK_of (fun j x hj hx => cks_ok qX11_weight_0 j x (by omega) (by rw [nX11_weight] at hj; omega) hx)
set_option maxRecDepth 100000 in
theorem qX11_ratio_0 : cks RX11 "ratio" cX11_ratio tX11_ratio 0 49 [[], [897, 898, 69, 899], [], [], [897, 898, 69, 899], [], [596], [], [], [472], [], [], [], [], [472], [], [], [], [], [443], [], [], [443], [], [949], [], [], [443], [], [], [], [443], [], [], [954], [], [], [445], [], [], [], [959], [], [], [445], [], [445], [], []] = true := by decide +kernel
theorem nX11_ratio : tX11_ratio.length = 49 := by decide +kernel
theorem okX11_ratio : tOK RX11 "ratio" cX11_ratio MT tX11_ratio := tOK_of (fun j x hj hx => cks_ok qX11_ratio_0 j x (by omega) (by rw [nX11_ratio] at hj; omega) hx)
set_option maxRecDepth 100000 in
theorem qX11_refusalOf_0 : cks RX11 "refusalOf" cX11_refusalOf tX11_refusalOf 0 17 [[], [463], [601, 602, 603, 70, 604], [], [], [], [], [606, 607, 608, 72, 609], [], [630, 631, 632, 72, 633], [], [272], [], [], [], [], []] = true := by decide +kernel
theorem nX11_refusalOf : tX11_refusalOf.length = 17 := by decide +kernel
theorem okX11_refusalOf : tOK RX11 "refusalOf" cX11_refusalOf MT tX11_refusalOf := tOK_of (fun j x hj hx => cks_ok qX11_refusalOf_0 j x (by omega) (by rw [nX11_refusalOf] at hj; omega) hx)
set_option maxRecDepth 100000 in
theorem qX11_fillShelf_0 : cks RX11 "fillShelf" cX11_fillShelf tX11_fillShelf 0 60 [[], [], [], [], [463], [], [], [535, 519, 520, 70, 521], [904, 905, 906, 80, 907], [], [], [], [464], [262], [], [], [], [464], [264], [], [685, 686, 69, 687], [914, 915, 916, 80, 917], [], [], [], [463], [], [], [535, 519, 520, 70, 521], [918, 919, 920, 80, 921], [], [], [], [], [], [463], [158], [], [927, 923, 924, 80, 925], [], [], [], [], [463], [158], [], [], [451], [], [], [], [], [464], [262], [], [], [], [464], [264], []] = true := by decide +kernel
set_option maxRecDepth 100000 in
theorem qX11_fillShelf_1 : cks RX11 "fillShelf" cX11_fillShelf tX11_fillShelf 60 27 [[685, 686, 69, 687], [], [], [451], [], [], [], [], [], [], [464], [262], [], [], [], [464], [264], [], [685, 686, 69, 687], [], [], [], [], [], [], [443], []] = true := by decide +kernel
theorem nX11_fillShelf : tX11_fillShelf.length = 87 := by decide +kernel
theorem okX11_fillShelf : tOK RX11 "fillShelf" cX11_fillShelf MT tX11_fillShelf := tOK_of (fun j x hj hx => if h0 : j < 60 then cks_ok qX11_fillShelf_0 j x (by omega) (by omega) hx else cks_ok qX11_fillShelf_1 j x (by omega) (by rw [nX11_fillShelf] at hj; omega) hx)
set_option maxRecDepth 100000 in
theorem qX11_isHalf_0 : cks RX11 "isHalf" cX11_isHalf tX11_isHalf 0 9 [[], [], [], [], [], [], [], [], []] = true := by decide +kernel
theorem nX11_isHalf : tX11_isHalf.length = 9 := by decide +kernel
theorem okX11_isHalf : tOK RX11 "isHalf" cX11_isHalf MT tX11_isHalf := tOK_of (fun j x hj hx => cks_ok qX11_isHalf_0 j x (by omega) (by rw [nX11_isHalf] at hj; omega) hx)
set_option maxRecDepth 100000 in
theorem qX11_isShelf_0 : cks RX11 "isShelf" cX11_isShelf tX11_isShelf 0 9 [[], [], [], [], [], [], [], [], []] = true := by decide +kernel
theorem nX11_isShelf : tX11_isShelf.length = 9 := by decide +kernel
theorem okX11_isShelf : tOK RX11 "isShelf" cX11_isShelf MT tX11_isShelf := tOK_of (fun j x hj hx => cks_ok qX11_isShelf_0 j x (by omega) (by rw [nX11_isShelf] at hj; omega) hx)
set_option maxRecDepth 100000 in
theorem qX11_has_0 : cks RX11 "has" cX11_has tX11_has 0 11 [[], [], [], [], [], [], [], [], [], [], []] = true := by decide +kernel
theorem nX11_has : tX11_has.length = 11 := by decide +kernel
theorem okX11_has : tOK RX11 "has" cX11_has MT tX11_has := tOK_of (fun j x hj hx => cks_ok qX11_has_0 j x (by omega) (by rw [nX11_has] at hj; omega) hx)
set_option maxRecDepth 100000 in
theorem qX11_lowestTerms_0 : cks RX11 "lowestTerms" cX11_lowestTerms tX11_lowestTerms 0 18 [[], [], [688, 689, 69, 690], [], [], [], [], [], [], [], [], [], [], [], [], [], [], []] = true := by decide +kernel
theorem nX11_lowestTerms : tX11_lowestTerms.length = 18 := by decide +kernel
theorem okX11_lowestTerms : tOK RX11 "lowestTerms" cX11_lowestTerms MT tX11_lowestTerms := tOK_of (fun j x hj hx => cks_ok qX11_lowestTerms_0 j x (by omega) (by rw [nX11_lowestTerms] at hj; omega) hx)
set_option maxRecDepth 100000 in
theorem qX11_commonDivisor_0 : cks RX11 "commonDivisor" cX11_commonDivisor tX11_commonDivisor 0 25 [[], [], [], [], [], [], [], [691], [], [], [], [], [], [], [], [], [], [], [], [], [], [], [], [], []] = true := by decide +kernel
theorem nX11_commonDivisor : tX11_commonDivisor.length = 25 := by decide +kernel
theorem okX11_commonDivisor : tOK RX11 "commonDivisor" cX11_commonDivisor MT tX11_commonDivisor := tOK_of (fun j x hj hx => cks_ok qX11_commonDivisor_0 j x (by omega) (by rw [nX11_commonDivisor] at hj; omega) hx)
set_option maxRecDepth 100000 in
theorem qX12_init_0 : cks RX12 "<init>" cX12_init tX12_init 0 60 [[], [1058, 96, 97], [], [], [157], [1062], [], [], [157], [1063], [], [], [157], [1064], [], [], [157], [1065], [], [], [157], [1066], [], [], [157], [1067], [], [], [236], [1068], [], [], [157], [1069], [], [], [157], [1070], [], [], [236], [1072], [], [], [236], [1073], [], [], [236], [1074], [], [], [236], [1075], [], [], [236], [1076], [], []] = true := by decide +kernel
set_option maxRecDepth 100000 in
theorem qX12_init_1 : cks RX12 "<init>" cX12_init tX12_init 60 60 [[236], [1077], [], [], [236], [1078], [], [], [236], [1079], [], [], [157], [1082], [], [], [236], [1083], [], [], [236], [1084], [], [], [236], [1086], [], [], [236], [1087], [], [], [157], [1088], [], [], [157], [1090], [], [], [157], [1091], [], [], [157], [1092], [], [], [157], [1093], [], [], [236], [1094], [], [], [236], [1095], [], []] = true := by decide +kernel
set_option maxRecDepth 100000 in
theorem qX12_init_2 : cks RX12 "<init>" cX12_init tX12_init 120 3 [[236], [1096], []] = true := by decide +kernel
theorem nX12_init : tX12_init.length = 123 := by decide +kernel
theorem okX12_init : tOK RX12 "<init>" cX12_init MT tX12_init := tOK_of (fun j x hj hx => if h0 : j < 60 then cks_ok qX12_init_0 j x (by omega) (by omega) hx else if h1 : j < 120 then cks_ok qX12_init_1 j x (by omega) (by omega) hx else cks_ok qX12_init_2 j x (by omega) (by rw [nX12_init] at hj; omega) hx)
set_option maxRecDepth 100000 in
theorem qX12_thrown_0 : cks RX12 "thrown" cX12_thrown tX12_thrown 0 3 [[], [1059], []] = true := by decide +kernel
theorem nX12_thrown : tX12_thrown.length = 3 := by decide +kernel
theorem okX12_thrown : tOK RX12 "thrown" cX12_thrown MT tX12_thrown := tOK_of (fun j x hj hx => cks_ok qX12_thrown_0 j x (by omega) (by rw [nX12_thrown] at hj; omega) hx)
set_option maxRecDepth 100000 in
theorem qX12_isIn_0 : cks RX12 "isIn" cX12_isIn tX12_isIn 0 12 [[], [], [], [], [], [], [], [], [], [], [], []] = true := by decide +kernel
theorem nX12_isIn : tX12_isIn.length = 12 := by decide +kernel
theorem okX12_isIn : tOK RX12 "isIn" cX12_isIn MT tX12_isIn := tOK_of (fun j x hj hx => cks_ok qX12_isIn_0 j x (by omega) (by rw [nX12_isIn] at hj; omega) hx)
set_option maxRecDepth 100000 in
theorem qX12_isState_0 : cks RX12 "isState" cX12_isState tX12_isState 0 10 [[], [], [], [], [1060], [], [], [], [], []] = true := by decide +kernel
theorem nX12_isState : tX12_isState.length = 10 := by decide +kernel
theorem okX12_isState : tOK RX12 "isState" cX12_isState MT tX12_isState := tOK_of (fun j x hj hx => cks_ok qX12_isState_0 j x (by omega) (by rw [nX12_isState] at hj; omega) hx)
set_option maxRecDepth 100000 in
theorem qX12_isAct_0 : cks RX12 "isAct" cX12_isAct tX12_isAct 0 16 [[], [], [1186, 1188, 23, 81, 1189], [], [], [], [], [], [1062], [], [], [], [], [], [], []] = true := by decide +kernel
theorem nX12_isAct : tX12_isAct.length = 16 := by decide +kernel
theorem okX12_isAct : tOK RX12 "isAct" cX12_isAct MT tX12_isAct := tOK_of (fun j x hj hx => cks_ok qX12_isAct_0 j x (by omega) (by rw [nX12_isAct] at hj; omega) hx)
set_option maxRecDepth 100000 in
theorem qX12_isMarked_0 : cks RX12 "isMarked" cX12_isMarked tX12_isMarked 0 12 [[], [1061], [], [], [], [], [], [], [], [], [], []] = true := by decide +kernel
theorem nX12_isMarked : tX12_isMarked.length = 12 := by decide +kernel
theorem okX12_isMarked : tOK RX12 "isMarked" cX12_isMarked MT tX12_isMarked := tOK_of (fun j x hj hx => cks_ok qX12_isMarked_0 j x (by omega) (by rw [nX12_isMarked] at hj; omega) hx)
set_option maxRecDepth 100000 in
theorem qX12_isFoe_0 : cks RX12 "isFoe" cX12_isFoe tX12_isFoe 0 17 [[], [1062], [], [], [], [], [1063], [], [], [], [], [], [], [], [], [], []] = true := by decide +kernel
theorem nX12_isFoe : tX12_isFoe.length = 17 := by decide +kernel
theorem okX12_isFoe : tOK RX12 "isFoe" cX12_isFoe MT tX12_isFoe := tOK_of (fun j x hj hx => cks_ok qX12_isFoe_0 j x (by omega) (by rw [nX12_isFoe] at hj; omega) hx)
set_option maxRecDepth 100000 in
theorem qX12_state_0 : cks RX12 "state" cX12_state tX12_state 0 26 [[], [], [1059], [], [1060], [], [], [], [], [], [1062], [], [1060], [], [], [], [], [1060], [], [], [1060], [], [1060], [], [], []] = true := by decide +kernel
theorem nX12_state : tX12_state.length = 26 := by decide +kernel
theorem okX12_state : tOK RX12 "state" cX12_state MT tX12_state := tOK_of (fun j x hj hx => cks_ok qX12_state_0 j x (by omega) (by rw [nX12_state] at hj; omega) hx)
set_option maxRecDepth 100000 in
theorem qX12_act_0 : cks RX12 "act" cX12_act tX12_act 0 60 [[], [], [1059], [], [], [1186, 1188, 23, 81, 1189], [], [], [], [], [1190], [1191, 1192, 81, 1193], [], [], [], [], [1194], [1191, 1192, 81, 1193], [], [], [], [], [1062], [], [], [], [], [], [], [], [1062], [], [], [], [], [], [1195, 1197, 24, 81, 1198], [], [], [], [], [], [], [], [], [], [], [], [], [], [1062], [], [], [], [], [], [1063], [], [], []] = true := by decide +kernel
set_option maxRecDepth 100000 in
theorem qX12_act_1 : cks RX12 "act" cX12_act tX12_act 60 25 [[], [1064], [], [], [], [], [1065], [], [], [], [], [1062], [], [], [], [], [], [], [], [1062], [], [], [], [], []] = true := by decide +kernel
theorem nX12_act : tX12_act.length = 85 := by decide +kernel
theorem okX12_act : tOK RX12 "act" cX12_act MT tX12_act := tOK_of (fun j x hj hx => if h0 : j < 60 then cks_ok qX12_act_0 j x (by omega) (by omega) hx else cks_ok qX12_act_1 j x (by omega) (by rw [nX12_act] at hj; omega) hx)
set_option maxRecDepth 100000 in
theorem qX12_partsOf_0 : cks RX12 "partsOf" cX12_partsOf tX12_partsOf 0 25 [[], [], [], [], [], [], [1065], [], [], [], [], [], [1067], [], [], [], [], [], [], [], [], [], [], [], []] = true := by decide +kernel
theorem nX12_partsOf : tX12_partsOf.length = 25 := by decide +kernel
theorem okX12_partsOf : tOK RX12 "partsOf" cX12_partsOf MT tX12_partsOf := tOK_of (fun j x hj hx => cks_ok qX12_partsOf_0 j x (by omega) (by rw [nX12_partsOf] at hj; omega) hx)
set_option maxRecDepth 100000 in
theorem qX12_outcome_0 : cks RX12 "outcome" cX12_outcome tX12_outcome 0 60 [[], [], [1059], [], [], [], [1203, 1205, 25, 81, 1206], [], [], [], [1186, 1188, 23, 81, 1189], [], [], [], [], [1207], [1191, 1192, 81, 1193], [], [], [], [], [], [], [], [], [], [], [1063], [], [], [], [], [], [], [], [], [], [], [1065], [], [], [], [1063], [], [], [], [], [], [], [], [], [], [], [], [], [], [], [], [], []] = true := by decide +kernel
set_option maxRecDepth 100000 in
theorem qX12_outcome_1 : cks RX12 "outcome" cX12_outcome tX12_outcome 60 60 [[], [1065], [], [], [], [], [], [], [1066], [], [], [], [], [], [], [], [], [], [], [], [], [], [], [], [], [], [], [1208, 1210, 26, 81, 1211], [], [], [], [], [], [], [], [1066], [], [], [], [], [1065], [], [], [], [], [], [], [1067], [], [], [], [], [1065], [], [], [], [], [], [], [1065]] = true := by decide +kernel
set_option maxRecDepth 100000 in
theorem qX12_outcome_2 : cks RX12 "outcome" cX12_outcome tX12_outcome 120 10 [[], [], [], [], [], [], [], [], [1208, 1210, 26, 81, 1211], []] = true := by decide +kernel
theorem nX12_outcome : tX12_outcome.length = 130 := by decide +kernel
theorem okX12_outcome : tOK RX12 "outcome" cX12_outcome MT tX12_outcome := tOK_of (fun j x hj hx => if h0 : j < 60 then cks_ok qX12_outcome_0 j x (by omega) (by omega) hx else if h1 : j < 120 then cks_ok qX12_outcome_1 j x (by omega) (by omega) hx else cks_ok qX12_outcome_2 j x (by omega) (by rw [nX12_outcome] at hj; omega) hx)
set_option maxRecDepth 100000 in
theorem qX12_drop_0 : cks RX12 "drop" cX12_drop tX12_drop 0 29 [[], [], [1059], [], [], [1186, 1188, 23, 81, 1189], [], [], [], [], [1062], [], [], [], [], [], [], [1062], [], [], [], [], [], [], [], [1062], [], [], []] = true := by decide +kernel
theorem nX12_drop : tX12_drop.length = 29 := by decide +kernel
theorem okX12_drop : tOK RX12 "drop" cX12_drop MT tX12_drop := tOK_of (fun j x hj hx => cks_ok qX12_drop_0 j x (by omega) (by rw [nX12_drop] at hj; omega) hx)
set_option maxRecDepth 100000 in
theorem qX12_mark_0 : cks RX12 "mark" cX12_mark tX12_mark 0 36 [[], [], [1059], [], [], [], [], [], [1060], [], [], [], [], [], [], [1061], [], [], [], [], [], [], [1060], [], [], [], [], [], [], [], [], [], [], [], [], []] = true := by decide +kernel
theorem nX12_mark : tX12_mark.length = 36 := by decide +kernel
theorem okX12_mark : tOK RX12 "mark" cX12_mark MT tX12_mark := tOK_of (fun j x hj hx => cks_ok qX12_mark_0 j x (by omega) (by rw [nX12_mark] at hj; omega) hx)
set_option maxRecDepth 100000 in
theorem qX12_lacking_0 : cks RX12 "lacking" cX12_lacking tX12_lacking 0 34 [[], [], [], [], [], [], [1060], [], [], [], [], [], [1062], [], [], [], [], [], [], [], [], [], [], [], [1208, 1210, 26, 81, 1211], [], [], [], [], [], [], [], [], []] = true := by decide +kernel
theorem nX12_lacking : tX12_lacking.length = 34 := by decide +kernel
theorem okX12_lacking : tOK RX12 "lacking" cX12_lacking MT tX12_lacking := tOK_of (fun j x hj hx => cks_ok qX12_lacking_0 j x (by omega) (by rw [nX12_lacking] at hj; omega) hx)
set_option maxRecDepth 100000 in
theorem qX12_whole_0 : cks RX12 "whole" cX12_whole tX12_whole 0 6 [[], [], [1059], [], [1224, 1226, 27, 81, 1227], []] = true := by decide +kernel
theorem nX12_whole : tX12_whole.length = 6 := by decide +kernel
theorem okX12_whole : tOK RX12 "whole" cX12_whole MT tX12_whole := tOK_of (fun j x hj hx => cks_ok qX12_whole_0 j x (by omega) (by rw [nX12_whole] at hj; omega) hx)
set_option maxRecDepth 100000 in
theorem qX12_allIn_0 : cks RX12 "allIn" cX12_allIn tX12_allIn 0 34 [[], [], [], [], [], [], [1065], [], [], [], [], [], [], [], [1066], [], [], [], [], [], [], [], [], [], [], [], [], [], [], [], [], [], [], []] = true := by decide +kernel
theorem nX12_allIn : tX12_allIn.length = 34 := by decide +kernel
theorem okX12_allIn : tOK RX12 "allIn" cX12_allIn MT tX12_allIn := tOK_of (fun j x hj hx => cks_ok qX12_allIn_0 j x (by omega) (by rw [nX12_allIn] at hj; omega) hx)
set_option maxRecDepth 100000 in
theorem qX12_someIn_0 : cks RX12 "someIn" cX12_someIn tX12_someIn 0 34 [[], [], [], [], [], [], [1065], [], [], [], [], [], [], [], [1066], [], [], [], [], [], [], [], [], [], [], [], [], [], [], [], [], [], [], []] = true := by decide +kernel
theorem nX12_someIn : tX12_someIn.length = 34 := by decide +kernel
theorem okX12_someIn : tOK RX12 "someIn" cX12_someIn MT tX12_someIn := tOK_of (fun j x hj hx => cks_ok qX12_someIn_0 j x (by omega) (by rw [nX12_someIn] at hj; omega) hx)
set_option maxRecDepth 100000 in
theorem qX12_wants_0 : cks RX12 "wants" cX12_wants tX12_wants 0 9 [[], [], [1195, 1197, 24, 81, 1198], [], [], [], [], [], []] = true := by decide +kernel
theorem nX12_wants : tX12_wants.length = 9 := by decide +kernel
theorem okX12_wants : tOK RX12 "wants" cX12_wants MT tX12_wants := tOK_of (fun j x hj hx => cks_ok qX12_wants_0 j x (by omega) (by rw [nX12_wants] at hj; omega) hx)
set_option maxRecDepth 100000 in
theorem qX12_leads_0 : cks RX12 "leads" cX12_leads tX12_leads 0 60 [[], [], [], [1062], [], [], [], [], [], [], [], [], [], [], [], [1062], [], [], [], [], [], [], [], [], [], [], [1254, 1256, 33, 81, 1257], [], [], [], [], [], [], [], [], [1258, 1260, 34, 81, 1261], [], [], [], [], [], [], [], [], [], [], [], [], [], [], [], [], [], [], [], [], [], [], [], []] = true := by decide +kernel
set_option maxRecDepth 100000 in
theorem qX12_leads_1 : cks RX12 "leads" cX12_leads tX12_leads 60 8 [[], [], [1262, 1264, 35, 81, 1265], [], [], [], [], []] = true := by decide +kernel
theorem nX12_leads : tX12_leads.length = 68 := by decide +kernel
theorem okX12_leads : tOK RX12 "leads" cX12_leads MT tX12_leads := tOK_of (fun j x hj hx => if h0 : j < 60 then cks_ok qX12_leads_0 j x (by omega) (by omega) hx else cks_ok qX12_leads_1 j x (by omega) (by rw [nX12_leads] at hj; omega) hx)
set_option maxRecDepth 100000 in
theorem qX12_comes_0 : cks RX12 "comes" cX12_comes tX12_comes 0 49 [[], [1061], [], [], [], [], [], [], [], [], [], [], [], [], [], [1060], [], [], [], [], [], [], [], [], [], [], [], [], [], [1250, 1252, 32, 81, 1253], [], [], [], [], [], [], [], [], [], [], [], [], [], [], [], [], [], [], []] = true := by decide +kernel
theorem nX12_comes : tX12_comes.length = 49 := by decide +kernel
theorem okX12_comes : tOK RX12 "comes" cX12_comes MT tX12_comes := tOK_of (fun j x hj hx => cks_ok qX12_comes_0 j x (by omega) (by rw [nX12_comes] at hj; omega) hx)
set_option maxRecDepth 100000 in
theorem qX12_all_0 : cks RX12 "all" cX12_all tX12_all 0 7 [[], [], [1060], [], [], [], []] = true := by decide +kernel
theorem nX12_all : tX12_all.length = 7 := by decide +kernel
theorem okX12_all : tOK RX12 "all" cX12_all MT tX12_all := tOK_of (fun j x hj hx => cks_ok qX12_all_0 j x (by omega) (by rw [nX12_all] at hj; omega) hx)
set_option maxRecDepth 100000 in
theorem qX12_above_0 : cks RX12 "above" cX12_above tX12_above 0 6 [[], [], [1242, 1244, 30, 81, 1245], [], [1246, 1248, 31, 81, 1249], []] = true := by decide +kernel
theorem nX12_above : tX12_above.length = 6 := by decide +kernel
theorem okX12_above : tOK RX12 "above" cX12_above MT tX12_above := tOK_of (fun j x hj hx => cks_ok qX12_above_0 j x (by omega) (by rw [nX12_above] at hj; omega) hx)
set_option maxRecDepth 100000 in
theorem qX12_ones_0 : cks RX12 "ones" cX12_ones tX12_ones 0 27 [[], [1242, 1244, 30, 81, 1245], [], [], [], [], [], [], [], [], [1061], [], [], [1246, 1248, 31, 81, 1249], [], [], [], [], [], [], [], [], [], [], [], [], []] = true := by decide +kernel
theorem nX12_ones : tX12_ones.length = 27 := by decide +kernel
theorem okX12_ones : tOK RX12 "ones" cX12_ones MT tX12_ones := tOK_of (fun j x hj hx => cks_ok qX12_ones_0 j x (by omega) (by rw [nX12_ones] at hj; omega) hx)
end
section
/-! CERTIFICATES (by program: wip/whole/gen_certs.py) -/
set_option maxRecDepth 100000 in
theorem qX12_gcd_0 : cks RX12 "gcd" cX12_gcd tX12_gcd 0 26 [[], [], [], [], [], [], [], [], [], [], [], [], [], [], [], [], [], [], [], [], [], [], [], [], [], []] = true := by decide +kernel
theorem nX12_gcd : tX12_gcd.length = 26 := by decide +kernel
theorem okX12_gcd : tOK RX12 "gcd" cX12_gcd MT tX12_gcd := tOK_of (fun j x hj hx => cks_ok qX12_gcd_0 j x (by omega) (by rw [nX12_gcd] at hj; omega) hx)
set_option maxRecDepth 100000 in
theorem qX12_determinant_0 : cks RX12 "determinant" cX12_determinant tX12_determinant 0 60 [[], [], [], [], [], [], [], [], [], [], [], [], [], [], [], [1068], [], [], [], [], [], [], [], [], [], [], [], [], [], [], [], [], [], [], [], [], [], [], [], [], [], [1068], [], [], [], [], [], [], [], [], [1068], [], [], [], [], [], [], [1068], [], []] = true := by decide +kernel
set_option maxRecDepth 100000 in
theorem qX12_determinant_1 : cks RX12 "determinant" cX12_determinant tX12_determinant 60 60 [[], [], [], [], [], [], [1068], [], [], [], [], [], [], [], [], [], [], [], [], [], [], [], [], [], [], [], [], [], [], [], [], [], [], [], [], [], [], [], [], [1068], [], [], [], [], [], [], [1068], [], [], [], [], [], [], [], [1068], [], [], [], [], []] = true := by decide +kernel
set_option maxRecDepth 100000 in
theorem qX12_determinant_2 : cks RX12 "determinant" cX12_determinant tX12_determinant 120 42 [[], [], [], [1068], [], [], [], [], [], [], [], [1068], [], [], [], [], [], [], [], [], [], [], [], [], [], [], [], [], [1068], [], [], [], [], [], [], [], [], [], [], [], [], []] = true := by decide +kernel
theorem nX12_determinant : tX12_determinant.length = 162 := by decide +kernel
theorem okX12_determinant : tOK RX12 "determinant" cX12_determinant MT tX12_determinant := tOK_of (fun j x hj hx => if h0 : j < 60 then cks_ok qX12_determinant_0 j x (by omega) (by omega) hx else if h1 : j < 120 then cks_ok qX12_determinant_1 j x (by omega) (by omega) hx else cks_ok qX12_determinant_2 j x (by omega) (by rw [nX12_determinant] at hj; omega) hx)
set_option maxRecDepth 100000 in
theorem qX12_placeOf_0 : cks RX12 "placeOf" cX12_placeOf tX12_placeOf 0 22 [[], [], [], [], [], [], [1071], [], [], [1070], [], [], [], [], [], [], [], [], [], [], [], []] = true := by decide +kernel
theorem nX12_placeOf : tX12_placeOf.length = 22 := by decide +kernel
theorem okX12_placeOf : tOK RX12 "placeOf" cX12_placeOf MT tX12_placeOf := tOK_of (fun j x hj hx => cks_ok qX12_placeOf_0 j x (by omega) (by rw [nX12_placeOf] at hj; omega) hx)
set_option maxRecDepth 100000 in
theorem qX12_solve_0 : cks RX12 "solve" cX12_solve tX12_solve 0 60 [[], [], [], [], [1071], [], [], [], [], [], [], [], [], [], [], [1071], [], [], [], [], [], [1071], [], [], [1068], [], [], [], [], [], [], [], [], [], [1073], [], [], [], [], [1072], [], [], [], [], [], [], [], [], [], [], [], [], [], [1071], [1298, 1300, 44, 81, 1301], [], [], [], [], [1075]] = true := by decide +kernel
set_option maxRecDepth 100000 in
theorem qX12_solve_1 : cks RX12 "solve" cX12_solve tX12_solve 60 60 [[], [1070], [], [], [], [], [], [], [1074], [], [1070], [], [], [], [], [], [], [], [], [], [], [], [], [], [], [], [1070], [], [], [], [], [], [1074], [], [], [], [1075], [], [], [1302, 1304, 45, 81, 1305], [], [], [1075], [], [], [], [], [], [], [], [], [], [], [], [1074], [], [], [], [], []] = true := by decide +kernel
set_option maxRecDepth 100000 in
theorem qX12_solve_2 : cks RX12 "solve" cX12_solve tX12_solve 120 12 [[], [], [1075], [], [], [], [], [], [], [], [], []] = true := by decide +kernel
theorem nX12_solve : tX12_solve.length = 132 := by decide +kernel
theorem okX12_solve : tOK RX12 "solve" cX12_solve MT tX12_solve := tOK_of (fun j x hj hx => if h0 : j < 60 then cks_ok qX12_solve_0 j x (by omega) (by omega) hx else if h1 : j < 120 then cks_ok qX12_solve_1 j x (by omega) (by omega) hx else cks_ok qX12_solve_2 j x (by omega) (by rw [nX12_solve] at hj; omega) hx)
set_option maxRecDepth 100000 in
theorem qX12_layRow_0 : cks RX12 "layRow" cX12_layRow tX12_layRow 0 60 [[], [], [], [], [1069], [], [], [], [], [], [], [], [], [1071], [], [], [1072], [], [], [], [], [], [], [], [], [1207], [], [], [], [], [], [], [], [], [], [1065], [], [], [], [], [], [1066], [], [], [], [], [], [], [1290, 1292, 42, 81, 1293], [], [], [], [], [1072], [], [], [], [], [], []] = true := by decide +kernel
set_option maxRecDepth 100000 in
theorem qX12_layRow_1 : cks RX12 "layRow" cX12_layRow tX12_layRow 60 15 [[], [], [1067], [], [], [], [], [], [], [], [], [], [], [], []] = true := by decide +kernel
theorem nX12_layRow : tX12_layRow.length = 75 := by decide +kernel
theorem okX12_layRow : tOK RX12 "layRow" cX12_layRow MT tX12_layRow := tOK_of (fun j x hj hx => if h0 : j < 60 then cks_ok qX12_layRow_0 j x (by omega) (by omega) hx else cks_ok qX12_layRow_1 j x (by omega) (by rw [nX12_layRow] at hj; omega) hx)
set_option maxRecDepth 100000 in
theorem qX12_comesChosen_0 : cks RX12 "comesChosen" cX12_comesChosen tX12_comesChosen 0 53 [[], [], [], [], [], [], [], [], [], [], [], [], [1060], [], [], [], [], [], [], [], [], [], [], [], [], [], [1069], [], [], [], [], [1258, 1260, 34, 81, 1261], [], [], [], [], [], [], [], [], [], [], [], [], [], [], [], [], [], [], [], [], []] = true := by decide +kernel
theorem nX12_comesChosen : tX12_comesChosen.length = 53 := by decide +kernel
theorem okX12_comesChosen : tOK RX12 "comesChosen" cX12_comesChosen MT tX12_comesChosen := tOK_of (fun j x hj hx => cks_ok qX12_comesChosen_0 j x (by omega) (by rw [nX12_comesChosen] at hj; omega) hx)
set_option maxRecDepth 100000 in
theorem qX12_chances_0 : cks RX12 "chances" cX12_chances tX12_chances 0 60 [[], [], [], [1282, 1284, 40, 81, 1285], [], [], [], [1071], [], [], [], [], [1060], [], [], [1074], [], [], [], [], [], [], [], [], [], [1075], [], [], [], [], [], [], [], [], [], [], [], [1070], [], [1071], [], [], [], [], [1071], [], [], [1071], [], [], [], [], [], [], [1071], [], [], [1070], [], []] = true := by decide +kernel
set_option maxRecDepth 100000 in
theorem qX12_chances_1 : cks RX12 "chances" cX12_chances tX12_chances 60 60 [[], [], [], [], [], [1069], [], [], [], [], [], [], [], [1286, 1288, 41, 81, 1289], [], [1073], [], [], [], [], [], [], [], [1065], [], [], [], [], [1073], [], [], [], [], [], [1066], [], [], [], [], [], [], [], [], [], [], [], [], [1067], [], [], [], [], [], [], [], [], [], [], [], []] = true := by decide +kernel
set_option maxRecDepth 100000 in
theorem qX12_chances_2 : cks RX12 "chances" cX12_chances tX12_chances 120 6 [[], [], [], [], [1294, 1296, 43, 81, 1297], []] = true := by decide +kernel
theorem nX12_chances : tX12_chances.length = 126 := by decide +kernel
theorem okX12_chances : tOK RX12 "chances" cX12_chances MT tX12_chances := tOK_of (fun j x hj hx => if h0 : j < 60 then cks_ok qX12_chances_0 j x (by omega) (by omega) hx else if h1 : j < 120 then cks_ok qX12_chances_1 j x (by omega) (by omega) hx else cks_ok qX12_chances_2 j x (by omega) (by rw [nX12_chances] at hj; omega) hx)
set_option maxRecDepth 100000 in
theorem qX12_isBelow_0 : cks RX12 "isBelow" cX12_isBelow tX12_isBelow 0 12 [[], [], [], [], [], [], [], [], [], [], [], []] = true := by decide +kernel
theorem nX12_isBelow : tX12_isBelow.length = 12 := by decide +kernel
theorem okX12_isBelow : tOK RX12 "isBelow" cX12_isBelow MT tX12_isBelow := tOK_of (fun j x hj hx => cks_ok qX12_isBelow_0 j x (by omega) (by rw [nX12_isBelow] at hj; omega) hx)
set_option maxRecDepth 100000 in
theorem qX12_nextChoice_0 : cks RX12 "nextChoice" cX12_nextChoice tX12_nextChoice 0 46 [[], [], [], [], [1060], [], [], [], [], [], [], [], [], [], [], [1195, 1197, 24, 81, 1198], [], [], [], [1069], [], [], [], [], [], [], [], [1069], [], [], [], [1062], [], [], [], [], [], [], [1069], [], [], [], [], [], [], []] = true := by decide +kernel
theorem nX12_nextChoice : tX12_nextChoice.length = 46 := by decide +kernel
theorem okX12_nextChoice : tOK RX12 "nextChoice" cX12_nextChoice MT tX12_nextChoice := tOK_of (fun j x hj hx => cks_ok qX12_nextChoice_0 j x (by omega) (by rw [nX12_nextChoice] at hj; omega) hx)
set_option maxRecDepth 100000 in
theorem qX12_countBits_0 : cks RX12 "countBits" cX12_countBits tX12_countBits 0 19 [[], [], [], [], [], [], [], [], [], [], [], [], [], [], [], [], [], [], []] = true := by decide +kernel
theorem nX12_countBits : tX12_countBits.length = 19 := by decide +kernel
theorem okX12_countBits : tOK RX12 "countBits" cX12_countBits MT tX12_countBits := tOK_of (fun j x hj hx => cks_ok qX12_countBits_0 j x (by omega) (by rw [nX12_countBits] at hj; omega) hx)
set_option maxRecDepth 100000 in
theorem qX12_worst_0 : cks RX12 "worst" cX12_worst tX12_worst 0 60 [[], [], [], [], [], [], [], [], [], [1278, 1280, 39, 81, 1281], [], [], [], [], [1060], [], [], [], [], [1078], [], [], [], [1079], [], [], [], [1074], [], [], [], [1075], [], [], [1306, 1307, 81, 1308], [], [], [1074], [], [], [], [1075], [], [], [], [1078], [], [], [], [1079], [], [], [1306, 1307, 81, 1308], [], [], [], [], [], [], [1078]] = true := by decide +kernel
set_option maxRecDepth 100000 in
theorem qX12_worst_1 : cks RX12 "worst" cX12_worst tX12_worst 60 25 [[], [], [1074], [], [], [], [], [1079], [], [], [1075], [], [], [], [], [], [], [], [], [], [], [1309, 1311, 46, 81, 1312], [], [], []] = true := by decide +kernel
theorem nX12_worst : tX12_worst.length = 85 := by decide +kernel
theorem okX12_worst : tOK RX12 "worst" cX12_worst MT tX12_worst := tOK_of (fun j x hj hx => if h0 : j < 60 then cks_ok qX12_worst_0 j x (by omega) (by omega) hx else cks_ok qX12_worst_1 j x (by omega) (by rw [nX12_worst] at hj; omega) hx)
set_option maxRecDepth 100000 in
theorem qX12_findValues_0 : cks RX12 "findValues" cX12_findValues tX12_findValues 0 60 [[], [], [1238, 1240, 29, 81, 1241], [], [], [], [1266, 1268, 36, 81, 1269], [], [], [], [], [], [], [], [1270, 1272, 37, 81, 1273], [], [], [], [], [], [], [], [], [], [], [], [], [], [], [], [], [1069], [], [], [], [], [], [], [], [], [], [], [], [], [], [], [], [1274, 1276, 38, 81, 1277], [], [], [], [], [1060], [], [], [], [], [], [], []] = true := by decide +kernel
set_option maxRecDepth 100000 in
theorem qX12_findValues_1 : cks RX12 "findValues" cX12_findValues tX12_findValues 60 60 [[], [1078], [], [], [], [1079], [], [], [], [1076], [], [], [], [1077], [], [], [1306, 1307, 81, 1308], [], [], [1076], [], [], [], [1077], [], [], [], [1078], [], [], [], [1079], [], [], [1306, 1307, 81, 1308], [], [], [], [], [], [], [1076], [], [], [1078], [], [], [], [], [1077], [], [], [1079], [], [], [], [], [], [], []] = true := by decide +kernel
set_option maxRecDepth 100000 in
theorem qX12_findValues_2 : cks RX12 "findValues" cX12_findValues tX12_findValues 120 8 [[], [], [], [1309, 1311, 46, 81, 1312], [], [], [], []] = true := by decide +kernel
theorem nX12_findValues : tX12_findValues.length = 128 := by decide +kernel
theorem okX12_findValues : tOK RX12 "findValues" cX12_findValues MT tX12_findValues := tOK_of (fun j x hj hx => if h0 : j < 60 then cks_ok qX12_findValues_0 j x (by omega) (by omega) hx else if h1 : j < 120 then cks_ok qX12_findValues_1 j x (by omega) (by omega) hx else cks_ok qX12_findValues_2 j x (by omega) (by rw [nX12_findValues] at hj; omega) hx)
set_option maxRecDepth 100000 in
theorem qX12_value_0 : cks RX12 "value" cX12_value tX12_value 0 46 [[], [], [1059], [], [], [1186, 1188, 23, 81, 1189], [], [], [], [], [], [1191, 1192, 81, 1193], [], [1232], [], [], [1224, 1226, 27, 81, 1227], [], [1233], [], [], [], [1234, 1236, 28, 81, 1237], [], [1313], [], [], [], [], [], [], [], [], [], [], [], [], [1076], [], [], [], [], [1077], [], [], []] = true := by decide +kernel
theorem nX12_value : tX12_value.length = 46 := by decide +kernel
theorem okX12_value : tOK RX12 "value" cX12_value MT tX12_value := tOK_of (fun j x hj hx => cks_ok qX12_value_0 j x (by omega) (by rw [nX12_value] at hj; omega) hx)
set_option maxRecDepth 100000 in
theorem qX12_findSum_0 : cks RX12 "findSum" cX12_findSum tX12_findSum 0 60 [[], [], [1080], [], [], [1081], [], [], [], [], [1065], [], [], [], [], [1066], [], [], [], [], [], [], [], [], [1067], [], [], [], [], [], [], [], [], [1076], [], [], [], [], [1207], [], [1077], [], [], [], [], [], [], [], [1302, 1304, 45, 81, 1305], [], [], [], [], [], [], [], [], [], [], []] = true := by decide +kernel
set_option maxRecDepth 100000 in
theorem qX12_findSum_1 : cks RX12 "findSum" cX12_findSum tX12_findSum 60 49 [[1081], [], [1302, 1304, 45, 81, 1305], [], [], [], [1080], [], [], [], [], [], [], [1081], [], [], [], [], [1080], [], [], [1081], [], [], [], [], [1081], [], [], [1080], [], [1081], [1302, 1304, 45, 81, 1305], [], [], [], [1080], [], [], [1080], [], [], [1081], [], [], [1081], [], [], []] = true := by decide +kernel
theorem nX12_findSum : tX12_findSum.length = 109 := by decide +kernel
theorem okX12_findSum : tOK RX12 "findSum" cX12_findSum MT tX12_findSum := tOK_of (fun j x hj hx => if h0 : j < 60 then cks_ok qX12_findSum_0 j x (by omega) (by omega) hx else cks_ok qX12_findSum_1 j x (by omega) (by rw [nX12_findSum] at hj; omega) hx)
set_option maxRecDepth 100000 in
theorem qX12_isJust_0 : cks RX12 "isJust" cX12_isJust tX12_isJust 0 27 [[], [], [], [], [], [], [1334, 1336, 51, 81, 1337], [], [1080], [], [1076], [], [], [], [], [], [1081], [], [1077], [], [], [], [], [], [], [], []] = true := by decide +kernel
theorem nX12_isJust : tX12_isJust.length = 27 := by decide +kernel
theorem okX12_isJust : tOK RX12 "isJust" cX12_isJust MT tX12_isJust := tOK_of (fun j x hj hx => cks_ok qX12_isJust_0 j x (by omega) (by rw [nX12_isJust] at hj; omega) hx)
set_option maxRecDepth 100000 in
theorem qX12_nearest_0 : cks RX12 "nearest" cX12_nearest tX12_nearest 0 41 [[], [], [], [], [], [], [1065], [], [], [], [], [1082], [], [1066], [], [], [], [], [], [], [], [], [], [], [1082], [], [1066], [], [], [], [], [], [], [], [], [], [], [], [], [], []] = true := by decide +kernel
theorem nX12_nearest : tX12_nearest.length = 41 := by decide +kernel
theorem okX12_nearest : tOK RX12 "nearest" cX12_nearest MT tX12_nearest := tOK_of (fun j x hj hx => cks_ok qX12_nearest_0 j x (by omega) (by rw [nX12_nearest] at hj; omega) hx)
end
section
/-! CERTIFICATES (by program: wip/whole/gen_certs.py) -/
set_option maxRecDepth 100000 in
theorem qX12_findDistances_0 : cks RX12 "findDistances" cX12_findDistances tX12_findDistances 0 60 [[], [], [], [], [1060], [], [], [1082], [], [], [], [1322, 1324, 48, 81, 1325], [], [], [], [], [], [], [], [], [], [], [], [], [], [], [], [], [1060], [], [], [], [], [], [1062], [], [], [], [], [1076], [], [], [], [], [], [], [], [], [1330, 1332, 50, 81, 1333], [], [], [], [], [], [], [], [], [1338, 1340, 52, 81, 1341], [], []] = true := by decide +kernel
set_option maxRecDepth 100000 in
theorem qX12_findDistances_1 : cks RX12 "findDistances" cX12_findDistances tX12_findDistances 60 25 [[], [], [], [1082], [], [], [], [1082], [], [], [], [], [], [], [1082], [], [], [], [], [], [], [], [], [], []] = true := by decide +kernel
theorem nX12_findDistances : tX12_findDistances.length = 85 := by decide +kernel
theorem okX12_findDistances : tOK RX12 "findDistances" cX12_findDistances MT tX12_findDistances := tOK_of (fun j x hj hx => if h0 : j < 60 then cks_ok qX12_findDistances_0 j x (by omega) (by omega) hx else cks_ok qX12_findDistances_1 j x (by omega) (by rw [nX12_findDistances] at hj; omega) hx)
set_option maxRecDepth 100000 in
theorem qX12_refusal_0 : cks RX12 "refusal" cX12_refusal tX12_refusal 0 13 [[], [1224, 1226, 27, 81, 1227], [], [1233], [], [], [], [1234, 1236, 28, 81, 1237], [], [1313], [], [], []] = true := by decide +kernel
theorem nX12_refusal : tX12_refusal.length = 13 := by decide +kernel
theorem okX12_refusal : tOK RX12 "refusal" cX12_refusal MT tX12_refusal := tOK_of (fun j x hj hx => cks_ok qX12_refusal_0 j x (by omega) (by rw [nX12_refusal] at hj; omega) hx)
set_option maxRecDepth 100000 in
theorem qX12_choice_0 : cks RX12 "choice" cX12_choice tX12_choice 0 60 [[], [], [1059], [], [], [1186, 1188, 23, 81, 1189], [], [], [1062], [], [], [], [], [], [], [1318, 1320, 47, 81, 1321], [], [], [], [], [], [], [], [], [1322, 1324, 48, 81, 1325], [], [], [], [], [1326, 1328, 49, 81, 1329], [], [1076], [], [], [], [], [], [], [], [1195, 1197, 24, 81, 1198], [], [], [], [], [], [], [], [], [], [1062], [], [], [], [], [], [], [1330, 1332, 50, 81, 1333], [], [], []] = true := by decide +kernel
set_option maxRecDepth 100000 in
theorem qX12_choice_1 : cks RX12 "choice" cX12_choice tX12_choice 60 18 [[], [], [], [], [], [], [1338, 1340, 52, 81, 1341], [], [1082], [], [], [], [], [], [], [], [], []] = true := by decide +kernel
theorem nX12_choice : tX12_choice.length = 78 := by decide +kernel
theorem okX12_choice : tOK RX12 "choice" cX12_choice MT tX12_choice := tOK_of (fun j x hj hx => if h0 : j < 60 then cks_ok qX12_choice_0 j x (by omega) (by omega) hx else cks_ok qX12_choice_1 j x (by omega) (by rw [nX12_choice] at hj; omega) hx)
set_option maxRecDepth 100000 in
theorem qX12_distance_0 : cks RX12 "distance" cX12_distance tX12_distance 0 33 [[], [], [1059], [], [], [1186, 1188, 23, 81, 1189], [], [], [], [], [1318, 1320, 47, 81, 1321], [], [], [], [], [], [], [], [1076], [], [], [], [], [], [], [], [], [1326, 1328, 49, 81, 1329], [], [1082], [], [], []] = true := by decide +kernel
theorem nX12_distance : tX12_distance.length = 33 := by decide +kernel
theorem okX12_distance : tOK RX12 "distance" cX12_distance MT tX12_distance := tOK_of (fun j x hj hx => cks_ok qX12_distance_0 j x (by omega) (by rw [nX12_distance] at hj; omega) hx)
set_option maxRecDepth 100000 in
theorem qX12_sum_0 : cks RX12 "sum" cX12_sum tX12_sum 0 40 [[], [], [1059], [], [], [], [1203, 1205, 25, 81, 1206], [], [], [], [], [], [1191, 1192, 81, 1193], [], [1232], [], [], [1318, 1320, 47, 81, 1321], [], [], [], [], [], [], [], [], [], [], [], [], [], [1334, 1336, 51, 81, 1337], [], [], [], [1080], [], [], [1081], []] = true := by decide +kernel
theorem nX12_sum : tX12_sum.length = 40 := by decide +kernel
theorem okX12_sum : tOK RX12 "sum" cX12_sum MT tX12_sum := tOK_of (fun j x hj hx => cks_ok qX12_sum_0 j x (by omega) (by rw [nX12_sum] at hj; omega) hx)
set_option maxRecDepth 100000 in
theorem qX12_start_0 : cks RX12 "start" cX12_start tX12_start 0 22 [[], [], [1085], [], [], [], [], [], [], [1083], [], [], [], [1322, 1324, 48, 81, 1325], [], [], [], [], [], [], [], []] = true := by decide +kernel
theorem nX12_start : tX12_start.length = 22 := by decide +kernel
theorem okX12_start : tOK RX12 "start" cX12_start MT tX12_start := tOK_of (fun j x hj hx => cks_ok qX12_start_0 j x (by omega) (by rw [nX12_start] at hj; omega) hx)
set_option maxRecDepth 100000 in
theorem qX12_onwards_0 : cks RX12 "onwards" cX12_onwards tX12_onwards 0 60 [[], [], [1085], [1207], [], [1085], [], [], [], [], [1060], [], [], [1084], [], [], [], [1322, 1324, 48, 81, 1325], [], [], [1085], [], [], [], [], [], [], [], [1062], [], [], [], [], [], [1322, 1324, 48, 81, 1325], [], [], [], [], [], [], [], [1065], [], [], [], [], [], [], [], [], [], [1067], [], [], [], [], [], [], []] = true := by decide +kernel
set_option maxRecDepth 100000 in
theorem qX12_onwards_1 : cks RX12 "onwards" cX12_onwards tX12_onwards 60 60 [[], [], [], [], [], [1083], [], [1066], [], [], [], [], [], [], [], [], [], [], [], [], [], [], [], [], [], [], [], [1262, 1264, 35, 81, 1265], [], [], [], [1084], [], [], [], [], [], [], [], [], [], [], [1084], [], [], [], [], [], [], [], [], [], [1084], [], [], [], [], [], [], []] = true := by decide +kernel
set_option maxRecDepth 100000 in
theorem qX12_onwards_2 : cks RX12 "onwards" cX12_onwards tX12_onwards 120 26 [[], [1084], [], [], [], [], [], [], [], [], [], [], [], [1060], [], [], [1083], [], [], [1084], [], [], [], [], [], []] = true := by decide +kernel
theorem nX12_onwards : tX12_onwards.length = 146 := by decide +kernel
theorem okX12_onwards : tOK RX12 "onwards" cX12_onwards MT tX12_onwards := tOK_of (fun j x hj hx => if h0 : j < 60 then cks_ok qX12_onwards_0 j x (by omega) (by omega) hx else if h1 : j < 120 then cks_ok qX12_onwards_1 j x (by omega) (by omega) hx else cks_ok qX12_onwards_2 j x (by omega) (by rw [nX12_onwards] at hj; omega) hx)
set_option maxRecDepth 100000 in
theorem qX12_within_0 : cks RX12 "within" cX12_within tX12_within 0 59 [[], [], [1059], [], [], [1186, 1188, 23, 81, 1189], [], [], [], [], [1354], [1191, 1192, 81, 1193], [], [], [], [], [], [1191, 1192, 81, 1193], [], [1232], [], [], [1224, 1226, 27, 81, 1227], [], [1233], [], [], [1355, 1357, 53, 81, 1358], [], [], [], [], [], [], [], [1359, 1361, 54, 81, 1362], [], [], [], [], [1083], [], [], [], [1085], [1302, 1304, 45, 81, 1305], [], [], [], [], [1083], [], [], [], [], [1085], [], [], []] = true := by decide +kernel
theorem nX12_within : tX12_within.length = 59 := by decide +kernel
theorem okX12_within : tOK RX12 "within" cX12_within MT tX12_within := tOK_of (fun j x hj hx => cks_ok qX12_within_0 j x (by omega) (by rw [nX12_within] at hj; omega) hx)
set_option maxRecDepth 100000 in
theorem qX12_bound_0 : cks RX12 "bound" cX12_bound tX12_bound 0 49 [[], [], [1059], [], [], [1186, 1188, 23, 81, 1189], [], [], [], [], [1207], [1191, 1192, 81, 1193], [], [], [], [], [1224, 1226, 27, 81, 1227], [], [], [], [], [1355, 1357, 53, 81, 1358], [], [], [], [], [], [1207], [], [1083], [], [], [], [], [], [], [1085], [], [], [], [], [], [], [], [1359, 1361, 54, 81, 1362], [], [], [], []] = true := by decide +kernel
theorem nX12_bound : tX12_bound.length = 49 := by decide +kernel
theorem okX12_bound : tOK RX12 "bound" cX12_bound MT tX12_bound := tOK_of (fun j x hj hx => cks_ok qX12_bound_0 j x (by omega) (by rw [nX12_bound] at hj; omega) hx)
set_option maxRecDepth 100000 in
theorem qX12_sets_0 : cks RX12 "sets" cX12_sets tX12_sets 0 40 [[], [], [1059], [], [], [], [1190], [1191, 1192, 81, 1193], [], [], [], [], [1224, 1226, 27, 81, 1227], [], [], [], [], [], [], [], [], [], [], [], [], [], [], [], [], [1238, 1240, 29, 81, 1241], [], [], [1242, 1244, 30, 81, 1245], [], [], [1266, 1268, 36, 81, 1269], [], [], [], []] = true := by decide +kernel
theorem nX12_sets : tX12_sets.length = 40 := by decide +kernel
theorem okX12_sets : tOK RX12 "sets" cX12_sets MT tX12_sets := tOK_of (fun j x hj hx => cks_ok qX12_sets_0 j x (by omega) (by rw [nX12_sets] at hj; omega) hx)
set_option maxRecDepth 100000 in
theorem qX12_reachedFrom_0 : cks RX12 "reachedFrom" cX12_reachedFrom tX12_reachedFrom 0 60 [[], [], [], [], [], [], [], [], [], [], [], [], [], [], [], [1060], [], [], [], [], [], [], [], [], [], [], [], [], [], [], [], [1062], [], [], [], [], [], [], [], [], [1254, 1256, 33, 81, 1257], [], [], [], [], [], [], [], [], [], [1065], [], [], [], [], [], [], [], [], [1066]] = true := by decide +kernel
set_option maxRecDepth 100000 in
theorem qX12_reachedFrom_1 : cks RX12 "reachedFrom" cX12_reachedFrom tX12_reachedFrom 60 23 [[], [], [], [], [], [], [], [], [], [], [], [], [], [], [], [], [], [], [], [], [], [], []] = true := by decide +kernel
theorem nX12_reachedFrom : tX12_reachedFrom.length = 83 := by decide +kernel
theorem okX12_reachedFrom : tOK RX12 "reachedFrom" cX12_reachedFrom MT tX12_reachedFrom := tOK_of (fun j x hj hx => if h0 : j < 60 then cks_ok qX12_reachedFrom_0 j x (by omega) (by omega) hx else cks_ok qX12_reachedFrom_1 j x (by omega) (by rw [nX12_reachedFrom] at hj; omega) hx)
set_option maxRecDepth 100000 in
theorem qX12_reached_0 : cks RX12 "reached" cX12_reached tX12_reached 0 15 [[], [], [1059], [], [], [1186, 1188, 23, 81, 1189], [], [], [], [], [1242, 1244, 30, 81, 1245], [1375, 1377, 55, 81, 1378], [], [], []] = true := by decide +kernel
theorem nX12_reached : tX12_reached.length = 15 := by decide +kernel
theorem okX12_reached : tOK RX12 "reached" cX12_reached MT tX12_reached := tOK_of (fun j x hj hx => cks_ok qX12_reached_0 j x (by omega) (by rw [nX12_reached] at hj; omega) hx)
set_option maxRecDepth 100000 in
theorem qX12_sureChosen_0 : cks RX12 "sureChosen" cX12_sureChosen tX12_sureChosen 0 60 [[], [], [], [], [], [], [], [], [1061], [], [], [], [], [], [], [], [1061], [1282, 1284, 40, 81, 1285], [], [], [], [], [], [1060], [], [], [], [], [], [], [], [], [], [], [], [], [], [1069], [], [], [], [], [1254, 1256, 33, 81, 1257], [], [], [], [], [], [], [], [], [], [], [], [], [], [], [], [], []] = true := by decide +kernel
set_option maxRecDepth 100000 in
theorem qX12_sureChosen_1 : cks RX12 "sureChosen" cX12_sureChosen tX12_sureChosen 60 12 [[], [], [], [], [], [], [], [], [], [], [], []] = true := by decide +kernel
theorem nX12_sureChosen : tX12_sureChosen.length = 72 := by decide +kernel
theorem okX12_sureChosen : tOK RX12 "sureChosen" cX12_sureChosen MT tX12_sureChosen := tOK_of (fun j x hj hx => if h0 : j < 60 then cks_ok qX12_sureChosen_0 j x (by omega) (by omega) hx else cks_ok qX12_sureChosen_1 j x (by omega) (by rw [nX12_sureChosen] at hj; omega) hx)
set_option maxRecDepth 100000 in
theorem qX12_costsChosen_0 : cks RX12 "costsChosen" cX12_costsChosen tX12_costsChosen 0 60 [[], [], [1071], [], [], [], [], [1060], [], [], [], [], [], [], [], [], [], [1070], [], [1071], [], [], [], [], [1071], [], [], [1071], [], [], [], [], [], [], [1071], [], [], [], [], [1070], [], [], [1286, 1288, 41, 81, 1289], [], [1073], [], [1207], [], [1064], [], [], [1070], [], [], [], [], [1069], [], [1070], []] = true := by decide +kernel
set_option maxRecDepth 100000 in
theorem qX12_costsChosen_1 : cks RX12 "costsChosen" cX12_costsChosen tX12_costsChosen 60 12 [[], [], [], [], [], [], [], [], [], [], [1294, 1296, 43, 81, 1297], []] = true := by decide +kernel
theorem nX12_costsChosen : tX12_costsChosen.length = 72 := by decide +kernel
theorem okX12_costsChosen : tOK RX12 "costsChosen" cX12_costsChosen MT tX12_costsChosen := tOK_of (fun j x hj hx => if h0 : j < 60 then cks_ok qX12_costsChosen_0 j x (by omega) (by omega) hx else cks_ok qX12_costsChosen_1 j x (by omega) (by rw [nX12_costsChosen] at hj; omega) hx)
set_option maxRecDepth 100000 in
theorem qX12_cost_0 : cks RX12 "cost" cX12_cost tX12_cost 0 60 [[], [], [1059], [], [], [1186, 1188, 23, 81, 1189], [], [], [], [], [], [1191, 1192, 81, 1193], [], [1232], [], [], [1224, 1226, 27, 81, 1227], [], [1233], [], [], [], [1238, 1240, 29, 81, 1241], [], [], [], [1061], [], [], [], [], [], [], [], [], [], [], [1060], [], [], [], [], [], [1195, 1197, 24, 81, 1198], [], [], [], [], [], [], [], [], [], [], [], [1270, 1272, 37, 81, 1273], [], [], [1313], []] = true := by decide +kernel
set_option maxRecDepth 100000 in
theorem qX12_cost_1 : cks RX12 "cost" cX12_cost tX12_cost 60 60 [[], [], [], [], [], [], [1383], [], [], [], [1322, 1324, 48, 81, 1325], [], [], [], [], [], [], [], [], [], [], [1069], [], [], [], [], [], [1232], [], [], [], [], [], [], [], [], [], [1384, 1386, 56, 81, 1387], [], [], [], [], [], [], [], [], [], [], [1388, 1390, 57, 81, 1391], [], [], [], [], [], [1074], [], [], [], [1075], []] = true := by decide +kernel
set_option maxRecDepth 100000 in
theorem qX12_cost_2 : cks RX12 "cost" cX12_cost tX12_cost 120 27 [[], [], [], [1306, 1307, 81, 1308], [], [], [1074], [], [], [], [], [1075], [], [], [], [], [], [], [1309, 1311, 46, 81, 1312], [], [], [], [], [], [], [], []] = true := by decide +kernel
theorem nX12_cost : tX12_cost.length = 147 := by decide +kernel
theorem okX12_cost : tOK RX12 "cost" cX12_cost MT tX12_cost := tOK_of (fun j x hj hx => if h0 : j < 60 then cks_ok qX12_cost_0 j x (by omega) (by omega) hx else if h1 : j < 120 then cks_ok qX12_cost_1 j x (by omega) (by omega) hx else cks_ok qX12_cost_2 j x (by omega) (by rw [nX12_cost] at hj; omega) hx)
set_option maxRecDepth 100000 in
theorem qX12_together_0 : cks RX12 "together" cX12_together tX12_together 0 50 [[], [], [], [1375, 1377, 55, 81, 1378], [], [], [], [], [], [], [], [], [], [1060], [], [], [], [], [], [], [], [], [], [], [], [1375, 1377, 55, 81, 1378], [], [], [], [], [], [], [], [], [], [], [], [], [], [], [], [], [], [], [], [], [], [], [], []] = true := by decide +kernel
theorem nX12_together : tX12_together.length = 50 := by decide +kernel
theorem okX12_together : tOK RX12 "together" cX12_together MT tX12_together := tOK_of (fun j x hj hx => cks_ok qX12_together_0 j x (by omega) (by rw [nX12_together] at hj; omega) hx)
set_option maxRecDepth 100000 in
theorem qX12_staying_0 : cks RX12 "staying" cX12_staying tX12_staying 0 54 [[], [], [], [], [], [], [], [1060], [], [], [], [], [], [], [1062], [], [], [], [], [], [], [], [], [], [], [], [], [], [], [], [], [], [1254, 1256, 33, 81, 1257], [], [], [], [], [], [], [], [], [], [], [], [], [], [], [], [], [], [], [], [], []] = true := by decide +kernel
theorem nX12_staying : tX12_staying.length = 54 := by decide +kernel
theorem okX12_staying : tOK RX12 "staying" cX12_staying MT tX12_staying := tOK_of (fun j x hj hx => cks_ok qX12_staying_0 j x (by omega) (by rw [nX12_staying] at hj; omega) hx)
set_option maxRecDepth 100000 in
theorem qX12_holeOf_0 : cks RX12 "holeOf" cX12_holeOf tX12_holeOf 0 42 [[], [1242, 1244, 30, 81, 1245], [], [], [], [], [], [], [], [], [], [], [], [], [], [], [], [], [1405, 1407, 60, 81, 1408], [1409, 1411, 61, 81, 1412], [], [], [], [], [], [], [], [], [], [], [], [], [], [], [], [], [], [], [], [], [], []] = true := by decide +kernel
theorem nX12_holeOf : tX12_holeOf.length = 42 := by decide +kernel
theorem okX12_holeOf : tOK RX12 "holeOf" cX12_holeOf MT tX12_holeOf := tOK_of (fun j x hj hx => cks_ok qX12_holeOf_0 j x (by omega) (by rw [nX12_holeOf] at hj; omega) hx)
set_option maxRecDepth 100000 in
theorem qX12_findHoles_0 : cks RX12 "findHoles" cX12_findHoles tX12_findHoles 0 45 [[], [], [1089], [], [], [], [], [], [], [1060], [], [], [], [], [], [], [], [], [], [], [], [], [1401, 1403, 59, 81, 1404], [], [], [], [], [1088], [], [1089], [], [], [], [], [1089], [], [], [1089], [], [], [], [], [], [], []] = true := by decide +kernel
theorem nX12_findHoles : tX12_findHoles.length = 45 := by decide +kernel
theorem okX12_findHoles : tOK RX12 "findHoles" cX12_findHoles MT tX12_findHoles := tOK_of (fun j x hj hx => cks_ok qX12_findHoles_0 j x (by omega) (by rw [nX12_findHoles] at hj; omega) hx)
end
section
/-! CERTIFICATES (by program: wip/whole/gen_certs.py) -/
set_option maxRecDepth 100000 in
theorem qX12_hole_0 : cks RX12 "hole" cX12_hole tX12_hole 0 60 [[], [], [1059], [], [], [], [1396], [1191, 1192, 81, 1193], [], [], [], [], [1224, 1226, 27, 81, 1227], [], [], [], [], [1397, 1399, 58, 81, 1400], [], [], [], [1089], [], [], [], [], [], [1089], [], [], [], [], [], [], [], [], [], [], [1060], [], [], [], [], [], [], [], [1062], [], [], [], [], [], [], [1088], [], [], [], [], [], []] = true := by decide +kernel
set_option maxRecDepth 100000 in
theorem qX12_hole_1 : cks RX12 "hole" cX12_hole tX12_hole 60 29 [[], [], [], [], [], [], [], [1088], [], [], [1254, 1256, 33, 81, 1257], [], [], [], [], [], [], [], [], [], [], [], [], [1088], [], [], [], [], []] = true := by decide +kernel
theorem nX12_hole : tX12_hole.length = 89 := by decide +kernel
theorem okX12_hole : tOK RX12 "hole" cX12_hole MT tX12_hole := tOK_of (fun j x hj hx => if h0 : j < 60 then cks_ok qX12_hole_0 j x (by omega) (by omega) hx else cks_ok qX12_hole_1 j x (by omega) (by rw [nX12_hole] at hj; omega) hx)
set_option maxRecDepth 100000 in
theorem qX12_partIn_0 : cks RX12 "partIn" cX12_partIn tX12_partIn 0 40 [[], [], [], [], [], [], [1065], [], [], [], [], [], [1090], [], [1066], [], [], [], [], [], [], [], [], [], [], [1067], [], [], [], [], [], [], [], [], [], [], [], [], [], []] = true := by decide +kernel
theorem nX12_partIn : tX12_partIn.length = 40 := by decide +kernel
theorem okX12_partIn : tOK RX12 "partIn" cX12_partIn MT tX12_partIn := tOK_of (fun j x hj hx => cks_ok qX12_partIn_0 j x (by omega) (by rw [nX12_partIn] at hj; omega) hx)
set_option maxRecDepth 100000 in
theorem qX12_areLike_0 : cks RX12 "areLike" cX12_areLike tX12_areLike 0 56 [[], [1064], [], [], [], [1064], [], [], [], [], [1063], [], [], [], [], [], [], [], [], [1063], [], [], [], [], [], [], [], [], [], [], [], [], [], [], [], [], [], [], [], [], [], [], [1429, 1431, 65, 81, 1432], [], [], [], [1429, 1431, 65, 81, 1432], [], [], [], [], [], [], [], [], []] = true := by decide +kernel
theorem nX12_areLike : tX12_areLike.length = 56 := by decide +kernel
theorem okX12_areLike : tOK RX12 "areLike" cX12_areLike MT tX12_areLike := tOK_of (fun j x hj hx => cks_ok qX12_areLike_0 j x (by omega) (by rw [nX12_areLike] at hj; omega) hx)
set_option maxRecDepth 100000 in
theorem qX12_hasAll_0 : cks RX12 "hasAll" cX12_hasAll tX12_hasAll 0 53 [[], [], [], [], [], [], [1062], [], [], [], [], [], [], [], [], [], [1062], [], [], [], [], [], [], [], [], [], [], [], [], [], [], [], [], [1425, 1427, 64, 81, 1428], [], [], [], [], [], [], [], [], [], [], [], [], [], [], [], [], [], [], []] = true := by decide +kernel
theorem nX12_hasAll : tX12_hasAll.length = 53 := by decide +kernel
theorem okX12_hasAll : tOK RX12 "hasAll" cX12_hasAll MT tX12_hasAll := tOK_of (fun j x hj hx => cks_ok qX12_hasAll_0 j x (by omega) (by rw [nX12_hasAll] at hj; omega) hx)
set_option maxRecDepth 100000 in
theorem qX12_findClasses_0 : cks RX12 "findClasses" cX12_findClasses tX12_findClasses 0 60 [[], [], [], [], [1060], [], [], [1090], [], [], [], [1322, 1324, 48, 81, 1325], [], [], [], [], [], [], [], [], [], [], [], [], [], [], [], [], [], [], [], [], [1060], [], [], [], [], [], [], [], [], [], [], [], [1090], [], [], [], [1090], [], [], [], [], [], [], [1421, 1423, 63, 81, 1424], [], [], [], []] = true := by decide +kernel
set_option maxRecDepth 100000 in
theorem qX12_findClasses_1 : cks RX12 "findClasses" cX12_findClasses tX12_findClasses 60 50 [[1421, 1423, 63, 81, 1424], [], [], [1091], [], [], [], [], [], [], [], [], [1091], [], [], [], [], [], [], [], [], [], [], [], [], [], [], [], [], [], [], [], [], [], [1060], [], [], [1090], [], [], [1091], [], [], [], [], [], [], [], [], []] = true := by decide +kernel
theorem nX12_findClasses : tX12_findClasses.length = 110 := by decide +kernel
theorem okX12_findClasses : tOK RX12 "findClasses" cX12_findClasses MT tX12_findClasses := tOK_of (fun j x hj hx => if h0 : j < 60 then cks_ok qX12_findClasses_0 j x (by omega) (by omega) hx else cks_ok qX12_findClasses_1 j x (by omega) (by rw [nX12_findClasses] at hj; omega) hx)
set_option maxRecDepth 100000 in
theorem qX12_twin_0 : cks RX12 "twin" cX12_twin tX12_twin 0 22 [[], [], [1059], [], [], [1186, 1188, 23, 81, 1189], [], [], [], [], [1224, 1226, 27, 81, 1227], [], [], [], [], [1417, 1419, 62, 81, 1420], [], [], [1090], [], [], []] = true := by decide +kernel
theorem nX12_twin : tX12_twin.length = 22 := by decide +kernel
theorem okX12_twin : tOK RX12 "twin" cX12_twin MT tX12_twin := tOK_of (fun j x hj hx => cks_ok qX12_twin_0 j x (by omega) (by rw [nX12_twin] at hj; omega) hx)
set_option maxRecDepth 100000 in
theorem qX12_count_0 : cks RX12 "count" cX12_count tX12_count 0 60 [[], [], [1059], [], [], [], [], [], [1060], [], [], [], [], [], [1224, 1226, 27, 81, 1227], [], [], [], [], [1417, 1419, 62, 81, 1420], [], [], [], [], [1190], [1191, 1192, 81, 1193], [], [], [], [], [], [], [], [], [1060], [], [], [], [], [], [], [1062], [], [], [], [], [], [], [], [], [], [], [], [], [], [], [], [], [], []] = true := by decide +kernel
set_option maxRecDepth 100000 in
theorem qX12_count_1 : cks RX12 "count" cX12_count tX12_count 60 24 [[], [], [], [], [], [1065], [], [], [], [], [1063], [], [], [], [], [], [], [], [], [], [], [], [], []] = true := by decide +kernel
theorem nX12_count : tX12_count.length = 84 := by decide +kernel
theorem okX12_count : tOK RX12 "count" cX12_count MT tX12_count := tOK_of (fun j x hj hx => if h0 : j < 60 then cks_ok qX12_count_0 j x (by omega) (by omega) hx else cks_ok qX12_count_1 j x (by omega) (by rw [nX12_count] at hj; omega) hx)
set_option maxRecDepth 100000 in
theorem qX12_look_0 : cks RX12 "look" cX12_look tX12_look 0 60 [[], [], [1059], [], [], [], [1203, 1205, 25, 81, 1206], [], [], [], [], [1354], [1191, 1192, 81, 1193], [], [], [], [], [], [], [], [], [], [], [], [], [], [], [], [1063], [], [], [], [], [], [], [], [1064], [], [], [], [], [1065], [], [], [], [], [], [], [], [], [], [], [], [1065], [], [], [], [], [], []] = true := by decide +kernel
set_option maxRecDepth 100000 in
theorem qX12_look_1 : cks RX12 "look" cX12_look tX12_look 60 20 [[], [], [], [1066], [], [], [], [], [], [], [], [], [1067], [], [], [], [], [], [], []] = true := by decide +kernel
theorem nX12_look : tX12_look.length = 80 := by decide +kernel
theorem okX12_look : tOK RX12 "look" cX12_look MT tX12_look := tOK_of (fun j x hj hx => if h0 : j < 60 then cks_ok qX12_look_0 j x (by omega) (by omega) hx else cks_ok qX12_look_1 j x (by omega) (by rw [nX12_look] at hj; omega) hx)
set_option maxRecDepth 100000 in
theorem qX12_isShelf_0 : cks RX12 "isShelf" cX12_isShelf tX12_isShelf 0 9 [[], [], [], [], [], [], [], [], []] = true := by decide +kernel
theorem nX12_isShelf : tX12_isShelf.length = 9 := by decide +kernel
theorem okX12_isShelf : tOK RX12 "isShelf" cX12_isShelf MT tX12_isShelf := tOK_of (fun j x hj hx => cks_ok qX12_isShelf_0 j x (by omega) (by rw [nX12_isShelf] at hj; omega) hx)
set_option maxRecDepth 100000 in
theorem qX12_weightOf_0 : cks RX12 "weightOf" cX12_weightOf tX12_weightOf 0 45 [[], [1064], [], [], [], [], [1065], [], [], [], [], [], [], [1063], [], [], [], [], [], [], [1063], [], [], [], [], [], [], [], [], [], [1063], [], [], [], [], [], [], [], [], [], [], [], [], [], []] = true := by decide +kernel
theorem nX12_weightOf : tX12_weightOf.length = 45 := by decide +kernel
theorem okX12_weightOf : tOK RX12 "weightOf" cX12_weightOf MT tX12_weightOf := tOK_of (fun j x hj hx => cks_ok qX12_weightOf_0 j x (by omega) (by rw [nX12_weightOf] at hj; omega) hx)
set_option maxRecDepth 100000 in
theorem qX12_keep_0 : cks RX12 "keep" cX12_keep tX12_keep 0 60 [[], [], [1059], [], [1445, 1446, 81, 1447], [], [], [], [], [1448], [1191, 1192, 81, 1193], [], [], [], [], [], [], [], [], [], [], [1203, 1205, 25, 81, 1206], [], [], [], [], [], [], [1186, 1188, 23, 81, 1189], [], [], [], [], [], [], [], [], [], [], [], [], [], [], [], [], [1318, 1320, 47, 81, 1321], [], [], [], [], [], [], [], [], [], [1092], [], [], [], []] = true := by decide +kernel
set_option maxRecDepth 100000 in
theorem qX12_keep_1 : cks RX12 "keep" cX12_keep tX12_keep 60 60 [[1093], [], [], [], [], [], [1065], [], [], [], [], [], [], [], [], [], [], [], [], [1060], [], [], [], [], [], [], [], [], [], [], [], [1094], [], [], [], [], [], [], [], [], [], [], [1449, 1451, 66, 81, 1452], [], [], [], [1076], [], [], [], [], [], [], [], [1093], [], [], [], [], [1095]] = true := by decide +kernel
set_option maxRecDepth 100000 in
theorem qX12_keep_2 : cks RX12 "keep" cX12_keep tX12_keep 120 44 [[], [], [], [], [], [], [], [], [], [1067], [], [], [], [], [], [], [], [], [], [], [], [], [], [], [], [], [], [1076], [], [], [], [], [], [], [1077], [], [], [], [], [], [], [], [], []] = true := by decide +kernel
theorem nX12_keep : tX12_keep.length = 164 := by decide +kernel
theorem okX12_keep : tOK RX12 "keep" cX12_keep MT tX12_keep := tOK_of (fun j x hj hx => if h0 : j < 60 then cks_ok qX12_keep_0 j x (by omega) (by omega) hx else if h1 : j < 120 then cks_ok qX12_keep_1 j x (by omega) (by omega) hx else cks_ok qX12_keep_2 j x (by omega) (by rw [nX12_keep] at hj; omega) hx)
set_option maxRecDepth 100000 in
theorem qX12_make_0 : cks RX12 "make" cX12_make tX12_make 0 49 [[], [], [1059], [], [1445, 1446, 81, 1447], [], [], [], [1190], [1448], [1191, 1192, 81, 1193], [], [], [], [], [], [], [], [], [], [], [], [1092], [], [], [], [], [1093], [], [], [], [], [], [], [], [], [], [1095], [], [], [], [], [], [], [], [], [], [], []] = true := by decide +kernel
theorem nX12_make : tX12_make.length = 49 := by decide +kernel
theorem okX12_make : tOK RX12 "make" cX12_make MT tX12_make := tOK_of (fun j x hj hx => cks_ok qX12_make_0 j x (by omega) (by rw [nX12_make] at hj; omega) hx)
set_option maxRecDepth 100000 in
theorem qX12_element_0 : cks RX12 "element" cX12_element tX12_element 0 50 [[], [1445, 1446, 81, 1447], [], [], [1092], [], [], [], [], [], [], [], [], [1093], [], [], [], [], [], [1191, 1192, 81, 1193], [], [], [], [], [], [], [], [1445, 1446, 81, 1447], [], [], [], [], [], [], [], [], [1059], [], [], [], [1095], [], [], [], [], [], [], [], [], []] = true := by decide +kernel
theorem nX12_element : tX12_element.length = 50 := by decide +kernel
theorem okX12_element : tOK RX12 "element" cX12_element MT tX12_element := tOK_of (fun j x hj hx => cks_ok qX12_element_0 j x (by omega) (by rw [nX12_element] at hj; omega) hx)
set_option maxRecDepth 100000 in
theorem qX12_hasPlaces_0 : cks RX12 "hasPlaces" cX12_hasPlaces tX12_hasPlaces 0 22 [[], [], [], [], [], [], [1093], [], [], [], [], [], [1093], [], [], [], [], [], [], [], [], []] = true := by decide +kernel
theorem nX12_hasPlaces : tX12_hasPlaces.length = 22 := by decide +kernel
theorem okX12_hasPlaces : tOK RX12 "hasPlaces" cX12_hasPlaces MT tX12_hasPlaces := tOK_of (fun j x hj hx => cks_ok qX12_hasPlaces_0 j x (by omega) (by rw [nX12_hasPlaces] at hj; omega) hx)
set_option maxRecDepth 100000 in
theorem qX12_copy_0 : cks RX12 "copy" cX12_copy tX12_copy 0 60 [[], [], [1059], [], [1445, 1446, 81, 1447], [], [], [1445, 1446, 81, 1447], [], [], [], [], [1092], [], [], [], [], [1092], [], [], [], [], [], [], [1092], [], [], [], [], [], [1092], [], [], [], [1092], [], [], [], [], [], [], [], [], [], [1465, 1467, 67, 81, 1468], [], [], [], [], [], [1465, 1467, 67, 81, 1468], [], [], [], [], [], [], [], [], []] = true := by decide +kernel
set_option maxRecDepth 100000 in
theorem qX12_copy_1 : cks RX12 "copy" cX12_copy tX12_copy 60 38 [[1096], [], [], [1095], [], [], [], [], [], [], [], [], [], [], [], [], [], [], [], [], [], [1095], [], [], [], [], [], [], [], [], [1096], [], [], [], [], [], [], []] = true := by decide +kernel
theorem nX12_copy : tX12_copy.length = 98 := by decide +kernel
theorem okX12_copy : tOK RX12 "copy" cX12_copy MT tX12_copy := tOK_of (fun j x hj hx => if h0 : j < 60 then cks_ok qX12_copy_0 j x (by omega) (by omega) hx else cks_ok qX12_copy_1 j x (by omega) (by rw [nX12_copy] at hj; omega) hx)
set_option maxRecDepth 100000 in
theorem qX12_weight_0 : cks RX12 "weight" cX12_weight tX12_weight 0 28 [[], [], [1059], [], [1445, 1446, 81, 1447], [], [1232], [], [], [1092], [], [], [], [1473], [], [], [1092], [], [], [], [], [1474], [], [], [1094], [], [], []] = true := by decide +kernel
theorem nX12_weight : tX12_weight.length = 28 := by decide +kernel
theorem okX12_weight : tOK RX12 "weight" cX12_weight MT tX12_weight := tOK_of (fun j x hj hx => cks_ok qX12_weight_0 j x (by omega) (by rw [nX12_weight] at hj; omega) hx)
set_option maxRecDepth 100000 in
theorem qX12_ratio_0 : cks RX12 "ratio" cX12_ratio tX12_ratio 0 56 [[], [], [1059], [], [1445, 1446, 81, 1447], [], [], [1445, 1446, 81, 1447], [], [1232], [], [], [1092], [], [], [], [], [1092], [], [], [], [1473], [], [], [1092], [], [], [], [], [], [1092], [], [], [], [], [1474], [], [], [1094], [], [], [], [], [], [1479], [], [], [1094], [], [], [], [1094], [], [], [], []] = true := by decide +kernel
theorem nX12_ratio : tX12_ratio.length = 56 := by decide +kernel
theorem okX12_ratio : tOK RX12 "ratio" cX12_ratio MT tX12_ratio := tOK_of (fun j x hj hx => cks_ok qX12_ratio_0 j x (by omega) (by rw [nX12_ratio] at hj; omega) hx)
set_option maxRecDepth 100000 in
theorem qJ6_bitCount_0f7a4_0 : cks RJ6 "bitCount" cJ6_bitCount_0f7a4 tJ6_bitCount_0f7a4 0 42 [[], [], [], [], [578], [], [], [], [], [579], [], [], [], [], [579], [], [], [], [], [], [], [], [], [580], [], [], [], [], [], [], [], [], [], [], [], [], [], [], [], [], [], []] = true := by decide +kernel
theorem nJ6_bitCount_0f7a4 : tJ6_bitCount_0f7a4.length = 42 := by decide +kernel
theorem okJ6_bitCount_0f7a4 : tOK RJ6 "bitCount" cJ6_bitCount_0f7a4 MT tJ6_bitCount_0f7a4 := tOK_of (fun j x hj hx => cks_ok qJ6_bitCount_0f7a4_0 j x (by omega) (by rw [nJ6_bitCount_0f7a4] at hj; omega) hx)
set_option maxRecDepth 100000 in
theorem qJ7_fill_d0a16_0 : cks RJ7 "fill" cJ7_fill_d0a16 tJ7_fill_d0a16 0 15 [[], [], [], [], [], [], [], [], [], [], [], [], [], [], []] = true := by decide +kernel
theorem nJ7_fill_d0a16 : tJ7_fill_d0a16.length = 15 := by decide +kernel
theorem okJ7_fill_d0a16 : tOK RJ7 "fill" cJ7_fill_d0a16 MT tJ7_fill_d0a16 := tOK_of (fun j x hj hx => cks_ok qJ7_fill_d0a16_0 j x (by omega) (by rw [nJ7_fill_d0a16] at hj; omega) hx)
end
section
/-! CERTIFICATES (by program: wip/whole/gen_certs.py) -/
set_option maxRecDepth 100000 in
theorem qJ7_fill_53178_0 : cks RJ7 "fill" cJ7_fill_53178 tJ7_fill_53178 0 15 [[], [], [], [], [], [], [], [], [], [], [], [], [], [], []] = true := by decide +kernel
theorem nJ7_fill_53178 : tJ7_fill_53178.length = 15 := by decide +kernel
theorem okJ7_fill_53178 : tOK RJ7 "fill" cJ7_fill_53178 MT tJ7_fill_53178 := tOK_of (fun j x hj hx => cks_ok qJ7_fill_53178_0 j x (by omega) (by rw [nJ7_fill_53178] at hj; omega) hx)
theorem okL_element : tOK RL "element" cL_element MT tL_element := fun i x hx => by simp [tL_element] at hx
end
section
/-! M2: the machine over tagged cells: (tag, index, slot). By program: wip/whole/gen_m2.py -/
abbrev v2 : Type := Int32 ⊕ (Int64 ⊕ (Nat × Nat))
abbrev vI (x : Int32) : v2 := .inl x
abbrev vL (x : Int64) : v2 := .inr (.inl x)
abbrev vR (t i : Nat) : v2 := .inr (.inr (t, i))
abbrev Mem : Type := (Nat → Nat → Nat → Int32) × (Nat → Nat → Nat → Int64)
abbrev L2 : Type := List (Option v2)
/-- 0 an object, 1 ints, 2 longs, 3 references, 4 none -/
def g_kind (t : Nat) : Nat := match t with
  | 0 => 0
  | 1 => 0
  | 2 => 1
  | 3 => 3
  | 4 => 0
  | 5 => 1
  | 6 => 1
  | 7 => 0
  | 8 => 0
  | 9 => 1
  | 10 => 0
  | 11 => 3
  | 12 => 2
  | 13 => 1
  | 14 => 1
  | 15 => 2
  | 16 => 0
  | 17 => 1
  | 18 => 0
  | 19 => 3
  | 20 => 2
  | 21 => 0
  | 22 => 0
  | 23 => 1
  | 24 => 1
  | 25 => 1
  | 26 => 0
  | 27 => 1
  | 28 => 2
  | 29 => 1
  | 30 => 3
  | 31 => 0
  | 32 => 2
  | 40 => 0
  | 41 => 1
  | 42 => 1
  | 43 => 1
  | 44 => 1
  | 45 => 1
  | 46 => 1
  | 47 => 2
  | 48 => 1
  | 49 => 1
  | 50 => 2
  | 51 => 2
  | 52 => 2
  | 53 => 2
  | 54 => 2
  | 55 => 2
  | 56 => 2
  | 57 => 2
  | 58 => 1
  | 59 => 2
  | 60 => 2
  | 61 => 2
  | 62 => 2
  | 63 => 1
  | 64 => 1
  | 65 => 1
  | 66 => 1
  | 67 => 1
  | 68 => 2
  | 69 => 2
  | 70 => 2
  | 90 => 2
  | _ => 4
def g_cls (t : Nat) : Nat := match t with
  | 0 => 11
  | 1 => 10
  | 4 => 0
  | 7 => 8
  | 8 => 9
  | 10 => 1
  | 16 => 2
  | 18 => 4
  | 21 => 5
  | 22 => 3
  | 26 => 7
  | 31 => 6
  | 40 => 12
  | _ => 99
def g_len (t : Nat) : Nat := match t with
  | 2 => 10
  | 3 => 40
  | 5 => 4
  | 6 => 4
  | 9 => 10
  | 11 => 5
  | 12 => 6
  | 13 => 10
  | 14 => 5
  | 15 => 10
  | 17 => 10
  | 19 => 11
  | 20 => 11
  | 23 => 10
  | 24 => 10
  | 25 => 10
  | 27 => 10
  | 28 => 40
  | 29 => 10
  | 30 => 8
  | 32 => 60
  | 41 => 10
  | 42 => 40
  | 43 => 40
  | 44 => 40
  | 45 => 160
  | 46 => 160
  | 47 => 36
  | 48 => 10
  | 49 => 10
  | 50 => 30
  | 51 => 6
  | 52 => 10
  | 53 => 10
  | 54 => 20
  | 55 => 20
  | 56 => 10
  | 57 => 10
  | 58 => 10
  | 59 => 10
  | 60 => 10
  | 61 => 10
  | 62 => 10
  | 63 => 10
  | 64 => 10
  | 65 => 10
  | 66 => 8
  | 67 => 8
  | 68 => 8
  | 69 => 480
  | 70 => 60
  | 90 => 1
  | _ => 0
def g_aty (t : Nat) : FieldType := match t with
  | 2 => .int
  | 3 => .object "ChanceCourt$Act"
  | 5 => .int
  | 6 => .int
  | 9 => .int
  | 11 => .array .long
  | 12 => .long
  | 13 => .int
  | 14 => .int
  | 15 => .long
  | 17 => .int
  | 19 => .array .long
  | 20 => .long
  | 23 => .int
  | 24 => .int
  | 25 => .int
  | 27 => .int
  | 28 => .long
  | 29 => .int
  | 30 => .object "ChanceCourt$Shelf"
  | 32 => .long
  | 41 => .int
  | 42 => .int
  | 43 => .int
  | 44 => .int
  | 45 => .int
  | 46 => .int
  | 47 => .long
  | 48 => .int
  | 49 => .int
  | 50 => .long
  | 51 => .long
  | 52 => .long
  | 53 => .long
  | 54 => .long
  | 55 => .long
  | 56 => .long
  | 57 => .long
  | 58 => .int
  | 59 => .long
  | 60 => .long
  | 61 => .long
  | 62 => .long
  | 63 => .int
  | 64 => .int
  | 65 => .int
  | 66 => .int
  | 67 => .int
  | 68 => .long
  | 69 => .long
  | 70 => .long
  | 90 => .long
  | _ => .int
def g_pos (t : Nat) : List Nat := match t with
  | 0 => [0]
  | 1 => [1]
  | 2 => [2]
  | 3 => [3]
  | 4 => [4, 7, 10, 13, 16, 19, 22, 25, 28, 31, 34, 37, 40, 43, 46, 49, 52, 55, 58, 61, 64, 67, 70, 73, 76, 79, 82, 85, 88, 91, 94, 97, 100, 103, 106, 109, 112, 115, 118, 121, 203, 208, 213, 218, 223, 228, 233, 238]
  | 5 => [5, 8, 11, 14, 17, 20, 23, 26, 29, 32, 35, 38, 41, 44, 47, 50, 53, 56, 59, 62, 65, 68, 71, 74, 77, 80, 83, 86, 89, 92, 95, 98, 101, 104, 107, 110, 113, 116, 119, 122, 204, 209, 214, 219, 224, 229, 234, 239]
  | 6 => [6, 9, 12, 15, 18, 21, 24, 27, 30, 33, 36, 39, 42, 45, 48, 51, 54, 57, 60, 63, 66, 69, 72, 75, 78, 81, 84, 87, 90, 93, 96, 99, 102, 105, 108, 111, 114, 117, 120, 123, 205, 210, 215, 220, 225, 230, 235, 240]
  | 7 => [124, 137]
  | 8 => [135, 148, 191]
  | 9 => [136, 149, 192]
  | 10 => [125, 138, 181]
  | 11 => [126, 139, 182]
  | 12 => [127, 128, 129, 130, 131, 140, 141, 142, 143, 144, 183, 184, 185, 186, 187]
  | 13 => [132, 145, 188]
  | 14 => [133, 146, 189]
  | 15 => [134, 147, 190, 154, 155, 156, 157, 158, 159, 160, 161, 162, 163, 164, 168, 169, 170, 171, 172, 173, 174, 175, 176, 177, 178]
  | 16 => [150]
  | 17 => [151]
  | 18 => [152, 166]
  | 19 => [153, 167]
  | 20 => [165, 179]
  | 21 => [180]
  | 22 => [193]
  | 23 => [194]
  | 24 => [195]
  | 25 => [196]
  | 26 => [197]
  | 27 => [198]
  | 28 => [199]
  | 29 => [200]
  | 30 => [201]
  | 31 => [202, 207, 212, 217, 222, 227, 232, 237]
  | 32 => [206, 211, 216, 221, 226, 231, 236, 241]
  | 40 => [242]
  | 41 => [243]
  | 42 => [244]
  | 43 => [245]
  | 44 => [246]
  | 45 => [247]
  | 46 => [248]
  | 47 => [249]
  | 48 => [250]
  | 49 => [251]
  | 50 => [252]
  | 51 => [253]
  | 52 => [254]
  | 53 => [255]
  | 54 => [256]
  | 55 => [257]
  | 56 => [258]
  | 57 => [259]
  | 58 => [260]
  | 59 => [261]
  | 60 => [262]
  | 61 => [263]
  | 62 => [264]
  | 63 => [265]
  | 64 => [266]
  | 65 => [267]
  | 66 => [268]
  | 67 => [269]
  | 68 => [270]
  | 69 => [271]
  | 70 => [272]
  | 90 => [273]
  | _ => []
def g_tof : List (Nat × Nat) := [(0, 0), (1, 0), (2, 0), (3, 0), (4, 0), (5, 0), (6, 0), (4, 1), (5, 1), (6, 1), (4, 2), (5, 2), (6, 2), (4, 3), (5, 3), (6, 3), (4, 4), (5, 4), (6, 4), (4, 5), (5, 5), (6, 5), (4, 6), (5, 6), (6, 6), (4, 7), (5, 7), (6, 7), (4, 8), (5, 8), (6, 8), (4, 9), (5, 9), (6, 9), (4, 10), (5, 10), (6, 10), (4, 11), (5, 11), (6, 11), (4, 12), (5, 12), (6, 12), (4, 13), (5, 13), (6, 13), (4, 14), (5, 14), (6, 14), (4, 15), (5, 15), (6, 15), (4, 16), (5, 16), (6, 16), (4, 17), (5, 17), (6, 17), (4, 18), (5, 18), (6, 18), (4, 19), (5, 19), (6, 19), (4, 20), (5, 20), (6, 20), (4, 21), (5, 21), (6, 21), (4, 22), (5, 22), (6, 22), (4, 23), (5, 23), (6, 23), (4, 24), (5, 24), (6, 24), (4, 25), (5, 25), (6, 25), (4, 26), (5, 26), (6, 26), (4, 27), (5, 27), (6, 27), (4, 28), (5, 28), (6, 28), (4, 29), (5, 29), (6, 29), (4, 30), (5, 30), (6, 30), (4, 31), (5, 31), (6, 31), (4, 32), (5, 32), (6, 32), (4, 33), (5, 33), (6, 33), (4, 34), (5, 34), (6, 34), (4, 35), (5, 35), (6, 35), (4, 36), (5, 36), (6, 36), (4, 37), (5, 37), (6, 37), (4, 38), (5, 38), (6, 38), (4, 39), (5, 39), (6, 39), (7, 0), (10, 0), (11, 0), (12, 0), (12, 1), (12, 2), (12, 3), (12, 4), (13, 0), (14, 0), (15, 0), (8, 0), (9, 0), (7, 1), (10, 1), (11, 1), (12, 5), (12, 6), (12, 7), (12, 8), (12, 9), (13, 1), (14, 1), (15, 1), (8, 1), (9, 1), (16, 0), (17, 0), (18, 0), (19, 0), (15, 3), (15, 4), (15, 5), (15, 6), (15, 7), (15, 8), (15, 9), (15, 10), (15, 11), (15, 12), (15, 13), (20, 0), (18, 1), (19, 1), (15, 14), (15, 15), (15, 16), (15, 17), (15, 18), (15, 19), (15, 20), (15, 21), (15, 22), (15, 23), (15, 24), (20, 1), (21, 0), (10, 2), (11, 2), (12, 10), (12, 11), (12, 12), (12, 13), (12, 14), (13, 2), (14, 2), (15, 2), (8, 2), (9, 2), (22, 0), (23, 0), (24, 0), (25, 0), (26, 0), (27, 0), (28, 0), (29, 0), (30, 0), (31, 0), (4, 40), (5, 40), (6, 40), (32, 0), (31, 1), (4, 41), (5, 41), (6, 41), (32, 1), (31, 2), (4, 42), (5, 42), (6, 42), (32, 2), (31, 3), (4, 43), (5, 43), (6, 43), (32, 3), (31, 4), (4, 44), (5, 44), (6, 44), (32, 4), (31, 5), (4, 45), (5, 45), (6, 45), (32, 5), (31, 6), (4, 46), (5, 46), (6, 46), (32, 6), (31, 7), (4, 47), (5, 47), (6, 47), (32, 7), (40, 0), (41, 0), (42, 0), (43, 0), (44, 0), (45, 0), (46, 0), (47, 0), (48, 0), (49, 0), (50, 0), (51, 0), (52, 0), (53, 0), (54, 0), (55, 0), (56, 0), (57, 0), (58, 0), (59, 0), (60, 0), (61, 0), (62, 0), (63, 0), (64, 0), (65, 0), (66, 0), (67, 0), (68, 0), (69, 0), (70, 0), (90, 0)]
/-- the fields that are references: to which cell -/
def g_rf (t k i : Nat) : Nat × Nat := match t, k with
  | 0, 0 => (1, 0)
  | 0, 1 => (7, 0)
  | 0, 2 => (7, 1)
  | 0, 3 => (16, 0)
  | 0, 4 => (18, 0)
  | 0, 5 => (18, 1)
  | 0, 6 => (21, 0)
  | 0, 7 => (22, 0)
  | 0, 8 => (26, 0)
  | 0, 9 => (30, 0)
  | 1, 3 => (2, 0)
  | 1, 4 => (3, 0)
  | 4, 5 => (5, i)
  | 4, 6 => (6, i)
  | 7, 0 => (1, 0)
  | 7, 2 => (8, i)
  | 7, 3 => (10, i)
  | 7, 6 => (15, i)
  | 8, 0 => (1, 0)
  | 8, 2 => (9, i)
  | 10, 0 => (11, i)
  | 10, 1 => (13, i)
  | 10, 2 => (14, i)
  | 16, 0 => (1, 0)
  | 16, 1 => (7, 0)
  | 16, 3 => (17, 0)
  | 18, 0 => (1, 0)
  | 18, 3 => (19, i)
  | 18, 4 => (20, i)
  | 21, 0 => (1, 0)
  | 21, 1 => (7, 0)
  | 21, 2 => (8, 2)
  | 21, 3 => (10, 2)
  | 21, 5 => (15, 2)
  | 22, 0 => (1, 0)
  | 22, 1 => (23, 0)
  | 22, 2 => (24, 0)
  | 22, 4 => (25, 0)
  | 26, 0 => (1, 0)
  | 26, 1 => (27, 0)
  | 26, 2 => (28, 0)
  | 26, 4 => (29, 0)
  | 31, 3 => (4, 40 + i)
  | 31, 4 => (32, i)
  | 40, 3 => (41, 0)
  | 40, 4 => (42, 0)
  | 40, 5 => (43, 0)
  | 40, 6 => (44, 0)
  | 40, 7 => (45, 0)
  | 40, 8 => (46, 0)
  | 40, 9 => (47, 0)
  | 40, 10 => (48, 0)
  | 40, 11 => (49, 0)
  | 40, 13 => (50, 0)
  | 40, 14 => (51, 0)
  | 40, 15 => (52, 0)
  | 40, 16 => (53, 0)
  | 40, 17 => (54, 0)
  | 40, 18 => (55, 0)
  | 40, 19 => (56, 0)
  | 40, 20 => (57, 0)
  | 40, 23 => (58, 0)
  | 40, 24 => (59, 0)
  | 40, 25 => (60, 0)
  | 40, 27 => (61, 0)
  | 40, 28 => (62, 0)
  | 40, 29 => (63, 0)
  | 40, 31 => (64, 0)
  | 40, 32 => (65, 0)
  | 40, 33 => (66, 0)
  | 40, 34 => (67, 0)
  | 40, 35 => (68, 0)
  | 40, 36 => (69, 0)
  | 40, 37 => (70, 0)
  | _, _ => (98, 0)
def g_ra (t i j : Nat) : Nat × Nat := match t with
  | 3 => (4, j)
  | 11 => (12, 5 * i + j)
  | 19 => (15, 3 + 11 * i + j)
  | 30 => (31, j)
  | _ => (98, 0)
def g_fk (ci k : Nat) : Nat := match a_ty ci k with
  | .int => 0
  | .boolean => 1
  | .long => 2
  | _ => 3
def g_n (ci : Nat) : Nat := match vwCl[ci]? with
  | some (_, _, N) => N
  | none => 0
def inb (j : Int32) (n : Nat) : Prop := ¬ (j < 0 ∨ n ≤ j.toNatClampNeg)
def mI (m : Mem) (t i k : Nat) (v : Int32) : Mem := (fun t' i' k' => if t' = t ∧ i' = i ∧ k' = k then v else m.1 t' i' k', m.2)
def mL (m : Mem) (t i k : Nat) (v : Int64) : Mem := (m.1, fun t' i' k' => if t' = t ∧ i' = i ∧ k' = k then v else m.2 t' i' k')
def isB (v : Int32) : Prop := v = 0 ∨ v = 1
def l_get (L : L2) (k : Nat) : Option v2 := match L[k]? with
  | some (some v) => some v
  | _ => none
def l_kill (L : L2) (k : Nat) : L2 := match k with
  | 0 => L
  | j + 1 => match l_get L j with
    | some (.inr (.inl _)) => L.set j none
    | _ => L
def l_set1 (L : L2) (k : Nat) (v : v2) : L2 := (l_kill L k).set k (some v)
def l_set2 (L : L2) (k : Nat) (v : v2) : L2 := ((l_kill L k).set k (some v)).set (k + 1) none
def c_words (S : List v2) : Nat := match S with
  | [] => 0
  | .inr (.inl _) :: r => 2 + c_words r
  | _ :: r => 1 + c_words r
def b_if (c : Bool) (P : Prop) : Prop := match c with
  | true => P
  | false => False
/-- a switch, case by case -/
def sws (go : Nat → Prop) (v : Int32) : Int → List Nat → Prop
  | _, [] => True
  | lo, j :: r => (v.toInt = lo → go j) ∧ sws go v (lo + 1) r
/-- what a call's answer is, by its kind -/
def c_ret (kd : Nat) (go : List v2 → Mem → Prop) (rest : List v2) : Option v2 → Mem → Prop := match kd with
  | 0 => fun r m => r = none ∧ go rest m
  | 1 => fun r m => ∃ x : Int32, r = some (vI x) ∧ go (vI x :: rest) m
  | 2 => fun r m => ∃ x : Int64, r = some (vL x) ∧ go (vL x :: rest) m
  | t + 3 => fun r m => ∃ i : Nat, r = some (vR t i) ∧ go (vR t i :: rest) m
def b_copy (t i t2 i2 : Nat) (sp dp n : Int32) (m : Mem) (go : Mem → Prop) : Prop := match g_kind t, g_kind t2 with
  | 1, 1 => (¬ sp < 0 ∧ ¬ dp < 0 ∧ ¬ n < 0 ∧ sp.toNatClampNeg + n.toNatClampNeg ≤ g_len t ∧ dp.toNatClampNeg + n.toNatClampNeg ≤ g_len t2) ∧ go (fun a b => if a = t2 ∧ b = i2 then va_cpy (m.1 t i) (m.1 t2 i2) sp.toNatClampNeg dp.toNatClampNeg n.toNatClampNeg else m.1 a b, m.2)
  | 2, 2 => (¬ sp < 0 ∧ ¬ dp < 0 ∧ ¬ n < 0 ∧ sp.toNatClampNeg + n.toNatClampNeg ≤ g_len t ∧ dp.toNatClampNeg + n.toNatClampNeg ≤ g_len t2) ∧ go (m.1, fun a b => if a = t2 ∧ b = i2 then va_cpy (m.2 t i) (m.2 t2 i2) sp.toNatClampNeg dp.toNatClampNeg n.toNatClampNeg else m.2 a b)
  | _, _ => False
/-- one instruction, goal first. go: what must hold behind it -/
def st2 (xs : Nat × (Nat → Int32)) (C : Nat → List v2 → Mem → (Option v2 → Mem → Prop) → Prop) (rt : Option FieldType) (Q : Option v2 → Mem → Prop) (go : Nat → L2 → List v2 → Mem → Prop) (x : xI) (i : Nat) (L : L2) (S : List v2) (m : Mem) : Prop := match x with
    | (ins, _, _, a, b, z, tg) => match ins with
      | .iconst n => go (i + 1) L (vI (Int32.ofInt n) :: S) m
      | .bipush n => go (i + 1) L (vI (Int8.ofInt n).toInt32 :: S) m
      | .sipush n => go (i + 1) L (vI (Int16.ofInt n).toInt32 :: S) m
      | .lconst n => go (i + 1) L (vL (Int64.ofNat (n : Nat)) :: S) m
      | .ldc _ => go (i + 1) L (vI (Int32.ofInt z) :: S) m
      | .ldc_w _ => go (i + 1) L (vI (Int32.ofInt z) :: S) m
      | .ldc2_w _ => go (i + 1) L (vL (Int64.ofInt z) :: S) m
      | .iadd => (match S with | .inl y :: .inl x :: R => go (i + 1) L (vI (x + y) :: R) m | _ => False)
      | .isub => (match S with | .inl y :: .inl x :: R => go (i + 1) L (vI (x - y) :: R) m | _ => False)
      | .imul => (match S with | .inl y :: .inl x :: R => go (i + 1) L (vI (x * y) :: R) m | _ => False)
      | .iand => (match S with | .inl y :: .inl x :: R => go (i + 1) L (vI (x &&& y) :: R) m | _ => False)
      | .ior => (match S with | .inl y :: .inl x :: R => go (i + 1) L (vI (x ||| y) :: R) m | _ => False)
      | .ixor => (match S with | .inl y :: .inl x :: R => go (i + 1) L (vI (x ^^^ y) :: R) m | _ => False)
      | .ishl => (match S with | .inl y :: .inl x :: R => go (i + 1) L (vI (x <<< (y &&& 31)) :: R) m | _ => False)
      | .ishr => (match S with | .inl y :: .inl x :: R => go (i + 1) L (vI (x >>> (y &&& 31)) :: R) m | _ => False)
      | .iushr => (match S with | .inl y :: .inl x :: R => go (i + 1) L (vI ((x.toUInt32 >>> (y.toUInt32 &&& Int32.toUInt32 31)).toInt32) :: R) m | _ => False)
      | .idiv => (match S with | .inl y :: .inl x :: R => ¬ y = 0 ∧ go (i + 1) L (vI (x / y) :: R) m | _ => False)
      | .irem => (match S with | .inl y :: .inl x :: R => ¬ y = 0 ∧ go (i + 1) L (vI (x - x / y * y) :: R) m | _ => False)
      | .ladd => (match S with | .inr (.inl y) :: .inr (.inl x) :: R => go (i + 1) L (vL (x + y) :: R) m | _ => False)
      | .lsub => (match S with | .inr (.inl y) :: .inr (.inl x) :: R => go (i + 1) L (vL (x - y) :: R) m | _ => False)
      | .lmul => (match S with | .inr (.inl y) :: .inr (.inl x) :: R => go (i + 1) L (vL (x * y) :: R) m | _ => False)
      | .lor => (match S with | .inr (.inl y) :: .inr (.inl x) :: R => go (i + 1) L (vL (x ||| y) :: R) m | _ => False)
      | .ldiv => (match S with | .inr (.inl y) :: .inr (.inl x) :: R => ¬ y = 0 ∧ go (i + 1) L (vL (x / y) :: R) m | _ => False)
      | .lrem => (match S with | .inr (.inl y) :: .inr (.inl x) :: R => ¬ y = 0 ∧ go (i + 1) L (vL (x - x / y * y) :: R) m | _ => False)
      | .lneg => (match S with | .inr (.inl x) :: R => go (i + 1) L (vL (-x) :: R) m | _ => False)
      | .lshl => (match S with | .inl y :: .inr (.inl x) :: R => go (i + 1) L (vL (x <<< (y.toInt64 &&& 63)) :: R) m | _ => False)
      | .lcmp => (match S with | .inr (.inl y) :: .inr (.inl x) :: R => go (i + 1) L (vI (lg_cmp x y) :: R) m | _ => False)
      | .i2l => (match S with | .inl x :: R => go (i + 1) L (vL x.toInt64 :: R) m | _ => False)
      | .l2i => (match S with | .inr (.inl x) :: R => go (i + 1) L (vI x.toInt32 :: R) m | _ => False)
      | .dup => (match S with | .inl x :: R => go (i + 1) L (vI x :: vI x :: R) m | .inr (.inr (t, q)) :: R => go (i + 1) L (vR t q :: vR t q :: R) m | _ => False)
      | .pop => (match S with | .inl _ :: R => go (i + 1) L R m | .inr (.inr _) :: R => go (i + 1) L R m | _ => False)
      | .dup2 => (match S with | .inr (.inl x) :: w :: R => go (i + 1) L (vL x :: vL x :: w :: R) m | .inl x :: .inr (.inr (t, q)) :: R => go (i + 1) L (vI x :: vR t q :: vI x :: vR t q :: R) m | _ => False)
      | .iload k => (match l_get L k with | some (.inl x) => go (i + 1) L (vI x :: S) m | _ => False)
      | .iload_n k => (match l_get L k with | some (.inl x) => go (i + 1) L (vI x :: S) m | _ => False)
      | .lload k => (match l_get L k with | some (.inr (.inl x)) => go (i + 1) L (vL x :: S) m | _ => False)
      | .lload_n k => (match l_get L k with | some (.inr (.inl x)) => go (i + 1) L (vL x :: S) m | _ => False)
      | .aload k => (match l_get L k with | some (.inr (.inr (t, q))) => go (i + 1) L (vR t q :: S) m | _ => False)
      | .aload_n k => (match l_get L k with | some (.inr (.inr (t, q))) => go (i + 1) L (vR t q :: S) m | _ => False)
      | .istore k => (match S with | .inl x :: R => b_if (decide (k < L.length)) (go (i + 1) (l_set1 L k (vI x)) R m) | _ => False)
      | .istore_n k => (match S with | .inl x :: R => b_if (decide ((k : Nat) < L.length)) (go (i + 1) (l_set1 L k (vI x)) R m) | _ => False)
      | .lstore k => (match S with | .inr (.inl x) :: R => b_if (decide (k + 1 < L.length)) (go (i + 1) (l_set2 L k (vL x)) R m) | _ => False)
      | .lstore_n k => (match S with | .inr (.inl x) :: R => b_if (decide ((k : Nat) + 1 < L.length)) (go (i + 1) (l_set2 L k (vL x)) R m) | _ => False)
      | .astore k => (match S with | .inr (.inr (t, q)) :: R => b_if (decide (k < L.length)) (go (i + 1) (l_set1 L k (vR t q)) R m) | _ => False)
      | .astore_n k => (match S with | .inr (.inr (t, q)) :: R => b_if (decide ((k : Nat) < L.length)) (go (i + 1) (l_set1 L k (vR t q)) R m) | _ => False)
      | .iinc k n => (match l_get L k with | some (.inl x) => b_if (decide (k < L.length)) (go (i + 1) (l_set1 L k (vI (x + Int32.ofInt n))) S m) | _ => False)
      | .goto _ => go a L S m
      | .ifCond .eq _ => (match S with | .inl x :: R => (x = 0 → go a L R m) ∧ (¬ x = 0 → go (i + 1) L R m) | _ => False)
      | .ifCond .ne _ => (match S with | .inl x :: R => (¬ x = 0 → go a L R m) ∧ (x = 0 → go (i + 1) L R m) | _ => False)
      | .ifCond .lt _ => (match S with | .inl x :: R => (x < 0 → go a L R m) ∧ (¬ x < 0 → go (i + 1) L R m) | _ => False)
      | .ifCond .ge _ => (match S with | .inl x :: R => (0 ≤ x → go a L R m) ∧ (¬ 0 ≤ x → go (i + 1) L R m) | _ => False)
      | .ifCond .gt _ => (match S with | .inl x :: R => (0 < x → go a L R m) ∧ (¬ 0 < x → go (i + 1) L R m) | _ => False)
      | .ifCond .le _ => (match S with | .inl x :: R => (x ≤ 0 → go a L R m) ∧ (¬ x ≤ 0 → go (i + 1) L R m) | _ => False)
      | .if_icmp .eq _ => (match S with | .inl y :: .inl x :: R => (x = y → go a L R m) ∧ (¬ x = y → go (i + 1) L R m) | _ => False)
      | .if_icmp .ne _ => (match S with | .inl y :: .inl x :: R => (¬ x = y → go a L R m) ∧ (x = y → go (i + 1) L R m) | _ => False)
      | .if_icmp .lt _ => (match S with | .inl y :: .inl x :: R => (x < y → go a L R m) ∧ (¬ x < y → go (i + 1) L R m) | _ => False)
      | .if_icmp .ge _ => (match S with | .inl y :: .inl x :: R => (y ≤ x → go a L R m) ∧ (¬ y ≤ x → go (i + 1) L R m) | _ => False)
      | .if_icmp .gt _ => (match S with | .inl y :: .inl x :: R => (y < x → go a L R m) ∧ (¬ y < x → go (i + 1) L R m) | _ => False)
      | .if_icmp .le _ => (match S with | .inl y :: .inl x :: R => (x ≤ y → go a L R m) ∧ (¬ x ≤ y → go (i + 1) L R m) | _ => False)
      | .tableswitch _ lo hi _ => (match S with | .inl x :: R => (match tg with | d :: r => b_if (decide (hi = lo + (r.length : Int) - 1)) ((x.toInt < lo ∨ hi < x.toInt → go d L R m) ∧ sws (fun j => go j L R m) x lo r) | [] => False) | _ => False)
      | .getfield _ => (match S with | .inr (.inr (t, q)) :: R => b_if (decide (g_kind t = 0) && decide (g_cls t = a) && decide (b < g_n a)) (match g_fk a b with | 2 => go (i + 1) L (vL (m.2 t q b) :: R) m | 3 => go (i + 1) L (vR (g_rf t b q).1 (g_rf t b q).2 :: R) m | _ => go (i + 1) L (vI (m.1 t q b) :: R) m) | _ => False)
      | .putfield _ => (match S with
        | .inl v :: .inr (.inr (t, q)) :: R => b_if (decide (g_kind t = 0) && decide (g_cls t = a) && decide (b < g_n a)) (match g_fk a b with | 0 => go (i + 1) L R (mI m t q b v) | 1 => isB v ∧ go (i + 1) L R (mI m t q b v) | _ => False)
        | .inr (.inl v) :: .inr (.inr (t, q)) :: R => b_if (decide (g_kind t = 0) && decide (g_cls t = a) && decide (b < g_n a)) (match g_fk a b with | 2 => go (i + 1) L R (mL m t q b v) | _ => False)
        | _ => False)
      | .iaload => (match S with | .inl j :: .inr (.inr (t, q)) :: R => (match decide (t = 99) with | true => inb j xs.1 ∧ go (i + 1) L (vI (xs.2 j.toNatClampNeg) :: R) m | false => b_if (decide (g_kind t = 1)) (inb j (g_len t) ∧ go (i + 1) L (vI (m.1 t q j.toNatClampNeg) :: R) m)) | _ => False)
      | .laload => (match S with | .inl j :: .inr (.inr (t, q)) :: R => b_if (decide (g_kind t = 2)) (inb j (g_len t) ∧ go (i + 1) L (vL (m.2 t q j.toNatClampNeg) :: R) m) | _ => False)
      | .aaload => (match S with | .inl j :: .inr (.inr (t, q)) :: R => b_if (decide (g_kind t = 3)) (inb j (g_len t) ∧ go (i + 1) L (vR (g_ra t q j.toNatClampNeg).1 (g_ra t q j.toNatClampNeg).2 :: R) m) | _ => False)
      | .iastore => (match S with | .inl v :: .inl j :: .inr (.inr (t, q)) :: R => b_if (decide (g_kind t = 1)) (inb j (g_len t) ∧ go (i + 1) L R (mI m t q j.toNatClampNeg v)) | _ => False)
      | .lastore => (match S with | .inr (.inl v) :: .inl j :: .inr (.inr (t, q)) :: R => b_if (decide (g_kind t = 2)) (inb j (g_len t) ∧ go (i + 1) L R (mL m t q j.toNatClampNeg v)) | _ => False)
      | .arraylength => (match S with | .inr (.inr (t, _)) :: R => (match decide (t = 99) with | true => go (i + 1) L (vI (Int32.ofNat xs.1) :: R) m | false => b_if (decide (g_kind t = 1) || decide (g_kind t = 2)) (go (i + 1) L (vI (Int32.ofNat (g_len t)) :: R) m)) | _ => False)
      | .invokevirtual _ => b_if (decide (b ≤ S.length) && decide (c_words (S.drop b) ≤ 8) && decide (1 ≤ b) && (match (S.take b).reverse with | .inr (.inr (t, _)) :: _ => decide (g_kind t = 0) && decide ((g_cls t : Int) = z) | _ => false)) (C a (S.take b).reverse m (c_ret (tg.headD 0) (fun R m' => go (i + 1) L R m') (S.drop b)))
      | .invokestatic _ => (match decide (a = idCopy) with
        | true => (match S with | .inl n :: .inl dp :: .inr (.inr (t2, i2)) :: .inl sp :: .inr (.inr (t, q)) :: R => b_if (decide (c_words R ≤ 8)) (b_copy t q t2 i2 sp dp n m (fun m' => go (i + 1) L R m')) | _ => False)
        | false => b_if (decide (b ≤ S.length) && decide (c_words (S.drop b) ≤ 8)) (C a (S.take b).reverse m (c_ret (tg.headD 0) (fun R m' => go (i + 1) L R m') (S.drop b))))
      | .ireturn => (match S with | [.inl v] => (match rt with | some .int => Q (some (vI v)) m | some .boolean => isB v ∧ Q (some (vI v)) m | _ => False) | _ => False)
      | .lreturn => (match S with | [.inr (.inl v)] => (match rt with | some .long => Q (some (vL v)) m | _ => False) | _ => False)
      | .areturn => (match S with | [.inr (.inr (t, q))] => (match rt with | some (.object _) => Q (some (vR t q)) m | _ => False) | _ => False)
      | .return_ => (match S with | [] => (match rt with | none => Q none m | _ => False) | _ => False)
      | _ => False
/-- one stretch: up to the next cut. K: what is known at the cuts -/
def wp2i (xs : Nat × (Nat → Int32)) (C : Nat → List v2 → Mem → (Option v2 → Mem → Prop) → Prop) (tbl : List xI) (cuts : List Nat) (rt : Option FieldType) (Q : Option v2 → Mem → Prop) (K : Nat → L2 → List v2 → Mem → Prop) : Nat → Nat → L2 → List v2 → Mem → Prop
  | 0, _, _, _, _ => False
  | k + 1, i, L, S, m => match tbl[i]? with
    | none => False
    | some x => st2 xs C rt Q (fun j L S m => match cuts.elem j with
      | true => K j L S m
      | false => wp2i xs C tbl cuts rt Q K k j L S m) x i L S m
def wp2 (kf : Nat) (xs : Nat × (Nat → Int32)) (C : Nat → List v2 → Mem → (Option v2 → Mem → Prop) → Prop) (tbl : List xI) (cuts : List Nat) (rt : Option FieldType) (Q : Option v2 → Mem → Prop) : Nat → Nat → L2 → List v2 → Mem → Prop
  | 0, _, _, _, _ => False
  | n + 1, i, L, S, m => wp2i xs C tbl cuts rt Q (wp2 kf xs C tbl cuts rt Q n) kf i L S m
def g_args : List v2 → L2
  | [] => []
  | .inr (.inl x) :: r => some (vL x) :: none :: g_args r
  | v :: r => some v :: g_args r
def g_locals (maxL : Nat) (vs : List v2) : L2 := g_args vs ++ List.replicate (maxL - (g_args vs).length) none
/-- a call at M2, at most d calls deep -/
def call2 (xs : Nat × (Nat → Int32)) : Nat → Nat → List v2 → Mem → (Option v2 → Mem → Prop) → Prop
  | 0, _, _, _, _ => False
  | d + 1, j, args, m, Q => ∃ M, MT[j]? = some M ∧ M.2.2.2.2.2.1 = (0, 0) ∧ args.length = M.2.2.2.2.1 ∧ (g_args args).length ≤ M.2.2.1 ∧ ∃ cuts n, wp2 2000 xs (call2 xs d) M.2.2.2.2.2.2 cuts M.2.2.2.1 Q n 0 (g_locals M.2.2.1 args) [] m
end
section
/-! WHAT M2 DOES, M1 DOES -/
def a_isCall (x : Instr) : Bool := match x with
  | .invokevirtual _ => true | .invokestatic _ => true | .invokespecial _ => true | .tableswitch _ _ _ _ => true | _ => false
/-- an instruction that is no call, by its groups -/
theorem wp1_plain {xs : Nat × (Nat → Int32)} {C : Nat → List Value → aH → (Option Value → aH → Prop) → Prop} {T : List aM} {tbl : List xI} {rt : Option FieldType} {Q : Option Value → aH → Prop} {n i : Nat} {L : aL} {S : List Value} {h : aH} {bc bs : Nat} {x : xI} (hx : tbl[i]? = some x) (hp : a_isCall x.1 = false) :
    wp1 xs C T tbl rt Q (n + 1) i L S h bc bs = (match a_ret x.1 rt S with
        | some r => Q r h
        | none => match a_pure x.1 x.2.2.2.2.2.1 S with
          | some R => wp1 xs C T tbl rt Q n (i + 1) L R h bc bs
          | none => match a_load x.1 L with
            | some v => wp1 xs C T tbl rt Q n (i + 1) L (v :: S) h bc bs
            | none => match a_store x.1 L S with
              | some (L', R) => wp1 xs C T tbl rt Q n (i + 1) L' R h bc bs
              | none => match a_br x.1 S with
                | some (b, R) => wp1 xs C T tbl rt Q n (if b then x.2.2.2.1 else i + 1) L R h bc bs
                | none => match a_read xs x S h with
                  | some R => wp1 xs C T tbl rt Q n (i + 1) L R h bc bs
                  | none => match a_write x S h with
                    | some (R, h') => wp1 xs C T tbl rt Q n (i + 1) L R h' bc bs
                    | none => match a_make x S h with
                      | some (R, h', kc, ks) => kc ≤ bc ∧ ks ≤ bs ∧ wp1 xs C T tbl rt Q n (i + 1) L R h' (bc - kc) (bs - ks)
                      | none => False) := by
  rw [wp1, hx]
  dsimp only
  split
  · rename_i e; rw [e] at hp; cases hp
  · rename_i e; rw [e] at hp; cases hp
  · rename_i e; rw [e] at hp; cases hp
  · rename_i e; rw [e] at hp; cases hp
  · rfl
theorem wp1_call {xs : Nat × (Nat → Int32)} {C : Nat → List Value → aH → (Option Value → aH → Prop) → Prop} {T : List aM} {tbl : List xI} {rt : Option FieldType} {Q : Option Value → aH → Prop} {n i : Nat} {L : aL} {S : List Value} {h : aH} {bc bs : Nat} {x : xI} (hx : tbl[i]? = some x) :
    (∀ idx, x.1 = .invokevirtual idx → wp1 xs C T tbl rt Q (n + 1) i L S h bc bs = (a_rcv h x.2.2.2.2.2.1 (S.take x.2.2.2.2.1).reverse = true ∧ a_words (S.drop x.2.2.2.2.1) ≤ 8 ∧ x.2.2.2.2.1 ≤ S.length ∧ ∃ M, T[x.2.2.2.1]? = some M ∧ M.2.2.2.2.2.1.1 ≤ bc ∧ M.2.2.2.2.2.1.2 ≤ bs ∧ C x.2.2.2.1 (S.take x.2.2.2.2.1).reverse h (fun r h' => wp1 xs C T tbl rt Q n (i + 1) L (r.toList ++ S.drop x.2.2.2.2.1) h' (bc - M.2.2.2.2.2.1.1) (bs - M.2.2.2.2.2.1.2)))) ∧
    (∀ idx, x.1 = .invokestatic idx → wp1 xs C T tbl rt Q (n + 1) i L S h bc bs = (if x.2.2.2.1 = idCopy then (∃ R h', a_copy S h = some (R, h') ∧ a_words R ≤ 8 ∧ wp1 xs C T tbl rt Q n (i + 1) L R h' bc bs) else a_words (S.drop x.2.2.2.2.1) ≤ 8 ∧ x.2.2.2.2.1 ≤ S.length ∧ ∃ M, T[x.2.2.2.1]? = some M ∧ M.2.2.2.2.2.1.1 ≤ bc ∧ M.2.2.2.2.2.1.2 ≤ bs ∧ C x.2.2.2.1 (S.take x.2.2.2.2.1).reverse h (fun r h' => wp1 xs C T tbl rt Q n (i + 1) L (r.toList ++ S.drop x.2.2.2.2.1) h' (bc - M.2.2.2.2.2.1.1) (bs - M.2.2.2.2.2.1.2)))) ∧
    (∀ idx, x.1 = .invokespecial idx → wp1 xs C T tbl rt Q (n + 1) i L S h bc bs = (if x.2.2.2.1 = idInit then (∃ v R, S = .ref v :: R ∧ a_words R ≤ 8 ∧ wp1 xs C T tbl rt Q n (i + 1) L R h bc bs) else a_isR (S.take x.2.2.2.2.1).reverse = true ∧ a_words (S.drop x.2.2.2.2.1) ≤ 8 ∧ x.2.2.2.2.1 ≤ S.length ∧ ∃ M, T[x.2.2.2.1]? = some M ∧ M.2.2.2.2.2.1.1 ≤ bc ∧ M.2.2.2.2.2.1.2 ≤ bs ∧ C x.2.2.2.1 (S.take x.2.2.2.2.1).reverse h (fun r h' => wp1 xs C T tbl rt Q n (i + 1) L (r.toList ++ S.drop x.2.2.2.2.1) h' (bc - M.2.2.2.2.2.1.1) (bs - M.2.2.2.2.2.1.2)))) ∧
    (∀ d lo hi offs, x.1 = .tableswitch d lo hi offs → wp1 xs C T tbl rt Q (n + 1) i L S h bc bs = (match S with
        | .int v :: R => (match a_sw lo hi x.2.2.2.2.2.2 v with | some j => wp1 xs C T tbl rt Q n j L R h bc bs | none => False)
        | _ => False)) := by
  rw [wp1, hx]
  dsimp only
  refine ⟨fun idx e => ?_, fun idx e => ?_, fun idx e => ?_, fun d lo hi offs e => ?_⟩
  · rw [e]
  · rw [e]
  · rw [e]
  · rw [e]; rfl
/-- more steps do no harm -/
theorem wp1_mono {xs : Nat × (Nat → Int32)} {C : Nat → List Value → aH → (Option Value → aH → Prop) → Prop} {T : List aM} {tbl : List xI} {rt : Option FieldType} {Q Q' : Option Value → aH → Prop} (hC : ∀ j a h Q Q', (∀ r h', Q r h' → Q' r h') → C j a h Q → C j a h Q') (hQ : ∀ r h, Q r h → Q' r h) :
    ∀ (n n' i : Nat) (L : aL) (S : List Value) (h : aH) (bc bs bc' bs' : Nat), n ≤ n' → bc ≤ bc' → bs ≤ bs' → wp1 xs C T tbl rt Q n i L S h bc bs → wp1 xs C T tbl rt Q' n' i L S h bc' bs' := by
  intro n
  induction n with
  | zero => intro n' i L S h bc bs bc' bs' _ _ _ hw; exact hw.elim
  | succ n ih =>
    intro n' i L S h bc bs bc' bs' hn hbc hbs hw
    obtain ⟨n', rfl⟩ : ∃ k, n' = k + 1 := ⟨n' - 1, by omega⟩
    have hn' : n ≤ n' := by omega
    cases hx : tbl[i]? with
    | none => unfold wp1 at hw; rw [hx] at hw; exact hw.elim
    | some x =>
      cases hc : a_isCall x.1 with
      | false =>
        rw [wp1_plain hx hc] at hw ⊢
        split at hw
        · rename_i r e; exact hQ _ _ hw
        split at hw
        · rename_i r e; exact ih _ _ _ _ _ _ _ _ _ hn' hbc hbs hw
        split at hw
        · rename_i r e; exact ih _ _ _ _ _ _ _ _ _ hn' hbc hbs hw
        split at hw
        · rename_i L' r e; exact ih _ _ _ _ _ _ _ _ _ hn' hbc hbs hw
        split at hw
        · rename_i t r e; exact ih _ _ _ _ _ _ _ _ _ hn' hbc hbs hw
        split at hw
        · rename_i r e; exact ih _ _ _ _ _ _ _ _ _ hn' hbc hbs hw
        split at hw
        · rename_i r h' e; exact ih _ _ _ _ _ _ _ _ _ hn' hbc hbs hw
        split at hw
        · rename_i r h' kc ks e; exact ⟨by omega, by omega, ih _ _ _ _ _ _ _ _ _ hn' (by omega) (by omega) hw.2.2⟩
        · exact hw.elim
      | true =>
        have c1 := wp1_call (xs := xs) (C := C) (T := T) (rt := rt) (Q := Q) (n := n) (L := L) (S := S) (h := h) (bc := bc) (bs := bs) hx
        have c2 := wp1_call (xs := xs) (C := C) (T := T) (rt := rt) (Q := Q') (n := n') (L := L) (S := S) (h := h) (bc := bc') (bs := bs') hx
        cases e : x.1 <;> (rw [e] at hc) <;> try (cases hc; done)
        · rw [c1.2.2.1 _ e] at hw
          rw [c2.2.2.1 _ e]
          split
          · rename_i q
            rw [if_pos q] at hw
            obtain ⟨v, R, u1, u2, u3⟩ := hw
            exact ⟨v, R, u1, u2, ih _ _ _ _ _ _ _ _ _ hn' hbc hbs u3⟩
          · rename_i q
            rw [if_neg q] at hw
            obtain ⟨u1, u2, u3, M, u4, u5, u6, u7⟩ := hw
            exact ⟨u1, u2, u3, M, u4, by omega, by omega, hC _ _ _ _ _ (fun r h' z => ih _ _ _ _ _ _ _ _ _ hn' (by omega) (by omega) z) u7⟩
        · rw [c1.2.1 _ e] at hw
          rw [c2.2.1 _ e]
          split
          · rename_i q
            rw [if_pos q] at hw
            obtain ⟨R, h', u1, u2, u3⟩ := hw
            exact ⟨R, h', u1, u2, ih _ _ _ _ _ _ _ _ _ hn' hbc hbs u3⟩
          · rename_i q
            rw [if_neg q] at hw
            obtain ⟨u2, u3, M, u4, u5, u6, u7⟩ := hw
            exact ⟨u2, u3, M, u4, by omega, by omega, hC _ _ _ _ _ (fun r h' z => ih _ _ _ _ _ _ _ _ _ hn' (by omega) (by omega) z) u7⟩
        · rw [c1.1 _ e] at hw
          rw [c2.1 _ e]
          obtain ⟨u1, u2, u3, M, u4, u5, u6, u7⟩ := hw
          exact ⟨u1, u2, u3, M, u4, by omega, by omega, hC _ _ _ _ _ (fun r h' z => ih _ _ _ _ _ _ _ _ _ hn' (by omega) (by omega) z) u7⟩
        · rw [c1.2.2.2 _ _ _ _ e] at hw
          rw [c2.2.2.2 _ _ _ _ e]
          split at hw
          · split at hw
            · rename_i j ej
              exact ih _ _ _ _ _ _ _ _ _ hn' hbc hbs hw
            · exact hw.elim
          · exact hw.elim
theorem call1_mono {xs : Nat × (Nat → Int32)} {T : List aM} {P : Nat → Nat → List Value → aH → (Option Value → aH → Prop) → Prop} (hP : ∀ d j a h Q Q', (∀ r h', Q r h' → Q' r h') → P d j a h Q → P d j a h Q') : ∀ (d j : Nat) a h Q Q', (∀ r h', Q r h' → Q' r h') → call1 xs T P d j a h Q → call1 xs T P d j a h Q'
  | 0, j, a, h, Q, Q', hq, hc => hP 0 j a h Q Q' hq hc
  | d + 1, j, a, h, Q, Q', hq, hc => by
    rcases hc with hc | ⟨M, h1, h2, h3, n, h4⟩
    · exact Or.inl (hP _ _ _ _ _ _ hq hc)
    · exact Or.inr ⟨M, h1, h2, h3, n, wp1_mono (call1_mono hP d) hq n n _ _ _ _ _ _ _ _ (Nat.le_refl _) (Nat.le_refl _) (Nat.le_refl _) h4⟩
end
section
/-! M2's cells as M1's heap -/
def g_cnt (t : Nat) : Nat := (g_pos t).length
def g_at (t i : Nat) : Nat := (g_pos t).getD i 0
def enc (v : v2) : Value := match v with
  | .inl x => .int x
  | .inr (.inl x) => .long x
  | .inr (.inr (t, i)) => .ref (if t = 99 then sCR else g_at t i)
def okV (v : v2) : Prop := match v with
  | .inr (.inr (t, i)) => t = 99 ∨ i < g_cnt t
  | _ => True
def okS (S : List v2) : Prop := ∀ v ∈ S, okV v
def okL (L : L2) : Prop := ∀ v, some v ∈ L → okV v
def mapL (L : L2) : aL := L.map (Option.map enc)
def fval (m : Mem) (t i ci k : Nat) : Value := match g_fk ci k with
  | 2 => .long (m.2 t i k)
  | 3 => enc (vR (g_rf t k i).1 (g_rf t k i).2)
  | _ => .int (m.1 t i k)
def g_cell (m : Mem) (q : Nat × Nat) : aE := match g_kind q.1 with
  | 0 => .inr (g_cls q.1, (List.range (g_n (g_cls q.1))).map (fval m q.1 q.2 (g_cls q.1)))
  | 1 => .inl (.int, g_len q.1, .inl (m.1 q.1 q.2))
  | 2 => .inl (.long, g_len q.1, .inr (.inl (m.2 q.1 q.2)))
  | _ => .inl (g_aty q.1, g_len q.1, .inr (.inr (.inr (.inr (fun j => if j < g_len q.1 then some (g_at (g_ra q.1 q.2 j).1 (g_ra q.1 q.2 j).2) else none)))))
def toH (m : Mem) : aH := g_tof.map (g_cell m)
theorem g_cnt_big (n : Nat) : g_cnt (n + 91) = 0 := rfl
theorem g_F1' : ∀ t, t < 91 → ∀ i, i < g_cnt t → g_tof[g_at t i]? = some (t, i) ∧ g_at t i < 274 := by decide +kernel
theorem g_lt {t i : Nat} (h : i < g_cnt t) : t < 91 := by
  by_cases q : t < 91
  · exact q
  · obtain ⟨n, rfl⟩ : ∃ n, t = n + 91 := ⟨t - 91, by omega⟩
    rw [g_cnt_big] at h; omega
theorem g_F1 {t i : Nat} (h : i < g_cnt t) : g_tof[g_at t i]? = some (t, i) ∧ g_at t i < 274 := g_F1' t (g_lt h) i h
theorem g_F2 : ∀ p, p < 274 → g_at (g_tof.getD p (0, 0)).1 (g_tof.getD p (0, 0)).2 = p := by decide +kernel
theorem g_flen : g_tof.length = 274 := by decide +kernel
def g_F3b (t k i : Nat) : Bool := !(decide (g_kind t = 0) && decide (k < g_n (g_cls t)) && decide (g_fk (g_cls t) k = 3)) || (decide ((g_rf t k i).2 < g_cnt (g_rf t k i).1) && decide ((g_rf t k i).1 ≠ 99))
theorem g_F3' : ((List.range 91).all fun t => (List.range 40).all fun k => (List.range (g_cnt t)).all fun i => g_F3b t k i) = true := by decide +kernel
theorem g_n40 : ∀ t, t < 91 → g_n (g_cls t) ≤ 40 := by decide +kernel
theorem g_F3 {t k i : Nat} (hk : g_kind t = 0) (h1 : k < g_n (g_cls t)) (h2 : g_fk (g_cls t) k = 3) (hi : i < g_cnt t) : (g_rf t k i).2 < g_cnt (g_rf t k i).1 ∧ (g_rf t k i).1 ≠ 99 := by
  have a := List.all_eq_true.mp g_F3' t (List.mem_range.mpr (g_lt hi))
  have b := List.all_eq_true.mp a k (List.mem_range.mpr (Nat.lt_of_lt_of_le h1 (g_n40 t (g_lt hi))))
  have c := List.all_eq_true.mp b i (List.mem_range.mpr hi)
  simp only [g_F3b, hk, h1, h2, decide_true, Bool.and_true, Bool.not_true, Bool.false_or, Bool.and_eq_true, decide_eq_true_eq] at c
  exact c
theorem g_F4 : ∀ t, t < 91 → g_kind t = 3 → a_isRef (g_aty t) = true ∧ ∀ i, i < g_cnt t → ∀ j, j < g_len t → (g_ra t i j).2 < g_cnt (g_ra t i j).1 ∧ (g_ra t i j).1 ≠ 99 := by decide +kernel
theorem toH_at {m : Mem} {t i : Nat} (h : i < g_cnt t) : a_cell (toH m) (g_at t i) = some (g_cell m (t, i)) := by
  obtain ⟨h1, h2⟩ := g_F1 h
  unfold a_cell toH
  rw [if_neg (by unfold sCR; omega), List.getElem?_map, h1]; rfl
theorem g_cell_eq {m m' : Mem} {q : Nat × Nat} (h1 : m'.1 q.1 q.2 = m.1 q.1 q.2) (h2 : m'.2 q.1 q.2 = m.2 q.1 q.2) : g_cell m' q = g_cell m q := by
  unfold g_cell
  split
  · congr 2
    apply List.map_congr_left
    intro k _
    unfold fval
    rw [h1, h2]
  · rw [h1]
  · rw [h2]
  · rfl
theorem toH_set {m m' : Mem} {t i : Nat} (h : i < g_cnt t) (hm : ∀ t' i', ¬ (t' = t ∧ i' = i) → m'.1 t' i' = m.1 t' i' ∧ m'.2 t' i' = m.2 t' i') : toH m' = (toH m).set (g_at t i) (g_cell m' (t, i)) := by
  obtain ⟨h1, h2⟩ := g_F1 h
  apply List.ext_getElem?
  intro p
  by_cases hp : p = g_at t i
  · subst hp
    rw [List.getElem?_set_self (by unfold toH; rw [List.length_map, g_flen]; exact h2)]
    unfold toH
    rw [List.getElem?_map, h1]; rfl
  · rw [List.getElem?_set_ne (Ne.symm hp)]
    unfold toH
    rw [List.getElem?_map, List.getElem?_map]
    cases hq : g_tof[p]? with
    | none => rfl
    | some q =>
      have hlt := (List.getElem?_eq_some_iff.mp hq).1
      rw [g_flen] at hlt
      have h3 := g_F2 p hlt
      rw [List.getD_eq_getElem?_getD, hq] at h3
      have hne : ¬ (q.1 = t ∧ q.2 = i) := fun z => hp (by rw [← z.1, ← z.2]; exact h3.symm)
      obtain ⟨a1, a2⟩ := hm q.1 q.2 hne
      exact congrArg some (g_cell_eq a1 a2)
theorem mI_ne {m : Mem} {t i k : Nat} {v : Int32} : ∀ t' i', ¬ (t' = t ∧ i' = i) → (mI m t i k v).1 t' i' = m.1 t' i' ∧ (mI m t i k v).2 t' i' = m.2 t' i' := fun t' i' h => ⟨by
  funext k'
  show (if t' = t ∧ i' = i ∧ k' = k then v else m.1 t' i' k') = _
  rw [if_neg (fun z => h ⟨z.1, z.2.1⟩)], rfl⟩
theorem mL_ne {m : Mem} {t i k : Nat} {v : Int64} : ∀ t' i', ¬ (t' = t ∧ i' = i) → (mL m t i k v).1 t' i' = m.1 t' i' ∧ (mL m t i k v).2 t' i' = m.2 t' i' := fun t' i' h => ⟨rfl, by
  funext k'
  show (if t' = t ∧ i' = i ∧ k' = k then v else m.2 t' i' k') = _
  rw [if_neg (fun z => h ⟨z.1, z.2.1⟩)]⟩
theorem mI_at (m : Mem) (t i k : Nat) (v : Int32) : (mI m t i k v).1 t i = upd (m.1 t i) k v := by
  funext k'
  show (if t = t ∧ i = i ∧ k' = k then v else m.1 t i k') = _
  by_cases h : k' = k <;> simp [upd, h]
theorem mL_at (m : Mem) (t i k : Nat) (v : Int64) : (mL m t i k v).2 t i = vp_updL (m.2 t i) k v := by
  funext k'
  show (if t = t ∧ i = i ∧ k' = k then v else m.2 t i k') = _
  by_cases h : k' = k <;> simp [vp_updL, h]
theorem enc_cat (v : v2) : (enc v).category = match v with | .inr (.inl _) => 2 | _ => 1 := by
  obtain x | x | ⟨t, i⟩ := v <;> rfl
theorem c_words_eq : ∀ S : List v2, a_words (S.map enc) = c_words S
  | [] => rfl
  | .inl x :: S => by
    have := c_words_eq S
    simp only [a_words, List.map_cons, List.sum_cons] at this ⊢
    rw [this]; rfl
  | .inr (.inl x) :: S => by
    have := c_words_eq S
    simp only [a_words, List.map_cons, List.sum_cons] at this ⊢
    rw [this]; rfl
  | .inr (.inr (t, i)) :: S => by
    have := c_words_eq S
    simp only [a_words, List.map_cons, List.sum_cons] at this ⊢
    rw [this]; rfl
theorem l_get_map (L : L2) (k : Nat) : a_get (mapL L) k = (l_get L k).map enc := by
  unfold a_get l_get mapL
  rw [List.getElem?_map]
  cases L[k]? with
  | none => rfl
  | some o => cases o <;> rfl
theorem mapL_set (L : L2) (k : Nat) (o : Option v2) : mapL (L.set k o) = (mapL L).set k (o.map enc) := by unfold mapL; rw [List.map_set]
theorem l_kill_map (L : L2) (k : Nat) : mapL (l_kill L k) = a_kill (mapL L) k := by
  unfold l_kill a_kill
  cases k with
  | zero => rfl
  | succ j =>
    dsimp only
    rw [l_get_map]
    cases h : l_get L j with
    | none => rfl
    | some v =>
      obtain x | x | ⟨t, i⟩ := v
      · rfl
      · exact mapL_set L j none
      · rfl
theorem l_set1_map (L : L2) (k : Nat) (v : v2) : mapL (l_set1 L k v) = a_set1 (mapL L) k (enc v) := by unfold l_set1 a_set1; rw [mapL_set, l_kill_map]; rfl
theorem l_set2_map (L : L2) (k : Nat) (v : v2) : mapL (l_set2 L k v) = a_set2 (mapL L) k (enc v) := by unfold l_set2 a_set2; rw [mapL_set, mapL_set, l_kill_map]; rfl
theorem okL_set {L : L2} {k : Nat} {o : Option v2} (h : okL L) (ho : ∀ v, o = some v → okV v) : okL (L.set k o) := fun v hv => by
  rcases List.mem_or_eq_of_mem_set hv with q | q
  · exact h v q
  · exact ho v q.symm
theorem okL_kill {L : L2} {k : Nat} (h : okL L) : okL (l_kill L k) := by
  unfold l_kill
  split
  · exact h
  · split
    · exact okL_set h (fun v q => by cases q)
    · exact h
theorem okL_set1 {L : L2} {k : Nat} {v : v2} (h : okL L) (hv : okV v) : okL (l_set1 L k v) := okL_set (okL_kill h) (fun w q => by cases q; exact hv)
theorem okL_set2 {L : L2} {k : Nat} {v : v2} (h : okL L) (hv : okV v) : okL (l_set2 L k v) := okL_set (okL_set (okL_kill h) (fun w q => by cases q; exact hv)) (fun w q => by cases q)
theorem okL_get {L : L2} {k : Nat} {v : v2} (h : okL L) (q : l_get L k = some v) : okV v := by
  unfold l_get at q
  split at q
  · rename_i w hw
    cases q
    exact h _ (List.mem_of_getElem? hw)
  · cases q
theorem mapL_len (L : L2) : (mapL L).length = L.length := by unfold mapL; rw [List.length_map]
end
section
/-! WHAT M2 DOES, M1 DOES (2) -/
theorem b_if_spec {c : Bool} {P : Prop} (h : b_if c P) : c = true ∧ P := by
  cases c
  · exact h.elim
  · exact ⟨rfl, h⟩
theorem okS_c {v : v2} {S : List v2} (hv : okV v) (hS : okS S) : okS (v :: S) := fun w hw => (List.mem_cons.mp hw).elim (fun q => by rw [q]; exact hv) (hS w)
theorem okS_t {v : v2} {S : List v2} (h : okS (v :: S)) : okS S := fun w hw => h w (List.mem_cons_of_mem _ hw)
theorem okS_h {v : v2} {S : List v2} (h : okS (v :: S)) : okV v := h v List.mem_cons_self
theorem c_ret_spec {kd : Nat} {go : List v2 → Mem → Prop} {rest : List v2} {r : Option v2} {m : Mem} (h : c_ret kd go rest r m) : go (r.toList ++ rest) m := by
  unfold c_ret at h
  split at h
  · obtain ⟨h1, h2⟩ := h; subst h1; exact h2
  · obtain ⟨x, h1, h2⟩ := h; subst h1; exact h2
  · obtain ⟨x, h1, h2⟩ := h; subst h1; exact h2
  · obtain ⟨x, h1, h2⟩ := h; subst h1; exact h2
theorem enc_ref {t q : Nat} (h : t ≠ 99) : enc (vR t q) = .ref (g_at t q) := by
  show Value.ref (if t = 99 then sCR else g_at t q) = _
  rw [if_neg h]
theorem g_kind99 : g_kind 99 = 4 := rfl
theorem g_ne99 {t k : Nat} (h : g_kind t = k) (hk : k ≠ 4) : t ≠ 99 := fun e => by subst e; rw [g_kind99] at h; exact hk h.symm
theorem okV_lt {t q : Nat} (h : okV (vR t q)) (ht : t ≠ 99) : q < g_cnt t := h.resolve_left ht
theorem g_cell0 {m : Mem} {t q : Nat} (h : g_kind t = 0) : g_cell m (t, q) = .inr (g_cls t, (List.range (g_n (g_cls t))).map (fval m t q (g_cls t))) := by unfold g_cell; rw [h]; rfl
theorem g_cell1 {m : Mem} {t q : Nat} (h : g_kind t = 1) : g_cell m (t, q) = .inl (.int, g_len t, .inl (m.1 t q)) := by unfold g_cell; rw [h]; rfl
theorem g_cell2 {m : Mem} {t q : Nat} (h : g_kind t = 2) : g_cell m (t, q) = .inl (.long, g_len t, .inr (.inl (m.2 t q))) := by unfold g_cell; rw [h]; rfl
theorem g_cell3 {m : Mem} {t q : Nat} (h : g_kind t = 3) : g_cell m (t, q) = .inl (g_aty t, g_len t, .inr (.inr (.inr (.inr (fun j => if j < g_len t then some (g_at (g_ra t q j).1 (g_ra t q j).2) else none))))) := by unfold g_cell; rw [h]; rfl
/-- a field's write -/
theorem toH_put {m m' : Mem} {t q k : Nat} {v : Value} (h0 : g_kind t = 0) (hq : q < g_cnt t) (hk : k < g_n (g_cls t)) (hm : ∀ t' i', ¬ (t' = t ∧ i' = q) → m'.1 t' i' = m.1 t' i' ∧ m'.2 t' i' = m.2 t' i') (hv : fval m' t q (g_cls t) k = v) (hne : ∀ k', k' ≠ k → fval m' t q (g_cls t) k' = fval m t q (g_cls t) k') : toH m' = (toH m).set (g_at t q) (.inr (g_cls t, ((List.range (g_n (g_cls t))).map (fval m t q (g_cls t))).set k v)) := by
  rw [toH_set hq hm, g_cell0 h0]
  congr 3
  apply List.ext_getElem?
  intro p
  by_cases hp : p = k
  · subst hp
    rw [List.getElem?_set_self (by simpa using hk), List.getElem?_map, List.getElem?_range hk]
    exact congrArg some hv
  · rw [List.getElem?_set_ne (Ne.symm hp), List.getElem?_map, List.getElem?_map]
    cases hq2 : (List.range (g_n (g_cls t)))[p]? with
    | none => rfl
    | some y =>
      have : y = p := by
        obtain ⟨h1, h2⟩ := List.getElem?_eq_some_iff.mp hq2
        rw [List.getElem_range] at h2; exact h2.symm
      subst this
      exact congrArg some (hne y hp)
theorem fval_int {m : Mem} {t q ci k : Nat} (h : g_fk ci k = 0 ∨ g_fk ci k = 1) : fval m t q ci k = .int (m.1 t q k) := by unfold fval; rcases h with h | h <;> rw [h] <;> rfl
theorem fval_long {m : Mem} {t q ci k : Nat} (h : g_fk ci k = 2) : fval m t q ci k = .long (m.2 t q k) := by unfold fval; rw [h]; rfl
theorem fval_ref {m : Mem} {t q ci k : Nat} (h : g_fk ci k = 3) : fval m t q ci k = enc (vR (g_rf t k q).1 (g_rf t k q).2) := by unfold fval; rw [h]; rfl
theorem fval_ne {m m' : Mem} {t q ci k : Nat} (h1 : m'.1 t q k = m.1 t q k) (h2 : m'.2 t q k = m.2 t q k) : fval m' t q ci k = fval m t q ci k := by unfold fval; rw [h1, h2]
theorem fit_int {ci k : Nat} {v : Int32} (h : g_fk ci k = 0) : a_fit (a_ty ci k) (.int v) = true := by
  unfold g_fk at h
  split at h
  · rename_i e; rw [e]; simp [a_fit, narrow, fits]
  all_goals cases h
theorem fit_bool {ci k : Nat} {v : Int32} (h : g_fk ci k = 1) (hv : isB v) : a_fit (a_ty ci k) (.int v) = true := by
  unfold g_fk at h
  split at h
  · cases h
  · rename_i e; rw [e]; rcases hv with rfl | rfl <;> decide +kernel
  all_goals cases h
theorem fit_long {ci k : Nat} {v : Int64} (h : g_fk ci k = 2) : a_fit (a_ty ci k) (.long v) = true := by
  unfold g_fk at h
  split at h
  · cases h
  · cases h
  · rename_i e; rw [e]; rfl
  · cases h
theorem sws_spec {go : Nat → Prop} {v : Int32} : ∀ {r : List Nat} {lo : Int} {k j : Nat}, sws go v lo r → r[k]? = some j → v.toInt = lo + k → go j
  | [], _, _, _, _, h, _ => by simp at h
  | a :: r, lo, 0, j, hs, h, e => by rw [List.getElem?_cons_zero] at h; cases h; exact hs.1 (by rw [e]; omega)
  | a :: r, lo, k + 1, j, hs, h, e => by rw [List.getElem?_cons_succ] at h; exact sws_spec (k := k) hs.2 h (by rw [e]; omega)
theorem narrow_b {v : Int32} (h : isB v) : narrow .boolean (.int v) = .int v := by rcases h with rfl | rfl <;> rfl
theorem enc_i (x : Int32) : enc (.inl x) = .int x := rfl
theorem enc_l (x : Int64) : enc (.inr (.inl x)) = .long x := rfl
theorem okVi (x : Int32) : okV (vI x) := trivial
theorem okVl (x : Int64) : okV (vL x) := trivial
section W21
variable {xs : Nat × (Nat → Int32)} {C2 : Nat → List v2 → Mem → (Option v2 → Mem → Prop) → Prop} {C1 : Nat → List Value → aH → (Option Value → aH → Prop) → Prop} {tbl : List xI} {rt : Option FieldType} {Q2 : Option v2 → Mem → Prop} {Q1 : Option Value → aH → Prop} {go : Nat → L2 → List v2 → Mem → Prop} {n cc cs lo ls : Nat}
set_option maxHeartbeats 4000000 in
theorem st21
    (hC : ∀ (j : Nat) args m Q, okS args → C2 j args m Q → ∃ M, MT[j]? = some M ∧ M.2.2.2.2.2.1.1 ≤ cc ∧ M.2.2.2.2.2.1.2 ≤ cs ∧ C1 j (args.map enc) (toH m) (fun r h => ∃ r2 m2, r = r2.map enc ∧ h = toH m2 ∧ (∀ v, r2 = some v → okV v) ∧ Q r2 m2))
    (hmC : ∀ j a h Q Q', (∀ r h', Q r h' → Q' r h') → C1 j a h Q → C1 j a h Q')
    (hQ : ∀ r m, (∀ v, r = some v → okV v) → Q2 r m → Q1 (r.map enc) (toH m))
    (hgo : ∀ (j : Nat) (L : L2) (S : List v2) (m : Mem) (bc bs : Nat), okL L → okS S → lo ≤ bc → ls ≤ bs → go j L S m → wp1 xs C1 MT tbl rt Q1 n j (mapL L) (S.map enc) (toH m) bc bs)
    {x : xI} {i : Nat} {L : L2} {S : List v2} {m : Mem} {bc bs : Nat} (hx : tbl[i]? = some x) (hL : okL L) (hS : okS S) (hbc : lo + cc ≤ bc) (hbs : ls + cs ≤ bs) (hw : st2 xs C2 rt Q2 go x i L S m) : wp1 xs C1 MT tbl rt Q1 (n + 1) i (mapL L) (S.map enc) (toH m) bc bs := by
    have hbc' : lo ≤ bc := by omega
    have hbs' : ls ≤ bs := by omega
    obtain ⟨ins, pc, len, a, b, z, tg⟩ := x
    unfold st2 at hw
    dsimp only at hw
    -- a call, once its answer is known
    have aft : ∀ (M : aM) (rest : List v2) (kd : Nat), M.2.2.2.2.2.1.1 ≤ cc → M.2.2.2.2.2.1.2 ≤ cs → okS rest → ∀ (r : Option Value) (h : aH), (∃ r2 m2, r = r2.map enc ∧ h = toH m2 ∧ (∀ v, r2 = some v → okV v) ∧ c_ret kd (fun R m' => go (i + 1) L R m') rest r2 m2) → wp1 xs C1 MT tbl rt Q1 n (i + 1) (mapL L) (r.toList ++ rest.map enc) h (bc - M.2.2.2.2.2.1.1) (bs - M.2.2.2.2.2.1.2) := by
      intro M rest kd q1 q2 hr r h hh
      obtain ⟨r2, m2, rfl, rfl, h3, h4⟩ := hh
      have e : (r2.map enc).toList ++ rest.map enc = (r2.toList ++ rest).map enc := by cases r2 <;> rfl
      rw [e]
      refine hgo _ _ _ _ _ _ hL (fun v hv => ?_) (by omega) (by omega) (c_ret_spec h4)
      rcases List.mem_append.mp hv with q | q
      · cases r2 with
        | none => cases q
        | some w => rw [Option.toList_some, List.mem_singleton] at q; rw [q]; exact h3 w rfl
      · exact hr v q
    have hok0 : ∀ v, (none : Option v2) = some v → okV v := fun v q => by cases q
    cases ins <;> try (exact (show False from hw).elim)
    case iconst n9 =>
      dsimp only at hw
      rw [wp1_plain hx rfl]
      exact hgo _ _ _ _ _ _ hL (okS_c (by trivial) hS) hbc' hbs' hw
    case bipush n9 =>
      dsimp only at hw
      rw [wp1_plain hx rfl]
      exact hgo _ _ _ _ _ _ hL (okS_c (by trivial) hS) hbc' hbs' hw
    case sipush n9 =>
      dsimp only at hw
      rw [wp1_plain hx rfl]
      exact hgo _ _ _ _ _ _ hL (okS_c (by trivial) hS) hbc' hbs' hw
    case lconst n9 =>
      dsimp only at hw
      rw [wp1_plain hx rfl]
      exact hgo _ _ _ _ _ _ hL (okS_c (by trivial) hS) hbc' hbs' hw
    case ldc n9 =>
      dsimp only at hw
      rw [wp1_plain hx rfl]
      exact hgo _ _ _ _ _ _ hL (okS_c (by trivial) hS) hbc' hbs' hw
    case ldc_w n9 =>
      dsimp only at hw
      rw [wp1_plain hx rfl]
      exact hgo _ _ _ _ _ _ hL (okS_c (by trivial) hS) hbc' hbs' hw
    case ldc2_w n9 =>
      dsimp only at hw
      rw [wp1_plain hx rfl]
      exact hgo _ _ _ _ _ _ hL (okS_c (by trivial) hS) hbc' hbs' hw
    case iadd =>
      dsimp only at hw
      split at hw
      · rw [wp1_plain hx rfl]
        exact hgo _ _ _ _ _ _ hL (okS_c (by trivial) (okS_t (okS_t hS))) hbc' hbs' hw
      · exact hw.elim
    case isub =>
      dsimp only at hw
      split at hw
      · rw [wp1_plain hx rfl]
        exact hgo _ _ _ _ _ _ hL (okS_c (by trivial) (okS_t (okS_t hS))) hbc' hbs' hw
      · exact hw.elim
    case imul =>
      dsimp only at hw
      split at hw
      · rw [wp1_plain hx rfl]
        exact hgo _ _ _ _ _ _ hL (okS_c (by trivial) (okS_t (okS_t hS))) hbc' hbs' hw
      · exact hw.elim
    case iand =>
      dsimp only at hw
      split at hw
      · rw [wp1_plain hx rfl]
        exact hgo _ _ _ _ _ _ hL (okS_c (by trivial) (okS_t (okS_t hS))) hbc' hbs' hw
      · exact hw.elim
    case ior =>
      dsimp only at hw
      split at hw
      · rw [wp1_plain hx rfl]
        exact hgo _ _ _ _ _ _ hL (okS_c (by trivial) (okS_t (okS_t hS))) hbc' hbs' hw
      · exact hw.elim
    case ixor =>
      dsimp only at hw
      split at hw
      · rw [wp1_plain hx rfl]
        exact hgo _ _ _ _ _ _ hL (okS_c (by trivial) (okS_t (okS_t hS))) hbc' hbs' hw
      · exact hw.elim
    case ishl =>
      dsimp only at hw
      split at hw
      · rw [wp1_plain hx rfl]
        exact hgo _ _ _ _ _ _ hL (okS_c (by trivial) (okS_t (okS_t hS))) hbc' hbs' hw
      · exact hw.elim
    case ishr =>
      dsimp only at hw
      split at hw
      · rw [wp1_plain hx rfl]
        exact hgo _ _ _ _ _ _ hL (okS_c (by trivial) (okS_t (okS_t hS))) hbc' hbs' hw
      · exact hw.elim
    case iushr =>
      dsimp only at hw
      split at hw
      · rw [wp1_plain hx rfl]
        exact hgo _ _ _ _ _ _ hL (okS_c (by trivial) (okS_t (okS_t hS))) hbc' hbs' hw
      · exact hw.elim
    case ladd =>
      dsimp only at hw
      split at hw
      · rw [wp1_plain hx rfl]
        exact hgo _ _ _ _ _ _ hL (okS_c (by trivial) (okS_t (okS_t hS))) hbc' hbs' hw
      · exact hw.elim
    case lsub =>
      dsimp only at hw
      split at hw
      · rw [wp1_plain hx rfl]
        exact hgo _ _ _ _ _ _ hL (okS_c (by trivial) (okS_t (okS_t hS))) hbc' hbs' hw
      · exact hw.elim
    case lmul =>
      dsimp only at hw
      split at hw
      · rw [wp1_plain hx rfl]
        exact hgo _ _ _ _ _ _ hL (okS_c (by trivial) (okS_t (okS_t hS))) hbc' hbs' hw
      · exact hw.elim
    case lor =>
      dsimp only at hw
      split at hw
      · rw [wp1_plain hx rfl]
        exact hgo _ _ _ _ _ _ hL (okS_c (by trivial) (okS_t (okS_t hS))) hbc' hbs' hw
      · exact hw.elim
    case lshl =>
      dsimp only at hw
      split at hw
      · rw [wp1_plain hx rfl]
        exact hgo _ _ _ _ _ _ hL (okS_c (by trivial) (okS_t (okS_t hS))) hbc' hbs' hw
      · exact hw.elim
    case lcmp =>
      dsimp only at hw
      split at hw
      · rw [wp1_plain hx rfl]
        exact hgo _ _ _ _ _ _ hL (okS_c (by trivial) (okS_t (okS_t hS))) hbc' hbs' hw
      · exact hw.elim
    case lneg =>
      dsimp only at hw
      split at hw
      · rw [wp1_plain hx rfl]
        exact hgo _ _ _ _ _ _ hL (okS_c (by trivial) (okS_t hS)) hbc' hbs' hw
      · exact hw.elim
    case i2l =>
      dsimp only at hw
      split at hw
      · rw [wp1_plain hx rfl]
        exact hgo _ _ _ _ _ _ hL (okS_c (by trivial) (okS_t hS)) hbc' hbs' hw
      · exact hw.elim
    case l2i =>
      dsimp only at hw
      split at hw
      · rw [wp1_plain hx rfl]
        exact hgo _ _ _ _ _ _ hL (okS_c (by trivial) (okS_t hS)) hbc' hbs' hw
      · exact hw.elim
    case idiv =>
      dsimp only at hw
      split at hw
      · rename_i y x R
        obtain ⟨h0, hw⟩ := hw
        have e : a_pure .idiv z ((vI y :: vI x :: R).map enc) = some (.int (x / y) :: R.map enc) := by
          show (if y = 0 then none else some _) = _
          rw [if_neg h0]
        rw [wp1_plain hx rfl]
        simp only [a_ret, e]
        exact hgo _ _ _ _ _ _ hL (okS_c (by trivial) (okS_t (okS_t hS))) hbc' hbs' hw
      · exact hw.elim
    case irem =>
      dsimp only at hw
      split at hw
      · rename_i y x R
        obtain ⟨h0, hw⟩ := hw
        have e : a_pure .irem z ((vI y :: vI x :: R).map enc) = some (.int (x - x / y * y) :: R.map enc) := by
          show (if y = 0 then none else some _) = _
          rw [if_neg h0]
        rw [wp1_plain hx rfl]
        simp only [a_ret, e]
        exact hgo _ _ _ _ _ _ hL (okS_c (by trivial) (okS_t (okS_t hS))) hbc' hbs' hw
      · exact hw.elim
    case ldiv =>
      dsimp only at hw
      split at hw
      · rename_i y x R
        obtain ⟨h0, hw⟩ := hw
        have e : a_pure .ldiv z ((vL y :: vL x :: R).map enc) = some (.long (x / y) :: R.map enc) := by
          show (if y = 0 then none else some _) = _
          rw [if_neg h0]
        rw [wp1_plain hx rfl]
        simp only [a_ret, e]
        exact hgo _ _ _ _ _ _ hL (okS_c (by trivial) (okS_t (okS_t hS))) hbc' hbs' hw
      · exact hw.elim
    case lrem =>
      dsimp only at hw
      split at hw
      · rename_i y x R
        obtain ⟨h0, hw⟩ := hw
        have e : a_pure .lrem z ((vL y :: vL x :: R).map enc) = some (.long (x - x / y * y) :: R.map enc) := by
          show (if y = 0 then none else some _) = _
          rw [if_neg h0]
        rw [wp1_plain hx rfl]
        simp only [a_ret, e]
        exact hgo _ _ _ _ _ _ hL (okS_c (by trivial) (okS_t (okS_t hS))) hbc' hbs' hw
      · exact hw.elim
    case dup =>
      dsimp only at hw
      split at hw
      · rw [wp1_plain hx rfl]
        exact hgo _ _ _ _ _ _ hL (okS_c (by trivial) (okS_c (by trivial) (okS_t hS))) hbc' hbs' hw
      · rw [wp1_plain hx rfl]
        exact hgo _ _ _ _ _ _ hL (okS_c (okS_h hS) hS) hbc' hbs' hw
      · exact hw.elim
    case pop =>
      dsimp only at hw
      split at hw
      · rw [wp1_plain hx rfl]
        exact hgo _ _ _ _ _ _ hL (okS_t hS) hbc' hbs' hw
      · rw [wp1_plain hx rfl]
        exact hgo _ _ _ _ _ _ hL (okS_t hS) hbc' hbs' hw
      · exact hw.elim
    case dup2 =>
      dsimp only at hw
      split at hw
      · rename_i x v R
        have e : a_pure .dup2 z ((vL x :: v :: R).map enc) = some ((vL x :: vL x :: v :: R).map enc) := rfl
        rw [wp1_plain hx rfl]
        simp only [a_ret, e]
        exact hgo _ _ _ _ _ _ hL (okS_c (by trivial) hS) hbc' hbs' hw
      · rw [wp1_plain hx rfl]
        exact hgo _ _ _ _ _ _ hL (okS_c (by trivial) (okS_c (okS_h (okS_t hS)) hS)) hbc' hbs' hw
      · exact hw.elim
    case iload k9 =>
      dsimp only at hw
      split at hw
      · rename_i x e
        have e2 : a_load (.iload k9) (mapL L) = some (enc (vI x)) := by simp only [a_load, l_get_map, e]; rfl
        rw [wp1_plain hx rfl]
        simp only [a_ret, a_pure, e2]
        exact hgo _ _ _ _ _ _ hL (okS_c (by trivial) hS) hbc' hbs' hw
      · exact hw.elim
    case iload_n k9 =>
      dsimp only at hw
      split at hw
      · rename_i x e
        have e2 : a_load (.iload_n k9) (mapL L) = some (enc (vI x)) := by simp only [a_load, l_get_map, e]; rfl
        rw [wp1_plain hx rfl]
        simp only [a_ret, a_pure, e2]
        exact hgo _ _ _ _ _ _ hL (okS_c (by trivial) hS) hbc' hbs' hw
      · exact hw.elim
    case lload k9 =>
      dsimp only at hw
      split at hw
      · rename_i x e
        have e2 : a_load (.lload k9) (mapL L) = some (enc (vL x)) := by simp only [a_load, l_get_map, e]; rfl
        rw [wp1_plain hx rfl]
        simp only [a_ret, a_pure, e2]
        exact hgo _ _ _ _ _ _ hL (okS_c (by trivial) hS) hbc' hbs' hw
      · exact hw.elim
    case lload_n k9 =>
      dsimp only at hw
      split at hw
      · rename_i x e
        have e2 : a_load (.lload_n k9) (mapL L) = some (enc (vL x)) := by simp only [a_load, l_get_map, e]; rfl
        rw [wp1_plain hx rfl]
        simp only [a_ret, a_pure, e2]
        exact hgo _ _ _ _ _ _ hL (okS_c (by trivial) hS) hbc' hbs' hw
      · exact hw.elim
    case aload k9 =>
      dsimp only at hw
      split at hw
      · rename_i t q e
        have e2 : a_load (.aload k9) (mapL L) = some (enc (vR t q)) := by simp only [a_load, l_get_map, e]; rfl
        rw [wp1_plain hx rfl]
        simp only [a_ret, a_pure, e2]
        exact hgo _ _ _ _ _ _ hL (okS_c (okL_get hL e) hS) hbc' hbs' hw
      · exact hw.elim
    case aload_n k9 =>
      dsimp only at hw
      split at hw
      · rename_i t q e
        have e2 : a_load (.aload_n k9) (mapL L) = some (enc (vR t q)) := by simp only [a_load, l_get_map, e]; rfl
        rw [wp1_plain hx rfl]
        simp only [a_ret, a_pure, e2]
        exact hgo _ _ _ _ _ _ hL (okS_c (okL_get hL e) hS) hbc' hbs' hw
      · exact hw.elim
    case istore k9 =>
      dsimp only at hw
      split at hw
      · rename_i x R
        obtain ⟨hk, hw⟩ := b_if_spec hw
        rw [decide_eq_true_eq] at hk
        have e2 : a_store (.istore k9) (mapL L) ((vI x :: R).map enc) = some (mapL (l_set1 L k9 (vI x)), R.map enc) := by
          rw [l_set1_map]
          simp only [a_store, List.map_cons, enc, mapL_len]
          rw [if_pos hk]
        rw [wp1_plain hx rfl]
        simp only [a_ret, a_pure, a_load, e2]
        exact hgo _ _ _ _ _ _ (okL_set1 hL (by trivial)) (okS_t hS) hbc' hbs' hw
      · exact hw.elim
    case istore_n k9 =>
      dsimp only at hw
      split at hw
      · rename_i x R
        obtain ⟨hk, hw⟩ := b_if_spec hw
        rw [decide_eq_true_eq] at hk
        have e2 : a_store (.istore_n k9) (mapL L) ((vI x :: R).map enc) = some (mapL (l_set1 L k9 (vI x)), R.map enc) := by
          rw [l_set1_map]
          simp only [a_store, List.map_cons, enc, mapL_len]
          rw [if_pos hk]
        rw [wp1_plain hx rfl]
        simp only [a_ret, a_pure, a_load, e2]
        exact hgo _ _ _ _ _ _ (okL_set1 hL (by trivial)) (okS_t hS) hbc' hbs' hw
      · exact hw.elim
    case lstore k9 =>
      dsimp only at hw
      split at hw
      · rename_i x R
        obtain ⟨hk, hw⟩ := b_if_spec hw
        rw [decide_eq_true_eq] at hk
        have e2 : a_store (.lstore k9) (mapL L) ((vL x :: R).map enc) = some (mapL (l_set2 L k9 (vL x)), R.map enc) := by
          rw [l_set2_map]
          simp only [a_store, List.map_cons, enc, mapL_len]
          rw [if_pos hk]
        rw [wp1_plain hx rfl]
        simp only [a_ret, a_pure, a_load, e2]
        exact hgo _ _ _ _ _ _ (okL_set2 hL (by trivial)) (okS_t hS) hbc' hbs' hw
      · exact hw.elim
    case lstore_n k9 =>
      dsimp only at hw
      split at hw
      · rename_i x R
        obtain ⟨hk, hw⟩ := b_if_spec hw
        rw [decide_eq_true_eq] at hk
        have e2 : a_store (.lstore_n k9) (mapL L) ((vL x :: R).map enc) = some (mapL (l_set2 L k9 (vL x)), R.map enc) := by
          rw [l_set2_map]
          simp only [a_store, List.map_cons, enc, mapL_len]
          rw [if_pos hk]
        rw [wp1_plain hx rfl]
        simp only [a_ret, a_pure, a_load, e2]
        exact hgo _ _ _ _ _ _ (okL_set2 hL (by trivial)) (okS_t hS) hbc' hbs' hw
      · exact hw.elim
    case astore k9 =>
      dsimp only at hw
      split at hw
      · rename_i t q R
        obtain ⟨hk, hw⟩ := b_if_spec hw
        rw [decide_eq_true_eq] at hk
        have e2 : a_store (.astore k9) (mapL L) ((vR t q :: R).map enc) = some (mapL (l_set1 L k9 (vR t q)), R.map enc) := by
          rw [l_set1_map]
          simp only [a_store, List.map_cons, enc, mapL_len]
          rw [if_pos hk]
        rw [wp1_plain hx rfl]
        simp only [a_ret, a_pure, a_load, e2]
        exact hgo _ _ _ _ _ _ (okL_set1 hL (okS_h hS)) (okS_t hS) hbc' hbs' hw
      · exact hw.elim
    case astore_n k9 =>
      dsimp only at hw
      split at hw
      · rename_i t q R
        obtain ⟨hk, hw⟩ := b_if_spec hw
        rw [decide_eq_true_eq] at hk
        have e2 : a_store (.astore_n k9) (mapL L) ((vR t q :: R).map enc) = some (mapL (l_set1 L k9 (vR t q)), R.map enc) := by
          rw [l_set1_map]
          simp only [a_store, List.map_cons, enc, mapL_len]
          rw [if_pos hk]
        rw [wp1_plain hx rfl]
        simp only [a_ret, a_pure, a_load, e2]
        exact hgo _ _ _ _ _ _ (okL_set1 hL (okS_h hS)) (okS_t hS) hbc' hbs' hw
      · exact hw.elim
    case iinc k9 n9 =>
      dsimp only at hw
      split at hw
      · rename_i x e
        obtain ⟨hk, hw⟩ := b_if_spec hw
        rw [decide_eq_true_eq] at hk
        have e2 : a_store (.iinc k9 n9) (mapL L) (S.map enc) = some (mapL (l_set1 L k9 (vI (x + Int32.ofInt n9))), S.map enc) := by
          rw [l_set1_map]
          simp only [a_store, l_get_map, e, Option.map_some, enc, mapL_len]
          rw [if_pos hk]
        rw [wp1_plain hx rfl]
        simp only [a_ret, a_pure, a_load, e2]
        exact hgo _ _ _ _ _ _ (okL_set1 hL (by trivial)) hS hbc' hbs' hw
      · exact hw.elim
    case goto o9 =>
      dsimp only at hw
      rw [wp1_plain hx rfl]
      exact hgo _ _ _ _ _ _ hL hS hbc' hbs' hw
    case ifCond cd o9 =>
      cases cd <;> dsimp only at hw
      case eq =>
        split at hw
        · rename_i x R
          rw [wp1_plain hx rfl]
          show wp1 xs C1 MT tbl rt Q1 n (if (decide (x = 0)) = true then a else i + 1) (mapL L) (R.map enc) (toH m) bc bs
          by_cases h9 : x = 0
          · rw [if_pos (decide_eq_true h9)]; exact hgo _ _ _ _ _ _ hL (okS_t hS) hbc' hbs' (hw.1 h9)
          · rw [if_neg (by rw [decide_eq_true_eq]; exact h9)]; exact hgo _ _ _ _ _ _ hL (okS_t hS) hbc' hbs' (hw.2 h9)
        · exact hw.elim
      case ne =>
        split at hw
        · rename_i x R
          rw [wp1_plain hx rfl]
          show wp1 xs C1 MT tbl rt Q1 n (if (!decide (x = 0)) = true then a else i + 1) (mapL L) (R.map enc) (toH m) bc bs
          by_cases h9 : x = 0
          · rw [if_neg (by simp [h9])]; exact hgo _ _ _ _ _ _ hL (okS_t hS) hbc' hbs' (hw.2 h9)
          · rw [if_pos (by simp [h9])]; exact hgo _ _ _ _ _ _ hL (okS_t hS) hbc' hbs' (hw.1 h9)
        · exact hw.elim
      case lt =>
        split at hw
        · rename_i x R
          rw [wp1_plain hx rfl]
          show wp1 xs C1 MT tbl rt Q1 n (if (decide (x < 0)) = true then a else i + 1) (mapL L) (R.map enc) (toH m) bc bs
          by_cases h9 : x < 0
          · rw [if_pos (decide_eq_true h9)]; exact hgo _ _ _ _ _ _ hL (okS_t hS) hbc' hbs' (hw.1 h9)
          · rw [if_neg (by rw [decide_eq_true_eq]; exact h9)]; exact hgo _ _ _ _ _ _ hL (okS_t hS) hbc' hbs' (hw.2 h9)
        · exact hw.elim
      case ge =>
        split at hw
        · rename_i x R
          rw [wp1_plain hx rfl]
          show wp1 xs C1 MT tbl rt Q1 n (if (decide (0 ≤ x)) = true then a else i + 1) (mapL L) (R.map enc) (toH m) bc bs
          by_cases h9 : 0 ≤ x
          · rw [if_pos (decide_eq_true h9)]; exact hgo _ _ _ _ _ _ hL (okS_t hS) hbc' hbs' (hw.1 h9)
          · rw [if_neg (by rw [decide_eq_true_eq]; exact h9)]; exact hgo _ _ _ _ _ _ hL (okS_t hS) hbc' hbs' (hw.2 h9)
        · exact hw.elim
      case gt =>
        split at hw
        · rename_i x R
          rw [wp1_plain hx rfl]
          show wp1 xs C1 MT tbl rt Q1 n (if (decide (0 < x)) = true then a else i + 1) (mapL L) (R.map enc) (toH m) bc bs
          by_cases h9 : 0 < x
          · rw [if_pos (decide_eq_true h9)]; exact hgo _ _ _ _ _ _ hL (okS_t hS) hbc' hbs' (hw.1 h9)
          · rw [if_neg (by rw [decide_eq_true_eq]; exact h9)]; exact hgo _ _ _ _ _ _ hL (okS_t hS) hbc' hbs' (hw.2 h9)
        · exact hw.elim
      case le =>
        split at hw
        · rename_i x R
          rw [wp1_plain hx rfl]
          show wp1 xs C1 MT tbl rt Q1 n (if (decide (x ≤ 0)) = true then a else i + 1) (mapL L) (R.map enc) (toH m) bc bs
          by_cases h9 : x ≤ 0
          · rw [if_pos (decide_eq_true h9)]; exact hgo _ _ _ _ _ _ hL (okS_t hS) hbc' hbs' (hw.1 h9)
          · rw [if_neg (by rw [decide_eq_true_eq]; exact h9)]; exact hgo _ _ _ _ _ _ hL (okS_t hS) hbc' hbs' (hw.2 h9)
        · exact hw.elim
    case if_icmp cd o9 =>
      cases cd <;> dsimp only at hw
      case eq =>
        split at hw
        · rename_i y x R
          rw [wp1_plain hx rfl]
          show wp1 xs C1 MT tbl rt Q1 n (if (decide (x = y)) = true then a else i + 1) (mapL L) (R.map enc) (toH m) bc bs
          by_cases h9 : x = y
          · rw [if_pos (decide_eq_true h9)]; exact hgo _ _ _ _ _ _ hL (okS_t (okS_t hS)) hbc' hbs' (hw.1 h9)
          · rw [if_neg (by rw [decide_eq_true_eq]; exact h9)]; exact hgo _ _ _ _ _ _ hL (okS_t (okS_t hS)) hbc' hbs' (hw.2 h9)
        · exact hw.elim
      case ne =>
        split at hw
        · rename_i y x R
          rw [wp1_plain hx rfl]
          show wp1 xs C1 MT tbl rt Q1 n (if (!decide (x = y)) = true then a else i + 1) (mapL L) (R.map enc) (toH m) bc bs
          by_cases h9 : x = y
          · rw [if_neg (by simp [h9])]; exact hgo _ _ _ _ _ _ hL (okS_t (okS_t hS)) hbc' hbs' (hw.2 h9)
          · rw [if_pos (by simp [h9])]; exact hgo _ _ _ _ _ _ hL (okS_t (okS_t hS)) hbc' hbs' (hw.1 h9)
        · exact hw.elim
      case lt =>
        split at hw
        · rename_i y x R
          rw [wp1_plain hx rfl]
          show wp1 xs C1 MT tbl rt Q1 n (if (decide (x < y)) = true then a else i + 1) (mapL L) (R.map enc) (toH m) bc bs
          by_cases h9 : x < y
          · rw [if_pos (decide_eq_true h9)]; exact hgo _ _ _ _ _ _ hL (okS_t (okS_t hS)) hbc' hbs' (hw.1 h9)
          · rw [if_neg (by rw [decide_eq_true_eq]; exact h9)]; exact hgo _ _ _ _ _ _ hL (okS_t (okS_t hS)) hbc' hbs' (hw.2 h9)
        · exact hw.elim
      case ge =>
        split at hw
        · rename_i y x R
          rw [wp1_plain hx rfl]
          show wp1 xs C1 MT tbl rt Q1 n (if (decide (y ≤ x)) = true then a else i + 1) (mapL L) (R.map enc) (toH m) bc bs
          by_cases h9 : y ≤ x
          · rw [if_pos (decide_eq_true h9)]; exact hgo _ _ _ _ _ _ hL (okS_t (okS_t hS)) hbc' hbs' (hw.1 h9)
          · rw [if_neg (by rw [decide_eq_true_eq]; exact h9)]; exact hgo _ _ _ _ _ _ hL (okS_t (okS_t hS)) hbc' hbs' (hw.2 h9)
        · exact hw.elim
      case gt =>
        split at hw
        · rename_i y x R
          rw [wp1_plain hx rfl]
          show wp1 xs C1 MT tbl rt Q1 n (if (decide (y < x)) = true then a else i + 1) (mapL L) (R.map enc) (toH m) bc bs
          by_cases h9 : y < x
          · rw [if_pos (decide_eq_true h9)]; exact hgo _ _ _ _ _ _ hL (okS_t (okS_t hS)) hbc' hbs' (hw.1 h9)
          · rw [if_neg (by rw [decide_eq_true_eq]; exact h9)]; exact hgo _ _ _ _ _ _ hL (okS_t (okS_t hS)) hbc' hbs' (hw.2 h9)
        · exact hw.elim
      case le =>
        split at hw
        · rename_i y x R
          rw [wp1_plain hx rfl]
          show wp1 xs C1 MT tbl rt Q1 n (if (decide (x ≤ y)) = true then a else i + 1) (mapL L) (R.map enc) (toH m) bc bs
          by_cases h9 : x ≤ y
          · rw [if_pos (decide_eq_true h9)]; exact hgo _ _ _ _ _ _ hL (okS_t (okS_t hS)) hbc' hbs' (hw.1 h9)
          · rw [if_neg (by rw [decide_eq_true_eq]; exact h9)]; exact hgo _ _ _ _ _ _ hL (okS_t (okS_t hS)) hbc' hbs' (hw.2 h9)
        · exact hw.elim
    case tableswitch d9 lo9 hi9 offs =>
      dsimp only at hw
      split at hw
      · rename_i x R
        split at hw
        · rename_i d r
          obtain ⟨hk, h1, h2⟩ := b_if_spec hw
          rw [decide_eq_true_eq] at hk
          rw [(wp1_call hx).2.2.2 _ _ _ _ rfl]
          show (match a_sw lo9 hi9 (d :: r) x with | some j => wp1 xs C1 MT tbl rt Q1 n j (mapL L) (R.map enc) (toH m) bc bs | none => False)
          unfold a_sw
          by_cases h9 : x.toInt < lo9 ∨ hi9 < x.toInt
          · rw [if_pos h9]
            exact hgo _ _ _ _ _ _ hL (okS_t hS) hbc' hbs' (h1 h9)
          · rw [if_neg h9, List.getElem?_cons_succ]
            have hlt : (x.toInt - lo9).toNat < r.length := by omega
            rw [List.getElem?_eq_getElem hlt]
            exact hgo _ _ _ _ _ _ hL (okS_t hS) hbc' hbs' (sws_spec (k := (x.toInt - lo9).toNat) h2 (List.getElem?_eq_getElem hlt) (by omega))
        · exact hw.elim
      · exact hw.elim
    case getfield idx =>
      dsimp only at hw
      split at hw
      · rename_i t q R
        obtain ⟨hk, hw⟩ := b_if_spec hw
        simp only [Bool.and_eq_true, decide_eq_true_eq] at hk
        obtain ⟨⟨k0, k1⟩, k2⟩ := hk
        have h99 := g_ne99 k0 (by decide)
        have hq := okV_lt (okS_h hS) h99
        subst k1
        have e2 : a_read xs (.getfield idx, pc, len, g_cls t, b, z, tg) ((vR t q :: R).map enc) (toH m) = some (fval m t q (g_cls t) b :: R.map enc) := by
          simp only [a_read, List.map_cons, enc_ref h99, toH_at hq, g_cell0 k0]
          simp [k2]
        rw [wp1_plain hx rfl]
        simp only [a_ret, a_pure, a_load, a_store, a_br, e2]
        split at hw
        · rename_i e3
          rw [fval_long e3]
          exact hgo _ _ _ _ _ _ hL (okS_c (by trivial) (okS_t hS)) hbc' hbs' hw
        · rename_i e3
          rw [fval_ref e3]
          exact hgo _ _ _ _ _ _ hL (okS_c (show okV (vR _ _) from Or.inr (g_F3 k0 k2 e3 hq).1) (okS_t hS)) hbc' hbs' hw
        · rename_i n2 n3
          have e3 : g_fk (g_cls t) b = 0 ∨ g_fk (g_cls t) b = 1 := by
            unfold g_fk at n2 n3 ⊢
            split <;> simp_all
          rw [fval_int e3]
          exact hgo _ _ _ _ _ _ hL (okS_c (by trivial) (okS_t hS)) hbc' hbs' hw
      · exact hw.elim
    case putfield idx =>
      dsimp only at hw
      split at hw
      · rename_i v t q R
        obtain ⟨hk, hw⟩ := b_if_spec hw
        simp only [Bool.and_eq_true, decide_eq_true_eq] at hk
        obtain ⟨⟨k0, k1⟩, k2⟩ := hk
        have h99 := g_ne99 k0 (by decide)
        have hq := okV_lt (okS_h (okS_t hS)) h99
        subst k1
        have key : (g_fk (g_cls t) b = 0 ∨ g_fk (g_cls t) b = 1) → a_fit (a_ty (g_cls t) b) (.int v) = true → go (i + 1) L R (mI m t q b v) → wp1 xs C1 MT tbl rt Q1 (n + 1) i (mapL L) ((vI v :: vR t q :: R).map enc) (toH m) bc bs := by
          intro hfk hfit hw
          have e2 : a_write (.putfield idx, pc, len, g_cls t, b, z, tg) ((vI v :: vR t q :: R).map enc) (toH m) = some (R.map enc, toH (mI m t q b v)) := by
            rw [toH_put (v := .int v) (k := b) k0 hq k2 mI_ne (by rw [fval_int hfk, mI_at]; simp [upd]) (fun k' hk' => fval_ne (by rw [mI_at]; simp [upd, hk']) rfl)]
            simp only [a_write, List.map_cons, enc_ref h99, toH_at hq, g_cell0 k0]
            simp [k2, enc_i, hfit]
          rw [wp1_plain hx rfl]
          simp only [a_ret, a_pure, a_load, a_store, a_br, a_read, e2]
          exact hgo _ _ _ _ _ _ hL (okS_t (okS_t hS)) hbc' hbs' hw
        split at hw
        · rename_i e3
          exact key (Or.inl e3) (fit_int e3) hw
        · rename_i e3
          exact key (Or.inr e3) (fit_bool e3 hw.1) hw.2
        · exact hw.elim
      · rename_i v t q R
        obtain ⟨hk, hw⟩ := b_if_spec hw
        simp only [Bool.and_eq_true, decide_eq_true_eq] at hk
        obtain ⟨⟨k0, k1⟩, k2⟩ := hk
        have h99 := g_ne99 k0 (by decide)
        have hq := okV_lt (okS_h (okS_t hS)) h99
        subst k1
        split at hw
        · rename_i e3
          have e2 : a_write (.putfield idx, pc, len, g_cls t, b, z, tg) ((vL v :: vR t q :: R).map enc) (toH m) = some (R.map enc, toH (mL m t q b v)) := by
            rw [toH_put (v := .long v) (k := b) k0 hq k2 mL_ne (by rw [fval_long e3, mL_at]; simp [vp_updL]) (fun k' hk' => fval_ne rfl (by rw [mL_at]; simp [vp_updL, hk']))]
            simp only [a_write, List.map_cons, enc_ref h99, toH_at hq, g_cell0 k0]
            simp [k2, enc_l, fit_long e3]
          rw [wp1_plain hx rfl]
          simp only [a_ret, a_pure, a_load, a_store, a_br, a_read, e2]
          exact hgo _ _ _ _ _ _ hL (okS_t (okS_t hS)) hbc' hbs' hw
        · exact hw.elim
      · exact hw.elim
    case iaload =>
      dsimp only at hw
      split at hw
      · rename_i j t q R
        split at hw
        · rename_i h9
          rw [decide_eq_true_eq] at h9
          subst h9
          obtain ⟨hin, hw⟩ := hw
          have e2 : a_read xs (.iaload, pc, len, a, b, z, tg) ((vI j :: vR 99 q :: R).map enc) (toH m) = some (.int (xs.2 j.toNatClampNeg) :: R.map enc) := by
            have h : a_read xs (.iaload, pc, len, a, b, z, tg) ((vI j :: vR 99 q :: R).map enc) (toH m) = (if ¬ (j < 0 ∨ xs.1 ≤ j.toNatClampNeg) then some (.int (xs.2 j.toNatClampNeg) :: R.map enc) else none) := rfl
            rw [h, if_pos (show ¬ (j < 0 ∨ xs.1 ≤ j.toNatClampNeg) from hin)]
          rw [wp1_plain hx rfl]
          simp only [a_ret, a_pure, a_load, a_store, a_br, e2]
          exact hgo _ _ _ _ _ _ hL (okS_c (by trivial) (okS_t (okS_t hS))) hbc' hbs' hw
        · obtain ⟨hk, hin, hw⟩ := b_if_spec hw
          rw [decide_eq_true_eq] at hk
          have h99 := g_ne99 hk (by decide)
          have hq := okV_lt (okS_h (okS_t hS)) h99
          have hat := (g_F1 hq).2
          have e2 : a_read xs (.iaload, pc, len, a, b, z, tg) ((vI j :: vR t q :: R).map enc) (toH m) = some (.int (m.1 t q j.toNatClampNeg) :: R.map enc) := by
            simp only [a_read, List.map_cons, enc_ref h99, toH_at hq, g_cell1 hk, enc_i, enc_l]
            rw [if_neg (show ¬ g_at t q = sCR by unfold sCR; omega)]
            rw [if_pos ⟨trivial, hin⟩]
          rw [wp1_plain hx rfl]
          simp only [a_ret, a_pure, a_load, a_store, a_br, e2]
          exact hgo _ _ _ _ _ _ hL (okS_c (by trivial) (okS_t (okS_t hS))) hbc' hbs' hw
      · exact hw.elim
    case laload =>
      dsimp only at hw
      split at hw
      · rename_i j t q R
        obtain ⟨hk, hin, hw⟩ := b_if_spec hw
        rw [decide_eq_true_eq] at hk
        have h99 := g_ne99 hk (by decide)
        have hq := okV_lt (okS_h (okS_t hS)) h99
        have e2 : a_read xs (.laload, pc, len, a, b, z, tg) ((vI j :: vR t q :: R).map enc) (toH m) = some (.long (m.2 t q j.toNatClampNeg) :: R.map enc) := by
          simp only [a_read, List.map_cons, enc_ref h99, toH_at hq, g_cell2 hk, enc_i, enc_l]
          rw [if_pos ⟨trivial, hin⟩]
        rw [wp1_plain hx rfl]
        simp only [a_ret, a_pure, a_load, a_store, a_br, e2]
        exact hgo _ _ _ _ _ _ hL (okS_c (by trivial) (okS_t (okS_t hS))) hbc' hbs' hw
      · exact hw.elim
    case aaload =>
      dsimp only at hw
      split at hw
      · rename_i j t q R
        obtain ⟨hk, hin, hw⟩ := b_if_spec hw
        rw [decide_eq_true_eq] at hk
        have h99 := g_ne99 hk (by decide)
        have hq := okV_lt (okS_h (okS_t hS)) h99
        have hlt : j.toNatClampNeg < g_len t := Nat.not_le.mp fun z => hin (Or.inr z)
        obtain ⟨f1, f2⟩ := g_F4 t (g_lt hq) hk
        obtain ⟨f3, f4⟩ := f2 q hq _ hlt
        have e2 : a_read xs (.aaload, pc, len, a, b, z, tg) ((vI j :: vR t q :: R).map enc) (toH m) = some (enc (vR (g_ra t q j.toNatClampNeg).1 (g_ra t q j.toNatClampNeg).2) :: R.map enc) := by
          simp only [a_read, List.map_cons, enc_ref h99, toH_at hq, g_cell3 hk, enc_ref f4, enc_i]
          rw [if_pos ⟨f1, hin⟩, if_pos hlt]
        rw [wp1_plain hx rfl]
        simp only [a_ret, a_pure, a_load, a_store, a_br, e2]
        exact hgo _ _ _ _ _ _ hL (okS_c (show okV (vR _ _) from Or.inr f3) (okS_t (okS_t hS))) hbc' hbs' hw
      · exact hw.elim
    case iastore =>
      dsimp only at hw
      split at hw
      · rename_i v j t q R
        obtain ⟨hk, hin, hw⟩ := b_if_spec hw
        rw [decide_eq_true_eq] at hk
        have h99 := g_ne99 hk (by decide)
        have hq := okV_lt (okS_h (okS_t (okS_t hS))) h99
        have e2 : a_write (.iastore, pc, len, a, b, z, tg) ((vI v :: vI j :: vR t q :: R).map enc) (toH m) = some (R.map enc, toH (mI m t q j.toNatClampNeg v)) := by
          rw [toH_set hq mI_ne, g_cell1 hk, mI_at]
          simp only [a_write, List.map_cons, enc_ref h99, toH_at hq, g_cell1 hk, enc_i, enc_l]
          rw [if_pos ⟨trivial, hin⟩]
        rw [wp1_plain hx rfl]
        simp only [a_ret, a_pure, a_load, a_store, a_br, a_read, e2]
        exact hgo _ _ _ _ _ _ hL (okS_t (okS_t (okS_t hS))) hbc' hbs' hw
      · exact hw.elim
    case lastore =>
      dsimp only at hw
      split at hw
      · rename_i v j t q R
        obtain ⟨hk, hin, hw⟩ := b_if_spec hw
        rw [decide_eq_true_eq] at hk
        have h99 := g_ne99 hk (by decide)
        have hq := okV_lt (okS_h (okS_t (okS_t hS))) h99
        have e2 : a_write (.lastore, pc, len, a, b, z, tg) ((vL v :: vI j :: vR t q :: R).map enc) (toH m) = some (R.map enc, toH (mL m t q j.toNatClampNeg v)) := by
          rw [toH_set hq mL_ne, g_cell2 hk, mL_at]
          simp only [a_write, List.map_cons, enc_ref h99, toH_at hq, g_cell2 hk, enc_i, enc_l]
          rw [if_pos ⟨trivial, hin⟩]
        rw [wp1_plain hx rfl]
        simp only [a_ret, a_pure, a_load, a_store, a_br, a_read, e2]
        exact hgo _ _ _ _ _ _ hL (okS_t (okS_t (okS_t hS))) hbc' hbs' hw
      · exact hw.elim
    case arraylength =>
      dsimp only at hw
      split at hw
      · rename_i t q R
        split at hw
        · rename_i h9
          rw [decide_eq_true_eq] at h9
          subst h9
          have e2 : a_read xs (.arraylength, pc, len, a, b, z, tg) ((vR 99 q :: R).map enc) (toH m) = some (.int (Int32.ofNat xs.1) :: R.map enc) := rfl
          rw [wp1_plain hx rfl]
          simp only [a_ret, a_pure, a_load, a_store, a_br, e2]
          exact hgo _ _ _ _ _ _ hL (okS_c (by trivial) (okS_t hS)) hbc' hbs' hw
        · obtain ⟨hk, hw⟩ := b_if_spec hw
          simp only [Bool.or_eq_true, decide_eq_true_eq] at hk
          have h99 : t ≠ 99 := hk.elim (fun z => g_ne99 z (by decide)) (fun z => g_ne99 z (by decide))
          have hq := okV_lt (okS_h hS) h99
          have hat := (g_F1 hq).2
          have e2 : a_read xs (.arraylength, pc, len, a, b, z, tg) ((vR t q :: R).map enc) (toH m) = some (.int (Int32.ofNat (g_len t)) :: R.map enc) := by
            simp only [a_read, List.map_cons, enc_ref h99]
            rw [if_neg (show ¬ g_at t q = sCR by unfold sCR; omega), toH_at hq]
            rcases hk with hk | hk
            · rw [g_cell1 hk]
            · rw [g_cell2 hk]
          rw [wp1_plain hx rfl]
          simp only [a_ret, a_pure, a_load, a_store, a_br, e2]
          exact hgo _ _ _ _ _ _ hL (okS_c (by trivial) (okS_t hS)) hbc' hbs' hw
      · exact hw.elim
    case invokevirtual idx =>
      dsimp only at hw
      obtain ⟨hk, hw⟩ := b_if_spec hw
      simp only [Bool.and_eq_true, decide_eq_true_eq] at hk
      obtain ⟨⟨⟨k0, k1⟩, k2⟩, k3⟩ := hk
      have hoA : okS (S.take b).reverse := fun v hv => hS v (List.mem_of_mem_take (List.mem_reverse.mp hv))
      have hoR : okS (S.drop b) := fun v hv => hS v (List.mem_of_mem_drop hv)
      obtain ⟨M, m1, m2, m3, m4⟩ := hC _ _ _ _ hoA hw
      have eA : ((S.map enc).take b).reverse = (S.take b).reverse.map enc := by rw [← List.map_take, List.map_reverse]
      rw [(wp1_call hx).1 _ rfl]
      dsimp only
      rw [eA, ← List.map_drop, List.length_map]
      refine ⟨?_, by rw [c_words_eq]; exact k1, k0, M, m1, by omega, by omega, hmC _ _ _ _ _ (aft M _ _ m2 m3 hoR) m4⟩
      split at k3
      · rename_i t q As e
        simp only [Bool.and_eq_true, decide_eq_true_eq] at k3
        rw [e] at hoA ⊢
        have h99 := g_ne99 k3.1 (by decide)
        have hq := okV_lt (okS_h hoA) h99
        simp only [a_rcv, List.map_cons, enc_ref h99, toH_at hq, g_cell0 k3.1]
        exact decide_eq_true k3.2
      · cases k3
    case invokestatic idx =>
      dsimp only at hw
      split at hw
      · rename_i h9
        rw [decide_eq_true_eq] at h9
        subst h9
        split at hw
        · rename_i n8 dp t2 i2 sp t q R
          obtain ⟨hk, hw⟩ := b_if_spec hw
          rw [decide_eq_true_eq] at hk
          rw [(wp1_call hx).2.1 _ rfl]
          dsimp only
          rw [if_pos rfl]
          have hq2 : okV (vR t2 i2) := okS_h (okS_t (okS_t hS))
          have hq1 : okV (vR t q) := okS_h (okS_t (okS_t (okS_t (okS_t hS))))
          have hoR : okS R := okS_t (okS_t (okS_t (okS_t (okS_t hS))))
          unfold b_copy at hw
          split at hw
          · rename_i c1 c2
            obtain ⟨⟨u1, u2, u3, u4, u5⟩, hw⟩ := hw
            have g1 := okV_lt hq1 (g_ne99 c1 (by decide))
            have g2 := okV_lt hq2 (g_ne99 c2 (by decide))
            refine ⟨R.map enc, _, ?_, by rw [c_words_eq]; exact hk, hgo _ _ _ _ _ _ hL hoR hbc' hbs' hw⟩
            have eH : toH ((fun a b => if a = t2 ∧ b = i2 then va_cpy (m.1 t q) (m.1 t2 i2) sp.toNatClampNeg dp.toNatClampNeg n8.toNatClampNeg else m.1 a b, m.2) : Mem) = _ := toH_set (m := m) g2 (fun t' i' h9 => ⟨if_neg h9, rfl⟩)
            rw [eH, g_cell1 c2]
            simp only [a_copy, List.map_cons, enc_ref (g_ne99 c1 (by decide)), enc_ref (g_ne99 c2 (by decide)), toH_at g1, toH_at g2, g_cell1 c1, g_cell1 c2, enc_i]
            rw [if_pos ⟨trivial, trivial, u1, u2, u3, u4, u5⟩]
            simp
          · rename_i c1 c2
            obtain ⟨⟨u1, u2, u3, u4, u5⟩, hw⟩ := hw
            have g1 := okV_lt hq1 (g_ne99 c1 (by decide))
            have g2 := okV_lt hq2 (g_ne99 c2 (by decide))
            refine ⟨R.map enc, _, ?_, by rw [c_words_eq]; exact hk, hgo _ _ _ _ _ _ hL hoR hbc' hbs' hw⟩
            have eH : toH ((m.1, fun a b => if a = t2 ∧ b = i2 then va_cpy (m.2 t q) (m.2 t2 i2) sp.toNatClampNeg dp.toNatClampNeg n8.toNatClampNeg else m.2 a b) : Mem) = _ := toH_set (m := m) g2 (fun t' i' h9 => ⟨rfl, if_neg h9⟩)
            rw [eH, g_cell2 c2]
            simp only [a_copy, List.map_cons, enc_ref (g_ne99 c1 (by decide)), enc_ref (g_ne99 c2 (by decide)), toH_at g1, toH_at g2, g_cell2 c1, g_cell2 c2, enc_i]
            rw [if_pos ⟨trivial, trivial, u1, u2, u3, u4, u5⟩]
            simp
          · exact hw.elim
        · exact hw.elim
      · rename_i h9
        rw [decide_eq_false_iff_not] at h9
        obtain ⟨hk, hw⟩ := b_if_spec hw
        simp only [Bool.and_eq_true, decide_eq_true_eq] at hk
        obtain ⟨k0, k1⟩ := hk
        have hoA : okS (S.take b).reverse := fun v hv => hS v (List.mem_of_mem_take (List.mem_reverse.mp hv))
        have hoR : okS (S.drop b) := fun v hv => hS v (List.mem_of_mem_drop hv)
        obtain ⟨M, m1, m2, m3, m4⟩ := hC _ _ _ _ hoA hw
        have eA : ((S.map enc).take b).reverse = (S.take b).reverse.map enc := by rw [← List.map_take, List.map_reverse]
        rw [(wp1_call hx).2.1 _ rfl]
        dsimp only
        rw [if_neg h9, eA, ← List.map_drop, List.length_map]
        exact ⟨by rw [c_words_eq]; exact k1, k0, M, m1, by omega, by omega, hmC _ _ _ _ _ (aft M _ _ m2 m3 hoR) m4⟩
    case ireturn =>
      dsimp only at hw
      split at hw
      · rename_i v
        split at hw
        · have e : a_ret .ireturn (some .int) ([vI v].map enc) = some (some (.int v)) := by
            have h : a_ret .ireturn (some .int) ([vI v].map enc) = (if narrow .int (.int v) = .int v then some (some (.int v)) else none) := rfl
            rw [h, if_pos (show narrow .int (.int v) = .int v from rfl)]
          rw [wp1_plain hx rfl]
          simp only [e]
          exact hQ _ _ (fun w q => by cases q; trivial) hw
        · have e : a_ret .ireturn (some .boolean) ([vI v].map enc) = some (some (.int v)) := by
            have h : a_ret .ireturn (some .boolean) ([vI v].map enc) = (if narrow .boolean (.int v) = .int v then some (some (.int v)) else none) := rfl
            rw [h, if_pos (narrow_b hw.1)]
          rw [wp1_plain hx rfl]
          simp only [e]
          exact hQ _ _ (fun w q => by cases q; trivial) hw.2
        · exact hw.elim
      · exact hw.elim
    case lreturn =>
      dsimp only at hw
      split at hw
      · split at hw
        · rw [wp1_plain hx rfl]
          exact hQ _ _ (fun w q => by cases q; trivial) hw
        · exact hw.elim
      · exact hw.elim
    case areturn =>
      dsimp only at hw
      split at hw
      · split at hw
        · rw [wp1_plain hx rfl]
          exact hQ _ _ (fun w q => by cases q; exact okS_h hS) hw
        · exact hw.elim
      · exact hw.elim
    case return_ =>
      dsimp only at hw
      split at hw
      · split at hw
        · rw [wp1_plain hx rfl]
          exact hQ _ _ hok0 hw
        · exact hw.elim
      · exact hw.elim
theorem w21i {cuts : List Nat} {K : Nat → L2 → List v2 → Mem → Prop} {F : Nat}
    (hC : ∀ (j : Nat) args m Q, okS args → C2 j args m Q → ∃ M, MT[j]? = some M ∧ M.2.2.2.2.2.1.1 ≤ cc ∧ M.2.2.2.2.2.1.2 ≤ cs ∧ C1 j (args.map enc) (toH m) (fun r h => ∃ r2 m2, r = r2.map enc ∧ h = toH m2 ∧ (∀ v, r2 = some v → okV v) ∧ Q r2 m2))
    (hmC : ∀ j a h Q Q', (∀ r h', Q r h' → Q' r h') → C1 j a h Q → C1 j a h Q')
    (hQ : ∀ r m, (∀ v, r = some v → okV v) → Q2 r m → Q1 (r.map enc) (toH m))
    (hK : ∀ i L S m bc bs, okL L → okS S → lo ≤ bc → ls ≤ bs → K i L S m → wp1 xs C1 MT tbl rt Q1 F i (mapL L) (S.map enc) (toH m) bc bs) :
    ∀ (k i : Nat) (L : L2) (S : List v2) (m : Mem) (bc bs : Nat), okL L → okS S → lo + cc * k ≤ bc → ls + cs * k ≤ bs → wp2i xs C2 tbl cuts rt Q2 K k i L S m → wp1 xs C1 MT tbl rt Q1 (F + k) i (mapL L) (S.map enc) (toH m) bc bs := by
  intro k
  induction k with
  | zero => intro i L S m bc bs _ _ _ _ hw; exact hw.elim
  | succ k ih =>
    intro i L S m bc bs hL hS hbc hbs hw
    unfold wp2i at hw
    split at hw
    · exact hw.elim
    rename_i x hx
    rw [Nat.mul_succ] at hbc hbs
    refine st21 (lo := lo + cc * k) (ls := ls + cs * k) hC hmC hQ (fun j L S m bc bs a1 a2 a3 a4 h => ?_) hx hL hS (by omega) (by omega) hw
    split at h
    · exact wp1_mono hmC (fun _ _ q => q) F _ _ _ _ _ bc bs bc bs (Nat.le_add_right _ _) (Nat.le_refl _) (Nat.le_refl _) (hK j L S m bc bs a1 a2 (by omega) (by omega) h)
    · exact ih j L S m bc bs a1 a2 a3 a4 h
theorem w21n {cuts : List Nat} {kf : Nat}
    (hC : ∀ (j : Nat) args m Q, okS args → C2 j args m Q → ∃ M, MT[j]? = some M ∧ M.2.2.2.2.2.1.1 ≤ cc ∧ M.2.2.2.2.2.1.2 ≤ cs ∧ C1 j (args.map enc) (toH m) (fun r h => ∃ r2 m2, r = r2.map enc ∧ h = toH m2 ∧ (∀ v, r2 = some v → okV v) ∧ Q r2 m2))
    (hmC : ∀ j a h Q Q', (∀ r h', Q r h' → Q' r h') → C1 j a h Q → C1 j a h Q')
    (hQ : ∀ r m, (∀ v, r = some v → okV v) → Q2 r m → Q1 (r.map enc) (toH m)) :
    ∀ (n i : Nat) (L : L2) (S : List v2) (m : Mem) (bc bs : Nat), okL L → okS S → cc * kf * n ≤ bc → cs * kf * n ≤ bs → wp2 kf xs C2 tbl cuts rt Q2 n i L S m → wp1 xs C1 MT tbl rt Q1 (kf * n) i (mapL L) (S.map enc) (toH m) bc bs := by
  intro n
  induction n with
  | zero => intro i L S m bc bs _ _ _ _ hw; exact hw.elim
  | succ n ih =>
    intro i L S m bc bs hL hS hbc hbs hw
    rw [Nat.mul_succ] at hbc hbs ⊢
    exact w21i (lo := cc * kf * n) (ls := cs * kf * n) hC hmC hQ (fun i L S m bc bs a1 a2 a3 a4 h => ih i L S m bc bs a1 a2 a3 a4 h) kf i L S m bc bs hL hS hbc hbs hw
end W21
theorem g_args_map : ∀ vs : List v2, a_args (vs.map enc) = mapL (g_args vs)
  | [] => rfl
  | .inl x :: r => by
    have := g_args_map r
    show some (Value.int x) :: a_args (r.map enc) = some (Value.int x) :: mapL (g_args r)
    rw [this]
  | .inr (.inl x) :: r => by
    have := g_args_map r
    show some (Value.long x) :: none :: a_args (r.map enc) = some (Value.long x) :: none :: mapL (g_args r)
    rw [this]
  | .inr (.inr (t, i)) :: r => by
    have := g_args_map r
    show some (enc (vR t i)) :: a_args (r.map enc) = some (enc (vR t i)) :: mapL (g_args r)
    rw [this]
theorem g_locals_map (n : Nat) (vs : List v2) : a_locals n (vs.map enc) = mapL (g_locals n vs) := by
  unfold a_locals g_locals
  rw [g_args_map, mapL_len]
  unfold mapL
  rw [List.map_append, List.map_replicate]; rfl
theorem okL_args : ∀ {vs : List v2}, okS vs → okL (g_args vs)
  | [], _ => fun v h => by cases h
  | .inl x :: r, h => fun v hv => (List.mem_cons.mp hv).elim (fun q => by cases q; trivial) (okL_args (okS_t h) v)
  | .inr (.inl x) :: r, h => fun v hv => (List.mem_cons.mp hv).elim (fun q => by cases q; trivial) (fun hv => (List.mem_cons.mp hv).elim (fun q => by cases q) (okL_args (okS_t h) v))
  | .inr (.inr (t, i)) :: r, h => fun v hv => (List.mem_cons.mp hv).elim (fun q => by cases q; exact okS_h h) (okL_args (okS_t h) v)
theorem okL_locals {n : Nat} {vs : List v2} (h : okS vs) : okL (g_locals n vs) := fun v hv => by
  rcases List.mem_append.mp hv with q | q
  · exact okL_args h v q
  · have := List.eq_of_mem_replicate q
    cases this
/-- a call of M2 is a call of M1 -/
theorem c21 {xs : Nat × (Nat → Int32)} {P : Nat → Nat → List Value → aH → (Option Value → aH → Prop) → Prop} (hP : ∀ d j a h Q Q', (∀ r h', Q r h' → Q' r h') → P d j a h Q → P d j a h Q') :
    ∀ (d j : Nat) (args : List v2) (m : Mem) (Q : Option v2 → Mem → Prop), okS args → call2 xs d j args m Q → ∃ M, MT[j]? = some M ∧ M.2.2.2.2.2.1.1 ≤ 0 ∧ M.2.2.2.2.2.1.2 ≤ 0 ∧ call1 xs MT P d j (args.map enc) (toH m) (fun r h => ∃ r2 m2, r = r2.map enc ∧ h = toH m2 ∧ (∀ v, r2 = some v → okV v) ∧ Q r2 m2) := by
  intro d
  induction d with
  | zero => intro j args m Q _ hc; exact hc.elim
  | succ d ih =>
    intro j args m Q ho hc
    obtain ⟨M, h1, h2, h3, h4, cuts, n, hw⟩ := hc
    refine ⟨M, h1, by rw [h2]; exact Nat.le_refl _, by rw [h2]; exact Nat.le_refl _, Or.inr ⟨M, h1, by rw [List.length_map]; exact h3, by rw [g_args_map, mapL_len]; exact h4, 2000 * n, ?_⟩⟩
    rw [g_locals_map, h2]
    exact w21n (cc := 0) (cs := 0) (C1 := call1 xs MT P d) (fun j a m Q o c => ih j a m Q o c) (call1_mono hP d) (fun r m o q => ⟨r, m, rfl, rfl, o, q⟩) n 0 _ [] m 0 0 (okL_locals ho) (fun v hv => by cases hv) (by omega) (by omega) hw
end
section
/-! ALL METHODS ARE CERTIFIED (by program: wip/whole/gen_mok.py) -/
theorem mk_0 : ∀ M ∈ MT_0, mOK MT M := List.forall_mem_cons.mpr ⟨⟨⟨by decide +kernel, by decide +kernel⟩, okX0_init⟩, List.forall_mem_cons.mpr ⟨⟨⟨by decide +kernel, by decide +kernel⟩, okX0_begin⟩, List.forall_mem_cons.mpr ⟨⟨⟨by decide +kernel, by decide +kernel⟩, okX0_addOutcome⟩, List.forall_mem_cons.mpr ⟨⟨⟨by decide +kernel, by decide +kernel⟩, okX0_become⟩, List.forall_mem_cons.mpr ⟨⟨⟨by decide +kernel, by decide +kernel⟩, okX0_room⟩, List.forall_mem_cons.mpr ⟨⟨⟨by decide +kernel, by decide +kernel⟩, okX0_isSingle⟩, List.forall_mem_cons.mpr ⟨⟨⟨by decide +kernel, by decide +kernel⟩, okX0_staysIn⟩, List.forall_mem_cons.mpr ⟨⟨⟨by decide +kernel, by decide +kernel⟩, okX0_mean⟩, List.forall_mem_cons.mpr ⟨⟨⟨by decide +kernel, by decide +kernel⟩, okX0_heaviness⟩, List.forall_mem_cons.mpr ⟨⟨⟨by decide +kernel, by decide +kernel⟩, okX1_init⟩, List.forall_mem_cons.mpr ⟨⟨⟨by decide +kernel, by decide +kernel⟩, okX1_open⟩, List.forall_mem_cons.mpr ⟨⟨⟨by decide +kernel, by decide +kernel⟩, okX1_write⟩, List.forall_mem_cons.mpr ⟨⟨⟨by decide +kernel, by decide +kernel⟩, okX1_solve⟩, List.forall_mem_cons.mpr ⟨⟨⟨by decide +kernel, by decide +kernel⟩, okX1_clear⟩, List.forall_mem_cons.mpr ⟨⟨⟨by decide +kernel, by decide +kernel⟩, okX1_upperOf⟩, List.forall_mem_cons.mpr ⟨⟨⟨by decide +kernel, by decide +kernel⟩, okX2_init⟩, List.forall_mem_cons.mpr ⟨⟨⟨by decide +kernel, by decide +kernel⟩, okX2_settle⟩, List.forall_mem_cons.mpr ⟨⟨⟨by decide +kernel, by decide +kernel⟩, okX2_tightActInto⟩, List.forall_mem_cons.mpr ⟨⟨⟨by decide +kernel, by decide +kernel⟩, okX2_pick⟩, List.forall_mem_cons.mpr ⟨⟨⟨by decide +kernel, by decide +kernel⟩, okX2_nearerThan⟩, fun _ h => absurd h List.not_mem_nil⟩⟩⟩⟩⟩⟩⟩⟩⟩⟩⟩⟩⟩⟩⟩⟩⟩⟩⟩⟩
theorem mk_1 : ∀ M ∈ MT_1, mOK MT M := List.forall_mem_cons.mpr ⟨⟨⟨by decide +kernel, by decide +kernel⟩, okX3_init⟩, List.forall_mem_cons.mpr ⟨⟨⟨by decide +kernel, by decide +kernel⟩, okX3_settle⟩, List.forall_mem_cons.mpr ⟨⟨⟨by decide +kernel, by decide +kernel⟩, okX3_findPaths⟩, List.forall_mem_cons.mpr ⟨⟨⟨by decide +kernel, by decide +kernel⟩, okX3_narrow⟩, List.forall_mem_cons.mpr ⟨⟨⟨by decide +kernel, by decide +kernel⟩, okX3_gather⟩, List.forall_mem_cons.mpr ⟨⟨⟨by decide +kernel, by decide +kernel⟩, okX3_stayingActs⟩, List.forall_mem_cons.mpr ⟨⟨⟨by decide +kernel, by decide +kernel⟩, okX4_init⟩, List.forall_mem_cons.mpr ⟨⟨⟨by decide +kernel, by decide +kernel⟩, okX4_settle⟩, List.forall_mem_cons.mpr ⟨⟨⟨by decide +kernel, by decide +kernel⟩, okX4_best⟩, List.forall_mem_cons.mpr ⟨⟨⟨by decide +kernel, by decide +kernel⟩, okX5_init⟩, List.forall_mem_cons.mpr ⟨⟨⟨by decide +kernel, by decide +kernel⟩, okX5_settle⟩, List.forall_mem_cons.mpr ⟨⟨⟨by decide +kernel, by decide +kernel⟩, okX5_evaluate⟩, List.forall_mem_cons.mpr ⟨⟨⟨by decide +kernel, by decide +kernel⟩, okX5_improve⟩, List.forall_mem_cons.mpr ⟨⟨⟨by decide +kernel, by decide +kernel⟩, okX5_improveState⟩, List.forall_mem_cons.mpr ⟨⟨⟨by decide +kernel, by decide +kernel⟩, okX6_init⟩, List.forall_mem_cons.mpr ⟨⟨⟨by decide +kernel, by decide +kernel⟩, okX6_isRow⟩, List.forall_mem_cons.mpr ⟨⟨⟨by decide +kernel, by decide +kernel⟩, okX6_hasPlaces⟩, List.forall_mem_cons.mpr ⟨⟨⟨by decide +kernel, by decide +kernel⟩, okX6_holdAct⟩, List.forall_mem_cons.mpr ⟨⟨⟨by decide +kernel, by decide +kernel⟩, okX6_holdNumber⟩, List.forall_mem_cons.mpr ⟨⟨⟨by decide +kernel, by decide +kernel⟩, okX6_holdParts⟩, fun _ h => absurd h List.not_mem_nil⟩⟩⟩⟩⟩⟩⟩⟩⟩⟩⟩⟩⟩⟩⟩⟩⟩⟩⟩⟩
theorem mk_2 : ∀ M ∈ MT_2, mOK MT M := List.forall_mem_cons.mpr ⟨⟨⟨by decide +kernel, by decide +kernel⟩, okX6_beginRow⟩, List.forall_mem_cons.mpr ⟨⟨⟨by decide +kernel, by decide +kernel⟩, okX7_init⟩, List.forall_mem_cons.mpr ⟨⟨⟨by decide +kernel, by decide +kernel⟩, okX7_settle⟩, List.forall_mem_cons.mpr ⟨⟨⟨by decide +kernel, by decide +kernel⟩, okX7_readFaces⟩, List.forall_mem_cons.mpr ⟨⟨⟨by decide +kernel, by decide +kernel⟩, okX7_faceOf⟩, List.forall_mem_cons.mpr ⟨⟨⟨by decide +kernel, by decide +kernel⟩, okX7_split⟩, List.forall_mem_cons.mpr ⟨⟨⟨by decide +kernel, by decide +kernel⟩, okX7_covers⟩, List.forall_mem_cons.mpr ⟨⟨⟨by decide +kernel, by decide +kernel⟩, okX7_hasFace⟩, List.forall_mem_cons.mpr ⟨⟨⟨by decide +kernel, by decide +kernel⟩, okX8_init⟩, List.forall_mem_cons.mpr ⟨⟨⟨by decide +kernel, by decide +kernel⟩, okX8_sort⟩, List.forall_mem_cons.mpr ⟨⟨⟨by decide +kernel, by decide +kernel⟩, okX8_settle⟩, List.forall_mem_cons.mpr ⟨⟨⟨by decide +kernel, by decide +kernel⟩, okX8_evaluate⟩, List.forall_mem_cons.mpr ⟨⟨⟨by decide +kernel, by decide +kernel⟩, okX8_setSureTo⟩, List.forall_mem_cons.mpr ⟨⟨⟨by decide +kernel, by decide +kernel⟩, okX8_improve⟩, List.forall_mem_cons.mpr ⟨⟨⟨by decide +kernel, by decide +kernel⟩, okX8_improveState⟩, List.forall_mem_cons.mpr ⟨⟨⟨by decide +kernel, by decide +kernel⟩, okX8_isTight⟩, List.forall_mem_cons.mpr ⟨⟨⟨by decide +kernel, by decide +kernel⟩, okX9_init⟩, List.forall_mem_cons.mpr ⟨⟨⟨by decide +kernel, by decide +kernel⟩, okX9_grow⟩, List.forall_mem_cons.mpr ⟨⟨⟨by decide +kernel, by decide +kernel⟩, okX9_join⟩, List.forall_mem_cons.mpr ⟨⟨⟨by decide +kernel, by decide +kernel⟩, okX10_init⟩, fun _ h => absurd h List.not_mem_nil⟩⟩⟩⟩⟩⟩⟩⟩⟩⟩⟩⟩⟩⟩⟩⟩⟩⟩⟩⟩
theorem mk_3 : ∀ M ∈ MT_3, mOK MT M := List.forall_mem_cons.mpr ⟨⟨⟨by decide +kernel, by decide +kernel⟩, okX10_hasState⟩, List.forall_mem_cons.mpr ⟨⟨⟨by decide +kernel, by decide +kernel⟩, okX10_hasAct⟩, List.forall_mem_cons.mpr ⟨⟨⟨by decide +kernel, by decide +kernel⟩, okX10_actAt⟩, List.forall_mem_cons.mpr ⟨⟨⟨by decide +kernel, by decide +kernel⟩, okX10_isFoes⟩, List.forall_mem_cons.mpr ⟨⟨⟨by decide +kernel, by decide +kernel⟩, okX10_seeksMost⟩, List.forall_mem_cons.mpr ⟨⟨⟨by decide +kernel, by decide +kernel⟩, okX10_everyone⟩, List.forall_mem_cons.mpr ⟨⟨⟨by decide +kernel, by decide +kernel⟩, okX10_addState⟩, List.forall_mem_cons.mpr ⟨⟨⟨by decide +kernel, by decide +kernel⟩, okX10_addAct⟩, List.forall_mem_cons.mpr ⟨⟨⟨by decide +kernel, by decide +kernel⟩, okX10_addOutcome⟩, List.forall_mem_cons.mpr ⟨⟨⟨by decide +kernel, by decide +kernel⟩, okX10_removeAct⟩, List.forall_mem_cons.mpr ⟨⟨⟨by decide +kernel, by decide +kernel⟩, okX10_setMarked⟩, List.forall_mem_cons.mpr ⟨⟨⟨by decide +kernel, by decide +kernel⟩, okX10_isWhole⟩, List.forall_mem_cons.mpr ⟨⟨⟨by decide +kernel, by decide +kernel⟩, okX10_lacking⟩, List.forall_mem_cons.mpr ⟨⟨⟨by decide +kernel, by decide +kernel⟩, okX10_allActs⟩, List.forall_mem_cons.mpr ⟨⟨⟨by decide +kernel, by decide +kernel⟩, okX10_allOutcomes⟩, List.forall_mem_cons.mpr ⟨⟨⟨by decide +kernel, by decide +kernel⟩, okX10_foeActs⟩, List.forall_mem_cons.mpr ⟨⟨⟨by decide +kernel, by decide +kernel⟩, okX10_nextOf⟩, List.forall_mem_cons.mpr ⟨⟨⟨by decide +kernel, by decide +kernel⟩, okX10_reachedFrom⟩, List.forall_mem_cons.mpr ⟨⟨⟨by decide +kernel, by decide +kernel⟩, okX11_init⟩, List.forall_mem_cons.mpr ⟨⟨⟨by decide +kernel, by decide +kernel⟩, okX11_state⟩, fun _ h => absurd h List.not_mem_nil⟩⟩⟩⟩⟩⟩⟩⟩⟩⟩⟩⟩⟩⟩⟩⟩⟩⟩⟩⟩
theorem mk_4 : ∀ M ∈ MT_4, mOK MT M := List.forall_mem_cons.mpr ⟨⟨⟨by decide +kernel, by decide +kernel⟩, okX11_act⟩, List.forall_mem_cons.mpr ⟨⟨⟨by decide +kernel, by decide +kernel⟩, okX11_outcome⟩, List.forall_mem_cons.mpr ⟨⟨⟨by decide +kernel, by decide +kernel⟩, okX11_drop⟩, List.forall_mem_cons.mpr ⟨⟨⟨by decide +kernel, by decide +kernel⟩, okX11_mark⟩, List.forall_mem_cons.mpr ⟨⟨⟨by decide +kernel, by decide +kernel⟩, okX11_whole⟩, List.forall_mem_cons.mpr ⟨⟨⟨by decide +kernel, by decide +kernel⟩, okX11_value⟩, List.forall_mem_cons.mpr ⟨⟨⟨by decide +kernel, by decide +kernel⟩, okX11_choice⟩, List.forall_mem_cons.mpr ⟨⟨⟨by decide +kernel, by decide +kernel⟩, okX11_distance⟩, List.forall_mem_cons.mpr ⟨⟨⟨by decide +kernel, by decide +kernel⟩, okX11_sum⟩, List.forall_mem_cons.mpr ⟨⟨⟨by decide +kernel, by decide +kernel⟩, okX11_within⟩, List.forall_mem_cons.mpr ⟨⟨⟨by decide +kernel, by decide +kernel⟩, okX11_bound⟩, List.forall_mem_cons.mpr ⟨⟨⟨by decide +kernel, by decide +kernel⟩, okX11_sets⟩, List.forall_mem_cons.mpr ⟨⟨⟨by decide +kernel, by decide +kernel⟩, okX11_reached⟩, List.forall_mem_cons.mpr ⟨⟨⟨by decide +kernel, by decide +kernel⟩, okX11_cost⟩, List.forall_mem_cons.mpr ⟨⟨⟨by decide +kernel, by decide +kernel⟩, okX11_hole⟩, List.forall_mem_cons.mpr ⟨⟨⟨by decide +kernel, by decide +kernel⟩, okX11_twin⟩, List.forall_mem_cons.mpr ⟨⟨⟨by decide +kernel, by decide +kernel⟩, okX11_count⟩, List.forall_mem_cons.mpr ⟨⟨⟨by decide +kernel, by decide +kernel⟩, okX11_look⟩, List.forall_mem_cons.mpr ⟨⟨⟨by decide +kernel, by decide +kernel⟩, okX11_keep⟩, List.forall_mem_cons.mpr ⟨⟨⟨by decide +kernel, by decide +kernel⟩, okX11_make⟩, fun _ h => absurd h List.not_mem_nil⟩⟩⟩⟩⟩⟩⟩⟩⟩⟩⟩⟩⟩⟩⟩⟩⟩⟩⟩⟩
theorem mk_5 : ∀ M ∈ MT_5, mOK MT M := List.forall_mem_cons.mpr ⟨⟨⟨by decide +kernel, by decide +kernel⟩, okX11_element⟩, List.forall_mem_cons.mpr ⟨⟨⟨by decide +kernel, by decide +kernel⟩, okX11_copy⟩, List.forall_mem_cons.mpr ⟨⟨⟨by decide +kernel, by decide +kernel⟩, okX11_weight⟩, List.forall_mem_cons.mpr ⟨⟨⟨by decide +kernel, by decide +kernel⟩, okX11_ratio⟩, List.forall_mem_cons.mpr ⟨⟨⟨by decide +kernel, by decide +kernel⟩, okX11_refusalOf⟩, List.forall_mem_cons.mpr ⟨⟨⟨by decide +kernel, by decide +kernel⟩, okX11_fillShelf⟩, List.forall_mem_cons.mpr ⟨⟨⟨by decide +kernel, by decide +kernel⟩, okX11_isHalf⟩, List.forall_mem_cons.mpr ⟨⟨⟨by decide +kernel, by decide +kernel⟩, okX11_isShelf⟩, List.forall_mem_cons.mpr ⟨⟨⟨by decide +kernel, by decide +kernel⟩, okX11_has⟩, List.forall_mem_cons.mpr ⟨⟨⟨by decide +kernel, by decide +kernel⟩, okX11_lowestTerms⟩, List.forall_mem_cons.mpr ⟨⟨⟨by decide +kernel, by decide +kernel⟩, okX11_commonDivisor⟩, List.forall_mem_cons.mpr ⟨⟨⟨by decide +kernel, by decide +kernel⟩, okX12_init⟩, List.forall_mem_cons.mpr ⟨⟨⟨by decide +kernel, by decide +kernel⟩, okX12_thrown⟩, List.forall_mem_cons.mpr ⟨⟨⟨by decide +kernel, by decide +kernel⟩, okX12_isIn⟩, List.forall_mem_cons.mpr ⟨⟨⟨by decide +kernel, by decide +kernel⟩, okX12_isState⟩, List.forall_mem_cons.mpr ⟨⟨⟨by decide +kernel, by decide +kernel⟩, okX12_isAct⟩, List.forall_mem_cons.mpr ⟨⟨⟨by decide +kernel, by decide +kernel⟩, okX12_isMarked⟩, List.forall_mem_cons.mpr ⟨⟨⟨by decide +kernel, by decide +kernel⟩, okX12_isFoe⟩, List.forall_mem_cons.mpr ⟨⟨⟨by decide +kernel, by decide +kernel⟩, okX12_state⟩, List.forall_mem_cons.mpr ⟨⟨⟨by decide +kernel, by decide +kernel⟩, okX12_act⟩, fun _ h => absurd h List.not_mem_nil⟩⟩⟩⟩⟩⟩⟩⟩⟩⟩⟩⟩⟩⟩⟩⟩⟩⟩⟩⟩
theorem mk_6 : ∀ M ∈ MT_6, mOK MT M := List.forall_mem_cons.mpr ⟨⟨⟨by decide +kernel, by decide +kernel⟩, okX12_partsOf⟩, List.forall_mem_cons.mpr ⟨⟨⟨by decide +kernel, by decide +kernel⟩, okX12_outcome⟩, List.forall_mem_cons.mpr ⟨⟨⟨by decide +kernel, by decide +kernel⟩, okX12_drop⟩, List.forall_mem_cons.mpr ⟨⟨⟨by decide +kernel, by decide +kernel⟩, okX12_mark⟩, List.forall_mem_cons.mpr ⟨⟨⟨by decide +kernel, by decide +kernel⟩, okX12_lacking⟩, List.forall_mem_cons.mpr ⟨⟨⟨by decide +kernel, by decide +kernel⟩, okX12_whole⟩, List.forall_mem_cons.mpr ⟨⟨⟨by decide +kernel, by decide +kernel⟩, okX12_allIn⟩, List.forall_mem_cons.mpr ⟨⟨⟨by decide +kernel, by decide +kernel⟩, okX12_someIn⟩, List.forall_mem_cons.mpr ⟨⟨⟨by decide +kernel, by decide +kernel⟩, okX12_wants⟩, List.forall_mem_cons.mpr ⟨⟨⟨by decide +kernel, by decide +kernel⟩, okX12_leads⟩, List.forall_mem_cons.mpr ⟨⟨⟨by decide +kernel, by decide +kernel⟩, okX12_comes⟩, List.forall_mem_cons.mpr ⟨⟨⟨by decide +kernel, by decide +kernel⟩, okX12_all⟩, List.forall_mem_cons.mpr ⟨⟨⟨by decide +kernel, by decide +kernel⟩, okX12_above⟩, List.forall_mem_cons.mpr ⟨⟨⟨by decide +kernel, by decide +kernel⟩, okX12_ones⟩, List.forall_mem_cons.mpr ⟨⟨⟨by decide +kernel, by decide +kernel⟩, okX12_gcd⟩, List.forall_mem_cons.mpr ⟨⟨⟨by decide +kernel, by decide +kernel⟩, okX12_determinant⟩, List.forall_mem_cons.mpr ⟨⟨⟨by decide +kernel, by decide +kernel⟩, okX12_placeOf⟩, List.forall_mem_cons.mpr ⟨⟨⟨by decide +kernel, by decide +kernel⟩, okX12_solve⟩, List.forall_mem_cons.mpr ⟨⟨⟨by decide +kernel, by decide +kernel⟩, okX12_layRow⟩, List.forall_mem_cons.mpr ⟨⟨⟨by decide +kernel, by decide +kernel⟩, okX12_comesChosen⟩, fun _ h => absurd h List.not_mem_nil⟩⟩⟩⟩⟩⟩⟩⟩⟩⟩⟩⟩⟩⟩⟩⟩⟩⟩⟩⟩
theorem mk_7 : ∀ M ∈ MT_7, mOK MT M := List.forall_mem_cons.mpr ⟨⟨⟨by decide +kernel, by decide +kernel⟩, okX12_chances⟩, List.forall_mem_cons.mpr ⟨⟨⟨by decide +kernel, by decide +kernel⟩, okX12_isBelow⟩, List.forall_mem_cons.mpr ⟨⟨⟨by decide +kernel, by decide +kernel⟩, okX12_nextChoice⟩, List.forall_mem_cons.mpr ⟨⟨⟨by decide +kernel, by decide +kernel⟩, okX12_countBits⟩, List.forall_mem_cons.mpr ⟨⟨⟨by decide +kernel, by decide +kernel⟩, okX12_worst⟩, List.forall_mem_cons.mpr ⟨⟨⟨by decide +kernel, by decide +kernel⟩, okX12_findValues⟩, List.forall_mem_cons.mpr ⟨⟨⟨by decide +kernel, by decide +kernel⟩, okX12_value⟩, List.forall_mem_cons.mpr ⟨⟨⟨by decide +kernel, by decide +kernel⟩, okX12_findSum⟩, List.forall_mem_cons.mpr ⟨⟨⟨by decide +kernel, by decide +kernel⟩, okX12_isJust⟩, List.forall_mem_cons.mpr ⟨⟨⟨by decide +kernel, by decide +kernel⟩, okX12_nearest⟩, List.forall_mem_cons.mpr ⟨⟨⟨by decide +kernel, by decide +kernel⟩, okX12_findDistances⟩, List.forall_mem_cons.mpr ⟨⟨⟨by decide +kernel, by decide +kernel⟩, okX12_refusal⟩, List.forall_mem_cons.mpr ⟨⟨⟨by decide +kernel, by decide +kernel⟩, okX12_choice⟩, List.forall_mem_cons.mpr ⟨⟨⟨by decide +kernel, by decide +kernel⟩, okX12_distance⟩, List.forall_mem_cons.mpr ⟨⟨⟨by decide +kernel, by decide +kernel⟩, okX12_sum⟩, List.forall_mem_cons.mpr ⟨⟨⟨by decide +kernel, by decide +kernel⟩, okX12_start⟩, List.forall_mem_cons.mpr ⟨⟨⟨by decide +kernel, by decide +kernel⟩, okX12_onwards⟩, List.forall_mem_cons.mpr ⟨⟨⟨by decide +kernel, by decide +kernel⟩, okX12_within⟩, List.forall_mem_cons.mpr ⟨⟨⟨by decide +kernel, by decide +kernel⟩, okX12_bound⟩, List.forall_mem_cons.mpr ⟨⟨⟨by decide +kernel, by decide +kernel⟩, okX12_sets⟩, fun _ h => absurd h List.not_mem_nil⟩⟩⟩⟩⟩⟩⟩⟩⟩⟩⟩⟩⟩⟩⟩⟩⟩⟩⟩⟩
theorem mk_8 : ∀ M ∈ MT_8, mOK MT M := List.forall_mem_cons.mpr ⟨⟨⟨by decide +kernel, by decide +kernel⟩, okX12_reachedFrom⟩, List.forall_mem_cons.mpr ⟨⟨⟨by decide +kernel, by decide +kernel⟩, okX12_reached⟩, List.forall_mem_cons.mpr ⟨⟨⟨by decide +kernel, by decide +kernel⟩, okX12_sureChosen⟩, List.forall_mem_cons.mpr ⟨⟨⟨by decide +kernel, by decide +kernel⟩, okX12_costsChosen⟩, List.forall_mem_cons.mpr ⟨⟨⟨by decide +kernel, by decide +kernel⟩, okX12_cost⟩, List.forall_mem_cons.mpr ⟨⟨⟨by decide +kernel, by decide +kernel⟩, okX12_together⟩, List.forall_mem_cons.mpr ⟨⟨⟨by decide +kernel, by decide +kernel⟩, okX12_staying⟩, List.forall_mem_cons.mpr ⟨⟨⟨by decide +kernel, by decide +kernel⟩, okX12_holeOf⟩, List.forall_mem_cons.mpr ⟨⟨⟨by decide +kernel, by decide +kernel⟩, okX12_findHoles⟩, List.forall_mem_cons.mpr ⟨⟨⟨by decide +kernel, by decide +kernel⟩, okX12_hole⟩, List.forall_mem_cons.mpr ⟨⟨⟨by decide +kernel, by decide +kernel⟩, okX12_partIn⟩, List.forall_mem_cons.mpr ⟨⟨⟨by decide +kernel, by decide +kernel⟩, okX12_areLike⟩, List.forall_mem_cons.mpr ⟨⟨⟨by decide +kernel, by decide +kernel⟩, okX12_hasAll⟩, List.forall_mem_cons.mpr ⟨⟨⟨by decide +kernel, by decide +kernel⟩, okX12_findClasses⟩, List.forall_mem_cons.mpr ⟨⟨⟨by decide +kernel, by decide +kernel⟩, okX12_twin⟩, List.forall_mem_cons.mpr ⟨⟨⟨by decide +kernel, by decide +kernel⟩, okX12_count⟩, List.forall_mem_cons.mpr ⟨⟨⟨by decide +kernel, by decide +kernel⟩, okX12_look⟩, List.forall_mem_cons.mpr ⟨⟨⟨by decide +kernel, by decide +kernel⟩, okX12_isShelf⟩, List.forall_mem_cons.mpr ⟨⟨⟨by decide +kernel, by decide +kernel⟩, okX12_weightOf⟩, List.forall_mem_cons.mpr ⟨⟨⟨by decide +kernel, by decide +kernel⟩, okX12_keep⟩, fun _ h => absurd h List.not_mem_nil⟩⟩⟩⟩⟩⟩⟩⟩⟩⟩⟩⟩⟩⟩⟩⟩⟩⟩⟩⟩
theorem mk_9 : ∀ M ∈ MT_9, mOK MT M := List.forall_mem_cons.mpr ⟨⟨⟨by decide +kernel, by decide +kernel⟩, okX12_make⟩, List.forall_mem_cons.mpr ⟨⟨⟨by decide +kernel, by decide +kernel⟩, okX12_element⟩, List.forall_mem_cons.mpr ⟨⟨⟨by decide +kernel, by decide +kernel⟩, okX12_hasPlaces⟩, List.forall_mem_cons.mpr ⟨⟨⟨by decide +kernel, by decide +kernel⟩, okX12_copy⟩, List.forall_mem_cons.mpr ⟨⟨⟨by decide +kernel, by decide +kernel⟩, okX12_weight⟩, List.forall_mem_cons.mpr ⟨⟨⟨by decide +kernel, by decide +kernel⟩, okX12_ratio⟩, List.forall_mem_cons.mpr ⟨⟨⟨by decide +kernel, by decide +kernel⟩, okJ6_bitCount_0f7a4⟩, List.forall_mem_cons.mpr ⟨⟨⟨by decide +kernel, by decide +kernel⟩, okJ7_fill_d0a16⟩, List.forall_mem_cons.mpr ⟨⟨⟨by decide +kernel, by decide +kernel⟩, okJ7_fill_53178⟩, List.forall_mem_cons.mpr ⟨⟨⟨by decide +kernel, by decide +kernel⟩, okL_element⟩, fun _ h => absurd h List.not_mem_nil⟩⟩⟩⟩⟩⟩⟩⟩⟩⟩
theorem mk_mem : ∀ M ∈ MT, mOK MT M := List.forall_mem_append.mpr ⟨mk_0, List.forall_mem_append.mpr ⟨mk_1, List.forall_mem_append.mpr ⟨mk_2, List.forall_mem_append.mpr ⟨mk_3, List.forall_mem_append.mpr ⟨mk_4, List.forall_mem_append.mpr ⟨mk_5, List.forall_mem_append.mpr ⟨mk_6, List.forall_mem_append.mpr ⟨mk_7, List.forall_mem_append.mpr ⟨mk_8, mk_9⟩⟩⟩⟩⟩⟩⟩⟩⟩
theorem mk_all : ∀ (j : Nat) (M : aM), MT[j]? = some M → mOK MT M := fun _ M h => mk_mem M (List.mem_of_getElem? h)
def rCK (C : String) (T : u_T) (ps : List Nat) : Nat → Bool
  | 0 => true
  | k + 1 => ck (u_lay C T k) (ps.getD k 0) && rCK C T ps k
theorem rCK_ok {C : String} {T : u_T} {ps : List Nat} : ∀ {N : Nat}, rCK C T ps N = true → ∀ w ∈ u_ws C T N, w ∈ GW
  | 0, _, w, hw => by simp [u_ws] at hw
  | N + 1, h, w, hw => by
    simp only [rCK, Bool.and_eq_true] at h
    unfold u_ws at hw
    rw [List.range_succ, List.map_append] at hw
    rcases List.mem_append.mp hw with q | q
    · exact rCK_ok h.2 w q
    · simp only [List.map_cons, List.map_nil, List.mem_singleton] at q
      subst q
      exact ck_ok h.1
theorem rows_0 : rCK RX0 TX0 [142, 144, 146, 148, 150, 152, 154] 7 = true := by decide +kernel
theorem rows_1 : rCK RX1 TX1 [225, 227, 229, 231, 233] 5 = true := by decide +kernel
theorem rows_2 : rCK RX2 TX2 [307, 309, 311, 313] 4 = true := by decide +kernel
theorem rows_3 : rCK RX3 TX3 [393, 395, 397, 399, 401, 403] 6 = true := by decide +kernel
theorem rows_4 : rCK RX4 TX4 [330, 332, 334, 336, 338] 5 = true := by decide +kernel
theorem rows_5 : rCK RX5 TX5 [362, 364, 366, 368, 370, 372, 374, 376] 8 = true := by decide +kernel
theorem rows_6 : rCK RX6 TX6 [452, 454, 456, 458, 460] 5 = true := by decide +kernel
theorem rows_7 : rCK RX7 TX7 [420, 422, 424, 426, 428, 430] 6 = true := by decide +kernel
theorem rows_8 : rCK RX8 TX8 [273, 275, 277, 279, 281, 283, 285, 287, 289, 291, 293] 11 = true := by decide +kernel
theorem rows_9 : rCK RX9 TX9 [248, 250, 252] 3 = true := by decide +kernel
theorem rows_10 : rCK RX10 TX10 [189, 191, 193, 195, 197] 5 = true := by decide +kernel
theorem rows_11 : rCK RX11 TX11 [473, 475, 477, 479, 481, 483, 485, 487, 489, 491] 10 = true := by decide +kernel
theorem rows_12 : rCK RX12 TX12 [1097, 1099, 1101, 1103, 1105, 1107, 1109, 1111, 1113, 1115, 1117, 1119, 1121, 1123, 1125, 1127, 1129, 1131, 1133, 1135, 1137, 1139, 1141, 1143, 1145, 1147, 1149, 1151, 1153, 1155, 1157, 1159, 1161, 1163, 1165, 1167, 1169, 1171] 38 = true := by decide +kernel
theorem rows_all : a_rows GW
  | 0, _, _, _, h => by cases h; exact rCK_ok rows_0
  | 1, _, _, _, h => by cases h; exact rCK_ok rows_1
  | 2, _, _, _, h => by cases h; exact rCK_ok rows_2
  | 3, _, _, _, h => by cases h; exact rCK_ok rows_3
  | 4, _, _, _, h => by cases h; exact rCK_ok rows_4
  | 5, _, _, _, h => by cases h; exact rCK_ok rows_5
  | 6, _, _, _, h => by cases h; exact rCK_ok rows_6
  | 7, _, _, _, h => by cases h; exact rCK_ok rows_7
  | 8, _, _, _, h => by cases h; exact rCK_ok rows_8
  | 9, _, _, _, h => by cases h; exact rCK_ok rows_9
  | 10, _, _, _, h => by cases h; exact rCK_ok rows_10
  | 11, _, _, _, h => by cases h; exact rCK_ok rows_11
  | 12, _, _, _, h => by cases h; exact rCK_ok rows_12
  | n + 13, _, _, _, h => by cases h
end
section
/-! WITHOUT A COUNT OF STEPS: least fixed points (by program: wip/whole/gen_lfp.py) -/
def F1 (xs : Nat × (Nat → Int32)) (C : Nat → List Value → aH → (Option Value → aH → Prop) → Prop) (MT : List aM) (tbl : List xI) (rt : Option FieldType) (Q : Option Value → aH → Prop) (X : Nat → aL → List Value → aH → Nat → Nat → Prop) (i : Nat) (L : aL) (S : List Value) (h : aH) (bc bs : Nat) : Prop := match tbl[i]? with
    | none => False
    | some x => match x.1 with
      | .invokevirtual _ => a_rcv h x.2.2.2.2.2.1 (S.take x.2.2.2.2.1).reverse = true ∧ a_words (S.drop x.2.2.2.2.1) ≤ 8 ∧ x.2.2.2.2.1 ≤ S.length ∧ ∃ M, MT[x.2.2.2.1]? = some M ∧ M.2.2.2.2.2.1.1 ≤ bc ∧ M.2.2.2.2.2.1.2 ≤ bs ∧ C x.2.2.2.1 (S.take x.2.2.2.2.1).reverse h (fun r h' => X (i + 1) L (r.toList ++ S.drop x.2.2.2.2.1) h' (bc - M.2.2.2.2.2.1.1) (bs - M.2.2.2.2.2.1.2))
      | .invokestatic _ => if x.2.2.2.1 = idCopy then (∃ R h', a_copy S h = some (R, h') ∧ a_words R ≤ 8 ∧ X (i + 1) L R h' bc bs) else
        a_words (S.drop x.2.2.2.2.1) ≤ 8 ∧ x.2.2.2.2.1 ≤ S.length ∧ ∃ M, MT[x.2.2.2.1]? = some M ∧ M.2.2.2.2.2.1.1 ≤ bc ∧ M.2.2.2.2.2.1.2 ≤ bs ∧ C x.2.2.2.1 (S.take x.2.2.2.2.1).reverse h (fun r h' => X (i + 1) L (r.toList ++ S.drop x.2.2.2.2.1) h' (bc - M.2.2.2.2.2.1.1) (bs - M.2.2.2.2.2.1.2))
      | .invokespecial _ => if x.2.2.2.1 = idInit then (∃ v R, S = .ref v :: R ∧ a_words R ≤ 8 ∧ X (i + 1) L R h bc bs) else
        a_isR (S.take x.2.2.2.2.1).reverse = true ∧ a_words (S.drop x.2.2.2.2.1) ≤ 8 ∧ x.2.2.2.2.1 ≤ S.length ∧ ∃ M, MT[x.2.2.2.1]? = some M ∧ M.2.2.2.2.2.1.1 ≤ bc ∧ M.2.2.2.2.2.1.2 ≤ bs ∧ C x.2.2.2.1 (S.take x.2.2.2.2.1).reverse h (fun r h' => X (i + 1) L (r.toList ++ S.drop x.2.2.2.2.1) h' (bc - M.2.2.2.2.2.1.1) (bs - M.2.2.2.2.2.1.2))
      | .tableswitch _ lo hi _ => match S with
        | .int v :: R => (match a_sw lo hi x.2.2.2.2.2.2 v with | some j => X j L R h bc bs | none => False)
        | _ => False
      | _ => match a_ret x.1 rt S with
        | some r => Q r h
        | none => match a_pure x.1 x.2.2.2.2.2.1 S with
          | some R => X (i + 1) L R h bc bs
          | none => match a_load x.1 L with
            | some v => X (i + 1) L (v :: S) h bc bs
            | none => match a_store x.1 L S with
              | some (L', R) => X (i + 1) L' R h bc bs
              | none => match a_br x.1 S with
                | some (b, R) => X (if b then x.2.2.2.1 else i + 1) L R h bc bs
                | none => match a_read xs x S h with
                  | some R => X (i + 1) L R h bc bs
                  | none => match a_write x S h with
                    | some (R, h') => X (i + 1) L R h' bc bs
                    | none => match a_make x S h with
                      | some (R, h', kc, ks) => kc ≤ bc ∧ ks ≤ bs ∧ X (i + 1) L R h' (bc - kc) (bs - ks)
                      | none => False
def W1 (xs : Nat × (Nat → Int32)) (C : Nat → List Value → aH → (Option Value → aH → Prop) → Prop) (T : List aM) (tbl : List xI) (rt : Option FieldType) (Q : Option Value → aH → Prop) (i : Nat) (L : aL) (S : List Value) (h : aH) (bc bs : Nat) : Prop :=
  ∀ X : Nat → aL → List Value → aH → Nat → Nat → Prop, (∀ i L S h bc bs, F1 xs C T tbl rt Q X i L S h bc bs → X i L S h bc bs) → X i L S h bc bs
def callW (xs : Nat × (Nat → Int32)) (T : List aM) (P : Nat → Nat → List Value → aH → (Option Value → aH → Prop) → Prop) : Nat → Nat → List Value → aH → (Option Value → aH → Prop) → Prop
  | 0, j, args, h, Q => P 0 j args h Q
  | d + 1, j, args, h, Q => P (d + 1) j args h Q ∨ ∃ M, T[j]? = some M ∧ args.length = M.2.2.2.2.1 ∧ (a_args args).length ≤ M.2.2.1 ∧ W1 xs (callW xs T P d) T M.2.2.2.2.2.2 M.2.2.2.1 Q 0 (a_locals M.2.2.1 args) [] h M.2.2.2.2.2.1.1 M.2.2.2.2.2.1.2
/-- an instruction that is no call, by its groups -/
theorem f1_plain {xs : Nat × (Nat → Int32)} {C : Nat → List Value → aH → (Option Value → aH → Prop) → Prop} {T : List aM} {tbl : List xI} {rt : Option FieldType} {Q : Option Value → aH → Prop} {X : Nat → aL → List Value → aH → Nat → Nat → Prop} {i : Nat} {L : aL} {S : List Value} {h : aH} {bc bs : Nat} {x : xI} (hx : tbl[i]? = some x) (hp : a_isCall x.1 = false) :
    F1 xs C T tbl rt Q X i L S h bc bs = (match a_ret x.1 rt S with
        | some r => Q r h
        | none => match a_pure x.1 x.2.2.2.2.2.1 S with
          | some R => X (i + 1) L R h bc bs
          | none => match a_load x.1 L with
            | some v => X (i + 1) L (v :: S) h bc bs
            | none => match a_store x.1 L S with
              | some (L', R) => X (i + 1) L' R h bc bs
              | none => match a_br x.1 S with
                | some (b, R) => X (if b then x.2.2.2.1 else i + 1) L R h bc bs
                | none => match a_read xs x S h with
                  | some R => X (i + 1) L R h bc bs
                  | none => match a_write x S h with
                    | some (R, h') => X (i + 1) L R h' bc bs
                    | none => match a_make x S h with
                      | some (R, h', kc, ks) => kc ≤ bc ∧ ks ≤ bs ∧ X (i + 1) L R h' (bc - kc) (bs - ks)
                      | none => False) := by
  unfold F1
  rw [hx]
  dsimp only
  split
  · rename_i e; rw [e] at hp; cases hp
  · rename_i e; rw [e] at hp; cases hp
  · rename_i e; rw [e] at hp; cases hp
  · rename_i e; rw [e] at hp; cases hp
  · rfl
theorem f1_call {xs : Nat × (Nat → Int32)} {C : Nat → List Value → aH → (Option Value → aH → Prop) → Prop} {T : List aM} {tbl : List xI} {rt : Option FieldType} {Q : Option Value → aH → Prop} {X : Nat → aL → List Value → aH → Nat → Nat → Prop} {i : Nat} {L : aL} {S : List Value} {h : aH} {bc bs : Nat} {x : xI} (hx : tbl[i]? = some x) :
    (∀ idx, x.1 = .invokevirtual idx → F1 xs C T tbl rt Q X i L S h bc bs = (a_rcv h x.2.2.2.2.2.1 (S.take x.2.2.2.2.1).reverse = true ∧ a_words (S.drop x.2.2.2.2.1) ≤ 8 ∧ x.2.2.2.2.1 ≤ S.length ∧ ∃ M, T[x.2.2.2.1]? = some M ∧ M.2.2.2.2.2.1.1 ≤ bc ∧ M.2.2.2.2.2.1.2 ≤ bs ∧ C x.2.2.2.1 (S.take x.2.2.2.2.1).reverse h (fun r h' => X (i + 1) L (r.toList ++ S.drop x.2.2.2.2.1) h' (bc - M.2.2.2.2.2.1.1) (bs - M.2.2.2.2.2.1.2)))) ∧
    (∀ idx, x.1 = .invokestatic idx → F1 xs C T tbl rt Q X i L S h bc bs = (if x.2.2.2.1 = idCopy then (∃ R h', a_copy S h = some (R, h') ∧ a_words R ≤ 8 ∧ X (i + 1) L R h' bc bs) else a_words (S.drop x.2.2.2.2.1) ≤ 8 ∧ x.2.2.2.2.1 ≤ S.length ∧ ∃ M, T[x.2.2.2.1]? = some M ∧ M.2.2.2.2.2.1.1 ≤ bc ∧ M.2.2.2.2.2.1.2 ≤ bs ∧ C x.2.2.2.1 (S.take x.2.2.2.2.1).reverse h (fun r h' => X (i + 1) L (r.toList ++ S.drop x.2.2.2.2.1) h' (bc - M.2.2.2.2.2.1.1) (bs - M.2.2.2.2.2.1.2)))) ∧
    (∀ idx, x.1 = .invokespecial idx → F1 xs C T tbl rt Q X i L S h bc bs = (if x.2.2.2.1 = idInit then (∃ v R, S = .ref v :: R ∧ a_words R ≤ 8 ∧ X (i + 1) L R h bc bs) else a_isR (S.take x.2.2.2.2.1).reverse = true ∧ a_words (S.drop x.2.2.2.2.1) ≤ 8 ∧ x.2.2.2.2.1 ≤ S.length ∧ ∃ M, T[x.2.2.2.1]? = some M ∧ M.2.2.2.2.2.1.1 ≤ bc ∧ M.2.2.2.2.2.1.2 ≤ bs ∧ C x.2.2.2.1 (S.take x.2.2.2.2.1).reverse h (fun r h' => X (i + 1) L (r.toList ++ S.drop x.2.2.2.2.1) h' (bc - M.2.2.2.2.2.1.1) (bs - M.2.2.2.2.2.1.2)))) ∧
    (∀ d lo hi offs, x.1 = .tableswitch d lo hi offs → F1 xs C T tbl rt Q X i L S h bc bs = (match S with
        | .int v :: R => (match a_sw lo hi x.2.2.2.2.2.2 v with | some j => X j L R h bc bs | none => False)
        | _ => False)) := by
  unfold F1
  rw [hx]
  dsimp only
  refine ⟨fun idx e => ?_, fun idx e => ?_, fun idx e => ?_, fun d lo hi offs e => ?_⟩
  · rw [e]
  · rw [e]
  · rw [e]
  · rw [e]
theorem F1_mono {xs : Nat × (Nat → Int32)} {C : Nat → List Value → aH → (Option Value → aH → Prop) → Prop} {T : List aM} {tbl : List xI} {rt : Option FieldType} {Q Q' : Option Value → aH → Prop} {X X' : Nat → aL → List Value → aH → Nat → Nat → Prop} (hC : ∀ j a h Q Q', (∀ r h', Q r h' → Q' r h') → C j a h Q → C j a h Q') (hQ : ∀ r h, Q r h → Q' r h) (hX : ∀ i L S h bc bs, X i L S h bc bs → X' i L S h bc bs) {i : Nat} {L : aL} {S : List Value} {h : aH} {bc bs : Nat} (hw : F1 xs C T tbl rt Q X i L S h bc bs) : F1 xs C T tbl rt Q' X' i L S h bc bs := by
    cases hx : tbl[i]? with
    | none => unfold F1 at hw; rw [hx] at hw; exact hw.elim
    | some x =>
      cases hc : a_isCall x.1 with
      | false =>
        rw [f1_plain hx hc] at hw ⊢
        split at hw
        · rename_i r e; exact hQ _ _ hw
        split at hw
        · rename_i r e; exact hX _ _ _ _ _ _ hw
        split at hw
        · rename_i r e; exact hX _ _ _ _ _ _ hw
        split at hw
        · rename_i L' r e; exact hX _ _ _ _ _ _ hw
        split at hw
        · rename_i t r e; exact hX _ _ _ _ _ _ hw
        split at hw
        · rename_i r e; exact hX _ _ _ _ _ _ hw
        split at hw
        · rename_i r h' e; exact hX _ _ _ _ _ _ hw
        split at hw
        · rename_i r h' kc ks e; exact ⟨hw.1, hw.2.1, hX _ _ _ _ _ _ hw.2.2⟩
        · exact hw.elim
      | true =>
        have c1 := f1_call (xs := xs) (C := C) (T := T) (rt := rt) (Q := Q) (X := X) (L := L) (S := S) (h := h) (bc := bc) (bs := bs) hx
        have c2 := f1_call (xs := xs) (C := C) (T := T) (rt := rt) (Q := Q') (X := X') (L := L) (S := S) (h := h) (bc := bc) (bs := bs) hx
        cases e : x.1 <;> (rw [e] at hc) <;> try (cases hc; done)
        · rw [c1.2.2.1 _ e] at hw
          rw [c2.2.2.1 _ e]
          split
          · rename_i q
            rw [if_pos q] at hw
            obtain ⟨v, R, u1, u2, u3⟩ := hw
            exact ⟨v, R, u1, u2, hX _ _ _ _ _ _ u3⟩
          · rename_i q
            rw [if_neg q] at hw
            obtain ⟨u1, u2, u3, M, u4, u5, u6, u7⟩ := hw
            exact ⟨u1, u2, u3, M, u4, u5, u6, hC _ _ _ _ _ (fun r h' z => hX _ _ _ _ _ _ z) u7⟩
        · rw [c1.2.1 _ e] at hw
          rw [c2.2.1 _ e]
          split
          · rename_i q
            rw [if_pos q] at hw
            obtain ⟨R, h', u1, u2, u3⟩ := hw
            exact ⟨R, h', u1, u2, hX _ _ _ _ _ _ u3⟩
          · rename_i q
            rw [if_neg q] at hw
            obtain ⟨u2, u3, M, u4, u5, u6, u7⟩ := hw
            exact ⟨u2, u3, M, u4, u5, u6, hC _ _ _ _ _ (fun r h' z => hX _ _ _ _ _ _ z) u7⟩
        · rw [c1.1 _ e] at hw
          rw [c2.1 _ e]
          obtain ⟨u1, u2, u3, M, u4, u5, u6, u7⟩ := hw
          exact ⟨u1, u2, u3, M, u4, u5, u6, hC _ _ _ _ _ (fun r h' z => hX _ _ _ _ _ _ z) u7⟩
        · rw [c1.2.2.2 _ _ _ _ e] at hw
          rw [c2.2.2.2 _ _ _ _ e]
          split at hw
          · split at hw
            · rename_i j ej
              exact hX _ _ _ _ _ _ hw
            · exact hw.elim
          · exact hw.elim
theorem W1_fold {xs : Nat × (Nat → Int32)} {C : Nat → List Value → aH → (Option Value → aH → Prop) → Prop} {T : List aM} {tbl : List xI} {rt : Option FieldType} {Q : Option Value → aH → Prop} (hC : ∀ j a h Q Q', (∀ r h', Q r h' → Q' r h') → C j a h Q → C j a h Q') {i : Nat} {L : aL} {S : List Value} {h : aH} {bc bs : Nat} (hw : F1 xs C T tbl rt Q (W1 xs C T tbl rt Q) i L S h bc bs) : W1 xs C T tbl rt Q i L S h bc bs :=
  fun X hX => hX _ _ _ _ _ _ (F1_mono hC (fun _ _ q => q) (fun _ _ _ _ _ _ q => q X hX) hw)
theorem W1_mono {xs : Nat × (Nat → Int32)} {C : Nat → List Value → aH → (Option Value → aH → Prop) → Prop} {T : List aM} {tbl : List xI} {rt : Option FieldType} {Q Q' : Option Value → aH → Prop} (hC : ∀ j a h Q Q', (∀ r h', Q r h' → Q' r h') → C j a h Q → C j a h Q') (hQ : ∀ r h, Q r h → Q' r h) {i : Nat} {L : aL} {S : List Value} {h : aH} {bc bs : Nat} (hw : W1 xs C T tbl rt Q i L S h bc bs) : W1 xs C T tbl rt Q' i L S h bc bs :=
  fun X hX => hw X (fun _ _ _ _ _ _ q => hX _ _ _ _ _ _ (F1_mono hC hQ (fun _ _ _ _ _ _ z => z) q))
theorem callW_mono {xs : Nat × (Nat → Int32)} {T : List aM} {P : Nat → Nat → List Value → aH → (Option Value → aH → Prop) → Prop} (hP : ∀ d j a h Q Q', (∀ r h', Q r h' → Q' r h') → P d j a h Q → P d j a h Q') : ∀ (d j : Nat) a h Q Q', (∀ r h', Q r h' → Q' r h') → callW xs T P d j a h Q → callW xs T P d j a h Q'
  | 0, j, a, h, Q, Q', hq, hc => hP 0 j a h Q Q' hq hc
  | d + 1, j, a, h, Q, Q', hq, hc => by
    rcases hc with hc | ⟨M, h1, h2, h3, h4⟩
    · exact Or.inl (hP _ _ _ _ _ _ hq hc)
    · exact Or.inr ⟨M, h1, h2, h3, W1_mono (callW_mono hP d) hq h4⟩
def SimW (p : Program) (l : Launch) (e : Env) (R : Room) (s : State) (m : MethodId) (args : Array Value) (below : List Frame) (meth : Method) (c : Code) (Q : State → Prop) (D : va_G) (A : Nat → Prop) (b : Nat) (ad0 : List Nat) (nL : Nat) (tbl : List xI) (i : Nat) (L : aL) (S : List Value) (h1 : aH) (bc bs : Nat) : Prop :=
  ∀ (H1 : Heap) (locs1 : List Loc) (ce sl : Nat) (ad1 : List Nat) (ls1 : Array Slot) (S' : List Value), World D A b (ad0 ++ ad1) h1 H1 s → va_S A s.heap H1 locs1 → LR b (ad0 ++ ad1) L ls1 → L.length = nL → RVs b (ad0 ++ ad1) S S' → ce + bc = R.cells → sl + bs = R.slots → W p l e R s m args below meth c H1 locs1 ce sl Q (F0 m (pcOf tbl i) ls1 S')
section SGW
variable {p : Program} {l : Launch} {e : Env} {R : Room} {s : State} {m : MethodId} {args : Array Value} {below : List Frame} {meth : Method} {c : Code} {Q : State → Prop}
variable {cc : ByteArray} {nL : Nat} {b : Nat} {own : String} {D : va_G} {A : Nat → Prop} {xs : Nat × (Nat → Int32)}
variable {MT : List aM} {C : Nat → List Value → aH → (Option Value → aH → Prop) → Prop} {tbl : List xI} {rt : Option FieldType} {Qf : Option Value → aH → Prop} {mname : String} {d : Nat}
set_option maxHeartbeats 4000000 in
/-- what M1 does from instruction i on, the JVM does -/
theorem s_walkW (hx : p.tables.exec = Jvm.exec) (hb : c.code = cc) (hml : c.maxLocals = nL) (hown : s.vm.findClass own = some m.cls) (hts : ∀ w ∈ GW, w.before args s = true) (hrows : a_rows GW) (henv : ENV s) (hmn : meth.name = mname) (hT : tOK own mname cc MT tbl) (hA : ∀ q, s.heap.size ≤ q → A q) (hsc : a_scr A b xs s s.heap)
    (hRf : d + 1 ≤ R.frames) (hRl : 39 * (d + 1) ≤ R.locals) (IH : ∀ j argsA h1 Q1, C j argsA h1 Q1 → ∀ M, MT[j]? = some M → Ctr l D b xs d M argsA h1 Q1) (ad0 : List Nat)
    (hret : ∀ (i : Nat) (x : xI) (S : List Value) (h1 : aH) (r : Option Value) (H1 : Heap) (locs1 : List Loc) (ce sl : Nat) (ad1 : List Nat) (ls1 : Array Slot) (S' : List Value), tbl[i]? = some x → a_ret x.1 rt S = some r → Qf r h1 → World D A b (ad0 ++ ad1) h1 H1 s → va_S A s.heap H1 locs1 → RVs b (ad0 ++ ad1) S S' → ce ≤ R.cells → sl ≤ R.slots → decode cc x.2.1 = .ok (x.1, 1) → W p l e R s m args below meth c H1 locs1 ce sl Q (F0 m x.2.1 ls1 S')) :
    ∀ (i : Nat) (L : aL) (S : List Value) (h1 : aH) (bc bs : Nat), W1 xs C MT tbl rt Qf i L S h1 bc bs → SimW p l e R s m args below meth c Q D A b ad0 nL tbl i L S h1 bc bs := by
    intro i L S h1 bc bs hw
    refine hw (SimW p l e R s m args below meth c Q D A b ad0 nL tbl) ?_
    clear hw
    clear i L S h1 bc bs
    intro i L S h1 bc bs hw H1 locs1 ce sl ad1 ls1 S' hW hS0 hL hLn hS hce hsl
    unfold F1 at hw
    split at hw
    · exact hw.elim
    rename_i x hxi
    have hpc : pcOf tbl i = x.2.1 := by unfold pcOf; rw [hxi]
    rw [hpc]
    obtain ⟨o1, o2, o3, o4, o5, o6, o7, o8, o9, o10, o11, o12⟩ := hT i x hxi
    have hls : ls1.size = nL := by rw [hL.1]; exact hLn
    -- a call's continuation
    have aft : ∀ (k : Nat) (M : aM), a_falls x.1 = true → x.2.2.1 = 3 → M.2.2.2.2.2.1.1 ≤ bc → M.2.2.2.2.2.1.2 ≤ bs → ∀ (r r' : Option Value) (h' : aH) (ad2 : List Nat) (H2 : Heap) (locs2 : List Loc) (R' : List Value), SimW p l e R s m args below meth c Q D A b ad0 nL tbl (i + 1) L (r.toList ++ S.drop k) h' (bc - M.2.2.2.2.2.1.1) (bs - M.2.2.2.2.2.1.2) → RO b ((ad0 ++ ad1) ++ ad2) r r' → RVs b (ad0 ++ ad1) (S.drop k) R' → World D A b ((ad0 ++ ad1) ++ ad2) h' H2 s → va_S A s.heap H2 locs2 → W p l e R s m args below meth c H2 locs2 (ce + M.2.2.2.2.2.1.1) (sl + M.2.2.2.2.2.1.2) Q (F0 m (x.2.1 + 3) ls1 (r'.toList ++ R')) := by
      intro k M hf h3 hm1 hm2 r r' h' ad2 H2 locs2 R' q1 q2 q3 q4 q5
      have e := o3 hf
      rw [h3] at e
      rw [← e]
      rw [List.append_assoc] at q2 q4
      have q3' : RVs b (ad0 ++ (ad1 ++ ad2)) (S.drop k) R' := by rw [← List.append_assoc]; exact q3.mono
      have hL' : LR b (ad0 ++ (ad1 ++ ad2)) L ls1 := by rw [← List.append_assoc]; exact hL.mono
      exact q1 H2 locs2 _ _ (ad1 ++ ad2) ls1 _ q4 q5 hL' hLn (q2.list.app q3') (by omega) (by omega)
    split at hw
    · rename_i idx hins
      obtain ⟨u1, u2, u3, M, u4, u5, u6, u7⟩ := hw
      have h3 : x.2.2.1 = 3 := by rw [o2 (by rw [hins]; rfl), hins]; rfl
      have hf : a_falls x.1 = true := by rw [hins]; rfl
      exact s_call hx hb hml hown hts henv (by rw [h3] at o1; exact o1) u4 rfl u3 u2 (Or.inl ⟨idx, hins, o9 idx hins, u1⟩) hRf hRl (IH _ _ _ _ u7 M u4) hW hS0 hA hsc hls hS (by omega) (by omega) (aft _ M hf h3 u5 u6)
    · rename_i idx hins
      have h3 : x.2.2.1 = 3 := by rw [o2 (by rw [hins]; rfl), hins]; rfl
      have hf : a_falls x.1 = true := by rw [hins]; rfl
      have o10' := o10 idx hins
      split at hw
      · rename_i hid
        rw [if_pos hid] at o10'
        obtain ⟨T, h', u1, u2, u3⟩ := hw
        have e := o3 hf
        rw [h3] at e
        refine s_copy (idx := idx) hx hb (by rw [hml, hls]) hown hts o10' (by rw [hins, h3] at o1; exact o1) (by omega) (by omega) hW hS0 u1 u2 hS (fun H2 locs2 T' q1 q2 q3 => ?_)
        rw [← e]
        exact u3 H2 locs2 _ _ ad1 ls1 _ q2 q3 hL hLn q1 hce hsl
      · rename_i hid
        rw [if_neg hid] at o10'
        obtain ⟨u2, u3, M, u4, u5, u6, u7⟩ := hw
        exact s_call hx hb hml hown hts henv (by rw [h3] at o1; exact o1) u4 rfl u3 u2 (Or.inr (Or.inl ⟨idx, hins, o10'⟩)) hRf hRl (IH _ _ _ _ u7 M u4) hW hS0 hA hsc hls hS (by omega) (by omega) (aft _ M hf h3 u5 u6)
    · rename_i idx hins
      have h3 : x.2.2.1 = 3 := by rw [o2 (by rw [hins]; rfl), hins]; rfl
      have hf : a_falls x.1 = true := by rw [hins]; rfl
      have o11' := o11 idx hins
      split at hw
      · rename_i hid
        rw [if_pos hid] at o11'
        obtain ⟨v, R1, u1, u2, u3⟩ := hw
        subst u1
        obtain ⟨v', R', rfl, r1, r2⟩ := hS
        obtain ⟨a, rfl⟩ := r1.isRef
        have e := o3 hf
        rw [h3] at e
        have hw8 : (R'.map fun v => v.category).sum ≤ 8 := by rw [r2.words]; exact u2
        refine W.objInit hx hb hown (hts _ o11'.1) (hts _ o11'.2.1) (hts _ o11'.2.2) rfl (by rw [hml]; exact hls) rfl (by rw [hins, h3] at o1; exact o1) (by omega) (by show 2 * 0 + _ + 12 ≤ _; omega) ?_
        refine W.eq (g2 := F0 m (pcOf tbl (i + 1)) ls1 R') (by rw [e]) ?_
        exact u3 H1 locs1 _ _ ad1 ls1 _ hW hS0 hL hLn r2 hce hsl
      · rename_i hid
        rw [if_neg hid] at o11'
        obtain ⟨u1, u2, u3, M, u4, u5, u6, u7⟩ := hw
        unfold a_isR at u1
        split at u1
        · rename_i v AsA hvA
          exact s_call hx hb hml hown hts henv (by rw [h3] at o1; exact o1) u4 rfl u3 u2 (Or.inr (Or.inr ⟨idx, v, AsA, hins, o11', hvA⟩)) hRf hRl (IH _ _ _ _ u7 M u4) hW hS0 hA hsc hls hS (by omega) (by omega) (aft _ M hf h3 u5 u6)
        · cases u1
    · rename_i dd lo hi offs hins
      split at hw
      · rename_i v R1
        split at hw
        · rename_i j hj
          obtain ⟨R', rfl, r1⟩ := hS.i1
          obtain ⟨g1, g2⟩ := o12 dd lo hi offs hins
          exact s_sw (pcs := pcOf tbl) hx hb (by rw [hins] at o1; exact o1) g1 g2 hj (hw H1 locs1 _ _ ad1 ls1 _ hW hS0 hL hLn r1 hce hsl)
        · exact hw.elim
      · exact hw.elim
    · rename_i n1 n2 n3 n4
      have hsw : a_isSw x.1 = false := by
        unfold a_isSw
        split
        · rename_i hq; exact (n4 _ _ _ _ hq).elim
        · rfl
      have hlen := o2 hsw
      rw [hlen] at o1 o3
      split at hw
      · rename_i r hr
        refine hret i x S h1 r H1 locs1 ce sl ad1 ls1 S' hxi hr hw hW hS0 hS (by omega) (by omega) ?_
        rw [a_ret_len hr] at o1
        exact o1
      split at hw
      · rename_i T hp
        obtain ⟨T', g1, g2⟩ := s_pure (l := l) (e := e) (R := R) (below := below) (meth := meth) (H := H1) (locs := locs1) (cells := ce) (slots := sl) (Q := Q) (ls := ls1) hx hb hown o1 (fun w hw => hts w (o5 w hw)) hp hS
        refine g2 ?_
        rw [← o3 (a_pure_falls hp)]
        exact hw H1 locs1 _ _ ad1 ls1 _ hW hS0 hL hLn g1 hce hsl
      split at hw
      · rename_i v hp
        obtain ⟨v', g1, g2⟩ := s_load (l := l) (e := e) (R := R) (s := s) (args := args) (m := m) (below := below) (meth := meth) (H := H1) (locs := locs1) (cells := ce) (slots := sl) (Q := Q) (S' := S') hx hb o1 hp hL
        refine g2 ?_
        rw [← o3 (a_load_falls hp)]
        exact hw H1 locs1 _ _ ad1 ls1 _ hW hS0 hL hLn ⟨v', S', rfl, g1, hS⟩ hce hsl
      split at hw
      · rename_i L' T hp
        obtain ⟨T', g1, g2⟩ := s_store (l := l) (e := e) (R := R) (s := s) (args := args) (m := m) (below := below) (meth := meth) (H := H1) (locs := locs1) (cells := ce) (slots := sl) (Q := Q) hx hb o1 hp hL hS
        refine g2 (fun ls2 hL2 => ?_)
        rw [← o3 (a_store_falls hp)]
        exact hw H1 locs1 _ _ ad1 ls2 _ hW hS0 hL2 (by rw [a_store_len hp]; exact hLn) g1 hce hsl
      split at hw
      · rename_i t T hp
        obtain ⟨T', g1, g2⟩ := s_br (l := l) (e := e) (R := R) (s := s) (args := args) (m := m) (below := below) (meth := meth) (H := H1) (locs := locs1) (cells := ce) (slots := sl) (Q := Q) (ls := ls1) hx hb o1 (o4 (a_br_jumps hp)) hp hS
        refine g2 ?_
        cases t with
        | true => exact hw H1 locs1 _ _ ad1 ls1 _ hW hS0 hL hLn g1 hce hsl
        | false =>
          show W p l e R s m args below meth c H1 locs1 ce sl Q (F0 m (x.2.1 + a_len x.1) ls1 T')
          rw [← o3 (a_br_falls hp)]
          exact hw H1 locs1 _ _ ad1 ls1 _ hW hS0 hL hLn g1 hce hsl
      split at hw
      · rename_i T hp
        obtain ⟨T', g1, g2⟩ := s_read (l := l) (e := e) (R := R) (m := m) (below := below) (meth := meth) (cells := ce) (slots := sl) (Q := Q) (ls := ls1) hx hb hown hts hrows o1 o6 hW hS0 hsc hp hS
        refine g2 ?_
        rw [← o3 (a_read_falls hp)]
        exact hw H1 locs1 _ _ ad1 ls1 _ hW hS0 hL hLn g1 hce hsl
      split at hw
      · rename_i T h' hp
        obtain ⟨T', g1, g2⟩ := s_write (l := l) (e := e) (R := R) (below := below) (cells := ce) (slots := sl) (Q := Q) (ls := ls1) hx hb hown hts hrows o1 (fun idx hi => by rw [hmn]; exact o7 idx hi) hW hS0 hp hS
        refine g2 (fun H2 locs2 q1 q2 => ?_)
        rw [← o3 (a_write_falls hp)]
        exact hw H2 locs2 _ _ ad1 ls1 _ q1 q2 hL hLn g1 hce hsl
      split at hw
      · rename_i T h' kc ks hp
        obtain ⟨u1, u2, u3⟩ := hw
        refine s_make hx hb hown hts hrows o1 (a_mk_of o8 henv) hW hS0 hA hp hS (by omega) (by omega) (fun H2 ad2 T' q1 q2 q3 => ?_)
        rw [← o3 (a_make_falls hp)]
        rw [List.append_assoc] at q1 q3
        have hL' : LR b (ad0 ++ (ad1 ++ ad2)) L ls1 := by rw [← List.append_assoc]; exact hL.mono
        exact u3 H2 locs1 _ _ (ad1 ++ ad2) ls1 _ q1 q2 hL' hLn q3 (by omega) (by omega)
      · exact hw.elim
end SGW
set_option maxHeartbeats 4000000 in
theorem snd_callW {l : Launch} {D : va_G} {b : Nat} {xs : Nat × (Nat → Int32)} {MT : List aM} {P : Nat → Nat → List Value → aH → (Option Value → aH → Prop) → Prop} (hrows : a_rows GW) (hMT : ∀ (j : Nat) (M : aM), MT[j]? = some M → mOK MT M)
    (hP : ∀ (d j : Nat) args h Q, P d j args h Q → ∀ M, MT[j]? = some M → Ctr l D b xs d M args h Q) : ∀ (d j : Nat) args h Q, callW xs MT P d j args h Q → ∀ M, MT[j]? = some M → Ctr l D b xs d M args h Q := by
  intro d
  induction d with
  | zero => exact fun j args h Q hc => hP 0 j args h Q hc
  | succ d IH =>
    intro j argsA h Q hc M hM
    rcases hc with hc | ⟨M2, e, hn, hlen, hw⟩
    · exact hP _ _ _ _ _ hc M hM
    rw [hM] at e
    cases e
    obtain ⟨⟨hpl, hp0⟩, hT⟩ := hMT j M hM
    intro ad sz
    refine Met.ofW (cc := M.2.1) (maxL := M.2.2.1) (ret := M.2.2.2.1) (ws' := GW) hpl rfl ?_
    intro p e s m args below meth c s₁ B hml hv
    obtain ⟨args', rfl, hr, hsz, hWd, henv, hX, hbs, hbad⟩ := hv
    have hx := B.exec
    have hb := B.bytes
    have hret := B.returns
    have hts := atoms_spec (ws := wsM M) B.pre
    have hown : s.vm.findClass M.1.cls = some m.cls := findClass_of_methodNamed B.named
    have hmn : meth.name = M.1.name := (name_of_methodNamed B.named B.method).1
    have hlocks := B.notSynchronized
    subst hsz
    have hA : ∀ q, s.heap.size ≤ q → aA ad s.heap.size q := fun q hq => Or.inr hq
    have hsc : a_scr (aA ad s.heap.size) b xs s s.heap := ⟨hX, hbs, fun q => q.elim hbad (fun z => by omega)⟩
    rw [lg_entry_eq]
    have hw0 : World D (aA ad s.heap.size) b (ad ++ []) h s.heap s := by rw [List.append_nil]; exact hWd.weaken (fun q hq => Or.inl hq)
    have key := s_walkW (l := l) (e := e) (R := rmD (d + 1) M) (below := below) (meth := meth) (D := D) (A := aA ad s.heap.size) (Q := MQ below (CtrQ D b Q ad s.heap.size) args'.toArray s M.2.2.2.2.2.1.1 M.2.2.2.2.2.1.2 (aA ad s.heap.size)) (rt := M.2.2.2.1) (Qf := Q) (d := d) (C := callW xs MT P d) hx hb hml hown (fun w hw => hts w (List.mem_cons_of_mem _ hw)) hrows henv hmn hT hA hsc (Nat.le_refl _) (Nat.le_refl _) (fun j a9 h9 Q9 q M9 hM9 => IH j a9 h9 Q9 q M9 hM9) ad ?_ 0 (a_locals M.2.2.1 argsA) [] h M.2.2.2.2.2.1.1 M.2.2.2.2.2.1.2 hw s.heap [] 0 0 [] _ [] hw0 va_S.rf (by rw [List.append_nil]; exact a_locals_LR hr hlen) (a_locals_len hlen) rfl (Nat.zero_add _) (Nat.zero_add _)
    · rw [hp0] at key
      exact key
    · intro i x S h1 r H1 locs1 ce sl ad1 ls1 S' hxi hrt hq hw1 hS1 hSS hce hsl hdec
      refine W.widen (k := M.2.2.2.2.2.1.1) (n := M.2.2.2.2.2.1.2) hce hsl ?_
      have hfree : ∀ q ∈ locs1, aA ad s.heap.size q.base := hS1.2.2
      have post : ∀ (r' : Option Value), RO b (ad ++ ad1) r r' → ∀ t : State, t.heap = H1 → s.WarmedH t.vm → CtrQ D b Q ad s.heap.size args'.toArray s (.returned r') t := fun r' hro t ht hwm =>
        ⟨⟨r, r', h1, ad1, rfl, hq, hro, by rw [ht]; exact (hw1.weaken (B := fun _ => True) (fun _ _ => trivial)).moved hwm.alike, hw1.new⟩, hS1.F ht⟩
      obtain ⟨ins, xr⟩ := x
      dsimp only at hrt hdec ⊢
      cases ins <;> try (simp only [a_ret, reduceCtorEq] at hrt; done)
      case return_ =>
        simp only [a_ret] at hrt
        split at hrt
        · rename_i hq9
          obtain ⟨q1, q2⟩ := hq9
          cases hrt
          subst q2
          rw [show S' = [] from hSS]
          exact W.vret hx hb (by rw [hret]; exact q1) (post none rfl) hfree hdec
        · cases hrt
      case ireturn =>
        simp only [a_ret] at hrt
        split at hrt
        · split at hrt
          · split at hrt
            · rename_i ty hty hnar
              cases hrt
              obtain ⟨R', rfl, r2⟩ := hSS.i1
              rw [show R' = [] from r2]
              exact W.zret hx hb (by rw [hret]; exact hty) hnar (post _ ⟨_, rfl, rfl⟩) hfree hdec
            · cases hrt
          · cases hrt
        · cases hrt
      case lreturn =>
        simp only [a_ret] at hrt
        split at hrt
        · split at hrt
          · rename_i hty
            cases hrt
            obtain ⟨R', rfl, r2⟩ := hSS.l1
            rw [show R' = [] from r2]
            exact W.lret hx hb (by rw [hret]; exact hty) (post _ ⟨_, rfl, rfl⟩) hfree hdec
          · cases hrt
        · cases hrt
      case areturn =>
        simp only [a_ret] at hrt
        split at hrt
        · split at hrt
          · split at hrt
            · rename_i ty hty hnar
              cases hrt
              obtain ⟨v', R', rfl, r1, r2⟩ := hSS
              rw [show R' = [] from r2]
              obtain ⟨a9, rfl⟩ := r1.isRef
              exact W.aret hx hb (by rw [hret]; exact hty) (by cases ty <;> first | exact Or.inl ⟨_, rfl⟩ | exact Or.inr ⟨_, rfl⟩ | (cases hnar)) (Or.inr ⟨_, rfl⟩) (post _ ⟨_, rfl, r1⟩) hfree hdec
            · cases hrt
          · cases hrt
        · cases hrt
section W21F
variable {xs : Nat × (Nat → Int32)} {C2 : Nat → List v2 → Mem → (Option v2 → Mem → Prop) → Prop} {C1 : Nat → List Value → aH → (Option Value → aH → Prop) → Prop} {tbl : List xI} {rt : Option FieldType} {Q2 : Option v2 → Mem → Prop} {Q1 : Option Value → aH → Prop} {go : Nat → L2 → List v2 → Mem → Prop} {cc cs lo ls : Nat} {X : Nat → aL → List Value → aH → Nat → Nat → Prop}
set_option maxHeartbeats 4000000 in
theorem st21F
    (hC : ∀ (j : Nat) args m Q, okS args → C2 j args m Q → ∃ M, MT[j]? = some M ∧ M.2.2.2.2.2.1.1 ≤ cc ∧ M.2.2.2.2.2.1.2 ≤ cs ∧ C1 j (args.map enc) (toH m) (fun r h => ∃ r2 m2, r = r2.map enc ∧ h = toH m2 ∧ (∀ v, r2 = some v → okV v) ∧ Q r2 m2))
    (hmC : ∀ j a h Q Q', (∀ r h', Q r h' → Q' r h') → C1 j a h Q → C1 j a h Q')
    (hQ : ∀ r m, (∀ v, r = some v → okV v) → Q2 r m → Q1 (r.map enc) (toH m))
    (hgo : ∀ (j : Nat) (L : L2) (S : List v2) (m : Mem) (bc bs : Nat), okL L → okS S → lo ≤ bc → ls ≤ bs → go j L S m → X j (mapL L) (S.map enc) (toH m) bc bs)
    {x : xI} {i : Nat} {L : L2} {S : List v2} {m : Mem} {bc bs : Nat} (hx : tbl[i]? = some x) (hL : okL L) (hS : okS S) (hbc : lo + cc ≤ bc) (hbs : ls + cs ≤ bs) (hw : st2 xs C2 rt Q2 go x i L S m) : F1 xs C1 MT tbl rt Q1 X i (mapL L) (S.map enc) (toH m) bc bs := by
    have hbc' : lo ≤ bc := by omega
    have hbs' : ls ≤ bs := by omega
    obtain ⟨ins, pc, len, a, b, z, tg⟩ := x
    unfold st2 at hw
    dsimp only at hw
    -- a call, once its answer is known
    have aft : ∀ (M : aM) (rest : List v2) (kd : Nat), M.2.2.2.2.2.1.1 ≤ cc → M.2.2.2.2.2.1.2 ≤ cs → okS rest → ∀ (r : Option Value) (h : aH), (∃ r2 m2, r = r2.map enc ∧ h = toH m2 ∧ (∀ v, r2 = some v → okV v) ∧ c_ret kd (fun R m' => go (i + 1) L R m') rest r2 m2) → X (i + 1) (mapL L) (r.toList ++ rest.map enc) h (bc - M.2.2.2.2.2.1.1) (bs - M.2.2.2.2.2.1.2) := by
      intro M rest kd q1 q2 hr r h hh
      obtain ⟨r2, m2, rfl, rfl, h3, h4⟩ := hh
      have e : (r2.map enc).toList ++ rest.map enc = (r2.toList ++ rest).map enc := by cases r2 <;> rfl
      rw [e]
      refine hgo _ _ _ _ _ _ hL (fun v hv => ?_) (by omega) (by omega) (c_ret_spec h4)
      rcases List.mem_append.mp hv with q | q
      · cases r2 with
        | none => cases q
        | some w => rw [Option.toList_some, List.mem_singleton] at q; rw [q]; exact h3 w rfl
      · exact hr v q
    have hok0 : ∀ v, (none : Option v2) = some v → okV v := fun v q => by cases q
    cases ins <;> try (exact (show False from hw).elim)
    case iconst n9 =>
      dsimp only at hw
      rw [f1_plain hx rfl]
      exact hgo _ _ _ _ _ _ hL (okS_c (by trivial) hS) hbc' hbs' hw
    case bipush n9 =>
      dsimp only at hw
      rw [f1_plain hx rfl]
      exact hgo _ _ _ _ _ _ hL (okS_c (by trivial) hS) hbc' hbs' hw
    case sipush n9 =>
      dsimp only at hw
      rw [f1_plain hx rfl]
      exact hgo _ _ _ _ _ _ hL (okS_c (by trivial) hS) hbc' hbs' hw
    case lconst n9 =>
      dsimp only at hw
      rw [f1_plain hx rfl]
      exact hgo _ _ _ _ _ _ hL (okS_c (by trivial) hS) hbc' hbs' hw
    case ldc n9 =>
      dsimp only at hw
      rw [f1_plain hx rfl]
      exact hgo _ _ _ _ _ _ hL (okS_c (by trivial) hS) hbc' hbs' hw
    case ldc_w n9 =>
      dsimp only at hw
      rw [f1_plain hx rfl]
      exact hgo _ _ _ _ _ _ hL (okS_c (by trivial) hS) hbc' hbs' hw
    case ldc2_w n9 =>
      dsimp only at hw
      rw [f1_plain hx rfl]
      exact hgo _ _ _ _ _ _ hL (okS_c (by trivial) hS) hbc' hbs' hw
    case iadd =>
      dsimp only at hw
      split at hw
      · rw [f1_plain hx rfl]
        exact hgo _ _ _ _ _ _ hL (okS_c (by trivial) (okS_t (okS_t hS))) hbc' hbs' hw
      · exact hw.elim
    case isub =>
      dsimp only at hw
      split at hw
      · rw [f1_plain hx rfl]
        exact hgo _ _ _ _ _ _ hL (okS_c (by trivial) (okS_t (okS_t hS))) hbc' hbs' hw
      · exact hw.elim
    case imul =>
      dsimp only at hw
      split at hw
      · rw [f1_plain hx rfl]
        exact hgo _ _ _ _ _ _ hL (okS_c (by trivial) (okS_t (okS_t hS))) hbc' hbs' hw
      · exact hw.elim
    case iand =>
      dsimp only at hw
      split at hw
      · rw [f1_plain hx rfl]
        exact hgo _ _ _ _ _ _ hL (okS_c (by trivial) (okS_t (okS_t hS))) hbc' hbs' hw
      · exact hw.elim
    case ior =>
      dsimp only at hw
      split at hw
      · rw [f1_plain hx rfl]
        exact hgo _ _ _ _ _ _ hL (okS_c (by trivial) (okS_t (okS_t hS))) hbc' hbs' hw
      · exact hw.elim
    case ixor =>
      dsimp only at hw
      split at hw
      · rw [f1_plain hx rfl]
        exact hgo _ _ _ _ _ _ hL (okS_c (by trivial) (okS_t (okS_t hS))) hbc' hbs' hw
      · exact hw.elim
    case ishl =>
      dsimp only at hw
      split at hw
      · rw [f1_plain hx rfl]
        exact hgo _ _ _ _ _ _ hL (okS_c (by trivial) (okS_t (okS_t hS))) hbc' hbs' hw
      · exact hw.elim
    case ishr =>
      dsimp only at hw
      split at hw
      · rw [f1_plain hx rfl]
        exact hgo _ _ _ _ _ _ hL (okS_c (by trivial) (okS_t (okS_t hS))) hbc' hbs' hw
      · exact hw.elim
    case iushr =>
      dsimp only at hw
      split at hw
      · rw [f1_plain hx rfl]
        exact hgo _ _ _ _ _ _ hL (okS_c (by trivial) (okS_t (okS_t hS))) hbc' hbs' hw
      · exact hw.elim
    case ladd =>
      dsimp only at hw
      split at hw
      · rw [f1_plain hx rfl]
        exact hgo _ _ _ _ _ _ hL (okS_c (by trivial) (okS_t (okS_t hS))) hbc' hbs' hw
      · exact hw.elim
    case lsub =>
      dsimp only at hw
      split at hw
      · rw [f1_plain hx rfl]
        exact hgo _ _ _ _ _ _ hL (okS_c (by trivial) (okS_t (okS_t hS))) hbc' hbs' hw
      · exact hw.elim
    case lmul =>
      dsimp only at hw
      split at hw
      · rw [f1_plain hx rfl]
        exact hgo _ _ _ _ _ _ hL (okS_c (by trivial) (okS_t (okS_t hS))) hbc' hbs' hw
      · exact hw.elim
    case lor =>
      dsimp only at hw
      split at hw
      · rw [f1_plain hx rfl]
        exact hgo _ _ _ _ _ _ hL (okS_c (by trivial) (okS_t (okS_t hS))) hbc' hbs' hw
      · exact hw.elim
    case lshl =>
      dsimp only at hw
      split at hw
      · rw [f1_plain hx rfl]
        exact hgo _ _ _ _ _ _ hL (okS_c (by trivial) (okS_t (okS_t hS))) hbc' hbs' hw
      · exact hw.elim
    case lcmp =>
      dsimp only at hw
      split at hw
      · rw [f1_plain hx rfl]
        exact hgo _ _ _ _ _ _ hL (okS_c (by trivial) (okS_t (okS_t hS))) hbc' hbs' hw
      · exact hw.elim
    case lneg =>
      dsimp only at hw
      split at hw
      · rw [f1_plain hx rfl]
        exact hgo _ _ _ _ _ _ hL (okS_c (by trivial) (okS_t hS)) hbc' hbs' hw
      · exact hw.elim
    case i2l =>
      dsimp only at hw
      split at hw
      · rw [f1_plain hx rfl]
        exact hgo _ _ _ _ _ _ hL (okS_c (by trivial) (okS_t hS)) hbc' hbs' hw
      · exact hw.elim
    case l2i =>
      dsimp only at hw
      split at hw
      · rw [f1_plain hx rfl]
        exact hgo _ _ _ _ _ _ hL (okS_c (by trivial) (okS_t hS)) hbc' hbs' hw
      · exact hw.elim
    case idiv =>
      dsimp only at hw
      split at hw
      · rename_i y x R
        obtain ⟨h0, hw⟩ := hw
        have e : a_pure .idiv z ((vI y :: vI x :: R).map enc) = some (.int (x / y) :: R.map enc) := by
          show (if y = 0 then none else some _) = _
          rw [if_neg h0]
        rw [f1_plain hx rfl]
        simp only [a_ret, e]
        exact hgo _ _ _ _ _ _ hL (okS_c (by trivial) (okS_t (okS_t hS))) hbc' hbs' hw
      · exact hw.elim
    case irem =>
      dsimp only at hw
      split at hw
      · rename_i y x R
        obtain ⟨h0, hw⟩ := hw
        have e : a_pure .irem z ((vI y :: vI x :: R).map enc) = some (.int (x - x / y * y) :: R.map enc) := by
          show (if y = 0 then none else some _) = _
          rw [if_neg h0]
        rw [f1_plain hx rfl]
        simp only [a_ret, e]
        exact hgo _ _ _ _ _ _ hL (okS_c (by trivial) (okS_t (okS_t hS))) hbc' hbs' hw
      · exact hw.elim
    case ldiv =>
      dsimp only at hw
      split at hw
      · rename_i y x R
        obtain ⟨h0, hw⟩ := hw
        have e : a_pure .ldiv z ((vL y :: vL x :: R).map enc) = some (.long (x / y) :: R.map enc) := by
          show (if y = 0 then none else some _) = _
          rw [if_neg h0]
        rw [f1_plain hx rfl]
        simp only [a_ret, e]
        exact hgo _ _ _ _ _ _ hL (okS_c (by trivial) (okS_t (okS_t hS))) hbc' hbs' hw
      · exact hw.elim
    case lrem =>
      dsimp only at hw
      split at hw
      · rename_i y x R
        obtain ⟨h0, hw⟩ := hw
        have e : a_pure .lrem z ((vL y :: vL x :: R).map enc) = some (.long (x - x / y * y) :: R.map enc) := by
          show (if y = 0 then none else some _) = _
          rw [if_neg h0]
        rw [f1_plain hx rfl]
        simp only [a_ret, e]
        exact hgo _ _ _ _ _ _ hL (okS_c (by trivial) (okS_t (okS_t hS))) hbc' hbs' hw
      · exact hw.elim
    case dup =>
      dsimp only at hw
      split at hw
      · rw [f1_plain hx rfl]
        exact hgo _ _ _ _ _ _ hL (okS_c (by trivial) (okS_c (by trivial) (okS_t hS))) hbc' hbs' hw
      · rw [f1_plain hx rfl]
        exact hgo _ _ _ _ _ _ hL (okS_c (okS_h hS) hS) hbc' hbs' hw
      · exact hw.elim
    case pop =>
      dsimp only at hw
      split at hw
      · rw [f1_plain hx rfl]
        exact hgo _ _ _ _ _ _ hL (okS_t hS) hbc' hbs' hw
      · rw [f1_plain hx rfl]
        exact hgo _ _ _ _ _ _ hL (okS_t hS) hbc' hbs' hw
      · exact hw.elim
    case dup2 =>
      dsimp only at hw
      split at hw
      · rename_i x v R
        have e : a_pure .dup2 z ((vL x :: v :: R).map enc) = some ((vL x :: vL x :: v :: R).map enc) := rfl
        rw [f1_plain hx rfl]
        simp only [a_ret, e]
        exact hgo _ _ _ _ _ _ hL (okS_c (by trivial) hS) hbc' hbs' hw
      · rw [f1_plain hx rfl]
        exact hgo _ _ _ _ _ _ hL (okS_c (by trivial) (okS_c (okS_h (okS_t hS)) hS)) hbc' hbs' hw
      · exact hw.elim
    case iload k9 =>
      dsimp only at hw
      split at hw
      · rename_i x e
        have e2 : a_load (.iload k9) (mapL L) = some (enc (vI x)) := by simp only [a_load, l_get_map, e]; rfl
        rw [f1_plain hx rfl]
        simp only [a_ret, a_pure, e2]
        exact hgo _ _ _ _ _ _ hL (okS_c (by trivial) hS) hbc' hbs' hw
      · exact hw.elim
    case iload_n k9 =>
      dsimp only at hw
      split at hw
      · rename_i x e
        have e2 : a_load (.iload_n k9) (mapL L) = some (enc (vI x)) := by simp only [a_load, l_get_map, e]; rfl
        rw [f1_plain hx rfl]
        simp only [a_ret, a_pure, e2]
        exact hgo _ _ _ _ _ _ hL (okS_c (by trivial) hS) hbc' hbs' hw
      · exact hw.elim
    case lload k9 =>
      dsimp only at hw
      split at hw
      · rename_i x e
        have e2 : a_load (.lload k9) (mapL L) = some (enc (vL x)) := by simp only [a_load, l_get_map, e]; rfl
        rw [f1_plain hx rfl]
        simp only [a_ret, a_pure, e2]
        exact hgo _ _ _ _ _ _ hL (okS_c (by trivial) hS) hbc' hbs' hw
      · exact hw.elim
    case lload_n k9 =>
      dsimp only at hw
      split at hw
      · rename_i x e
        have e2 : a_load (.lload_n k9) (mapL L) = some (enc (vL x)) := by simp only [a_load, l_get_map, e]; rfl
        rw [f1_plain hx rfl]
        simp only [a_ret, a_pure, e2]
        exact hgo _ _ _ _ _ _ hL (okS_c (by trivial) hS) hbc' hbs' hw
      · exact hw.elim
    case aload k9 =>
      dsimp only at hw
      split at hw
      · rename_i t q e
        have e2 : a_load (.aload k9) (mapL L) = some (enc (vR t q)) := by simp only [a_load, l_get_map, e]; rfl
        rw [f1_plain hx rfl]
        simp only [a_ret, a_pure, e2]
        exact hgo _ _ _ _ _ _ hL (okS_c (okL_get hL e) hS) hbc' hbs' hw
      · exact hw.elim
    case aload_n k9 =>
      dsimp only at hw
      split at hw
      · rename_i t q e
        have e2 : a_load (.aload_n k9) (mapL L) = some (enc (vR t q)) := by simp only [a_load, l_get_map, e]; rfl
        rw [f1_plain hx rfl]
        simp only [a_ret, a_pure, e2]
        exact hgo _ _ _ _ _ _ hL (okS_c (okL_get hL e) hS) hbc' hbs' hw
      · exact hw.elim
    case istore k9 =>
      dsimp only at hw
      split at hw
      · rename_i x R
        obtain ⟨hk, hw⟩ := b_if_spec hw
        rw [decide_eq_true_eq] at hk
        have e2 : a_store (.istore k9) (mapL L) ((vI x :: R).map enc) = some (mapL (l_set1 L k9 (vI x)), R.map enc) := by
          rw [l_set1_map]
          simp only [a_store, List.map_cons, enc, mapL_len]
          rw [if_pos hk]
        rw [f1_plain hx rfl]
        simp only [a_ret, a_pure, a_load, e2]
        exact hgo _ _ _ _ _ _ (okL_set1 hL (by trivial)) (okS_t hS) hbc' hbs' hw
      · exact hw.elim
    case istore_n k9 =>
      dsimp only at hw
      split at hw
      · rename_i x R
        obtain ⟨hk, hw⟩ := b_if_spec hw
        rw [decide_eq_true_eq] at hk
        have e2 : a_store (.istore_n k9) (mapL L) ((vI x :: R).map enc) = some (mapL (l_set1 L k9 (vI x)), R.map enc) := by
          rw [l_set1_map]
          simp only [a_store, List.map_cons, enc, mapL_len]
          rw [if_pos hk]
        rw [f1_plain hx rfl]
        simp only [a_ret, a_pure, a_load, e2]
        exact hgo _ _ _ _ _ _ (okL_set1 hL (by trivial)) (okS_t hS) hbc' hbs' hw
      · exact hw.elim
    case lstore k9 =>
      dsimp only at hw
      split at hw
      · rename_i x R
        obtain ⟨hk, hw⟩ := b_if_spec hw
        rw [decide_eq_true_eq] at hk
        have e2 : a_store (.lstore k9) (mapL L) ((vL x :: R).map enc) = some (mapL (l_set2 L k9 (vL x)), R.map enc) := by
          rw [l_set2_map]
          simp only [a_store, List.map_cons, enc, mapL_len]
          rw [if_pos hk]
        rw [f1_plain hx rfl]
        simp only [a_ret, a_pure, a_load, e2]
        exact hgo _ _ _ _ _ _ (okL_set2 hL (by trivial)) (okS_t hS) hbc' hbs' hw
      · exact hw.elim
    case lstore_n k9 =>
      dsimp only at hw
      split at hw
      · rename_i x R
        obtain ⟨hk, hw⟩ := b_if_spec hw
        rw [decide_eq_true_eq] at hk
        have e2 : a_store (.lstore_n k9) (mapL L) ((vL x :: R).map enc) = some (mapL (l_set2 L k9 (vL x)), R.map enc) := by
          rw [l_set2_map]
          simp only [a_store, List.map_cons, enc, mapL_len]
          rw [if_pos hk]
        rw [f1_plain hx rfl]
        simp only [a_ret, a_pure, a_load, e2]
        exact hgo _ _ _ _ _ _ (okL_set2 hL (by trivial)) (okS_t hS) hbc' hbs' hw
      · exact hw.elim
    case astore k9 =>
      dsimp only at hw
      split at hw
      · rename_i t q R
        obtain ⟨hk, hw⟩ := b_if_spec hw
        rw [decide_eq_true_eq] at hk
        have e2 : a_store (.astore k9) (mapL L) ((vR t q :: R).map enc) = some (mapL (l_set1 L k9 (vR t q)), R.map enc) := by
          rw [l_set1_map]
          simp only [a_store, List.map_cons, enc, mapL_len]
          rw [if_pos hk]
        rw [f1_plain hx rfl]
        simp only [a_ret, a_pure, a_load, e2]
        exact hgo _ _ _ _ _ _ (okL_set1 hL (okS_h hS)) (okS_t hS) hbc' hbs' hw
      · exact hw.elim
    case astore_n k9 =>
      dsimp only at hw
      split at hw
      · rename_i t q R
        obtain ⟨hk, hw⟩ := b_if_spec hw
        rw [decide_eq_true_eq] at hk
        have e2 : a_store (.astore_n k9) (mapL L) ((vR t q :: R).map enc) = some (mapL (l_set1 L k9 (vR t q)), R.map enc) := by
          rw [l_set1_map]
          simp only [a_store, List.map_cons, enc, mapL_len]
          rw [if_pos hk]
        rw [f1_plain hx rfl]
        simp only [a_ret, a_pure, a_load, e2]
        exact hgo _ _ _ _ _ _ (okL_set1 hL (okS_h hS)) (okS_t hS) hbc' hbs' hw
      · exact hw.elim
    case iinc k9 n9 =>
      dsimp only at hw
      split at hw
      · rename_i x e
        obtain ⟨hk, hw⟩ := b_if_spec hw
        rw [decide_eq_true_eq] at hk
        have e2 : a_store (.iinc k9 n9) (mapL L) (S.map enc) = some (mapL (l_set1 L k9 (vI (x + Int32.ofInt n9))), S.map enc) := by
          rw [l_set1_map]
          simp only [a_store, l_get_map, e, Option.map_some, enc, mapL_len]
          rw [if_pos hk]
        rw [f1_plain hx rfl]
        simp only [a_ret, a_pure, a_load, e2]
        exact hgo _ _ _ _ _ _ (okL_set1 hL (by trivial)) hS hbc' hbs' hw
      · exact hw.elim
    case goto o9 =>
      dsimp only at hw
      rw [f1_plain hx rfl]
      exact hgo _ _ _ _ _ _ hL hS hbc' hbs' hw
    case ifCond cd o9 =>
      cases cd <;> dsimp only at hw
      case eq =>
        split at hw
        · rename_i x R
          rw [f1_plain hx rfl]
          show X (if (decide (x = 0)) = true then a else i + 1) (mapL L) (R.map enc) (toH m) bc bs
          by_cases h9 : x = 0
          · rw [if_pos (decide_eq_true h9)]; exact hgo _ _ _ _ _ _ hL (okS_t hS) hbc' hbs' (hw.1 h9)
          · rw [if_neg (by rw [decide_eq_true_eq]; exact h9)]; exact hgo _ _ _ _ _ _ hL (okS_t hS) hbc' hbs' (hw.2 h9)
        · exact hw.elim
      case ne =>
        split at hw
        · rename_i x R
          rw [f1_plain hx rfl]
          show X (if (!decide (x = 0)) = true then a else i + 1) (mapL L) (R.map enc) (toH m) bc bs
          by_cases h9 : x = 0
          · rw [if_neg (by simp [h9])]; exact hgo _ _ _ _ _ _ hL (okS_t hS) hbc' hbs' (hw.2 h9)
          · rw [if_pos (by simp [h9])]; exact hgo _ _ _ _ _ _ hL (okS_t hS) hbc' hbs' (hw.1 h9)
        · exact hw.elim
      case lt =>
        split at hw
        · rename_i x R
          rw [f1_plain hx rfl]
          show X (if (decide (x < 0)) = true then a else i + 1) (mapL L) (R.map enc) (toH m) bc bs
          by_cases h9 : x < 0
          · rw [if_pos (decide_eq_true h9)]; exact hgo _ _ _ _ _ _ hL (okS_t hS) hbc' hbs' (hw.1 h9)
          · rw [if_neg (by rw [decide_eq_true_eq]; exact h9)]; exact hgo _ _ _ _ _ _ hL (okS_t hS) hbc' hbs' (hw.2 h9)
        · exact hw.elim
      case ge =>
        split at hw
        · rename_i x R
          rw [f1_plain hx rfl]
          show X (if (decide (0 ≤ x)) = true then a else i + 1) (mapL L) (R.map enc) (toH m) bc bs
          by_cases h9 : 0 ≤ x
          · rw [if_pos (decide_eq_true h9)]; exact hgo _ _ _ _ _ _ hL (okS_t hS) hbc' hbs' (hw.1 h9)
          · rw [if_neg (by rw [decide_eq_true_eq]; exact h9)]; exact hgo _ _ _ _ _ _ hL (okS_t hS) hbc' hbs' (hw.2 h9)
        · exact hw.elim
      case gt =>
        split at hw
        · rename_i x R
          rw [f1_plain hx rfl]
          show X (if (decide (0 < x)) = true then a else i + 1) (mapL L) (R.map enc) (toH m) bc bs
          by_cases h9 : 0 < x
          · rw [if_pos (decide_eq_true h9)]; exact hgo _ _ _ _ _ _ hL (okS_t hS) hbc' hbs' (hw.1 h9)
          · rw [if_neg (by rw [decide_eq_true_eq]; exact h9)]; exact hgo _ _ _ _ _ _ hL (okS_t hS) hbc' hbs' (hw.2 h9)
        · exact hw.elim
      case le =>
        split at hw
        · rename_i x R
          rw [f1_plain hx rfl]
          show X (if (decide (x ≤ 0)) = true then a else i + 1) (mapL L) (R.map enc) (toH m) bc bs
          by_cases h9 : x ≤ 0
          · rw [if_pos (decide_eq_true h9)]; exact hgo _ _ _ _ _ _ hL (okS_t hS) hbc' hbs' (hw.1 h9)
          · rw [if_neg (by rw [decide_eq_true_eq]; exact h9)]; exact hgo _ _ _ _ _ _ hL (okS_t hS) hbc' hbs' (hw.2 h9)
        · exact hw.elim
    case if_icmp cd o9 =>
      cases cd <;> dsimp only at hw
      case eq =>
        split at hw
        · rename_i y x R
          rw [f1_plain hx rfl]
          show X (if (decide (x = y)) = true then a else i + 1) (mapL L) (R.map enc) (toH m) bc bs
          by_cases h9 : x = y
          · rw [if_pos (decide_eq_true h9)]; exact hgo _ _ _ _ _ _ hL (okS_t (okS_t hS)) hbc' hbs' (hw.1 h9)
          · rw [if_neg (by rw [decide_eq_true_eq]; exact h9)]; exact hgo _ _ _ _ _ _ hL (okS_t (okS_t hS)) hbc' hbs' (hw.2 h9)
        · exact hw.elim
      case ne =>
        split at hw
        · rename_i y x R
          rw [f1_plain hx rfl]
          show X (if (!decide (x = y)) = true then a else i + 1) (mapL L) (R.map enc) (toH m) bc bs
          by_cases h9 : x = y
          · rw [if_neg (by simp [h9])]; exact hgo _ _ _ _ _ _ hL (okS_t (okS_t hS)) hbc' hbs' (hw.2 h9)
          · rw [if_pos (by simp [h9])]; exact hgo _ _ _ _ _ _ hL (okS_t (okS_t hS)) hbc' hbs' (hw.1 h9)
        · exact hw.elim
      case lt =>
        split at hw
        · rename_i y x R
          rw [f1_plain hx rfl]
          show X (if (decide (x < y)) = true then a else i + 1) (mapL L) (R.map enc) (toH m) bc bs
          by_cases h9 : x < y
          · rw [if_pos (decide_eq_true h9)]; exact hgo _ _ _ _ _ _ hL (okS_t (okS_t hS)) hbc' hbs' (hw.1 h9)
          · rw [if_neg (by rw [decide_eq_true_eq]; exact h9)]; exact hgo _ _ _ _ _ _ hL (okS_t (okS_t hS)) hbc' hbs' (hw.2 h9)
        · exact hw.elim
      case ge =>
        split at hw
        · rename_i y x R
          rw [f1_plain hx rfl]
          show X (if (decide (y ≤ x)) = true then a else i + 1) (mapL L) (R.map enc) (toH m) bc bs
          by_cases h9 : y ≤ x
          · rw [if_pos (decide_eq_true h9)]; exact hgo _ _ _ _ _ _ hL (okS_t (okS_t hS)) hbc' hbs' (hw.1 h9)
          · rw [if_neg (by rw [decide_eq_true_eq]; exact h9)]; exact hgo _ _ _ _ _ _ hL (okS_t (okS_t hS)) hbc' hbs' (hw.2 h9)
        · exact hw.elim
      case gt =>
        split at hw
        · rename_i y x R
          rw [f1_plain hx rfl]
          show X (if (decide (y < x)) = true then a else i + 1) (mapL L) (R.map enc) (toH m) bc bs
          by_cases h9 : y < x
          · rw [if_pos (decide_eq_true h9)]; exact hgo _ _ _ _ _ _ hL (okS_t (okS_t hS)) hbc' hbs' (hw.1 h9)
          · rw [if_neg (by rw [decide_eq_true_eq]; exact h9)]; exact hgo _ _ _ _ _ _ hL (okS_t (okS_t hS)) hbc' hbs' (hw.2 h9)
        · exact hw.elim
      case le =>
        split at hw
        · rename_i y x R
          rw [f1_plain hx rfl]
          show X (if (decide (x ≤ y)) = true then a else i + 1) (mapL L) (R.map enc) (toH m) bc bs
          by_cases h9 : x ≤ y
          · rw [if_pos (decide_eq_true h9)]; exact hgo _ _ _ _ _ _ hL (okS_t (okS_t hS)) hbc' hbs' (hw.1 h9)
          · rw [if_neg (by rw [decide_eq_true_eq]; exact h9)]; exact hgo _ _ _ _ _ _ hL (okS_t (okS_t hS)) hbc' hbs' (hw.2 h9)
        · exact hw.elim
    case tableswitch d9 lo9 hi9 offs =>
      dsimp only at hw
      split at hw
      · rename_i x R
        split at hw
        · rename_i d r
          obtain ⟨hk, h1, h2⟩ := b_if_spec hw
          rw [decide_eq_true_eq] at hk
          rw [(f1_call hx).2.2.2 _ _ _ _ rfl]
          show (match a_sw lo9 hi9 (d :: r) x with | some j => X j (mapL L) (R.map enc) (toH m) bc bs | none => False)
          unfold a_sw
          by_cases h9 : x.toInt < lo9 ∨ hi9 < x.toInt
          · rw [if_pos h9]
            exact hgo _ _ _ _ _ _ hL (okS_t hS) hbc' hbs' (h1 h9)
          · rw [if_neg h9, List.getElem?_cons_succ]
            have hlt : (x.toInt - lo9).toNat < r.length := by omega
            rw [List.getElem?_eq_getElem hlt]
            exact hgo _ _ _ _ _ _ hL (okS_t hS) hbc' hbs' (sws_spec (k := (x.toInt - lo9).toNat) h2 (List.getElem?_eq_getElem hlt) (by omega))
        · exact hw.elim
      · exact hw.elim
    case getfield idx =>
      dsimp only at hw
      split at hw
      · rename_i t q R
        obtain ⟨hk, hw⟩ := b_if_spec hw
        simp only [Bool.and_eq_true, decide_eq_true_eq] at hk
        obtain ⟨⟨k0, k1⟩, k2⟩ := hk
        have h99 := g_ne99 k0 (by decide)
        have hq := okV_lt (okS_h hS) h99
        subst k1
        have e2 : a_read xs (.getfield idx, pc, len, g_cls t, b, z, tg) ((vR t q :: R).map enc) (toH m) = some (fval m t q (g_cls t) b :: R.map enc) := by
          simp only [a_read, List.map_cons, enc_ref h99, toH_at hq, g_cell0 k0]
          simp [k2]
        rw [f1_plain hx rfl]
        simp only [a_ret, a_pure, a_load, a_store, a_br, e2]
        split at hw
        · rename_i e3
          rw [fval_long e3]
          exact hgo _ _ _ _ _ _ hL (okS_c (by trivial) (okS_t hS)) hbc' hbs' hw
        · rename_i e3
          rw [fval_ref e3]
          exact hgo _ _ _ _ _ _ hL (okS_c (show okV (vR _ _) from Or.inr (g_F3 k0 k2 e3 hq).1) (okS_t hS)) hbc' hbs' hw
        · rename_i n2 n3
          have e3 : g_fk (g_cls t) b = 0 ∨ g_fk (g_cls t) b = 1 := by
            unfold g_fk at n2 n3 ⊢
            split <;> simp_all
          rw [fval_int e3]
          exact hgo _ _ _ _ _ _ hL (okS_c (by trivial) (okS_t hS)) hbc' hbs' hw
      · exact hw.elim
    case putfield idx =>
      dsimp only at hw
      split at hw
      · rename_i v t q R
        obtain ⟨hk, hw⟩ := b_if_spec hw
        simp only [Bool.and_eq_true, decide_eq_true_eq] at hk
        obtain ⟨⟨k0, k1⟩, k2⟩ := hk
        have h99 := g_ne99 k0 (by decide)
        have hq := okV_lt (okS_h (okS_t hS)) h99
        subst k1
        have key : (g_fk (g_cls t) b = 0 ∨ g_fk (g_cls t) b = 1) → a_fit (a_ty (g_cls t) b) (.int v) = true → go (i + 1) L R (mI m t q b v) → F1 xs C1 MT tbl rt Q1 X i (mapL L) ((vI v :: vR t q :: R).map enc) (toH m) bc bs := by
          intro hfk hfit hw
          have e2 : a_write (.putfield idx, pc, len, g_cls t, b, z, tg) ((vI v :: vR t q :: R).map enc) (toH m) = some (R.map enc, toH (mI m t q b v)) := by
            rw [toH_put (v := .int v) (k := b) k0 hq k2 mI_ne (by rw [fval_int hfk, mI_at]; simp [upd]) (fun k' hk' => fval_ne (by rw [mI_at]; simp [upd, hk']) rfl)]
            simp only [a_write, List.map_cons, enc_ref h99, toH_at hq, g_cell0 k0]
            simp [k2, enc_i, hfit]
          rw [f1_plain hx rfl]
          simp only [a_ret, a_pure, a_load, a_store, a_br, a_read, e2]
          exact hgo _ _ _ _ _ _ hL (okS_t (okS_t hS)) hbc' hbs' hw
        split at hw
        · rename_i e3
          exact key (Or.inl e3) (fit_int e3) hw
        · rename_i e3
          exact key (Or.inr e3) (fit_bool e3 hw.1) hw.2
        · exact hw.elim
      · rename_i v t q R
        obtain ⟨hk, hw⟩ := b_if_spec hw
        simp only [Bool.and_eq_true, decide_eq_true_eq] at hk
        obtain ⟨⟨k0, k1⟩, k2⟩ := hk
        have h99 := g_ne99 k0 (by decide)
        have hq := okV_lt (okS_h (okS_t hS)) h99
        subst k1
        split at hw
        · rename_i e3
          have e2 : a_write (.putfield idx, pc, len, g_cls t, b, z, tg) ((vL v :: vR t q :: R).map enc) (toH m) = some (R.map enc, toH (mL m t q b v)) := by
            rw [toH_put (v := .long v) (k := b) k0 hq k2 mL_ne (by rw [fval_long e3, mL_at]; simp [vp_updL]) (fun k' hk' => fval_ne rfl (by rw [mL_at]; simp [vp_updL, hk']))]
            simp only [a_write, List.map_cons, enc_ref h99, toH_at hq, g_cell0 k0]
            simp [k2, enc_l, fit_long e3]
          rw [f1_plain hx rfl]
          simp only [a_ret, a_pure, a_load, a_store, a_br, a_read, e2]
          exact hgo _ _ _ _ _ _ hL (okS_t (okS_t hS)) hbc' hbs' hw
        · exact hw.elim
      · exact hw.elim
    case iaload =>
      dsimp only at hw
      split at hw
      · rename_i j t q R
        split at hw
        · rename_i h9
          rw [decide_eq_true_eq] at h9
          subst h9
          obtain ⟨hin, hw⟩ := hw
          have e2 : a_read xs (.iaload, pc, len, a, b, z, tg) ((vI j :: vR 99 q :: R).map enc) (toH m) = some (.int (xs.2 j.toNatClampNeg) :: R.map enc) := by
            have h : a_read xs (.iaload, pc, len, a, b, z, tg) ((vI j :: vR 99 q :: R).map enc) (toH m) = (if ¬ (j < 0 ∨ xs.1 ≤ j.toNatClampNeg) then some (.int (xs.2 j.toNatClampNeg) :: R.map enc) else none) := rfl
            rw [h, if_pos (show ¬ (j < 0 ∨ xs.1 ≤ j.toNatClampNeg) from hin)]
          rw [f1_plain hx rfl]
          simp only [a_ret, a_pure, a_load, a_store, a_br, e2]
          exact hgo _ _ _ _ _ _ hL (okS_c (by trivial) (okS_t (okS_t hS))) hbc' hbs' hw
        · obtain ⟨hk, hin, hw⟩ := b_if_spec hw
          rw [decide_eq_true_eq] at hk
          have h99 := g_ne99 hk (by decide)
          have hq := okV_lt (okS_h (okS_t hS)) h99
          have hat := (g_F1 hq).2
          have e2 : a_read xs (.iaload, pc, len, a, b, z, tg) ((vI j :: vR t q :: R).map enc) (toH m) = some (.int (m.1 t q j.toNatClampNeg) :: R.map enc) := by
            simp only [a_read, List.map_cons, enc_ref h99, toH_at hq, g_cell1 hk, enc_i, enc_l]
            rw [if_neg (show ¬ g_at t q = sCR by unfold sCR; omega)]
            rw [if_pos ⟨trivial, hin⟩]
          rw [f1_plain hx rfl]
          simp only [a_ret, a_pure, a_load, a_store, a_br, e2]
          exact hgo _ _ _ _ _ _ hL (okS_c (by trivial) (okS_t (okS_t hS))) hbc' hbs' hw
      · exact hw.elim
    case laload =>
      dsimp only at hw
      split at hw
      · rename_i j t q R
        obtain ⟨hk, hin, hw⟩ := b_if_spec hw
        rw [decide_eq_true_eq] at hk
        have h99 := g_ne99 hk (by decide)
        have hq := okV_lt (okS_h (okS_t hS)) h99
        have e2 : a_read xs (.laload, pc, len, a, b, z, tg) ((vI j :: vR t q :: R).map enc) (toH m) = some (.long (m.2 t q j.toNatClampNeg) :: R.map enc) := by
          simp only [a_read, List.map_cons, enc_ref h99, toH_at hq, g_cell2 hk, enc_i, enc_l]
          rw [if_pos ⟨trivial, hin⟩]
        rw [f1_plain hx rfl]
        simp only [a_ret, a_pure, a_load, a_store, a_br, e2]
        exact hgo _ _ _ _ _ _ hL (okS_c (by trivial) (okS_t (okS_t hS))) hbc' hbs' hw
      · exact hw.elim
    case aaload =>
      dsimp only at hw
      split at hw
      · rename_i j t q R
        obtain ⟨hk, hin, hw⟩ := b_if_spec hw
        rw [decide_eq_true_eq] at hk
        have h99 := g_ne99 hk (by decide)
        have hq := okV_lt (okS_h (okS_t hS)) h99
        have hlt : j.toNatClampNeg < g_len t := Nat.not_le.mp fun z => hin (Or.inr z)
        obtain ⟨f1, f2⟩ := g_F4 t (g_lt hq) hk
        obtain ⟨f3, f4⟩ := f2 q hq _ hlt
        have e2 : a_read xs (.aaload, pc, len, a, b, z, tg) ((vI j :: vR t q :: R).map enc) (toH m) = some (enc (vR (g_ra t q j.toNatClampNeg).1 (g_ra t q j.toNatClampNeg).2) :: R.map enc) := by
          simp only [a_read, List.map_cons, enc_ref h99, toH_at hq, g_cell3 hk, enc_ref f4, enc_i]
          rw [if_pos ⟨f1, hin⟩, if_pos hlt]
        rw [f1_plain hx rfl]
        simp only [a_ret, a_pure, a_load, a_store, a_br, e2]
        exact hgo _ _ _ _ _ _ hL (okS_c (show okV (vR _ _) from Or.inr f3) (okS_t (okS_t hS))) hbc' hbs' hw
      · exact hw.elim
    case iastore =>
      dsimp only at hw
      split at hw
      · rename_i v j t q R
        obtain ⟨hk, hin, hw⟩ := b_if_spec hw
        rw [decide_eq_true_eq] at hk
        have h99 := g_ne99 hk (by decide)
        have hq := okV_lt (okS_h (okS_t (okS_t hS))) h99
        have e2 : a_write (.iastore, pc, len, a, b, z, tg) ((vI v :: vI j :: vR t q :: R).map enc) (toH m) = some (R.map enc, toH (mI m t q j.toNatClampNeg v)) := by
          rw [toH_set hq mI_ne, g_cell1 hk, mI_at]
          simp only [a_write, List.map_cons, enc_ref h99, toH_at hq, g_cell1 hk, enc_i, enc_l]
          rw [if_pos ⟨trivial, hin⟩]
        rw [f1_plain hx rfl]
        simp only [a_ret, a_pure, a_load, a_store, a_br, a_read, e2]
        exact hgo _ _ _ _ _ _ hL (okS_t (okS_t (okS_t hS))) hbc' hbs' hw
      · exact hw.elim
    case lastore =>
      dsimp only at hw
      split at hw
      · rename_i v j t q R
        obtain ⟨hk, hin, hw⟩ := b_if_spec hw
        rw [decide_eq_true_eq] at hk
        have h99 := g_ne99 hk (by decide)
        have hq := okV_lt (okS_h (okS_t (okS_t hS))) h99
        have e2 : a_write (.lastore, pc, len, a, b, z, tg) ((vL v :: vI j :: vR t q :: R).map enc) (toH m) = some (R.map enc, toH (mL m t q j.toNatClampNeg v)) := by
          rw [toH_set hq mL_ne, g_cell2 hk, mL_at]
          simp only [a_write, List.map_cons, enc_ref h99, toH_at hq, g_cell2 hk, enc_i, enc_l]
          rw [if_pos ⟨trivial, hin⟩]
        rw [f1_plain hx rfl]
        simp only [a_ret, a_pure, a_load, a_store, a_br, a_read, e2]
        exact hgo _ _ _ _ _ _ hL (okS_t (okS_t (okS_t hS))) hbc' hbs' hw
      · exact hw.elim
    case arraylength =>
      dsimp only at hw
      split at hw
      · rename_i t q R
        split at hw
        · rename_i h9
          rw [decide_eq_true_eq] at h9
          subst h9
          have e2 : a_read xs (.arraylength, pc, len, a, b, z, tg) ((vR 99 q :: R).map enc) (toH m) = some (.int (Int32.ofNat xs.1) :: R.map enc) := rfl
          rw [f1_plain hx rfl]
          simp only [a_ret, a_pure, a_load, a_store, a_br, e2]
          exact hgo _ _ _ _ _ _ hL (okS_c (by trivial) (okS_t hS)) hbc' hbs' hw
        · obtain ⟨hk, hw⟩ := b_if_spec hw
          simp only [Bool.or_eq_true, decide_eq_true_eq] at hk
          have h99 : t ≠ 99 := hk.elim (fun z => g_ne99 z (by decide)) (fun z => g_ne99 z (by decide))
          have hq := okV_lt (okS_h hS) h99
          have hat := (g_F1 hq).2
          have e2 : a_read xs (.arraylength, pc, len, a, b, z, tg) ((vR t q :: R).map enc) (toH m) = some (.int (Int32.ofNat (g_len t)) :: R.map enc) := by
            simp only [a_read, List.map_cons, enc_ref h99]
            rw [if_neg (show ¬ g_at t q = sCR by unfold sCR; omega), toH_at hq]
            rcases hk with hk | hk
            · rw [g_cell1 hk]
            · rw [g_cell2 hk]
          rw [f1_plain hx rfl]
          simp only [a_ret, a_pure, a_load, a_store, a_br, e2]
          exact hgo _ _ _ _ _ _ hL (okS_c (by trivial) (okS_t hS)) hbc' hbs' hw
      · exact hw.elim
    case invokevirtual idx =>
      dsimp only at hw
      obtain ⟨hk, hw⟩ := b_if_spec hw
      simp only [Bool.and_eq_true, decide_eq_true_eq] at hk
      obtain ⟨⟨⟨k0, k1⟩, k2⟩, k3⟩ := hk
      have hoA : okS (S.take b).reverse := fun v hv => hS v (List.mem_of_mem_take (List.mem_reverse.mp hv))
      have hoR : okS (S.drop b) := fun v hv => hS v (List.mem_of_mem_drop hv)
      obtain ⟨M, m1, m2, m3, m4⟩ := hC _ _ _ _ hoA hw
      have eA : ((S.map enc).take b).reverse = (S.take b).reverse.map enc := by rw [← List.map_take, List.map_reverse]
      rw [(f1_call hx).1 _ rfl]
      dsimp only
      rw [eA, ← List.map_drop, List.length_map]
      refine ⟨?_, by rw [c_words_eq]; exact k1, k0, M, m1, by omega, by omega, hmC _ _ _ _ _ (aft M _ _ m2 m3 hoR) m4⟩
      split at k3
      · rename_i t q As e
        simp only [Bool.and_eq_true, decide_eq_true_eq] at k3
        rw [e] at hoA ⊢
        have h99 := g_ne99 k3.1 (by decide)
        have hq := okV_lt (okS_h hoA) h99
        simp only [a_rcv, List.map_cons, enc_ref h99, toH_at hq, g_cell0 k3.1]
        exact decide_eq_true k3.2
      · cases k3
    case invokestatic idx =>
      dsimp only at hw
      split at hw
      · rename_i h9
        rw [decide_eq_true_eq] at h9
        subst h9
        split at hw
        · rename_i n8 dp t2 i2 sp t q R
          obtain ⟨hk, hw⟩ := b_if_spec hw
          rw [decide_eq_true_eq] at hk
          rw [(f1_call hx).2.1 _ rfl]
          dsimp only
          rw [if_pos rfl]
          have hq2 : okV (vR t2 i2) := okS_h (okS_t (okS_t hS))
          have hq1 : okV (vR t q) := okS_h (okS_t (okS_t (okS_t (okS_t hS))))
          have hoR : okS R := okS_t (okS_t (okS_t (okS_t (okS_t hS))))
          unfold b_copy at hw
          split at hw
          · rename_i c1 c2
            obtain ⟨⟨u1, u2, u3, u4, u5⟩, hw⟩ := hw
            have g1 := okV_lt hq1 (g_ne99 c1 (by decide))
            have g2 := okV_lt hq2 (g_ne99 c2 (by decide))
            refine ⟨R.map enc, _, ?_, by rw [c_words_eq]; exact hk, hgo _ _ _ _ _ _ hL hoR hbc' hbs' hw⟩
            have eH : toH ((fun a b => if a = t2 ∧ b = i2 then va_cpy (m.1 t q) (m.1 t2 i2) sp.toNatClampNeg dp.toNatClampNeg n8.toNatClampNeg else m.1 a b, m.2) : Mem) = _ := toH_set (m := m) g2 (fun t' i' h9 => ⟨if_neg h9, rfl⟩)
            rw [eH, g_cell1 c2]
            simp only [a_copy, List.map_cons, enc_ref (g_ne99 c1 (by decide)), enc_ref (g_ne99 c2 (by decide)), toH_at g1, toH_at g2, g_cell1 c1, g_cell1 c2, enc_i]
            rw [if_pos ⟨trivial, trivial, u1, u2, u3, u4, u5⟩]
            simp
          · rename_i c1 c2
            obtain ⟨⟨u1, u2, u3, u4, u5⟩, hw⟩ := hw
            have g1 := okV_lt hq1 (g_ne99 c1 (by decide))
            have g2 := okV_lt hq2 (g_ne99 c2 (by decide))
            refine ⟨R.map enc, _, ?_, by rw [c_words_eq]; exact hk, hgo _ _ _ _ _ _ hL hoR hbc' hbs' hw⟩
            have eH : toH ((m.1, fun a b => if a = t2 ∧ b = i2 then va_cpy (m.2 t q) (m.2 t2 i2) sp.toNatClampNeg dp.toNatClampNeg n8.toNatClampNeg else m.2 a b) : Mem) = _ := toH_set (m := m) g2 (fun t' i' h9 => ⟨rfl, if_neg h9⟩)
            rw [eH, g_cell2 c2]
            simp only [a_copy, List.map_cons, enc_ref (g_ne99 c1 (by decide)), enc_ref (g_ne99 c2 (by decide)), toH_at g1, toH_at g2, g_cell2 c1, g_cell2 c2, enc_i]
            rw [if_pos ⟨trivial, trivial, u1, u2, u3, u4, u5⟩]
            simp
          · exact hw.elim
        · exact hw.elim
      · rename_i h9
        rw [decide_eq_false_iff_not] at h9
        obtain ⟨hk, hw⟩ := b_if_spec hw
        simp only [Bool.and_eq_true, decide_eq_true_eq] at hk
        obtain ⟨k0, k1⟩ := hk
        have hoA : okS (S.take b).reverse := fun v hv => hS v (List.mem_of_mem_take (List.mem_reverse.mp hv))
        have hoR : okS (S.drop b) := fun v hv => hS v (List.mem_of_mem_drop hv)
        obtain ⟨M, m1, m2, m3, m4⟩ := hC _ _ _ _ hoA hw
        have eA : ((S.map enc).take b).reverse = (S.take b).reverse.map enc := by rw [← List.map_take, List.map_reverse]
        rw [(f1_call hx).2.1 _ rfl]
        dsimp only
        rw [if_neg h9, eA, ← List.map_drop, List.length_map]
        exact ⟨by rw [c_words_eq]; exact k1, k0, M, m1, by omega, by omega, hmC _ _ _ _ _ (aft M _ _ m2 m3 hoR) m4⟩
    case ireturn =>
      dsimp only at hw
      split at hw
      · rename_i v
        split at hw
        · have e : a_ret .ireturn (some .int) ([vI v].map enc) = some (some (.int v)) := by
            have h : a_ret .ireturn (some .int) ([vI v].map enc) = (if narrow .int (.int v) = .int v then some (some (.int v)) else none) := rfl
            rw [h, if_pos (show narrow .int (.int v) = .int v from rfl)]
          rw [f1_plain hx rfl]
          simp only [e]
          exact hQ _ _ (fun w q => by cases q; trivial) hw
        · have e : a_ret .ireturn (some .boolean) ([vI v].map enc) = some (some (.int v)) := by
            have h : a_ret .ireturn (some .boolean) ([vI v].map enc) = (if narrow .boolean (.int v) = .int v then some (some (.int v)) else none) := rfl
            rw [h, if_pos (narrow_b hw.1)]
          rw [f1_plain hx rfl]
          simp only [e]
          exact hQ _ _ (fun w q => by cases q; trivial) hw.2
        · exact hw.elim
      · exact hw.elim
    case lreturn =>
      dsimp only at hw
      split at hw
      · split at hw
        · rw [f1_plain hx rfl]
          exact hQ _ _ (fun w q => by cases q; trivial) hw
        · exact hw.elim
      · exact hw.elim
    case areturn =>
      dsimp only at hw
      split at hw
      · split at hw
        · rw [f1_plain hx rfl]
          exact hQ _ _ (fun w q => by cases q; exact okS_h hS) hw
        · exact hw.elim
      · exact hw.elim
    case return_ =>
      dsimp only at hw
      split at hw
      · split at hw
        · rw [f1_plain hx rfl]
          exact hQ _ _ hok0 hw
        · exact hw.elim
      · exact hw.elim
theorem w21F {cuts : List Nat} {K : Nat → L2 → List v2 → Mem → Prop}
    (hC : ∀ (j : Nat) args m Q, okS args → C2 j args m Q → ∃ M, MT[j]? = some M ∧ M.2.2.2.2.2.1.1 ≤ 0 ∧ M.2.2.2.2.2.1.2 ≤ 0 ∧ C1 j (args.map enc) (toH m) (fun r h => ∃ r2 m2, r = r2.map enc ∧ h = toH m2 ∧ (∀ v, r2 = some v → okV v) ∧ Q r2 m2))
    (hmC : ∀ j a h Q Q', (∀ r h', Q r h' → Q' r h') → C1 j a h Q → C1 j a h Q')
    (hQ : ∀ r m, (∀ v, r = some v → okV v) → Q2 r m → Q1 (r.map enc) (toH m))
    (hK : ∀ i L S m bc bs, okL L → okS S → K i L S m → W1 xs C1 MT tbl rt Q1 i (mapL L) (S.map enc) (toH m) bc bs) :
    ∀ (k i : Nat) (L : L2) (S : List v2) (m : Mem) (bc bs : Nat), okL L → okS S → wp2i xs C2 tbl cuts rt Q2 K k i L S m → W1 xs C1 MT tbl rt Q1 i (mapL L) (S.map enc) (toH m) bc bs := by
  intro k
  induction k with
  | zero => intro i L S m bc bs _ _ hw; exact hw.elim
  | succ k ih =>
    intro i L S m bc bs hL hS hw
    unfold wp2i at hw
    split at hw
    · exact hw.elim
    rename_i x hx
    refine W1_fold hmC (st21F (lo := 0) (ls := 0) (cc := 0) (cs := 0) hC hmC hQ (fun j L S m bc bs a1 a2 a3 a4 h => ?_) hx hL hS (Nat.zero_le _) (Nat.zero_le _) hw)
    split at h
    · exact hK j L S m bc bs a1 a2 h
    · exact ih j L S m bc bs a1 a2 h
end W21F
def W2 (xs : Nat × (Nat → Int32)) (C : Nat → List v2 → Mem → (Option v2 → Mem → Prop) → Prop) (tbl : List xI) (cuts : List Nat) (rt : Option FieldType) (Q : Option v2 → Mem → Prop) (i : Nat) (L : L2) (S : List v2) (m : Mem) : Prop :=
  ∀ X : Nat → L2 → List v2 → Mem → Prop, (∀ i L S m, wp2i xs C tbl cuts rt Q X 2000 i L S m → X i L S m) → X i L S m
def callW2 (xs : Nat × (Nat → Int32)) : Nat → Nat → List v2 → Mem → (Option v2 → Mem → Prop) → Prop
  | 0, _, _, _, _ => False
  | d + 1, j, args, m, Q => ∃ M, MT[j]? = some M ∧ M.2.2.2.2.2.1 = (0, 0) ∧ args.length = M.2.2.2.2.1 ∧ (g_args args).length ≤ M.2.2.1 ∧ ∃ cuts, W2 xs (callW2 xs d) M.2.2.2.2.2.2 cuts M.2.2.2.1 Q 0 (g_locals M.2.2.1 args) [] m
theorem c21W {xs : Nat × (Nat → Int32)} {P : Nat → Nat → List Value → aH → (Option Value → aH → Prop) → Prop} (hP : ∀ d j a h Q Q', (∀ r h', Q r h' → Q' r h') → P d j a h Q → P d j a h Q') :
    ∀ (d j : Nat) (args : List v2) (m : Mem) (Q : Option v2 → Mem → Prop), okS args → callW2 xs d j args m Q → ∃ M, MT[j]? = some M ∧ M.2.2.2.2.2.1.1 ≤ 0 ∧ M.2.2.2.2.2.1.2 ≤ 0 ∧ callW xs MT P d j (args.map enc) (toH m) (fun r h => ∃ r2 m2, r = r2.map enc ∧ h = toH m2 ∧ (∀ v, r2 = some v → okV v) ∧ Q r2 m2) := by
  intro d
  induction d with
  | zero => intro j args m Q _ hc; exact hc.elim
  | succ d ih =>
    intro j args m Q ho hc
    obtain ⟨M, h1, h2, h3, h4, cuts, hw⟩ := hc
    refine ⟨M, h1, by rw [h2]; exact Nat.le_refl _, by rw [h2]; exact Nat.le_refl _, Or.inr ⟨M, h1, by rw [List.length_map]; exact h3, by rw [g_args_map, mapL_len]; exact h4, ?_⟩⟩
    rw [g_locals_map, h2]
    have key : ∀ (bc bs : Nat), okL (g_locals M.2.2.1 args) → okS ([] : List v2) → W1 xs (callW xs MT P d) MT M.2.2.2.2.2.2 M.2.2.2.1 (fun r h => ∃ r2 m2, r = r2.map enc ∧ h = toH m2 ∧ (∀ v, r2 = some v → okV v) ∧ Q r2 m2) 0 (mapL (g_locals M.2.2.1 args)) (([] : List v2).map enc) (toH m) bc bs := by
      refine hw (fun i L S m => ∀ (bc bs : Nat), okL L → okS S → W1 xs (callW xs MT P d) MT M.2.2.2.2.2.2 M.2.2.2.1 (fun r h => ∃ r2 m2, r = r2.map enc ∧ h = toH m2 ∧ (∀ v, r2 = some v → okV v) ∧ Q r2 m2) i (mapL L) (S.map enc) (toH m) bc bs) ?_
      intro i L S m hi bc bs hL hS
      exact w21F (C1 := callW xs MT P d) (fun j a m Q o c => ih j a m Q o c) (callW_mono hP d) (fun r m o q => ⟨r, m, rfl, rfl, o, q⟩) (fun i L S m bc bs a1 a2 h => h bc bs a1 a2) 2000 i L S m bc bs hL hS hi
    exact key 0 0 (okL_locals ho) (fun v hv => by cases hv)
end
