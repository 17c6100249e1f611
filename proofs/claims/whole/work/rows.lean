section
-- ===== PART A: goes FIRST, ahead of the names: the tables' words, and 'selects' of the private methods out of them =====
/-- a private method of a class that the tables say can be made, by its rows of tables_1 -/
def lw_okq (q : MethodName × Nat) : Prop := (q.1.cls ≠ "java/lang/invoke/MethodHandle" ∧ q.1.cls ≠ "java/lang/invoke/VarHandle") ∧ Cond.instantiable q.1.cls q.2 ∈ tables_1 ∧ Cond.privateMethod q.1 ∈ tables_1 ∧ Cond.instanceMethod q.1 ∈ tables_1
theorem lw_p0 : lw_okq (⟨"ChanceCourt", "refusalOf", "(LChanceCourt$Verdict;)I"⟩, 10) := ⟨⟨by decide +kernel, by decide +kernel⟩, List.mem_of_getElem? (i := 23) (by decide +kernel), List.mem_of_getElem? (i := 530) (by decide +kernel), List.mem_of_getElem? (i := 531) (by decide +kernel)⟩
theorem lw_p1 : lw_okq (⟨"ChanceCourt$Ways", "join", "(III)Z"⟩, 3) := ⟨⟨by decide +kernel, by decide +kernel⟩, List.mem_of_getElem? (i := 170) (by decide +kernel), List.mem_of_getElem? (i := 549) (by decide +kernel), List.mem_of_getElem? (i := 550) (by decide +kernel)⟩
theorem lw_p2 : lw_okq (⟨"ChanceCourt$Verdict", "evaluate", "()V"⟩, 11) := ⟨⟨by decide +kernel, by decide +kernel⟩, List.mem_of_getElem? (i := 133) (by decide +kernel), List.mem_of_getElem? (i := 574) (by decide +kernel), List.mem_of_getElem? (i := 575) (by decide +kernel)⟩
theorem lw_p3 : lw_okq (⟨"ChanceCourt$Verdict", "setSureTo", "(J)V"⟩, 11) := ⟨⟨by decide +kernel, by decide +kernel⟩, List.mem_of_getElem? (i := 133) (by decide +kernel), List.mem_of_getElem? (i := 578) (by decide +kernel), List.mem_of_getElem? (i := 579) (by decide +kernel)⟩
theorem lw_p4 : lw_okq (⟨"ChanceCourt$Equations", "clear", "(IIJ)V"⟩, 5) := ⟨⟨by decide +kernel, by decide +kernel⟩, List.mem_of_getElem? (i := 139) (by decide +kernel), List.mem_of_getElem? (i := 600) (by decide +kernel), List.mem_of_getElem? (i := 601) (by decide +kernel)⟩
theorem lw_p5 : lw_okq (⟨"ChanceCourt$Verdict", "improve", "(Z)Z"⟩, 11) := ⟨⟨by decide +kernel, by decide +kernel⟩, List.mem_of_getElem? (i := 133) (by decide +kernel), List.mem_of_getElem? (i := 608) (by decide +kernel), List.mem_of_getElem? (i := 609) (by decide +kernel)⟩
theorem lw_p6 : lw_okq (⟨"ChanceCourt$Verdict", "improveState", "(IZ)Z"⟩, 11) := ⟨⟨by decide +kernel, by decide +kernel⟩, List.mem_of_getElem? (i := 133) (by decide +kernel), List.mem_of_getElem? (i := 613) (by decide +kernel), List.mem_of_getElem? (i := 614) (by decide +kernel)⟩
theorem lw_p7 : lw_okq (⟨"ChanceCourt$Guide", "tightActInto", "(II)I"⟩, 4) := ⟨⟨by decide +kernel, by decide +kernel⟩, List.mem_of_getElem? (i := 229) (by decide +kernel), List.mem_of_getElem? (i := 637) (by decide +kernel), List.mem_of_getElem? (i := 638) (by decide +kernel)⟩
theorem lw_p8 : lw_okq (⟨"ChanceCourt$Guide", "nearerThan", "(I)I"⟩, 4) := ⟨⟨by decide +kernel, by decide +kernel⟩, List.mem_of_getElem? (i := 229) (by decide +kernel), List.mem_of_getElem? (i := 652) (by decide +kernel), List.mem_of_getElem? (i := 653) (by decide +kernel)⟩
theorem lw_p9 : lw_okq (⟨"ChanceCourt$Horizon", "best", "(I[J)J"⟩, 5) := ⟨⟨by decide +kernel, by decide +kernel⟩, List.mem_of_getElem? (i := 249) (by decide +kernel), List.mem_of_getElem? (i := 677) (by decide +kernel), List.mem_of_getElem? (i := 678) (by decide +kernel)⟩
theorem lw_p10 : lw_okq (⟨"ChanceCourt$Prices", "evaluate", "()V"⟩, 8) := ⟨⟨by decide +kernel, by decide +kernel⟩, List.mem_of_getElem? (i := 274) (by decide +kernel), List.mem_of_getElem? (i := 723) (by decide +kernel), List.mem_of_getElem? (i := 724) (by decide +kernel)⟩
theorem lw_p11 : lw_okq (⟨"ChanceCourt$Prices", "improve", "()Z"⟩, 8) := ⟨⟨by decide +kernel, by decide +kernel⟩, List.mem_of_getElem? (i := 274) (by decide +kernel), List.mem_of_getElem? (i := 732) (by decide +kernel), List.mem_of_getElem? (i := 733) (by decide +kernel)⟩
theorem lw_p12 : lw_okq (⟨"ChanceCourt$Prices", "improveState", "(I)Z"⟩, 8) := ⟨⟨by decide +kernel, by decide +kernel⟩, List.mem_of_getElem? (i := 274) (by decide +kernel), List.mem_of_getElem? (i := 736) (by decide +kernel), List.mem_of_getElem? (i := 737) (by decide +kernel)⟩
theorem lw_p13 : lw_okq (⟨"ChanceCourt$Holes", "findPaths", "()V"⟩, 6) := ⟨⟨by decide +kernel, by decide +kernel⟩, List.mem_of_getElem? (i := 312) (by decide +kernel), List.mem_of_getElem? (i := 756) (by decide +kernel), List.mem_of_getElem? (i := 757) (by decide +kernel)⟩
theorem lw_p14 : lw_okq (⟨"ChanceCourt$Holes", "narrow", "()Z"⟩, 6) := ⟨⟨by decide +kernel, by decide +kernel⟩, List.mem_of_getElem? (i := 312) (by decide +kernel), List.mem_of_getElem? (i := 762) (by decide +kernel), List.mem_of_getElem? (i := 763) (by decide +kernel)⟩
theorem lw_p15 : lw_okq (⟨"ChanceCourt$Holes", "gather", "()V"⟩, 6) := ⟨⟨by decide +kernel, by decide +kernel⟩, List.mem_of_getElem? (i := 312) (by decide +kernel), List.mem_of_getElem? (i := 766) (by decide +kernel), List.mem_of_getElem? (i := 767) (by decide +kernel)⟩
def lw_privs_1 : List (MethodName × Nat) := [(⟨"ChanceCourt", "refusalOf", "(LChanceCourt$Verdict;)I"⟩, 10), (⟨"ChanceCourt$Ways", "join", "(III)Z"⟩, 3), (⟨"ChanceCourt$Verdict", "evaluate", "()V"⟩, 11), (⟨"ChanceCourt$Verdict", "setSureTo", "(J)V"⟩, 11), (⟨"ChanceCourt$Equations", "clear", "(IIJ)V"⟩, 5), (⟨"ChanceCourt$Verdict", "improve", "(Z)Z"⟩, 11), (⟨"ChanceCourt$Verdict", "improveState", "(IZ)Z"⟩, 11), (⟨"ChanceCourt$Guide", "tightActInto", "(II)I"⟩, 4), (⟨"ChanceCourt$Guide", "nearerThan", "(I)I"⟩, 4), (⟨"ChanceCourt$Horizon", "best", "(I[J)J"⟩, 5), (⟨"ChanceCourt$Prices", "evaluate", "()V"⟩, 8), (⟨"ChanceCourt$Prices", "improve", "()Z"⟩, 8), (⟨"ChanceCourt$Prices", "improveState", "(I)Z"⟩, 8), (⟨"ChanceCourt$Holes", "findPaths", "()V"⟩, 6), (⟨"ChanceCourt$Holes", "narrow", "()Z"⟩, 6), (⟨"ChanceCourt$Holes", "gather", "()V"⟩, 6)]
theorem lw_r1 : ∀ q ∈ lw_privs_1, lw_okq q := List.forall_mem_cons.mpr ⟨lw_p0, List.forall_mem_cons.mpr ⟨lw_p1, List.forall_mem_cons.mpr ⟨lw_p2, List.forall_mem_cons.mpr ⟨lw_p3, List.forall_mem_cons.mpr ⟨lw_p4, List.forall_mem_cons.mpr ⟨lw_p5, List.forall_mem_cons.mpr ⟨lw_p6, List.forall_mem_cons.mpr ⟨lw_p7, List.forall_mem_cons.mpr ⟨lw_p8, List.forall_mem_cons.mpr ⟨lw_p9, List.forall_mem_cons.mpr ⟨lw_p10, List.forall_mem_cons.mpr ⟨lw_p11, List.forall_mem_cons.mpr ⟨lw_p12, List.forall_mem_cons.mpr ⟨lw_p13, List.forall_mem_cons.mpr ⟨lw_p14, List.forall_mem_cons.mpr ⟨lw_p15, fun _ h => absurd h List.not_mem_nil⟩⟩⟩⟩⟩⟩⟩⟩⟩⟩⟩⟩⟩⟩⟩⟩
theorem lw_p16 : lw_okq (⟨"ChanceCourt$Twins", "readFaces", "()V"⟩, 6) := ⟨⟨by decide +kernel, by decide +kernel⟩, List.mem_of_getElem? (i := 339) (by decide +kernel), List.mem_of_getElem? (i := 785) (by decide +kernel), List.mem_of_getElem? (i := 786) (by decide +kernel)⟩
theorem lw_p17 : lw_okq (⟨"ChanceCourt$Twins", "faceOf", "(LChanceCourt$Act;)J"⟩, 6) := ⟨⟨by decide +kernel, by decide +kernel⟩, List.mem_of_getElem? (i := 339) (by decide +kernel), List.mem_of_getElem? (i := 790) (by decide +kernel), List.mem_of_getElem? (i := 791) (by decide +kernel)⟩
theorem lw_p18 : lw_okq (⟨"ChanceCourt$Twins", "split", "()V"⟩, 6) := ⟨⟨by decide +kernel, by decide +kernel⟩, List.mem_of_getElem? (i := 339) (by decide +kernel), List.mem_of_getElem? (i := 794) (by decide +kernel), List.mem_of_getElem? (i := 795) (by decide +kernel)⟩
theorem lw_p19 : lw_okq (⟨"ChanceCourt$Twins", "covers", "(II)Z"⟩, 6) := ⟨⟨by decide +kernel, by decide +kernel⟩, List.mem_of_getElem? (i := 339) (by decide +kernel), List.mem_of_getElem? (i := 798) (by decide +kernel), List.mem_of_getElem? (i := 799) (by decide +kernel)⟩
theorem lw_p20 : lw_okq (⟨"ChanceCourt$Twins", "hasFace", "(IJ)Z"⟩, 6) := ⟨⟨by decide +kernel, by decide +kernel⟩, List.mem_of_getElem? (i := 339) (by decide +kernel), List.mem_of_getElem? (i := 802) (by decide +kernel), List.mem_of_getElem? (i := 803) (by decide +kernel)⟩
theorem lw_p21 : lw_okq (⟨"ChanceCourt", "fillShelf", "(LChanceCourt$Shelf;III)V"⟩, 10) := ⟨⟨by decide +kernel, by decide +kernel⟩, List.mem_of_getElem? (i := 23) (by decide +kernel), List.mem_of_getElem? (i := 833) (by decide +kernel), List.mem_of_getElem? (i := 834) (by decide +kernel)⟩
theorem lw_p22 : lw_okq (⟨"java/lang/Throwable", "fillInStackTrace", "(I)Ljava/lang/Throwable;"⟩, 6) := ⟨⟨by decide +kernel, by decide +kernel⟩, List.mem_of_getElem? (i := 939) (by decide +kernel), List.mem_of_getElem? (i := 937) (by decide +kernel), List.mem_of_getElem? (i := 938) (by decide +kernel)⟩
theorem lw_p23 : lw_okq (⟨"ChanceCourtModel", "isState", "(I)Z"⟩, 38) := ⟨⟨by decide +kernel, by decide +kernel⟩, List.mem_of_getElem? (i := 986) (by decide +kernel), List.mem_of_getElem? (i := 1119) (by decide +kernel), List.mem_of_getElem? (i := 1120) (by decide +kernel)⟩
theorem lw_p24 : lw_okq (⟨"ChanceCourtModel", "isFoe", "(I)Z"⟩, 38) := ⟨⟨by decide +kernel, by decide +kernel⟩, List.mem_of_getElem? (i := 986) (by decide +kernel), List.mem_of_getElem? (i := 1128) (by decide +kernel), List.mem_of_getElem? (i := 1129) (by decide +kernel)⟩
theorem lw_p25 : lw_okq (⟨"ChanceCourtModel", "isAct", "(II)Z"⟩, 38) := ⟨⟨by decide +kernel, by decide +kernel⟩, List.mem_of_getElem? (i := 986) (by decide +kernel), List.mem_of_getElem? (i := 1136) (by decide +kernel), List.mem_of_getElem? (i := 1137) (by decide +kernel)⟩
theorem lw_p26 : lw_okq (⟨"ChanceCourtModel", "partsOf", "(I)I"⟩, 38) := ⟨⟨by decide +kernel, by decide +kernel⟩, List.mem_of_getElem? (i := 986) (by decide +kernel), List.mem_of_getElem? (i := 1141) (by decide +kernel), List.mem_of_getElem? (i := 1142) (by decide +kernel)⟩
theorem lw_p27 : lw_okq (⟨"ChanceCourtModel", "lacking", "()I"⟩, 38) := ⟨⟨by decide +kernel, by decide +kernel⟩, List.mem_of_getElem? (i := 986) (by decide +kernel), List.mem_of_getElem? (i := 1157) (by decide +kernel), List.mem_of_getElem? (i := 1158) (by decide +kernel)⟩
theorem lw_p28 : lw_okq (⟨"ChanceCourtModel", "findValues", "(Z)Z"⟩, 38) := ⟨⟨by decide +kernel, by decide +kernel⟩, List.mem_of_getElem? (i := 986) (by decide +kernel), List.mem_of_getElem? (i := 1167) (by decide +kernel), List.mem_of_getElem? (i := 1168) (by decide +kernel)⟩
theorem lw_p29 : lw_okq (⟨"ChanceCourtModel", "ones", "(Z)I"⟩, 38) := ⟨⟨by decide +kernel, by decide +kernel⟩, List.mem_of_getElem? (i := 986) (by decide +kernel), List.mem_of_getElem? (i := 1171) (by decide +kernel), List.mem_of_getElem? (i := 1172) (by decide +kernel)⟩
theorem lw_p30 : lw_okq (⟨"ChanceCourtModel", "all", "()I"⟩, 38) := ⟨⟨by decide +kernel, by decide +kernel⟩, List.mem_of_getElem? (i := 986) (by decide +kernel), List.mem_of_getElem? (i := 1175) (by decide +kernel), List.mem_of_getElem? (i := 1176) (by decide +kernel)⟩
theorem lw_p31 : lw_okq (⟨"ChanceCourtModel", "comes", "(IZ)I"⟩, 38) := ⟨⟨by decide +kernel, by decide +kernel⟩, List.mem_of_getElem? (i := 986) (by decide +kernel), List.mem_of_getElem? (i := 1179) (by decide +kernel), List.mem_of_getElem? (i := 1180) (by decide +kernel)⟩
def lw_privs_2 : List (MethodName × Nat) := [(⟨"ChanceCourt$Twins", "readFaces", "()V"⟩, 6), (⟨"ChanceCourt$Twins", "faceOf", "(LChanceCourt$Act;)J"⟩, 6), (⟨"ChanceCourt$Twins", "split", "()V"⟩, 6), (⟨"ChanceCourt$Twins", "covers", "(II)Z"⟩, 6), (⟨"ChanceCourt$Twins", "hasFace", "(IJ)Z"⟩, 6), (⟨"ChanceCourt", "fillShelf", "(LChanceCourt$Shelf;III)V"⟩, 10), (⟨"java/lang/Throwable", "fillInStackTrace", "(I)Ljava/lang/Throwable;"⟩, 6), (⟨"ChanceCourtModel", "isState", "(I)Z"⟩, 38), (⟨"ChanceCourtModel", "isFoe", "(I)Z"⟩, 38), (⟨"ChanceCourtModel", "isAct", "(II)Z"⟩, 38), (⟨"ChanceCourtModel", "partsOf", "(I)I"⟩, 38), (⟨"ChanceCourtModel", "lacking", "()I"⟩, 38), (⟨"ChanceCourtModel", "findValues", "(Z)Z"⟩, 38), (⟨"ChanceCourtModel", "ones", "(Z)I"⟩, 38), (⟨"ChanceCourtModel", "all", "()I"⟩, 38), (⟨"ChanceCourtModel", "comes", "(IZ)I"⟩, 38)]
theorem lw_r2 : ∀ q ∈ lw_privs_2, lw_okq q := List.forall_mem_cons.mpr ⟨lw_p16, List.forall_mem_cons.mpr ⟨lw_p17, List.forall_mem_cons.mpr ⟨lw_p18, List.forall_mem_cons.mpr ⟨lw_p19, List.forall_mem_cons.mpr ⟨lw_p20, List.forall_mem_cons.mpr ⟨lw_p21, List.forall_mem_cons.mpr ⟨lw_p22, List.forall_mem_cons.mpr ⟨lw_p23, List.forall_mem_cons.mpr ⟨lw_p24, List.forall_mem_cons.mpr ⟨lw_p25, List.forall_mem_cons.mpr ⟨lw_p26, List.forall_mem_cons.mpr ⟨lw_p27, List.forall_mem_cons.mpr ⟨lw_p28, List.forall_mem_cons.mpr ⟨lw_p29, List.forall_mem_cons.mpr ⟨lw_p30, List.forall_mem_cons.mpr ⟨lw_p31, fun _ h => absurd h List.not_mem_nil⟩⟩⟩⟩⟩⟩⟩⟩⟩⟩⟩⟩⟩⟩⟩⟩
theorem lw_p32 : lw_okq (⟨"ChanceCourtModel", "leads", "(IIIZ)Z"⟩, 38) := ⟨⟨by decide +kernel, by decide +kernel⟩, List.mem_of_getElem? (i := 986) (by decide +kernel), List.mem_of_getElem? (i := 1183) (by decide +kernel), List.mem_of_getElem? (i := 1184) (by decide +kernel)⟩
theorem lw_p33 : lw_okq (⟨"ChanceCourtModel", "allIn", "(II)Z"⟩, 38) := ⟨⟨by decide +kernel, by decide +kernel⟩, List.mem_of_getElem? (i := 986) (by decide +kernel), List.mem_of_getElem? (i := 1187) (by decide +kernel), List.mem_of_getElem? (i := 1188) (by decide +kernel)⟩
theorem lw_p34 : lw_okq (⟨"ChanceCourtModel", "someIn", "(II)Z"⟩, 38) := ⟨⟨by decide +kernel, by decide +kernel⟩, List.mem_of_getElem? (i := 986) (by decide +kernel), List.mem_of_getElem? (i := 1191) (by decide +kernel), List.mem_of_getElem? (i := 1192) (by decide +kernel)⟩
theorem lw_p35 : lw_okq (⟨"ChanceCourtModel", "wants", "(IZ)Z"⟩, 38) := ⟨⟨by decide +kernel, by decide +kernel⟩, List.mem_of_getElem? (i := 986) (by decide +kernel), List.mem_of_getElem? (i := 1195) (by decide +kernel), List.mem_of_getElem? (i := 1196) (by decide +kernel)⟩
theorem lw_p36 : lw_okq (⟨"ChanceCourtModel", "above", "(Z)I"⟩, 38) := ⟨⟨by decide +kernel, by decide +kernel⟩, List.mem_of_getElem? (i := 986) (by decide +kernel), List.mem_of_getElem? (i := 1199) (by decide +kernel), List.mem_of_getElem? (i := 1200) (by decide +kernel)⟩
theorem lw_p37 : lw_okq (⟨"ChanceCourtModel", "countBits", "(I)I"⟩, 38) := ⟨⟨by decide +kernel, by decide +kernel⟩, List.mem_of_getElem? (i := 986) (by decide +kernel), List.mem_of_getElem? (i := 1203) (by decide +kernel), List.mem_of_getElem? (i := 1204) (by decide +kernel)⟩
theorem lw_p38 : lw_okq (⟨"ChanceCourtModel", "worst", "(IIZ)V"⟩, 38) := ⟨⟨by decide +kernel, by decide +kernel⟩, List.mem_of_getElem? (i := 986) (by decide +kernel), List.mem_of_getElem? (i := 1207) (by decide +kernel), List.mem_of_getElem? (i := 1208) (by decide +kernel)⟩
theorem lw_p39 : lw_okq (⟨"ChanceCourtModel", "chances", "(II)V"⟩, 38) := ⟨⟨by decide +kernel, by decide +kernel⟩, List.mem_of_getElem? (i := 986) (by decide +kernel), List.mem_of_getElem? (i := 1211) (by decide +kernel), List.mem_of_getElem? (i := 1212) (by decide +kernel)⟩
theorem lw_p40 : lw_okq (⟨"ChanceCourtModel", "comesChosen", "(II)I"⟩, 38) := ⟨⟨by decide +kernel, by decide +kernel⟩, List.mem_of_getElem? (i := 986) (by decide +kernel), List.mem_of_getElem? (i := 1215) (by decide +kernel), List.mem_of_getElem? (i := 1216) (by decide +kernel)⟩
theorem lw_p41 : lw_okq (⟨"ChanceCourtModel", "layRow", "(II)V"⟩, 38) := ⟨⟨by decide +kernel, by decide +kernel⟩, List.mem_of_getElem? (i := 986) (by decide +kernel), List.mem_of_getElem? (i := 1219) (by decide +kernel), List.mem_of_getElem? (i := 1220) (by decide +kernel)⟩
theorem lw_p42 : lw_okq (⟨"ChanceCourtModel", "placeOf", "(I)I"⟩, 38) := ⟨⟨by decide +kernel, by decide +kernel⟩, List.mem_of_getElem? (i := 986) (by decide +kernel), List.mem_of_getElem? (i := 1223) (by decide +kernel), List.mem_of_getElem? (i := 1224) (by decide +kernel)⟩
theorem lw_p43 : lw_okq (⟨"ChanceCourtModel", "solve", "()V"⟩, 38) := ⟨⟨by decide +kernel, by decide +kernel⟩, List.mem_of_getElem? (i := 986) (by decide +kernel), List.mem_of_getElem? (i := 1227) (by decide +kernel), List.mem_of_getElem? (i := 1228) (by decide +kernel)⟩
theorem lw_p44 : lw_okq (⟨"ChanceCourtModel", "determinant", "(I)J"⟩, 38) := ⟨⟨by decide +kernel, by decide +kernel⟩, List.mem_of_getElem? (i := 986) (by decide +kernel), List.mem_of_getElem? (i := 1231) (by decide +kernel), List.mem_of_getElem? (i := 1232) (by decide +kernel)⟩
theorem lw_p45 : lw_okq (⟨"ChanceCourtModel", "gcd", "(JJ)J"⟩, 38) := ⟨⟨by decide +kernel, by decide +kernel⟩, List.mem_of_getElem? (i := 986) (by decide +kernel), List.mem_of_getElem? (i := 1235) (by decide +kernel), List.mem_of_getElem? (i := 1236) (by decide +kernel)⟩
theorem lw_p46 : lw_okq (⟨"ChanceCourtModel", "nextChoice", "(IZ)Z"⟩, 38) := ⟨⟨by decide +kernel, by decide +kernel⟩, List.mem_of_getElem? (i := 986) (by decide +kernel), List.mem_of_getElem? (i := 1242) (by decide +kernel), List.mem_of_getElem? (i := 1243) (by decide +kernel)⟩
theorem lw_p47 : lw_okq (⟨"ChanceCourtModel", "refusal", "()J"⟩, 38) := ⟨⟨by decide +kernel, by decide +kernel⟩, List.mem_of_getElem? (i := 986) (by decide +kernel), List.mem_of_getElem? (i := 1251) (by decide +kernel), List.mem_of_getElem? (i := 1252) (by decide +kernel)⟩
def lw_privs_3 : List (MethodName × Nat) := [(⟨"ChanceCourtModel", "leads", "(IIIZ)Z"⟩, 38), (⟨"ChanceCourtModel", "allIn", "(II)Z"⟩, 38), (⟨"ChanceCourtModel", "someIn", "(II)Z"⟩, 38), (⟨"ChanceCourtModel", "wants", "(IZ)Z"⟩, 38), (⟨"ChanceCourtModel", "above", "(Z)I"⟩, 38), (⟨"ChanceCourtModel", "countBits", "(I)I"⟩, 38), (⟨"ChanceCourtModel", "worst", "(IIZ)V"⟩, 38), (⟨"ChanceCourtModel", "chances", "(II)V"⟩, 38), (⟨"ChanceCourtModel", "comesChosen", "(II)I"⟩, 38), (⟨"ChanceCourtModel", "layRow", "(II)V"⟩, 38), (⟨"ChanceCourtModel", "placeOf", "(I)I"⟩, 38), (⟨"ChanceCourtModel", "solve", "()V"⟩, 38), (⟨"ChanceCourtModel", "determinant", "(I)J"⟩, 38), (⟨"ChanceCourtModel", "gcd", "(JJ)J"⟩, 38), (⟨"ChanceCourtModel", "nextChoice", "(IZ)Z"⟩, 38), (⟨"ChanceCourtModel", "refusal", "()J"⟩, 38)]
theorem lw_r3 : ∀ q ∈ lw_privs_3, lw_okq q := List.forall_mem_cons.mpr ⟨lw_p32, List.forall_mem_cons.mpr ⟨lw_p33, List.forall_mem_cons.mpr ⟨lw_p34, List.forall_mem_cons.mpr ⟨lw_p35, List.forall_mem_cons.mpr ⟨lw_p36, List.forall_mem_cons.mpr ⟨lw_p37, List.forall_mem_cons.mpr ⟨lw_p38, List.forall_mem_cons.mpr ⟨lw_p39, List.forall_mem_cons.mpr ⟨lw_p40, List.forall_mem_cons.mpr ⟨lw_p41, List.forall_mem_cons.mpr ⟨lw_p42, List.forall_mem_cons.mpr ⟨lw_p43, List.forall_mem_cons.mpr ⟨lw_p44, List.forall_mem_cons.mpr ⟨lw_p45, List.forall_mem_cons.mpr ⟨lw_p46, List.forall_mem_cons.mpr ⟨lw_p47, fun _ h => absurd h List.not_mem_nil⟩⟩⟩⟩⟩⟩⟩⟩⟩⟩⟩⟩⟩⟩⟩⟩
theorem lw_p48 : lw_okq (⟨"ChanceCourtModel", "isMarked", "(I)Z"⟩, 38) := ⟨⟨by decide +kernel, by decide +kernel⟩, List.mem_of_getElem? (i := 986) (by decide +kernel), List.mem_of_getElem? (i := 1255) (by decide +kernel), List.mem_of_getElem? (i := 1256) (by decide +kernel)⟩
theorem lw_p49 : lw_okq (⟨"ChanceCourtModel", "findDistances", "()V"⟩, 38) := ⟨⟨by decide +kernel, by decide +kernel⟩, List.mem_of_getElem? (i := 986) (by decide +kernel), List.mem_of_getElem? (i := 1259) (by decide +kernel), List.mem_of_getElem? (i := 1260) (by decide +kernel)⟩
theorem lw_p50 : lw_okq (⟨"ChanceCourtModel", "isJust", "(II)Z"⟩, 38) := ⟨⟨by decide +kernel, by decide +kernel⟩, List.mem_of_getElem? (i := 986) (by decide +kernel), List.mem_of_getElem? (i := 1263) (by decide +kernel), List.mem_of_getElem? (i := 1264) (by decide +kernel)⟩
theorem lw_p51 : lw_okq (⟨"ChanceCourtModel", "findSum", "(I)V"⟩, 38) := ⟨⟨by decide +kernel, by decide +kernel⟩, List.mem_of_getElem? (i := 986) (by decide +kernel), List.mem_of_getElem? (i := 1267) (by decide +kernel), List.mem_of_getElem? (i := 1268) (by decide +kernel)⟩
theorem lw_p52 : lw_okq (⟨"ChanceCourtModel", "nearest", "(I)I"⟩, 38) := ⟨⟨by decide +kernel, by decide +kernel⟩, List.mem_of_getElem? (i := 986) (by decide +kernel), List.mem_of_getElem? (i := 1271) (by decide +kernel), List.mem_of_getElem? (i := 1272) (by decide +kernel)⟩
theorem lw_p53 : lw_okq (⟨"ChanceCourtModel", "start", "()V"⟩, 38) := ⟨⟨by decide +kernel, by decide +kernel⟩, List.mem_of_getElem? (i := 986) (by decide +kernel), List.mem_of_getElem? (i := 1288) (by decide +kernel), List.mem_of_getElem? (i := 1289) (by decide +kernel)⟩
theorem lw_p54 : lw_okq (⟨"ChanceCourtModel", "onwards", "(Z)V"⟩, 38) := ⟨⟨by decide +kernel, by decide +kernel⟩, List.mem_of_getElem? (i := 986) (by decide +kernel), List.mem_of_getElem? (i := 1292) (by decide +kernel), List.mem_of_getElem? (i := 1293) (by decide +kernel)⟩
theorem lw_p55 : lw_okq (⟨"ChanceCourtModel", "reachedFrom", "(II)I"⟩, 38) := ⟨⟨by decide +kernel, by decide +kernel⟩, List.mem_of_getElem? (i := 986) (by decide +kernel), List.mem_of_getElem? (i := 1308) (by decide +kernel), List.mem_of_getElem? (i := 1309) (by decide +kernel)⟩
theorem lw_p56 : lw_okq (⟨"ChanceCourtModel", "sureChosen", "(I)I"⟩, 38) := ⟨⟨by decide +kernel, by decide +kernel⟩, List.mem_of_getElem? (i := 986) (by decide +kernel), List.mem_of_getElem? (i := 1317) (by decide +kernel), List.mem_of_getElem? (i := 1318) (by decide +kernel)⟩
theorem lw_p57 : lw_okq (⟨"ChanceCourtModel", "costsChosen", "(I)V"⟩, 38) := ⟨⟨by decide +kernel, by decide +kernel⟩, List.mem_of_getElem? (i := 986) (by decide +kernel), List.mem_of_getElem? (i := 1321) (by decide +kernel), List.mem_of_getElem? (i := 1322) (by decide +kernel)⟩
theorem lw_p58 : lw_okq (⟨"ChanceCourtModel", "findHoles", "()V"⟩, 38) := ⟨⟨by decide +kernel, by decide +kernel⟩, List.mem_of_getElem? (i := 986) (by decide +kernel), List.mem_of_getElem? (i := 1330) (by decide +kernel), List.mem_of_getElem? (i := 1331) (by decide +kernel)⟩
theorem lw_p59 : lw_okq (⟨"ChanceCourtModel", "holeOf", "(I)I"⟩, 38) := ⟨⟨by decide +kernel, by decide +kernel⟩, List.mem_of_getElem? (i := 986) (by decide +kernel), List.mem_of_getElem? (i := 1334) (by decide +kernel), List.mem_of_getElem? (i := 1335) (by decide +kernel)⟩
theorem lw_p60 : lw_okq (⟨"ChanceCourtModel", "together", "(II)I"⟩, 38) := ⟨⟨by decide +kernel, by decide +kernel⟩, List.mem_of_getElem? (i := 986) (by decide +kernel), List.mem_of_getElem? (i := 1338) (by decide +kernel), List.mem_of_getElem? (i := 1339) (by decide +kernel)⟩
theorem lw_p61 : lw_okq (⟨"ChanceCourtModel", "staying", "(I)I"⟩, 38) := ⟨⟨by decide +kernel, by decide +kernel⟩, List.mem_of_getElem? (i := 986) (by decide +kernel), List.mem_of_getElem? (i := 1342) (by decide +kernel), List.mem_of_getElem? (i := 1343) (by decide +kernel)⟩
theorem lw_p62 : lw_okq (⟨"ChanceCourtModel", "findClasses", "()I"⟩, 38) := ⟨⟨by decide +kernel, by decide +kernel⟩, List.mem_of_getElem? (i := 986) (by decide +kernel), List.mem_of_getElem? (i := 1350) (by decide +kernel), List.mem_of_getElem? (i := 1351) (by decide +kernel)⟩
theorem lw_p63 : lw_okq (⟨"ChanceCourtModel", "hasAll", "(II)Z"⟩, 38) := ⟨⟨by decide +kernel, by decide +kernel⟩, List.mem_of_getElem? (i := 986) (by decide +kernel), List.mem_of_getElem? (i := 1354) (by decide +kernel), List.mem_of_getElem? (i := 1355) (by decide +kernel)⟩
def lw_privs_4 : List (MethodName × Nat) := [(⟨"ChanceCourtModel", "isMarked", "(I)Z"⟩, 38), (⟨"ChanceCourtModel", "findDistances", "()V"⟩, 38), (⟨"ChanceCourtModel", "isJust", "(II)Z"⟩, 38), (⟨"ChanceCourtModel", "findSum", "(I)V"⟩, 38), (⟨"ChanceCourtModel", "nearest", "(I)I"⟩, 38), (⟨"ChanceCourtModel", "start", "()V"⟩, 38), (⟨"ChanceCourtModel", "onwards", "(Z)V"⟩, 38), (⟨"ChanceCourtModel", "reachedFrom", "(II)I"⟩, 38), (⟨"ChanceCourtModel", "sureChosen", "(I)I"⟩, 38), (⟨"ChanceCourtModel", "costsChosen", "(I)V"⟩, 38), (⟨"ChanceCourtModel", "findHoles", "()V"⟩, 38), (⟨"ChanceCourtModel", "holeOf", "(I)I"⟩, 38), (⟨"ChanceCourtModel", "together", "(II)I"⟩, 38), (⟨"ChanceCourtModel", "staying", "(I)I"⟩, 38), (⟨"ChanceCourtModel", "findClasses", "()I"⟩, 38), (⟨"ChanceCourtModel", "hasAll", "(II)Z"⟩, 38)]
theorem lw_r4 : ∀ q ∈ lw_privs_4, lw_okq q := List.forall_mem_cons.mpr ⟨lw_p48, List.forall_mem_cons.mpr ⟨lw_p49, List.forall_mem_cons.mpr ⟨lw_p50, List.forall_mem_cons.mpr ⟨lw_p51, List.forall_mem_cons.mpr ⟨lw_p52, List.forall_mem_cons.mpr ⟨lw_p53, List.forall_mem_cons.mpr ⟨lw_p54, List.forall_mem_cons.mpr ⟨lw_p55, List.forall_mem_cons.mpr ⟨lw_p56, List.forall_mem_cons.mpr ⟨lw_p57, List.forall_mem_cons.mpr ⟨lw_p58, List.forall_mem_cons.mpr ⟨lw_p59, List.forall_mem_cons.mpr ⟨lw_p60, List.forall_mem_cons.mpr ⟨lw_p61, List.forall_mem_cons.mpr ⟨lw_p62, List.forall_mem_cons.mpr ⟨lw_p63, fun _ h => absurd h List.not_mem_nil⟩⟩⟩⟩⟩⟩⟩⟩⟩⟩⟩⟩⟩⟩⟩⟩
theorem lw_p64 : lw_okq (⟨"ChanceCourtModel", "areLike", "(II)Z"⟩, 38) := ⟨⟨by decide +kernel, by decide +kernel⟩, List.mem_of_getElem? (i := 986) (by decide +kernel), List.mem_of_getElem? (i := 1358) (by decide +kernel), List.mem_of_getElem? (i := 1359) (by decide +kernel)⟩
theorem lw_p65 : lw_okq (⟨"ChanceCourtModel", "partIn", "(II)I"⟩, 38) := ⟨⟨by decide +kernel, by decide +kernel⟩, List.mem_of_getElem? (i := 986) (by decide +kernel), List.mem_of_getElem? (i := 1362) (by decide +kernel), List.mem_of_getElem? (i := 1363) (by decide +kernel)⟩
theorem lw_p66 : lw_okq (⟨"ChanceCourtModel", "weightOf", "(I)I"⟩, 38) := ⟨⟨by decide +kernel, by decide +kernel⟩, List.mem_of_getElem? (i := 986) (by decide +kernel), List.mem_of_getElem? (i := 1382) (by decide +kernel), List.mem_of_getElem? (i := 1383) (by decide +kernel)⟩
theorem lw_p67 : lw_okq (⟨"ChanceCourtModel", "hasPlaces", "(III)Z"⟩, 38) := ⟨⟨by decide +kernel, by decide +kernel⟩, List.mem_of_getElem? (i := 986) (by decide +kernel), List.mem_of_getElem? (i := 1398) (by decide +kernel), List.mem_of_getElem? (i := 1399) (by decide +kernel)⟩
def lw_privs_5 : List (MethodName × Nat) := [(⟨"ChanceCourtModel", "areLike", "(II)Z"⟩, 38), (⟨"ChanceCourtModel", "partIn", "(II)I"⟩, 38), (⟨"ChanceCourtModel", "weightOf", "(I)I"⟩, 38), (⟨"ChanceCourtModel", "hasPlaces", "(III)Z"⟩, 38)]
theorem lw_r5 : ∀ q ∈ lw_privs_5, lw_okq q := List.forall_mem_cons.mpr ⟨lw_p64, List.forall_mem_cons.mpr ⟨lw_p65, List.forall_mem_cons.mpr ⟨lw_p66, List.forall_mem_cons.mpr ⟨lw_p67, fun _ h => absurd h List.not_mem_nil⟩⟩⟩⟩
def lw_privs : List (MethodName × Nat) := lw_privs_1 ++ (lw_privs_2 ++ (lw_privs_3 ++ (lw_privs_4 ++ (lw_privs_5))))
def lw_tbl : List Cond := k2_sels lw_privs ++ tables_1
theorem lw_privs_ok : ∀ q ∈ lw_privs, lw_okq q := by
  show ∀ q ∈ lw_privs_1 ++ (lw_privs_2 ++ (lw_privs_3 ++ (lw_privs_4 ++ (lw_privs_5)))), lw_okq q
  exact List.forall_mem_append.mpr ⟨lw_r1, List.forall_mem_append.mpr ⟨lw_r2, List.forall_mem_append.mpr ⟨lw_r3, List.forall_mem_append.mpr ⟨lw_r4, lw_r5⟩⟩⟩⟩
end
section
def RX0 : String := "ChanceCourt$Act"
def TX0 : u_T := fun k => match k with
  | 0 => ("ChanceCourt$Act", "kind", "I", false)
  | 1 => ("ChanceCourt$Act", "cost", "I", false)
  | 2 => ("ChanceCourt$Act", "outcomes", "I", false)
  | 3 => ("ChanceCourt$Act", "parts", "I", false)
  | 4 => ("ChanceCourt$Act", "goes", "I", false)
  | 5 => ("ChanceCourt$Act", "to", "[I", true)
  | _ => ("ChanceCourt$Act", "part", "[I", true)
def tyX0 : Nat → FieldType := fun k => match k with
  | 0 => .int
  | 1 => .int
  | 2 => .int
  | 3 => .int
  | 4 => .int
  | 5 => .array .int
  | _ => .array .int
theorem nmX0 : ∀ a, a < 7 → ∀ b, b < 7 → a ≠ b → (TX0 a).2.1 ≠ (TX0 b).2.1 := by decide +kernel
theorem tyX0_ok : ∀ k, k < 7 → parseFieldDescriptor (TX0 k).2.2.1 = some (tyX0 k) := by decide +kernel
abbrev cX0_init : ByteArray := prog_2_method_1_code
def yX0_init : MethodName := ⟨RX0, "<init>", "()V"⟩
abbrev cX0_begin : ByteArray := prog_2_method_2_code
def yX0_begin : MethodName := ⟨RX0, "begin", "(II)V"⟩
abbrev cX0_addOutcome : ByteArray := prog_2_method_3_code
def yX0_addOutcome : MethodName := ⟨RX0, "addOutcome", "(II)V"⟩
abbrev cX0_become : ByteArray := prog_2_method_4_code
def yX0_become : MethodName := ⟨RX0, "become", "(LChanceCourt$Act;)V"⟩
abbrev cX0_room : ByteArray := prog_2_method_5_code
def yX0_room : MethodName := ⟨RX0, "room", "()I"⟩
abbrev cX0_isSingle : ByteArray := prog_2_method_6_code
def yX0_isSingle : MethodName := ⟨RX0, "isSingle", "()Z"⟩
abbrev cX0_staysIn : ByteArray := prog_2_method_7_code
def yX0_staysIn : MethodName := ⟨RX0, "staysIn", "(I)Z"⟩
abbrev cX0_mean : ByteArray := prog_2_method_8_code
def yX0_mean : MethodName := ⟨RX0, "mean", "([J)J"⟩
abbrev cX0_heaviness : ByteArray := prog_2_method_9_code
def yX0_heaviness : MethodName := ⟨RX0, "heaviness", "()J"⟩
def RX1 : String := "ChanceCourt$Equations"
def TX1 : u_T := fun k => match k with
  | 0 => ("ChanceCourt$Equations", "rows", "[[J", true)
  | 1 => ("ChanceCourt$Equations", "rowOf", "[I", true)
  | 2 => ("ChanceCourt$Equations", "stateOf", "[I", true)
  | 3 => ("ChanceCourt$Equations", "unknowns", "I", false)
  | _ => ("ChanceCourt$Equations", "lower", "J", false)
def tyX1 : Nat → FieldType := fun k => match k with
  | 0 => .array (.array .long)
  | 1 => .array .int
  | 2 => .array .int
  | 3 => .int
  | _ => .long
theorem nmX1 : ∀ a, a < 5 → ∀ b, b < 5 → a ≠ b → (TX1 a).2.1 ≠ (TX1 b).2.1 := by decide +kernel
theorem tyX1_ok : ∀ k, k < 5 → parseFieldDescriptor (TX1 k).2.2.1 = some (tyX1 k) := by decide +kernel
abbrev cX1_init : ByteArray := prog_3_method_1_code
def yX1_init : MethodName := ⟨RX1, "<init>", "()V"⟩
abbrev cX1_open : ByteArray := prog_3_method_2_code
def yX1_open : MethodName := ⟨RX1, "open", "(I)Z"⟩
abbrev cX1_write : ByteArray := prog_3_method_3_code
def yX1_write : MethodName := ⟨RX1, "write", "(ILChanceCourt$Act;J)V"⟩
abbrev cX1_solve : ByteArray := prog_3_method_4_code
def yX1_solve : MethodName := ⟨RX1, "solve", "()V"⟩
abbrev cX1_clear : ByteArray := prog_3_method_5_code
def yX1_clear : MethodName := ⟨RX1, "clear", "(IIJ)V"⟩
abbrev cX1_upperOf : ByteArray := prog_3_method_6_code
def yX1_upperOf : MethodName := ⟨RX1, "upperOf", "(I)J"⟩
def RX2 : String := "ChanceCourt$Guide"
def TX2 : u_T := fun k => match k with
  | 0 => ("ChanceCourt$Guide", "world", "LChanceCourt$World;", true)
  | 1 => ("ChanceCourt$Guide", "most", "LChanceCourt$Verdict;", true)
  | 2 => ("ChanceCourt$Guide", "settled", "I", false)
  | _ => ("ChanceCourt$Guide", "steps", "[I", true)
def tyX2 : Nat → FieldType := fun k => match k with
  | 0 => .object "ChanceCourt$World"
  | 1 => .object "ChanceCourt$Verdict"
  | 2 => .int
  | _ => .array .int
theorem nmX2 : ∀ a, a < 4 → ∀ b, b < 4 → a ≠ b → (TX2 a).2.1 ≠ (TX2 b).2.1 := by decide +kernel
theorem tyX2_ok : ∀ k, k < 4 → parseFieldDescriptor (TX2 k).2.2.1 = some (tyX2 k) := by decide +kernel
abbrev cX2_init : ByteArray := prog_4_method_1_code
def yX2_init : MethodName := ⟨RX2, "<init>", "(LChanceCourt$World;LChanceCourt$Verdict;)V"⟩
abbrev cX2_settle : ByteArray := prog_4_method_2_code
def yX2_settle : MethodName := ⟨RX2, "settle", "()V"⟩
abbrev cX2_tightActInto : ByteArray := prog_4_method_3_code
def yX2_tightActInto : MethodName := ⟨RX2, "tightActInto", "(II)I"⟩
abbrev cX2_pick : ByteArray := prog_4_method_4_code
def yX2_pick : MethodName := ⟨RX2, "pick", "(I)I"⟩
abbrev cX2_nearerThan : ByteArray := prog_4_method_5_code
def yX2_nearerThan : MethodName := ⟨RX2, "nearerThan", "(I)I"⟩
def RX3 : String := "ChanceCourt$Holes"
def TX3 : u_T := fun k => match k with
  | 0 => ("ChanceCourt$Holes", "world", "LChanceCourt$World;", true)
  | 1 => ("ChanceCourt$Holes", "home", "[I", true)
  | 2 => ("ChanceCourt$Holes", "paths", "[I", true)
  | 3 => ("ChanceCourt$Holes", "settled", "I", false)
  | 4 => ("ChanceCourt$Holes", "members", "[I", true)
  | _ => ("ChanceCourt$Holes", "holes", "I", false)
def tyX3 : Nat → FieldType := fun k => match k with
  | 0 => .object "ChanceCourt$World"
  | 1 => .array .int
  | 2 => .array .int
  | 3 => .int
  | 4 => .array .int
  | _ => .int
theorem nmX3 : ∀ a, a < 6 → ∀ b, b < 6 → a ≠ b → (TX3 a).2.1 ≠ (TX3 b).2.1 := by decide +kernel
theorem tyX3_ok : ∀ k, k < 6 → parseFieldDescriptor (TX3 k).2.2.1 = some (tyX3 k) := by decide +kernel
abbrev cX3_init : ByteArray := prog_5_method_1_code
def yX3_init : MethodName := ⟨RX3, "<init>", "(LChanceCourt$World;)V"⟩
abbrev cX3_settle : ByteArray := prog_5_method_2_code
def yX3_settle : MethodName := ⟨RX3, "settle", "()V"⟩
abbrev cX3_findPaths : ByteArray := prog_5_method_3_code
def yX3_findPaths : MethodName := ⟨RX3, "findPaths", "()V"⟩
abbrev cX3_narrow : ByteArray := prog_5_method_4_code
def yX3_narrow : MethodName := ⟨RX3, "narrow", "()Z"⟩
abbrev cX3_gather : ByteArray := prog_5_method_5_code
def yX3_gather : MethodName := ⟨RX3, "gather", "()V"⟩
abbrev cX3_stayingActs : ByteArray := prog_5_method_6_code
def yX3_stayingActs : MethodName := ⟨RX3, "stayingActs", "(I)I"⟩
def RX4 : String := "ChanceCourt$Horizon"
def TX4 : u_T := fun k => match k with
  | 0 => ("ChanceCourt$Horizon", "world", "LChanceCourt$World;", true)
  | 1 => ("ChanceCourt$Horizon", "least", "Z", true)
  | 2 => ("ChanceCourt$Horizon", "settled", "I", false)
  | 3 => ("ChanceCourt$Horizon", "upper", "[[J", true)
  | _ => ("ChanceCourt$Horizon", "lower", "[J", true)
def tyX4 : Nat → FieldType := fun k => match k with
  | 0 => .object "ChanceCourt$World"
  | 1 => .boolean
  | 2 => .int
  | 3 => .array (.array .long)
  | _ => .array .long
theorem nmX4 : ∀ a, a < 5 → ∀ b, b < 5 → a ≠ b → (TX4 a).2.1 ≠ (TX4 b).2.1 := by decide +kernel
theorem tyX4_ok : ∀ k, k < 5 → parseFieldDescriptor (TX4 k).2.2.1 = some (tyX4 k) := by decide +kernel
abbrev cX4_init : ByteArray := prog_6_method_1_code
def yX4_init : MethodName := ⟨RX4, "<init>", "(LChanceCourt$World;Z)V"⟩
abbrev cX4_settle : ByteArray := prog_6_method_2_code
def yX4_settle : MethodName := ⟨RX4, "settle", "()V"⟩
abbrev cX4_best : ByteArray := prog_6_method_3_code
def yX4_best : MethodName := ⟨RX4, "best", "(I[J)J"⟩
def RX5 : String := "ChanceCourt$Prices"
def TX5 : u_T := fun k => match k with
  | 0 => ("ChanceCourt$Prices", "world", "LChanceCourt$World;", true)
  | 1 => ("ChanceCourt$Prices", "most", "LChanceCourt$Verdict;", true)
  | 2 => ("ChanceCourt$Prices", "ways", "LChanceCourt$Ways;", true)
  | 3 => ("ChanceCourt$Prices", "equations", "LChanceCourt$Equations;", true)
  | 4 => ("ChanceCourt$Prices", "settled", "I", false)
  | 5 => ("ChanceCourt$Prices", "upper", "[J", true)
  | 6 => ("ChanceCourt$Prices", "lower", "J", false)
  | _ => ("ChanceCourt$Prices", "told", "Z", false)
def tyX5 : Nat → FieldType := fun k => match k with
  | 0 => .object "ChanceCourt$World"
  | 1 => .object "ChanceCourt$Verdict"
  | 2 => .object "ChanceCourt$Ways"
  | 3 => .object "ChanceCourt$Equations"
  | 4 => .int
  | 5 => .array .long
  | 6 => .long
  | _ => .boolean
theorem nmX5 : ∀ a, a < 8 → ∀ b, b < 8 → a ≠ b → (TX5 a).2.1 ≠ (TX5 b).2.1 := by decide +kernel
theorem tyX5_ok : ∀ k, k < 8 → parseFieldDescriptor (TX5 k).2.2.1 = some (tyX5 k) := by decide +kernel
abbrev cX5_init : ByteArray := prog_7_method_1_code
def yX5_init : MethodName := ⟨RX5, "<init>", "(LChanceCourt$World;LChanceCourt$Verdict;)V"⟩
abbrev cX5_settle : ByteArray := prog_7_method_2_code
def yX5_settle : MethodName := ⟨RX5, "settle", "()V"⟩
abbrev cX5_evaluate : ByteArray := prog_7_method_3_code
def yX5_evaluate : MethodName := ⟨RX5, "evaluate", "()V"⟩
abbrev cX5_improve : ByteArray := prog_7_method_4_code
def yX5_improve : MethodName := ⟨RX5, "improve", "()Z"⟩
abbrev cX5_improveState : ByteArray := prog_7_method_5_code
def yX5_improveState : MethodName := ⟨RX5, "improveState", "(I)Z"⟩
def RX6 : String := "ChanceCourt$Shelf"
def TX6 : u_T := fun k => match k with
  | 0 => ("ChanceCourt$Shelf", "kind", "I", false)
  | 1 => ("ChanceCourt$Shelf", "upper", "J", false)
  | 2 => ("ChanceCourt$Shelf", "length", "I", false)
  | 3 => ("ChanceCourt$Shelf", "act", "LChanceCourt$Act;", true)
  | _ => ("ChanceCourt$Shelf", "row", "[J", true)
def tyX6 : Nat → FieldType := fun k => match k with
  | 0 => .int
  | 1 => .long
  | 2 => .int
  | 3 => .object "ChanceCourt$Act"
  | _ => .array .long
theorem nmX6 : ∀ a, a < 5 → ∀ b, b < 5 → a ≠ b → (TX6 a).2.1 ≠ (TX6 b).2.1 := by decide +kernel
theorem tyX6_ok : ∀ k, k < 5 → parseFieldDescriptor (TX6 k).2.2.1 = some (tyX6 k) := by decide +kernel
abbrev cX6_init : ByteArray := prog_8_method_1_code
def yX6_init : MethodName := ⟨RX6, "<init>", "()V"⟩
abbrev cX6_isRow : ByteArray := prog_8_method_2_code
def yX6_isRow : MethodName := ⟨RX6, "isRow", "()Z"⟩
abbrev cX6_hasPlaces : ByteArray := prog_8_method_3_code
def yX6_hasPlaces : MethodName := ⟨RX6, "hasPlaces", "(II)Z"⟩
abbrev cX6_holdAct : ByteArray := prog_8_method_4_code
def yX6_holdAct : MethodName := ⟨RX6, "holdAct", "(LChanceCourt$Act;)V"⟩
abbrev cX6_holdNumber : ByteArray := prog_8_method_5_code
def yX6_holdNumber : MethodName := ⟨RX6, "holdNumber", "(J)V"⟩
abbrev cX6_holdParts : ByteArray := prog_8_method_6_code
def yX6_holdParts : MethodName := ⟨RX6, "holdParts", "(LChanceCourt$Act;)V"⟩
abbrev cX6_beginRow : ByteArray := prog_8_method_7_code
def yX6_beginRow : MethodName := ⟨RX6, "beginRow", "(II)V"⟩
def RX7 : String := "ChanceCourt$Twins"
def TX7 : u_T := fun k => match k with
  | 0 => ("ChanceCourt$Twins", "world", "LChanceCourt$World;", true)
  | 1 => ("ChanceCourt$Twins", "next", "[I", true)
  | 2 => ("ChanceCourt$Twins", "faces", "[J", true)
  | 3 => ("ChanceCourt$Twins", "settled", "I", false)
  | 4 => ("ChanceCourt$Twins", "classOf", "[I", true)
  | _ => ("ChanceCourt$Twins", "classes", "I", false)
def tyX7 : Nat → FieldType := fun k => match k with
  | 0 => .object "ChanceCourt$World"
  | 1 => .array .int
  | 2 => .array .long
  | 3 => .int
  | 4 => .array .int
  | _ => .int
theorem nmX7 : ∀ a, a < 6 → ∀ b, b < 6 → a ≠ b → (TX7 a).2.1 ≠ (TX7 b).2.1 := by decide +kernel
theorem tyX7_ok : ∀ k, k < 6 → parseFieldDescriptor (TX7 k).2.2.1 = some (tyX7 k) := by decide +kernel
abbrev cX7_init : ByteArray := prog_9_method_1_code
def yX7_init : MethodName := ⟨RX7, "<init>", "(LChanceCourt$World;)V"⟩
abbrev cX7_settle : ByteArray := prog_9_method_2_code
def yX7_settle : MethodName := ⟨RX7, "settle", "()V"⟩
abbrev cX7_readFaces : ByteArray := prog_9_method_3_code
def yX7_readFaces : MethodName := ⟨RX7, "readFaces", "()V"⟩
abbrev cX7_faceOf : ByteArray := prog_9_method_4_code
def yX7_faceOf : MethodName := ⟨RX7, "faceOf", "(LChanceCourt$Act;)J"⟩
abbrev cX7_split : ByteArray := prog_9_method_5_code
def yX7_split : MethodName := ⟨RX7, "split", "()V"⟩
abbrev cX7_covers : ByteArray := prog_9_method_6_code
def yX7_covers : MethodName := ⟨RX7, "covers", "(II)Z"⟩
abbrev cX7_hasFace : ByteArray := prog_9_method_7_code
def yX7_hasFace : MethodName := ⟨RX7, "hasFace", "(IJ)Z"⟩
def RX8 : String := "ChanceCourt$Verdict"
def TX8 : u_T := fun k => match k with
  | 0 => ("ChanceCourt$Verdict", "world", "LChanceCourt$World;", true)
  | 1 => ("ChanceCourt$Verdict", "least", "Z", true)
  | 2 => ("ChanceCourt$Verdict", "ways", "LChanceCourt$Ways;", true)
  | 3 => ("ChanceCourt$Verdict", "equations", "LChanceCourt$Equations;", true)
  | 4 => ("ChanceCourt$Verdict", "sorted", "I", false)
  | 5 => ("ChanceCourt$Verdict", "settled", "I", false)
  | 6 => ("ChanceCourt$Verdict", "upper", "[J", true)
  | 7 => ("ChanceCourt$Verdict", "lower", "J", false)
  | 8 => ("ChanceCourt$Verdict", "sure", "I", false)
  | 9 => ("ChanceCourt$Verdict", "lost", "I", false)
  | _ => ("ChanceCourt$Verdict", "told", "Z", false)
def tyX8 : Nat → FieldType := fun k => match k with
  | 0 => .object "ChanceCourt$World"
  | 1 => .boolean
  | 2 => .object "ChanceCourt$Ways"
  | 3 => .object "ChanceCourt$Equations"
  | 4 => .int
  | 5 => .int
  | 6 => .array .long
  | 7 => .long
  | 8 => .int
  | 9 => .int
  | _ => .boolean
theorem nmX8 : ∀ a, a < 11 → ∀ b, b < 11 → a ≠ b → (TX8 a).2.1 ≠ (TX8 b).2.1 := by decide +kernel
theorem tyX8_ok : ∀ k, k < 11 → parseFieldDescriptor (TX8 k).2.2.1 = some (tyX8 k) := by decide +kernel
abbrev cX8_init : ByteArray := prog_10_method_1_code
def yX8_init : MethodName := ⟨RX8, "<init>", "(LChanceCourt$World;Z)V"⟩
abbrev cX8_sort : ByteArray := prog_10_method_2_code
def yX8_sort : MethodName := ⟨RX8, "sort", "()V"⟩
abbrev cX8_settle : ByteArray := prog_10_method_3_code
def yX8_settle : MethodName := ⟨RX8, "settle", "()V"⟩
abbrev cX8_evaluate : ByteArray := prog_10_method_4_code
def yX8_evaluate : MethodName := ⟨RX8, "evaluate", "()V"⟩
abbrev cX8_setSureTo : ByteArray := prog_10_method_5_code
def yX8_setSureTo : MethodName := ⟨RX8, "setSureTo", "(J)V"⟩
abbrev cX8_improve : ByteArray := prog_10_method_6_code
def yX8_improve : MethodName := ⟨RX8, "improve", "(Z)Z"⟩
abbrev cX8_improveState : ByteArray := prog_10_method_7_code
def yX8_improveState : MethodName := ⟨RX8, "improveState", "(IZ)Z"⟩
abbrev cX8_isTight : ByteArray := prog_10_method_8_code
def yX8_isTight : MethodName := ⟨RX8, "isTight", "(II)Z"⟩
def RX9 : String := "ChanceCourt$Ways"
def TX9 : u_T := fun k => match k with
  | 0 => ("ChanceCourt$Ways", "world", "LChanceCourt$World;", true)
  | 1 => ("ChanceCourt$Ways", "least", "Z", true)
  | _ => ("ChanceCourt$Ways", "way", "[I", true)
def tyX9 : Nat → FieldType := fun k => match k with
  | 0 => .object "ChanceCourt$World"
  | 1 => .boolean
  | _ => .array .int
theorem nmX9 : ∀ a, a < 3 → ∀ b, b < 3 → a ≠ b → (TX9 a).2.1 ≠ (TX9 b).2.1 := by decide +kernel
theorem tyX9_ok : ∀ k, k < 3 → parseFieldDescriptor (TX9 k).2.2.1 = some (tyX9 k) := by decide +kernel
abbrev cX9_init : ByteArray := prog_11_method_1_code
def yX9_init : MethodName := ⟨RX9, "<init>", "(LChanceCourt$World;Z)V"⟩
abbrev cX9_grow : ByteArray := prog_11_method_2_code
def yX9_grow : MethodName := ⟨RX9, "grow", "(I)I"⟩
abbrev cX9_join : ByteArray := prog_11_method_3_code
def yX9_join : MethodName := ⟨RX9, "join", "(III)Z"⟩
def RX10 : String := "ChanceCourt$World"
def TX10 : u_T := fun k => match k with
  | 0 => ("ChanceCourt$World", "states", "I", false)
  | 1 => ("ChanceCourt$World", "marked", "I", false)
  | 2 => ("ChanceCourt$World", "version", "I", false)
  | 3 => ("ChanceCourt$World", "actCounts", "[I", true)
  | _ => ("ChanceCourt$World", "acts", "[LChanceCourt$Act;", true)
def tyX10 : Nat → FieldType := fun k => match k with
  | 0 => .int
  | 1 => .int
  | 2 => .int
  | 3 => .array .int
  | _ => .array (.object "ChanceCourt$Act")
theorem nmX10 : ∀ a, a < 5 → ∀ b, b < 5 → a ≠ b → (TX10 a).2.1 ≠ (TX10 b).2.1 := by decide +kernel
theorem tyX10_ok : ∀ k, k < 5 → parseFieldDescriptor (TX10 k).2.2.1 = some (tyX10 k) := by decide +kernel
abbrev cX10_init : ByteArray := prog_12_method_1_code
def yX10_init : MethodName := ⟨RX10, "<init>", "()V"⟩
abbrev cX10_hasState : ByteArray := prog_12_method_2_code
def yX10_hasState : MethodName := ⟨RX10, "hasState", "(I)Z"⟩
abbrev cX10_hasAct : ByteArray := prog_12_method_3_code
def yX10_hasAct : MethodName := ⟨RX10, "hasAct", "(II)Z"⟩
abbrev cX10_actAt : ByteArray := prog_12_method_4_code
def yX10_actAt : MethodName := ⟨RX10, "actAt", "(II)LChanceCourt$Act;"⟩
abbrev cX10_isFoes : ByteArray := prog_12_method_5_code
def yX10_isFoes : MethodName := ⟨RX10, "isFoes", "(I)Z"⟩
abbrev cX10_seeksMost : ByteArray := prog_12_method_6_code
def yX10_seeksMost : MethodName := ⟨RX10, "seeksMost", "(IZ)Z"⟩
abbrev cX10_everyone : ByteArray := prog_12_method_7_code
def yX10_everyone : MethodName := ⟨RX10, "everyone", "()I"⟩
abbrev cX10_addState : ByteArray := prog_12_method_8_code
def yX10_addState : MethodName := ⟨RX10, "addState", "()I"⟩
abbrev cX10_addAct : ByteArray := prog_12_method_9_code
def yX10_addAct : MethodName := ⟨RX10, "addAct", "(III)I"⟩
abbrev cX10_addOutcome : ByteArray := prog_12_method_10_code
def yX10_addOutcome : MethodName := ⟨RX10, "addOutcome", "(LChanceCourt$Act;II)I"⟩
abbrev cX10_removeAct : ByteArray := prog_12_method_11_code
def yX10_removeAct : MethodName := ⟨RX10, "removeAct", "(I)I"⟩
abbrev cX10_setMarked : ByteArray := prog_12_method_12_code
def yX10_setMarked : MethodName := ⟨RX10, "setMarked", "(I)V"⟩
abbrev cX10_isWhole : ByteArray := prog_12_method_13_code
def yX10_isWhole : MethodName := ⟨RX10, "isWhole", "()Z"⟩
abbrev cX10_lacking : ByteArray := prog_12_method_14_code
def yX10_lacking : MethodName := ⟨RX10, "lacking", "()I"⟩
abbrev cX10_allActs : ByteArray := prog_12_method_15_code
def yX10_allActs : MethodName := ⟨RX10, "allActs", "()I"⟩
abbrev cX10_allOutcomes : ByteArray := prog_12_method_16_code
def yX10_allOutcomes : MethodName := ⟨RX10, "allOutcomes", "()I"⟩
abbrev cX10_foeActs : ByteArray := prog_12_method_17_code
def yX10_foeActs : MethodName := ⟨RX10, "foeActs", "()I"⟩
abbrev cX10_nextOf : ByteArray := prog_12_method_18_code
def yX10_nextOf : MethodName := ⟨RX10, "nextOf", "(II)I"⟩
abbrev cX10_reachedFrom : ByteArray := prog_12_method_19_code
def yX10_reachedFrom : MethodName := ⟨RX10, "reachedFrom", "(I)I"⟩
def RX11 : String := "ChanceCourt"
def TX11 : u_T := fun k => match k with
  | 0 => ("ChanceCourt", "world", "LChanceCourt$World;", true)
  | 1 => ("ChanceCourt", "mostVerdict", "LChanceCourt$Verdict;", true)
  | 2 => ("ChanceCourt", "leastVerdict", "LChanceCourt$Verdict;", true)
  | 3 => ("ChanceCourt", "guide", "LChanceCourt$Guide;", true)
  | 4 => ("ChanceCourt", "mostSoon", "LChanceCourt$Horizon;", true)
  | 5 => ("ChanceCourt", "leastSoon", "LChanceCourt$Horizon;", true)
  | 6 => ("ChanceCourt", "prices", "LChanceCourt$Prices;", true)
  | 7 => ("ChanceCourt", "holes", "LChanceCourt$Holes;", true)
  | 8 => ("ChanceCourt", "twins", "LChanceCourt$Twins;", true)
  | _ => ("ChanceCourt", "shelves", "[LChanceCourt$Shelf;", true)
def tyX11 : Nat → FieldType := fun k => match k with
  | 0 => .object "ChanceCourt$World"
  | 1 => .object "ChanceCourt$Verdict"
  | 2 => .object "ChanceCourt$Verdict"
  | 3 => .object "ChanceCourt$Guide"
  | 4 => .object "ChanceCourt$Horizon"
  | 5 => .object "ChanceCourt$Horizon"
  | 6 => .object "ChanceCourt$Prices"
  | 7 => .object "ChanceCourt$Holes"
  | 8 => .object "ChanceCourt$Twins"
  | _ => .array (.object "ChanceCourt$Shelf")
theorem nmX11 : ∀ a, a < 10 → ∀ b, b < 10 → a ≠ b → (TX11 a).2.1 ≠ (TX11 b).2.1 := by decide +kernel
theorem tyX11_ok : ∀ k, k < 10 → parseFieldDescriptor (TX11 k).2.2.1 = some (tyX11 k) := by decide +kernel
abbrev cX11_init : ByteArray := prog_1_method_1_code
def yX11_init : MethodName := ⟨RX11, "<init>", "()V"⟩
abbrev cX11_state : ByteArray := prog_1_method_2_code
def yX11_state : MethodName := ⟨RX11, "state", "()I"⟩
abbrev cX11_act : ByteArray := prog_1_method_3_code
def yX11_act : MethodName := ⟨RX11, "act", "(III)I"⟩
abbrev cX11_outcome : ByteArray := prog_1_method_4_code
def yX11_outcome : MethodName := ⟨RX11, "outcome", "(IIII)I"⟩
abbrev cX11_drop : ByteArray := prog_1_method_5_code
def yX11_drop : MethodName := ⟨RX11, "drop", "(I)I"⟩
abbrev cX11_mark : ByteArray := prog_1_method_6_code
def yX11_mark : MethodName := ⟨RX11, "mark", "(I)I"⟩
abbrev cX11_whole : ByteArray := prog_1_method_7_code
def yX11_whole : MethodName := ⟨RX11, "whole", "()I"⟩
abbrev cX11_value : ByteArray := prog_1_method_8_code
def yX11_value : MethodName := ⟨RX11, "value", "(IZI)J"⟩
abbrev cX11_choice : ByteArray := prog_1_method_9_code
def yX11_choice : MethodName := ⟨RX11, "choice", "(I)I"⟩
abbrev cX11_distance : ByteArray := prog_1_method_10_code
def yX11_distance : MethodName := ⟨RX11, "distance", "(I)I"⟩
abbrev cX11_sum : ByteArray := prog_1_method_11_code
def yX11_sum : MethodName := ⟨RX11, "sum", "(III)J"⟩
abbrev cX11_within : ByteArray := prog_1_method_12_code
def yX11_within : MethodName := ⟨RX11, "within", "(IIZI)J"⟩
abbrev cX11_bound : ByteArray := prog_1_method_13_code
def yX11_bound : MethodName := ⟨RX11, "bound", "(II)I"⟩
abbrev cX11_sets : ByteArray := prog_1_method_14_code
def yX11_sets : MethodName := ⟨RX11, "sets", "(I)I"⟩
abbrev cX11_reached : ByteArray := prog_1_method_15_code
def yX11_reached : MethodName := ⟨RX11, "reached", "(I)I"⟩
abbrev cX11_cost : ByteArray := prog_1_method_16_code
def yX11_cost : MethodName := ⟨RX11, "cost", "(II)J"⟩
abbrev cX11_hole : ByteArray := prog_1_method_17_code
def yX11_hole : MethodName := ⟨RX11, "hole", "(II)I"⟩
abbrev cX11_twin : ByteArray := prog_1_method_18_code
def yX11_twin : MethodName := ⟨RX11, "twin", "(I)I"⟩
abbrev cX11_count : ByteArray := prog_1_method_19_code
def yX11_count : MethodName := ⟨RX11, "count", "(I)I"⟩
abbrev cX11_look : ByteArray := prog_1_method_20_code
def yX11_look : MethodName := ⟨RX11, "look", "(III)I"⟩
abbrev cX11_keep : ByteArray := prog_1_method_21_code
def yX11_keep : MethodName := ⟨RX11, "keep", "(IIII)I"⟩
abbrev cX11_make : ByteArray := prog_1_method_22_code
def yX11_make : MethodName := ⟨RX11, "make", "(III)I"⟩
abbrev cX11_element : ByteArray := prog_1_method_23_code
def yX11_element : MethodName := ⟨RX11, "element", "(II)J"⟩
abbrev cX11_copy : ByteArray := prog_1_method_24_code
def yX11_copy : MethodName := ⟨RX11, "copy", "(IIIII)I"⟩
abbrev cX11_weight : ByteArray := prog_1_method_25_code
def yX11_weight : MethodName := ⟨RX11, "weight", "(I)J"⟩
abbrev cX11_ratio : ByteArray := prog_1_method_26_code
def yX11_ratio : MethodName := ⟨RX11, "ratio", "(II)J"⟩
abbrev cX11_refusalOf : ByteArray := prog_1_method_27_code
def yX11_refusalOf : MethodName := ⟨RX11, "refusalOf", "(LChanceCourt$Verdict;)I"⟩
abbrev cX11_fillShelf : ByteArray := prog_1_method_28_code
def yX11_fillShelf : MethodName := ⟨RX11, "fillShelf", "(LChanceCourt$Shelf;III)V"⟩
abbrev cX11_isHalf : ByteArray := prog_1_method_29_code
def yX11_isHalf : MethodName := ⟨RX11, "isHalf", "(I)Z"⟩
abbrev cX11_isShelf : ByteArray := prog_1_method_30_code
def yX11_isShelf : MethodName := ⟨RX11, "isShelf", "(I)Z"⟩
abbrev cX11_has : ByteArray := prog_1_method_31_code
def yX11_has : MethodName := ⟨RX11, "has", "(II)Z"⟩
abbrev cX11_lowestTerms : ByteArray := prog_1_method_32_code
def yX11_lowestTerms : MethodName := ⟨RX11, "lowestTerms", "(JJI)J"⟩
abbrev cX11_commonDivisor : ByteArray := prog_1_method_33_code
def yX11_commonDivisor : MethodName := ⟨RX11, "commonDivisor", "(JJ)J"⟩
def RX12 : String := "ChanceCourtModel"
def TX12 : u_T := fun k => match k with
  | 0 => ("ChanceCourtModel", "thrown", "I", false)
  | 1 => ("ChanceCourtModel", "states", "I", false)
  | 2 => ("ChanceCourtModel", "marked", "I", false)
  | 3 => ("ChanceCourtModel", "acts", "[I", true)
  | 4 => ("ChanceCourtModel", "kind", "[I", true)
  | 5 => ("ChanceCourtModel", "costOf", "[I", true)
  | 6 => ("ChanceCourtModel", "outcomes", "[I", true)
  | 7 => ("ChanceCourtModel", "to", "[I", true)
  | 8 => ("ChanceCourtModel", "part", "[I", true)
  | 9 => ("ChanceCourtModel", "matrix", "[J", true)
  | 10 => ("ChanceCourtModel", "chosen", "[I", true)
  | 11 => ("ChanceCourtModel", "asked", "[I", true)
  | 12 => ("ChanceCourtModel", "askedMany", "I", false)
  | 13 => ("ChanceCourtModel", "rowA", "[J", true)
  | 14 => ("ChanceCourtModel", "rowB", "[J", true)
  | 15 => ("ChanceCourtModel", "upper", "[J", true)
  | 16 => ("ChanceCourtModel", "lower", "[J", true)
  | 17 => ("ChanceCourtModel", "valueUpper", "[J", true)
  | 18 => ("ChanceCourtModel", "valueLower", "[J", true)
  | 19 => ("ChanceCourtModel", "worstUpper", "[J", true)
  | 20 => ("ChanceCourtModel", "worstLower", "[J", true)
  | 21 => ("ChanceCourtModel", "sumUpper", "J", false)
  | 22 => ("ChanceCourtModel", "sumLower", "J", false)
  | 23 => ("ChanceCourtModel", "far", "[I", true)
  | 24 => ("ChanceCourtModel", "now", "[J", true)
  | 25 => ("ChanceCourtModel", "then", "[J", true)
  | 26 => ("ChanceCourtModel", "scale", "J", false)
  | 27 => ("ChanceCourtModel", "costUpper", "[J", true)
  | 28 => ("ChanceCourtModel", "costLower", "[J", true)
  | 29 => ("ChanceCourtModel", "holes", "[I", true)
  | 30 => ("ChanceCourtModel", "holeMany", "I", false)
  | 31 => ("ChanceCourtModel", "classOf", "[I", true)
  | 32 => ("ChanceCourtModel", "classNext", "[I", true)
  | 33 => ("ChanceCourtModel", "shelf", "[I", true)
  | 34 => ("ChanceCourtModel", "shelfSize", "[I", true)
  | 35 => ("ChanceCourtModel", "shelfWeight", "[J", true)
  | 36 => ("ChanceCourtModel", "shelfRow", "[J", true)
  | _ => ("ChanceCourtModel", "between0", "[J", true)
def tyX12 : Nat → FieldType := fun k => match k with
  | 0 => .int
  | 1 => .int
  | 2 => .int
  | 3 => .array .int
  | 4 => .array .int
  | 5 => .array .int
  | 6 => .array .int
  | 7 => .array .int
  | 8 => .array .int
  | 9 => .array .long
  | 10 => .array .int
  | 11 => .array .int
  | 12 => .int
  | 13 => .array .long
  | 14 => .array .long
  | 15 => .array .long
  | 16 => .array .long
  | 17 => .array .long
  | 18 => .array .long
  | 19 => .array .long
  | 20 => .array .long
  | 21 => .long
  | 22 => .long
  | 23 => .array .int
  | 24 => .array .long
  | 25 => .array .long
  | 26 => .long
  | 27 => .array .long
  | 28 => .array .long
  | 29 => .array .int
  | 30 => .int
  | 31 => .array .int
  | 32 => .array .int
  | 33 => .array .int
  | 34 => .array .int
  | 35 => .array .long
  | 36 => .array .long
  | _ => .array .long
theorem nmX12 : ∀ a, a < 38 → ∀ b, b < 38 → a ≠ b → (TX12 a).2.1 ≠ (TX12 b).2.1 := by decide +kernel
theorem tyX12_ok : ∀ k, k < 38 → parseFieldDescriptor (TX12 k).2.2.1 = some (tyX12 k) := by decide +kernel
abbrev cX12_init : ByteArray := prog_14_method_1_code
def yX12_init : MethodName := ⟨RX12, "<init>", "()V"⟩
abbrev cX12_thrown : ByteArray := prog_14_method_2_code
def yX12_thrown : MethodName := ⟨RX12, "thrown", "()I"⟩
abbrev cX12_isIn : ByteArray := prog_14_method_3_code
def yX12_isIn : MethodName := ⟨RX12, "isIn", "(JJJ)Z"⟩
abbrev cX12_isState : ByteArray := prog_14_method_4_code
def yX12_isState : MethodName := ⟨RX12, "isState", "(I)Z"⟩
abbrev cX12_isAct : ByteArray := prog_14_method_5_code
def yX12_isAct : MethodName := ⟨RX12, "isAct", "(II)Z"⟩
abbrev cX12_isMarked : ByteArray := prog_14_method_6_code
def yX12_isMarked : MethodName := ⟨RX12, "isMarked", "(I)Z"⟩
abbrev cX12_isFoe : ByteArray := prog_14_method_7_code
def yX12_isFoe : MethodName := ⟨RX12, "isFoe", "(I)Z"⟩
abbrev cX12_state : ByteArray := prog_14_method_8_code
def yX12_state : MethodName := ⟨RX12, "state", "()I"⟩
abbrev cX12_act : ByteArray := prog_14_method_9_code
def yX12_act : MethodName := ⟨RX12, "act", "(III)I"⟩
abbrev cX12_partsOf : ByteArray := prog_14_method_10_code
def yX12_partsOf : MethodName := ⟨RX12, "partsOf", "(I)I"⟩
abbrev cX12_outcome : ByteArray := prog_14_method_11_code
def yX12_outcome : MethodName := ⟨RX12, "outcome", "(IIII)I"⟩
abbrev cX12_drop : ByteArray := prog_14_method_12_code
def yX12_drop : MethodName := ⟨RX12, "drop", "(I)I"⟩
abbrev cX12_mark : ByteArray := prog_14_method_13_code
def yX12_mark : MethodName := ⟨RX12, "mark", "(I)I"⟩
abbrev cX12_lacking : ByteArray := prog_14_method_14_code
def yX12_lacking : MethodName := ⟨RX12, "lacking", "()I"⟩
abbrev cX12_whole : ByteArray := prog_14_method_15_code
def yX12_whole : MethodName := ⟨RX12, "whole", "()I"⟩
abbrev cX12_allIn : ByteArray := prog_14_method_16_code
def yX12_allIn : MethodName := ⟨RX12, "allIn", "(II)Z"⟩
abbrev cX12_someIn : ByteArray := prog_14_method_17_code
def yX12_someIn : MethodName := ⟨RX12, "someIn", "(II)Z"⟩
abbrev cX12_wants : ByteArray := prog_14_method_18_code
def yX12_wants : MethodName := ⟨RX12, "wants", "(IZ)Z"⟩
abbrev cX12_leads : ByteArray := prog_14_method_19_code
def yX12_leads : MethodName := ⟨RX12, "leads", "(IIIZ)Z"⟩
abbrev cX12_comes : ByteArray := prog_14_method_20_code
def yX12_comes : MethodName := ⟨RX12, "comes", "(IZ)I"⟩
abbrev cX12_all : ByteArray := prog_14_method_21_code
def yX12_all : MethodName := ⟨RX12, "all", "()I"⟩
abbrev cX12_above : ByteArray := prog_14_method_22_code
def yX12_above : MethodName := ⟨RX12, "above", "(Z)I"⟩
abbrev cX12_ones : ByteArray := prog_14_method_23_code
def yX12_ones : MethodName := ⟨RX12, "ones", "(Z)I"⟩
abbrev cX12_gcd : ByteArray := prog_14_method_24_code
def yX12_gcd : MethodName := ⟨RX12, "gcd", "(JJ)J"⟩
abbrev cX12_determinant : ByteArray := prog_14_method_25_code
def yX12_determinant : MethodName := ⟨RX12, "determinant", "(I)J"⟩
abbrev cX12_placeOf : ByteArray := prog_14_method_26_code
def yX12_placeOf : MethodName := ⟨RX12, "placeOf", "(I)I"⟩
abbrev cX12_solve : ByteArray := prog_14_method_27_code
def yX12_solve : MethodName := ⟨RX12, "solve", "()V"⟩
abbrev cX12_layRow : ByteArray := prog_14_method_28_code
def yX12_layRow : MethodName := ⟨RX12, "layRow", "(II)V"⟩
abbrev cX12_comesChosen : ByteArray := prog_14_method_29_code
def yX12_comesChosen : MethodName := ⟨RX12, "comesChosen", "(II)I"⟩
abbrev cX12_chances : ByteArray := prog_14_method_30_code
def yX12_chances : MethodName := ⟨RX12, "chances", "(II)V"⟩
abbrev cX12_isBelow : ByteArray := prog_14_method_31_code
def yX12_isBelow : MethodName := ⟨RX12, "isBelow", "(JJJJ)Z"⟩
abbrev cX12_nextChoice : ByteArray := prog_14_method_32_code
def yX12_nextChoice : MethodName := ⟨RX12, "nextChoice", "(IZ)Z"⟩
abbrev cX12_countBits : ByteArray := prog_14_method_33_code
def yX12_countBits : MethodName := ⟨RX12, "countBits", "(I)I"⟩
abbrev cX12_worst : ByteArray := prog_14_method_34_code
def yX12_worst : MethodName := ⟨RX12, "worst", "(IIZ)V"⟩
abbrev cX12_findValues : ByteArray := prog_14_method_35_code
def yX12_findValues : MethodName := ⟨RX12, "findValues", "(Z)Z"⟩
abbrev cX12_value : ByteArray := prog_14_method_36_code
def yX12_value : MethodName := ⟨RX12, "value", "(IZI)J"⟩
abbrev cX12_findSum : ByteArray := prog_14_method_37_code
def yX12_findSum : MethodName := ⟨RX12, "findSum", "(I)V"⟩
abbrev cX12_isJust : ByteArray := prog_14_method_38_code
def yX12_isJust : MethodName := ⟨RX12, "isJust", "(II)Z"⟩
abbrev cX12_nearest : ByteArray := prog_14_method_39_code
def yX12_nearest : MethodName := ⟨RX12, "nearest", "(I)I"⟩
abbrev cX12_findDistances : ByteArray := prog_14_method_40_code
def yX12_findDistances : MethodName := ⟨RX12, "findDistances", "()V"⟩
abbrev cX12_refusal : ByteArray := prog_14_method_41_code
def yX12_refusal : MethodName := ⟨RX12, "refusal", "()J"⟩
abbrev cX12_choice : ByteArray := prog_14_method_42_code
def yX12_choice : MethodName := ⟨RX12, "choice", "(I)I"⟩
abbrev cX12_distance : ByteArray := prog_14_method_43_code
def yX12_distance : MethodName := ⟨RX12, "distance", "(I)I"⟩
abbrev cX12_sum : ByteArray := prog_14_method_44_code
def yX12_sum : MethodName := ⟨RX12, "sum", "(III)J"⟩
abbrev cX12_start : ByteArray := prog_14_method_45_code
def yX12_start : MethodName := ⟨RX12, "start", "()V"⟩
abbrev cX12_onwards : ByteArray := prog_14_method_46_code
def yX12_onwards : MethodName := ⟨RX12, "onwards", "(Z)V"⟩
abbrev cX12_within : ByteArray := prog_14_method_47_code
def yX12_within : MethodName := ⟨RX12, "within", "(IIZI)J"⟩
abbrev cX12_bound : ByteArray := prog_14_method_48_code
def yX12_bound : MethodName := ⟨RX12, "bound", "(II)I"⟩
abbrev cX12_sets : ByteArray := prog_14_method_49_code
def yX12_sets : MethodName := ⟨RX12, "sets", "(I)I"⟩
abbrev cX12_reachedFrom : ByteArray := prog_14_method_50_code
def yX12_reachedFrom : MethodName := ⟨RX12, "reachedFrom", "(II)I"⟩
abbrev cX12_reached : ByteArray := prog_14_method_51_code
def yX12_reached : MethodName := ⟨RX12, "reached", "(I)I"⟩
abbrev cX12_sureChosen : ByteArray := prog_14_method_52_code
def yX12_sureChosen : MethodName := ⟨RX12, "sureChosen", "(I)I"⟩
abbrev cX12_costsChosen : ByteArray := prog_14_method_53_code
def yX12_costsChosen : MethodName := ⟨RX12, "costsChosen", "(I)V"⟩
abbrev cX12_cost : ByteArray := prog_14_method_54_code
def yX12_cost : MethodName := ⟨RX12, "cost", "(II)J"⟩
abbrev cX12_together : ByteArray := prog_14_method_55_code
def yX12_together : MethodName := ⟨RX12, "together", "(II)I"⟩
abbrev cX12_staying : ByteArray := prog_14_method_56_code
def yX12_staying : MethodName := ⟨RX12, "staying", "(I)I"⟩
abbrev cX12_holeOf : ByteArray := prog_14_method_57_code
def yX12_holeOf : MethodName := ⟨RX12, "holeOf", "(I)I"⟩
abbrev cX12_findHoles : ByteArray := prog_14_method_58_code
def yX12_findHoles : MethodName := ⟨RX12, "findHoles", "()V"⟩
abbrev cX12_hole : ByteArray := prog_14_method_59_code
def yX12_hole : MethodName := ⟨RX12, "hole", "(II)I"⟩
abbrev cX12_partIn : ByteArray := prog_14_method_60_code
def yX12_partIn : MethodName := ⟨RX12, "partIn", "(II)I"⟩
abbrev cX12_areLike : ByteArray := prog_14_method_61_code
def yX12_areLike : MethodName := ⟨RX12, "areLike", "(II)Z"⟩
abbrev cX12_hasAll : ByteArray := prog_14_method_62_code
def yX12_hasAll : MethodName := ⟨RX12, "hasAll", "(II)Z"⟩
abbrev cX12_findClasses : ByteArray := prog_14_method_63_code
def yX12_findClasses : MethodName := ⟨RX12, "findClasses", "()I"⟩
abbrev cX12_twin : ByteArray := prog_14_method_64_code
def yX12_twin : MethodName := ⟨RX12, "twin", "(I)I"⟩
abbrev cX12_count : ByteArray := prog_14_method_65_code
def yX12_count : MethodName := ⟨RX12, "count", "(I)I"⟩
abbrev cX12_look : ByteArray := prog_14_method_66_code
def yX12_look : MethodName := ⟨RX12, "look", "(III)I"⟩
abbrev cX12_isShelf : ByteArray := prog_14_method_67_code
def yX12_isShelf : MethodName := ⟨RX12, "isShelf", "(I)Z"⟩
abbrev cX12_weightOf : ByteArray := prog_14_method_68_code
def yX12_weightOf : MethodName := ⟨RX12, "weightOf", "(I)I"⟩
abbrev cX12_keep : ByteArray := prog_14_method_69_code
def yX12_keep : MethodName := ⟨RX12, "keep", "(IIII)I"⟩
abbrev cX12_make : ByteArray := prog_14_method_70_code
def yX12_make : MethodName := ⟨RX12, "make", "(III)I"⟩
abbrev cX12_element : ByteArray := prog_14_method_71_code
def yX12_element : MethodName := ⟨RX12, "element", "(II)J"⟩
abbrev cX12_hasPlaces : ByteArray := prog_14_method_72_code
def yX12_hasPlaces : MethodName := ⟨RX12, "hasPlaces", "(III)Z"⟩
abbrev cX12_copy : ByteArray := prog_14_method_73_code
def yX12_copy : MethodName := ⟨RX12, "copy", "(IIIII)I"⟩
abbrev cX12_weight : ByteArray := prog_14_method_74_code
def yX12_weight : MethodName := ⟨RX12, "weight", "(I)J"⟩
abbrev cX12_ratio : ByteArray := prog_14_method_75_code
def yX12_ratio : MethodName := ⟨RX12, "ratio", "(II)J"⟩
def RJ6 : String := "java/lang/Integer"
abbrev cJ6_bitCount_0f7a4 : ByteArray := prog_18_method_49_code
def yJ6_bitCount_0f7a4 : MethodName := ⟨RJ6, "bitCount", "(I)I"⟩
def RJ0 : String := "java/lang/String"
def RJ10 : String := "java/lang/System"
def RJ7 : String := "java/util/Arrays"
abbrev cJ7_fill_d0a16 : ByteArray := prog_23_method_101_code
def yJ7_fill_d0a16 : MethodName := ⟨RJ7, "fill", "([JJ)V"⟩
abbrev cJ7_fill_53178 : ByteArray := prog_23_method_103_code
def yJ7_fill_53178 : MethodName := ⟨RJ7, "fill", "([II)V"⟩
def RL : String := "ChanceCourtLaw"
abbrev cL_element : ByteArray := method_3_code
def yL_element : MethodName := ⟨RL, "element", "(LChanceCourt;II[J)I"⟩
abbrev cL_law : ByteArray := code
def yL_law : MethodName := ⟨RL, "law", "([I)Z"⟩
abbrev vwCl : List vw_C := [(RX0, TX0, 7), (RX1, TX1, 5), (RX2, TX2, 4), (RX3, TX3, 6), (RX4, TX4, 5), (RX5, TX5, 8), (RX6, TX6, 5), (RX7, TX7, 6), (RX8, TX8, 11), (RX9, TX9, 3), (RX10, TX10, 5), (RX11, TX11, 10), (RX12, TX12, 38)]
end
section
/-! A SMALL MACHINE OVER LISTS (M1): references are places in a list of cells. What it does, the JVM does too (part 03). -/
/-- an instruction; its pc; its length; two numbers (field: class, place; call: method, how many it takes; jump: target); a constant; a switch's targets -/
abbrev xI : Type := Instr × Nat × Nat × Nat × Nat × Int × List Nat
abbrev aE : Type := (FieldType × vp_A) ⊕ (Nat × List Value)
abbrev aH : Type := List aE
abbrev aL : Type := List (Option Value)
/-- the script's reference -/
def sCR : Nat := 1000000
def a_get (L : aL) (k : Nat) : Option Value := match L[k]? with
  | some (some v) => some v
  | _ => none
def a_kill (L : aL) (k : Nat) : aL := match k with
  | 0 => L
  | j + 1 => match a_get L j with
    | some v => if v.category = 2 then L.set j none else L
    | none => L
def a_set1 (L : aL) (k : Nat) (v : Value) : aL := (a_kill L k).set k (some v)
def a_set2 (L : aL) (k : Nat) (v : Value) : aL := ((a_kill L k).set k (some v)).set (k + 1) none
/-- what changes the stack alone -/
def a_pure (x : Instr) (z : Int) (S : List Value) : Option (List Value) := match x with
  | .iconst n => some (.int (Int32.ofInt n) :: S)
  | .bipush n => some (.int (Int8.ofInt n).toInt32 :: S)
  | .sipush n => some (.int (Int16.ofInt n).toInt32 :: S)
  | .lconst n => some (.long (Int64.ofNat (n : Nat)) :: S)
  | .ldc _ => some (.int (Int32.ofInt z) :: S)
  | .ldc_w _ => some (.int (Int32.ofInt z) :: S)
  | .ldc2_w _ => some (.long (Int64.ofInt z) :: S)
  | .iadd => match S with | .int y :: .int x :: R => some (.int (x + y) :: R) | _ => none
  | .isub => match S with | .int y :: .int x :: R => some (.int (x - y) :: R) | _ => none
  | .imul => match S with | .int y :: .int x :: R => some (.int (x * y) :: R) | _ => none
  | .iand => match S with | .int y :: .int x :: R => some (.int (x &&& y) :: R) | _ => none
  | .ior => match S with | .int y :: .int x :: R => some (.int (x ||| y) :: R) | _ => none
  | .ixor => match S with | .int y :: .int x :: R => some (.int (x ^^^ y) :: R) | _ => none
  | .idiv => match S with | .int y :: .int x :: R => if y = 0 then none else some (.int (x / y) :: R) | _ => none
  | .irem => match S with | .int y :: .int x :: R => if y = 0 then none else some (.int (x - x / y * y) :: R) | _ => none
  | .ishl => match S with | .int y :: .int x :: R => some (.int (x <<< (y &&& 31)) :: R) | _ => none
  | .ishr => match S with | .int y :: .int x :: R => some (.int (x >>> (y &&& 31)) :: R) | _ => none
  | .iushr => match S with | .int y :: .int x :: R => some (.int (x.toUInt32 >>> (y.toUInt32 &&& Int32.toUInt32 31)).toInt32 :: R) | _ => none
  | .ladd => match S with | .long y :: .long x :: R => some (.long (x + y) :: R) | _ => none
  | .lsub => match S with | .long y :: .long x :: R => some (.long (x - y) :: R) | _ => none
  | .lmul => match S with | .long y :: .long x :: R => some (.long (x * y) :: R) | _ => none
  | .lor => match S with | .long y :: .long x :: R => some (.long (x ||| y) :: R) | _ => none
  | .ldiv => match S with | .long y :: .long x :: R => if y = 0 then none else some (.long (x / y) :: R) | _ => none
  | .lrem => match S with | .long y :: .long x :: R => if y = 0 then none else some (.long (x - x / y * y) :: R) | _ => none
  | .lneg => match S with | .long x :: R => some (.long (-x) :: R) | _ => none
  | .lshl => match S with | .int y :: .long x :: R => some (.long (x <<< (y.toInt64 &&& 63)) :: R) | _ => none
  | .lcmp => match S with | .long y :: .long x :: R => some (.int (lg_cmp x y) :: R) | _ => none
  | .i2l => match S with | .int x :: R => some (.long x.toInt64 :: R) | _ => none
  | .l2i => match S with | .long x :: R => some (.int x.toInt32 :: R) | _ => none
  | .dup => match S with | v :: R => if v.category = 1 then some (v :: v :: R) else none | _ => none
  | .pop => match S with | v :: R => if v.category = 1 then some R else none | _ => none
  | .dup2 => match S with | v :: w :: R => if v.category = 1 ∧ w.category = 1 then some (v :: w :: v :: w :: R) else if v.category = 2 then some (v :: v :: w :: R) else none | _ => none
  | _ => none
/-- what puts a local onto the stack -/
def a_load (x : Instr) (L : aL) : Option Value := match x with
  | .iload k => match a_get L k with | some (.int v) => some (.int v) | _ => none
  | .iload_n k => match a_get L k with | some (.int v) => some (.int v) | _ => none
  | .lload k => match a_get L k with | some (.long v) => some (.long v) | _ => none
  | .lload_n k => match a_get L k with | some (.long v) => some (.long v) | _ => none
  | .aload k => match a_get L k with | some (.ref v) => some (.ref v) | _ => none
  | .aload_n k => match a_get L k with | some (.ref v) => some (.ref v) | _ => none
  | _ => none
/-- what changes a local -/
def a_store (x : Instr) (L : aL) (S : List Value) : Option (aL × List Value) := match x with
  | .istore k => match S with | .int v :: R => if k < L.length then some (a_set1 L k (.int v), R) else none | _ => none
  | .istore_n k => match S with | .int v :: R => if (k : Nat) < L.length then some (a_set1 L k (.int v), R) else none | _ => none
  | .lstore k => match S with | .long v :: R => if k + 1 < L.length then some (a_set2 L k (.long v), R) else none | _ => none
  | .lstore_n k => match S with | .long v :: R => if (k : Nat) + 1 < L.length then some (a_set2 L k (.long v), R) else none | _ => none
  | .astore k => match S with | .ref v :: R => if k < L.length then some (a_set1 L k (.ref v), R) else none | _ => none
  | .astore_n k => match S with | .ref v :: R => if (k : Nat) < L.length then some (a_set1 L k (.ref v), R) else none | _ => none
  | .iinc k z => match a_get L k with | some (.int v) => if k < L.length then some (a_set1 L k (.int (v + Int32.ofInt z)), S) else none | _ => none
  | _ => none
/-- what jumps: whether, and the stack behind it -/
def a_br (x : Instr) (S : List Value) : Option (Bool × List Value) := match x with
  | .goto _ => some (true, S)
  | .ifCond .eq _ => match S with | .int v :: R => some (decide (v = 0), R) | _ => none
  | .ifCond .ne _ => match S with | .int v :: R => some (!decide (v = 0), R) | _ => none
  | .ifCond .lt _ => match S with | .int v :: R => some (decide (v < 0), R) | _ => none
  | .ifCond .ge _ => match S with | .int v :: R => some (decide (0 ≤ v), R) | _ => none
  | .ifCond .gt _ => match S with | .int v :: R => some (decide (0 < v), R) | _ => none
  | .ifCond .le _ => match S with | .int v :: R => some (decide (v ≤ 0), R) | _ => none
  | .if_icmp .eq _ => match S with | .int y :: .int x :: R => some (decide (x = y), R) | _ => none
  | .if_icmp .ne _ => match S with | .int y :: .int x :: R => some (!decide (x = y), R) | _ => none
  | .if_icmp .lt _ => match S with | .int y :: .int x :: R => some (decide (x < y), R) | _ => none
  | .if_icmp .ge _ => match S with | .int y :: .int x :: R => some (decide (y ≤ x), R) | _ => none
  | .if_icmp .gt _ => match S with | .int y :: .int x :: R => some (decide (y < x), R) | _ => none
  | .if_icmp .le _ => match S with | .int y :: .int x :: R => some (decide (x ≤ y), R) | _ => none
  | _ => none
/-- which target a switch takes: the first of the list is the default -/
def a_sw (lo : Int) (hi : Int) (tg : List Nat) (v : Int32) : Option Nat := if v.toInt < lo ∨ hi < v.toInt then tg[0]? else tg[(v.toInt - lo).toNat + 1]?
/-- the types of the fields, by class and place -/
def a_ty (ci k : Nat) : FieldType := match ci with
  | 0 => tyX0 k | 1 => tyX1 k | 2 => tyX2 k | 3 => tyX3 k | 4 => tyX4 k | 5 => tyX5 k | 6 => tyX6 k | 7 => tyX7 k | 8 => tyX8 k | 9 => tyX9 k | 10 => tyX10 k | 11 => tyX11 k | _ => tyX12 k
/-- a value that a field of the type takes as it is -/
def a_fit (ty : FieldType) (v : Value) : Bool := match v with
  | .int x => decide (narrow ty (.int x) = .int x) && fits ty (.int x)
  | .long x => fits ty (.long x)
  | .ref _ => fits ty .null
  | _ => false
def a_isRef (ty : FieldType) : Bool := match ty with
  | .object _ => true
  | .array _ => true
  | _ => false
def a_cell (h : aH) (n : Nat) : Option aE := if n = sCR then none else h[n]?
/-- reads of the heap -/
def a_read (xs : Nat × (Nat → Int32)) (x : xI) (S : List Value) (h : aH) : Option (List Value) := match x.1 with
  | .getfield _ => match S with
    | .ref n :: R => match a_cell h n with
      | some (.inr (c, fs)) => if c = x.2.2.2.1 then (match fs[x.2.2.2.2.1]? with | some v => some (v :: R) | none => none) else none
      | _ => none
    | _ => none
  | .iaload => match S with
    | .int j :: .ref n :: R => if n = sCR then (if ¬ (j < 0 ∨ xs.1 ≤ j.toNatClampNeg) then some (.int (xs.2 j.toNatClampNeg) :: R) else none) else match a_cell h n with
      | some (.inl (ty, len, .inl f)) => if ty = .int ∧ ¬ (j < 0 ∨ len ≤ j.toNatClampNeg) then some (.int (f j.toNatClampNeg) :: R) else none
      | _ => none
    | _ => none
  | .laload => match S with
    | .int j :: .ref n :: R => match a_cell h n with
      | some (.inl (ty, len, .inr (.inl f))) => if ty = .long ∧ ¬ (j < 0 ∨ len ≤ j.toNatClampNeg) then some (.long (f j.toNatClampNeg) :: R) else none
      | _ => none
    | _ => none
  | .aaload => match S with
    | .int j :: .ref n :: R => match a_cell h n with
      | some (.inl (ty, len, .inr (.inr (.inr (.inr f))))) => if a_isRef ty = true ∧ ¬ (j < 0 ∨ len ≤ j.toNatClampNeg) then (match f j.toNatClampNeg with | some k => some (.ref k :: R) | none => none) else none
      | _ => none
    | _ => none
  | .arraylength => match S with
    | .ref n :: R => if n = sCR then some (.int (Int32.ofNat xs.1) :: R) else match a_cell h n with
      | some (.inl (_, len, _)) => some (.int (Int32.ofNat len) :: R)
      | _ => none
    | _ => none
  | _ => none
def a_isCls (ci : Nat) (ty : FieldType) : Bool := match vwCl[ci]? with
  | some r => decide (ty = .object r.1)
  | none => false
/-- writes of the heap -/
def a_write (x : xI) (S : List Value) (h : aH) : Option (List Value × aH) := match x.1 with
  | .putfield _ => match S with
    | v :: .ref n :: R => match a_cell h n with
      | some (.inr (c, fs)) => if c = x.2.2.2.1 ∧ x.2.2.2.2.1 < fs.length ∧ a_fit (a_ty x.2.2.2.1 x.2.2.2.2.1) v = true then some (R, h.set n (.inr (c, fs.set x.2.2.2.2.1 v))) else none
      | _ => none
    | _ => none
  | .iastore => match S with
    | .int v :: .int j :: .ref n :: R => match a_cell h n with
      | some (.inl (ty, len, .inl f)) => if ty = .int ∧ ¬ (j < 0 ∨ len ≤ j.toNatClampNeg) then some (R, h.set n (.inl (ty, len, .inl (upd f j.toNatClampNeg v)))) else none
      | _ => none
    | _ => none
  | .lastore => match S with
    | .long v :: .int j :: .ref n :: R => match a_cell h n with
      | some (.inl (ty, len, .inr (.inl f))) => if ty = .long ∧ ¬ (j < 0 ∨ len ≤ j.toNatClampNeg) then some (R, h.set n (.inl (ty, len, .inr (.inl (vp_updL f j.toNatClampNeg v))))) else none
      | _ => none
    | _ => none
  | .aastore => match S with
    | .ref v :: .int j :: .ref n :: R => match a_cell h n, a_cell h v with
      | some (.inl (ty, len, .inr (.inr (.inr (.inr f))))), some (.inr (ci, _)) => if a_isCls ci ty = true ∧ ¬ (j < 0 ∨ len ≤ j.toNatClampNeg) then some (R, h.set n (.inl (ty, len, .inr (.inr (.inr (.inr (va_up f j.toNatClampNeg (some v)))))))) else none
      | _, _ => none
    | _ => none
  | _ => none
/-- an array of n zeros -/
def a_zero (ty : FieldType) (n : Nat) : Option vp_A := match ty with
  | .int => some (n, .inl (fun _ => 0))
  | .long => some (n, .inr (.inl (fun _ => 0)))
  | _ => none
/-- what a class's fields are at first -/
def a_new (ci : Nat) : Option (List Value) := match vwCl[ci]? with
  | some (_, _, N) => some ((List.range N).map (fun k => defaultValue (a_ty ci k)))
  | none => none
/-- what makes cells: the stack, the heap, how many cells and slots it takes -/
def a_make (x : xI) (S : List Value) (h : aH) : Option (List Value × aH × Nat × Nat) := if sCR ≤ h.length + 100 then none else match x.1 with
  | .new _ => match a_new x.2.2.2.1 with
    | some fs => some (.ref h.length :: S, h ++ [.inr (x.2.2.2.1, fs)], 1, fs.length)
    | none => none
  | .newarray ty => match S with
    | .int n :: R => if ¬ n < 0 ∧ n.toNatClampNeg * componentBytes (newarray.typeOf ty) ≤ 536870912 then (match a_zero (newarray.typeOf ty) n.toNatClampNeg with
      | some a => some (.ref h.length :: R, h ++ [.inl (newarray.typeOf ty, a)], 1, n.toNatClampNeg)
      | none => none) else none
    | _ => none
  | .anewarray _ => match S with
    | .int n :: R => match vwCl[x.2.2.2.1]? with
      | some r => if ¬ n < 0 ∧ n.toNatClampNeg * 4 ≤ 536870912 then some (.ref h.length :: R, h ++ [.inl (.object r.1, n.toNatClampNeg, .inr (.inr (.inr (.inr (fun _ => none)))))], 1, n.toNatClampNeg) else none
      | none => none
    | _ => none
  | .multianewarray _ _ => match S with
    | .int k :: .int n :: R => if ¬ n < 0 ∧ ¬ k < 0 ∧ n.toNatClampNeg ≤ 50 ∧ n.toNatClampNeg * 4 ≤ 536870912 ∧ k.toNatClampNeg * 8 ≤ 536870912 then
        some (.ref h.length :: R, (h ++ [.inl (.array .long, n.toNatClampNeg, .inr (.inr (.inr (.inr (fun i => if i < n.toNatClampNeg then some (h.length + 1 + i) else none)))))]) ++ (List.range n.toNatClampNeg).map (fun _ => .inl (.long, k.toNatClampNeg, .inr (.inl (fun _ => 0)))), 1 + n.toNatClampNeg, n.toNatClampNeg + n.toNatClampNeg * k.toNatClampNeg) else none
    | _ => none
  | _ => none
/-- System.arraycopy over ints and longs -/
def a_copy (S : List Value) (h : aH) : Option (List Value × aH) := match S with
  | .int n :: .int dp :: .ref d :: .int sp :: .ref a :: R => match a_cell h a, a_cell h d with
    | some (.inl (ty, n0, .inl f)), some (.inl (ty1, n1, .inl g)) => if ty = .int ∧ ty1 = .int ∧ ¬ sp < 0 ∧ ¬ dp < 0 ∧ ¬ n < 0 ∧ sp.toNatClampNeg + n.toNatClampNeg ≤ n0 ∧ dp.toNatClampNeg + n.toNatClampNeg ≤ n1 then some (R, h.set d (.inl (.int, n1, .inl (va_cpy f g sp.toNatClampNeg dp.toNatClampNeg n.toNatClampNeg)))) else none
    | some (.inl (ty, n0, .inr (.inl f))), some (.inl (ty1, n1, .inr (.inl g))) => if ty = .long ∧ ty1 = .long ∧ ¬ sp < 0 ∧ ¬ dp < 0 ∧ ¬ n < 0 ∧ sp.toNatClampNeg + n.toNatClampNeg ≤ n0 ∧ dp.toNatClampNeg + n.toNatClampNeg ≤ n1 then some (R, h.set d (.inl (.long, n1, .inr (.inl (va_cpy f g sp.toNatClampNeg dp.toNatClampNeg n.toNatClampNeg))))) else none
    | _, _ => none
  | _ => none
/-- how many words stand on a stack -/
def a_words (S : List Value) : Nat := (S.map fun v => v.category).sum
/-- an answer that a method of the type may give: the stack at its return -/
def a_ret (x : Instr) (rt : Option FieldType) (S : List Value) : Option (Option Value) := match x with
  | .return_ => if rt = none ∧ S = [] then some none else none
  | .ireturn => match S with | [.int v] => (match rt with | some ty => if narrow ty (.int v) = .int v then some (some (.int v)) else none | none => none) | _ => none
  | .lreturn => match S with | [.long v] => if rt = some .long then some (some (.long v)) else none | _ => none
  | .areturn => match S with | [.ref v] => (match rt with | some ty => if a_isRef ty = true then some (some (.ref v)) else none | none => none) | _ => none
  | _ => none
/-- a method: its name, code, locals, answer's type, how many arguments it takes, cells and slots that it may make, its instructions -/
abbrev aM : Type := MethodName × ByteArray × Nat × Option FieldType × Nat × (Nat × Nat) × List xI
/-- which arguments, as the locals begin -/
def a_args : List Value → aL
  | [] => []
  | v :: r => if v.category = 2 then some v :: none :: a_args r else some v :: a_args r
def a_locals (maxL : Nat) (vs : List Value) : aL := a_args vs ++ List.replicate (maxL - (a_args vs).length) none
/-- the receiver is an object of class z -/
def a_rcv (h : aH) (z : Int) (args : List Value) : Bool := match args with
  | .ref n :: _ => match a_cell h n with
    | some (.inr (ci, _)) => decide ((ci : Int) = z)
    | _ => false
  | _ => false
def a_isR (args : List Value) : Bool := match args with
  | .ref _ :: _ => true
  | _ => false
/-- calls that aren't methods of the table -/
def idInit : Nat := 1000
def idCopy : Nat := 1001
/-- THE MACHINE, goal first: from instruction i it comes to a return with Q. C: what calls do -/
def wp1 (xs : Nat × (Nat → Int32)) (C : Nat → List Value → aH → (Option Value → aH → Prop) → Prop) (MT : List aM) (tbl : List xI) (rt : Option FieldType) (Q : Option Value → aH → Prop) : Nat → Nat → aL → List Value → aH → Nat → Nat → Prop
  | 0, _, _, _, _, _, _ => False
  | n + 1, i, L, S, h, bc, bs => match tbl[i]? with
    | none => False
    | some x => match x.1 with
      | .invokevirtual _ => a_rcv h x.2.2.2.2.2.1 (S.take x.2.2.2.2.1).reverse = true ∧ a_words (S.drop x.2.2.2.2.1) ≤ 8 ∧ x.2.2.2.2.1 ≤ S.length ∧ ∃ M, MT[x.2.2.2.1]? = some M ∧ M.2.2.2.2.2.1.1 ≤ bc ∧ M.2.2.2.2.2.1.2 ≤ bs ∧ C x.2.2.2.1 (S.take x.2.2.2.2.1).reverse h (fun r h' => wp1 xs C MT tbl rt Q n (i + 1) L (r.toList ++ S.drop x.2.2.2.2.1) h' (bc - M.2.2.2.2.2.1.1) (bs - M.2.2.2.2.2.1.2))
      | .invokestatic _ => if x.2.2.2.1 = idCopy then (∃ R h', a_copy S h = some (R, h') ∧ a_words R ≤ 8 ∧ wp1 xs C MT tbl rt Q n (i + 1) L R h' bc bs) else
        a_words (S.drop x.2.2.2.2.1) ≤ 8 ∧ x.2.2.2.2.1 ≤ S.length ∧ ∃ M, MT[x.2.2.2.1]? = some M ∧ M.2.2.2.2.2.1.1 ≤ bc ∧ M.2.2.2.2.2.1.2 ≤ bs ∧ C x.2.2.2.1 (S.take x.2.2.2.2.1).reverse h (fun r h' => wp1 xs C MT tbl rt Q n (i + 1) L (r.toList ++ S.drop x.2.2.2.2.1) h' (bc - M.2.2.2.2.2.1.1) (bs - M.2.2.2.2.2.1.2))
      | .invokespecial _ => if x.2.2.2.1 = idInit then (∃ v R, S = .ref v :: R ∧ a_words R ≤ 8 ∧ wp1 xs C MT tbl rt Q n (i + 1) L R h bc bs) else
        a_isR (S.take x.2.2.2.2.1).reverse = true ∧ a_words (S.drop x.2.2.2.2.1) ≤ 8 ∧ x.2.2.2.2.1 ≤ S.length ∧ ∃ M, MT[x.2.2.2.1]? = some M ∧ M.2.2.2.2.2.1.1 ≤ bc ∧ M.2.2.2.2.2.1.2 ≤ bs ∧ C x.2.2.2.1 (S.take x.2.2.2.2.1).reverse h (fun r h' => wp1 xs C MT tbl rt Q n (i + 1) L (r.toList ++ S.drop x.2.2.2.2.1) h' (bc - M.2.2.2.2.2.1.1) (bs - M.2.2.2.2.2.1.2))
      | .tableswitch _ lo hi _ => match S with
        | .int v :: R => (match a_sw lo hi x.2.2.2.2.2.2 v with | some j => wp1 xs C MT tbl rt Q n j L R h bc bs | none => False)
        | _ => False
      | _ => match a_ret x.1 rt S with
        | some r => Q r h
        | none => match a_pure x.1 x.2.2.2.2.2.1 S with
          | some R => wp1 xs C MT tbl rt Q n (i + 1) L R h bc bs
          | none => match a_load x.1 L with
            | some v => wp1 xs C MT tbl rt Q n (i + 1) L (v :: S) h bc bs
            | none => match a_store x.1 L S with
              | some (L', R) => wp1 xs C MT tbl rt Q n (i + 1) L' R h bc bs
              | none => match a_br x.1 S with
                | some (b, R) => wp1 xs C MT tbl rt Q n (if b then x.2.2.2.1 else i + 1) L R h bc bs
                | none => match a_read xs x S h with
                  | some R => wp1 xs C MT tbl rt Q n (i + 1) L R h bc bs
                  | none => match a_write x S h with
                    | some (R, h') => wp1 xs C MT tbl rt Q n (i + 1) L R h' bc bs
                    | none => match a_make x S h with
                      | some (R, h', kc, ks) => kc ≤ bc ∧ ks ≤ bs ∧ wp1 xs C MT tbl rt Q n (i + 1) L R h' (bc - kc) (bs - ks)
                      | none => False
/-- a call of method j, at most d calls deep; P: what is known of some methods otherwise -/
def call1 (xs : Nat × (Nat → Int32)) (MT : List aM) (P : Nat → Nat → List Value → aH → (Option Value → aH → Prop) → Prop) : Nat → Nat → List Value → aH → (Option Value → aH → Prop) → Prop
  | 0, j, args, h, Q => P 0 j args h Q
  | d + 1, j, args, h, Q => P (d + 1) j args h Q ∨ ∃ M, MT[j]? = some M ∧ args.length = M.2.2.2.2.1 ∧ (a_args args).length ≤ M.2.2.1 ∧ ∃ n, wp1 xs (call1 xs MT P d) MT M.2.2.2.2.2.2 M.2.2.2.1 Q n 0 (a_locals M.2.2.1 args) [] h M.2.2.2.2.2.1.1 M.2.2.2.2.2.1.2
end
section
/-! WHAT M1'S STATES ARE IN THE JVM -/
def RV (b : Nat) (ad : List Nat) (v v' : Value) : Prop := match v with
  | .ref n => if n = sCR then v' = .ref b else ∃ a, ad[n]? = some a ∧ v' = .ref a
  | w => v' = w
def RVs (b : Nat) (ad : List Nat) : List Value → List Value → Prop
  | [], S' => S' = []
  | v :: S, S' => ∃ v' R', S' = v' :: R' ∧ RV b ad v v' ∧ RVs b ad S R'
theorem RV_ref {b : Nat} {ad : List Nat} {n : Nat} {v' : Value} : RV b ad (.ref n) v' ↔ (if n = sCR then v' = .ref b else ∃ a, ad[n]? = some a ∧ v' = .ref a) := Iff.rfl
theorem RV_int {b : Nat} {ad : List Nat} {x : Int32} {v' : Value} (h : RV b ad (.int x) v') : v' = .int x := h
theorem RV_long {b : Nat} {ad : List Nat} {x : Int64} {v' : Value} (h : RV b ad (.long x) v') : v' = .long x := h
theorem pf_at {α : Type} {a r : List α} {n : Nat} {x : α} (h : a[n]? = some x) : (a ++ r)[n]? = some x := by
  rw [List.getElem?_append_left (List.getElem?_eq_some_iff.mp h).1]; exact h
theorem RV.mono {b : Nat} {ad r : List Nat} {v v' : Value} (h : RV b ad v v') : RV b (ad ++ r) v v' := by
  cases v with
  | ref n =>
    rw [RV_ref] at h ⊢
    by_cases hn : n = sCR
    · rw [if_pos hn] at h ⊢; exact h
    · rw [if_neg hn] at h ⊢
      obtain ⟨a, h1, h2⟩ := h
      exact ⟨a, pf_at h1, h2⟩
  | _ => exact h
theorem RV.cat {b : Nat} {ad : List Nat} {v v' : Value} (h : RV b ad v v') : v'.category = v.category := by
  cases v with
  | ref n =>
    rw [RV_ref] at h
    by_cases hn : n = sCR
    · rw [if_pos hn] at h; rw [h]; rfl
    · rw [if_neg hn] at h
      obtain ⟨a, -, h2⟩ := h
      rw [h2]; rfl
  | _ => rw [show v' = _ from h]
theorem RV.isRef {b : Nat} {ad : List Nat} {n : Nat} {v' : Value} (h : RV b ad (.ref n) v') : ∃ a, v' = .ref a := by
  rw [RV_ref] at h
  by_cases hn : n = sCR
  · rw [if_pos hn] at h; exact ⟨_, h⟩
  · rw [if_neg hn] at h
    obtain ⟨a, -, h2⟩ := h
    exact ⟨a, h2⟩
theorem RVs.mono {b : Nat} {ad r : List Nat} : ∀ {S S' : List Value}, RVs b ad S S' → RVs b (ad ++ r) S S'
  | [], _, h => h
  | _ :: _, _, ⟨v', R', h1, h2, h3⟩ => ⟨v', R', h1, h2.mono, h3.mono⟩
theorem RVs.words {b : Nat} {ad : List Nat} : ∀ {S S' : List Value}, RVs b ad S S' → (S'.map fun v => v.category).sum = a_words S
  | [], _, h => by rw [show _ = [] from h]; rfl
  | v :: S, _, ⟨v', R', h1, h2, h3⟩ => by
    subst h1
    simp only [a_words, List.map_cons, List.sum_cons]
    rw [h2.cat, h3.words]; rfl
theorem RVs.length {b : Nat} {ad : List Nat} : ∀ {S S' : List Value}, RVs b ad S S' → S'.length = S.length
  | [], _, h => by rw [show _ = [] from h]
  | v :: S, _, ⟨v', R', h1, h2, h3⟩ => by subst h1; simp [h3.length]
theorem RVs.drop {b : Nat} {ad : List Nat} : ∀ (k : Nat) {S S' : List Value}, RVs b ad S S' → RVs b ad (S.drop k) (S'.drop k)
  | 0, _, _, h => h
  | k + 1, [], _, h => by rw [show _ = [] from h]; exact (rfl : RVs b ad [] [])
  | k + 1, v :: S, _, ⟨v', R', h1, h2, h3⟩ => by subst h1; exact h3.drop k
theorem RVs.take {b : Nat} {ad : List Nat} : ∀ (k : Nat) {S S' : List Value}, RVs b ad S S' → RVs b ad (S.take k) (S'.take k)
  | 0, _, _, h => by rw [List.take_zero, List.take_zero]; exact rfl
  | k + 1, [], _, h => by rw [show _ = [] from h]; exact (rfl : RVs b ad [] [])
  | k + 1, v :: S, _, ⟨v', R', h1, h2, h3⟩ => by subst h1; exact ⟨v', R'.take k, rfl, h2, h3.take k⟩
theorem RVs.app {b : Nat} {ad : List Nat} : ∀ {S S' T T' : List Value}, RVs b ad S S' → RVs b ad T T' → RVs b ad (S ++ T) (S' ++ T')
  | [], _, T, T', h, k => by rw [show _ = [] from h]; exact k
  | v :: S, _, T, T', ⟨v', R', h1, h2, h3⟩, k => by subst h1; exact ⟨v', R' ++ T', rfl, h2, h3.app k⟩
theorem RVs.rev {b : Nat} {ad : List Nat} : ∀ {S S' : List Value}, RVs b ad S S' → RVs b ad S.reverse S'.reverse
  | [], _, h => by rw [show _ = [] from h]; exact rfl
  | v :: S, _, ⟨v', R', h1, h2, h3⟩ => by
    subst h1
    rw [List.reverse_cons, List.reverse_cons]
    exact h3.rev.app ⟨v', [], rfl, h2, rfl⟩
theorem RVs.at {b : Nat} {ad : List Nat} : ∀ {S S' : List Value} {k : Nat} {v : Value}, RVs b ad S S' → S[k]? = some v → ∃ v', S'[k]? = some v' ∧ RV b ad v v'
  | [], _, _, _, _, h => by simp at h
  | w :: S, _, 0, v, ⟨v', R', h1, h2, h3⟩, h => by subst h1; rw [List.getElem?_cons_zero] at h; cases h; exact ⟨v', rfl, h2⟩
  | w :: S, _, k + 1, v, ⟨v', R', h1, h2, h3⟩, h => by subst h1; rw [List.getElem?_cons_succ] at h ⊢; exact h3.at h
theorem RVs.set {b : Nat} {ad : List Nat} : ∀ {S S' : List Value} (k : Nat) {v v' : Value}, RVs b ad S S' → RV b ad v v' → RVs b ad (S.set k v) (S'.set k v')
  | [], _, _, _, _, h, _ => by rw [show _ = [] from h]; exact (rfl : RVs b ad [] [])
  | w :: S, _, 0, v, v', ⟨w', R', h1, h2, h3⟩, h => by subst h1; exact ⟨v', R', rfl, h, h3⟩
  | w :: S, _, k + 1, v, v', ⟨w', R', h1, h2, h3⟩, h => by subst h1; exact ⟨w', R'.set k v', rfl, h2, h3.set k h⟩
theorem RVs.c1 {b : Nat} {ad : List Nat} {v : Value} {S S' : List Value} (h : RVs b ad (v :: S) S') : ∃ v' R', S' = v' :: R' ∧ RV b ad v v' ∧ RVs b ad S R' := h
/-- the locals -/
def LR (b : Nat) (ad : List Nat) (L : aL) (ls : Array Slot) : Prop := ls.size = L.length ∧ lv_wf ls ∧ ∀ (k : Nat) (v : Value), a_get L k = some v → ∃ v', ls[k]? = some (.val v') ∧ RV b ad v v'
theorem LR.mono {b : Nat} {ad r : List Nat} {L : aL} {ls : Array Slot} (h : LR b ad L ls) : LR b (ad ++ r) L ls := ⟨h.1, h.2.1, fun k v hk => by obtain ⟨v', h1, h2⟩ := h.2.2 k v hk; exact ⟨v', h1, h2.mono⟩⟩
theorem a_get_lt {L : aL} {k : Nat} {v : Value} (h : a_get L k = some v) : L[k]? = some (some v) := by
  unfold a_get at h
  split at h <;> simp_all
theorem a_get_some {L : aL} {k : Nat} {v : Value} (h : L[k]? = some (some v)) : a_get L k = some v := by unfold a_get; rw [h]
theorem a_kill_len (L : aL) (k : Nat) : (a_kill L k).length = L.length := by
  unfold a_kill
  split
  · rfl
  · split
    · split <;> simp
    · rfl
theorem a_kill_get {L : aL} {k j : Nat} {v : Value} (h : a_get (a_kill L k) j = some v) : a_get L j = some v ∧ ¬ (j + 1 = k ∧ v.category = 2) := by
  unfold a_kill at h
  split at h
  · exact ⟨h, by omega⟩
  · rename_i i
    split at h
    · rename_i w hw
      split at h
      · rename_i hc
        by_cases hj : j = i
        · subst hj
          have := a_get_lt h
          rw [List.getElem?_set] at this
          simp at this
        · have h2 := a_get_lt h
          rw [List.getElem?_set_ne (Ne.symm hj)] at h2
          exact ⟨a_get_some h2, by omega⟩
      · rename_i hc
        refine ⟨h, fun q => ?_⟩
        have e : j = i := by omega
        subst e
        rw [hw] at h
        cases h
        exact hc q.2
    · rename_i hw
      refine ⟨h, fun q => ?_⟩
      have e : j = i := by omega
      subst e
      rw [hw] at h
      cases h
theorem a_set1_len (L : aL) (k : Nat) (v : Value) : (a_set1 L k v).length = L.length := by unfold a_set1; rw [List.length_set, a_kill_len]
theorem a_set2_len (L : aL) (k : Nat) (v : Value) : (a_set2 L k v).length = L.length := by unfold a_set2; rw [List.length_set, List.length_set, a_kill_len]
theorem a_set1_get {L : aL} {k j : Nat} {v w : Value} (h : a_get (a_set1 L k v) j = some w) : (j = k ∧ w = v) ∨ (j ≠ k ∧ a_get L j = some w ∧ ¬ (j + 1 = k ∧ w.category = 2)) := by
  unfold a_set1 at h
  by_cases hj : j = k
  · subst hj
    have h2 := a_get_lt h
    rw [List.getElem?_set] at h2
    simp only [if_true] at h2
    split at h2
    · cases h2; exact Or.inl ⟨rfl, rfl⟩
    · cases h2
  · have h2 := a_get_lt h
    rw [List.getElem?_set_ne (Ne.symm hj)] at h2
    exact Or.inr ⟨hj, a_kill_get (a_get_some h2)⟩
theorem a_set2_get {L : aL} {k j : Nat} {v w : Value} (h : a_get (a_set2 L k v) j = some w) : (j = k ∧ w = v) ∨ (j ≠ k ∧ j ≠ k + 1 ∧ a_get L j = some w ∧ ¬ (j + 1 = k ∧ w.category = 2)) := by
  unfold a_set2 at h
  have h2 := a_get_lt h
  by_cases hk : j = k + 1
  · subst hk
    rw [List.getElem?_set] at h2
    simp at h2
  · rw [List.getElem?_set_ne (Ne.symm hk)] at h2
    rcases a_set1_get (L := L) (k := k) (v := v) (a_get_some h2) with q | q
    · exact Or.inl q
    · exact Or.inr ⟨q.1, hk, q.2⟩
/-- all that the locals hold -/
def lvAll (ls : Array Slot) : List (Nat × Value) := (List.range ls.size).filterMap (fun (k : Nat) => match (ls[k]? : Option Slot) with
  | some (Slot.val v) => some (k, v)
  | _ => none)
theorem lvAll_mem {ls : Array Slot} {k : Nat} {v : Value} : (k, v) ∈ lvAll ls ↔ ls[k]? = some (.val v) := by
  unfold lvAll
  rw [List.mem_filterMap]
  constructor
  · rintro ⟨i, -, h⟩
    split at h
    · rename_i w hw
      cases h
      exact hw
    · cases h
  · intro h
    refine ⟨k, List.mem_range.mpr (Array.getElem?_eq_some_iff.mp h).1, ?_⟩
    rw [h]
theorem lvAll_has {ls : Array Slot} (h : lv_wf ls) : lv_has ls ls.size (lvAll ls) := ⟨rfl, h, fun q hq => lvAll_mem.mp hq⟩
theorem LR.set1 {b : Nat} {ad : List Nat} {L : aL} {ls ls' : Array Slot} {k : Nat} {v v' : Value} (h : LR b ad L ls) (hv : RV b ad v v')
    (h' : lv_has ls' ls.size ((k, v') :: (lvAll ls).filter (fun q => !(q.1 == k) && !(q.1 + 1 == k && q.2.category == 2)))) : LR b ad (a_set1 L k v) ls' := by
  refine ⟨by rw [a_set1_len, ← h.1]; exact h'.1, h'.2.1, fun j w hj => ?_⟩
  rcases a_set1_get hj with ⟨h1, h2⟩ | ⟨h1, h2, h3⟩
  · subst h1; subst h2
    exact ⟨v', h'.2.2 (j, v') List.mem_cons_self, hv⟩
  · obtain ⟨w', h4, h5⟩ := h.2.2 j w h2
    refine ⟨w', h'.2.2 (j, w') (List.mem_cons_of_mem _ (List.mem_filter.mpr ⟨lvAll_mem.mpr h4, ?_⟩)), h5⟩
    simp only [Bool.and_eq_true, Bool.not_eq_true', beq_eq_false_iff_ne, ne_eq, Bool.and_eq_false_iff]
    refine ⟨h1, ?_⟩
    by_cases q : j + 1 = k
    · exact Or.inr (by rw [h5.cat]; exact fun z => h3 ⟨q, z⟩)
    · exact Or.inl q
theorem LR.set2 {b : Nat} {ad : List Nat} {L : aL} {ls ls' : Array Slot} {k : Nat} {v v' : Value} (h : LR b ad L ls) (hv : RV b ad v v')
    (h' : lv_has ls' ls.size ((k, v') :: (lvAll ls).filter (fun q => !(q.1 == k) && (!(q.1 == k + 1) && !(q.1 + 1 == k && q.2.category == 2))))) : LR b ad (a_set2 L k v) ls' := by
  refine ⟨by rw [a_set2_len, ← h.1]; exact h'.1, h'.2.1, fun j w hj => ?_⟩
  rcases a_set2_get hj with ⟨h1, h2⟩ | ⟨h1, h0, h2, h3⟩
  · subst h1; subst h2
    exact ⟨v', h'.2.2 (j, v') List.mem_cons_self, hv⟩
  · obtain ⟨w', h4, h5⟩ := h.2.2 j w h2
    refine ⟨w', h'.2.2 (j, w') (List.mem_cons_of_mem _ (List.mem_filter.mpr ⟨lvAll_mem.mpr h4, ?_⟩)), h5⟩
    simp only [Bool.and_eq_true, Bool.not_eq_true', beq_eq_false_iff_ne, ne_eq, Bool.and_eq_false_iff]
    refine ⟨h1, h0, ?_⟩
    by_cases q : j + 1 = k
    · exact Or.inr (by rw [h5.cat]; exact fun z => h3 ⟨q, z⟩)
    · exact Or.inl q
/-- the cells -/
def AR (b : Nat) (ad : List Nat) (n : Nat) (c c' : (Nat → Int32) ⊕ (Nat → Int64) ⊕ (Nat → UInt32) ⊕ (Nat → UInt64) ⊕ (Nat → Option Nat)) : Prop := match c, c' with
  | .inl f, .inl g => f = g
  | .inr (.inl f), .inr (.inl g) => f = g
  | .inr (.inr (.inr (.inr f))), .inr (.inr (.inr (.inr g))) => ∀ i, i < n → match f i with
    | none => g i = none
    | some k => ∃ a, RV b ad (.ref k) (.ref a) ∧ g i = some a
  | _, _ => False
def CR (b : Nat) (ad : List Nat) (tys : List (ClassId × FieldType)) (e : aE) (x : va_E) : Prop := match e with
  | .inl (ty, n, c) => ∃ cA c', x = .inl (cA, n, c') ∧ (∃ t0 : Nat, tys[t0]? = some (cA, ty)) ∧ AR b ad n c c'
  | .inr (ci, fs) => ∃ fs', x = .inr (ci, fs') ∧ RVs b ad fs fs'
def WR (b : Nat) (ad : List Nat) (tys : List (ClassId × FieldType)) (h : aH) (ws : va_W) : Prop := ws.length = h.length ∧ ws.map Prod.fst = ad ∧ ∀ (i : Nat) (e : aE), h[i]? = some e → ∃ a x, ws[i]? = some (a, x) ∧ ad[i]? = some a ∧ CR b ad tys e x
def World (D : va_G) (A : Nat → Prop) (b : Nat) (ad : List Nat) (h : aH) (H : Heap) (s : State) : Prop := ∃ (ws : va_W) (tys : List (ClassId × FieldType)), va_P D vwCl ws H ∧ va_D A ws ∧ va_K D vwCl tys s ∧ WR b ad tys h ws
theorem AR.mono {b : Nat} {ad r : List Nat} {n : Nat} {c c' : (Nat → Int32) ⊕ (Nat → Int64) ⊕ (Nat → UInt32) ⊕ (Nat → UInt64) ⊕ (Nat → Option Nat)} (h : AR b ad n c c') : AR b (ad ++ r) n c c' := by
  unfold AR at h ⊢
  split at h
  · exact h
  · exact h
  · intro i hi
    have h1 := h i hi
    split at h1
    · exact h1
    · rename_i k q
      obtain ⟨a, h2, h3⟩ := h1
      exact ⟨a, h2.mono, h3⟩
  · exact h
theorem CR.mono {b : Nat} {ad r : List Nat} {tys ty2 : List (ClassId × FieldType)} {e : aE} {x : va_E} (h : CR b ad tys e x) : CR b (ad ++ r) (tys ++ ty2) e x := by
  obtain ⟨ty, n, c⟩ | ⟨ci, fs⟩ := e
  · obtain ⟨cA, c', h1, ⟨t0, h2⟩, h3⟩ := h
    exact ⟨cA, c', h1, ⟨t0, pf_at h2⟩, h3.mono⟩
  · obtain ⟨fs', h1, h2⟩ := h
    exact ⟨fs', h1, h2.mono⟩
theorem WR.ad_len {b : Nat} {ad : List Nat} {tys : List (ClassId × FieldType)} {h : aH} {ws : va_W} (w : WR b ad tys h ws) : ad.length = h.length := by rw [← w.2.1, List.length_map, w.1]
/-- one cell anew -/
theorem WR.set {b : Nat} {ad : List Nat} {tys : List (ClassId × FieldType)} {h : aH} {ws : va_W} (w : WR b ad tys h ws) {n a : Nat} {x x' : va_E} {e' : aE} (hn : ws[n]? = some (a, x)) (hc : CR b ad tys e' x') : WR b ad tys (h.set n e') (ws.set n (a, x')) := by
  have hl := (List.getElem?_eq_some_iff.mp hn).1
  refine ⟨by rw [List.length_set, List.length_set]; exact w.1, ?_, fun i e hi => ?_⟩
  · rw [← w.2.1, List.map_set]
    apply List.ext_getElem?
    intro i
    by_cases hi : i = n
    · subst hi
      rw [List.getElem?_set_self (by simpa using hl), List.getElem?_map, hn]; rfl
    · rw [List.getElem?_set_ne (Ne.symm hi)]
  · by_cases hin : i = n
    · subst hin
      rw [List.getElem?_set_self (by rw [← w.1]; exact hl)] at hi
      cases hi
      refine ⟨a, x', by rw [List.getElem?_set_self hl], ?_, hc⟩
      rw [← w.2.1, List.getElem?_map, hn]; rfl
    · rw [List.getElem?_set_ne (Ne.symm hin)] at hi ⊢
      exact w.2.2 i e hi
/-- one cell more -/
theorem WR.push {b : Nat} {ad : List Nat} {tys ty2 : List (ClassId × FieldType)} {h : aH} {ws : va_W} (w : WR b ad tys h ws) {a : Nat} {x : va_E} {e : aE} (hc : CR b (ad ++ [a]) (tys ++ ty2) e x) : WR b (ad ++ [a]) (tys ++ ty2) (h ++ [e]) (ws ++ [(a, x)]) := by
  have hal := w.ad_len
  refine ⟨by simp [w.1], by rw [List.map_append, w.2.1]; rfl, fun i e1 hi => ?_⟩
  by_cases hlt : i < h.length
  · rw [List.getElem?_append_left hlt] at hi
    obtain ⟨a1, x1, h1, h2, h3⟩ := w.2.2 i e1 hi
    exact ⟨a1, x1, pf_at h1, pf_at h2, h3.mono⟩
  · have hl2 := (List.getElem?_eq_some_iff.mp hi).1
    rw [List.length_append] at hl2
    have e0 : i = h.length := by simp at hl2; omega
    subst e0
    rw [List.getElem?_append_right (Nat.le_refl _), Nat.sub_self] at hi
    cases hi
    refine ⟨a, x, ?_, ?_, hc⟩
    · rw [← w.1, List.getElem?_append_right (Nat.le_refl _), Nat.sub_self]; rfl
    · rw [← hal, List.getElem?_append_right (Nat.le_refl _), Nat.sub_self]; rfl
end
section
/-! M1'S STEPS ARE THE JVM'S (1): stack, locals, jumps -/
def a_len (x : Instr) : Nat := match x with
  | .bipush _ => 2 | .sipush _ => 3 | .ldc _ => 2 | .ldc_w _ => 3 | .ldc2_w _ => 3
  | .iload _ => 2 | .lload _ => 2 | .aload _ => 2 | .istore _ => 2 | .lstore _ => 2 | .astore _ => 2 | .iinc _ _ => 3
  | .goto _ => 3 | .ifCond _ _ => 3 | .if_icmp _ _ => 3
  | .getfield _ => 3 | .putfield _ => 3 | .invokevirtual _ => 3 | .invokestatic _ => 3 | .invokespecial _ => 3
  | .new _ => 3 | .newarray _ => 2 | .anewarray _ => 3 | .multianewarray _ _ => 4
  | _ => 1
/-- what the constant pool must hold -/
def a_const (own : String) (x : Instr) (z : Int) : Option Cond := match x with
  | .ldc k => some (.constant own k (Int32.ofInt z))
  | .ldc_w k => some (.constant own k (Int32.ofInt z))
  | .ldc2_w k => some (.constantLong own k (Int64.ofInt z))
  | _ => none
theorem RVs.i1 {b : Nat} {ad : List Nat} {x : Int32} {S S' : List Value} (h : RVs b ad (.int x :: S) S') : ∃ R', S' = .int x :: R' ∧ RVs b ad S R' := by
  obtain ⟨v', R', h1, h2, h3⟩ := h
  rw [show v' = .int x from h2] at h1
  exact ⟨R', h1, h3⟩
theorem RVs.l1 {b : Nat} {ad : List Nat} {x : Int64} {S S' : List Value} (h : RVs b ad (.long x :: S) S') : ∃ R', S' = .long x :: R' ∧ RVs b ad S R' := by
  obtain ⟨v', R', h1, h2, h3⟩ := h
  rw [show v' = .long x from h2] at h1
  exact ⟨R', h1, h3⟩
theorem RVs.i2 {b : Nat} {ad : List Nat} {x y : Int32} {S S' : List Value} (h : RVs b ad (.int y :: .int x :: S) S') : ∃ R', S' = .int y :: .int x :: R' ∧ RVs b ad S R' := by
  obtain ⟨R1, h1, h2⟩ := h.i1
  obtain ⟨R2, h3, h4⟩ := h2.i1
  subst h3
  exact ⟨R2, h1, h4⟩
theorem RVs.l2 {b : Nat} {ad : List Nat} {x y : Int64} {S S' : List Value} (h : RVs b ad (.long y :: .long x :: S) S') : ∃ R', S' = .long y :: .long x :: R' ∧ RVs b ad S R' := by
  obtain ⟨R1, h1, h2⟩ := h.l1
  obtain ⟨R2, h3, h4⟩ := h2.l1
  subst h3
  exact ⟨R2, h1, h4⟩
theorem RVs.il {b : Nat} {ad : List Nat} {x : Int64} {y : Int32} {S S' : List Value} (h : RVs b ad (.int y :: .long x :: S) S') : ∃ R', S' = .int y :: .long x :: R' ∧ RVs b ad S R' := by
  obtain ⟨R1, h1, h2⟩ := h.i1
  obtain ⟨R2, h3, h4⟩ := h2.l1
  subst h3
  exact ⟨R2, h1, h4⟩
section SA
variable {p : Program} {l : Launch} {e : Env} {R : Room} {s : State} {m : MethodId} {args : Array Value} {below : List Frame} {meth : Method} {c : Code} {H : Heap} {locs : List Loc} {cells slots : Nat} {Q : State → Prop}
variable {cc : ByteArray} {pc : Nat} {ls : Array Slot} {b : Nat} {ad : List Nat} {own : String}

set_option maxHeartbeats 4000000 in
theorem s_pure {x : Instr} {z : Int} {S T S' : List Value} (hx : p.tables.exec = Jvm.exec) (hb : c.code = cc) (hown : s.vm.findClass own = some m.cls) (hd : decode cc pc = .ok (x, a_len x)) (hc : ∀ w, a_const own x z = some w → w.before args s = true) (hp : a_pure x z S = some T) (hS : RVs b ad S S') :
    ∃ T', RVs b ad T T' ∧ (W p l e R s m args below meth c H locs cells slots Q (F0 m (pc + a_len x) ls T') → W p l e R s m args below meth c H locs cells slots Q (F0 m pc ls S')) := by
  cases x <;> try (simp only [a_pure, reduceCtorEq] at hp; done)
  case iconst k =>
    cases hp
    exact ⟨_, ⟨_, _, rfl, rfl, hS⟩, fun k => lv_iconst hx hb hd rfl k⟩
  case bipush k =>
    cases hp
    exact ⟨_, ⟨_, _, rfl, rfl, hS⟩, fun k => lv_bipush hx hb hd rfl k⟩
  case sipush k =>
    cases hp
    exact ⟨_, ⟨_, _, rfl, rfl, hS⟩, fun k => lv_sipush hx hb hd rfl k⟩
  case lconst k =>
    cases hp
    exact ⟨_, ⟨_, _, rfl, rfl, hS⟩, fun k => lv_lconst hx hb hd rfl k⟩
  case ldc k =>
    cases hp
    exact ⟨_, ⟨_, _, rfl, rfl, hS⟩, fun k => lv_ldc hx hb hown (hc _ rfl) hd k⟩
  case ldc_w k =>
    cases hp
    exact ⟨_, ⟨_, _, rfl, rfl, hS⟩, fun k => lv_ldcw hx hb hown (hc _ rfl) hd k⟩
  case ldc2_w k =>
    cases hp
    exact ⟨_, ⟨_, _, rfl, rfl, hS⟩, fun k => lv_ldc2 hx hb hown (hc _ rfl) hd k⟩
  case iadd =>
    simp only [a_pure] at hp
    split at hp
    · cases hp
      obtain ⟨R', rfl, h⟩ := hS.i2
      exact ⟨_, ⟨_, _, rfl, rfl, h⟩, fun k => lv_iadd hx hb hd k⟩
    · cases hp
  case isub =>
    simp only [a_pure] at hp
    split at hp
    · cases hp
      obtain ⟨R', rfl, h⟩ := hS.i2
      exact ⟨_, ⟨_, _, rfl, rfl, h⟩, fun k => lv_isub hx hb hd k⟩
    · cases hp
  case imul =>
    simp only [a_pure] at hp
    split at hp
    · cases hp
      obtain ⟨R', rfl, h⟩ := hS.i2
      exact ⟨_, ⟨_, _, rfl, rfl, h⟩, fun k => lv_imul hx hb hd k⟩
    · cases hp
  case iand =>
    simp only [a_pure] at hp
    split at hp
    · cases hp
      obtain ⟨R', rfl, h⟩ := hS.i2
      exact ⟨_, ⟨_, _, rfl, rfl, h⟩, fun k => lv_iand hx hb hd k⟩
    · cases hp
  case ior =>
    simp only [a_pure] at hp
    split at hp
    · cases hp
      obtain ⟨R', rfl, h⟩ := hS.i2
      exact ⟨_, ⟨_, _, rfl, rfl, h⟩, fun k => lv_ior hx hb hd k⟩
    · cases hp
  case ixor =>
    simp only [a_pure] at hp
    split at hp
    · cases hp
      obtain ⟨R', rfl, h⟩ := hS.i2
      exact ⟨_, ⟨_, _, rfl, rfl, h⟩, fun k => lv_ixor hx hb hd k⟩
    · cases hp
  case ishl =>
    simp only [a_pure] at hp
    split at hp
    · cases hp
      obtain ⟨R', rfl, h⟩ := hS.i2
      exact ⟨_, ⟨_, _, rfl, rfl, h⟩, fun k => lv_ishl hx hb hd k⟩
    · cases hp
  case ishr =>
    simp only [a_pure] at hp
    split at hp
    · cases hp
      obtain ⟨R', rfl, h⟩ := hS.i2
      exact ⟨_, ⟨_, _, rfl, rfl, h⟩, fun k => lv_ishr hx hb hd k⟩
    · cases hp
  case iushr =>
    simp only [a_pure] at hp
    split at hp
    · cases hp
      obtain ⟨R', rfl, h⟩ := hS.i2
      exact ⟨_, ⟨_, _, rfl, rfl, h⟩, fun k => lv_iushr hx hb hd rfl k⟩
    · cases hp
  case ladd =>
    simp only [a_pure] at hp
    split at hp
    · cases hp
      obtain ⟨R', rfl, h⟩ := hS.l2
      exact ⟨_, ⟨_, _, rfl, rfl, h⟩, fun k => lv_ladd hx hb hd k⟩
    · cases hp
  case lsub =>
    simp only [a_pure] at hp
    split at hp
    · cases hp
      obtain ⟨R', rfl, h⟩ := hS.l2
      exact ⟨_, ⟨_, _, rfl, rfl, h⟩, fun k => lv_lsub hx hb hd k⟩
    · cases hp
  case lmul =>
    simp only [a_pure] at hp
    split at hp
    · cases hp
      obtain ⟨R', rfl, h⟩ := hS.l2
      exact ⟨_, ⟨_, _, rfl, rfl, h⟩, fun k => lv_lmul hx hb hd k⟩
    · cases hp
  case lor =>
    simp only [a_pure] at hp
    split at hp
    · cases hp
      obtain ⟨R', rfl, h⟩ := hS.l2
      exact ⟨_, ⟨_, _, rfl, rfl, h⟩, fun k => lv_lor hx hb hd k⟩
    · cases hp
  case idiv =>
    simp only [a_pure] at hp
    split at hp
    · split at hp
      · cases hp
      · rename_i hne
        cases hp
        obtain ⟨R', rfl, h⟩ := hS.i2
        exact ⟨_, ⟨_, _, rfl, rfl, h⟩, fun k => lv_idiv hx hb hd hne k⟩
    · cases hp
  case irem =>
    simp only [a_pure] at hp
    split at hp
    · split at hp
      · cases hp
      · rename_i hne
        cases hp
        obtain ⟨R', rfl, h⟩ := hS.i2
        exact ⟨_, ⟨_, _, rfl, rfl, h⟩, fun k => lv_irem hx hb hd hne k⟩
    · cases hp
  case ldiv =>
    simp only [a_pure] at hp
    split at hp
    · split at hp
      · cases hp
      · rename_i hne
        cases hp
        obtain ⟨R', rfl, h⟩ := hS.l2
        exact ⟨_, ⟨_, _, rfl, rfl, h⟩, fun k => lv_ldiv hx hb hd hne k⟩
    · cases hp
  case lrem =>
    simp only [a_pure] at hp
    split at hp
    · split at hp
      · cases hp
      · rename_i hne
        cases hp
        obtain ⟨R', rfl, h⟩ := hS.l2
        exact ⟨_, ⟨_, _, rfl, rfl, h⟩, fun k => lv_lrem hx hb hd hne k⟩
    · cases hp
  case lneg =>
    simp only [a_pure] at hp
    split at hp
    · cases hp
      obtain ⟨R', rfl, h⟩ := hS.l1
      exact ⟨_, ⟨_, _, rfl, rfl, h⟩, fun k => lv_lneg hx hb hd k⟩
    · cases hp
  case lshl =>
    simp only [a_pure] at hp
    split at hp
    · cases hp
      obtain ⟨R', rfl, h⟩ := hS.il
      exact ⟨_, ⟨_, _, rfl, rfl, h⟩, fun k => lv_lshl hx hb hd rfl k⟩
    · cases hp
  case lcmp =>
    simp only [a_pure] at hp
    split at hp
    · cases hp
      obtain ⟨R', rfl, h⟩ := hS.l2
      exact ⟨_, ⟨_, _, rfl, rfl, h⟩, fun k => W.lcmp hx hb hd k⟩
    · cases hp
  case i2l =>
    simp only [a_pure] at hp
    split at hp
    · cases hp
      obtain ⟨R', rfl, h⟩ := hS.i1
      exact ⟨_, ⟨_, _, rfl, rfl, h⟩, fun k => lv_i2l hx hb hd rfl k⟩
    · cases hp
  case l2i =>
    simp only [a_pure] at hp
    split at hp
    · cases hp
      obtain ⟨R', rfl, h⟩ := hS.l1
      exact ⟨_, ⟨_, _, rfl, rfl, h⟩, fun k => lv_l2i hx hb hd rfl k⟩
    · cases hp
  case dup =>
    simp only [a_pure] at hp
    split at hp
    · split at hp
      · rename_i hq
        cases hp
        obtain ⟨v', R', rfl, h1, h2⟩ := hS
        exact ⟨_, ⟨_, _, rfl, h1, _, _, rfl, h1, h2⟩, fun k => lv_dup hx hb hd (h1.cat.trans hq) k⟩
      · cases hp
    · cases hp
  case pop =>
    simp only [a_pure] at hp
    split at hp
    · split at hp
      · rename_i hq
        cases hp
        obtain ⟨v', R', rfl, h1, h2⟩ := hS
        exact ⟨_, h2, fun k => lv_pop hx hb hd (h1.cat.trans hq) k⟩
      · cases hp
    · cases hp
  case dup2 =>
    simp only [a_pure] at hp
    split at hp
    · split at hp
      · rename_i hq
        cases hp
        obtain ⟨v', R1, rfl, h1, w', R', rfl, h2, h3⟩ := hS
        exact ⟨_, ⟨_, _, rfl, h1, _, _, rfl, h2, _, _, rfl, h1, _, _, rfl, h2, h3⟩, fun k => lv_dup2_11 hx hb hd (h1.cat.trans hq.1) (h2.cat.trans hq.2) k⟩
      · split at hp
        · rename_i hq
          cases hp
          obtain ⟨v', R1, rfl, h1, h2⟩ := hS
          exact ⟨_, ⟨_, _, rfl, h1, _, _, rfl, h1, h2⟩, fun k => lv_dup2_2 hx hb hd (h1.cat.trans hq) k⟩
        · cases hp
    · cases hp
set_option maxHeartbeats 4000000 in
theorem s_load {x : Instr} {L : aL} {v : Value} {S' : List Value} (hx : p.tables.exec = Jvm.exec) (hb : c.code = cc) (hd : decode cc pc = .ok (x, a_len x)) (hp : a_load x L = some v) (hL : LR b ad L ls) :
    ∃ v', RV b ad v v' ∧ (W p l e R s m args below meth c H locs cells slots Q (F0 m (pc + a_len x) ls (v' :: S')) → W p l e R s m args below meth c H locs cells slots Q (F0 m pc ls S')) := by
  cases x <;> try (simp only [a_load, reduceCtorEq] at hp; done)
  case iload k =>
    simp only [a_load] at hp
    split at hp
    · rename_i hg
      cases hp
      obtain ⟨v', h1, h2⟩ := hL.2.2 _ _ hg
      rw [show v' = _ from h2] at h1
      exact ⟨_, rfl, fun k => lv_iload hx hb hd h1 k⟩
    · cases hp
  case iload_n k =>
    simp only [a_load] at hp
    split at hp
    · rename_i hg
      cases hp
      obtain ⟨v', h1, h2⟩ := hL.2.2 _ _ hg
      rw [show v' = _ from h2] at h1
      exact ⟨_, rfl, fun k => lv_iload_n hx hb hd rfl h1 k⟩
    · cases hp
  case lload k =>
    simp only [a_load] at hp
    split at hp
    · rename_i hg
      cases hp
      obtain ⟨v', h1, h2⟩ := hL.2.2 _ _ hg
      rw [show v' = _ from h2] at h1
      exact ⟨_, rfl, fun k => lv_lload hx hb hd h1 k⟩
    · cases hp
  case lload_n k =>
    simp only [a_load] at hp
    split at hp
    · rename_i hg
      cases hp
      obtain ⟨v', h1, h2⟩ := hL.2.2 _ _ hg
      rw [show v' = _ from h2] at h1
      exact ⟨_, rfl, fun k => lv_lload_n hx hb hd rfl h1 k⟩
    · cases hp
  case aload k =>
    simp only [a_load] at hp
    split at hp
    · rename_i hg
      cases hp
      obtain ⟨v', h1, h2⟩ := hL.2.2 _ _ hg
      obtain ⟨a, rfl⟩ := h2.isRef
      exact ⟨_, h2, fun k => lv_aload hx hb hd h1 k⟩
    · cases hp
  case aload_n k =>
    simp only [a_load] at hp
    split at hp
    · rename_i hg
      cases hp
      obtain ⟨v', h1, h2⟩ := hL.2.2 _ _ hg
      obtain ⟨a, rfl⟩ := h2.isRef
      exact ⟨_, h2, fun k => lv_aload_n hx hb hd rfl h1 k⟩
    · cases hp
set_option maxHeartbeats 4000000 in
theorem s_store {x : Instr} {L L' : aL} {S T S' : List Value} (hx : p.tables.exec = Jvm.exec) (hb : c.code = cc) (hd : decode cc pc = .ok (x, a_len x)) (hp : a_store x L S = some (L', T)) (hL : LR b ad L ls) (hS : RVs b ad S S') :
    ∃ T', RVs b ad T T' ∧ ((∀ ls', LR b ad L' ls' → W p l e R s m args below meth c H locs cells slots Q (F0 m (pc + a_len x) ls' T')) → W p l e R s m args below meth c H locs cells slots Q (F0 m pc ls S')) := by
  cases x <;> try (simp only [a_store, reduceCtorEq] at hp; done)
  case istore k =>
    simp only [a_store] at hp
    split at hp
    · split at hp
      · rename_i hk
        cases hp
        obtain ⟨R', rfl, h⟩ := hS.i1
        exact ⟨_, h, fun kk => lv_istore hx hb hd (lvAll_has hL.2.1) (by rw [hL.1]; exact hk) rfl (fun ls' h' => kk ls' (hL.set1 rfl h'))⟩
      · cases hp
    · cases hp
  case istore_n k =>
    simp only [a_store] at hp
    split at hp
    · split at hp
      · rename_i hk
        cases hp
        obtain ⟨R', rfl, h⟩ := hS.i1
        exact ⟨_, h, fun kk => lv_istore_n hx hb hd rfl (lvAll_has hL.2.1) (by rw [hL.1]; exact hk) rfl (fun ls' h' => kk ls' (hL.set1 rfl h'))⟩
      · cases hp
    · cases hp
  case lstore k =>
    simp only [a_store] at hp
    split at hp
    · split at hp
      · rename_i hk
        cases hp
        obtain ⟨R', rfl, h⟩ := hS.l1
        exact ⟨_, h, fun kk => lv_lstore hx hb hd (lvAll_has hL.2.1) (by rw [hL.1]; exact hk) rfl (fun ls' h' => kk ls' (hL.set2 rfl h'))⟩
      · cases hp
    · cases hp
  case lstore_n k =>
    simp only [a_store] at hp
    split at hp
    · split at hp
      · rename_i hk
        cases hp
        obtain ⟨R', rfl, h⟩ := hS.l1
        exact ⟨_, h, fun kk => lv_lstore_n hx hb hd rfl (lvAll_has hL.2.1) (by rw [hL.1]; exact hk) rfl (fun ls' h' => kk ls' (hL.set2 rfl h'))⟩
      · cases hp
    · cases hp
  case astore k =>
    simp only [a_store] at hp
    split at hp
    · split at hp
      · rename_i hk
        cases hp
        obtain ⟨v', R', rfl, h1, h⟩ := hS
        obtain ⟨a, rfl⟩ := h1.isRef
        exact ⟨_, h, fun kk => lv_astore hx hb hd (lvAll_has hL.2.1) (by rw [hL.1]; exact hk) rfl (fun ls' h' => kk ls' (hL.set1 h1 h'))⟩
      · cases hp
    · cases hp
  case astore_n k =>
    simp only [a_store] at hp
    split at hp
    · split at hp
      · rename_i hk
        cases hp
        obtain ⟨v', R', rfl, h1, h⟩ := hS
        obtain ⟨a, rfl⟩ := h1.isRef
        exact ⟨_, h, fun kk => lv_astore_n hx hb hd rfl (lvAll_has hL.2.1) (by rw [hL.1]; exact hk) rfl (fun ls' h' => kk ls' (hL.set1 h1 h'))⟩
      · cases hp
    · cases hp
  case iinc k z =>
    simp only [a_store] at hp
    split at hp
    · rename_i hg
      split at hp
      · rename_i hk
        cases hp
        obtain ⟨v', h1, h2⟩ := hL.2.2 _ _ hg
        rw [show v' = _ from h2] at h1
        obtain ⟨i, hi⟩ := List.getElem?_of_mem (lvAll_mem.mpr h1)
        exact ⟨_, hS, fun kk => lv_iinc hx hb hd (lvAll_has hL.2.1) hi rfl (by rw [hL.1]; exact hk) rfl (fun ls' h' => kk ls' (hL.set1 rfl h'))⟩
      · cases hp
    · cases hp
def a_off (x : Instr) : Int := match x with
  | .goto o => o | .ifCond _ o => o | .if_icmp _ o => o | _ => 0
set_option maxHeartbeats 4000000 in
theorem s_br {x : Instr} {S T S' : List Value} {t : Bool} {tgt : Nat} (hx : p.tables.exec = Jvm.exec) (hb : c.code = cc) (hd : decode cc pc = .ok (x, a_len x)) (ht : (pc : Int) + a_off x = (tgt : Int)) (hp : a_br x S = some (t, T)) (hS : RVs b ad S S') :
    ∃ T', RVs b ad T T' ∧ (W p l e R s m args below meth c H locs cells slots Q (F0 m (if t = true then tgt else pc + a_len x) ls T') → W p l e R s m args below meth c H locs cells slots Q (F0 m pc ls S')) := by
  cases x <;> try (simp only [a_br, reduceCtorEq] at hp; done)
  case goto o =>
    cases hp
    exact ⟨_, hS, fun k => lv_goto hx hb hd ht k⟩
  case ifCond cd o =>
    cases cd
    case eq =>
      simp only [a_br] at hp
      split at hp
      · cases hp
        obtain ⟨R', rfl, h⟩ := hS.i1
        exact ⟨_, h, fun k => lv_if_eq hx hb hd ht (fun q => by simpa [q] using k) (fun q => by simpa [q, a_len] using k)⟩
      · cases hp
    case ne =>
      simp only [a_br] at hp
      split at hp
      · cases hp
        obtain ⟨R', rfl, h⟩ := hS.i1
        exact ⟨_, h, fun k => lv_if_ne hx hb hd ht (fun q => by simpa [q] using k) (fun q => by simpa [q, a_len] using k)⟩
      · cases hp
    case lt =>
      simp only [a_br] at hp
      split at hp
      · cases hp
        obtain ⟨R', rfl, h⟩ := hS.i1
        exact ⟨_, h, fun k => lv_if_lt hx hb hd ht (fun q => by simpa [q] using k) (fun q => by simpa [q, a_len] using k)⟩
      · cases hp
    case ge =>
      simp only [a_br] at hp
      split at hp
      · cases hp
        obtain ⟨R', rfl, h⟩ := hS.i1
        exact ⟨_, h, fun k => lv_if_ge hx hb hd ht (fun q => by simpa [q] using k) (fun q => by simpa [q, a_len] using k)⟩
      · cases hp
    case gt =>
      simp only [a_br] at hp
      split at hp
      · cases hp
        obtain ⟨R', rfl, h⟩ := hS.i1
        exact ⟨_, h, fun k => lv_if_gt hx hb hd ht (fun q => by simpa [q] using k) (fun q => by simpa [q, a_len] using k)⟩
      · cases hp
    case le =>
      simp only [a_br] at hp
      split at hp
      · cases hp
        obtain ⟨R', rfl, h⟩ := hS.i1
        exact ⟨_, h, fun k => lv_if_le hx hb hd ht (fun q => by simpa [q] using k) (fun q => by simpa [q, a_len] using k)⟩
      · cases hp
  case if_icmp cd o =>
    cases cd
    case eq =>
      simp only [a_br] at hp
      split at hp
      · cases hp
        obtain ⟨R', rfl, h⟩ := hS.i2
        exact ⟨_, h, fun k => lv_icmp_eq hx hb hd ht (fun q => by simpa [q] using k) (fun q => by simpa [q, a_len] using k)⟩
      · cases hp
    case ne =>
      simp only [a_br] at hp
      split at hp
      · cases hp
        obtain ⟨R', rfl, h⟩ := hS.i2
        exact ⟨_, h, fun k => lv_icmp_ne hx hb hd ht (fun q => by simpa [q] using k) (fun q => by simpa [q, a_len] using k)⟩
      · cases hp
    case lt =>
      simp only [a_br] at hp
      split at hp
      · cases hp
        obtain ⟨R', rfl, h⟩ := hS.i2
        exact ⟨_, h, fun k => lv_icmp_lt hx hb hd ht (fun q => by simpa [q] using k) (fun q => by simpa [q, a_len] using k)⟩
      · cases hp
    case ge =>
      simp only [a_br] at hp
      split at hp
      · cases hp
        obtain ⟨R', rfl, h⟩ := hS.i2
        exact ⟨_, h, fun k => lv_icmp_ge hx hb hd ht (fun q => by simpa [q] using k) (fun q => by simpa [q, a_len] using k)⟩
      · cases hp
    case gt =>
      simp only [a_br] at hp
      split at hp
      · cases hp
        obtain ⟨R', rfl, h⟩ := hS.i2
        exact ⟨_, h, fun k => lv_icmp_gt hx hb hd ht (fun q => by simpa [q] using k) (fun q => by simpa [q, a_len] using k)⟩
      · cases hp
    case le =>
      simp only [a_br] at hp
      split at hp
      · cases hp
        obtain ⟨R', rfl, h⟩ := hS.i2
        exact ⟨_, h, fun k => lv_icmp_le hx hb hd ht (fun q => by simpa [q] using k) (fun q => by simpa [q, a_len] using k)⟩
      · cases hp
theorem s_sw {d lo hi : Int} {offs : Array Int} {len : Nat} {tg : List Nat} {pcs : Nat → Nat} {S' : List Value} {v : Int32} {j : Nat} (hx : p.tables.exec = Jvm.exec) (hb : c.code = cc) (hd : decode cc pc = .ok (.tableswitch d lo hi offs, len))
    (h0 : ∀ j, tg[0]? = some j → (pc : Int) + d = (pcs j : Int)) (h1 : ∀ (k : Nat) (j : Nat), tg[k + 1]? = some j → ∃ o, offs[k]? = some o ∧ (pc : Int) + o = (pcs j : Int)) (hp : a_sw lo hi tg v = some j)
    (kk : W p l e R s m args below meth c H locs cells slots Q (F0 m (pcs j) ls S')) : W p l e R s m args below meth c H locs cells slots Q (F0 m pc ls (.int v :: S')) := by
  unfold a_sw at hp
  split at hp
  · rename_i q
    exact lv_tableOut hx hb hd q (h0 j hp) kk
  · rename_i q
    obtain ⟨o, h2, h3⟩ := h1 _ _ hp
    exact lv_tableIn hx hb hd (fun z => q (Or.inl z)) (fun z => q (Or.inr z)) h2 h3 kk
end SA
end
section
/-! M1'S STEPS ARE THE JVM'S (2): reads and writes of the heap -/
theorem a_cell_spec {h : aH} {n : Nat} {e : aE} (q : a_cell h n = some e) : n ≠ sCR ∧ h[n]? = some e := by
  unfold a_cell at q
  split at q
  · cases q
  · rename_i z; exact ⟨z, q⟩
theorem World.at {D : va_G} {A : Nat → Prop} {b : Nat} {ad : List Nat} {h : aH} {H : Heap} {s : State} (w : World D A b ad h H s) {n : Nat} {e : aE} (hc : a_cell h n = some e) {v' : Value} (hv : RV b ad (.ref n) v') :
    ∃ (ws : va_W) (tys : List (ClassId × FieldType)) (a : Nat) (x : va_E), v' = .ref a ∧ va_P D vwCl ws H ∧ va_D A ws ∧ va_K D vwCl tys s ∧ WR b ad tys h ws ∧ ws[n]? = some (a, x) ∧ CR b ad tys e x := by
  obtain ⟨ws, tys, hP, hD, hK, hR⟩ := w
  obtain ⟨h1, h2⟩ := a_cell_spec hc
  obtain ⟨a, x, h3, h4, h5⟩ := hR.2.2 n e h2
  rw [RV_ref, if_neg h1] at hv
  obtain ⟨a2, h6, h7⟩ := hv
  rw [h4] at h6
  cases h6
  exact ⟨ws, tys, a, x, h7, hP, hD, hK, hR, h3, h5⟩
/-- what a field's instruction links to -/
def a_fld (own : String) (Ts : List Cond) (x : xI) (idx : Nat) : Prop := ∃ (C : String) (T : u_T) (N : Nat), vwCl[x.2.2.2.1]? = some (C, T, N) ∧ x.2.2.2.2.1 < N ∧ (T x.2.2.2.2.1).1 = C ∧ Cond.fieldLink own idx C (T x.2.2.2.2.1).2.1 (T x.2.2.2.2.1).2.2.1 ∈ Ts
/-- the class's rows of fields are words of the list -/
def a_rows (Ts : List Cond) : Prop := ∀ (ci : Nat) (C : String) (T : u_T) (N : Nat), vwCl[ci]? = some (C, T, N) → ∀ w ∈ u_ws C T N, w ∈ Ts
/-- the script stands beside the world -/
def a_scr (A : Nat → Prop) (b : Nat) (xs : Nat × (Nat → Int32)) (s : State) (H0 : Heap) : Prop := va_X b xs.1 xs.2 s H0 ∧ b < H0.size ∧ ¬ A b
section SB
variable {p : Program} {l : Launch} {e : Env} {R : Room} {s : State} {m : MethodId} {args : Array Value} {below : List Frame} {meth : Method} {c : Code} {H : Heap} {locs : List Loc} {cells slots : Nat} {Q : State → Prop}
variable {cc : ByteArray} {pc : Nat} {ls : Array Slot} {b : Nat} {ad : List Nat} {own : String} {D : va_G} {A : Nat → Prop} {H0 : Heap} {Ts : List Cond} {h : aH} {xs : Nat × (Nat → Int32)}
theorem s_aald {cl : List vw_C} {tys : List (ClassId × FieldType)} {ws : va_W} {a : Nat} {rest : List Value} (hexec : p.tables.exec = Jvm.exec) (hb : c.code = cc) (hK : va_K D cl tys s) (hP : va_P D cl ws H) (q0 t0 : Nat) {cA : ClassId} {ty : FieldType} (hty : a_isRef ty = true) {n : Nat} {f : Nat → Option Nat} (ha : ws[q0]? = some (a, .inl (cA, n, .inr (.inr (.inr (.inr f)))))) (ht : tys[t0]? = some (cA, ty)) {i : Int32} (hin : ¬ (i < 0 ∨ n ≤ i.toNatClampNeg)) (hdg : decode cc pc = .ok (.aaload, 1))
    (kk : W p l e R s m args below meth c H locs cells slots Q (F0 m (pc + 1) ls (va_rf (f i.toNatClampNeg) :: rest))) : W p l e R s m args below meth c H locs cells slots Q (F0 m pc ls (.int i :: .ref a :: rest)) := by
  have hlt : i.toNatClampNeg < n := Nat.not_le.mp fun q => hin (Or.inr q)
  exact W.aald (v := va_rf (f i.toNatClampNeg)) (ty := ty) hexec hb (hP q0 _ ha) ((hK.2 t0 _ ht).1 n (fun j => va_rf (f j))) (by cases ty <;> first | rfl | (cases hty)) (fun q => by cases q) (by show ¬ (i < 0 ∨ (arrV _ _ _).slots.size ≤ _); rw [arrV_size]; exact hin) (by show (arrV _ _ _).slots[_]? = _; rw [arrV_read _ _ hlt]) rfl rfl hdg kk
set_option maxHeartbeats 4000000 in
theorem s_read {x : xI} {S T S' : List Value} (hx : p.tables.exec = Jvm.exec) (hb : c.code = cc) (hown : s.vm.findClass own = some m.cls) (hts : ∀ w ∈ Ts, w.before args s = true) (hrows : a_rows Ts) (hd : decode cc pc = .ok (x.1, a_len x.1)) (hf : ∀ idx, x.1 = .getfield idx → a_fld own Ts x idx)
    (hW : World D A b ad h H s) (hS0 : va_S A H0 H locs) (hsc : a_scr A b xs s H0) (hp : a_read xs x S h = some T) (hS : RVs b ad S S') :
    ∃ T', RVs b ad T T' ∧ (W p l e R s m args below meth c H locs cells slots Q (F0 m (pc + a_len x.1) ls T') → W p l e R s m args below meth c H locs cells slots Q (F0 m pc ls S')) := by
  obtain ⟨ins, xr⟩ := x
  dsimp only at hd hf hp ⊢
  cases ins <;> try (simp only [a_read, reduceCtorEq] at hp; done)
  case getfield idx =>
    simp only [a_read] at hp
    obtain ⟨C, TT, N, f1, f2, f3, f4⟩ := hf idx rfl
    split at hp
    · split at hp
      · rename_i c0 fs hc
        split at hp
        · rename_i hci
          split at hp
          · rename_i v hv
            cases hp
            obtain ⟨v1, R1, rfl, r1, r2⟩ := hS
            obtain ⟨ws, tys, a, x1, rfl, hP, hD, hK, hR, w1, w2⟩ := hW.at hc r1
            obtain ⟨fs', rfl, w3⟩ := w2
            obtain ⟨v', w4, w5⟩ := w3.at hv
            refine ⟨v' :: R1, ⟨v', R1, rfl, w5, r2⟩, fun k => ?_⟩
            exact va_get hx hb hts (hrows _ _ _ _ f1) hown hK hP _ (by rw [hci] at w1; exact w1) f1 _ f2 (hts _ f4) (fun y hy => by rw [← f3]; exact hy) w4 hd k
          · cases hp
        · cases hp
      · cases hp
    · cases hp
  case iaload =>
    simp only [a_read] at hp
    split at hp
    · split at hp
      · rename_i hn
        split at hp
        · rename_i hin
          cases hp
          obtain ⟨R0, rfl, r0⟩ := hS.i1
          obtain ⟨v1, R1, rfl, r1, r2⟩ := r0
          rw [RV_ref, if_pos hn] at r1
          subst r1
          exact ⟨_, ⟨_, _, rfl, rfl, r2⟩, fun k => va_sld hx hb hsc.1 hsc.2.1 hsc.2.2 hS0 hin hd k⟩
        · cases hp
      · split at hp
        · rename_i ty len f hc
          split at hp
          · rename_i hin
            obtain ⟨hty, hin⟩ := hin
            subst hty
            cases hp
            obtain ⟨R0, rfl, r0⟩ := hS.i1
            obtain ⟨v1, R1, rfl, r1, r2⟩ := r0
            obtain ⟨ws, tys, a, x1, rfl, hP, hD, hK, hR, w1, w2⟩ := hW.at hc r1
            obtain ⟨cA, c', rfl, ⟨t0, w3⟩, w4⟩ := w2
            cases c' with
            | inr z => exact absurd w4 (by simp [AR])
            | inl g =>
              cases (show f = g from w4)
              exact ⟨_, ⟨_, _, rfl, rfl, r2⟩, fun k => va_iald hx hb hK hP _ t0 w1 w3 hin hd k⟩
          · cases hp
        · cases hp
    · cases hp
  case laload =>
    simp only [a_read] at hp
    split at hp
    · split at hp
      · rename_i ty len f hc
        split at hp
        · rename_i hin
          obtain ⟨hty, hin⟩ := hin
          subst hty
          cases hp
          obtain ⟨R0, rfl, r0⟩ := hS.i1
          obtain ⟨v1, R1, rfl, r1, r2⟩ := r0
          obtain ⟨ws, tys, a, x1, rfl, hP, hD, hK, hR, w1, w2⟩ := hW.at hc r1
          obtain ⟨cA, c', rfl, ⟨t0, w3⟩, w4⟩ := w2
          obtain z | g | z := c'
          · exact absurd w4 (by simp [AR])
          · cases (show f = g from w4)
            exact ⟨_, ⟨_, _, rfl, rfl, r2⟩, fun k => va_lald hx hb hK hP _ t0 w1 w3 hin hd k⟩
          · exact absurd w4 (by simp [AR])
        · cases hp
      · cases hp
    · cases hp
  case aaload =>
    simp only [a_read] at hp
    split at hp
    · split at hp
      · rename_i ty len f hc
        split at hp
        · rename_i j n R2 hin
          obtain ⟨hty, hin⟩ := hin
          split at hp
          · rename_i k hk
            cases hp
            obtain ⟨R0, rfl, r0⟩ := hS.i1
            obtain ⟨v1, R1, rfl, r1, r2⟩ := r0
            obtain ⟨ws, tys, a, x1, rfl, hP, hD, hK, hR, w1, w2⟩ := hW.at hc r1
            obtain ⟨cA, c', rfl, ⟨t0, w3⟩, w4⟩ := w2
            obtain z | z | z | z | g := c'
            · exact absurd w4 (by simp [AR])
            · exact absurd w4 (by simp [AR])
            · exact absurd w4 (by simp [AR])
            · exact absurd w4 (by simp [AR])
            · have w5 := w4 _ (Nat.not_le.mp fun q => hin (Or.inr q))
              rw [hk] at w5
              obtain ⟨a5, w6, w7⟩ := w5
              refine ⟨.ref a5 :: R1, ⟨_, _, rfl, w6, r2⟩, fun k => ?_⟩
              refine s_aald hx hb hK hP _ t0 hty w1 w3 hin hd ?_
              rw [w7]
              exact k
          · cases hp
        · cases hp
      · cases hp
    · cases hp
  case arraylength =>
    simp only [a_read] at hp
    split at hp
    · split at hp
      · rename_i hn
        cases hp
        obtain ⟨v1, R1, rfl, r1, r2⟩ := hS
        rw [RV_ref, if_pos hn] at r1
        subst r1
        exact ⟨_, ⟨_, _, rfl, rfl, r2⟩, fun k => va_slen hx hb hsc.1 hsc.2.1 hsc.2.2 hS0 hd k⟩
      · split at hp
        · rename_i ty len f hc
          cases hp
          obtain ⟨v1, R1, rfl, r1, r2⟩ := hS
          obtain ⟨ws, tys, a, x1, rfl, hP, hD, hK, hR, w1, w2⟩ := hW.at hc r1
          obtain ⟨cA, c', rfl, ⟨t0, w3⟩, w4⟩ := w2
          exact ⟨_, ⟨_, _, rfl, rfl, r2⟩, fun k => va_alen hx hb hK hP _ t0 w1 w3 rfl hd k⟩
        · cases hp
    · cases hp
end SB
end
section
/-! M1'S STEPS ARE THE JVM'S (3): writes of the heap -/
theorem a_ty_ok {C : String} {T : u_T} {N : Nat} : ∀ {ci : Nat}, vwCl[ci]? = some (C, T, N) → ∀ k, k < N → parseFieldDescriptor (T k).2.2.1 = some (a_ty ci k)
  | 0, h => by cases h; exact tyX0_ok
  | 1, h => by cases h; exact tyX1_ok
  | 2, h => by cases h; exact tyX2_ok
  | 3, h => by cases h; exact tyX3_ok
  | 4, h => by cases h; exact tyX4_ok
  | 5, h => by cases h; exact tyX5_ok
  | 6, h => by cases h; exact tyX6_ok
  | 7, h => by cases h; exact tyX7_ok
  | 8, h => by cases h; exact tyX8_ok
  | 9, h => by cases h; exact tyX9_ok
  | 10, h => by cases h; exact tyX10_ok
  | 11, h => by cases h; exact tyX11_ok
  | 12, h => by cases h; exact tyX12_ok
  | n + 13, h => by cases h
theorem a_nm_ok {C : String} {T : u_T} {N : Nat} : ∀ {ci : Nat}, vwCl[ci]? = some (C, T, N) → ∀ a, a < N → ∀ b, b < N → a ≠ b → (T a).2.1 ≠ (T b).2.1
  | 0, h => by cases h; exact nmX0
  | 1, h => by cases h; exact nmX1
  | 2, h => by cases h; exact nmX2
  | 3, h => by cases h; exact nmX3
  | 4, h => by cases h; exact nmX4
  | 5, h => by cases h; exact nmX5
  | 6, h => by cases h; exact nmX6
  | 7, h => by cases h; exact nmX7
  | 8, h => by cases h; exact nmX8
  | 9, h => by cases h; exact nmX9
  | 10, h => by cases h; exact nmX10
  | 11, h => by cases h; exact nmX11
  | 12, h => by cases h; exact nmX12
  | n + 13, h => by cases h
theorem a_fit_ok {b : Nat} {ad : List Nat} {ty : FieldType} {v v' : Value} (h : a_fit ty v = true) (hv : RV b ad v v') : narrow ty v' = v' ∧ fits ty v' = true := by
  cases v with
  | int x =>
    rw [show v' = _ from hv]
    simp only [a_fit, Bool.and_eq_true, decide_eq_true_eq] at h
    exact h
  | long x =>
    rw [show v' = _ from hv]
    refine ⟨?_, h⟩
    cases ty <;> rfl
  | ref n =>
    obtain ⟨a, rfl⟩ := hv.isRef
    cases ty <;> first | exact ⟨rfl, rfl⟩ | (exact absurd h (by simp [a_fit, fits]))
  | _ => cases h
/-- what a field's write may be: not final, or in the constructor -/
def a_fin (own mname : String) (x : xI) : Prop := ∀ (C : String) (T : u_T) (N : Nat), vwCl[x.2.2.2.1]? = some (C, T, N) → (T x.2.2.2.2.1).2.2.2 = false ∨ ((T x.2.2.2.2.1).2.2.2 = true ∧ mname = "<init>" ∧ (T x.2.2.2.2.1).1 = own)
section SC
variable {p : Program} {l : Launch} {e : Env} {R : Room} {s : State} {m : MethodId} {args : Array Value} {below : List Frame} {meth : Method} {c : Code} {H : Heap} {locs : List Loc} {cells slots : Nat} {Q : State → Prop}
variable {cc : ByteArray} {pc : Nat} {ls : Array Slot} {b : Nat} {ad : List Nat} {own : String} {D : va_G} {A : Nat → Prop} {H0 : Heap} {Ts : List Cond} {h h' : aH}
set_option maxHeartbeats 4000000 in
theorem s_write {x : xI} {S T S' : List Value} (hx : p.tables.exec = Jvm.exec) (hb : c.code = cc) (hown : s.vm.findClass own = some m.cls) (hts : ∀ w ∈ Ts, w.before args s = true) (hrows : a_rows Ts) (hd : decode cc pc = .ok (x.1, a_len x.1)) (hf : ∀ idx, x.1 = .putfield idx → a_fld own Ts x idx ∧ a_fin own meth.name x)
    (hW : World D A b ad h H s) (hS0 : va_S A H0 H locs) (hp : a_write x S h = some (T, h')) (hS : RVs b ad S S') :
    ∃ T', RVs b ad T T' ∧ ((∀ (H1 : Heap) (locs1 : List Loc), World D A b ad h' H1 s → va_S A H0 H1 locs1 → W p l e R s m args below meth c H1 locs1 cells slots Q (F0 m (pc + a_len x.1) ls T')) → W p l e R s m args below meth c H locs cells slots Q (F0 m pc ls S')) := by
  obtain ⟨ins, xr⟩ := x
  dsimp only at hd hf hp ⊢
  cases ins <;> try (simp only [a_write, reduceCtorEq] at hp; done)
  case putfield idx =>
    simp only [a_write] at hp
    obtain ⟨⟨C, TT, N, f1, f2, f3, f4⟩, ff⟩ := hf idx rfl
    split at hp
    · split at hp
      · rename_i v n R2 xo c0 fs hc
        split at hp
        · rename_i hq
          obtain ⟨q1, q2, q3⟩ := hq
          cases hp
          obtain ⟨v1, R0, rfl, r0, v2, R1, rfl, r1, r2⟩ := hS
          obtain ⟨ws, tys, a, x1, rfl, hP, hD, hK, hR, w1, w2⟩ := hW.at hc r1
          obtain ⟨fs', rfl, w3⟩ := w2
          obtain ⟨g1, g2⟩ := a_fit_ok q3 r0
          refine ⟨R1, r2, fun k => ?_⟩
          have key : ∀ (H1 : Heap) (locs1 : List Loc), va_P D vwCl (ws.set n (a, .inr (c0, fs'.set xr.2.2.2.1 v1))) H1 → va_D A (ws.set n (a, .inr (c0, fs'.set xr.2.2.2.1 v1))) → va_S A H0 H1 locs1 → W p l e R s m args below meth c H1 locs1 cells slots Q (F0 m (pc + 3) ls R1) := fun H1 locs1 k1 k2 k3 => k H1 locs1 ⟨_, tys, k1, k2, hK, hR.set w1 ⟨_, rfl, w3.set _ r0⟩⟩ k3
          have hl : xr.2.2.2.1 < fs'.length := by rw [w3.length]; exact q2
          have hci : vwCl[c0]? = some (C, TT, N) := by rw [q1]; exact f1
          have hty := a_ty_ok f1
          rcases ff C TT N f1 with q | ⟨qa, qb, qc⟩
          · exact va_put hx hb hts (hrows _ _ _ _ f1) _ hty (a_nm_ok f1) hown hK hP hD hS0 n w1 hci _ f2 (hts _ f4) (fun y hy => by rw [← f3]; exact hy) q (hty _ f2) g1 g2 hl hd key
          · exact va_putF hx hb hts (hrows _ _ _ _ f1) _ hty (a_nm_ok f1) hown hK hP hD hS0 n w1 hci _ f2 (hts _ f4) (fun y hy => by rw [← f3]; exact hy) qa qb qc (hty _ f2) g1 g2 hl hd key
        · cases hp
      · cases hp
    · cases hp
  case iastore =>
    simp only [a_write] at hp
    split at hp
    · split at hp
      · rename_i v j n R2 xo ty len f hc
        split at hp
        · rename_i hin
          obtain ⟨hty, hin⟩ := hin
          subst hty
          cases hp
          obtain ⟨R0, rfl, r0⟩ := hS.i2
          obtain ⟨v1, R1, rfl, r1, r2⟩ := r0
          obtain ⟨ws, tys, a, x1, rfl, hP, hD, hK, hR, w1, w2⟩ := hW.at hc r1
          obtain ⟨cA, c', rfl, ⟨t0, w3⟩, w4⟩ := w2
          obtain g | z := c'
          · cases (show f = g from w4)
            exact ⟨_, r2, fun k => va_iast hx hb hK hP hD hS0 n t0 w1 w3 hin hd (fun H1 locs1 k1 k2 k3 => k H1 locs1 ⟨_, tys, k1, k2, hK, hR.set w1 ⟨cA, _, rfl, ⟨t0, w3⟩, rfl⟩⟩ k3)⟩
          · exact absurd w4 (by simp [AR])
        · cases hp
      · cases hp
    · cases hp
  case lastore =>
    simp only [a_write] at hp
    split at hp
    · split at hp
      · rename_i v j n R2 xo ty len f hc
        split at hp
        · rename_i hin
          obtain ⟨hty, hin⟩ := hin
          subst hty
          cases hp
          obtain ⟨R0, rfl, r0⟩ := hS.l1
          obtain ⟨R3, rfl, r3⟩ := r0.i1
          obtain ⟨v1, R1, rfl, r1, r2⟩ := r3
          obtain ⟨ws, tys, a, x1, rfl, hP, hD, hK, hR, w1, w2⟩ := hW.at hc r1
          obtain ⟨cA, c', rfl, ⟨t0, w3⟩, w4⟩ := w2
          obtain z | g | z := c'
          · exact absurd w4 (by simp [AR])
          · cases (show f = g from w4)
            exact ⟨_, r2, fun k => va_last hx hb hK hP hD hS0 n t0 w1 w3 hin hd (fun H1 locs1 k1 k2 k3 => k H1 locs1 ⟨_, tys, k1, k2, hK, hR.set w1 ⟨cA, _, rfl, ⟨t0, w3⟩, rfl⟩⟩ k3)⟩
          · exact absurd w4 (by simp [AR])
        · cases hp
      · cases hp
    · cases hp
  case aastore =>
    simp only [a_write] at hp
    split at hp
    · split at hp
      · rename_i v j n R2 xo xp ty len f ci vs hc hcv
        split at hp
        · rename_i hin
          obtain ⟨hty, hin⟩ := hin
          cases hp
          obtain ⟨v0, R0, rfl, r0, r3⟩ := hS
          obtain ⟨R3, rfl, r4⟩ := r3.i1
          obtain ⟨v1, R1, rfl, r1, r2⟩ := r4
          obtain ⟨ws, tys, a, x1, rfl, hP, hD, hK, hR, w1, w2⟩ := hW.at hc r1
          obtain ⟨cA, c', rfl, ⟨t0, w3⟩, w4⟩ := w2
          obtain ⟨y1, y2⟩ := a_cell_spec hcv
          obtain ⟨av, xv, y3, y4, y5⟩ := hR.2.2 _ _ y2
          obtain ⟨fv, rfl, y6⟩ := y5
          have e0 : v0 = .ref av := by
            rw [RV_ref, if_neg y1] at r0
            obtain ⟨a2, y7, y8⟩ := r0
            rw [y4] at y7
            cases y7
            exact y8
          subst e0
          unfold a_isCls at hty
          split at hty
          · rename_i r hr
            rw [decide_eq_true_eq] at hty
            subst hty
            obtain z | z | z | z | g := c'
            · exact absurd w4 (by simp [AR])
            · exact absurd w4 (by simp [AR])
            · exact absurd w4 (by simp [AR])
            · exact absurd w4 (by simp [AR])
            · refine ⟨_, r2, fun k => va_astq hx hb hK hP hD hS0 n t0 v ci w1 w3 y3 hr hin hd (fun H1 locs1 k1 k2 k3 => k H1 locs1 ⟨_, tys, k1, k2, hK, hR.set w1 ⟨cA, _, rfl, ⟨t0, w3⟩, ?_⟩⟩ k3)⟩
              intro i hi
              by_cases q : i = j.toNatClampNeg
              · subst q
                simp only [va_up, if_true]
                exact ⟨av, r0, rfl⟩
              · simp only [va_up, if_neg q]
                exact w4 i hi
          · cases hty
        · cases hp
      · cases hp
    · cases hp
end SC
end
section
/-! M1'S STEPS ARE THE JVM'S (4): new cells, System.arraycopy, Object.<init>. The rows to the first END are the printed names' own. -/
/-! ===== BEGIN new T[n][m]: the outer array a place, the inner ones among the pooled ===== -/
/-- f, but v at every address of l -/
def vr_up {α : Type} (f : Nat → α) (l : List Nat) (v : α) : Nat → α := fun a => if a ∈ l then v else f a
theorem vr_up_in {α : Type} {f : Nat → α} {l : List Nat} {v : α} {a : Nat} (h : a ∈ l) : vr_up f l v a = v := if_pos h
theorem vr_up_ne {α : Type} {f : Nat → α} {l : List Nat} {v : α} {a : Nat} (h : a ∉ l) : vr_up f l v a = f a := if_neg h
theorem vr_rows {L l : List Nat} {f : Nat → va_E} {e : va_E} (h : ∀ a, a ∈ l → a ∉ L) : va_pl L f ++ l.map (fun a => (a, e)) = va_pl (L ++ l) (vr_up f l e) := by
  unfold va_pl
  rw [List.map_append]
  congr 1
  · apply List.map_congr_left
    intro a ha
    rw [vr_up_ne (fun q => h a q ha)]
  · apply List.map_congr_left
    intro a ha
    rw [vr_up_in ha]
theorem vr_lay {X rows : va_W} {x : Nat × va_E} {pl : va_W} {D : va_G} {cl : List vw_C} {H : Heap} (hP : va_P D cl (((X ++ pl) ++ [x]) ++ rows) H) : va_P D cl ((X ++ [x]) ++ (pl ++ rows)) H := by
  rw [List.append_assoc (X ++ pl)] at hP
  have h := va_P.swap hP
  rw [← List.append_assoc X] at h
  have h2 := va_P.swap h
  rw [List.append_assoc (X ++ [x])] at h2
  exact h2
theorem vr_layD {X rows : va_W} {x : Nat × va_E} {pl : va_W} {A : Nat → Prop} (hD : va_D A (((X ++ pl) ++ [x]) ++ rows)) : va_D A ((X ++ [x]) ++ (pl ++ rows)) := by
  rw [List.append_assoc (X ++ pl)] at hD
  have h := va_D.swap hD
  rw [← List.append_assoc X] at h
  have h2 := va_D.swap h
  rw [List.append_assoc (X ++ [x])] at h2
  exact h2
theorem vr_outer (c : ClassId) (N h0 : Nat) : ∀ i : Nat, Jvm.Free.Multi.outerC c N h0 i = arrV c N (fun j => va_rf (if j < i then some (h0 + 1 + j) else none))
  | 0 => by
    show ({ cls := c, slots := Array.replicate N .null, vm := .none } : Cell) = _
    rw [arrV_new]
    refine congrArg (arrV c N) (funext fun j => ?_)
    simp [va_rf]
  | i + 1 => by
    show (Jvm.Free.Multi.outerC c N h0 i).setSlot i (.ref (h0 + 1 + i)) = _
    rw [vr_outer c N h0 i, arrV_store]
    refine congrArg (arrV c N) (funext fun j => ?_)
    by_cases e : j = i
    · subst e
      simp [updV, va_rf]
    · by_cases h : j < i
      · simp [updV, e, h, Nat.lt_succ_of_lt h]
      · simp [updV, e, h, show ¬ j < i + 1 by omega]
section VGM
variable {p : Program} {l : Launch} {e : Env} {R : Room} {s : State} {m : MethodId} {args : Array Value} {below : List Frame} {meth : Method} {c : Code} {H : Heap} {locs : List Loc} {cells slots : Nat} {Q : State → Prop}
variable {cc : ByteArray} {pc : Nat} {ls : Array Slot} {rest : List Value} {D : va_G} {cl : List vw_C} {A : Nat → Prop} {a : Nat} {tys : List (ClassId × FieldType)} {ws : va_W} {H0 : Heap}
theorem va_mna {X : va_W} {L : List Nat} {f : Nat → va_E} {cc : ByteArray} (hexec : p.tables.exec = Jvm.exec) (hb : c.code = cc) {own : String} {index : Nat} {ty : FieldType} {cy : ClassId} (hown : s.vm.findClass own = some m.cls) (hclink : (Cond.classLink own index ("[" ++ (FieldType.array ty).toString)).before args s = true) (hover : (Cond.arrayOver (.array ty)).before args s = true) (harr : (Cond.arrayClass ty).before args s = true) (hcy : s.vm.findClass (FieldType.array ty).toString = some cy)
    (hK : va_K D cl tys s) (hP : va_P D cl (X ++ va_pl L f) H) (hD : va_D A (X ++ va_pl L f)) (hS : va_S A H0 H locs) (hA : ∀ q, H0.size ≤ q → A q) {n k : Int32} {N' K' : Nat} {z : vp_A} (hn : ¬ n < 0) (hk : ¬ k < 0) (hN : n.toNatClampNeg = N') (hM : k.toNatClampNeg = K')
    (hb1 : N' * 4 ≤ 536870912) (hb2 : K' * componentBytes ty ≤ 536870912) (hb3 : K' ≤ 536870912) (hdf : fits ty (defaultValue ty) = true) (hdd : (defaultValue ty).isDefault = true) (hcells : cells + (1 + N') ≤ R.cells) (hslots : slots + (N' + N' * K') ≤ R.slots) (hz : ∀ c : ClassId, Jvm.Free.Multi.innerC c K' (defaultValue ty) = vp_cell c z) (hdg : decode cc pc = .ok (.multianewarray index 2, 4))
    (kk : ∀ (q : Nat) (r : Nat → Nat) (cA : ClassId) (H1 : Heap), (∀ i j : Nat, i < N' → j < N' → r i = r j → i = j) → (∀ i : Nat, i < N' → r i ∉ L) → va_K D cl (tys ++ [(cA, .array ty)]) s →
      va_P D cl ((X ++ [(q, .inl (cA, N', .inr (.inr (.inr (.inr (fun i => if i < N' then some (r i) else none))))))]) ++ va_pl (L ++ (List.range N').map r) (vr_up f ((List.range N').map r) (.inl (cy, z)))) H1 → va_D A ((X ++ [(q, .inl (cA, N', .inr (.inr (.inr (.inr (fun i => if i < N' then some (r i) else none))))))]) ++ va_pl (L ++ (List.range N').map r) (vr_up f ((List.range N').map r) (.inl (cy, z)))) → va_S A H0 H1 locs →
      W p l e R s m args below meth c H1 locs (cells + 1 + N') (slots + N' + N' * K') Q (F0 m (pc + 4) ls (.ref q :: rest))) : W p l e R s m args below meth c H locs cells slots Q (F0 m pc ls (.int k :: .int n :: rest)) := by
  subst hN
  subst hM
  intro T hT Xs
  obtain ⟨vm₁, cA, comp, -, fA, fC, hO, -, X', step⟩ := Xs.multianewarray2F hexec hown hclink hover harr (g := F0 m pc ls (.int k :: .int n :: rest)) rfl (by rw [hb]; exact hdg) rfl hn hk hb1 hb2 hb3 hdf hdd hcells hslots
  have ec : some cy = some comp := hcy.symm.trans fC
  cases ec
  generalize hF : Jvm.Free.Multi.fill (T.setVm vm₁) cA cy n.toNatClampNeg k.toNatClampNeg (defaultValue ty) n.toNatClampNeg = F at X' step
  have hTh : (T.setVm vm₁).heap = H := hT
  obtain ⟨f1, f2, -, -⟩ := Jvm.Free.Multi.fill_facts (T.setVm vm₁) cA cy n.toNatClampNeg k.toNatClampNeg (defaultValue ty) n.toNatClampNeg
  rw [hF, hTh] at f1 f2
  have hold : ∀ x : Nat, x < H.size → F.heap[x]? = H[x]? := fun x hx => by
    have := Jvm.Free.Multi.fill_old (T.setVm vm₁) cA cy n.toNatClampNeg k.toNatClampNeg (defaultValue ty) (a := x) (by rw [hTh]; exact hx) n.toNatClampNeg
    rw [hF, hTh] at this
    exact this
  have hrow : ∀ j : Nat, j < n.toNatClampNeg → F.heap[H.size + 1 + j]? = some (vp_cell cy z) := fun j hj => by
    have := Jvm.Free.Multi.fill_inner (T.setVm vm₁) cA cy n.toNatClampNeg k.toNatClampNeg (defaultValue ty) n.toNatClampNeg j hj
    rw [hF, hTh, hz] at this
    exact this
  have hout : Jvm.Free.Multi.outerC cA n.toNatClampNeg H.size n.toNatClampNeg = vp_cell cA (n.toNatClampNeg, .inr (.inr (.inr (.inr (fun i => if i < n.toNatClampNeg then some (H.size + 1 + i) else none))))) := by
    rw [vp_cell_q]
    exact vr_outer cA n.toNatClampNeg H.size n.toNatClampNeg
  rw [hout] at f2
  have hlt : ∀ a, a ∈ L → a < H.size := fun a ha => by
    obtain ⟨k9, hk9⟩ := va_pl_get (X := X) (f := f) ha
    exact (hP k9 _ hk9).lt
  have hnl : ∀ i : Nat, i < n.toNatClampNeg → H.size + 1 + i ∉ L := fun i _ h => by
    have := hlt _ h
    omega
  have hnm : ∀ a, a ∈ (List.range n.toNatClampNeg).map (fun i => H.size + 1 + i) → a ∉ L := fun a ha h => by
    obtain ⟨i, -, rfl⟩ := List.mem_map.mp ha
    have := hlt _ h
    omega
  have hP0 : va_P D cl (X ++ va_pl L f) F.heap := hP.kept (fun k9 x hx => hold x.1 ((hP k9 x hx).lt))
  have hP1 : va_P D cl ((X ++ va_pl L f) ++ [(H.size, .inl (cA, n.toNatClampNeg, .inr (.inr (.inr (.inr (fun i => if i < n.toNatClampNeg then some (H.size + 1 + i) else none))))))]) F.heap := hP0.app (fun k9 x hx => by
    have h0 : k9 < 1 := (List.getElem?_eq_some_iff.mp hx).1
    rw [show k9 = 0 by omega] at hx
    cases hx
    exact f2)
  have hP2 : va_P D cl (((X ++ va_pl L f) ++ [(H.size, .inl (cA, n.toNatClampNeg, .inr (.inr (.inr (.inr (fun i => if i < n.toNatClampNeg then some (H.size + 1 + i) else none))))))]) ++ ((List.range n.toNatClampNeg).map (fun i => H.size + 1 + i)).map (fun a => (a, .inl (cy, z)))) F.heap := hP1.app (fun k9 x hx => by
    obtain ⟨a, ha, rfl⟩ := List.mem_map.mp (List.mem_of_getElem? hx)
    obtain ⟨i, hi, rfl⟩ := List.mem_map.mp ha
    exact hrow i (List.mem_range.mp hi))
  have hD2 : va_D A (((X ++ va_pl L f) ++ [(H.size, .inl (cA, n.toNatClampNeg, .inr (.inr (.inr (.inr (fun i => if i < n.toNatClampNeg then some (H.size + 1 + i) else none))))))]) ++ ((List.range n.toNatClampNeg).map (fun i => H.size + 1 + i)).map (fun a => (a, .inl (cy, z)))) := by
    have hD1 := hD.push (e := .inl (cA, n.toNatClampNeg, .inr (.inr (.inr (.inr (fun i => if i < n.toNatClampNeg then some (H.size + 1 + i) else none)))))) hP rfl (hA _ hS.1)
    generalize hW1 : (X ++ va_pl L f) ++ [(H.size, .inl (cA, n.toNatClampNeg, .inr (.inr (.inr (.inr (fun i => if i < n.toNatClampNeg then some (H.size + 1 + i) else none))))))] = W1 at hD1 hP1 ⊢
    have hle : ∀ (k9 : Nat) (x : Nat × va_E), W1[k9]? = some x → x.1 ≤ H.size := fun k9 x hx => by
      rw [← hW1] at hx
      by_cases hl : k9 < (X ++ va_pl L f).length
      · rw [List.getElem?_append_left hl] at hx
        exact Nat.le_of_lt ((hP k9 x hx).lt)
      · rw [List.getElem?_append_right (by omega)] at hx
        have h0 : k9 - (X ++ va_pl L f).length < 1 := (List.getElem?_eq_some_iff.mp hx).1
        rw [show k9 - (X ++ va_pl L f).length = 0 by omega] at hx
        cases hx
        exact Nat.le_refl _
    have hr : ∀ (k9 : Nat) (x : Nat × va_E), (((List.range n.toNatClampNeg).map (fun i => H.size + 1 + i)).map (fun a => ((a, .inl (cy, z)) : Nat × va_E)))[k9]? = some x → x.1 = H.size + 1 + k9 := fun k9 x hx => by
      rw [List.getElem?_map, List.getElem?_map] at hx
      by_cases h9 : k9 < n.toNatClampNeg
      · rw [List.getElem?_range h9] at hx
        cases hx
        rfl
      · have hn0 : (List.range n.toNatClampNeg)[k9]? = none := List.getElem?_eq_none (by rw [List.length_range]; omega)
        rw [hn0] at hx
        cases hx
    refine ⟨fun i j x y hi hj hxy => ?_, fun k9 x hx => ?_⟩
    · by_cases h1 : i < W1.length <;> by_cases h2 : j < W1.length
      · rw [List.getElem?_append_left h1] at hi
        rw [List.getElem?_append_left h2] at hj
        exact hD1.1 i j x y hi hj hxy
      · rw [List.getElem?_append_left h1] at hi
        rw [List.getElem?_append_right (by omega)] at hj
        have := hle _ _ hi
        have := hr _ _ hj
        omega
      · rw [List.getElem?_append_right (by omega)] at hi
        rw [List.getElem?_append_left h2] at hj
        have := hle _ _ hj
        have := hr _ _ hi
        omega
      · rw [List.getElem?_append_right (by omega)] at hi hj
        have := hr _ _ hi
        have := hr _ _ hj
        omega
    · by_cases h1 : k9 < W1.length
      · rw [List.getElem?_append_left h1] at hx
        exact hD1.2 k9 x hx
      · rw [List.getElem?_append_right (by omega)] at hx
        have := hr _ _ hx
        exact hA _ (by have := hS.1; omega)
  have hAr : ArrOfT s cA (.array ty) := fun N9 z9 => by
    obtain ⟨-, k9, hk9, cm9, hkk9⟩ := (hO 0 0 0).1
    exact ⟨(fun q hq => by cases hq), k9, hk9, cm9, hkk9⟩
  have hK2 : va_K D cl (tys ++ [(cA, .array ty)]) s := ⟨hK.1, fun k9 x hx => by
    by_cases hl : k9 < tys.length
    · rw [List.getElem?_append_left hl] at hx
      exact hK.2 k9 x hx
    · rw [List.getElem?_append_right (by omega)] at hx
      have h0 : k9 - tys.length < 1 := (List.getElem?_eq_some_iff.mp hx).1
      rw [show k9 - tys.length = 0 by omega] at hx
      cases hx
      exact ⟨hAr, fA⟩⟩
  obtain ⟨t, a1, b1⟩ := kk H.size (fun i => H.size + 1 + i) cA F.heap (fun i j _ _ h => by have h9 : H.size + 1 + i = H.size + 1 + j := h; omega) hnl hK2 (by rw [← vr_rows hnm]; exact vr_lay hP2) (by rw [← vr_rows hnm]; exact vr_layD hD2) ⟨by rw [f1]; have := hS.1; omega, fun x h1 h2 => (hold x (Nat.lt_of_lt_of_le h1 hS.1)).trans (hS.2.1 x h1 h2), hS.2.2⟩ F rfl X'
  refine ⟨t, step t ?_, b1⟩
  have e : T.heap.size = H.size := by rw [hT]
  rw [e]
  exact a1
end VGM
/-! ===== END ===== -/
theorem RVs.self {b : Nat} {ad : List Nat} : ∀ {S : List Value}, (∀ v ∈ S, RV b ad v v) → RVs b ad S S
  | [], _ => rfl
  | v :: S, h => ⟨v, S, rfl, h v List.mem_cons_self, RVs.self (fun w hw => h w (List.mem_cons_of_mem _ hw))⟩
theorem RV.default {b : Nat} {ad : List Nat} (ty : FieldType) : RV b ad (defaultValue ty) (defaultValue ty) := by cases ty <;> exact rfl
theorem WR.app {b : Nat} {ad : List Nat} {tys ty2 : List (ClassId × FieldType)} {h : aH} {ws : va_W} (w : WR b ad tys h ws) {as : va_W} {es : List aE} (hl : as.length = es.length) (hc : ∀ (j : Nat) (e : aE) (q : Nat × va_E), es[j]? = some e → as[j]? = some q → CR b (ad ++ as.map Prod.fst) (tys ++ ty2) e q.2) : WR b (ad ++ as.map Prod.fst) (tys ++ ty2) (h ++ es) (ws ++ as) := by
  have hal := w.ad_len
  refine ⟨by simp [w.1, hl], by rw [List.map_append, w.2.1], fun i e1 hi => ?_⟩
  by_cases hlt : i < h.length
  · rw [List.getElem?_append_left hlt] at hi
    obtain ⟨a1, x1, h1, h2, h3⟩ := w.2.2 i e1 hi
    exact ⟨a1, x1, pf_at h1, pf_at h2, h3.mono⟩
  · rw [List.getElem?_append_right (by omega)] at hi
    have hj := (List.getElem?_eq_some_iff.mp hi).1
    have hj2 : i - h.length < as.length := by omega
    have e0 := List.getElem?_eq_getElem hj2
    refine ⟨(as[i - h.length]).1, (as[i - h.length]).2, ?_, ?_, hc _ _ _ hi e0⟩
    · rw [List.getElem?_append_right (by rw [w.1]; omega), w.1]; exact e0
    · rw [List.getElem?_append_right (by omega), hal, List.getElem?_map, e0]; rfl
theorem a_arrK {args : Array Value} {s : State} {ty : FieldType} {cA : ClassId} (h : (Cond.arrayClass ty).before args s = true) (hf : s.vm.findClass ("[" ++ ty.toString) = some cA) (hno : a_isRef ty = false) : ArrOfT s cA ty ∧ va_RA s cA ty := by
  obtain ⟨c, k, comp, h1, h2, h3⟩ := Cond.arrayClass_spec h
  rw [hf] at h1
  cases h1
  refine ⟨fun n z => ⟨fun k h => (by cases h), k, h2, comp, h3⟩, ?_⟩
  cases ty <;> first | exact hf | (cases hno)
/-- what an instruction that makes cells links to -/
def a_mk (own : String) (Ts : List Cond) (args : Array Value) (s : State) (x : xI) : Prop := match x.1 with
  | .new idx => ∀ (C : String) (T : u_T) (N : Nat), vwCl[x.2.2.2.1]? = some (C, T, N) → Cond.classLink own idx C ∈ Ts ∧ Cond.instantiable C N ∈ Ts ∧ Cond.initialized C ∈ Ts
  | .newarray ty => Cond.arrayClass (newarray.typeOf ty) ∈ Ts
  | .anewarray idx => ∀ (C : String) (T : u_T) (N : Nat), vwCl[x.2.2.2.1]? = some (C, T, N) → Cond.classLink own idx C ∈ Ts ∧ va_AO C s
  | .multianewarray idx k => k = 2 ∧ Cond.classLink own idx ("[" ++ (FieldType.array .long).toString) ∈ Ts ∧ Cond.arrayClass .long ∈ Ts ∧ (Cond.arrayOver (.array .long)).before args s = true
  | _ => True
section SD
variable {p : Program} {l : Launch} {e : Env} {R : Room} {s : State} {m : MethodId} {args : Array Value} {below : List Frame} {meth : Method} {c : Code} {H : Heap} {locs : List Loc} {cells slots : Nat} {Q : State → Prop}
variable {cc : ByteArray} {pc : Nat} {ls : Array Slot} {b : Nat} {ad : List Nat} {own : String} {D : va_G} {A : Nat → Prop} {H0 : Heap} {Ts : List Cond} {h h' : aH}
theorem RV_new {b : Nat} {ad : List Nat} {n q : Nat} (hn : n ≠ sCR) (hl : ad.length = n) (r : List Nat) : RV b (ad ++ q :: r) (.ref n) (.ref q) := by
  rw [RV_ref, if_neg hn]
  refine ⟨q, ?_, rfl⟩
  rw [List.getElem?_append_right (by omega), hl, Nat.sub_self]; rfl
set_option maxHeartbeats 4000000 in
theorem s_make {x : xI} {S T S' : List Value} {kc ks : Nat} (hx : p.tables.exec = Jvm.exec) (hb : c.code = cc) (hown : s.vm.findClass own = some m.cls) (hts : ∀ w ∈ Ts, w.before args s = true) (hrows : a_rows Ts) (hd : decode cc pc = .ok (x.1, a_len x.1)) (hmk : a_mk own Ts args s x)
    (hW : World D A b ad h H s) (hS0 : va_S A H0 H locs) (hA : ∀ q, H0.size ≤ q → A q) (hp : a_make x S h = some (T, h', kc, ks)) (hS : RVs b ad S S') (hkc : cells + kc ≤ R.cells) (hks : slots + ks ≤ R.slots)
    (kk : ∀ (H1 : Heap) (ad1 : List Nat) (T' : List Value), World D A b (ad ++ ad1) h' H1 s → va_S A H0 H1 locs → RVs b (ad ++ ad1) T T' → W p l e R s m args below meth c H1 locs (cells + kc) (slots + ks) Q (F0 m (pc + a_len x.1) ls T')) : W p l e R s m args below meth c H locs cells slots Q (F0 m pc ls S') := by
  obtain ⟨ins, xr⟩ := x
  dsimp only at hd kk
  unfold a_make at hp
  split at hp
  · cases hp
  rename_i hlen
  have hne : h.length ≠ sCR := fun q => hlen (by omega)
  obtain ⟨ws, tys, hP, hD, hK, hR⟩ := hW
  have hal := hR.ad_len
  cases ins <;> try (simp only [reduceCtorEq] at hp; done)
  case new idx =>
    simp only at hp
    split at hp
    · rename_i fs hfs
      cases hp
      unfold a_new at hfs
      split at hfs
      · rename_i C TT N hcl
        cases hfs
        obtain ⟨m1, m2, m3⟩ := hmk C TT N hcl
        have hN : ((List.range N).map (fun k => defaultValue (a_ty xr.2.2.1 k))).length = N := by simp
        rw [hN] at hks kk
        refine va_new hx hb hts (hrows _ _ _ _ hcl) (a_ty xr.2.2.1) (a_ty_ok hcl) hown (hts _ m1) (hts _ m2) (hts _ m3) hK hP hD hS0 hA hcl (fs := (List.range N).map (fun k => defaultValue (a_ty xr.2.2.1 k))) (fun j hj => ?_) hkc hks hd (fun q H1 k1 k2 k3 => ?_)
        · simp [vp_V, List.getD, hj]
        · refine kk H1 [q] (.ref q :: S') ⟨_, tys ++ [], k1, k2, by rw [List.append_nil]; exact hK, hR.push ⟨_, rfl, RVs.self (fun v hv => ?_)⟩⟩ k3 ⟨_, _, rfl, RV_new hne hal [], hS.mono⟩
          obtain ⟨k, -, rfl⟩ := List.mem_map.mp hv
          exact RV.default _
      · cases hfs
    · cases hp
  case newarray ty =>
    simp only at hp
    split at hp
    · split at hp
      · rename_i hq
        obtain ⟨q1, q2⟩ := hq
        split at hp
        · rename_i a0 ha0
          cases hp
          obtain ⟨R1, rfl, r1⟩ := hS.i1
          refine va_newa (a0 := a0) hx hb (hts _ hmk) rfl hK hP hD hS0 hA (fun cA => ?_) q1 rfl q2 hkc hks hd (fun q cA H1 k0 k1 k2 k3 => ?_)
          · unfold a_zero at ha0
            split at ha0
            · rename_i e0; cases ha0; rw [e0]; rfl
            · rename_i e0; cases ha0; rw [e0]; rfl
            · cases ha0
          · refine kk H1 [q] (.ref q :: R1) ⟨_, _, k1, k2, k0, hR.push ⟨cA, _, rfl, ⟨tys.length, by rw [List.getElem?_append_right (Nat.le_refl _), Nat.sub_self]; rfl⟩, ?_⟩⟩ k3 ⟨_, _, rfl, RV_new hne hal [], r1.mono⟩
            unfold a_zero at ha0
            split at ha0
            · cases ha0; exact rfl
            · cases ha0; exact rfl
            · cases ha0
        · cases hp
      · cases hp
    · cases hp
  case anewarray idx =>
    simp only at hp
    split at hp
    · split at hp
      · rename_i r hcl
        split at hp
        · rename_i hq
          obtain ⟨q1, q2⟩ := hq
          cases hp
          obtain ⟨R1, rfl, r1⟩ := hS.i1
          obtain ⟨C, TT, N⟩ := r
          obtain ⟨m1, m2⟩ := hmk C TT N hcl
          refine va_newq hx hb hown (hts _ m1) m2 hK hP hD hS0 hA q1 rfl q2 hkc hks hd (fun q cA H1 k0 k1 k2 k3 => ?_)
          refine kk H1 [q] (.ref q :: R1) ⟨_, _, k1, k2, k0, hR.push ⟨cA, _, rfl, ⟨tys.length, by rw [List.getElem?_append_right (Nat.le_refl _), Nat.sub_self]; rfl⟩, ?_⟩⟩ k3 ⟨_, _, rfl, RV_new hne hal [], r1.mono⟩
          exact fun i hi => rfl
        · cases hp
      · cases hp
    · cases hp
  case multianewarray idx dm =>
    simp only at hp
    obtain ⟨m0, m1, m2, m3⟩ := hmk
    subst m0
    split at hp
    · rename_i k n R2
      split at hp
      · rename_i hq
        obtain ⟨q1, q2, q3, q4, q5⟩ := hq
        cases hp
        obtain ⟨R1, rfl, r1⟩ := hS.i2
        obtain ⟨cy, kC, comp, hcy, -, -⟩ := Cond.arrayClass_spec (hts _ m2)
        have hcyK := a_arrK (hts _ m2) hcy rfl
        have e0 : ws ++ va_pl [] (fun _ => (.inr (0, []) : va_E)) = ws := by simp [va_pl]
        refine va_mna (X := ws) (L := []) (f := fun _ => (.inr (0, []) : va_E)) (cl := vwCl) (D := D) (cy := cy) (N' := n.toNatClampNeg) (K' := k.toNatClampNeg) (z := (k.toNatClampNeg, .inr (.inl (fun _ => 0)))) hx hb hown (hts _ m1) m3 (hts _ m2) hcy hK (by rw [e0]; exact hP) (by rw [e0]; exact hD) hS0 hA q1 q2 rfl rfl q4 q5 (by omega) rfl rfl hkc hks (fun c9 => ?_) hd (fun q r cA H1 k5 k6 k0 k1 k2 k3 => ?_)
        · rw [vp_cell_l]
          first | exact arrV_new _ _ _ | (rw [← arrV_new]; rfl) | (unfold Jvm.Free.Multi.innerC; rw [← arrV_new]; rfl)
        · have e1 : (ws ++ [(q, (.inl (cA, n.toNatClampNeg, .inr (.inr (.inr (.inr (fun i => if i < n.toNatClampNeg then some (r i) else none))))) : va_E))]) ++ va_pl ([] ++ (List.range n.toNatClampNeg).map r) (vr_up (fun _ => (.inr (0, []) : va_E)) ((List.range n.toNatClampNeg).map r) (.inl (cy, k.toNatClampNeg, .inr (.inl (fun _ => 0))))) = ws ++ ((q, (.inl (cA, n.toNatClampNeg, .inr (.inr (.inr (.inr (fun i => if i < n.toNatClampNeg then some (r i) else none))))) : va_E)) :: (List.range n.toNatClampNeg).map (fun i => (r i, (.inl (cy, k.toNatClampNeg, .inr (.inl (fun _ => 0))) : va_E)))) := by
            rw [List.append_assoc, List.nil_append, List.singleton_append]
            congr 2
            unfold va_pl
            rw [List.map_map]
            apply List.map_congr_left
            intro i hi
            show (r i, vr_up _ _ _ (r i)) = _
            rw [vr_up_in (List.mem_map.mpr ⟨i, hi, rfl⟩)]
          rw [e1] at k1 k2
          have k9 : va_K D vwCl ((tys ++ [(cA, .array .long)]) ++ [(cy, .long)]) s := k0.app ⟨k0.1, fun t q9 h9 => by
            have ht : t < 1 := (List.getElem?_eq_some_iff.mp h9).1
            rw [show t = 0 by omega] at h9
            cases h9
            exact hcyK⟩
          rw [List.append_assoc] at k9
          have hlen2 : (((q, (.inl (cA, n.toNatClampNeg, .inr (.inr (.inr (.inr (fun i => if i < n.toNatClampNeg then some (r i) else none))))) : va_E)) :: (List.range n.toNatClampNeg).map (fun i => (r i, (.inl (cy, k.toNatClampNeg, .inr (.inl (fun _ => 0))) : va_E)))) : va_W).map Prod.fst = q :: (List.range n.toNatClampNeg).map r := by
            rw [List.map_cons, List.map_map]; rfl
          rw [Nat.add_assoc, Nat.add_assoc]
          have hgo := hR.app (ty2 := [(cA, .array .long)] ++ [(cy, .long)]) (as := (q, (.inl (cA, n.toNatClampNeg, .inr (.inr (.inr (.inr (fun i => if i < n.toNatClampNeg then some (r i) else none))))) : va_E)) :: (List.range n.toNatClampNeg).map (fun i => (r i, (.inl (cy, k.toNatClampNeg, .inr (.inl (fun _ => 0))) : va_E)))) (es := .inl (.array .long, n.toNatClampNeg, .inr (.inr (.inr (.inr (fun i => if i < n.toNatClampNeg then some (h.length + 1 + i) else none))))) :: (List.range n.toNatClampNeg).map (fun _ => .inl (.long, k.toNatClampNeg, .inr (.inl (fun _ => 0))))) (by simp) (fun j e9 q9 h1 h2 => ?_)
          · rw [hlen2] at hgo
            refine kk H1 (q :: (List.range n.toNatClampNeg).map r) (.ref q :: R1) ⟨_, _, k1, k2, k9, ?_⟩ k3 ⟨_, _, rfl, RV_new hne hal _, r1.mono⟩
            rw [List.append_assoc, List.singleton_append]
            exact hgo
          · rw [hlen2]
            cases j with
            | zero =>
              cases h1; cases h2
              refine ⟨cA, _, rfl, ⟨tys.length, by rw [List.getElem?_append_right (Nat.le_refl _), Nat.sub_self]; rfl⟩, fun i hi => ?_⟩
              simp only [if_pos hi]
              refine ⟨r i, ?_, rfl⟩
              rw [RV_ref, if_neg (by omega)]
              refine ⟨r i, ?_, rfl⟩
              rw [List.getElem?_append_right (by omega), hal, show h.length + 1 + i - h.length = i + 1 by omega, List.getElem?_cons_succ, List.getElem?_map, List.getElem?_range hi]; rfl
            | succ j =>
              rw [List.getElem?_cons_succ, List.getElem?_map] at h1 h2
              have hj : j < n.toNatClampNeg := by
                cases hq : (List.range n.toNatClampNeg)[j]? with
                | none => rw [hq] at h1; cases h1
                | some y => exact by simpa using (List.getElem?_eq_some_iff.mp hq).1
              rw [List.getElem?_range hj] at h1 h2
              cases h1; cases h2
              refine ⟨cy, _, rfl, ⟨tys.length + 1, ?_⟩, rfl⟩
              rw [List.getElem?_append_right (by omega), show tys.length + 1 - tys.length = 1 by omega]; rfl
      · cases hp
    · cases hp
end SD
end
section
/-! CALLS, CERTIFICATES, AND THE WALK: what M1 does, the JVM does -/
/-- the words of the tables that hold at every state of the run -/
def GW : List Cond := lw_tbl.filter goodWord
/-- private members of nest mates: who links, where, to what -/
def NWl : List (String × Nat × MethodName) := [("ChanceCourt$Equations", 33, yX11_has), ("ChanceCourt$Guide", 44, yX11_has), ("ChanceCourt$Holes", 62, yX11_has), ("ChanceCourt$Horizon", 43, yX11_has), ("ChanceCourt$Twins", 41, yX11_has), ("ChanceCourt$Verdict", 123, yX11_has), ("ChanceCourt$Ways", 32, yX11_has), ("ChanceCourt$World", 69, yX11_has), ("ChanceCourt", 76, yX6_init), ("ChanceCourt$Prices", 11, yX1_init), ("ChanceCourt$Shelf", 17, yX0_init), ("ChanceCourt$Verdict", 11, yX1_init), ("ChanceCourt$World", 25, yX0_init)]
def ENV (s : State) : Prop := (∀ q ∈ NWl, va_Nw (.methodLinkNest q.1 q.2.1 q.2.2 "ChanceCourt") s) ∧ va_AO "ChanceCourt$Act" s ∧ va_AO "ChanceCourt$Shelf" s ∧ (Cond.arrayOver (.array .long)).before #[] s = true
theorem a_AOA {A A' : Array Value} {u : State} (h : (Cond.arrayOver (.array .long)).before A u = true) : (Cond.arrayOver (.array .long)).before A' u = true := h
theorem a_AOA_spec {t : FieldType} {u : State} (h : (Cond.arrayOver (.array t)).before #[] u = true) : ∃ (comp c : ClassId) (k : Class) (c0 : ClassId), u.vm.findClass (FieldType.array t).toString = some comp ∧ (u.vm.classes.findIdx? fun (x : Class) => match x.kind with | .array component _ => component == comp | _ => false) = some c ∧ u.vm.classes[c]? = some k ∧ k.kind = .array c0 (.array t) ∧ u.vm.findClass ("[" ++ (FieldType.array t).toString) = some c := by
  unfold Cond.before Cond.holds at h
  simp only [Cond.value, beq_iff_eq] at h
  cases hc : u.vm.findClass (FieldType.array t).toString with
  | none => simp [hc] at h
  | some comp =>
    simp only [hc, Option.bind_some] at h
    obtain ⟨c, h2, h3⟩ := Option.bind_eq_some_iff.mp h
    obtain ⟨k, h4, h5⟩ := Option.map_eq_some_iff.mp h3
    split at h5
    · rename_i c0 ty hk
      simp only [Bool.and_eq_true, decide_eq_true_eq] at h5
      obtain ⟨e1, e2⟩ := h5
      subst e1
      exact ⟨comp, c, k, c0, rfl, h2, h4, hk, e2⟩
    · cases h5
theorem a_AOA_moved {t : FieldType} {u U : State} (hvm : u.vm.Alike U.vm) (h : (Cond.arrayOver (.array t)).before #[] u = true) : (Cond.arrayOver (.array t)).before #[] U = true := by
  obtain ⟨comp, c, k, c0, h1, h2, h3, h4, h5⟩ := a_AOA_spec h
  obtain ⟨k', hk', he⟩ := hvm.2.2 _ _ h3
  have hi : (U.vm.classes.findIdx? fun (x : Class) => match x.kind with | .array component _ => component == comp | _ => false) = some c := by
    refine (va_idx_bare U.vm comp).symm.trans ?_
    have e2 : U.vm.bare = u.vm.bare := by first | exact hvm.bare_eq | exact hvm.bare_eq.symm
    rw [e2]
    exact (va_idx_bare u.vm comp).trans h2
  have hkind : k'.kind = .array c0 (.array t) := by rw [he]; exact h4
  have f1 : U.vm.findClass (FieldType.array t).toString = some comp := by rw [hvm.findClass]; exact h1
  have f2 : U.vm.findClass ("[" ++ (FieldType.array t).toString) = some c := by rw [hvm.findClass]; exact h5
  unfold Cond.before Cond.holds
  simp only [Cond.value]
  rw [f1, Option.bind_some]
  refine (congrArg (fun o : Option Nat => (o.bind (fun c => (U.vm.classes[c]?).map fun (k : Class) => match k.kind with | .array _ ty => decide (ty = FieldType.array t) && decide (U.vm.findClass ("[" ++ (FieldType.array t).toString) = some c) | _ => false) == some true)) hi).trans ?_
  simp [hk', hkind, f2]
theorem ENV.moved {s U : State} (hW : s.WarmedH U.vm) (h : ENV s) : ENV U := ⟨fun q hq => va_Nw.warmM hW (h.1 q hq), va_AO.moved hW.alike h.2.1, va_AO.moved hW.alike h.2.2.1, a_AOA_moved hW.alike h.2.2.2⟩
/-- which cells a method may change -/
def aA (ad : List Nat) (sz : Nat) : Nat → Prop := fun q => q ∈ ad ∨ sz ≤ q
def RO (b : Nat) (ad : List Nat) : Option Value → Option Value → Prop
  | none, r => r = none
  | some v, r => ∃ v', r = some v' ∧ RV b ad v v'
theorem RO.list {b : Nat} {ad : List Nat} {r r' : Option Value} (h : RO b ad r r') : RVs b ad r.toList r'.toList := by
  cases r with
  | none => rw [show r' = none from h]; exact rfl
  | some v =>
    obtain ⟨v', h1, h2⟩ := h
    subst h1
    exact ⟨v', [], rfl, h2, rfl⟩
def CtrP (D : va_G) (b : Nat) (xs : Nat × (Nat → Int32)) (args : List Value) (h : aH) (ad : List Nat) (sz : Nat) : Array Value → State → Prop := fun v U =>
  ∃ args', v = args'.toArray ∧ RVs b ad args args' ∧ U.heap.size = sz ∧ World D (fun _ => True) b ad h U.heap U ∧ ENV U ∧ va_X b xs.1 xs.2 U U.heap ∧ b < sz ∧ b ∉ ad
def CtrQ (D : va_G) (b : Nat) (Q : Option Value → aH → Prop) (ad : List Nat) (sz : Nat) : Array Value → State → Outcome → State → Prop := fun _ st oc t =>
  (∃ r r' h' ad1, oc = .returned r' ∧ Q r h' ∧ RO b (ad ++ ad1) r r' ∧ World D (fun _ => True) b (ad ++ ad1) h' t.heap t ∧ ∀ a ∈ ad1, sz ≤ a) ∧ va_F (aA ad sz) st t
def wsM (M : aM) : List Cond := Cond.code M.1 M.2.1 M.2.2.1 M.2.2.2.1 :: GW
def rmD (d : Nat) (M : aM) : Room := { frames := d, cells := M.2.2.2.2.2.1.1, slots := M.2.2.2.2.2.1.2, locals := 39 * d }
/-- THE CONTRACT of a method at depth d: from these arguments and this heap it comes to Q -/
def Ctr (l : Launch) (D : va_G) (b : Nat) (xs : Nat × (Nat → Int32)) (d : Nat) (M : aM) (args : List Value) (h : aH) (Q : Option Value → aH → Prop) : Prop :=
  ∀ ad sz, Met l M.1 (wsM M) (rmD d M) (CtrP D b xs args h ad sz) (CtrQ D b Q ad sz) M.2.2.2.2.2.1.1 M.2.2.2.2.2.1.2 (aA ad sz)
theorem CtrP.blind {D : va_G} {b : Nat} {xs : Nat × (Nat → Int32)} {args : List Value} {h : aH} {ad : List Nat} {sz : Nat} : FrameBlind (CtrP D b xs args h ad sz) := fun _ _ _ _ hp => hp
/-- where an instruction stands -/
def pcOf (tbl : List xI) (i : Nat) : Nat := match tbl[i]? with
  | some x => x.2.1
  | none => 0
def a_isSw (x : Instr) : Bool := match x with | .tableswitch _ _ _ _ => true | _ => false
def a_falls (x : Instr) : Bool := match x with | .tableswitch _ _ _ _ => false | .goto _ => false | .return_ => false | .ireturn => false | .lreturn => false | .areturn => false | _ => true
def a_jumps (x : Instr) : Bool := match x with | .goto _ => true | .ifCond _ _ => true | .if_icmp _ _ => true | _ => false
/-- what an instruction that makes cells links to: the tables' part -/
def a_mkS (own : String) (x : xI) : Prop := match x.1 with
  | .new idx => ∀ (C : String) (T : u_T) (N : Nat), vwCl[x.2.2.2.1]? = some (C, T, N) → Cond.classLink own idx C ∈ GW ∧ Cond.instantiable C N ∈ GW ∧ Cond.initialized C ∈ GW
  | .newarray ty => Cond.arrayClass (newarray.typeOf ty) ∈ GW
  | .anewarray idx => ∀ (C : String) (T : u_T) (N : Nat), vwCl[x.2.2.2.1]? = some (C, T, N) → Cond.classLink own idx C ∈ GW ∧ (C = "ChanceCourt$Act" ∨ C = "ChanceCourt$Shelf")
  | .multianewarray idx k => k = 2 ∧ Cond.classLink own idx ("[" ++ (FieldType.array .long).toString) ∈ GW ∧ Cond.arrayClass .long ∈ GW
  | _ => True
/-- what every callee is -/
def a_cal (M : aM) (n : Nat) : Prop := Cond.code M.1 M.2.1 M.2.2.1 M.2.2.2.1 ∈ GW ∧ Cond.initialized M.1.cls ∈ GW ∧ M.1.cls ≠ "java/lang/invoke/MethodHandle" ∧ M.1.cls ≠ "java/lang/invoke/VarHandle" ∧ (parseMethodDescriptor M.1.desc).map (fun d => d.parameters.length) = some n ∧ M.2.2.1 ≤ 20
def a_lnk (own : String) (idx : Nat) (y : MethodName) : Prop := Cond.methodLink own idx y ∈ GW ∨ (own, idx, y) ∈ NWl
def a_callV (own : String) (MT : List aM) (x : xI) (idx : Nat) : Prop := ∀ M, MT[x.2.2.2.1]? = some M → (∃ n, x.2.2.2.2.1 = n + 1 ∧ a_cal M n) ∧ Cond.methodLink own idx M.1 ∈ GW ∧ Cond.instanceMethod M.1 ∈ GW ∧ Cond.selects M.1.cls M.1 M.1 ∈ GW ∧ ∃ ci : Nat, (ci : Int) = x.2.2.2.2.2.1 ∧ ∃ T N, vwCl[ci]? = some (M.1.cls, T, N)
def a_callS (own : String) (MT : List aM) (x : xI) (idx : Nat) : Prop := ∀ M, MT[x.2.2.2.1]? = some M → a_cal M x.2.2.2.2.1 ∧ a_lnk own idx M.1 ∧ Cond.static M.1 ∈ GW
def a_callI (own : String) (MT : List aM) (x : xI) (idx : Nat) : Prop := ∀ M, MT[x.2.2.2.1]? = some M → (∃ n, x.2.2.2.2.1 = n + 1 ∧ a_cal M n) ∧ a_lnk own idx M.1 ∧ Cond.instanceMethod M.1 ∈ GW ∧ M.1.name = "<init>" ∧ M.2.2.2.1 = none
def a_callC (own : String) (idx : Nat) : Prop := Cond.methodLink own idx arraycopyName ∈ GW ∧ Cond.native arraycopyName ∈ GW ∧ Cond.static arraycopyName ∈ GW ∧ Cond.initialized "java/lang/System" ∈ GW
def a_callO (own : String) (idx : Nat) : Prop := Cond.methodLink own idx objectInit ∈ GW ∧ Cond.instanceMethod objectInit ∈ GW ∧ Cond.code objectInit ⟨#[0xb1]⟩ 1 none ∈ GW
/-- THE CERTIFICATE of an instruction -/
def xOK (own mname : String) (cc : ByteArray) (MT : List aM) (tbl : List xI) (i : Nat) (x : xI) : Prop :=
  decode cc x.2.1 = .ok (x.1, x.2.2.1) ∧ (a_isSw x.1 = false → x.2.2.1 = a_len x.1) ∧ (a_falls x.1 = true → pcOf tbl (i + 1) = x.2.1 + x.2.2.1) ∧ (a_jumps x.1 = true → (x.2.1 : Int) + a_off x.1 = (pcOf tbl x.2.2.2.1 : Int)) ∧
  (∀ w, a_const own x.1 x.2.2.2.2.2.1 = some w → w ∈ GW) ∧ (∀ idx, x.1 = .getfield idx → a_fld own GW x idx) ∧ (∀ idx, x.1 = .putfield idx → a_fld own GW x idx ∧ a_fin own mname x) ∧ a_mkS own x ∧
  (∀ idx, x.1 = .invokevirtual idx → a_callV own MT x idx) ∧ (∀ idx, x.1 = .invokestatic idx → if x.2.2.2.1 = idCopy then a_callC own idx else a_callS own MT x idx) ∧ (∀ idx, x.1 = .invokespecial idx → if x.2.2.2.1 = idInit then a_callO own idx else a_callI own MT x idx) ∧
  (∀ d lo hi offs, x.1 = .tableswitch d lo hi offs → (∀ j, x.2.2.2.2.2.2[0]? = some j → (x.2.1 : Int) + d = (pcOf tbl j : Int)) ∧ ∀ (k j : Nat), x.2.2.2.2.2.2[k + 1]? = some j → ∃ o, offs[k]? = some o ∧ (x.2.1 : Int) + o = (pcOf tbl j : Int))
def tOK (own mname : String) (cc : ByteArray) (MT : List aM) (tbl : List xI) : Prop := ∀ (i : Nat) (x : xI), tbl[i]? = some x → xOK own mname cc MT tbl i x
theorem a_scope {D : va_G} {A : Nat → Prop} {b : Nat} {ad : List Nat} {h : aH} {H : Heap} {s : State} (w : World D A b ad h H s) : ∀ q ∈ ad, A q ∧ q < H.size := by
  obtain ⟨ws, tys, hP, hD, hK, hR⟩ := w
  intro q hq
  rw [← hR.2.1] at hq
  obtain ⟨x, hx, rfl⟩ := List.mem_map.mp hq
  obtain ⟨i, hi⟩ := List.getElem?_of_mem hx
  exact ⟨hD.2 i x hi, (hP i x hi).lt⟩
theorem World.weaken {D : va_G} {A B : Nat → Prop} {b : Nat} {ad : List Nat} {h : aH} {H : Heap} {s : State} (w : World D A b ad h H s) (hB : ∀ q ∈ ad, B q) : World D B b ad h H s := by
  obtain ⟨ws, tys, hP, hD, hK, hR⟩ := w
  refine ⟨ws, tys, hP, ⟨hD.1, fun k q hk => hB _ ?_⟩, hK, hR⟩
  rw [← hR.2.1]
  exact List.mem_map.mpr ⟨q, List.mem_of_getElem? hk, rfl⟩
theorem World.moved {D : va_G} {A : Nat → Prop} {b : Nat} {ad : List Nat} {h : aH} {H : Heap} {s U : State} (hvm : s.vm.Alike U.vm) (w : World D A b ad h H s) : World D A b ad h H U := by
  obtain ⟨ws, tys, hP, hD, hK, hR⟩ := w
  exact ⟨ws, tys, hP, hD, hK.moved hvm, hR⟩
section SE
variable {p : Program} {l : Launch} {e : Env} {R : Room} {s : State} {m : MethodId} {args : Array Value} {below : List Frame} {meth : Method} {c : Code} {H : Heap} {locs : List Loc} {cells slots : Nat} {Q : State → Prop}
variable {cc : ByteArray} {pc : Nat} {ls : Array Slot} {b : Nat} {ad : List Nat} {own : String} {D : va_G} {A0 : Nat → Prop} {H0 : Heap} {h : aH} {xs : Nat × (Nat → Int32)}
theorem s_after {Q1 : Option Value → aH → Prop} {mc ms : Nat} {a : Array Value} {st0 rest : List Value} (hr : va_Run p l e R s m args below meth c H locs cells slots mc ms (F0 m pc ls st0) rest (CtrQ D b Q1 ad H.size a) (aA ad H.size)) (hS : va_S A0 H0 H locs) (hA : ∀ q, H0.size ≤ q → A0 q) (had : ∀ q ∈ ad, A0 q)
    (kk : ∀ (r r' : Option Value) (h' : aH) (ad1 : List Nat) (H1 : Heap) (locs1 : List Loc), Q1 r h' → RO b (ad ++ ad1) r r' → World D A0 b (ad ++ ad1) h' H1 s → va_S A0 H0 H1 locs1 → W p l e R s m args below meth c H1 locs1 (cells + mc) (slots + ms) Q (F0 m (pc + 3) ls (r'.toList ++ rest))) : W p l e R s m args below meth c H locs cells slots Q (F0 m pc ls st0) := by
  intro T hT X
  obtain ⟨v, st₀, t, T', L, h0, X', hL, e1, e2, ⟨⟨r, r', h', ad1, hv, hq, hro, hw, hnew⟩, hz, hk⟩, st⟩ := hr T hT X
  cases hv
  rw [h0] at hz hk
  have hAA : ∀ q, aA ad H.size q → A0 q := fun q hq => hq.elim (had q) (fun z => hA q (Nat.le_trans hS.1 z))
  have hvm : t.vm.Alike s.vm := by rw [← e2]; exact X'.warmed.alike.symm
  rw [← e1] at hw
  obtain ⟨t2, a1, b1⟩ := kk r v h' ad1 T'.heap (locs ++ L) hq hro ((hw.moved hvm).weaken (fun q hq => (List.mem_append.mp hq).elim (had q) (fun z => hA q (Nat.le_trans hS.1 (hnew q z)))))
    ⟨Nat.le_trans hS.1 (by rw [e1]; exact hz), fun q h1 h2 => by rw [e1, hk q (Nat.lt_of_lt_of_le h1 hS.1) (fun z => h2 (hAA q z))]; exact hS.2.1 q h1 h2, fun q hq => by
      rcases List.mem_append.mp hq with h | h
      · exact hS.2.2 q h
      · exact hAA _ (hL q h)⟩ T' rfl X'
  exact ⟨t2, st t2 a1, b1⟩
end SE
end
section
/-! THE WALK: a run of M1 is a run of the JVM -/
theorem GW_good {ws : List Cond} (h : ∀ w ∈ ws, w ∈ GW) : GoodIn GW ws := fun w hw => ⟨h w hw, good_of_word (List.mem_filter.mp (h w hw)).2⟩
theorem wsM_in {M : aM} (h : Cond.code M.1 M.2.1 M.2.2.1 M.2.2.2.1 ∈ GW) : ∀ w ∈ wsM M, w ∈ GW := fun w hw => (List.mem_cons.mp hw).elim (fun q => by rw [q]; exact h) id
theorem a_store_len {x : Instr} {L L' : aL} {S T : List Value} (h : a_store x L S = some (L', T)) : L'.length = L.length := by
  unfold a_store at h
  split at h
  all_goals first
    | (split at h
       · split at h
         · cases h; first | exact a_set1_len _ _ _ | exact a_set2_len _ _ _
         · cases h
       · cases h)
    | cases h
theorem a_take {b : Nat} {ad : List Nat} {S S' : List Value} {k : Nat} (h : RVs b ad S S') (hk : k ≤ S.length) : S' = (S'.take k).reverse.reverse ++ S'.drop k ∧ RVs b ad (S.take k).reverse (S'.take k).reverse ∧ RVs b ad (S.drop k) (S'.drop k) ∧ ((S'.take k).reverse).length = k := by
  refine ⟨by rw [List.reverse_reverse, List.take_append_drop], (h.take k).rev, h.drop k, ?_⟩
  rw [List.length_reverse, List.length_take, h.length]; omega
section SF
variable {p : Program} {l : Launch} {e : Env} {R : Room} {s : State} {m : MethodId} {args : Array Value} {below : List Frame} {meth : Method} {c : Code} {H : Heap} {locs : List Loc} {cells slots : Nat} {Q : State → Prop}
variable {cc : ByteArray} {pc nL : Nat} {ls : Array Slot} {b : Nat} {ad : List Nat} {own : String} {D : va_G} {A : Nat → Prop} {h : aH} {xs : Nat × (Nat → Int32)}
theorem s_pre {argsA args' : List Value} (hr : RVs b ad argsA args') (hW : World D A b ad h H s) (henv : ENV s) (hS0 : va_S A s.heap H locs) (hsc : a_scr A b xs s s.heap) : ∀ U : State, U.heap = H → s.WarmedH U.vm → CtrP D b xs argsA h ad H.size args'.toArray U := by
  intro U hU hw
  refine ⟨args', rfl, hr, by rw [hU], ?_, henv.moved hw, ?_, Nat.lt_of_lt_of_le hsc.2.1 hS0.1, fun q => hsc.2.2 (a_scope hW b q).1⟩
  · rw [hU]
    exact ((hW.weaken (B := fun _ => True) (fun _ _ => trivial)).moved hw.alike)
  · rw [hU]
    exact (hsc.1.moved hw.alike).kept (hS0.2.1 b hsc.2.1 hsc.2.2)
set_option maxHeartbeats 4000000 in
/-- the three calls -/
theorem s_call {x : xI} {S S' : List Value} {M : aM} {d k : Nat} {Q1 : Option Value → aH → Prop} {MT : List aM} (hx : p.tables.exec = Jvm.exec) (hb : c.code = cc) (hml : c.maxLocals = nL) (hown : s.vm.findClass own = some m.cls) (hts : ∀ w ∈ GW, w.before args s = true) (henv : ENV s)
    (hd : decode cc pc = .ok (x.1, 3)) (hM : MT[x.2.2.2.1]? = some M) (hk : x.2.2.2.2.1 = k) (hkS : k ≤ S.length) (hrw : a_words (S.drop k) ≤ 8)
    (hcall : (∃ idx, x.1 = .invokevirtual idx ∧ a_callV own MT x idx ∧ a_rcv h x.2.2.2.2.2.1 (S.take k).reverse = true) ∨ (∃ idx, x.1 = .invokestatic idx ∧ a_callS own MT x idx) ∨ (∃ idx v AsA, x.1 = .invokespecial idx ∧ a_callI own MT x idx ∧ (S.take k).reverse = .ref v :: AsA))
    (hRf : d + 1 ≤ R.frames) (hRl : 39 * (d + 1) ≤ R.locals) (hC : Ctr l D b xs d M (S.take k).reverse h Q1)
    (hW : World D A b ad h H s) (hS0 : va_S A s.heap H locs) (hA : ∀ q, s.heap.size ≤ q → A q) (hsc : a_scr A b xs s s.heap) (hls : ls.size = nL) (hS : RVs b ad S S') (hkc : cells + M.2.2.2.2.2.1.1 ≤ R.cells) (hks : slots + M.2.2.2.2.2.1.2 ≤ R.slots)
    (kk : ∀ (r r' : Option Value) (h' : aH) (ad1 : List Nat) (H1 : Heap) (locs1 : List Loc) (R' : List Value), Q1 r h' → RO b (ad ++ ad1) r r' → RVs b ad (S.drop k) R' → World D A b (ad ++ ad1) h' H1 s → va_S A s.heap H1 locs1 → W p l e R s m args below meth c H1 locs1 (cells + M.2.2.2.2.2.1.1) (slots + M.2.2.2.2.2.1.2) Q (F0 m (pc + 3) ls (r'.toList ++ R'))) : W p l e R s m args below meth c H locs cells slots Q (F0 m pc ls S') := by
  obtain ⟨t1, t2, t3, t4⟩ := a_take hS hkS
  generalize hr' : S'.drop k = rest at t1 t3
  generalize ha' : (S'.take k).reverse = args' at t1 t2 t4
  have hroom : (rest.map fun v => v.category).sum ≤ 8 := by rw [t3.words]; exact hrw
  have hpre := s_pre (locs := locs) (xs := xs) t2 hW henv hS0 hsc
  have CF : CallFix p m c cc nL s args GW own := ⟨hx, hb, hml, hown, hts⟩
  have had : ∀ q ∈ ad, A q := fun q hq => (a_scope hW q hq).1
  have fin : va_Run p l e R s m args below meth c H locs cells slots M.2.2.2.2.2.1.1 M.2.2.2.2.2.1.2 (F0 m pc ls S') rest (CtrQ D b Q1 ad H.size args'.toArray) (aA ad H.size) → W p l e R s m args below meth c H locs cells slots Q (F0 m pc ls S') := fun hrun => s_after hrun hS0 hA had (fun r r' h' ad1 H1 locs1 q1 q2 q3 q4 => kk r r' h' ad1 H1 locs1 rest q1 q2 t3 q3 q4)
  rcases hcall with ⟨idx, e1, hcv, hrc⟩ | ⟨idx, e1, hcs⟩ | ⟨idx, v, AsA, e1, hci, hvA⟩
  · obtain ⟨⟨n, hn, c1, c2, c3, c4, c5, c6⟩, c7, c8, c9, ci, c10, T9, N9, c11⟩ := hcv M hM
    rw [e1] at hd
    unfold a_rcv at hrc
    split at hrc
    · rename_i v AsA hvA
      split at hrc
      · rename_i ci2 fs2 hcell
        rw [decide_eq_true_eq] at hrc
        have eci : ci2 = ci := by omega
        subst eci
        rw [hvA] at t2
        obtain ⟨v', As', g1, g2, g3⟩ := t2
        subst g1
        obtain ⟨ws, tys, a, x1, rfl, hP, hD, hK, hR, w1, w2⟩ := hW.at hcell g2
        obtain ⟨fs', rfl, w3⟩ := w2
        have hlen : As'.length = n := by have := t4; simp only [List.length_cons] at this; omega
        refine fin (va_runV CF (hC ad H.size) (cwV n hts (GW_good (fun w hw => ?_)) rfl rfl rfl ⟨rfl, c3, c4, c5⟩ ⟨hRf, ?_⟩) ⟨CtrP.blind, va_recv hK hP c11 w1, hpre⟩ rfl hlen hls ?_ (lv_room hroom) hd ⟨hkc, hks⟩)
        · rcases List.mem_append.mp hw with hw | hw
          · simp only [List.mem_cons, List.not_mem_nil, or_false] at hw
            rcases hw with rfl | rfl | rfl | rfl
            · exact c7
            · exact c8
            · exact c9
            · exact c2
          · exact wsM_in c1 w hw
        · show 8 + (M.2.2.1 + 11) + 39 * d ≤ R.locals
          omega
        · show S' = _
          rw [t1, List.reverse_cons, List.append_assoc]; rfl
      · cases hrc
    · cases hrc
  · obtain ⟨⟨c1, c2, c3, c4, c5, c6⟩, c7, c8⟩ := hcs M hM
    rw [e1] at hd
    have hRR : (rmD d M).frames + 1 ≤ R.frames ∧ 8 + (M.2.2.1 + 11) + (rmD d M).locals ≤ R.locals := ⟨hRf, by show 8 + (M.2.2.1 + 11) + 39 * d ≤ R.locals; omega⟩
    rcases c7 with c7 | c7
    · refine fin (va_runS CF (hC ad H.size) (va_cwS x.2.2.2.2.1 hts (GW_good (fun w hw => ?_)) rfl rfl rfl ⟨c3, c4, c5⟩ hRR) ⟨CtrP.blind, hpre⟩ rfl (t4.trans hk.symm) hls ?_ (lv_room hroom) hd ⟨hkc, hks⟩)
      · rcases List.mem_append.mp hw with hw | hw
        · simp only [List.mem_cons, List.not_mem_nil, or_false] at hw
          rcases hw with rfl | rfl | rfl
          · exact c7
          · exact c8
          · exact c2
        · exact wsM_in c1 w hw
      · exact t1
    · exact fin (va_runSN CF (hC ad H.size) ⟨va_cnB x.2.2.2.2.1 hts (GW_good (wsM_in c1)) rfl rfl rfl (henv.1 _ c7) (hts _ c2) ⟨c3, c4, c5⟩ hRR, hts _ c8, trivial⟩ ⟨CtrP.blind, hpre⟩ rfl (t4.trans hk.symm) hls t1 (lv_room hroom) hd ⟨hkc, hks⟩)
  · obtain ⟨⟨n, hn, c1, c2, c3, c4, c5, c6⟩, c7, c8, c9, c10⟩ := hci M hM
    rw [e1] at hd
    rw [hvA] at t2
    obtain ⟨v', As', g1, g2, g3⟩ := t2
    subst g1
    obtain ⟨a, rfl⟩ := g2.isRef
    have hlen : As'.length = n := by have := t4; simp only [List.length_cons] at this; omega
    have hst : S' = As'.reverse ++ .ref a :: rest := by rw [t1, List.reverse_cons, List.append_assoc]; rfl
    have hRR : (rmD d M).frames + 1 ≤ R.frames ∧ 8 + (M.2.2.1 + 11) + (rmD d M).locals ≤ R.locals := ⟨hRf, by show 8 + (M.2.2.1 + 11) + 39 * d ≤ R.locals; omega⟩
    have hcode : wsM M = Cond.code M.1 M.2.1 M.2.2.1 none :: GW := by unfold wsM; rw [c10]
    rcases c7 with c7 | c7
    · exact fin (va_runI CF (hC ad H.size) (cwI n hts (GW_good (wsM_in c1)) hcode rfl rfl (hts _ c2) (hts _ c7) (hts _ c8) c9 ⟨c3, c4, c5⟩ hRR) ⟨CtrP.blind, hpre⟩ rfl hlen hls hst (lv_room hroom) hd ⟨hkc, hks⟩)
    · exact fin (va_runIN CF (hC ad H.size) ⟨va_cnB n hts (GW_good (wsM_in c1)) hcode rfl rfl (henv.1 _ c7) (hts _ c2) ⟨c3, c4, c5⟩ hRR, c9, hts _ c8⟩ ⟨CtrP.blind, hpre⟩ rfl hlen hls hst (lv_room hroom) hd ⟨hkc, hks⟩)
end SF
end
section
/-! THE WALK (2): arraycopy, and all instructions together -/
theorem a_ret_len {x : Instr} {rt : Option FieldType} {S : List Value} {r : Option Value} (h : a_ret x rt S = some r) : a_len x = 1 := by
  cases x <;> first | rfl | (simp only [a_ret, reduceCtorEq] at h; done)
theorem a_pure_falls {x : Instr} {z : Int} {S T : List Value} (h : a_pure x z S = some T) : a_falls x = true := by
  cases x <;> first | rfl | (simp only [a_pure, reduceCtorEq] at h; done)
theorem a_load_falls {x : Instr} {L : aL} {v : Value} (h : a_load x L = some v) : a_falls x = true := by
  cases x <;> first | rfl | (simp only [a_load, reduceCtorEq] at h; done)
theorem a_store_falls {x : Instr} {L L' : aL} {S T : List Value} (h : a_store x L S = some (L', T)) : a_falls x = true := by
  cases x <;> first | rfl | (simp only [a_store, reduceCtorEq] at h; done)
theorem a_br_jumps {x : Instr} {S T : List Value} {t : Bool} (h : a_br x S = some (t, T)) : a_jumps x = true := by
  cases x <;> first | rfl | (simp only [a_br, reduceCtorEq] at h; done)
theorem a_br_falls {x : Instr} {S T : List Value} (h : a_br x S = some (false, T)) : a_falls x = true := by
  cases x <;> first | rfl | (simp only [a_br, reduceCtorEq] at h; done) | (simp [a_br] at h; done)
theorem a_read_falls {xs : Nat × (Nat → Int32)} {x : xI} {h1 : aH} {S T : List Value} (h : a_read xs x S h1 = some T) : a_falls x.1 = true := by
  obtain ⟨ins, xr⟩ := x
  cases ins <;> first | rfl | (simp only [a_read, reduceCtorEq] at h; done)
theorem a_write_falls {x : xI} {h1 h2 : aH} {S T : List Value} (h : a_write x S h1 = some (T, h2)) : a_falls x.1 = true := by
  obtain ⟨ins, xr⟩ := x
  cases ins <;> first | rfl | (simp only [a_write, reduceCtorEq] at h; done)
theorem a_make_falls {x : xI} {h1 h2 : aH} {S T : List Value} {kc ks : Nat} (h : a_make x S h1 = some (T, h2, kc, ks)) : a_falls x.1 = true := by
  obtain ⟨ins, xr⟩ := x
  unfold a_make at h
  split at h
  · cases h
  cases ins <;> first | rfl | (simp only [reduceCtorEq] at h; done)
theorem a_mk_of {own : String} {args : Array Value} {s : State} {x : xI} (h : a_mkS own x) (henv : ENV s) : a_mk own GW args s x := by
  obtain ⟨ins, xr⟩ := x
  cases ins
  case anewarray idx =>
    intro C T N hc
    obtain ⟨h1, h2⟩ := h C T N hc
    refine ⟨h1, ?_⟩
    rcases h2 with rfl | rfl
    · exact henv.2.1
    · exact henv.2.2.1
  case multianewarray idx k => exact ⟨h.1, h.2.1, h.2.2, a_AOA henv.2.2.2⟩
  all_goals exact h
section SG
variable {p : Program} {l : Launch} {e : Env} {R : Room} {s : State} {m : MethodId} {args : Array Value} {below : List Frame} {meth : Method} {c : Code} {H : Heap} {locs : List Loc} {cells slots : Nat} {Q : State → Prop}
variable {cc : ByteArray} {pc nL : Nat} {ls : Array Slot} {b : Nat} {ad : List Nat} {own : String} {D : va_G} {A : Nat → Prop} {h h' : aH} {xs : Nat × (Nat → Int32)} {H0 : Heap}
set_option maxHeartbeats 4000000 in
theorem s_copy {S T S' : List Value} {idx : Nat} (hx : p.tables.exec = Jvm.exec) (hb : c.code = cc) (hml : c.maxLocals = ls.size) (hown : s.vm.findClass own = some m.cls) (hts : ∀ w ∈ GW, w.before args s = true) (hc : a_callC own idx) (hd : decode cc pc = .ok (.invokestatic idx, 3)) (hRf : 1 ≤ R.frames) (hRl : 39 ≤ R.locals)
    (hW : World D A b ad h H s) (hS0 : va_S A H0 H locs) (hp : a_copy S h = some (T, h')) (hw : a_words T ≤ 8) (hS : RVs b ad S S')
    (kk : ∀ (H1 : Heap) (locs1 : List Loc) (T' : List Value), RVs b ad T T' → World D A b ad h' H1 s → va_S A H0 H1 locs1 → W p l e R s m args below meth c H1 locs1 cells slots Q (F0 m (pc + 3) ls T')) : W p l e R s m args below meth c H locs cells slots Q (F0 m pc ls S') := by
  obtain ⟨l1, l2, l3, l4⟩ := hc
  unfold a_copy at hp
  split at hp
  · rename_i n dp d sp a0 R2
    obtain ⟨R0, rfl, r0⟩ := hS.i2
    obtain ⟨vd, R1, rfl, rd, r1⟩ := r0
    obtain ⟨R3, rfl, r3⟩ := r1.i1
    obtain ⟨va, R4, rfl, ra, r4⟩ := r3
    have hlo : ∀ T : List Value, T = R2 → (R4.map fun v => v.category).sum + (nativeFrameWords "java/lang/System" "arraycopy" 5 + 11) ≤ R.locals := fun T hT => by
      have e1 : nativeFrameWords "java/lang/System" "arraycopy" 5 = 7 := by decide +kernel
      rw [r4.words, e1]
      have : a_words R2 ≤ 8 := by
        split at hp
        · split at hp
          · cases hp; exact hw
          · cases hp
        · split at hp
          · cases hp; exact hw
          · cases hp
        · cases hp
      omega
    split at hp
    · rename_i ty n0 f ty1 n1 g hca hcd
      split at hp
      · rename_i hq
        obtain ⟨q0, q00, q1, q2, q3, q4, q5⟩ := hq
        subst q0; subst q00
        cases hp
        obtain ⟨y1, y2⟩ := a_cell_spec hca
        obtain ⟨ws, tys, ax, x1, rfl, hP, hD, hK, hR, w1, w2⟩ := hW.at hcd rd
        obtain ⟨cA, c', rfl, ⟨t0, w3⟩, w4⟩ := w2
        obtain ⟨av, xv, y3, y4, y5⟩ := hR.2.2 _ _ y2
        obtain ⟨cB, c'', rfl, ⟨t1, w5⟩, w6⟩ := y5
        have e0 : va = .ref av := by
          rw [RV_ref, if_neg y1] at ra
          obtain ⟨a2, y7, y8⟩ := ra
          rw [y4] at y7
          cases y7
          exact y8
        subst e0
        obtain g1 | z := c'
        · cases (show g = g1 from w4)
          obtain f1 | z := c''
          · cases (show f = f1 from w6)
            refine va_copyi hx hb hml hown (hts _ l1) (hts _ l2) (hts _ l3) (hts _ l4) hK hP hD hS0 a0 d t1 t0 y3 w1 w5 w3 rfl q1 q2 q3 q4 q5 (fun i hi => rfl) hRf (hlo _ rfl) hd (fun H1 locs1 k1 k2 k3 => kk H1 locs1 R4 r4 ⟨_, tys, k1, k2, hK, hR.set w1 ⟨cA, _, rfl, ⟨t0, w3⟩, rfl⟩⟩ k3)
          · exact absurd w6 (by simp [AR])
        · exact absurd w4 (by simp [AR])
      · cases hp
    · rename_i ty n0 f ty1 n1 g hca hcd
      split at hp
      · rename_i hq
        obtain ⟨q0, q00, q1, q2, q3, q4, q5⟩ := hq
        subst q0; subst q00
        cases hp
        obtain ⟨y1, y2⟩ := a_cell_spec hca
        obtain ⟨ws, tys, ax, x1, rfl, hP, hD, hK, hR, w1, w2⟩ := hW.at hcd rd
        obtain ⟨cA, c', rfl, ⟨t0, w3⟩, w4⟩ := w2
        obtain ⟨av, xv, y3, y4, y5⟩ := hR.2.2 _ _ y2
        obtain ⟨cB, c'', rfl, ⟨t1, w5⟩, w6⟩ := y5
        have e0 : va = .ref av := by
          rw [RV_ref, if_neg y1] at ra
          obtain ⟨a2, y7, y8⟩ := ra
          rw [y4] at y7
          cases y7
          exact y8
        subst e0
        obtain z | g1 | z := c'
        · exact absurd w4 (by simp [AR])
        · cases (show g = g1 from w4)
          obtain z | f1 | z := c''
          · exact absurd w6 (by simp [AR])
          · cases (show f = f1 from w6)
            refine va_copyl hx hb hml hown (hts _ l1) (hts _ l2) (hts _ l3) (hts _ l4) hK hP hD hS0 a0 d t1 t0 y3 w1 w5 w3 rfl q1 q2 q3 q4 q5 (fun i hi => rfl) hRf (hlo _ rfl) hd (fun H1 locs1 k1 k2 k3 => kk H1 locs1 R4 r4 ⟨_, tys, k1, k2, hK, hR.set w1 ⟨cA, _, rfl, ⟨t0, w3⟩, rfl⟩⟩ k3)
          · exact absurd w6 (by simp [AR])
        · exact absurd w4 (by simp [AR])
      · cases hp
    · cases hp
  · cases hp
variable {MT : List aM} {C : Nat → List Value → aH → (Option Value → aH → Prop) → Prop} {tbl : List xI} {rt : Option FieldType} {Qf : Option Value → aH → Prop} {mname : String} {d : Nat}
set_option maxHeartbeats 4000000 in
/-- what M1 does from instruction i on, the JVM does -/
theorem s_walk (hx : p.tables.exec = Jvm.exec) (hb : c.code = cc) (hml : c.maxLocals = nL) (hown : s.vm.findClass own = some m.cls) (hts : ∀ w ∈ GW, w.before args s = true) (hrows : a_rows GW) (henv : ENV s) (hmn : meth.name = mname) (hT : tOK own mname cc MT tbl) (hA : ∀ q, s.heap.size ≤ q → A q) (hsc : a_scr A b xs s s.heap)
    (hRf : d + 1 ≤ R.frames) (hRl : 39 * (d + 1) ≤ R.locals) (IH : ∀ j argsA h1 Q1, C j argsA h1 Q1 → ∀ M, MT[j]? = some M → Ctr l D b xs d M argsA h1 Q1) (ad0 : List Nat)
    (hret : ∀ (i : Nat) (x : xI) (S : List Value) (h1 : aH) (r : Option Value) (H1 : Heap) (locs1 : List Loc) (ce sl : Nat) (ad1 : List Nat) (ls1 : Array Slot) (S' : List Value), tbl[i]? = some x → a_ret x.1 rt S = some r → Qf r h1 → World D A b (ad0 ++ ad1) h1 H1 s → va_S A s.heap H1 locs1 → RVs b (ad0 ++ ad1) S S' → ce ≤ R.cells → sl ≤ R.slots → decode cc x.2.1 = .ok (x.1, 1) → W p l e R s m args below meth c H1 locs1 ce sl Q (F0 m x.2.1 ls1 S')) :
    ∀ (n i : Nat) (L : aL) (S : List Value) (h1 : aH) (bc bs : Nat), wp1 xs C MT tbl rt Qf n i L S h1 bc bs → ∀ (H1 : Heap) (locs1 : List Loc) (ce sl : Nat) (ad1 : List Nat) (ls1 : Array Slot) (S' : List Value), World D A b (ad0 ++ ad1) h1 H1 s → va_S A s.heap H1 locs1 → LR b (ad0 ++ ad1) L ls1 → L.length = nL → RVs b (ad0 ++ ad1) S S' → ce + bc = R.cells → sl + bs = R.slots → W p l e R s m args below meth c H1 locs1 ce sl Q (F0 m (pcOf tbl i) ls1 S') := by
  intro n
  induction n with
  | zero => intro i L S h1 bc bs hw; exact hw.elim
  | succ n ih =>
    intro i L S h1 bc bs hw H1 locs1 ce sl ad1 ls1 S' hW hS0 hL hLn hS hce hsl
    unfold wp1 at hw
    split at hw
    · exact hw.elim
    rename_i x hxi
    have hpc : pcOf tbl i = x.2.1 := by unfold pcOf; rw [hxi]
    rw [hpc]
    obtain ⟨o1, o2, o3, o4, o5, o6, o7, o8, o9, o10, o11, o12⟩ := hT i x hxi
    have hls : ls1.size = nL := by rw [hL.1]; exact hLn
    -- a call's continuation
    have aft : ∀ (k : Nat) (M : aM), a_falls x.1 = true → x.2.2.1 = 3 → M.2.2.2.2.2.1.1 ≤ bc → M.2.2.2.2.2.1.2 ≤ bs → ∀ (r r' : Option Value) (h' : aH) (ad2 : List Nat) (H2 : Heap) (locs2 : List Loc) (R' : List Value), wp1 xs C MT tbl rt Qf n (i + 1) L (r.toList ++ S.drop k) h' (bc - M.2.2.2.2.2.1.1) (bs - M.2.2.2.2.2.1.2) → RO b ((ad0 ++ ad1) ++ ad2) r r' → RVs b (ad0 ++ ad1) (S.drop k) R' → World D A b ((ad0 ++ ad1) ++ ad2) h' H2 s → va_S A s.heap H2 locs2 → W p l e R s m args below meth c H2 locs2 (ce + M.2.2.2.2.2.1.1) (sl + M.2.2.2.2.2.1.2) Q (F0 m (x.2.1 + 3) ls1 (r'.toList ++ R')) := by
      intro k M hf h3 hm1 hm2 r r' h' ad2 H2 locs2 R' q1 q2 q3 q4 q5
      have e := o3 hf
      rw [h3] at e
      rw [← e]
      rw [List.append_assoc] at q2 q4
      have q3' : RVs b (ad0 ++ (ad1 ++ ad2)) (S.drop k) R' := by rw [← List.append_assoc]; exact q3.mono
      have hL' : LR b (ad0 ++ (ad1 ++ ad2)) L ls1 := by rw [← List.append_assoc]; exact hL.mono
      exact ih _ _ _ _ _ _ q1 H2 locs2 _ _ (ad1 ++ ad2) ls1 _ q4 q5 hL' hLn (q2.list.app q3') (by omega) (by omega)
    split at hw
    · rename_i idx hins
      obtain ⟨u1, u2, u3, M, u4, u5, u6, u7⟩ := hw
      have h3 : x.2.2.1 = 3 := by rw [o2 (by rw [hins]; rfl), hins]; rfl
      have hf : a_falls x.1 = true := by rw [hins]; rfl
      exact s_call hx hb hml hown hts henv (by rw [h3] at o1; exact o1) u4 rfl u3 u2 (Or.inl ⟨idx, hins, o9 idx hins, u1⟩) hRf hRl (IH _ _ _ _ u7 M u4) hW hS0 hA hsc hls hS (by omega) (by omega) (aft _ M hf h3 u5 u6)
    · rename_i idx hins
      have h3 : x.2.2.1 = 3 := by rw [o2 (by rw [hins]; rfl), hins]; rfl
      have hf : a_falls x.1 = true := by rw [hins]; rfl
      have o10' := o10 idx hins
      split at hw
      · rename_i hid
        rw [if_pos hid] at o10'
        obtain ⟨T, h', u1, u2, u3⟩ := hw
        have e := o3 hf
        rw [h3] at e
        refine s_copy (idx := idx) hx hb (by rw [hml, hls]) hown hts o10' (by rw [hins, h3] at o1; exact o1) (by omega) (by omega) hW hS0 u1 u2 hS (fun H2 locs2 T' q1 q2 q3 => ?_)
        rw [← e]
        exact ih _ _ _ _ _ _ u3 H2 locs2 _ _ ad1 ls1 _ q2 q3 hL hLn q1 hce hsl
      · rename_i hid
        rw [if_neg hid] at o10'
        obtain ⟨u2, u3, M, u4, u5, u6, u7⟩ := hw
        exact s_call hx hb hml hown hts henv (by rw [h3] at o1; exact o1) u4 rfl u3 u2 (Or.inr (Or.inl ⟨idx, hins, o10'⟩)) hRf hRl (IH _ _ _ _ u7 M u4) hW hS0 hA hsc hls hS (by omega) (by omega) (aft _ M hf h3 u5 u6)
    · rename_i idx hins
      have h3 : x.2.2.1 = 3 := by rw [o2 (by rw [hins]; rfl), hins]; rfl
      have hf : a_falls x.1 = true := by rw [hins]; rfl
      have o11' := o11 idx hins
      split at hw
      · rename_i hid
        rw [if_pos hid] at o11'
        obtain ⟨v, R1, u1, u2, u3⟩ := hw
        subst u1
        obtain ⟨v', R', rfl, r1, r2⟩ := hS
        obtain ⟨a, rfl⟩ := r1.isRef
        have e := o3 hf
        rw [h3] at e
        have hw8 : (R'.map fun v => v.category).sum ≤ 8 := by rw [r2.words]; exact u2
        refine W.objInit hx hb hown (hts _ o11'.1) (hts _ o11'.2.1) (hts _ o11'.2.2) rfl (by rw [hml]; exact hls) rfl (by rw [hins, h3] at o1; exact o1) (by omega) (by show 2 * 0 + _ + 12 ≤ _; omega) ?_
        refine W.eq (g2 := F0 m (pcOf tbl (i + 1)) ls1 R') (by rw [e]) ?_
        exact ih _ _ _ _ _ _ u3 H1 locs1 _ _ ad1 ls1 _ hW hS0 hL hLn r2 hce hsl
      · rename_i hid
        rw [if_neg hid] at o11'
        obtain ⟨u1, u2, u3, M, u4, u5, u6, u7⟩ := hw
        unfold a_isR at u1
        split at u1
        · rename_i v AsA hvA
          exact s_call hx hb hml hown hts henv (by rw [h3] at o1; exact o1) u4 rfl u3 u2 (Or.inr (Or.inr ⟨idx, v, AsA, hins, o11', hvA⟩)) hRf hRl (IH _ _ _ _ u7 M u4) hW hS0 hA hsc hls hS (by omega) (by omega) (aft _ M hf h3 u5 u6)
        · cases u1
    · rename_i dd lo hi offs hins
      split at hw
      · rename_i v R1
        split at hw
        · rename_i j hj
          obtain ⟨R', rfl, r1⟩ := hS.i1
          obtain ⟨g1, g2⟩ := o12 dd lo hi offs hins
          exact s_sw (pcs := pcOf tbl) hx hb (by rw [hins] at o1; exact o1) g1 g2 hj (ih _ _ _ _ _ _ hw H1 locs1 _ _ ad1 ls1 _ hW hS0 hL hLn r1 hce hsl)
        · exact hw.elim
      · exact hw.elim
    · rename_i n1 n2 n3 n4
      have hsw : a_isSw x.1 = false := by
        unfold a_isSw
        split
        · rename_i hq; exact (n4 _ _ _ _ hq).elim
        · rfl
      have hlen := o2 hsw
      rw [hlen] at o1 o3
      split at hw
      · rename_i r hr
        refine hret i x S h1 r H1 locs1 ce sl ad1 ls1 S' hxi hr hw hW hS0 hS (by omega) (by omega) ?_
        rw [a_ret_len hr] at o1
        exact o1
      split at hw
      · rename_i T hp
        obtain ⟨T', g1, g2⟩ := s_pure (l := l) (e := e) (R := R) (below := below) (meth := meth) (H := H1) (locs := locs1) (cells := ce) (slots := sl) (Q := Q) (ls := ls1) hx hb hown o1 (fun w hw => hts w (o5 w hw)) hp hS
        refine g2 ?_
        rw [← o3 (a_pure_falls hp)]
        exact ih _ _ _ _ _ _ hw H1 locs1 _ _ ad1 ls1 _ hW hS0 hL hLn g1 hce hsl
      split at hw
      · rename_i v hp
        obtain ⟨v', g1, g2⟩ := s_load (l := l) (e := e) (R := R) (s := s) (args := args) (m := m) (below := below) (meth := meth) (H := H1) (locs := locs1) (cells := ce) (slots := sl) (Q := Q) (S' := S') hx hb o1 hp hL
        refine g2 ?_
        rw [← o3 (a_load_falls hp)]
        exact ih _ _ _ _ _ _ hw H1 locs1 _ _ ad1 ls1 _ hW hS0 hL hLn ⟨v', S', rfl, g1, hS⟩ hce hsl
      split at hw
      · rename_i L' T hp
        obtain ⟨T', g1, g2⟩ := s_store (l := l) (e := e) (R := R) (s := s) (args := args) (m := m) (below := below) (meth := meth) (H := H1) (locs := locs1) (cells := ce) (slots := sl) (Q := Q) hx hb o1 hp hL hS
        refine g2 (fun ls2 hL2 => ?_)
        rw [← o3 (a_store_falls hp)]
        exact ih _ _ _ _ _ _ hw H1 locs1 _ _ ad1 ls2 _ hW hS0 hL2 (by rw [a_store_len hp]; exact hLn) g1 hce hsl
      split at hw
      · rename_i t T hp
        obtain ⟨T', g1, g2⟩ := s_br (l := l) (e := e) (R := R) (s := s) (args := args) (m := m) (below := below) (meth := meth) (H := H1) (locs := locs1) (cells := ce) (slots := sl) (Q := Q) (ls := ls1) hx hb o1 (o4 (a_br_jumps hp)) hp hS
        refine g2 ?_
        cases t with
        | true => exact ih _ _ _ _ _ _ hw H1 locs1 _ _ ad1 ls1 _ hW hS0 hL hLn g1 hce hsl
        | false =>
          show W p l e R s m args below meth c H1 locs1 ce sl Q (F0 m (x.2.1 + a_len x.1) ls1 T')
          rw [← o3 (a_br_falls hp)]
          exact ih _ _ _ _ _ _ hw H1 locs1 _ _ ad1 ls1 _ hW hS0 hL hLn g1 hce hsl
      split at hw
      · rename_i T hp
        obtain ⟨T', g1, g2⟩ := s_read (l := l) (e := e) (R := R) (m := m) (below := below) (meth := meth) (cells := ce) (slots := sl) (Q := Q) (ls := ls1) hx hb hown hts hrows o1 o6 hW hS0 hsc hp hS
        refine g2 ?_
        rw [← o3 (a_read_falls hp)]
        exact ih _ _ _ _ _ _ hw H1 locs1 _ _ ad1 ls1 _ hW hS0 hL hLn g1 hce hsl
      split at hw
      · rename_i T h' hp
        obtain ⟨T', g1, g2⟩ := s_write (l := l) (e := e) (R := R) (below := below) (cells := ce) (slots := sl) (Q := Q) (ls := ls1) hx hb hown hts hrows o1 (fun idx hi => by rw [hmn]; exact o7 idx hi) hW hS0 hp hS
        refine g2 (fun H2 locs2 q1 q2 => ?_)
        rw [← o3 (a_write_falls hp)]
        exact ih _ _ _ _ _ _ hw H2 locs2 _ _ ad1 ls1 _ q1 q2 hL hLn g1 hce hsl
      split at hw
      · rename_i T h' kc ks hp
        obtain ⟨u1, u2, u3⟩ := hw
        refine s_make hx hb hown hts hrows o1 (a_mk_of o8 henv) hW hS0 hA hp hS (by omega) (by omega) (fun H2 ad2 T' q1 q2 q3 => ?_)
        rw [← o3 (a_make_falls hp)]
        rw [List.append_assoc] at q1 q3
        have hL' : LR b (ad0 ++ (ad1 ++ ad2)) L ls1 := by rw [← List.append_assoc]; exact hL.mono
        exact ih _ _ _ _ _ _ u3 H2 locs1 _ _ (ad1 ++ ad2) ls1 _ q1 q2 hL' hLn q3 (by omega) (by omega)
      · exact hw.elim
end SG
end
section
/-! THE CONTRACTS: a call of M1 is a call of the JVM -/
theorem a_args_at {b : Nat} {ad : List Nat} : ∀ {vs vs' : List Value} (o : Nat) {k : Nat} {v : Value}, RVs b ad vs vs' → a_get (a_args vs) k = some v → ∃ v', (o + k, v') ∈ lv_args o vs' ∧ RV b ad v v'
  | [], _, o, k, v, _, h => by simp [a_args, a_get] at h
  | w :: vs, _, o, k, v, ⟨w', R', e, h1, h2⟩, h => by
    subst e
    unfold a_args at h
    have hcat := h1.cat
    split at h
    · rename_i hc
      match k, h with
      | 0, h =>
        simp only [a_get, List.getElem?_cons_zero] at h
        cases h
        exact ⟨w', by simp [lv_args], h1⟩
      | 1, h => simp [a_get] at h
      | k + 2, h =>
        obtain ⟨v', g1, g2⟩ := a_args_at (o + 2) (k := k) h2 (by simpa [a_get] using h)
        refine ⟨v', ?_, g2⟩
        have e : o + (k + 2) = o + 2 + k := by omega
        rw [e]
        simp only [lv_args]
        rw [hcat, hc]
        exact List.mem_cons_of_mem _ g1
    · rename_i hc
      have hc1 : w'.category = 1 := by
        rcases lv_cat w' with q | q
        · exact q
        · exact absurd (hcat.symm.trans q) hc
      match k, h with
      | 0, h =>
        simp only [a_get, List.getElem?_cons_zero] at h
        cases h
        exact ⟨w', by simp [lv_args], h1⟩
      | k + 1, h =>
        obtain ⟨v', g1, g2⟩ := a_args_at (o + 1) (k := k) h2 (by simpa [a_get] using h)
        refine ⟨v', ?_, g2⟩
        have e : o + (k + 1) = o + 1 + k := by omega
        rw [e]
        simp only [lv_args]
        rw [hc1]
        exact List.mem_cons_of_mem _ g1
theorem a_args_len {b : Nat} {ad : List Nat} : ∀ {vs vs' : List Value}, RVs b ad vs vs' → (lg_sl vs').length = (a_args vs).length
  | [], _, h => by rw [show _ = [] from h]; rfl
  | w :: vs, _, ⟨w', R', e, h1, h2⟩ => by
    subst e
    have ih := a_args_len h2
    unfold a_args
    simp only [lg_sl, List.flatMap_cons] at ih ⊢
    rw [h1.cat]
    split <;> simp [ih] <;> omega
theorem a_locals_len {n : Nat} {vs : List Value} (h : (a_args vs).length ≤ n) : (a_locals n vs).length = n := by
  unfold a_locals
  rw [List.length_append, List.length_replicate]; omega
theorem a_locals_LR {b : Nat} {ad : List Nat} {vs vs' : List Value} {n : Nat} (hr : RVs b ad vs vs') (h : (a_args vs).length ≤ n) : LR b ad (a_locals n vs) ((lg_sl vs' ++ List.replicate (n - (lg_sl vs').length) Slot.unset).toArray) := by
  have hl := a_args_len hr
  have hh := lv_entry vs' (n := n) (by omega)
  refine ⟨by rw [hh.1, a_locals_len h], hh.2.1, fun k v hk => ?_⟩
  have hk2 : a_get (a_args vs) k = some v := by
    have := a_get_lt hk
    unfold a_locals at this
    by_cases hlt : k < (a_args vs).length
    · rw [List.getElem?_append_left hlt] at this
      exact a_get_some this
    · rw [List.getElem?_append_right (by omega), List.getElem?_replicate] at this
      split at this <;> cases this
  obtain ⟨v', g1, g2⟩ := a_args_at 0 hr hk2
  rw [Nat.zero_add] at g1
  exact ⟨v', hh.2.2 _ g1, g2⟩
/-- what every method of the table is -/
def mOK (MT : List aM) (M : aM) : Prop := (plainName M.1.cls = true ∧ pcOf M.2.2.2.2.2.2 0 = 0) ∧ tOK M.1.cls M.1.name M.2.1 MT M.2.2.2.2.2.2
theorem World.new {D : va_G} {b : Nat} {ad ad1 : List Nat} {h : aH} {H : Heap} {s : State} {sz : Nat} (w : World D (aA ad sz) b (ad ++ ad1) h H s) : ∀ a ∈ ad1, sz ≤ a := by
  obtain ⟨ws, tys, hP, hD, hK, hR⟩ := w
  intro a ha
  have e := hR.2.1
  obtain ⟨j, hj⟩ := List.getElem?_of_mem ha
  have h1 : (ad ++ ad1)[ad.length + j]? = some a := by rw [List.getElem?_append_right (by omega), show ad.length + j - ad.length = j by omega]; exact hj
  rw [← e, List.getElem?_map] at h1
  obtain ⟨q, h2, h3⟩ := Option.map_eq_some_iff.mp h1
  have h4 := hD.2 _ _ h2
  rw [h3] at h4
  rcases h4 with h4 | h4
  · obtain ⟨i, hi⟩ := List.getElem?_of_mem h4
    have h5 : (ad ++ ad1)[i]? = some a := pf_at hi
    rw [← e, List.getElem?_map] at h5
    obtain ⟨q', h6, h7⟩ := Option.map_eq_some_iff.mp h5
    have := hD.1 _ _ _ _ h2 h6 (h3.trans h7.symm)
    have := (List.getElem?_eq_some_iff.mp hi).1
    omega
  · exact h4
set_option maxHeartbeats 4000000 in
theorem snd_call {l : Launch} {D : va_G} {b : Nat} {xs : Nat × (Nat → Int32)} {MT : List aM} {P : Nat → Nat → List Value → aH → (Option Value → aH → Prop) → Prop} (hrows : a_rows GW) (hMT : ∀ (j : Nat) (M : aM), MT[j]? = some M → mOK MT M)
    (hP : ∀ (d j : Nat) args h Q, P d j args h Q → ∀ M, MT[j]? = some M → Ctr l D b xs d M args h Q) : ∀ (d j : Nat) args h Q, call1 xs MT P d j args h Q → ∀ M, MT[j]? = some M → Ctr l D b xs d M args h Q := by
  intro d
  induction d with
  | zero => exact fun j args h Q hc => hP 0 j args h Q hc
  | succ d IH =>
    intro j argsA h Q hc M hM
    rcases hc with hc | ⟨M2, e, hn, hlen, n, hw⟩
    · exact hP _ _ _ _ _ hc M hM
    rw [hM] at e
    cases e
    obtain ⟨⟨hpl, hp0⟩, hT⟩ := hMT j M hM
    intro ad sz
    refine Met.ofW (cc := M.2.1) (maxL := M.2.2.1) (ret := M.2.2.2.1) (ws' := GW) hpl rfl ?_
    intro p e s m args below meth c s₁ B hml hv
    obtain ⟨args', rfl, hr, hsz, hWd, henv, hX, hbs, hbad⟩ := hv
    have hx := B.exec
    have hb := B.bytes
    have hret := B.returns
    have hts := atoms_spec (ws := wsM M) B.pre
    have hown : s.vm.findClass M.1.cls = some m.cls := findClass_of_methodNamed B.named
    have hmn : meth.name = M.1.name := (name_of_methodNamed B.named B.method).1
    have hlocks := B.notSynchronized
    subst hsz
    have hA : ∀ q, s.heap.size ≤ q → aA ad s.heap.size q := fun q hq => Or.inr hq
    have hsc : a_scr (aA ad s.heap.size) b xs s s.heap := ⟨hX, hbs, fun q => q.elim hbad (fun z => by omega)⟩
    rw [lg_entry_eq]
    have hw0 : World D (aA ad s.heap.size) b (ad ++ []) h s.heap s := by rw [List.append_nil]; exact hWd.weaken (fun q hq => Or.inl hq)
    have key := s_walk (l := l) (e := e) (R := rmD (d + 1) M) (below := below) (meth := meth) (D := D) (A := aA ad s.heap.size) (Q := MQ below (CtrQ D b Q ad s.heap.size) args'.toArray s M.2.2.2.2.2.1.1 M.2.2.2.2.2.1.2 (aA ad s.heap.size)) (rt := M.2.2.2.1) (Qf := Q) (d := d) (C := call1 xs MT P d) hx hb hml hown (fun w hw => hts w (List.mem_cons_of_mem _ hw)) hrows henv hmn hT hA hsc (Nat.le_refl _) (Nat.le_refl _) (fun j a9 h9 Q9 q M9 hM9 => IH j a9 h9 Q9 q M9 hM9) ad ?_ n 0 (a_locals M.2.2.1 argsA) [] h M.2.2.2.2.2.1.1 M.2.2.2.2.2.1.2 hw s.heap [] 0 0 [] _ [] hw0 va_S.rf (by rw [List.append_nil]; exact a_locals_LR hr hlen) (a_locals_len hlen) rfl (Nat.zero_add _) (Nat.zero_add _)
    · rw [hp0] at key
      exact key
    · intro i x S h1 r H1 locs1 ce sl ad1 ls1 S' hxi hrt hq hw1 hS1 hSS hce hsl hdec
      refine W.widen (k := M.2.2.2.2.2.1.1) (n := M.2.2.2.2.2.1.2) hce hsl ?_
      have hfree : ∀ q ∈ locs1, aA ad s.heap.size q.base := hS1.2.2
      have post : ∀ (r' : Option Value), RO b (ad ++ ad1) r r' → ∀ t : State, t.heap = H1 → s.WarmedH t.vm → CtrQ D b Q ad s.heap.size args'.toArray s (.returned r') t := fun r' hro t ht hwm =>
        ⟨⟨r, r', h1, ad1, rfl, hq, hro, by rw [ht]; exact (hw1.weaken (B := fun _ => True) (fun _ _ => trivial)).moved hwm.alike, hw1.new⟩, hS1.F ht⟩
      obtain ⟨ins, xr⟩ := x
      dsimp only at hrt hdec ⊢
      cases ins <;> try (simp only [a_ret, reduceCtorEq] at hrt; done)
      case return_ =>
        simp only [a_ret] at hrt
        split at hrt
        · rename_i hq9
          obtain ⟨q1, q2⟩ := hq9
          cases hrt
          subst q2
          rw [show S' = [] from hSS]
          exact W.vret hx hb (by rw [hret]; exact q1) (post none rfl) hfree hdec
        · cases hrt
      case ireturn =>
        simp only [a_ret] at hrt
        split at hrt
        · split at hrt
          · split at hrt
            · rename_i ty hty hnar
              cases hrt
              obtain ⟨R', rfl, r2⟩ := hSS.i1
              rw [show R' = [] from r2]
              exact W.zret hx hb (by rw [hret]; exact hty) hnar (post _ ⟨_, rfl, rfl⟩) hfree hdec
            · cases hrt
          · cases hrt
        · cases hrt
      case lreturn =>
        simp only [a_ret] at hrt
        split at hrt
        · split at hrt
          · rename_i hty
            cases hrt
            obtain ⟨R', rfl, r2⟩ := hSS.l1
            rw [show R' = [] from r2]
            exact W.lret hx hb (by rw [hret]; exact hty) (post _ ⟨_, rfl, rfl⟩) hfree hdec
          · cases hrt
        · cases hrt
      case areturn =>
        simp only [a_ret] at hrt
        split at hrt
        · split at hrt
          · split at hrt
            · rename_i ty hty hnar
              cases hrt
              obtain ⟨v', R', rfl, r1, r2⟩ := hSS
              rw [show R' = [] from r2]
              obtain ⟨a9, rfl⟩ := r1.isRef
              exact W.aret hx hb (by rw [hret]; exact hty) (by cases ty <;> first | exact Or.inl ⟨_, rfl⟩ | exact Or.inr ⟨_, rfl⟩ | (cases hnar)) (Or.inr ⟨_, rfl⟩) (post _ ⟨_, rfl, r1⟩) hfree hdec
            · cases hrt
          · cases hrt
        · cases hrt
end
