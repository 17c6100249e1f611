/-! ELEMENT (1): the class's method, which returns or throws (wip/whole/src/99.wE.src) -/
def exI : String := "java/lang/IllegalArgumentException"
def exS : String := "java/lang/IllegalStateException"
def exN : List String := ["java/lang/RuntimeException", "java/lang/Exception"]
def exM : List MethodName := [⟨"java/lang/RuntimeException", "<init>", "(Ljava/lang/String;)V"⟩, ⟨"java/lang/Exception", "<init>", "(Ljava/lang/String;)V"⟩, ⟨"java/lang/Throwable", "<init>", "(Ljava/lang/String;)V"⟩]
/-- what a throw needs of the world -/
def EXU (A : Nat → Prop) (U : State) : Prop := vx_Zq Bundle.tN "UNASSIGNED_STACK" Bundle.steD A U U.heap ∧ vx_Zq Bundle.tN "SUPPRESSED_SENTINEL" Bundle.listD A U U.heap ∧ (∃ a, vk_R RX11 269 "no such shelf" a U) ∧ (∃ a, vk_R RX11 279 "no row is held" a U) ∧ (∃ a, vk_R RX11 285 "the row has no such place" a U) ∧ (∀ x ∈ exM, va_Nw (.declares x) U) ∧ va_Nw (.castable exI exI) U ∧ va_Nw (.castable exS exS) U ∧ va_Nc exS exI U
theorem EXU.moved {A B : Nat → Prop} {s U : State} (hW : s.WarmedH U.vm) (hk : ∀ a : Nat, a < s.heap.size → ¬ A a → U.heap[a]? = s.heap[a]?) (hB : ∀ q, B q → A q) (h : EXU A s) : EXU B U := by
  obtain ⟨h1, h2, ⟨a3, h3⟩, ⟨a4, h4⟩, ⟨a5, h5⟩, h6, h7, h8, h9⟩ := h
  exact ⟨((h1.moved hW.alike).kept hk).narrow hB, ((h2.moved hW.alike).kept hk).narrow hB, ⟨a3, h3.warm hW⟩, ⟨a4, h4.warm hW⟩, ⟨a5, h5.warm hW⟩, fun x hx => va_Nw.warmD hW (h6 x hx), va_Nw.warmC hW h7, va_Nw.warmC hW h8, va_Nc.moved hW.alike h9⟩
theorem ex_t0 : ∀ w ∈ (vx_atS RX11 271 exI exN).filter goodWord, w ∈ lw_tbl := by decide +kernel
theorem ex_t1 : ∀ w ∈ (vx_atS RX11 281 exS exN).filter goodWord, w ∈ lw_tbl := by decide +kernel
theorem ex_b0 : ∀ w ∈ (vx_atS RX11 271 exI exN).filter (fun w => !goodWord w), w ∈ [Cond.declares ⟨"java/lang/RuntimeException", "<init>", "(Ljava/lang/String;)V"⟩, .declares ⟨"java/lang/Exception", "<init>", "(Ljava/lang/String;)V"⟩, .declares ⟨"java/lang/Throwable", "<init>", "(Ljava/lang/String;)V"⟩, .castable exI exI] := by decide +kernel
theorem ex_b1 : ∀ w ∈ (vx_atS RX11 281 exS exN).filter (fun w => !goodWord w), w ∈ [Cond.declares ⟨"java/lang/RuntimeException", "<init>", "(Ljava/lang/String;)V"⟩, .declares ⟨"java/lang/Exception", "<init>", "(Ljava/lang/String;)V"⟩, .declares ⟨"java/lang/Throwable", "<init>", "(Ljava/lang/String;)V"⟩, .castable exS exS] := by decide +kernel
theorem ex_o0 : ∀ w ∈ Cond.classLink RX11 267 exI :: Cond.initialized exI :: vx_atS RX11 271 exI exN, vx_ot w = true := by decide +kernel
theorem ex_o1 : ∀ w ∈ Cond.classLink RX11 277 exS :: Cond.initialized exS :: vx_atS RX11 281 exS exN, vx_ot w = true := by decide +kernel
theorem ex_l0 : Cond.classLink RX11 267 exI ∈ GW ∧ Cond.initialized exI ∈ GW ∧ Cond.classLink RX11 277 exS ∈ GW ∧ Cond.initialized exS ∈ GW := ⟨ck_ok (i := 969) (by decide +kernel), ck_ok (i := 88) (by decide +kernel), ck_ok (i := 1036) (by decide +kernel), ck_ok (i := 89) (by decide +kernel)⟩
section L99WE
variable {l : Launch} {D : va_G} {b : Nat} {xs : Nat × (Nat → Int32)}
theorem ex_at0 {args : Array Value} {s : State} {A : Nat → Prop} (hts : ∀ w ∈ GW, w.before args s = true) (hE : EXU A s) : ∀ w ∈ vx_atS RX11 271 exI exN, w.before args s = true := by
  obtain ⟨_, _, _, _, _, h6, h7, h8, _⟩ := hE
  exact vx_hat (fun w hw => hts w (List.mem_filter.mpr ⟨ex_t0 w hw, (List.mem_filter.mp hw).2⟩)) ex_b0 (vx_c (va_Nw.use rfl (h6 _ (by decide))) (vx_c (va_Nw.use rfl (h6 _ (by decide))) (vx_c (va_Nw.use rfl (h6 _ (by decide))) (vx_c (va_Nw.use rfl h7) vx_n))))
theorem ex_at1 {args : Array Value} {s : State} {A : Nat → Prop} (hts : ∀ w ∈ GW, w.before args s = true) (hE : EXU A s) : ∀ w ∈ vx_atS RX11 281 exS exN, w.before args s = true := by
  obtain ⟨_, _, _, _, _, h6, h7, h8, _⟩ := hE
  exact vx_hat (fun w hw => hts w (List.mem_filter.mpr ⟨ex_t1 w hw, (List.mem_filter.mp hw).2⟩)) ex_b1 (vx_c (va_Nw.use rfl (h6 _ (by decide))) (vx_c (va_Nw.use rfl (h6 _ (by decide))) (vx_c (va_Nw.use rfl (h6 _ (by decide))) (vx_c (va_Nw.use rfl h8) vx_n))))
/-- one step of the walk with stops -/
theorem wpK_F1 {skip : Nat → Bool} {K : Nat → aL → List Value → aH → Nat → Nat → (Nat → aL → List Value → aH → Nat → Nat → Prop) → Prop} {C : Nat → List Value → aH → (Option Value → aH → Prop) → Prop} {tbl : List xI} {rt : Option FieldType} {Q : Option Value → aH → Prop} {n i : Nat} {L : aL} {S : List Value} {h1 : aH} {bc bs : Nat} (hs : skip i = false) (h : F1 xs C MT tbl rt Q (wpK skip K xs C MT tbl rt Q n) i L S h1 bc bs) : wpK skip K xs C MT tbl rt Q (n + 1) i L S h1 bc bs := by
  unfold wpK
  rw [hs]
  exact h
/-- stops of M2 -/
def KM (lo ls : Nat) (K2 : Nat → L2 → List v2 → Mem → Prop) : Nat → aL → List Value → aH → Nat → Nat → (Nat → aL → List Value → aH → Nat → Nat → Prop) → Prop := fun i L S h bc bs _ => lo ≤ bc ∧ ls ≤ bs ∧ ∃ L2 S2 m2, L = mapL L2 ∧ S = S2.map enc ∧ h = toH m2 ∧ okL L2 ∧ okS S2 ∧ K2 i L2 S2 m2
theorem w2K {lo ls : Nat} {cuts : List Nat} {K2 : Nat → L2 → List v2 → Mem → Prop} {tbl : List xI} {rt : Option FieldType} {C2 : Nat → List v2 → Mem → (Option v2 → Mem → Prop) → Prop} {C1 : Nat → List Value → aH → (Option Value → aH → Prop) → Prop} {Q2 : Option v2 → Mem → Prop} {Q1 : Option Value → aH → Prop}
    (hC : ∀ (j : Nat) args m Q, okS args → C2 j args m Q → ∃ M, MT[j]? = some M ∧ M.2.2.2.2.2.1.1 ≤ 0 ∧ M.2.2.2.2.2.1.2 ≤ 0 ∧ C1 j (args.map enc) (toH m) (fun r h => ∃ r2 m2, r = r2.map enc ∧ h = toH m2 ∧ (∀ v, r2 = some v → okV v) ∧ Q r2 m2))
    (hmC : ∀ j a h Q Q', (∀ r h', Q r h' → Q' r h') → C1 j a h Q → C1 j a h Q')
    (hQ : ∀ r m, (∀ v, r = some v → okV v) → Q2 r m → Q1 (r.map enc) (toH m)) :
    ∀ (k i : Nat) (L : L2) (S : List v2) (m : Mem) (bc bs : Nat), cuts.elem i = false → okL L → okS S → lo ≤ bc → ls ≤ bs → wp2i xs C2 tbl cuts rt Q2 K2 k i L S m → wpK (fun i => cuts.elem i) (KM lo ls K2) xs C1 MT tbl rt Q1 (k + 1) i (mapL L) (S.map enc) (toH m) bc bs := by
  intro k
  induction k with
  | zero => intro i L S m bc bs _ _ _ _ _ hw; exact hw.elim
  | succ k ih =>
    intro i L S m bc bs hci hL hS hbc hbs hw
    unfold wp2i at hw
    split at hw
    · exact hw.elim
    rename_i x hx
    refine wpK_F1 (skip := fun i => cuts.elem i) hci (st21F (lo := lo) (ls := ls) (cc := 0) (cs := 0) hC hmC hQ (fun j L S m bc bs a1 a2 a3 a4 h => ?_) hx hL hS (by omega) (by omega) hw)
    split at h
    · rename_i hj
      unfold wpK
      rw [hj]
      exact ⟨a3, a4, L, S, m, rfl, rfl, rfl, a1, a2, h⟩
    · rename_i hj
      exact ih j L S m bc bs hj a1 a2 a3 a4 h
def cutsXE : List Nat := [3, 4, 5, 6, 7, 16, 17, 18, 19, 20, 27, 28, 29, 30, 31]
set_option maxRecDepth 100000 in
set_option maxHeartbeats 4000000 in
theorem bXE_0 {C : Nat → List v2 → Mem → (Option v2 → Mem → Prop) → Prop} {Q : Option v2 → Mem → Prop} {K : Nat → L2 → List v2 → Mem → Prop} (m : Mem) (p1 p2 : Int32)
    (h : C 107 [vI p1] m (fun r1 m2 => ∃ w3 : Int32, r1 = some (vI w3) ∧
      ((¬ w3 = 0 →
        inb p1 8 ∧ 
          C 35 [vR 31 (p1.toNatClampNeg)] m2 (fun r4 m5 => ∃ w6 : Int32, r4 = some (vI w6) ∧
            ((¬ w6 = 0 →
              ((p2 < 0 →
                K 27 [some (vR 0 0), some (vI p1), some (vI p2), some (vR 31 (p1.toNatClampNeg))] [] m5) ∧
              (¬ p2 < 0 →
                ((p2 < (m5.1 31 (p1.toNatClampNeg) 2) →
                  inb p2 60 ∧ 
                    Q (some (vL (m5.2 32 ((p1.toNatClampNeg)) p2.toNatClampNeg))) m5) ∧
                (¬ p2 < (m5.1 31 (p1.toNatClampNeg) 2) →
                  K 27 [some (vR 0 0), some (vI p1), some (vI p2), some (vR 31 (p1.toNatClampNeg))] [] m5))))) ∧
            (w6 = 0 →
              K 16 [some (vR 0 0), some (vI p1), some (vI p2), some (vR 31 (p1.toNatClampNeg))] [] m5)))) ∧
      (w3 = 0 →
        K 3 [some (vR 0 0), some (vI p1), some (vI p2), none] [] m2)))) :
    wp2i xs C tXE cutsXE (some .long) Q K 60 0 [some (vR 0 0), some (vI p1), some (vI p2), none] [] m := h
theorem c_isRowM {d h : Nat} {m : Mem} {Q : Option v2 → Mem → Prop} (hQ : Q (some (vI (bI (decide (m.1 31 h 0 = nI 3 ∨ m.1 31 h 0 = nI 4))))) m) : callW2 xs (d + 1) 35 [vR 31 h] m Q := by
  refine eX6_isRow m _ (W2_st (bX6_isRow_0 m _ ?_))
  refine ⟨fun z => ⟨isB1, ?_⟩, fun z => ⟨fun z2 => ⟨isB0, ?_⟩, fun z2 => ⟨isB1, ?_⟩⟩⟩
  · rw [decide_eq_true (Or.inl z)] at hQ; exact hQ
  · rw [decide_eq_false (fun y => y.elim z z2)] at hQ; exact hQ
  · rw [decide_eq_true (Or.inr z2)] at hQ; exact hQ
/-- where the method ends, or stops to throw -/
def xeQ (m : Mem) (p1 p2 : Int32) : Option v2 → Mem → Prop := fun r m' => shl p1 = true ∧ elG m p1 p2 ∧ m' = m ∧ r = some (vL (m.2 32 p1.toNatClampNeg p2.toNatClampNeg))
def xeK (m : Mem) (p1 p2 : Int32) : Nat → L2 → List v2 → Mem → Prop := fun i _ S m' => m' = m ∧ S = [] ∧ ((i = 3 ∧ shl p1 = false) ∨ ((i = 16 ∨ i = 27) ∧ shl p1 = true ∧ ¬ elG m p1 p2))
theorem xe_M2 {d : Nat} (m : Mem) (p1 p2 : Int32) (h60 : shl p1 = true → elG m p1 p2 → p2.toNatClampNeg < 60) : wp2i xs (callW2 xs (d + 1)) tXE cutsXE (some .long) (xeQ m p1 p2) (xeK m p1 p2) 60 0 [some (vR 0 0), some (vI p1), some (vI p2), none] [] m := by
  refine bXE_0 m p1 p2 ?_
  refine c_isShelf p1 ⟨_, rfl, ?_⟩
  rw [bI_0]
  refine ⟨fun hp => ?_, fun hp => ⟨rfl, rfl, Or.inl ⟨rfl, hp⟩⟩⟩
  rw [Bool.not_eq_false] at hp
  obtain ⟨a, ha, e1⟩ := shl_t hp
  refine ⟨by rw [e1]; exact inb_nI (by omega) (by omega), c_isRowM ⟨_, rfl, ?_⟩⟩
  rw [bI_0, decide_eq_false_iff_not]
  have no : ¬ elG m p1 p2 → ∀ i, i = 16 ∨ i = 27 → ∀ L, xeK m p1 p2 i L [] m := fun hg i hi L => ⟨rfl, rfl, Or.inr ⟨hi, hp, hg⟩⟩
  refine ⟨fun hk => ⟨fun h0 => no (fun z => z.2.1 h0) 27 (Or.inr rfl) _, fun h0 => ⟨fun h2 => ?_, fun h2 => no (fun z => h2 z.2.2) 27 (Or.inr rfl) _⟩⟩, fun hk => no (fun z => hk z.1) 16 (Or.inl rfl) _⟩
  have hg : elG m p1 p2 := ⟨Decidable.not_not.mp hk, h0, h2⟩
  have h6 := h60 hp hg
  refine ⟨fun z => ?_, hp, hg, rfl, rfl⟩
  rcases z with z | z
  · exact h0 z
  · omega
/-- the world of cells that are there is there in a larger heap -/
theorem World.ext {A : Nat → Prop} {ad : List Nat} {h : aH} {H H1 : Heap} {s : State} (w : World D A b ad h H s) (hq : ∀ q : Nat, q < H.size → H1[q]? = H[q]?) : World D A b ad h H1 s := by
  obtain ⟨ws, tys, hP, hD, hK, hR⟩ := w
  exact ⟨ws, tys, hP.kept (fun k q hk => hq _ (hP k q hk).lt), hD, hK, hR⟩
theorem World.len {A : Nat → Prop} {ad : List Nat} {h : aH} {H : Heap} {s : State} (w : World D A b ad h H s) : ad.length = h.length := by
  obtain ⟨ws, tys, hP, hD, hK, hR⟩ := w
  rw [← hR.2.1, List.length_map, hR.1]
theorem World.one {A A' : Nat → Prop} {ad ad1 : List Nat} {h : aH} {H H' : Heap} {s s' : State} (w : World D A b ad h H s) (w' : World D A' b (ad ++ ad1) h H' s') : ad1 = [] := by
  have h1 := w.len
  have h2 := w'.len
  rw [List.length_append] at h2
  exact List.eq_nil_of_length_eq_zero (by omega)
end L99WE
