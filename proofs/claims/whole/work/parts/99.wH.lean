/-! THE LAW FROM ITS ENTRY TO ITS LOOP (wip/whole/src/99.wH.src) -/
theorem hA_len : hA.length = 242 := by decide +kernel
theorem hB_len : hB.length = 273 := by decide +kernel
def hC : aH := hB ++ [.inl (.long, 1, .inr (.inl (fun _ => 0)))]
def skP (i : Nat) : Bool := decide (13 ≤ i)
def KP : Nat → aL → List Value → aH → Nat → Nat → (Nat → aL → List Value → aH → Nat → Nat → Prop) → Prop := fun i L S h bc bs _ => i = 13 ∧ L = L13 ∧ S = [] ∧ h = hC ∧ 205200 ≤ bc ∧ 2052000 ≤ bs
theorem mk2 (S : List Value) : a_make (.new 18, 8, 3, 12, 0, 0, []) S hA = some (.ref 242 :: S, h0B, 1, 38) := by
  unfold a_make
  rw [if_neg (by rw [hA_len]; decide), hA_len]
  rfl
theorem mk3 : a_make (.newarray .long, 17, 2, 0, 0, 0, []) [.int 1] hB = some ([.ref 273], hC, 1, 1) := by
  unfold a_make
  rw [if_neg (by rw [hB_len]; decide), hB_len]
  rfl
def Lp1 : aL := [some (.ref sCR), some (.ref 0), none, none, none, none, none, none]
def Lp2 : aL := [some (.ref sCR), some (.ref 0), some (.ref 242), none, none, none, none, none]
def Lp3 : aL := [some (.ref sCR), some (.ref 0), some (.ref 242), some (.ref 273), none, none, none, none]
set_option maxRecDepth 100000 in
theorem pre13 {xs : Nat × (Nat → Int32)} {Qf : Option Value → aH → Prop} : wpK skP KP xs (callW xs MT PI 8) MT tL_law (some .boolean) Qf 14 0 (a_locals 8 [.ref sCR]) [] [] 601024 7293034 := by
  have s13 : wpK skP KP xs (callW xs MT PI 8) MT tL_law (some .boolean) Qf 1 13 L13 [] hC 600750 7289762 := ⟨rfl, rfl, rfl, rfl, by decide, by decide⟩
  have s12 : wpK skP KP xs (callW xs MT PI 8) MT tL_law (some .boolean) Qf 2 12 Lp3 [.int 0] hC 600750 7289762 := wpK_F1 rfl s13
  have s11 : wpK skP KP xs (callW xs MT PI 8) MT tL_law (some .boolean) Qf 3 11 Lp3 [] hC 600750 7289762 := wpK_F1 rfl s12
  have s10 : wpK skP KP xs (callW xs MT PI 8) MT tL_law (some .boolean) Qf 4 10 Lp2 [.ref 273] hC 600750 7289762 := wpK_F1 rfl s11
  have s9 : wpK skP KP xs (callW xs MT PI 8) MT tL_law (some .boolean) Qf 5 9 Lp2 [.int 1] hB 600751 7289763 := by
    refine wpK_F1 rfl ?_
    rw [f1_plain (x := (.newarray .long, 17, 2, 0, 0, 0, [])) rfl rfl]
    show (match a_make (.newarray .long, 17, 2, 0, 0, 0, []) [.int 1] hB with
      | some (R, h', kc, ks) => kc ≤ 600751 ∧ ks ≤ 7289763 ∧ wpK skP KP xs (callW xs MT PI 8) MT tL_law (some .boolean) Qf 4 (9 + 1) Lp2 R h' (600751 - kc) (7289763 - ks)
      | none => False)
    rw [mk3]
    exact ⟨by decide, by decide, s10⟩
  have s8 : wpK skP KP xs (callW xs MT PI 8) MT tL_law (some .boolean) Qf 6 8 Lp2 [] hB 600751 7289763 := wpK_F1 rfl s9
  have s7 : wpK skP KP xs (callW xs MT PI 8) MT tL_law (some .boolean) Qf 7 7 Lp1 [.ref 242] hB 600751 7289763 := wpK_F1 rfl s8
  have s6 : wpK skP KP xs (callW xs MT PI 8) MT tL_law (some .boolean) Qf 8 6 Lp1 [.ref 242, .ref 242] h0B 600781 7291029 := wpK_F1 rfl (show _ ∧ _ ∧ _ ∧ _ from ⟨rfl, by decide, by decide, _, rfl, by decide, by decide, Or.inl ⟨rfl, Or.inr ⟨rfl, rfl, rfl, s7⟩⟩⟩)
  have s5 : wpK skP KP xs (callW xs MT PI 8) MT tL_law (some .boolean) Qf 9 5 Lp1 [.ref 242] h0B 600781 7291029 := wpK_F1 rfl s6
  have s4 : wpK skP KP xs (callW xs MT PI 8) MT tL_law (some .boolean) Qf 10 4 Lp1 [] hA 600782 7291067 := by
    refine wpK_F1 rfl ?_
    rw [f1_plain (x := (.new 18, 8, 3, 12, 0, 0, [])) rfl rfl]
    show (match a_make (.new 18, 8, 3, 12, 0, 0, []) [] hA with
      | some (R, h', kc, ks) => kc ≤ 600782 ∧ ks ≤ 7291067 ∧ wpK skP KP xs (callW xs MT PI 8) MT tL_law (some .boolean) Qf 9 (4 + 1) Lp1 R h' (600782 - kc) (7291067 - ks)
      | none => False)
    rw [mk2]
    exact ⟨by decide, by decide, s5⟩
  have s3 : wpK skP KP xs (callW xs MT PI 8) MT tL_law (some .boolean) Qf 11 3 (a_locals 8 [.ref sCR]) [.ref 0] hA 600782 7291067 := wpK_F1 rfl s4
  have s2 : wpK skP KP xs (callW xs MT PI 8) MT tL_law (some .boolean) Qf 12 2 (a_locals 8 [.ref sCR]) [.ref 0, .ref 0] h0A 601023 7293024 := wpK_F1 rfl (show _ ∧ _ ∧ _ ∧ _ from ⟨rfl, by decide, by decide, _, rfl, by decide, by decide, Or.inl ⟨rfl, Or.inl ⟨rfl, rfl, rfl, s3⟩⟩⟩)
  have s1 : wpK skP KP xs (callW xs MT PI 8) MT tL_law (some .boolean) Qf 13 1 (a_locals 8 [.ref sCR]) [.ref 0] h0A 601023 7293024 := wpK_F1 rfl s2
  exact wpK_F1 rfl (show _ ∧ _ ∧ _ from ⟨by decide, by decide, s1⟩)
def notPF (x : xI) : Bool := match x.1 with | .putfield _ => false | _ => true
theorem law_PF : tL_law.all notPF = true := by decide +kernel
theorem noPF {i : Nat} {x : xI} (h : tL_law[i]? = some x) (idx : Nat) : x.1 ≠ .putfield idx := fun z => by
  have h2 := List.all_eq_true.mp law_PF x (List.mem_of_getElem? h)
  unfold notPF at h2
  rw [z] at h2
  cases h2
theorem okL_lawM (mn : String) : tOKE 189 RL mn cL_law MT tL_law := fun i x hx => by
  obtain ⟨o1, o2, o3, o4, o5, o6, o7, o8, o9, o10, o11, o12⟩ := okL_law i x hx
  exact ⟨o1, o2, o3, o4, o5, o6, fun idx q => absurd q (noPF hx idx), o8, o9, o10, o11, o12⟩
theorem law_ST : (tL_law.take 13).all (fun x => !isST x.1) = true := by decide +kernel
theorem okL_pre (mn : String) : ∀ (i : Nat) (x : xI), skP i = false → tL_law[i]? = some x → xOK RL mn cL_law MT tL_law i x := fun i x hs hx => by
  obtain ⟨o1, o2, o3, o4, o5, o6, o7, o8, o9, o10, o11, o12⟩ := okL_lawM mn i x hx
  have hi : i < 13 := by
    have := of_decide_eq_false hs
    omega
  refine ⟨o1, o2, o3, o4, o5, o6, o7, o8, fun idx q => (o9 idx q).1, fun idx q => ?_, fun idx q => ?_, o12⟩
  · have hm : x ∈ tL_law.take 13 := List.mem_of_getElem? (i := i) (by rw [List.getElem?_take_of_lt hi]; exact hx)
    have h2 := List.all_eq_true.mp law_ST x hm
    rw [q] at h2
    cases h2
  · have := o11 idx q
    split
    · rename_i hc; rw [if_pos hc] at this; exact this
    · rename_i hc; rw [if_neg hc] at this; exact this.1
/-- the one call of element -/
theorem law_EL : tL_law.all (fun x => !(isST x.1 && decide (x.2.2.2.1 = 189)) || (decide (x.1 = .invokestatic 113) && decide (x.2.2.2.2.1 = 4))) = true := by decide +kernel
theorem the_EL {i idx : Nat} {x : xI} (h : tL_law[i]? = some x) (h1 : x.1 = .invokestatic idx) (h2 : x.2.2.2.1 = 189) : idx = 113 ∧ x.2.2.2.2.1 = 4 := by
  have h3 := List.all_eq_true.mp law_EL x (List.mem_of_getElem? h)
  rw [h1, h2] at h3
  simp [isST] at h3
  exact h3
theorem le_l3 : Cond.methodLink RL 113 yL_element ∈ GW ∧ Cond.static yL_element ∈ GW ∧ Cond.initialized RL ∈ GW := ⟨ck_ok (i := 960) (by decide +kernel), ck_ok (i := 961) (by decide +kernel), ck_ok (i := 68) (by decide +kernel)⟩
section L99WH
variable {p : Program} {l : Launch} {e : Env} {s : State} {m : MethodId} {args : Array Value} {below : List Frame} {meth : Method} {c : Code} {Q : State → Prop} {D : va_G} {A : Nat → Prop} {b : Nat} {xs : Nat × (Nat → Int32)}
set_option maxHeartbeats 4000000 in
/-- the rule of the call of element -/
theorem law_E (hl : l.stackTraces = false) (hx : p.tables.exec = Jvm.exec) (hb : c.code = cL_law) (hml : c.maxLocals = 8) (hown : s.vm.findClass RL = some m.cls) (hts : ∀ w ∈ GW, w.before args s = true) (henv : ENV s) (hA : ∀ q, s.heap.size ≤ q → A q) (hsc : a_scr A b xs s s.heap) (hE : EXU A s) (ad0 : List Nat) :
    ∀ (i : Nat) (x : xI) (idx : Nat) (S S' : List Value) (h1 : aH) (H1 : Heap) (locs1 : List Loc) (ce sl : Nat) (ad1 : List Nat) (ls1 : Array Slot) (M : aM) (Q1 : Option Value → aH → Prop), tL_law[i]? = some x → x.1 = .invokestatic idx → x.2.2.2.1 = 189 → MT[x.2.2.2.1]? = some M → x.2.2.2.2.1 ≤ S.length → a_words (S.drop x.2.2.2.2.1) ≤ 8 → decode cL_law x.2.1 = .ok (x.1, 3) → C1 xs x.2.2.2.1 (S.take x.2.2.2.2.1).reverse h1 Q1 → World D A b (ad0 ++ ad1) h1 H1 s → va_S A s.heap H1 locs1 → ls1.size = 8 → RVs b (ad0 ++ ad1) S S' → ce + M.2.2.2.2.2.1.1 ≤ room_1.cells → sl + M.2.2.2.2.2.1.2 ≤ room_1.slots → (∀ (r r' : Option Value) (h' : aH) (ad2 : List Nat) (H2 : Heap) (locs2 : List Loc) (R' : List Value), Q1 r h' → RO b ((ad0 ++ ad1) ++ ad2) r r' → RVs b (ad0 ++ ad1) (S.drop x.2.2.2.2.1) R' → World D A b ((ad0 ++ ad1) ++ ad2) h' H2 s → va_S A s.heap H2 locs2 → W p l e room_1 s m args below meth c H2 locs2 (ce + M.2.2.2.2.2.1.1) (sl + M.2.2.2.2.2.1.2) Q (F0 m (x.2.1 + 3) ls1 (r'.toList ++ R'))) → W p l e room_1 s m args below meth c H1 locs1 ce sl Q (F0 m x.2.1 ls1 S') := by
  intro i x idx S S' h1 H1 locs1 ce sl ad1 ls1 M Q1 hxi hins hid hM hk hrw hdec hc hw1 hS1 hls hSS hce hsl kk
  obtain ⟨e113, e4⟩ := the_EL hxi hins hid
  subst e113
  rw [hid] at hM hc
  have hMe : M = (yL_element, cL_element, 5, (some .int), 4, (4, 40), tL_element) := (Option.some.inj hM).symm
  subst hMe
  rcases hc with ⟨hne, _⟩ | ⟨_, mm, p1, p2, ea, rfl, hel⟩
  · exact absurd rfl hne
  obtain ⟨t1, t2, t3, t4⟩ := a_take hSS hk
  rw [ea] at t2
  generalize hr' : S'.drop x.2.2.2.2.1 = rest at t1 t3
  generalize ha' : (S'.take x.2.2.2.2.1).reverse = args' at t1 t2 t4
  have hroom : (rest.map fun v => v.category).sum ≤ 8 := by rw [t3.words]; exact hrw
  have hpre := s_pre (locs := locs1) (xs := xs) t2 hw1 henv hS1 hsc
  have CF : CallFix p m c cL_law 8 s args GW RL := ⟨hx, hb, hml, hown, hts⟩
  have had : ∀ q ∈ ad0 ++ ad1, A q := fun q hq => (a_scope hw1 q hq).1
  have hsub : ∀ q, aA (ad0 ++ ad1) H1.size q → A q := fun q hq => hq.elim (had q) (fun z => hA q (Nat.le_trans hS1.1 z))
  rw [hins] at hdec
  have hrun := vx_runSW (l := l) (e := e) (R := room_1) (below := below) (meth := meth) (locs := locs1) (cells := ce) (slots := sl) (g := F0 m x.2.1 ls1 S') (As := args') (rest := rest) CF (le_met (D := D) (b := b) (xs := xs) hl mm p1 p2 Q1 hel (ad0 ++ ad1) H1.size) (index := 113) (bytes := cL_element) (maxL := 5) (ret := some .int) (hh := [(0, 9, 12, 13), (0, 9, 16, 15)]) (n := 4) (vx_cwSW (ws' := GW) 4 hts (GW_good (fun w hw => ?_)) rfl rfl rfl ⟨by decide +kernel, by decide +kernel, by decide +kernel⟩ ⟨by decide, by decide⟩) ⟨fun _ _ _ _ hp => hp, fun U hU hW => ⟨hpre U hU hW, hE.moved hW (fun q hq1 hq2 => by rw [hU]; exact hS1.2.1 q hq1 hq2) hsub⟩⟩ rfl (by rw [t4, e4]) hls t1 (lv_room hroom) hdec ⟨hce, hsl⟩
  · exact s_after hrun hS1 hA had (fun r r' h' ad2 H2 locs2 q1 q2 q3 q4 => kk r r' h' ad2 H2 locs2 rest q1 q2 t3 q3 q4)
  · rcases List.mem_append.mp hw with hw | hw
    · simp only [List.mem_cons, List.not_mem_nil, or_false] at hw
      rcases hw with rfl | rfl | rfl
      · exact le_l3.1
      · exact le_l3.2.1
      · exact le_l3.2.2
    · exact (List.mem_cons.mp hw).elim (fun q => by rw [q]; exact le_l0) id
end L99WH
