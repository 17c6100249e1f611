/-! THE CLAIM OUT OF ONE WALK OF THE LAW'S BODY. Your part is whole_start (and what it stands on); all else here is the same for every law, but numbers. -/
def R_law : String := "ChanceCourtLaw"
def lw_P (b : Addr) (xs : List Int32) (args : Array Value) (s : State) : Prop := args = #[.ref b] ∧ s.IntsAt b xs ∧ xs.length ≤ 3072 ∧ (Jvm.Cond.and given_1 narrow_1).before args s = true
def lw_Q (_ : Array Value) (s : State) (o : Outcome) (t : State) : Prop := o = .returned (some (.int 1)) ∧ Framed s o t [] 601024 7293034
def lw_Z (below : List Frame) (a : Array Value) (s : State) : State → Prop := fun t => ∃ o, t.status = .running ∧ Ended t below o ∧ lw_Q a s o t
/-- the law's own end, with 1 on the stack, nothing written that was there before, its room as the claim has it -/
theorem lw_ret {p : Program} {l : Launch} {e : Env} {s : State} {m : MethodId} {below : List Frame} {meth : Method} {c : Code} {b : Nat} (hx : p.tables.exec = Jvm.exec) (hb : c.code = code) (hr : meth.sig.returnType = ret) (hlocks : meth.locks = false) {pc : Nat} {H : Heap} {ls : Array Slot} (hdg : decode code pc = .ok (.ireturn, 1)) : W p l e room_1 s m #[Value.ref b] below meth c H [] 601024 7293034 (lw_Z below #[Value.ref b] s) (F0 m pc ls [.int 1]) := by
  intro T hT X
  obtain ⟨fs, hret, hrun, hended, hW, hframe⟩ := X.leave (v := some (.int 1)) (hlocks := hlocks) (fun h => by rw [hr] at h; cases h)
  have hmeth' : T.vm.method? m = some meth := X.method'
  refine ⟨T.setFrames fs, ?_, .returned (some (.int 1)), hrun, hended, rfl, ⟨_, rfl⟩, hW, hframe⟩
  jvm_step X.here [X.here.top, hx, hb, hdg, hmeth', hr, ret, narrow_b1]
  (try refine ⟨rfl, ?_⟩); (try refine ⟨rfl, ?_⟩)
  first | (intro acts; rw [hret _ acts rfl rfl rfl]) | rw [hret _ _ rfl rfl rfl]
  exact Steps.refl _
/-- what holds at the law's entry: the machine, the code, the tables' words (any of lw_tbl by 'hts w (by decide +kernel)'), the script of L ints xs at the cell b, what the Statement gives of the start (any of its parts by flat_of_before) -/
def lw_At (p : Program) (s : State) (m : MethodId) (meth : Method) (c : Code) (b L : Nat) (xs : Nat → Int32) : Prop :=
  p.tables.exec = Jvm.exec ∧ c.code = code ∧ meth.sig.returnType = ret ∧ c.maxLocals = 8 ∧ s.vm.findClass R_law = some m.cls ∧ (∀ w ∈ lw_tbl, w.before #[Value.ref b] s = true) ∧ va_X b L xs s s.heap ∧ b < s.heap.size ∧ meth.locks = false ∧ (Jvm.Cond.and given_1 narrow_1).before #[Value.ref b] s = true
theorem ex_tb : Cond.laysStatic Bundle.tN "UNASSIGNED_STACK" Bundle.steD ∈ lw_tbl ∧ Cond.laysStatic Bundle.tN "SUPPRESSED_SENTINEL" Bundle.listD ∈ lw_tbl ∧ Cond.initialized Bundle.tN ∈ lw_tbl ∧ Cond.stringRef RX11 269 "no such shelf" ∈ lw_tbl ∧ Cond.stringRef RX11 279 "no row is held" ∈ lw_tbl ∧ Cond.stringRef RX11 285 "the row has no such place" ∈ lw_tbl := ⟨by decide +kernel, by decide +kernel, by decide +kernel, by decide +kernel, by decide +kernel, by decide +kernel⟩
theorem ex_tc : (∀ x ∈ exM, Cond.declares x ∈ lw_tbl) ∧ Cond.castable exI exI ∈ lw_tbl ∧ Cond.castable exS exS ∈ lw_tbl := ⟨by decide +kernel, by decide +kernel, by decide +kernel⟩
theorem env_tb : (∀ q ∈ NWl, Cond.methodLinkNest q.1 q.2.1 q.2.2 "ChanceCourt" ∈ lw_tbl) ∧ Cond.arrayOver (.object "ChanceCourt$Act") ∈ lw_tbl ∧ Cond.arrayOver (.object "ChanceCourt$Shelf") ∈ lw_tbl ∧ Cond.arrayOver (.array .long) ∈ lw_tbl := ⟨by decide +kernel, by decide +kernel, by decide +kernel, by decide +kernel⟩
theorem inst_tb : ∀ q ∈ vwCl, Cond.instantiable q.1 q.2.2 ∈ lw_tbl := by decide +kernel
theorem string_ref {own tx : String} {k : Nat} {A : Array Value} {s : State} (h1 : (Cond.stringRef own k tx).before A s = true) (h2 : (Cond.exactly (.string own k) "java/lang/String").before A s = true) : ∃ a, vk_R own k tx a s := by
  obtain ⟨a, _, _, _, e, _⟩ := Cond.exactly_spec h2
  exact ⟨a, vk_R.of h1 e⟩
set_option maxHeartbeats 4000000 in
theorem whole_start {p : Program} {e : Env} {s : State} {m : MethodId} {below : List Frame} {meth : Method} {c : Code} (l : Launch) (hl : l.stackTraces = false) {b L : Nat} {xs : Nat → Int32} (hL : L ≤ 3072) (C0 : lw_At p s m meth c b L xs) : W p l e room_1 s m #[Value.ref b] below meth c s.heap [] 0 0 (lw_Z below #[Value.ref b] s) (entryFrame m ([Value.ref b] : List Value).toArray 8) := by
  obtain ⟨hx, hb, hr, hml, hown, hts, hX, hbl, hlocks, hgv⟩ := id C0
  have hflat := flat_of_before _ hgv
  have hGW : ∀ w ∈ GW, w.before #[Value.ref b] s = true := fun w hw => hts w (List.mem_filter.mp hw).1
  have hA : ∀ q : Nat, s.heap.size ≤ q → (fun q : Nat => s.heap.size ≤ q) q := fun _ h => h
  have hnA : ∀ a : Nat, a < s.heap.size → ¬ (fun q : Nat => s.heap.size ≤ q) a := fun a h => Nat.not_le.mpr h
  have hsc : a_scr (fun q : Nat => s.heap.size ≤ q) b (L, xs) s s.heap := ⟨hX, hbl, hnA b hbl⟩
  have henv : ENV s := ⟨fun q hq => va_Nw.of rfl (hts _ (env_tb.1 q hq)), va_AO.of (hts _ env_tb.2.1), va_AO.of (hts _ env_tb.2.2.1), a_AOA (hts _ env_tb.2.2.2)⟩
  have hE : EXU (fun q : Nat => s.heap.size ≤ q) s := by
    refine ⟨vx_Zqof (hts _ ex_tb.1) (hts _ ex_tb.2.2.1) (hflat _ (by decide +kernel)) hnA, vx_Zqof (hts _ ex_tb.2.1) (hts _ ex_tb.2.2.1) (hflat _ (by decide +kernel)) hnA, string_ref (hts _ ex_tb.2.2.2.1) (hflat _ (by decide +kernel)), string_ref (hts _ ex_tb.2.2.2.2.1) (hflat _ (by decide +kernel)), string_ref (hts _ ex_tb.2.2.2.2.2) (hflat _ (by decide +kernel)), fun x hx => va_Nw.of rfl (hts _ (ex_tc.1 x hx)), va_Nw.of rfl (hts _ ex_tc.2.1), va_Nw.of rfl (hts _ ex_tc.2.2), va_Nc.of (args := #[Value.ref b]) (hflat _ (by decide +kernel))⟩
  have hex : ∀ k : Nat, ∃ d : ClassId × (Nat → Nat), ∀ q, vwCl[k]? = some q → u_Kn s q.1 q.2.1 q.2.2 d.1 d.2 := by
    intro k
    cases hk : vwCl[k]? with
    | none => exact ⟨(0, fun _ => 0), fun q h => by cases h⟩
    | some q =>
      obtain ⟨c0, iS, hK⟩ := u_known (C := q.1) (T := q.2.1) (N := q.2.2) (n := q.2.2) hGW (fun w hw => rows_all k q.1 q.2.1 q.2.2 hk w hw) (hts _ (inst_tb q (List.mem_of_getElem? hk)))
      exact ⟨(c0, iS), fun q' h => by cases h; exact hK⟩
  obtain ⟨d, hd⟩ := Classical.axiomOfChoice hex
  have hW0 : World (fun k => (d k).1, fun k => (d k).2) (fun q : Nat => s.heap.size ≤ q) b ([] ++ []) [] s.heap s := ⟨[], [], fun k q h => by simp at h, ⟨fun i j p q h => by simp at h, fun k q h => by simp at h⟩, ⟨fun k q h => hd k q h, fun k q h => by simp at h⟩, rfl, rfl, fun i e h => by simp at h⟩
  have hra : RVs b [] [.ref sCR] [.ref b] := ⟨_, _, rfl, RV_ref.mpr (by rw [if_pos rfl]), rfl⟩
  rw [lg_entry_eq]
  -- the loop
  have main := s_walkL (idE := 189) (l := l) (e := e) (R := room_1) (below := below) (meth := meth) (D := (fun k => (d k).1, fun k => (d k).2)) (A := fun q : Nat => s.heap.size ≤ q) (Q := lw_Z below #[Value.ref b] s) (rt := some .boolean) (Qf := Q1t) (d := 8) (C := C1 (L, xs)) (nL := 8) (own := RL) (mname := meth.name) (tbl := tL_law) (xs := (L, xs)) hx hb hml hown hGW rows_all henv rfl (okL_lawM meth.name) hA hsc (by decide) (by decide) (fun j a9 h9 Q9 hj q M9 hM9 => q.elim (fun q => c1_ctr j a9 h9 Q9 q.2 M9 hM9) (fun q => absurd q.1 hj)) [] (law_E hl hx hb hml hown hGW henv hA hsc hE []) (fun i x S h1 r H1 locs1 ce sl ad1 ls1 S' hxi hrt hq hw1 hS1 hSS hce hsl hdec => ?_)
  · have key := s_walkK (skip := skP) (K := KP) (l := l) (e := e) (R := room_1) (below := below) (meth := meth) (D := (fun k => (d k).1, fun k => (d k).2)) (A := fun q : Nat => s.heap.size ≤ q) (Q := lw_Z below #[Value.ref b] s) (rt := some .boolean) (Qf := fun _ _ => False) (d := 8) (C := callW (L, xs) MT PI 8) (nL := 8) (own := RL) (mname := meth.name) (tbl := tL_law) (xs := (L, xs)) hx hb hml hown hGW rows_all henv rfl (okL_pre meth.name) hA hsc (by decide) (by decide) (fun j a9 h9 Q9 q M9 hM9 => c1_ctr j a9 h9 Q9 q M9 hM9) [] (fun cont _ i L9 S h1 bc bs _ hk H1 locs1 ce sl ad1 ls1 S' hw1 hS1 hL1 hLn hSS hce hsl => ?_) (fun i x S h1 r H1 locs1 ce sl ad1 ls1 S' hxi hrt hq => hq.elim) 14 0 (a_locals 8 [.ref sCR]) [] [] 601024 7293034 pre13 s.heap [] 0 0 [] _ [] hW0 va_S.rf (a_locals_LR hra (Nat.le_of_ble_eq_true rfl)) (a_locals_len (Nat.le_of_ble_eq_true rfl)) rfl rfl rfl
    · exact key
    · obtain ⟨rfl, rfl, rfl, rfl, hbc, hbs⟩ := hk
      exact main (100 * 513) 13 L13 [] (toH m0) bc bs (law_M1 (xs := (L, xs)) hL hbc hbs) H1 locs1 ce sl ad1 ls1 S' (hw1.eqv init_C) hS1 hL1 hLn hSS hce hsl
  · -- its end
    have hr1 : r = some (.int 1) := hq
    subst hr1
    obtain ⟨ins, xr⟩ := x
    dsimp only at hrt hdec ⊢
    cases ins <;> try (simp only [a_ret, reduceCtorEq] at hrt; done)
    case return_ =>
      simp only [a_ret] at hrt
      split at hrt
      · cases hrt
      · cases hrt
    case ireturn =>
      simp only [a_ret] at hrt
      split at hrt
      · split at hrt
        · cases hrt
          obtain ⟨R', rfl, r2⟩ := hSS.i1
          rw [show R' = [] from r2]
          refine va_forget (fun q hq => hS1.2.2 q hq) ?_
          refine W.widen (k := 601024) (n := 7293034) hce hsl ?_
          exact lw_ret hx hb hr hlocks hdec
        · cases hrt
      · cases hrt
    case lreturn =>
      simp only [a_ret] at hrt
      split at hrt
      · split at hrt
        · cases hrt
        · cases hrt
      · cases hrt
    case areturn =>
      simp only [a_ret] at hrt
      split at hrt
      · split at hrt
        · cases hrt
        · cases hrt
      · cases hrt
set_option maxHeartbeats 4000000 in
theorem lw_walk (l : Launch) (hl : l.stackTraces = false) (b : Addr) (xs : List Int32) : MetFree l x (headSpec (Jvm.Cond.code x code maxLocals ret :: tables_1) room_1) (lw_P b xs) (fun _ _ _ _ _ => True) lw_Q := by
  refine MetFree.of_bodyS (code := code) (maxLocals := maxLocals) (ret := ret) (by decide) ?_ ?_
  · intro args s m h hn
    obtain ⟨meth, c, h1, h2, h3, h4, h5, h6, -, -⟩ := Cond.code_spec hn (atoms_spec (ws := Jvm.Cond.code x code maxLocals ret :: tables_1) h _ List.mem_cons_self)
    exact ⟨meth, c, h1, h2, h3, h4, h5, h6⟩
  · intro p e s m args below meth c s₁ B hml0 hP _
    obtain ⟨rfl, hx, hbd, hgv⟩ := hP
    obtain ⟨scr, harrAt, hlist, hof, hsmall⟩ := hx
    obtain ⟨hcb, hkn, -, -⟩ := State.arrayAt?_spec harrAt
    have hown : s.vm.findClass R_law = some m.cls := findClass_of_methodNamed B.named
    have hts0 : ∀ c ∈ (Jvm.Cond.code x code maxLocals ret :: tables_1), c.before #[Value.ref b] s = true := atoms_spec (ws := Jvm.Cond.code x code maxLocals ret :: tables_1) B.pre
    have hts : ∀ w ∈ lw_tbl, w.before #[Value.ref b] s = true := k2_hts_sels lw_privs (fun w hw => hts0 w (List.mem_cons_of_mem _ hw)) lw_privs_ok
    have hml : c.maxLocals = 8 := B.maxLocals_eq (hts0 _ List.mem_cons_self)
    have X₀ : Stand p l e room_1 s m #[Value.ref b] below meth c s₁ [] 0 0 := Stand.of_body B
    have hh0 : s₁.heap = s.heap := by rw [B.state]; rfl
    have hsz : scr.slots.size = xs.length := by rw [← Array.length_toList, hlist, List.length_map]
    have hval : ∀ j : Nat, j < xs.length → scr.slots[j]? = some (.int (xs.getD j 0)) := fun j hj => by
      rw [← Array.getElem?_toList, hlist]
      simp [hj]
    have hbl : b < s.heap.size := (Array.getElem?_eq_some_iff.mp hcb).1
    have hX : va_X b xs.length (fun j => xs.getD j 0) s s.heap := ⟨scr, hcb, hof, hkn, hsz, hval⟩
    have K : W p l e room_1 s m #[Value.ref b] below meth c s₁.heap [] 0 0 (lw_Z below #[Value.ref b] s) (entryFrame m ([Value.ref b] : List Value).toArray 8) := by
      rw [hh0]
      exact whole_start l hl hbd ⟨B.exec, B.bytes, B.returns, hml, hown, hts, hX, hbl, B.notSynchronized, hgv⟩
    obtain ⟨t, a1, o, b1, b2, b3⟩ := K s₁ rfl X₀
    exact ⟨t, o, a1, b1, b2, b3⟩
theorem lw_pre_spec {args : Array Value} {s : State} (h : (Jvm.Cond.and given_1 narrow_1).before args s = true) (hr : rest_1_c.before args s = true) : ∃ (b : Addr) (xs : List Int32), lw_P b xs args s := by
  have hs := flat_of_before _ h
  have hq := flat_of_before _ hr
  have hc : (Cond.count 1).before args s = true := hs _ (by decide +kernel)
  have harr : (Cond.arrayOf (.arg 0) .int).before args s = true := hs _ (by decide +kernel)
  have hle : (Cond.le (.length (.arg 0)) (.int 3072)).before args s = true := hs _ (by decide +kernel)
  have hlen : (Cond.isInt (.length (.arg 0))).before args s = true := hq _ (by decide +kernel)
  have hall : (Cond.all (.arg 0) (.isInt (.elem (.arg 0) (.index 0)))).before args s = true := hq _ (by decide +kernel)
  obtain ⟨b, xs, hb, hx⟩ := State.ints_of_pre rfl harr hlen hall
  have hsm : xs.length < 2 ^ 31 := hx.choose_spec.2.2.2
  have hev : (Term.length (.arg 0)).eval args s none [] s = some (.int xs.length.toInt32) := hx.length_eval hb
  have hv := Cond.le_ints hev (show (Term.int 3072).eval args s none [] s = some (.int 3072) from rfl)
  have hd : xs.length.toInt32 ≤ 3072 := by
    simpa [Cond.before, Cond.holds, hv] using hle
  have hN : xs.length ≤ 3072 := (Int32.ofNat_le_ofNat hsm (by decide)).mp (show Int32.ofNat xs.length ≤ Int32.ofNat 3072 from hd)
  exact ⟨b, xs, Cond.one_arg hc (show args[0]? = some (.ref b) from hb), hx, hN, h⟩
theorem lw_comes (l : Launch) (hl : l.stackTraces = false) : Comes l x (Jvm.Cond.code x code maxLocals ret :: tables_1) room_1 (fun tb e args s => Calls_1 tb e args s ∧ rest_1 tb e args s ∧ Pre_1 tb e args s)
    (fun _ _ args s o t => lw_Q args s o t) := by
  intro p e ha hc hk s m args below hf hfit hheap happ hpre
  obtain ⟨b, xs, hP⟩ := lw_pre_spec hpre.2.2 hpre.2.1
  obtain ⟨k, o, h1, h2, h3, hQ⟩ := lw_walk l hl b xs p e ha hc hk s m args below hf ((Spec.applies_iff_loose hf).mp happ).1 hP trivial
  exact ⟨k, o, h1, h2, h3, hQ⟩
theorem lw_frame {s t : State} {o : Outcome} {args : Array Value} (h : Framed s o t [] 601024 7293034) :
    Framed s o t (fieldLocs frame_1_writes args s ++ arrayLocs frame_1_arrays args s ++ staticLocs frame_1_statics s) 601024 7293034 := h
theorem lw_limb (L : Cond) (hL : ∀ (args : Array Value) (s t : State), L.after args s (.returned (some (.int 1))) t = true) :
    ArmFor flags0 classFile x code maxLocals ret World_1 tables_1 room_1 Calls_1 rest_1 Pre_1
      (fun tb e a s o t => postC L tb e a s o t ∧ Framed s o t (fieldLocs frame_1_writes a s ++ arrayLocs frame_1_arrays a s ++ staticLocs frame_1_statics s) 601024 7293034) := by
  intro l hfl _ _ p e ha hc hk s m args below hf hfit hheap happ hpre
  have hl : l.stackTraces = false := by unfold Launch.stackTraces; rw [hfl]; decide +kernel
  obtain ⟨k, o, h1, h2, h3, rfl, hF⟩ := lw_comes l hl p e ha hc hk s m args below hf hfit hheap happ hpre
  exact ⟨k, _, h1, h2, h3, hL args s _, lw_frame hF⟩
theorem i_vc : Claimed_1_1 ∧ Claimed_1_2 := ⟨lw_limb limb_1_1 (fun args s t => by simp [limb_1_1, Cond.after, Cond.holds, Cond.value]), lw_limb limb_1_2 (fun args s t => Cond.after_iff.mpr (by
  first | (rw [show limb_1_2 = Cond.eq .result (.int 1) from rfl, Cond.eq_ints (x := 1) (y := 1) rfl rfl]; simp; done) | (simp [limb_1_2, Cond.value, Term.eval]; done)))⟩
