/-! ELEMENT (3): the law's own method, which catches (wip/whole/src/99.wG.src) -/
theorem le_l0 : Cond.codeWith yL_element cL_element 5 (some .int) [(0, 9, 12, 13), (0, 9, 16, 15)] ∈ GW := ck_ok (i := 962) (by decide +kernel)
theorem le_l1 : Cond.classLink RL 13 exI ∈ GW ∧ Cond.classLink RL 15 exS ∈ GW := ⟨ck_ok (i := 963) (by decide +kernel), ck_ok (i := 964) (by decide +kernel)⟩
theorem le_l2 : Cond.methodLink RL 7 yX11_element ∈ GW ∧ Cond.instanceMethod yX11_element ∈ GW ∧ Cond.selects RX11 yX11_element yX11_element ∈ GW ∧ Cond.initialized RX11 ∈ GW ∧ Cond.code yX11_element cX11_element 4 (some .long) ∈ GW := ⟨ck_ok (i := 965) (by decide +kernel), ck_ok (i := 966) (by decide +kernel), ck_ok (i := 967) (by decide +kernel), ck_ok (i := 69) (by decide +kernel), ck_ok (i := 968) (by decide +kernel)⟩
section L99WG
variable {l : Launch} {D : va_G} {b : Nat} {xs : Nat × (Nat → Int32)}
theorem met_of_vx {y : MethodName} {ws : List Cond} {rm : Room} {Pc : Array Value → State → Prop} {Qc : Array Value → State → Outcome → State → Prop} {mc ms : Nat} {free : Addr → Prop} (h : vx_Met l y ws rm Pc Qc (fun _ _ _ => False) mc ms free) : Met l y ws rm Pc Qc mc ms free := fun p e h1 h2 h3 s m args below h4 h5 h6 h7 => by
  obtain ⟨n, o, q1, q2, q3, q4⟩ := h p e h1 h2 h3 s m args below h4 h5 h6 h7
  refine ⟨n, o, q1, q2, q3, ?_⟩
  rcases q4 with q4 | ⟨q, _, E, ce, L, hx, _⟩
  · exact q4
  · exact hx.elim
section
variable {p : Program} {e : Env} {R : Room} {s : State} {m : MethodId} {args : Array Value} {below : List Frame} {meth : Method} {c : Code} {H : Heap} {locs : List Loc} {cells slots : Nat} {Q : State → Prop}
variable {pc : Nat} {ls : Array Slot} {ad : List Nat} {A0 : Nat → Prop} {H0 : Heap}
/-- behind a call that returns or throws -/
theorem x_after {Q1 : Option Value → aH → Prop} {XC : String → State → State → Prop} {mc ms : Nat} {a : Array Value} {st0 rest : List Value} (hr : vx_Run p l e R s m args below meth c H locs cells slots mc ms (F0 m pc ls st0) rest (CtrQ D b Q1 ad H.size a) XC (aA ad H.size)) (hS : va_S A0 H0 H locs) (hA : ∀ q, H0.size ≤ q → A0 q) (had : ∀ q ∈ ad, A0 q) (hXF : ∀ E st t, XC E st t → va_F (aA ad H.size) st t)
    (kk : ∀ (r r' : Option Value) (h' : aH) (ad1 : List Nat) (H1 : Heap) (locs1 : List Loc), Q1 r h' → RO b (ad ++ ad1) r r' → World D A0 b (ad ++ ad1) h' H1 s → va_S A0 H0 H1 locs1 → W p l e R s m args below meth c H1 locs1 (cells + mc) (slots + ms) Q (F0 m (pc + 3) ls (r'.toList ++ rest)))
    (kx : ∀ (E : String) (ce : Cell) (q9 : Addr) (st t : State) (H1 : Heap) (locs1 : List Loc), XC E st t → t.heap = H1 → s.vm.Alike t.vm → va_S A0 H0 H1 locs1 → H1[q9]? = some ce → ce.vm = .none → s.vm.findClass E = some ce.cls → vx_W p l e R s m args below meth c H1 locs1 (cells + mc) (slots + ms) Q (F0 m pc ls rest) q9) : W p l e R s m args below meth c H locs cells slots Q (F0 m pc ls st0) := by
  intro T hT X
  have hAA : ∀ q, aA ad H.size q → A0 q := fun q hq => hq.elim (had q) (fun z => hA q (Nat.le_trans hS.1 z))
  rcases hr T hT X with ⟨v, st₀, t, T', L, h0, X', hL, e1, e2, ⟨⟨r, r', h', ad1, hv, hq, hro, hw, hnew⟩, hz, hk⟩, st⟩ | ⟨q, st₀, t, T', L, E, ce, h0, X', hL, e1, e2, hxc, hce, hcv, hcl, st⟩
  · cases hv
    rw [h0] at hz hk
    have hvm : t.vm.Alike s.vm := by rw [← e2]; exact X'.warmed.alike.symm
    rw [← e1] at hw
    obtain ⟨t2, a1, b1⟩ := kk r v h' ad1 T'.heap (locs ++ L) hq hro ((hw.moved hvm).weaken (fun q hq => (List.mem_append.mp hq).elim (had q) (fun z => hA q (Nat.le_trans hS.1 (hnew q z)))))
      ⟨Nat.le_trans hS.1 (by rw [e1]; exact hz), fun q h1 h2 => by rw [e1, hk q (Nat.lt_of_lt_of_le h1 hS.1) (fun z => h2 (hAA q z))]; exact hS.2.1 q h1 h2, fun q hq => by
        rcases List.mem_append.mp hq with h | h
        · exact hS.2.2 q h
        · exact hAA _ (hL q h)⟩ T' rfl X'
    exact ⟨t2, st t2 a1, b1⟩
  · obtain ⟨k1, k2, k3⟩ := vx_keep (A1 := aA ad H.size) h0 e1 hS (fun q _ z => hAA q z) hAA hL (hXF _ _ _ hxc)
    obtain ⟨t2, a1, b1⟩ := kx E ce q st₀ t T'.heap (locs ++ L) hxc e1.symm (by rw [← e2]; exact X'.warmed.alike) k3 (by rw [e1]; exact hce) hcv hcl T' rfl X'
    exact ⟨t2, st.trans a1, b1⟩
end
def cutsLE : List Nat := [5]
theorem bLE_0 {C : Nat → List v2 → Mem → (Option v2 → Mem → Prop) → Prop} {Q : Option v2 → Mem → Prop} {K : Nat → L2 → List v2 → Mem → Prop} (m : Mem) (p1 p2 : Int32) (h : K 5 [some (vR 0 0), some (vI p1), some (vI p2), some (vR 90 0), none] [vI p2, vI p1, vR 0 0, vI (nI 0), vR 90 0] m) :
    wp2i xs C tLE cutsLE (some .int) Q K 20 0 [some (vR 0 0), some (vI p1), some (vI p2), some (vR 90 0), none] [] m := h
theorem bLE_6 {C : Nat → List v2 → Mem → (Option v2 → Mem → Prop) → Prop} {Q : Option v2 → Mem → Prop} {K : Nat → L2 → List v2 → Mem → Prop} (m : Mem) (p1 p2 : Int32) (v : Int64) (h : inb (nI 0) 1 ∧ Q (some (vI (nI 0))) (mL m 90 0 (nI 0).toNatClampNeg v)) :
    wp2i xs C tLE cutsLE (some .int) Q K 20 6 [some (vR 0 0), some (vI p1), some (vI p2), some (vR 90 0), none] [vL v, vI (nI 0), vR 90 0] m := h
def leK (m : Mem) (p1 p2 : Int32) : Nat → L2 → List v2 → Mem → Prop := fun i L S m' => i = 5 ∧ m' = m ∧ L = [some (vR 0 0), some (vI p1), some (vI p2), some (vR 90 0), none] ∧ S = [vI p2, vI p1, vR 0 0, vI (nI 0), vR 90 0]
def rmLE : Room := { frames := 8, cells := 4, slots := 40, locals := 312 }
def wsLE : List Cond := Cond.codeWith yL_element cL_element 5 (some .int) [(0, 9, 12, 13), (0, 9, 16, 15)] :: GW
theorem le_ok (p1 p2 : Int32) : okL [some (vR 0 0), some (vI p1), some (vI p2), some (vR 90 0), none] := by
  intro v hv
  simp only [List.mem_cons, List.not_mem_nil, or_false, Option.some.injEq, reduceCtorEq] at hv
  rcases hv with rfl | rfl | rfl | rfl
  · exact (Or.inr (by decide) : 0 = 99 ∨ 0 < g_cnt 0)
  · trivial
  · trivial
  · exact (Or.inr (by decide) : 90 = 99 ∨ 0 < g_cnt 90)
set_option maxHeartbeats 4000000 in
theorem le_met (hl : l.stackTraces = false) (m : Mem) (p1 p2 : Int32) (Q : Option Value → aH → Prop) (hc : eleM m p1 p2 (fun r m' => Q (r.map enc) (toH m'))) (ad : List Nat) (sz : Nat) : Met l yL_element wsLE rmLE (fun v U => CtrP D b xs [.ref 0, .int p1, .int p2, .ref 273] (toH m) ad sz v U ∧ EXU (aA ad sz) U) (CtrQ D b Q ad sz) 4 40 (aA ad sz) := by
  refine met_of_vx (vx_ofWH (cc := cL_element) (maxL := 5) (ret := some .int) (hh := [(0, 9, 12, 13), (0, 9, 16, 15)]) (ws' := GW) (by decide) rfl ?_)
  intro p e s mt args below meth c s₁ B hml hv
  obtain ⟨⟨args', rfl, hr, hsz, hWd, henv, hX, hbs, hbad⟩, hE⟩ := hv
  have hx := B.exec
  have hb := B.bytes
  have hret := B.returns
  have hts0 := atoms_spec (ws := wsLE) B.pre
  have htab := vx_table (x := yL_element) B (hts0 _ List.mem_cons_self)
  have hts : ∀ w ∈ GW, w.before args'.toArray s = true := fun w hw => hts0 w (List.mem_cons_of_mem _ hw)
  have hown : s.vm.findClass RL = some mt.cls := findClass_of_methodNamed B.named
  have hmn : meth.name = "element" := (name_of_methodNamed B.named B.method).1
  have hlocks := B.notSynchronized
  subst hsz
  have hA : ∀ q, s.heap.size ≤ q → aA ad s.heap.size q := fun q hq => Or.inr hq
  have hsc : a_scr (aA ad s.heap.size) b xs s s.heap := ⟨hX, hbs, fun q => q.elim hbad (fun z => by omega)⟩
  rw [lg_entry_eq]
  have hw0 : World D (aA ad s.heap.size) b (ad ++ []) (toH m) s.heap s := by rw [List.append_nil]; exact hWd.weaken (fun q hq => Or.inl hq)
  have IH : ∀ j argsA h1 Q1, callW xs MT (fun _ _ _ _ _ => False) 7 j argsA h1 Q1 → ∀ M, MT[j]? = some M → Ctr l D b xs 7 M argsA h1 Q1 := fun j a9 h9 Q9 q M9 hM9 => snd_callW (P := fun _ _ _ _ _ => False) rows_all mk_all (fun _ _ _ _ _ z => z.elim) 7 j a9 h9 Q9 q M9 hM9
  have fin : ∀ (k : Int32) (h1 : aH) (H1 : Heap) (locs1 : List Loc) (ad1 : List Nat), Q (some (.int k)) h1 → World D (aA ad s.heap.size) b (ad ++ ad1) h1 H1 s → va_S (aA ad s.heap.size) s.heap H1 locs1 → ∀ (ce sl pc : Nat) (ls1 : Array Slot), ce ≤ 4 → sl ≤ 40 → decode cL_element pc = .ok (.ireturn, 1) → W p l e rmLE s mt args'.toArray below meth c H1 locs1 ce sl (vx_MQ below (CtrQ D b Q ad s.heap.size) (fun _ _ _ => False) args'.toArray s 4 40 (aA ad s.heap.size)) (F0 mt pc ls1 [.int k]) := by
    intro k h1 H1 locs1 ad1 hq hw1 hS1 ce sl pc ls1 hce hsl hdec
    refine vx_ret (W.widen (k := 4) (n := 40) hce hsl ?_)
    exact W.iret hx hb (by rw [hret]) (fun t ht hwm => ⟨⟨some (.int k), some (.int k), h1, ad1, rfl, hq, ⟨_, rfl, rfl⟩, by rw [ht]; exact (hw1.weaken (B := fun _ => True) (fun _ _ => trivial)).moved hwm.alike, hw1.new⟩, hS1.F ht⟩) hS1.2.2 hdec
  have hrt : ∀ (i : Nat) (x : xI) (S : List Value) (h1 : aH) (r : Option Value) (H1 : Heap) (locs1 : List Loc) (ce sl : Nat) (ad1 : List Nat) (ls1 : Array Slot) (S' : List Value), tLE[i]? = some x → a_ret x.1 (some .int) S = some r → (∃ k : Int32, r = some (.int k)) ∧ Q r h1 → World D (aA ad s.heap.size) b (ad ++ ad1) h1 H1 s → va_S (aA ad s.heap.size) s.heap H1 locs1 → RVs b (ad ++ ad1) S S' → ce ≤ rmLE.cells → sl ≤ rmLE.slots → decode cL_element x.2.1 = .ok (x.1, 1) → W p l e rmLE s mt args'.toArray below meth c H1 locs1 ce sl (vx_MQ below (CtrQ D b Q ad s.heap.size) (fun _ _ _ => False) args'.toArray s 4 40 (aA ad s.heap.size)) (F0 mt x.2.1 ls1 S') := by
    intro i x S h1 r H1 locs1 ce sl ad1 ls1 S' hxi hrt hq hw1 hS1 hSS hce hsl hdec
    obtain ⟨⟨k, hk⟩, hq⟩ := hq
    obtain ⟨ins, xr⟩ := x
    dsimp only at hrt hdec ⊢
    cases ins <;> try (simp only [a_ret, reduceCtorEq] at hrt; done)
    case return_ =>
      simp only [a_ret] at hrt
      split at hrt
      · rename_i hq9; cases hq9.1
      · cases hrt
    case ireturn =>
      simp only [a_ret] at hrt
      split at hrt
      · split at hrt
        · cases hrt
          cases hk
          obtain ⟨R', rfl, r2⟩ := hSS.i1
          rw [show R' = [] from r2]
          exact fin _ h1 H1 locs1 ad1 hq hw1 hS1 ce sl _ ls1 hce hsl hdec
        · cases hrt
      · cases hrt
    case lreturn =>
      simp only [a_ret] at hrt
      split at hrt
      · split at hrt
        · rename_i hty; cases hty
        · cases hrt
      · cases hrt
    case areturn =>
      simp only [a_ret] at hrt
      split at hrt
      · split at hrt
        · cases hrt; cases hk
        · cases hrt
      · cases hrt
  have walk6 := s_walkK (skip := fun i => cutsLE.elem i) (K := KM 0 0 (fun _ _ _ _ => False)) (l := l) (e := e) (R := rmLE) (below := below) (meth := meth) (D := D) (A := aA ad s.heap.size) (Q := vx_MQ below (CtrQ D b Q ad s.heap.size) (fun _ _ _ => False) args'.toArray s 4 40 (aA ad s.heap.size)) (rt := some .int) (Qf := fun r h1 => (∃ k : Int32, r = some (.int k)) ∧ Q r h1) (d := 7) (C := callW xs MT (fun _ _ _ _ _ => False) 7) (nL := 5) (own := RL) (mname := "element") (tbl := tLE) hx hb hml hown hts rows_all henv hmn okLE hA hsc (by decide) (by decide) IH ad (fun _ _ _ _ _ _ _ _ _ hk => by obtain ⟨_, _, _, _, _, _, _, _, _, _, hk⟩ := hk; exact hk.elim) hrt
  have hwp : wpK (fun i => cutsLE.elem i) (KM 4 40 (leK m p1 p2)) xs (callW xs MT (fun _ _ _ _ _ => False) 7) MT tLE (some .int) (fun r h1 => (∃ k : Int32, r = some (.int k)) ∧ Q r h1) 21 0 (a_locals 5 [.ref 0, .int p1, .int p2, .ref 273]) [] (toH m) 4 40 := by
    refine w2K (C2 := callW2 xs 7) (Q2 := fun _ _ => False) (c21W (P := fun _ _ _ _ _ => False) (fun _ _ _ _ _ _ _ z => z) 7) (callW_mono (fun _ _ _ _ _ _ _ z => z) 7) (fun r m' _ q => q.elim) 20 0 [some (vR 0 0), some (vI p1), some (vI p2), some (vR 90 0), none] [] m 4 40 (by decide) (le_ok p1 p2) (fun v hv => by cases hv) (Nat.le_refl _) (Nat.le_refl _) (bLE_0 m p1 p2 ⟨rfl, rfl, rfl, rfl⟩)
  have key := s_walkK (skip := fun i => cutsLE.elem i) (K := KM 4 40 (leK m p1 p2)) (l := l) (e := e) (R := rmLE) (below := below) (meth := meth) (D := D) (A := aA ad s.heap.size) (Q := vx_MQ below (CtrQ D b Q ad s.heap.size) (fun _ _ _ => False) args'.toArray s 4 40 (aA ad s.heap.size)) (rt := some .int) (Qf := fun r h1 => (∃ k : Int32, r = some (.int k)) ∧ Q r h1) (d := 7) (C := callW xs MT (fun _ _ _ _ _ => False) 7) (nL := 5) (own := RL) (mname := "element") (tbl := tLE) hx hb hml hown hts rows_all henv hmn okLE hA hsc (by decide) (by decide) IH ad ?_ hrt 21 0 (a_locals 5 [.ref 0, .int p1, .int p2, .ref 273]) [] (toH m) 4 40 hwp s.heap [] 0 0 [] _ [] hw0 va_S.rf (by rw [List.append_nil]; exact a_locals_LR hr (Nat.le_of_ble_eq_true rfl)) (a_locals_len (Nat.le_of_ble_eq_true rfl)) rfl rfl rfl
  · exact key
  · -- the call
    intro cont _ i L S h1 bc bs _ hk H1 locs1 ce sl ad1 ls1 S' hw1 hS1 hL1 hLn hSS hce hsl
    obtain ⟨hbc, hbs', L2, S2, m2, rfl, rfl, rfl, _, _, rfl, rfl, rfl, rfl⟩ := hk
    have e0 := hWd.one hw1
    subst e0
    rw [List.append_nil] at hw1 hL1 hSS
    have hce0 : ce = 0 := by have : ce + bc = 4 := hce; omega
    have hsl0 : sl = 0 := by have : sl + bs = 40 := hsl; omega
    subst hce0 hsl0
    have hlsz : ls1.size = 5 := by rw [← hLn, hL1.1]
    obtain ⟨v1, R1, rfl, r1, hSS⟩ := hSS
    obtain ⟨v2', R2, rfl, r2, hSS⟩ := hSS
    obtain ⟨v3, R3, rfl, r3, hSS⟩ := hSS
    obtain ⟨v4, R4, rfl, r4, hSS⟩ := hSS
    obtain ⟨v5, R5, rfl, r5, hSS⟩ := hSS
    have e1 : v1 = .int p2 := r1
    have e2 : v2' = .int p1 := r2
    have e4 : v4 = .int (nI 0) := r4
    have e5 : R5 = [] := hSS
    subst e1 e2 e4 e5
    obtain ⟨a0, rfl⟩ := r3.isRef
    have hargs : RVs b ad [.ref 0, .int p1, .int p2] [.ref a0, .int p1, .int p2] := ⟨_, _, rfl, r3, _, _, rfl, rfl, _, _, rfl, rfl, rfl⟩
    have hcell : ∃ fs, a_cell (toH m2) 0 = some (.inr (11, fs)) := ⟨_, rfl⟩
    obtain ⟨fs, hcell⟩ := hcell
    obtain ⟨ws, tys, a, x1, ea, hP, hD, hK, hR, w1, w2⟩ := hw1.at hcell r3
    cases ea
    obtain ⟨fs', rfl, w3⟩ := w2
    have CF : CallFix p mt c cL_element 5 s args'.toArray GW RL := ⟨hx, hb, hml, hown, hts⟩
    have hpre := s_pre (locs := locs1) (xs := xs) hargs hw1 henv hS1 hsc
    have had : ∀ q ∈ ad, aA ad s.heap.size q := fun q hq => Or.inl hq
    have h60 : shl p1 = true → elG m2 p1 p2 → p2.toNatClampNeg < 60 := fun hp hg => ((hc.2 hp).1 hg).1
    have hrun := vx_runV (l := l) (p := p) (e := e) (R := rmLE) (below := below) (meth := meth) (locs := locs1) (cells := 0) (slots := 0) (g := F0 mt 5 ls1 [.int p2, .int p1, .ref a0, .int (nI 0), v5]) (As := [.int p1, .int p2]) (rest := [.int (nI 0), v5]) CF (xe_met (D := D) (b := b) (xs := xs) hl m2 p1 p2 h60 ad H1.size) (C := RX11) (index := 7) (bytes := cX11_element) (maxL := 4) (ret := some .long) (n := 2) (cwV 2 hts (GW_good (fun w hw => ?_)) rfl rfl rfl ⟨rfl, by decide +kernel, by decide +kernel, by decide +kernel⟩ ⟨by decide, by decide⟩) ⟨fun _ _ _ _ hp => hp, va_recv hK hP (ci := 11) rfl w1, fun U hU hW => ⟨hpre U hU hW, hE.moved hW (fun q hq1 hq2 => by rw [hU]; exact hS1.2.1 q hq1 hq2) (fun q hq => hq.imp id (fun z => Nat.le_trans hS1.1 z))⟩⟩ rfl rfl hlsz rfl (by show 2 * 0 + _ ≤ 8; rw [show (List.map (fun v => v.category) [Value.int (nI 0), v5]).sum = 1 + (v5.category + 0) from rfl, r5.cat]; decide) (show decode cL_element 5 = .ok (.invokevirtual 7, 3) by decide +kernel) ⟨by decide, by decide⟩
    · refine x_after hrun hS1 hA had (fun E st t h => h.2.2) (fun r r' h' ad2 H2 locs2 q1 q2 q3 q4 => ?_) (fun E ce9 q9 st t H2 locs2 hxc ht hvm q4 hq9 hv9 hcl9 => ?_)
      · -- it returned
        obtain ⟨hp, hg, rfl, rfl⟩ := q1
        have e0 := hWd.one q3
        subst e0
        rw [List.append_nil] at q2 q3
        obtain ⟨v', rfl, hv'⟩ := q2
        have hv' : v' = .long (m2.2 32 p1.toNatClampNeg p2.toNatClampNeg) := hv'
        subst hv'
        have hw6 := w2K (xs := xs) (lo := 0) (ls := 0) (cuts := cutsLE) (K2 := fun _ _ _ _ => False) (tbl := tLE) (rt := some .int) (C2 := callW2 xs 7) (Q2 := fun r m' => r = some (vI (nI 0)) ∧ Q (r.map enc) (toH m')) (Q1 := fun r h1 => (∃ k : Int32, r = some (.int k)) ∧ Q r h1) (c21W (P := fun _ _ _ _ _ => False) (fun _ _ _ _ _ _ _ z => z) 7) (callW_mono (fun _ _ _ _ _ _ _ z => z) 7) (fun r m' _ q => ⟨⟨nI 0, by rw [q.1]; rfl⟩, q.2⟩) 20 6 [some (vR 0 0), some (vI p1), some (vI p2), some (vR 90 0), none] [vL (m2.2 32 p1.toNatClampNeg p2.toNatClampNeg), vI (nI 0), vR 90 0] m2 3 34 (by decide) (le_ok p1 p2) (fun v hv => by
            simp only [List.mem_cons, List.not_mem_nil, or_false] at hv
            rcases hv with rfl | rfl | rfl
            · trivial
            · trivial
            · exact (Or.inr (by decide) : 90 = 99 ∨ 0 < g_cnt 90)) (Nat.zero_le _) (Nat.zero_le _) (bLE_6 m2 p1 p2 _ ⟨inb_nI (by omega) (by omega), rfl, ((hc.2 hp).1 hg).2⟩)
        have := walk6 21 6 _ _ _ 3 34 hw6 H2 locs2 1 6 [] ls1 _ (by rw [List.append_nil]; exact q3) q4 (by rw [List.append_nil]; exact hL1) hLn (by rw [List.append_nil]; exact (⟨_, _, rfl, rfl, _, _, rfl, rfl, _, _, rfl, r5, rfl⟩ : RVs b ad [.long (m2.2 32 p1.toNatClampNeg p2.toNatClampNeg), .int (nI 0), enc (vR 90 0)] [.long (m2.2 32 p1.toNatClampNeg p2.toNatClampNeg), .int (nI 0), v5])) rfl rfl
        exact this
      · -- it threw
        obtain ⟨hcase, hwt, hF⟩ := hxc
        rw [ht] at hwt
        have hw9 : World D (aA ad s.heap.size) b (ad ++ []) (toH m2) H2 s := by rw [List.append_nil]; exact (hwt.moved hvm.symm).weaken had
        have hlv : lv_has ls1 5 [] := ⟨hlsz, hL1.2.1, fun q hq => by cases hq⟩
        have hE' := hE
        obtain ⟨_, _, _, _, _, _, h7, h8, h9⟩ := hE'
        rcases hcase with ⟨rfl, hp⟩ | ⟨rfl, hp, hg⟩
        · refine vx_catch (name := exI) hown [] ⟨0, 9, 12, 13⟩ [⟨0, 9, 16, 15⟩] htab (fun z hz => by cases hz) rfl (by decide) (hts _ le_l1.1) (va_Nw.use rfl h7) hq9 hv9 hcl9 ?_
          refine lv_astore (i := 4) (lv' := [(4, .ref q9)]) hx hb (by decide +kernel) hlv (by decide) rfl (fun ls2 hl2 => ?_)
          refine lv_iconst (n := 1) (v := 1) hx hb (by decide +kernel) (by decide) ?_
          exact fin 1 _ H2 locs2 [] (hc.1 hp) hw9 q4 _ _ _ ls2 (by decide) (by decide) (by decide +kernel)
        · refine vx_catch (name := exS) hown [⟨0, 9, 12, 13⟩] ⟨0, 9, 16, 15⟩ [] htab (fun z hz => Or.inr ?_) rfl (by decide) (hts _ le_l1.2) (va_Nw.use rfl h8) hq9 hv9 hcl9 ?_
          · rw [List.mem_singleton] at hz
            subst hz
            exact ⟨by decide, exI, hts _ le_l1.1, h9⟩
          · refine lv_astore (i := 4) (lv' := [(4, .ref q9)]) hx hb (by decide +kernel) hlv (by decide) rfl (fun ls2 hl2 => ?_)
            refine lv_iconst (n := 2) (v := 2) hx hb (by decide +kernel) (by decide) ?_
            exact fin 2 _ H2 locs2 [] ((hc.2 hp).2 hg) hw9 q4 _ _ _ ls2 (by decide) (by decide) (by decide +kernel)
    · rcases List.mem_append.mp hw with hw | hw
      · simp only [List.mem_cons, List.not_mem_nil, or_false] at hw
        rcases hw with rfl | rfl | rfl | rfl
        · exact le_l2.1
        · exact le_l2.2.1
        · exact le_l2.2.2.1
        · exact le_l2.2.2.2.1
      · exact (List.mem_cons.mp hw).elim (fun q => by rw [q]; exact le_l2.2.2.2.2) id
end L99WG
