/-! THE WALK (2): arraycopy, and all instructions together -/
theorem a_ret_len {x : Instr} {rt : Option FieldType} {S : List Value} {r : Option Value} (h : a_ret x rt S = some r) : a_len x = 1 := by
  cases x <;> first | rfl | (simp only [a_ret, reduceCtorEq] at h; done)
theorem a_pure_falls {x : Instr} {z : Int} {S T : List Value} (h : a_pure x z S = some T) : a_falls x = true := by
  cases x <;> first | rfl | (simp only [a_pure, reduceCtorEq] at h; done)
theorem a_load_falls {x : Instr} {L : aL} {v : Value} (h : a_load x L = some v) : a_falls x = true := by
  cases x <;> first | rfl | (simp only [a_load, reduceCtorEq] at h; done)
theorem a_store_falls {x : Instr} {L L' : aL} {S T : List Value} (h : a_store x L S = some (L', T)) : a_falls x = true := by
  cases x <;> first | rfl | (simp only [a_store, reduceCtorEq] at h; done)
theorem a_br_jumps {x : Instr} {S T : List Value} {t : Bool} (h : a_br x S = some (t, T)) : a_jumps x = true := by
  cases x <;> first | rfl | (simp only [a_br, reduceCtorEq] at h; done)
theorem a_br_falls {x : Instr} {S T : List Value} (h : a_br x S = some (false, T)) : a_falls x = true := by
  cases x <;> first | rfl | (simp only [a_br, reduceCtorEq] at h; done) | (simp [a_br] at h; done)
theorem a_read_falls {xs : Nat × (Nat → Int32)} {x : xI} {h1 : aH} {S T : List Value} (h : a_read xs x S h1 = some T) : a_falls x.1 = true := by
  obtain ⟨ins, xr⟩ := x
  cases ins <;> first | rfl | (simp only [a_read, reduceCtorEq] at h; done)
theorem a_write_falls {x : xI} {h1 h2 : aH} {S T : List Value} (h : a_write x S h1 = some (T, h2)) : a_falls x.1 = true := by
  obtain ⟨ins, xr⟩ := x
  cases ins <;> first | rfl | (simp only [a_write, reduceCtorEq] at h; done)
theorem a_make_falls {x : xI} {h1 h2 : aH} {S T : List Value} {kc ks : Nat} (h : a_make x S h1 = some (T, h2, kc, ks)) : a_falls x.1 = true := by
  obtain ⟨ins, xr⟩ := x
  unfold a_make at h
  split at h
  · cases h
  cases ins <;> first | rfl | (simp only [reduceCtorEq] at h; done)
theorem a_mk_of {own : String} {args : Array Value} {s : State} {x : xI} (h : a_mkS own x) (henv : ENV s) : a_mk own GW args s x := by
  obtain ⟨ins, xr⟩ := x
  cases ins
  case anewarray idx =>
    intro C T N hc
    obtain ⟨h1, h2⟩ := h C T N hc
    refine ⟨h1, ?_⟩
    rcases h2 with rfl | rfl
    · exact henv.2.1
    · exact henv.2.2.1
  case multianewarray idx k => exact ⟨h.1, h.2.1, h.2.2, a_AOA henv.2.2.2⟩
  all_goals exact h
section SG
variable {p : Program} {l : Launch} {e : Env} {R : Room} {s : State} {m : MethodId} {args : Array Value} {below : List Frame} {meth : Method} {c : Code} {H : Heap} {locs : List Loc} {cells slots : Nat} {Q : State → Prop}
variable {cc : ByteArray} {pc nL : Nat} {ls : Array Slot} {b : Nat} {ad : List Nat} {own : String} {D : va_G} {A : Nat → Prop} {h h' : aH} {xs : Nat × (Nat → Int32)} {H0 : Heap}
set_option maxHeartbeats 4000000 in
theorem s_copy {S T S' : List Value} {idx : Nat} (hx : p.tables.exec = Jvm.exec) (hb : c.code = cc) (hml : c.maxLocals = ls.size) (hown : s.vm.findClass own = some m.cls) (hts : ∀ w ∈ GW, w.before args s = true) (hc : a_callC own idx) (hd : decode cc pc = .ok (.invokestatic idx, 3)) (hRf : 1 ≤ R.frames) (hRl : 39 ≤ R.locals)
    (hW : World D A b ad h H s) (hS0 : va_S A H0 H locs) (hp : a_copy S h = some (T, h')) (hw : a_words T ≤ 8) (hS : RVs b ad S S')
    (kk : ∀ (H1 : Heap) (locs1 : List Loc) (T' : List Value), RVs b ad T T' → World D A b ad h' H1 s → va_S A H0 H1 locs1 → W p l e R s m args below meth c H1 locs1 cells slots Q (F0 m (pc + 3) ls T')) : W p l e R s m args below meth c H locs cells slots Q (F0 m pc ls S') := by
  obtain ⟨l1, l2, l3, l4⟩ := hc
  unfold a_copy at hp
  split at hp
  · rename_i n dp d sp a0 R2
    obtain ⟨R0, rfl, r0⟩ := hS.i2
    obtain ⟨vd, R1, rfl, rd, r1⟩ := r0
    obtain ⟨R3, rfl, r3⟩ := r1.i1
    obtain ⟨va, R4, rfl, ra, r4⟩ := r3
    have hlo : ∀ T : List Value, T = R2 → (R4.map fun v => v.category).sum + (nativeFrameWords "java/lang/System" "arraycopy" 5 + 11) ≤ R.locals := fun T hT => by
      have e1 : nativeFrameWords "java/lang/System" "arraycopy" 5 = 7 := by decide +kernel
      rw [r4.words, e1]
      have : a_words R2 ≤ 8 := by
        split at hp
        · split at hp
          · cases hp; exact hw
          · cases hp
        · split at hp
          · cases hp; exact hw
          · cases hp
        · cases hp
      omega
    split at hp
    · rename_i ty n0 f ty1 n1 g hca hcd
      split at hp
      · rename_i hq
        obtain ⟨q0, q00, q1, q2, q3, q4, q5⟩ := hq
        subst q0; subst q00
        cases hp
        obtain ⟨y1, y2⟩ := a_cell_spec hca
        obtain ⟨ws, tys, ax, x1, rfl, hP, hD, hK, hR, w1, w2⟩ := hW.at hcd rd
        obtain ⟨cA, c', rfl, ⟨t0, w3⟩, w4⟩ := w2
        obtain ⟨av, xv, y3, y4, y5⟩ := hR.2.2 _ _ y2
        obtain ⟨cB, c'', rfl, ⟨t1, w5⟩, w6⟩ := y5
        have e0 : va = .ref av := by
          rw [RV_ref, if_neg y1] at ra
          obtain ⟨a2, y7, y8⟩ := ra
          rw [y4] at y7
          cases y7
          exact y8
        subst e0
        obtain g1 | z := c'
        · cases (show g = g1 from w4)
          obtain f1 | z := c''
          · cases (show f = f1 from w6)
            refine va_copyi hx hb hml hown (hts _ l1) (hts _ l2) (hts _ l3) (hts _ l4) hK hP hD hS0 a0 d t1 t0 y3 w1 w5 w3 rfl q1 q2 q3 q4 q5 (fun i hi => rfl) hRf (hlo _ rfl) hd (fun H1 locs1 k1 k2 k3 => kk H1 locs1 R4 r4 ⟨_, tys, k1, k2, hK, hR.set w1 ⟨cA, _, rfl, ⟨t0, w3⟩, rfl⟩⟩ k3)
          · exact absurd w6 (by simp [AR])
        · exact absurd w4 (by simp [AR])
      · cases hp
    · rename_i ty n0 f ty1 n1 g hca hcd
      split at hp
      · rename_i hq
        obtain ⟨q0, q00, q1, q2, q3, q4, q5⟩ := hq
        subst q0; subst q00
        cases hp
        obtain ⟨y1, y2⟩ := a_cell_spec hca
        obtain ⟨ws, tys, ax, x1, rfl, hP, hD, hK, hR, w1, w2⟩ := hW.at hcd rd
        obtain ⟨cA, c', rfl, ⟨t0, w3⟩, w4⟩ := w2
        obtain ⟨av, xv, y3, y4, y5⟩ := hR.2.2 _ _ y2
        obtain ⟨cB, c'', rfl, ⟨t1, w5⟩, w6⟩ := y5
        have e0 : va = .ref av := by
          rw [RV_ref, if_neg y1] at ra
          obtain ⟨a2, y7, y8⟩ := ra
          rw [y4] at y7
          cases y7
          exact y8
        subst e0
        obtain z | g1 | z := c'
        · exact absurd w4 (by simp [AR])
        · cases (show g = g1 from w4)
          obtain z | f1 | z := c''
          · exact absurd w6 (by simp [AR])
          · cases (show f = f1 from w6)
            refine va_copyl hx hb hml hown (hts _ l1) (hts _ l2) (hts _ l3) (hts _ l4) hK hP hD hS0 a0 d t1 t0 y3 w1 w5 w3 rfl q1 q2 q3 q4 q5 (fun i hi => rfl) hRf (hlo _ rfl) hd (fun H1 locs1 k1 k2 k3 => kk H1 locs1 R4 r4 ⟨_, tys, k1, k2, hK, hR.set w1 ⟨cA, _, rfl, ⟨t0, w3⟩, rfl⟩⟩ k3)
          · exact absurd w6 (by simp [AR])
        · exact absurd w4 (by simp [AR])
      · cases hp
    · cases hp
  · cases hp
variable {MT : List aM} {C : Nat → List Value → aH → (Option Value → aH → Prop) → Prop} {tbl : List xI} {rt : Option FieldType} {Qf : Option Value → aH → Prop} {mname : String} {d : Nat}
set_option maxHeartbeats 4000000 in
/-- what M1 does from instruction i on, the JVM does -/
theorem s_walk (hx : p.tables.exec = Jvm.exec) (hb : c.code = cc) (hml : c.maxLocals = nL) (hown : s.vm.findClass own = some m.cls) (hts : ∀ w ∈ GW, w.before args s = true) (hrows : a_rows GW) (henv : ENV s) (hmn : meth.name = mname) (hT : tOK own mname cc MT tbl) (hA : ∀ q, s.heap.size ≤ q → A q) (hsc : a_scr A b xs s s.heap)
    (hRf : d + 1 ≤ R.frames) (hRl : 39 * (d + 1) ≤ R.locals) (IH : ∀ j argsA h1 Q1, C j argsA h1 Q1 → ∀ M, MT[j]? = some M → Ctr l D b xs d M argsA h1 Q1) (ad0 : List Nat)
    (hret : ∀ (i : Nat) (x : xI) (S : List Value) (h1 : aH) (r : Option Value) (H1 : Heap) (locs1 : List Loc) (ce sl : Nat) (ad1 : List Nat) (ls1 : Array Slot) (S' : List Value), tbl[i]? = some x → a_ret x.1 rt S = some r → Qf r h1 → World D A b (ad0 ++ ad1) h1 H1 s → va_S A s.heap H1 locs1 → RVs b (ad0 ++ ad1) S S' → ce ≤ R.cells → sl ≤ R.slots → decode cc x.2.1 = .ok (x.1, 1) → W p l e R s m args below meth c H1 locs1 ce sl Q (F0 m x.2.1 ls1 S')) :
    ∀ (n i : Nat) (L : aL) (S : List Value) (h1 : aH) (bc bs : Nat), wp1 xs C MT tbl rt Qf n i L S h1 bc bs → ∀ (H1 : Heap) (locs1 : List Loc) (ce sl : Nat) (ad1 : List Nat) (ls1 : Array Slot) (S' : List Value), World D A b (ad0 ++ ad1) h1 H1 s → va_S A s.heap H1 locs1 → LR b (ad0 ++ ad1) L ls1 → L.length = nL → RVs b (ad0 ++ ad1) S S' → ce + bc = R.cells → sl + bs = R.slots → W p l e R s m args below meth c H1 locs1 ce sl Q (F0 m (pcOf tbl i) ls1 S') := by
  intro n
  induction n with
  | zero => intro i L S h1 bc bs hw; exact hw.elim
  | succ n ih =>
    intro i L S h1 bc bs hw H1 locs1 ce sl ad1 ls1 S' hW hS0 hL hLn hS hce hsl
    unfold wp1 at hw
    split at hw
    · exact hw.elim
    rename_i x hxi
    have hpc : pcOf tbl i = x.2.1 := by unfold pcOf; rw [hxi]
    rw [hpc]
    obtain ⟨o1, o2, o3, o4, o5, o6, o7, o8, o9, o10, o11, o12⟩ := hT i x hxi
    have hls : ls1.size = nL := by rw [hL.1]; exact hLn
    -- a call's continuation
    have aft : ∀ (k : Nat) (M : aM), a_falls x.1 = true → x.2.2.1 = 3 → M.2.2.2.2.2.1.1 ≤ bc → M.2.2.2.2.2.1.2 ≤ bs → ∀ (r r' : Option Value) (h' : aH) (ad2 : List Nat) (H2 : Heap) (locs2 : List Loc) (R' : List Value), wp1 xs C MT tbl rt Qf n (i + 1) L (r.toList ++ S.drop k) h' (bc - M.2.2.2.2.2.1.1) (bs - M.2.2.2.2.2.1.2) → RO b ((ad0 ++ ad1) ++ ad2) r r' → RVs b (ad0 ++ ad1) (S.drop k) R' → World D A b ((ad0 ++ ad1) ++ ad2) h' H2 s → va_S A s.heap H2 locs2 → W p l e R s m args below meth c H2 locs2 (ce + M.2.2.2.2.2.1.1) (sl + M.2.2.2.2.2.1.2) Q (F0 m (x.2.1 + 3) ls1 (r'.toList ++ R')) := by
      intro k M hf h3 hm1 hm2 r r' h' ad2 H2 locs2 R' q1 q2 q3 q4 q5
      have e := o3 hf
      rw [h3] at e
      rw [← e]
      rw [List.append_assoc] at q2 q4
      have q3' : RVs b (ad0 ++ (ad1 ++ ad2)) (S.drop k) R' := by rw [← List.append_assoc]; exact q3.mono
      have hL' : LR b (ad0 ++ (ad1 ++ ad2)) L ls1 := by rw [← List.append_assoc]; exact hL.mono
      exact ih _ _ _ _ _ _ q1 H2 locs2 _ _ (ad1 ++ ad2) ls1 _ q4 q5 hL' hLn (q2.list.app q3') (by omega) (by omega)
    split at hw
    · rename_i idx hins
      obtain ⟨u1, u2, u3, M, u4, u5, u6, u7⟩ := hw
      have h3 : x.2.2.1 = 3 := by rw [o2 (by rw [hins]; rfl), hins]; rfl
      have hf : a_falls x.1 = true := by rw [hins]; rfl
      exact s_call hx hb hml hown hts henv (by rw [h3] at o1; exact o1) u4 rfl u3 u2 (Or.inl ⟨idx, hins, o9 idx hins, u1⟩) hRf hRl (IH _ _ _ _ u7 M u4) hW hS0 hA hsc hls hS (by omega) (by omega) (aft _ M hf h3 u5 u6)
    · rename_i idx hins
      have h3 : x.2.2.1 = 3 := by rw [o2 (by rw [hins]; rfl), hins]; rfl
      have hf : a_falls x.1 = true := by rw [hins]; rfl
      have o10' := o10 idx hins
      split at hw
      · rename_i hid
        rw [if_pos hid] at o10'
        obtain ⟨T, h', u1, u2, u3⟩ := hw
        have e := o3 hf
        rw [h3] at e
        refine s_copy (idx := idx) hx hb (by rw [hml, hls]) hown hts o10' (by rw [hins, h3] at o1; exact o1) (by omega) (by omega) hW hS0 u1 u2 hS (fun H2 locs2 T' q1 q2 q3 => ?_)
        rw [← e]
        exact ih _ _ _ _ _ _ u3 H2 locs2 _ _ ad1 ls1 _ q2 q3 hL hLn q1 hce hsl
      · rename_i hid
        rw [if_neg hid] at o10'
        obtain ⟨u2, u3, M, u4, u5, u6, u7⟩ := hw
        exact s_call hx hb hml hown hts henv (by rw [h3] at o1; exact o1) u4 rfl u3 u2 (Or.inr (Or.inl ⟨idx, hins, o10'⟩)) hRf hRl (IH _ _ _ _ u7 M u4) hW hS0 hA hsc hls hS (by omega) (by omega) (aft _ M hf h3 u5 u6)
    · rename_i idx hins
      have h3 : x.2.2.1 = 3 := by rw [o2 (by rw [hins]; rfl), hins]; rfl
      have hf : a_falls x.1 = true := by rw [hins]; rfl
      have o11' := o11 idx hins
      split at hw
      · rename_i hid
        rw [if_pos hid] at o11'
        obtain ⟨v, R1, u1, u2, u3⟩ := hw
        subst u1
        obtain ⟨v', R', rfl, r1, r2⟩ := hS
        obtain ⟨a, rfl⟩ := r1.isRef
        have e := o3 hf
        rw [h3] at e
        have hw8 : (R'.map fun v => v.category).sum ≤ 8 := by rw [r2.words]; exact u2
        refine W.objInit hx hb hown (hts _ o11'.1) (hts _ o11'.2.1) (hts _ o11'.2.2) rfl (by rw [hml]; exact hls) rfl (by rw [hins, h3] at o1; exact o1) (by omega) (by show 2 * 0 + _ + 12 ≤ _; omega) ?_
        refine W.eq (g2 := F0 m (pcOf tbl (i + 1)) ls1 R') (by rw [e]) ?_
        exact ih _ _ _ _ _ _ u3 H1 locs1 _ _ ad1 ls1 _ hW hS0 hL hLn r2 hce hsl
      · rename_i hid
        rw [if_neg hid] at o11'
        obtain ⟨u1, u2, u3, M, u4, u5, u6, u7⟩ := hw
        unfold a_isR at u1
        split at u1
        · rename_i v AsA hvA
          exact s_call hx hb hml hown hts henv (by rw [h3] at o1; exact o1) u4 rfl u3 u2 (Or.inr (Or.inr ⟨idx, v, AsA, hins, o11', hvA⟩)) hRf hRl (IH _ _ _ _ u7 M u4) hW hS0 hA hsc hls hS (by omega) (by omega) (aft _ M hf h3 u5 u6)
        · cases u1
    · rename_i dd lo hi offs hins
      split at hw
      · rename_i v R1
        split at hw
        · rename_i j hj
          obtain ⟨R', rfl, r1⟩ := hS.i1
          obtain ⟨g1, g2⟩ := o12 dd lo hi offs hins
          exact s_sw (pcs := pcOf tbl) hx hb (by rw [hins] at o1; exact o1) g1 g2 hj (ih _ _ _ _ _ _ hw H1 locs1 _ _ ad1 ls1 _ hW hS0 hL hLn r1 hce hsl)
        · exact hw.elim
      · exact hw.elim
    · rename_i n1 n2 n3 n4
      have hsw : a_isSw x.1 = false := by
        unfold a_isSw
        split
        · rename_i hq; exact (n4 _ _ _ _ hq).elim
        · rfl
      have hlen := o2 hsw
      rw [hlen] at o1 o3
      split at hw
      · rename_i r hr
        refine hret i x S h1 r H1 locs1 ce sl ad1 ls1 S' hxi hr hw hW hS0 hS (by omega) (by omega) ?_
        rw [a_ret_len hr] at o1
        exact o1
      split at hw
      · rename_i T hp
        obtain ⟨T', g1, g2⟩ := s_pure (l := l) (e := e) (R := R) (below := below) (meth := meth) (H := H1) (locs := locs1) (cells := ce) (slots := sl) (Q := Q) (ls := ls1) hx hb hown o1 (fun w hw => hts w (o5 w hw)) hp hS
        refine g2 ?_
        rw [← o3 (a_pure_falls hp)]
        exact ih _ _ _ _ _ _ hw H1 locs1 _ _ ad1 ls1 _ hW hS0 hL hLn g1 hce hsl
      split at hw
      · rename_i v hp
        obtain ⟨v', g1, g2⟩ := s_load (l := l) (e := e) (R := R) (s := s) (args := args) (m := m) (below := below) (meth := meth) (H := H1) (locs := locs1) (cells := ce) (slots := sl) (Q := Q) (S' := S') hx hb o1 hp hL
        refine g2 ?_
        rw [← o3 (a_load_falls hp)]
        exact ih _ _ _ _ _ _ hw H1 locs1 _ _ ad1 ls1 _ hW hS0 hL hLn ⟨v', S', rfl, g1, hS⟩ hce hsl
      split at hw
      · rename_i L' T hp
        obtain ⟨T', g1, g2⟩ := s_store (l := l) (e := e) (R := R) (s := s) (args := args) (m := m) (below := below) (meth := meth) (H := H1) (locs := locs1) (cells := ce) (slots := sl) (Q := Q) hx hb o1 hp hL hS
        refine g2 (fun ls2 hL2 => ?_)
        rw [← o3 (a_store_falls hp)]
        exact ih _ _ _ _ _ _ hw H1 locs1 _ _ ad1 ls2 _ hW hS0 hL2 (by rw [a_store_len hp]; exact hLn) g1 hce hsl
      split at hw
      · rename_i t T hp
        obtain ⟨T', g1, g2⟩ := s_br (l := l) (e := e) (R := R) (s := s) (args := args) (m := m) (below := below) (meth := meth) (H := H1) (locs := locs1) (cells := ce) (slots := sl) (Q := Q) (ls := ls1) hx hb o1 (o4 (a_br_jumps hp)) hp hS
        refine g2 ?_
        cases t with
        | true => exact ih _ _ _ _ _ _ hw H1 locs1 _ _ ad1 ls1 _ hW hS0 hL hLn g1 hce hsl
        | false =>
          show W p l e R s m args below meth c H1 locs1 ce sl Q (F0 m (x.2.1 + a_len x.1) ls1 T')
          rw [← o3 (a_br_falls hp)]
          exact ih _ _ _ _ _ _ hw H1 locs1 _ _ ad1 ls1 _ hW hS0 hL hLn g1 hce hsl
      split at hw
      · rename_i T hp
        obtain ⟨T', g1, g2⟩ := s_read (l := l) (e := e) (R := R) (m := m) (below := below) (meth := meth) (cells := ce) (slots := sl) (Q := Q) (ls := ls1) hx hb hown hts hrows o1 o6 hW hS0 hsc hp hS
        refine g2 ?_
        rw [← o3 (a_read_falls hp)]
        exact ih _ _ _ _ _ _ hw H1 locs1 _ _ ad1 ls1 _ hW hS0 hL hLn g1 hce hsl
      split at hw
      · rename_i T h' hp
        obtain ⟨T', g1, g2⟩ := s_write (l := l) (e := e) (R := R) (below := below) (cells := ce) (slots := sl) (Q := Q) (ls := ls1) hx hb hown hts hrows o1 (fun idx hi => by rw [hmn]; exact o7 idx hi) hW hS0 hp hS
        refine g2 (fun H2 locs2 q1 q2 => ?_)
        rw [← o3 (a_write_falls hp)]
        exact ih _ _ _ _ _ _ hw H2 locs2 _ _ ad1 ls1 _ q1 q2 hL hLn g1 hce hsl
      split at hw
      · rename_i T h' kc ks hp
        obtain ⟨u1, u2, u3⟩ := hw
        refine s_make hx hb hown hts hrows o1 (a_mk_of o8 henv) hW hS0 hA hp hS (by omega) (by omega) (fun H2 ad2 T' q1 q2 q3 => ?_)
        rw [← o3 (a_make_falls hp)]
        rw [List.append_assoc] at q1 q3
        have hL' : LR b (ad0 ++ (ad1 ++ ad2)) L ls1 := by rw [← List.append_assoc]; exact hL.mono
        exact ih _ _ _ _ _ _ u3 H2 locs1 _ _ (ad1 ++ ad2) ls1 _ q1 q2 hL' hLn q3 (by omega) (by omega)
      · exact hw.elim
end SG
