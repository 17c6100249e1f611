/-! THE WALK: a run of M1 is a run of the JVM -/
theorem GW_good {ws : List Cond} (h : ∀ w ∈ ws, w ∈ GW) : GoodIn GW ws := fun w hw => ⟨h w hw, good_of_word (List.mem_filter.mp (h w hw)).2⟩
theorem wsM_in {M : aM} (h : Cond.code M.1 M.2.1 M.2.2.1 M.2.2.2.1 ∈ GW) : ∀ w ∈ wsM M, w ∈ GW := fun w hw => (List.mem_cons.mp hw).elim (fun q => by rw [q]; exact h) id
theorem a_store_len {x : Instr} {L L' : aL} {S T : List Value} (h : a_store x L S = some (L', T)) : L'.length = L.length := by
  unfold a_store at h
  split at h
  all_goals first
    | (split at h
       · split at h
         · cases h; first | exact a_set1_len _ _ _ | exact a_set2_len _ _ _
         · cases h
       · cases h)
    | cases h
theorem a_take {b : Nat} {ad : List Nat} {S S' : List Value} {k : Nat} (h : RVs b ad S S') (hk : k ≤ S.length) : S' = (S'.take k).reverse.reverse ++ S'.drop k ∧ RVs b ad (S.take k).reverse (S'.take k).reverse ∧ RVs b ad (S.drop k) (S'.drop k) ∧ ((S'.take k).reverse).length = k := by
  refine ⟨by rw [List.reverse_reverse, List.take_append_drop], (h.take k).rev, h.drop k, ?_⟩
  rw [List.length_reverse, List.length_take, h.length]; omega
section SF
variable {p : Program} {l : Launch} {e : Env} {R : Room} {s : State} {m : MethodId} {args : Array Value} {below : List Frame} {meth : Method} {c : Code} {H : Heap} {locs : List Loc} {cells slots : Nat} {Q : State → Prop}
variable {cc : ByteArray} {pc nL : Nat} {ls : Array Slot} {b : Nat} {ad : List Nat} {own : String} {D : va_G} {A : Nat → Prop} {h : aH} {xs : Nat × (Nat → Int32)}
theorem s_pre {argsA args' : List Value} (hr : RVs b ad argsA args') (hW : World D A b ad h H s) (henv : ENV s) (hS0 : va_S A s.heap H locs) (hsc : a_scr A b xs s s.heap) : ∀ U : State, U.heap = H → s.WarmedH U.vm → CtrP D b xs argsA h ad H.size args'.toArray U := by
  intro U hU hw
  refine ⟨args', rfl, hr, by rw [hU], ?_, henv.moved hw, ?_, Nat.lt_of_lt_of_le hsc.2.1 hS0.1, fun q => hsc.2.2 (a_scope hW b q).1⟩
  · rw [hU]
    exact ((hW.weaken (B := fun _ => True) (fun _ _ => trivial)).moved hw.alike)
  · rw [hU]
    exact (hsc.1.moved hw.alike).kept (hS0.2.1 b hsc.2.1 hsc.2.2)
set_option maxHeartbeats 4000000 in
/-- the three calls -/
theorem s_call {x : xI} {S S' : List Value} {M : aM} {d k : Nat} {Q1 : Option Value → aH → Prop} {MT : List aM} (hx : p.tables.exec = Jvm.exec) (hb : c.code = cc) (hml : c.maxLocals = nL) (hown : s.vm.findClass own = some m.cls) (hts : ∀ w ∈ GW, w.before args s = true) (henv : ENV s)
    (hd : decode cc pc = .ok (x.1, 3)) (hM : MT[x.2.2.2.1]? = some M) (hk : x.2.2.2.2.1 = k) (hkS : k ≤ S.length) (hrw : a_words (S.drop k) ≤ 8)
    (hcall : (∃ idx, x.1 = .invokevirtual idx ∧ a_callV own MT x idx ∧ a_rcv h x.2.2.2.2.2.1 (S.take k).reverse = true) ∨ (∃ idx, x.1 = .invokestatic idx ∧ a_callS own MT x idx) ∨ (∃ idx v AsA, x.1 = .invokespecial idx ∧ a_callI own MT x idx ∧ (S.take k).reverse = .ref v :: AsA))
    (hRf : d + 1 ≤ R.frames) (hRl : 39 * (d + 1) ≤ R.locals) (hC : Ctr l D b xs d M (S.take k).reverse h Q1)
    (hW : World D A b ad h H s) (hS0 : va_S A s.heap H locs) (hA : ∀ q, s.heap.size ≤ q → A q) (hsc : a_scr A b xs s s.heap) (hls : ls.size = nL) (hS : RVs b ad S S') (hkc : cells + M.2.2.2.2.2.1.1 ≤ R.cells) (hks : slots + M.2.2.2.2.2.1.2 ≤ R.slots)
    (kk : ∀ (r r' : Option Value) (h' : aH) (ad1 : List Nat) (H1 : Heap) (locs1 : List Loc) (R' : List Value), Q1 r h' → RO b (ad ++ ad1) r r' → RVs b ad (S.drop k) R' → World D A b (ad ++ ad1) h' H1 s → va_S A s.heap H1 locs1 → W p l e R s m args below meth c H1 locs1 (cells + M.2.2.2.2.2.1.1) (slots + M.2.2.2.2.2.1.2) Q (F0 m (pc + 3) ls (r'.toList ++ R'))) : W p l e R s m args below meth c H locs cells slots Q (F0 m pc ls S') := by
  obtain ⟨t1, t2, t3, t4⟩ := a_take hS hkS
  generalize hr' : S'.drop k = rest at t1 t3
  generalize ha' : (S'.take k).reverse = args' at t1 t2 t4
  have hroom : (rest.map fun v => v.category).sum ≤ 8 := by rw [t3.words]; exact hrw
  have hpre := s_pre (locs := locs) (xs := xs) t2 hW henv hS0 hsc
  have CF : CallFix p m c cc nL s args GW own := ⟨hx, hb, hml, hown, hts⟩
  have had : ∀ q ∈ ad, A q := fun q hq => (a_scope hW q hq).1
  have fin : va_Run p l e R s m args below meth c H locs cells slots M.2.2.2.2.2.1.1 M.2.2.2.2.2.1.2 (F0 m pc ls S') rest (CtrQ D b Q1 ad H.size args'.toArray) (aA ad H.size) → W p l e R s m args below meth c H locs cells slots Q (F0 m pc ls S') := fun hrun => s_after hrun hS0 hA had (fun r r' h' ad1 H1 locs1 q1 q2 q3 q4 => kk r r' h' ad1 H1 locs1 rest q1 q2 t3 q3 q4)
  rcases hcall with ⟨idx, e1, hcv, hrc⟩ | ⟨idx, e1, hcs⟩ | ⟨idx, v, AsA, e1, hci, hvA⟩
  · obtain ⟨⟨n, hn, c1, c2, c3, c4, c5, c6⟩, c7, c8, c9, ci, c10, T9, N9, c11⟩ := hcv M hM
    rw [e1] at hd
    unfold a_rcv at hrc
    split at hrc
    · rename_i v AsA hvA
      split at hrc
      · rename_i ci2 fs2 hcell
        rw [decide_eq_true_eq] at hrc
        have eci : ci2 = ci := by omega
        subst eci
        rw [hvA] at t2
        obtain ⟨v', As', g1, g2, g3⟩ := t2
        subst g1
        obtain ⟨ws, tys, a, x1, rfl, hP, hD, hK, hR, w1, w2⟩ := hW.at hcell g2
        obtain ⟨fs', rfl, w3⟩ := w2
        have hlen : As'.length = n := by have := t4; simp only [List.length_cons] at this; omega
        refine fin (va_runV CF (hC ad H.size) (cwV n hts (GW_good (fun w hw => ?_)) rfl rfl rfl ⟨rfl, c3, c4, c5⟩ ⟨hRf, ?_⟩) ⟨CtrP.blind, va_recv hK hP c11 w1, hpre⟩ rfl hlen hls ?_ (lv_room hroom) hd ⟨hkc, hks⟩)
        · rcases List.mem_append.mp hw with hw | hw
          · simp only [List.mem_cons, List.not_mem_nil, or_false] at hw
            rcases hw with rfl | rfl | rfl | rfl
            · exact c7
            · exact c8
            · exact c9
            · exact c2
          · exact wsM_in c1 w hw
        · show 8 + (M.2.2.1 + 11) + 39 * d ≤ R.locals
          omega
        · show S' = _
          rw [t1, List.reverse_cons, List.append_assoc]; rfl
      · cases hrc
    · cases hrc
  · obtain ⟨⟨c1, c2, c3, c4, c5, c6⟩, c7, c8⟩ := hcs M hM
    rw [e1] at hd
    have hRR : (rmD d M).frames + 1 ≤ R.frames ∧ 8 + (M.2.2.1 + 11) + (rmD d M).locals ≤ R.locals := ⟨hRf, by show 8 + (M.2.2.1 + 11) + 39 * d ≤ R.locals; omega⟩
    rcases c7 with c7 | c7
    · refine fin (va_runS CF (hC ad H.size) (va_cwS x.2.2.2.2.1 hts (GW_good (fun w hw => ?_)) rfl rfl rfl ⟨c3, c4, c5⟩ hRR) ⟨CtrP.blind, hpre⟩ rfl (t4.trans hk.symm) hls ?_ (lv_room hroom) hd ⟨hkc, hks⟩)
      · rcases List.mem_append.mp hw with hw | hw
        · simp only [List.mem_cons, List.not_mem_nil, or_false] at hw
          rcases hw with rfl | rfl | rfl
          · exact c7
          · exact c8
          · exact c2
        · exact wsM_in c1 w hw
      · exact t1
    · exact fin (va_runSN CF (hC ad H.size) ⟨va_cnB x.2.2.2.2.1 hts (GW_good (wsM_in c1)) rfl rfl rfl (henv.1 _ c7) (hts _ c2) ⟨c3, c4, c5⟩ hRR, hts _ c8, trivial⟩ ⟨CtrP.blind, hpre⟩ rfl (t4.trans hk.symm) hls t1 (lv_room hroom) hd ⟨hkc, hks⟩)
  · obtain ⟨⟨n, hn, c1, c2, c3, c4, c5, c6⟩, c7, c8, c9, c10⟩ := hci M hM
    rw [e1] at hd
    rw [hvA] at t2
    obtain ⟨v', As', g1, g2, g3⟩ := t2
    subst g1
    obtain ⟨a, rfl⟩ := g2.isRef
    have hlen : As'.length = n := by have := t4; simp only [List.length_cons] at this; omega
    have hst : S' = As'.reverse ++ .ref a :: rest := by rw [t1, List.reverse_cons, List.append_assoc]; rfl
    have hRR : (rmD d M).frames + 1 ≤ R.frames ∧ 8 + (M.2.2.1 + 11) + (rmD d M).locals ≤ R.locals := ⟨hRf, by show 8 + (M.2.2.1 + 11) + 39 * d ≤ R.locals; omega⟩
    have hcode : wsM M = Cond.code M.1 M.2.1 M.2.2.1 none :: GW := by unfold wsM; rw [c10]
    rcases c7 with c7 | c7
    · exact fin (va_runI CF (hC ad H.size) (cwI n hts (GW_good (wsM_in c1)) hcode rfl rfl (hts _ c2) (hts _ c7) (hts _ c8) c9 ⟨c3, c4, c5⟩ hRR) ⟨CtrP.blind, hpre⟩ rfl hlen hls hst (lv_room hroom) hd ⟨hkc, hks⟩)
    · exact fin (va_runIN CF (hC ad H.size) ⟨va_cnB n hts (GW_good (wsM_in c1)) hcode rfl rfl (henv.1 _ c7) (hts _ c2) ⟨c3, c4, c5⟩ hRR, c9, hts _ c8⟩ ⟨CtrP.blind, hpre⟩ rfl hlen hls hst (lv_room hroom) hd ⟨hkc, hks⟩)
end SF
