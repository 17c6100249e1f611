/-! THE CONTRACTS: a call of M1 is a call of the JVM -/
theorem a_args_at {b : Nat} {ad : List Nat} : ∀ {vs vs' : List Value} (o : Nat) {k : Nat} {v : Value}, RVs b ad vs vs' → a_get (a_args vs) k = some v → ∃ v', (o + k, v') ∈ lv_args o vs' ∧ RV b ad v v'
  | [], _, o, k, v, _, h => by simp [a_args, a_get] at h
  | w :: vs, _, o, k, v, ⟨w', R', e, h1, h2⟩, h => by
    subst e
    unfold a_args at h
    have hcat := h1.cat
    split at h
    · rename_i hc
      match k, h with
      | 0, h =>
        simp only [a_get, List.getElem?_cons_zero] at h
        cases h
        exact ⟨w', by simp [lv_args], h1⟩
      | 1, h => simp [a_get] at h
      | k + 2, h =>
        obtain ⟨v', g1, g2⟩ := a_args_at (o + 2) (k := k) h2 (by simpa [a_get] using h)
        refine ⟨v', ?_, g2⟩
        have e : o + (k + 2) = o + 2 + k := by omega
        rw [e]
        simp only [lv_args]
        rw [hcat, hc]
        exact List.mem_cons_of_mem _ g1
    · rename_i hc
      have hc1 : w'.category = 1 := by
        rcases lv_cat w' with q | q
        · exact q
        · exact absurd (hcat.symm.trans q) hc
      match k, h with
      | 0, h =>
        simp only [a_get, List.getElem?_cons_zero] at h
        cases h
        exact ⟨w', by simp [lv_args], h1⟩
      | k + 1, h =>
        obtain ⟨v', g1, g2⟩ := a_args_at (o + 1) (k := k) h2 (by simpa [a_get] using h)
        refine ⟨v', ?_, g2⟩
        have e : o + (k + 1) = o + 1 + k := by omega
        rw [e]
        simp only [lv_args]
        rw [hc1]
        exact List.mem_cons_of_mem _ g1
theorem a_args_len {b : Nat} {ad : List Nat} : ∀ {vs vs' : List Value}, RVs b ad vs vs' → (lg_sl vs').length = (a_args vs).length
  | [], _, h => by rw [show _ = [] from h]; rfl
  | w :: vs, _, ⟨w', R', e, h1, h2⟩ => by
    subst e
    have ih := a_args_len h2
    unfold a_args
    simp only [lg_sl, List.flatMap_cons] at ih ⊢
    rw [h1.cat]
    split <;> simp [ih] <;> omega
theorem a_locals_len {n : Nat} {vs : List Value} (h : (a_args vs).length ≤ n) : (a_locals n vs).length = n := by
  unfold a_locals
  rw [List.length_append, List.length_replicate]; omega
theorem a_locals_LR {b : Nat} {ad : List Nat} {vs vs' : List Value} {n : Nat} (hr : RVs b ad vs vs') (h : (a_args vs).length ≤ n) : LR b ad (a_locals n vs) ((lg_sl vs' ++ List.replicate (n - (lg_sl vs').length) Slot.unset).toArray) := by
  have hl := a_args_len hr
  have hh := lv_entry vs' (n := n) (by omega)
  refine ⟨by rw [hh.1, a_locals_len h], hh.2.1, fun k v hk => ?_⟩
  have hk2 : a_get (a_args vs) k = some v := by
    have := a_get_lt hk
    unfold a_locals at this
    by_cases hlt : k < (a_args vs).length
    · rw [List.getElem?_append_left hlt] at this
      exact a_get_some this
    · rw [List.getElem?_append_right (by omega), List.getElem?_replicate] at this
      split at this <;> cases this
  obtain ⟨v', g1, g2⟩ := a_args_at 0 hr hk2
  rw [Nat.zero_add] at g1
  exact ⟨v', hh.2.2 _ g1, g2⟩
/-- what every method of the table is -/
def mOK (MT : List aM) (M : aM) : Prop := (plainName M.1.cls = true ∧ pcOf M.2.2.2.2.2.2 0 = 0) ∧ tOK M.1.cls M.1.name M.2.1 MT M.2.2.2.2.2.2
theorem World.new {D : va_G} {b : Nat} {ad ad1 : List Nat} {h : aH} {H : Heap} {s : State} {sz : Nat} (w : World D (aA ad sz) b (ad ++ ad1) h H s) : ∀ a ∈ ad1, sz ≤ a := by
  obtain ⟨ws, tys, hP, hD, hK, hR⟩ := w
  intro a ha
  have e := hR.2.1
  obtain ⟨j, hj⟩ := List.getElem?_of_mem ha
  have h1 : (ad ++ ad1)[ad.length + j]? = some a := by rw [List.getElem?_append_right (by omega), show ad.length + j - ad.length = j by omega]; exact hj
  rw [← e, List.getElem?_map] at h1
  obtain ⟨q, h2, h3⟩ := Option.map_eq_some_iff.mp h1
  have h4 := hD.2 _ _ h2
  rw [h3] at h4
  rcases h4 with h4 | h4
  · obtain ⟨i, hi⟩ := List.getElem?_of_mem h4
    have h5 : (ad ++ ad1)[i]? = some a := pf_at hi
    rw [← e, List.getElem?_map] at h5
    obtain ⟨q', h6, h7⟩ := Option.map_eq_some_iff.mp h5
    have := hD.1 _ _ _ _ h2 h6 (h3.trans h7.symm)
    have := (List.getElem?_eq_some_iff.mp hi).1
    omega
  · exact h4
set_option maxHeartbeats 4000000 in
theorem snd_call {l : Launch} {D : va_G} {b : Nat} {xs : Nat × (Nat → Int32)} {MT : List aM} {P : Nat → Nat → List Value → aH → (Option Value → aH → Prop) → Prop} (hrows : a_rows GW) (hMT : ∀ (j : Nat) (M : aM), MT[j]? = some M → mOK MT M)
    (hP : ∀ (d j : Nat) args h Q, P d j args h Q → ∀ M, MT[j]? = some M → Ctr l D b xs d M args h Q) : ∀ (d j : Nat) args h Q, call1 xs MT P d j args h Q → ∀ M, MT[j]? = some M → Ctr l D b xs d M args h Q := by
  intro d
  induction d with
  | zero => exact fun j args h Q hc => hP 0 j args h Q hc
  | succ d IH =>
    intro j argsA h Q hc M hM
    rcases hc with hc | ⟨M2, e, hn, hlen, n, hw⟩
    · exact hP _ _ _ _ _ hc M hM
    rw [hM] at e
    cases e
    obtain ⟨⟨hpl, hp0⟩, hT⟩ := hMT j M hM
    intro ad sz
    refine Met.ofW (cc := M.2.1) (maxL := M.2.2.1) (ret := M.2.2.2.1) (ws' := GW) hpl rfl ?_
    intro p e s m args below meth c s₁ B hml hv
    obtain ⟨args', rfl, hr, hsz, hWd, henv, hX, hbs, hbad⟩ := hv
    have hx := B.exec
    have hb := B.bytes
    have hret := B.returns
    have hts := atoms_spec (ws := wsM M) B.pre
    have hown : s.vm.findClass M.1.cls = some m.cls := findClass_of_methodNamed B.named
    have hmn : meth.name = M.1.name := (name_of_methodNamed B.named B.method).1
    have hlocks := B.notSynchronized
    subst hsz
    have hA : ∀ q, s.heap.size ≤ q → aA ad s.heap.size q := fun q hq => Or.inr hq
    have hsc : a_scr (aA ad s.heap.size) b xs s s.heap := ⟨hX, hbs, fun q => q.elim hbad (fun z => by omega)⟩
    rw [lg_entry_eq]
    have hw0 : World D (aA ad s.heap.size) b (ad ++ []) h s.heap s := by rw [List.append_nil]; exact hWd.weaken (fun q hq => Or.inl hq)
    have key := s_walk (l := l) (e := e) (R := rmD (d + 1) M) (below := below) (meth := meth) (D := D) (A := aA ad s.heap.size) (Q := MQ below (CtrQ D b Q ad s.heap.size) args'.toArray s M.2.2.2.2.2.1.1 M.2.2.2.2.2.1.2 (aA ad s.heap.size)) (rt := M.2.2.2.1) (Qf := Q) (d := d) (C := call1 xs MT P d) hx hb hml hown (fun w hw => hts w (List.mem_cons_of_mem _ hw)) hrows henv hmn hT hA hsc (Nat.le_refl _) (Nat.le_refl _) (fun j a9 h9 Q9 q M9 hM9 => IH j a9 h9 Q9 q M9 hM9) ad ?_ n 0 (a_locals M.2.2.1 argsA) [] h M.2.2.2.2.2.1.1 M.2.2.2.2.2.1.2 hw s.heap [] 0 0 [] _ [] hw0 va_S.rf (by rw [List.append_nil]; exact a_locals_LR hr hlen) (a_locals_len hlen) rfl (Nat.zero_add _) (Nat.zero_add _)
    · rw [hp0] at key
      exact key
    · intro i x S h1 r H1 locs1 ce sl ad1 ls1 S' hxi hrt hq hw1 hS1 hSS hce hsl hdec
      refine W.widen (k := M.2.2.2.2.2.1.1) (n := M.2.2.2.2.2.1.2) hce hsl ?_
      have hfree : ∀ q ∈ locs1, aA ad s.heap.size q.base := hS1.2.2
      have post : ∀ (r' : Option Value), RO b (ad ++ ad1) r r' → ∀ t : State, t.heap = H1 → s.WarmedH t.vm → CtrQ D b Q ad s.heap.size args'.toArray s (.returned r') t := fun r' hro t ht hwm =>
        ⟨⟨r, r', h1, ad1, rfl, hq, hro, by rw [ht]; exact (hw1.weaken (B := fun _ => True) (fun _ _ => trivial)).moved hwm.alike, hw1.new⟩, hS1.F ht⟩
      obtain ⟨ins, xr⟩ := x
      dsimp only at hrt hdec ⊢
      cases ins <;> try (simp only [a_ret, reduceCtorEq] at hrt; done)
      case return_ =>
        simp only [a_ret] at hrt
        split at hrt
        · rename_i hq9
          obtain ⟨q1, q2⟩ := hq9
          cases hrt
          subst q2
          rw [show S' = [] from hSS]
          exact W.vret hx hb (by rw [hret]; exact q1) (post none rfl) hfree hdec
        · cases hrt
      case ireturn =>
        simp only [a_ret] at hrt
        split at hrt
        · split at hrt
          · split at hrt
            · rename_i ty hty hnar
              cases hrt
              obtain ⟨R', rfl, r2⟩ := hSS.i1
              rw [show R' = [] from r2]
              exact W.zret hx hb (by rw [hret]; exact hty) hnar (post _ ⟨_, rfl, rfl⟩) hfree hdec
            · cases hrt
          · cases hrt
        · cases hrt
      case lreturn =>
        simp only [a_ret] at hrt
        split at hrt
        · split at hrt
          · rename_i hty
            cases hrt
            obtain ⟨R', rfl, r2⟩ := hSS.l1
            rw [show R' = [] from r2]
            exact W.lret hx hb (by rw [hret]; exact hty) (post _ ⟨_, rfl, rfl⟩) hfree hdec
          · cases hrt
        · cases hrt
      case areturn =>
        simp only [a_ret] at hrt
        split at hrt
        · split at hrt
          · split at hrt
            · rename_i ty hty hnar
              cases hrt
              obtain ⟨v', R', rfl, r1, r2⟩ := hSS
              rw [show R' = [] from r2]
              obtain ⟨a9, rfl⟩ := r1.isRef
              exact W.aret hx hb (by rw [hret]; exact hty) (by cases ty <;> first | exact Or.inl ⟨_, rfl⟩ | exact Or.inr ⟨_, rfl⟩ | (cases hnar)) (Or.inr ⟨_, rfl⟩) (post _ ⟨_, rfl, r1⟩) hfree hdec
            · cases hrt
          · cases hrt
        · cases hrt
