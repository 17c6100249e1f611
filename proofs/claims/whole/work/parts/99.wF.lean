/-! ELEMENT (2): its contract (wip/whole/src/99.wF.src) -/
section L99WF
variable {l : Launch} {D : va_G} {b : Nat} {xs : Nat × (Nat → Int32)}
def rmXE : Room := { frames := 7, cells := 1, slots := 6, locals := 273 }
/-- .. and where it has thrown -/
def xeX (D : va_G) (b : Nat) (m : Mem) (p1 p2 : Int32) (ad : List Nat) (sz : Nat) : String → State → State → Prop := fun E st t => ((E = exI ∧ shl p1 = false) ∨ (E = exS ∧ shl p1 = true ∧ ¬ elG m p1 p2)) ∧ World D (fun _ => True) b ad (toH m) t.heap t ∧ va_F (aA ad sz) st t
def xeQ1 (m : Mem) (p1 p2 : Int32) : Option Value → aH → Prop := fun r h' => shl p1 = true ∧ elG m p1 p2 ∧ h' = toH m ∧ r = some (.long (m.2 32 p1.toNatClampNeg p2.toNatClampNeg))
set_option maxHeartbeats 4000000 in
theorem xe_met (hl : l.stackTraces = false) (m : Mem) (p1 p2 : Int32) (h60 : shl p1 = true → elG m p1 p2 → p2.toNatClampNeg < 60) (ad : List Nat) (sz : Nat) : vx_Met l yX11_element (Cond.code yX11_element cX11_element 4 (some .long) :: GW) rmXE (fun v U => CtrP D b xs [.ref 0, .int p1, .int p2] (toH m) ad sz v U ∧ EXU (aA ad sz) U) (CtrQ D b (xeQ1 m p1 p2) ad sz) (xeX D b m p1 p2 ad sz) 1 6 (aA ad sz) := by
  refine vx_ofW (cc := cX11_element) (maxL := 4) (ret := some .long) (ws' := GW) (by decide) rfl ?_
  intro p e s mt args below meth c s₁ B hml hexc hv
  obtain ⟨⟨args', rfl, hr, hsz, hWd, henv, hX, hbs, hbad⟩, hE⟩ := hv
  have hx := B.exec
  have hb := B.bytes
  have hret := B.returns
  have hts := atoms_spec (ws := Cond.code yX11_element cX11_element 4 (some .long) :: GW) B.pre
  have hts : ∀ w ∈ GW, w.before args'.toArray s = true := fun w hw => hts w (List.mem_cons_of_mem _ hw)
  have hown : s.vm.findClass RX11 = some mt.cls := findClass_of_methodNamed B.named
  have hmn : meth.name = "element" := (name_of_methodNamed B.named B.method).1
  have hlocks := B.notSynchronized
  subst hsz
  have hA : ∀ q, s.heap.size ≤ q → aA ad s.heap.size q := fun q hq => Or.inr hq
  have hsc : a_scr (aA ad s.heap.size) b xs s s.heap := ⟨hX, hbs, fun q => q.elim hbad (fun z => by omega)⟩
  rw [lg_entry_eq]
  have hw0 : World D (aA ad s.heap.size) b (ad ++ []) (toH m) s.heap s := by rw [List.append_nil]; exact hWd.weaken (fun q hq => Or.inl hq)
  have hout : ∀ q : Nat, ∀ x ∈ c.exceptionTable.toList, covers x q = false := fun q x hx => (hexc x hx).elim
  have hwp : wpK (fun i => cutsXE.elem i) (KM 1 6 (xeK m p1 p2)) xs (callW xs MT (fun _ _ _ _ _ => False) 6) MT tXE (some .long) (xeQ1 m p1 p2) 61 0 (a_locals 4 [.ref 0, .int p1, .int p2]) [] (toH m) 1 6 := by
    refine w2K (C2 := callW2 xs 6) (Q2 := xeQ m p1 p2) (c21W (P := fun _ _ _ _ _ => False) (fun _ _ _ _ _ _ _ z => z) 6) (callW_mono (fun _ _ _ _ _ _ _ z => z) 6) (fun r m' _ q => ?_) 60 0 [some (vR 0 0), some (vI p1), some (vI p2), none] [] m 1 6 (by decide) ?_ (fun v hv => by cases hv) (Nat.le_refl _) (Nat.le_refl _) (xe_M2 (d := 5) m p1 p2 h60)
    · obtain ⟨q1, q2, rfl, rfl⟩ := q
      exact ⟨q1, q2, rfl, rfl⟩
    · intro v hv
      simp only [List.mem_cons, List.not_mem_nil, or_false, Option.some.injEq, reduceCtorEq] at hv
      rcases hv with rfl | rfl | rfl
      · exact (Or.inr (by decide) : 0 = 99 ∨ 0 < g_cnt 0)
      · trivial
      · trivial
  have key := s_walkK (skip := fun i => cutsXE.elem i) (K := KM 1 6 (xeK m p1 p2)) (l := l) (e := e) (R := rmXE) (below := below) (meth := meth) (D := D) (A := aA ad s.heap.size) (Q := vx_MQ below (CtrQ D b (xeQ1 m p1 p2) ad s.heap.size) (xeX D b m p1 p2 ad s.heap.size) args'.toArray s 1 6 (aA ad s.heap.size)) (rt := some .long) (Qf := xeQ1 m p1 p2) (d := 6) (C := callW xs MT (fun _ _ _ _ _ => False) 6) (nL := 4) (own := RX11) (mname := "element") (tbl := tXE) hx hb hml hown hts rows_all henv hmn okXE hA hsc (by decide) (by decide) (fun j a9 h9 Q9 q M9 hM9 => snd_callW (P := fun _ _ _ _ _ => False) rows_all mk_all (fun _ _ _ _ _ z => z.elim) 6 j a9 h9 Q9 q M9 hM9) ad ?_ ?_ 61 0 (a_locals 4 [.ref 0, .int p1, .int p2]) [] (toH m) 1 6 hwp s.heap [] 0 0 [] _ [] hw0 va_S.rf (by rw [List.append_nil]; exact a_locals_LR hr (Nat.le_of_ble_eq_true rfl)) (a_locals_len (Nat.le_of_ble_eq_true rfl)) rfl rfl rfl
  · exact key
  · -- the throws
    intro cont _ i L S h1 bc bs _ hk H1 locs1 ce sl ad1 ls1 S' hw1 hS1 hL1 hLn hSS hce hsl
    obtain ⟨hbc, hbs', L2, S2, m2, rfl, rfl, rfl, _, _, rfl, rfl, hcase⟩ := hk
    have hS' : S' = [] := hSS
    subst hS'
    have e0 := hWd.one hw1
    subst e0
    rw [List.append_nil] at hw1
    have hsize : ls1.size = c.maxLocals := by rw [hml, ← hLn, hL1.1]
    have hcc : ce + 1 ≤ rmXE.cells := by omega
    have hss : sl + 6 ≤ rmXE.slots := by omega
    have hcc' : ce + 1 ≤ 1 := hcc
    have hss' : sl + 6 ≤ 6 := hss
    have hxc : ∀ E, ((E = exI ∧ shl p1 = false) ∨ (E = exS ∧ shl p1 = true ∧ ¬ elG m2 p1 p2)) → ∀ t : State, s.vm.Alike t.vm → H1.size ≤ t.heap.size → (∀ q : Nat, q < H1.size → t.heap[q]? = H1[q]?) → xeX D b m2 p1 p2 ad s.heap.size E s t := fun E hE t hvm hsz hq => ⟨hE, ((hw1.weaken (B := fun _ => True) (fun _ _ => trivial)).ext hq).moved hvm, Nat.le_trans hS1.1 hsz, fun q hq1 hq2 => by rw [hq q (Nat.lt_of_lt_of_le hq1 hS1.1)]; exact hS1.2.1 q hq1 hq2⟩
    obtain ⟨h1, h2, ⟨a3, h3⟩, ⟨a4, h4⟩, ⟨a5, h5⟩, _⟩ := id hE
    rcases hcase with ⟨rfl, hp⟩ | ⟨rfl | rfl, hp, hg⟩
    · exact vx_throwSW (cls := exI) (text := "no such shelf") (names := exN) (ik := 267) (is := 269) (ic := 271) (pc := 7) hx hb hl hown (by decide +kernel) (by decide +kernel) (hts _ ex_l0.1) (hts _ ex_l0.2.1) h3 (ex_at0 hts hE) ex_o0 h1 h2 hS1 hsize (by decide +kernel) (by decide +kernel) (by decide +kernel) (by decide +kernel) (by decide +kernel) (hout _) (by decide) (by decide) hcc hss hlocks (hxc exI (Or.inl ⟨rfl, hp⟩)) hS1.2.2 hcc' hss'
    · exact vx_throwSW (cls := exS) (text := "no row is held") (names := exN) (ik := 277) (is := 279) (ic := 281) (pc := 32) hx hb hl hown (by decide +kernel) (by decide +kernel) (hts _ ex_l0.2.2.1) (hts _ ex_l0.2.2.2) h4 (ex_at1 hts hE) ex_o1 h1 h2 hS1 hsize (by decide +kernel) (by decide +kernel) (by decide +kernel) (by decide +kernel) (by decide +kernel) (hout _) (by decide) (by decide) hcc hss hlocks (hxc exS (Or.inr ⟨rfl, hp, hg⟩)) hS1.2.2 hcc' hss'
    · exact vx_throwSW (cls := exS) (text := "the row has no such place") (names := exN) (ik := 277) (is := 285) (ic := 281) (pc := 55) hx hb hl hown (by decide +kernel) (by decide +kernel) (hts _ ex_l0.2.2.1) (hts _ ex_l0.2.2.2) h5 (ex_at1 hts hE) ex_o1 h1 h2 hS1 hsize (by decide +kernel) (by decide +kernel) (by decide +kernel) (by decide +kernel) (by decide +kernel) (hout _) (by decide) (by decide) hcc hss hlocks (hxc exS (Or.inr ⟨rfl, hp, hg⟩)) hS1.2.2 hcc' hss'
  · intro i x S h1 r H1 locs1 ce sl ad1 ls1 S' hxi hrt hq hw1 hS1 hSS hce hsl hdec
    refine vx_ret (W.widen (k := 1) (n := 6) hce hsl ?_)
    have hfree : ∀ q ∈ locs1, aA ad s.heap.size q.base := hS1.2.2
    have post : ∀ (r' : Option Value), RO b (ad ++ ad1) r r' → ∀ t : State, t.heap = H1 → s.WarmedH t.vm → CtrQ D b (xeQ1 m p1 p2) ad s.heap.size args'.toArray s (.returned r') t := fun r' hro t ht hwm =>
      ⟨⟨r, r', h1, ad1, rfl, hq, hro, by rw [ht]; exact (hw1.weaken (B := fun _ => True) (fun _ _ => trivial)).moved hwm.alike, hw1.new⟩, hS1.F ht⟩
    obtain ⟨ins, xr⟩ := x
    dsimp only at hrt hdec ⊢
    cases ins <;> try (simp only [a_ret, reduceCtorEq] at hrt; done)
    case return_ =>
      simp only [a_ret] at hrt
      split at hrt
      · rename_i hq9; cases hq9.1
      · cases hrt
    case ireturn =>
      simp only [a_ret] at hrt
      split at hrt
      · split at hrt
        · cases hrt
          have h9 := hq.2.2.2
          cases h9
        · cases hrt
      · cases hrt
    case lreturn =>
      simp only [a_ret] at hrt
      split at hrt
      · split at hrt
        · rename_i hty
          cases hrt
          obtain ⟨R', rfl, r2⟩ := hSS.l1
          rw [show R' = [] from r2]
          exact W.lret hx hb (by rw [hret]) (post _ ⟨_, rfl, rfl⟩) hfree hdec
        · cases hrt
      · cases hrt
    case areturn =>
      simp only [a_ret] at hrt
      split at hrt
      · split at hrt
        · cases hrt
          have h9 := hq.2.2.2
          cases h9
        · cases hrt
      · cases hrt
end L99WF
