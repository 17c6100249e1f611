/-! TWO WALKS MORE (by wip/whole/gen_walk2.py) -/
def xOKE (idE : Nat) (own mname : String) (cc : ByteArray) (MT : List aM) (tbl : List xI) (i : Nat) (x : xI) : Prop :=
  decode cc x.2.1 = .ok (x.1, x.2.2.1) ∧ (a_isSw x.1 = false → x.2.2.1 = a_len x.1) ∧ (a_falls x.1 = true → pcOf tbl (i + 1) = x.2.1 + x.2.2.1) ∧ (a_jumps x.1 = true → (x.2.1 : Int) + a_off x.1 = (pcOf tbl x.2.2.2.1 : Int)) ∧
  (∀ w, a_const own x.1 x.2.2.2.2.2.1 = some w → w ∈ GW) ∧ (∀ idx, x.1 = .getfield idx → a_fld own GW x idx) ∧ (∀ idx, x.1 = .putfield idx → a_fld own GW x idx ∧ a_fin own mname x) ∧ a_mkS own x ∧
  (∀ idx, x.1 = .invokevirtual idx → a_callV own MT x idx ∧ x.2.2.2.1 ≠ idE) ∧ (∀ idx, x.1 = .invokestatic idx → if x.2.2.2.1 = idCopy then a_callC own idx else if x.2.2.2.1 = idE then True else a_callS own MT x idx) ∧ (∀ idx, x.1 = .invokespecial idx → if x.2.2.2.1 = idInit then a_callO own idx else a_callI own MT x idx ∧ x.2.2.2.1 ≠ idE) ∧
  (∀ d lo hi offs, x.1 = .tableswitch d lo hi offs → (∀ j, x.2.2.2.2.2.2[0]? = some j → (x.2.1 : Int) + d = (pcOf tbl j : Int)) ∧ ∀ (k j : Nat), x.2.2.2.2.2.2[k + 1]? = some j → ∃ o, offs[k]? = some o ∧ (x.2.1 : Int) + o = (pcOf tbl j : Int))
def tOKE (idE : Nat) (own mname : String) (cc : ByteArray) (MT : List aM) (tbl : List xI) : Prop := ∀ (i : Nat) (x : xI), tbl[i]? = some x → xOKE idE own mname cc MT tbl i x
def wpK (skip : Nat → Bool) (K : Nat → aL → List Value → aH → Nat → Nat → (Nat → aL → List Value → aH → Nat → Nat → Prop) → Prop) (xs : Nat × (Nat → Int32)) (C : Nat → List Value → aH → (Option Value → aH → Prop) → Prop) (MT : List aM) (tbl : List xI) (rt : Option FieldType) (Q : Option Value → aH → Prop) : Nat → Nat → aL → List Value → aH → Nat → Nat → Prop
  | 0, _, _, _, _, _, _ => False
  | n + 1, i, L, S, h, bc, bs => match skip i with
    | true => K i L S h bc bs (wpK skip K xs C MT tbl rt Q n)
    | false => match tbl[i]? with
    | none => False
    | some x => match x.1 with
      | .invokevirtual _ => a_rcv h x.2.2.2.2.2.1 (S.take x.2.2.2.2.1).reverse = true ∧ a_words (S.drop x.2.2.2.2.1) ≤ 8 ∧ x.2.2.2.2.1 ≤ S.length ∧ ∃ M, MT[x.2.2.2.1]? = some M ∧ M.2.2.2.2.2.1.1 ≤ bc ∧ M.2.2.2.2.2.1.2 ≤ bs ∧ C x.2.2.2.1 (S.take x.2.2.2.2.1).reverse h (fun r h' => wpK skip K xs C MT tbl rt Q n (i + 1) L (r.toList ++ S.drop x.2.2.2.2.1) h' (bc - M.2.2.2.2.2.1.1) (bs - M.2.2.2.2.2.1.2))
      | .invokestatic _ => if x.2.2.2.1 = idCopy then (∃ R h', a_copy S h = some (R, h') ∧ a_words R ≤ 8 ∧ wpK skip K xs C MT tbl rt Q n (i + 1) L R h' bc bs) else
        a_words (S.drop x.2.2.2.2.1) ≤ 8 ∧ x.2.2.2.2.1 ≤ S.length ∧ ∃ M, MT[x.2.2.2.1]? = some M ∧ M.2.2.2.2.2.1.1 ≤ bc ∧ M.2.2.2.2.2.1.2 ≤ bs ∧ C x.2.2.2.1 (S.take x.2.2.2.2.1).reverse h (fun r h' => wpK skip K xs C MT tbl rt Q n (i + 1) L (r.toList ++ S.drop x.2.2.2.2.1) h' (bc - M.2.2.2.2.2.1.1) (bs - M.2.2.2.2.2.1.2))
      | .invokespecial _ => if x.2.2.2.1 = idInit then (∃ v R, S = .ref v :: R ∧ a_words R ≤ 8 ∧ wpK skip K xs C MT tbl rt Q n (i + 1) L R h bc bs) else
        a_isR (S.take x.2.2.2.2.1).reverse = true ∧ a_words (S.drop x.2.2.2.2.1) ≤ 8 ∧ x.2.2.2.2.1 ≤ S.length ∧ ∃ M, MT[x.2.2.2.1]? = some M ∧ M.2.2.2.2.2.1.1 ≤ bc ∧ M.2.2.2.2.2.1.2 ≤ bs ∧ C x.2.2.2.1 (S.take x.2.2.2.2.1).reverse h (fun r h' => wpK skip K xs C MT tbl rt Q n (i + 1) L (r.toList ++ S.drop x.2.2.2.2.1) h' (bc - M.2.2.2.2.2.1.1) (bs - M.2.2.2.2.2.1.2))
      | .tableswitch _ lo hi _ => match S with
        | .int v :: R => (match a_sw lo hi x.2.2.2.2.2.2 v with | some j => wpK skip K xs C MT tbl rt Q n j L R h bc bs | none => False)
        | _ => False
      | _ => match a_ret x.1 rt S with
        | some r => Q r h
        | none => match a_pure x.1 x.2.2.2.2.2.1 S with
          | some R => wpK skip K xs C MT tbl rt Q n (i + 1) L R h bc bs
          | none => match a_load x.1 L with
            | some v => wpK skip K xs C MT tbl rt Q n (i + 1) L (v :: S) h bc bs
            | none => match a_store x.1 L S with
              | some (L', R) => wpK skip K xs C MT tbl rt Q n (i + 1) L' R h bc bs
              | none => match a_br x.1 S with
                | some (b, R) => wpK skip K xs C MT tbl rt Q n (if b then x.2.2.2.1 else i + 1) L R h bc bs
                | none => match a_read xs x S h with
                  | some R => wpK skip K xs C MT tbl rt Q n (i + 1) L R h bc bs
                  | none => match a_write x S h with
                    | some (R, h') => wpK skip K xs C MT tbl rt Q n (i + 1) L R h' bc bs
                    | none => match a_make x S h with
                      | some (R, h', kc, ks) => kc ≤ bc ∧ ks ≤ bs ∧ wpK skip K xs C MT tbl rt Q n (i + 1) L R h' (bc - kc) (bs - ks)
                      | none => False
section SGL
variable {p : Program} {l : Launch} {e : Env} {R : Room} {s : State} {m : MethodId} {args : Array Value} {below : List Frame} {meth : Method} {c : Code} {H : Heap} {locs : List Loc} {cells slots : Nat} {Q : State → Prop}
variable {cc : ByteArray} {pc nL : Nat} {ls : Array Slot} {b : Nat} {ad : List Nat} {own : String} {D : va_G} {A : Nat → Prop} {h h' : aH} {xs : Nat × (Nat → Int32)} {H0 : Heap}
variable {MT : List aM} {C : Nat → List Value → aH → (Option Value → aH → Prop) → Prop} {tbl : List xI} {rt : Option FieldType} {Qf : Option Value → aH → Prop} {mname : String} {d : Nat}
set_option maxHeartbeats 4000000 in
/-- what M1 does from instruction i on, the JVM does -/
theorem s_walkL {idE : Nat} (hx : p.tables.exec = Jvm.exec) (hb : c.code = cc) (hml : c.maxLocals = nL) (hown : s.vm.findClass own = some m.cls) (hts : ∀ w ∈ GW, w.before args s = true) (hrows : a_rows GW) (henv : ENV s) (hmn : meth.name = mname) (hT : tOKE idE own mname cc MT tbl) (hA : ∀ q, s.heap.size ≤ q → A q) (hsc : a_scr A b xs s s.heap)
    (hRf : d + 1 ≤ R.frames) (hRl : 39 * (d + 1) ≤ R.locals) (IH : ∀ j argsA h1 Q1, j ≠ idE → C j argsA h1 Q1 → ∀ M, MT[j]? = some M → Ctr l D b xs d M argsA h1 Q1) (ad0 : List Nat)
    (hE : ∀ (i : Nat) (x : xI) (idx : Nat) (S S' : List Value) (h1 : aH) (H1 : Heap) (locs1 : List Loc) (ce sl : Nat) (ad1 : List Nat) (ls1 : Array Slot) (M : aM) (Q1 : Option Value → aH → Prop), tbl[i]? = some x → x.1 = .invokestatic idx → x.2.2.2.1 = idE → MT[x.2.2.2.1]? = some M → x.2.2.2.2.1 ≤ S.length → a_words (S.drop x.2.2.2.2.1) ≤ 8 → decode cc x.2.1 = .ok (x.1, 3) → C x.2.2.2.1 (S.take x.2.2.2.2.1).reverse h1 Q1 → World D A b (ad0 ++ ad1) h1 H1 s → va_S A s.heap H1 locs1 → ls1.size = nL → RVs b (ad0 ++ ad1) S S' → ce + M.2.2.2.2.2.1.1 ≤ R.cells → sl + M.2.2.2.2.2.1.2 ≤ R.slots → (∀ (r r' : Option Value) (h' : aH) (ad2 : List Nat) (H2 : Heap) (locs2 : List Loc) (R' : List Value), Q1 r h' → RO b ((ad0 ++ ad1) ++ ad2) r r' → RVs b (ad0 ++ ad1) (S.drop x.2.2.2.2.1) R' → World D A b ((ad0 ++ ad1) ++ ad2) h' H2 s → va_S A s.heap H2 locs2 → W p l e R s m args below meth c H2 locs2 (ce + M.2.2.2.2.2.1.1) (sl + M.2.2.2.2.2.1.2) Q (F0 m (x.2.1 + 3) ls1 (r'.toList ++ R'))) → W p l e R s m args below meth c H1 locs1 ce sl Q (F0 m x.2.1 ls1 S'))
    (hret : ∀ (i : Nat) (x : xI) (S : List Value) (h1 : aH) (r : Option Value) (H1 : Heap) (locs1 : List Loc) (ce sl : Nat) (ad1 : List Nat) (ls1 : Array Slot) (S' : List Value), tbl[i]? = some x → a_ret x.1 rt S = some r → Qf r h1 → World D A b (ad0 ++ ad1) h1 H1 s → va_S A s.heap H1 locs1 → RVs b (ad0 ++ ad1) S S' → ce ≤ R.cells → sl ≤ R.slots → decode cc x.2.1 = .ok (x.1, 1) → W p l e R s m args below meth c H1 locs1 ce sl Q (F0 m x.2.1 ls1 S')) :
    ∀ (n i : Nat) (L : aL) (S : List Value) (h1 : aH) (bc bs : Nat), wp1 xs C MT tbl rt Qf n i L S h1 bc bs → ∀ (H1 : Heap) (locs1 : List Loc) (ce sl : Nat) (ad1 : List Nat) (ls1 : Array Slot) (S' : List Value), World D A b (ad0 ++ ad1) h1 H1 s → va_S A s.heap H1 locs1 → LR b (ad0 ++ ad1) L ls1 → L.length = nL → RVs b (ad0 ++ ad1) S S' → ce + bc = R.cells → sl + bs = R.slots → W p l e R s m args below meth c H1 locs1 ce sl Q (F0 m (pcOf tbl i) ls1 S') := by
  intro n
  induction n with
  | zero => intro i L S h1 bc bs hw; exact hw.elim
  | succ n ih =>
    intro i L S h1 bc bs hw H1 locs1 ce sl ad1 ls1 S' hW hS0 hL hLn hS hce hsl
    unfold wp1 at hw
    split at hw
    · exact hw.elim
    rename_i x hxi
    have hpc : pcOf tbl i = x.2.1 := by unfold pcOf; rw [hxi]
    rw [hpc]
    obtain ⟨o1, o2, o3, o4, o5, o6, o7, o8, o9, o10, o11, o12⟩ := hT i x hxi
    have hls : ls1.size = nL := by rw [hL.1]; exact hLn
    -- a call's continuation
    have aft : ∀ (k : Nat) (M : aM), a_falls x.1 = true → x.2.2.1 = 3 → M.2.2.2.2.2.1.1 ≤ bc → M.2.2.2.2.2.1.2 ≤ bs → ∀ (r r' : Option Value) (h' : aH) (ad2 : List Nat) (H2 : Heap) (locs2 : List Loc) (R' : List Value), wp1 xs C MT tbl rt Qf n (i + 1) L (r.toList ++ S.drop k) h' (bc - M.2.2.2.2.2.1.1) (bs - M.2.2.2.2.2.1.2) → RO b ((ad0 ++ ad1) ++ ad2) r r' → RVs b (ad0 ++ ad1) (S.drop k) R' → World D A b ((ad0 ++ ad1) ++ ad2) h' H2 s → va_S A s.heap H2 locs2 → W p l e R s m args below meth c H2 locs2 (ce + M.2.2.2.2.2.1.1) (sl + M.2.2.2.2.2.1.2) Q (F0 m (x.2.1 + 3) ls1 (r'.toList ++ R')) := by
      intro k M hf h3 hm1 hm2 r r' h' ad2 H2 locs2 R' q1 q2 q3 q4 q5
      have e := o3 hf
      rw [h3] at e
      rw [← e]
      rw [List.append_assoc] at q2 q4
      have q3' : RVs b (ad0 ++ (ad1 ++ ad2)) (S.drop k) R' := by rw [← List.append_assoc]; exact q3.mono
      have hL' : LR b (ad0 ++ (ad1 ++ ad2)) L ls1 := by rw [← List.append_assoc]; exact hL.mono
      exact ih _ _ _ _ _ _ q1 H2 locs2 _ _ (ad1 ++ ad2) ls1 _ q4 q5 hL' hLn (q2.list.app q3') (by omega) (by omega)
    split at hw
    · rename_i idx hins
      obtain ⟨u1, u2, u3, M, u4, u5, u6, u7⟩ := hw
      have h3 : x.2.2.1 = 3 := by rw [o2 (by rw [hins]; rfl), hins]; rfl
      have hf : a_falls x.1 = true := by rw [hins]; rfl
      exact s_call hx hb hml hown hts henv (by rw [h3] at o1; exact o1) u4 rfl u3 u2 (Or.inl ⟨idx, hins, (o9 idx hins).1, u1⟩) hRf hRl (IH _ _ _ _ (o9 idx hins).2 u7 M u4) hW hS0 hA hsc hls hS (by omega) (by omega) (aft _ M hf h3 u5 u6)
    · rename_i idx hins
      have h3 : x.2.2.1 = 3 := by rw [o2 (by rw [hins]; rfl), hins]; rfl
      have hf : a_falls x.1 = true := by rw [hins]; rfl
      have o10' := o10 idx hins
      split at hw
      · rename_i hid
        rw [if_pos hid] at o10'
        obtain ⟨T, h', u1, u2, u3⟩ := hw
        have e := o3 hf
        rw [h3] at e
        refine s_copy (idx := idx) hx hb (by rw [hml, hls]) hown hts o10' (by rw [hins, h3] at o1; exact o1) (by omega) (by omega) hW hS0 u1 u2 hS (fun H2 locs2 T' q1 q2 q3 => ?_)
        rw [← e]
        exact ih _ _ _ _ _ _ u3 H2 locs2 _ _ ad1 ls1 _ q2 q3 hL hLn q1 hce hsl
      · rename_i hid
        rw [if_neg hid] at o10'
        obtain ⟨u2, u3, M, u4, u5, u6, u7⟩ := hw
        by_cases hie : x.2.2.2.1 = idE
        · exact hE i x idx S S' h1 H1 locs1 ce sl ad1 ls1 M _ hxi hins hie u4 u3 u2 (by rw [h3] at o1; exact o1) u7 hW hS0 hls hS (by omega) (by omega) (aft _ M hf h3 u5 u6)
        · rw [if_neg hie] at o10'
          exact s_call hx hb hml hown hts henv (by rw [h3] at o1; exact o1) u4 rfl u3 u2 (Or.inr (Or.inl ⟨idx, hins, o10'⟩)) hRf hRl (IH _ _ _ _ hie u7 M u4) hW hS0 hA hsc hls hS (by omega) (by omega) (aft _ M hf h3 u5 u6)
    · rename_i idx hins
      have h3 : x.2.2.1 = 3 := by rw [o2 (by rw [hins]; rfl), hins]; rfl
      have hf : a_falls x.1 = true := by rw [hins]; rfl
      have o11' := o11 idx hins
      split at hw
      · rename_i hid
        rw [if_pos hid] at o11'
        obtain ⟨v, R1, u1, u2, u3⟩ := hw
        subst u1
        obtain ⟨v', R', rfl, r1, r2⟩ := hS
        obtain ⟨a, rfl⟩ := r1.isRef
        have e := o3 hf
        rw [h3] at e
        have hw8 : (R'.map fun v => v.category).sum ≤ 8 := by rw [r2.words]; exact u2
        refine W.objInit hx hb hown (hts _ o11'.1) (hts _ o11'.2.1) (hts _ o11'.2.2) rfl (by rw [hml]; exact hls) rfl (by rw [hins, h3] at o1; exact o1) (by omega) (by show 2 * 0 + _ + 12 ≤ _; omega) ?_
        refine W.eq (g2 := F0 m (pcOf tbl (i + 1)) ls1 R') (by rw [e]) ?_
        exact ih _ _ _ _ _ _ u3 H1 locs1 _ _ ad1 ls1 _ hW hS0 hL hLn r2 hce hsl
      · rename_i hid
        rw [if_neg hid] at o11'
        obtain ⟨u1, u2, u3, M, u4, u5, u6, u7⟩ := hw
        unfold a_isR at u1
        split at u1
        · rename_i v AsA hvA
          exact s_call hx hb hml hown hts henv (by rw [h3] at o1; exact o1) u4 rfl u3 u2 (Or.inr (Or.inr ⟨idx, v, AsA, hins, o11'.1, hvA⟩)) hRf hRl (IH _ _ _ _ o11'.2 u7 M u4) hW hS0 hA hsc hls hS (by omega) (by omega) (aft _ M hf h3 u5 u6)
        · cases u1
    · rename_i dd lo hi offs hins
      split at hw
      · rename_i v R1
        split at hw
        · rename_i j hj
          obtain ⟨R', rfl, r1⟩ := hS.i1
          obtain ⟨g1, g2⟩ := o12 dd lo hi offs hins
          exact s_sw (pcs := pcOf tbl) hx hb (by rw [hins] at o1; exact o1) g1 g2 hj (ih _ _ _ _ _ _ hw H1 locs1 _ _ ad1 ls1 _ hW hS0 hL hLn r1 hce hsl)
        · exact hw.elim
      · exact hw.elim
    · rename_i n1 n2 n3 n4
      have hsw : a_isSw x.1 = false := by
        unfold a_isSw
        split
        · rename_i hq; exact (n4 _ _ _ _ hq).elim
        · rfl
      have hlen := o2 hsw
      rw [hlen] at o1 o3
      split at hw
      · rename_i r hr
        refine hret i x S h1 r H1 locs1 ce sl ad1 ls1 S' hxi hr hw hW hS0 hS (by omega) (by omega) ?_
        rw [a_ret_len hr] at o1
        exact o1
      split at hw
      · rename_i T hp
        obtain ⟨T', g1, g2⟩ := s_pure (l := l) (e := e) (R := R) (below := below) (meth := meth) (H := H1) (locs := locs1) (cells := ce) (slots := sl) (Q := Q) (ls := ls1) hx hb hown o1 (fun w hw => hts w (o5 w hw)) hp hS
        refine g2 ?_
        rw [← o3 (a_pure_falls hp)]
        exact ih _ _ _ _ _ _ hw H1 locs1 _ _ ad1 ls1 _ hW hS0 hL hLn g1 hce hsl
      split at hw
      · rename_i v hp
        obtain ⟨v', g1, g2⟩ := s_load (l := l) (e := e) (R := R) (s := s) (args := args) (m := m) (below := below) (meth := meth) (H := H1) (locs := locs1) (cells := ce) (slots := sl) (Q := Q) (S' := S') hx hb o1 hp hL
        refine g2 ?_
        rw [← o3 (a_load_falls hp)]
        exact ih _ _ _ _ _ _ hw H1 locs1 _ _ ad1 ls1 _ hW hS0 hL hLn ⟨v', S', rfl, g1, hS⟩ hce hsl
      split at hw
      · rename_i L' T hp
        obtain ⟨T', g1, g2⟩ := s_store (l := l) (e := e) (R := R) (s := s) (args := args) (m := m) (below := below) (meth := meth) (H := H1) (locs := locs1) (cells := ce) (slots := sl) (Q := Q) hx hb o1 hp hL hS
        refine g2 (fun ls2 hL2 => ?_)
        rw [← o3 (a_store_falls hp)]
        exact ih _ _ _ _ _ _ hw H1 locs1 _ _ ad1 ls2 _ hW hS0 hL2 (by rw [a_store_len hp]; exact hLn) g1 hce hsl
      split at hw
      · rename_i t T hp
        obtain ⟨T', g1, g2⟩ := s_br (l := l) (e := e) (R := R) (s := s) (args := args) (m := m) (below := below) (meth := meth) (H := H1) (locs := locs1) (cells := ce) (slots := sl) (Q := Q) (ls := ls1) hx hb o1 (o4 (a_br_jumps hp)) hp hS
        refine g2 ?_
        cases t with
        | true => exact ih _ _ _ _ _ _ hw H1 locs1 _ _ ad1 ls1 _ hW hS0 hL hLn g1 hce hsl
        | false =>
          show W p l e R s m args below meth c H1 locs1 ce sl Q (F0 m (x.2.1 + a_len x.1) ls1 T')
          rw [← o3 (a_br_falls hp)]
          exact ih _ _ _ _ _ _ hw H1 locs1 _ _ ad1 ls1 _ hW hS0 hL hLn g1 hce hsl
      split at hw
      · rename_i T hp
        obtain ⟨T', g1, g2⟩ := s_read (l := l) (e := e) (R := R) (m := m) (below := below) (meth := meth) (cells := ce) (slots := sl) (Q := Q) (ls := ls1) hx hb hown hts hrows o1 o6 hW hS0 hsc hp hS
        refine g2 ?_
        rw [← o3 (a_read_falls hp)]
        exact ih _ _ _ _ _ _ hw H1 locs1 _ _ ad1 ls1 _ hW hS0 hL hLn g1 hce hsl
      split at hw
      · rename_i T h' hp
        obtain ⟨T', g1, g2⟩ := s_write (l := l) (e := e) (R := R) (below := below) (cells := ce) (slots := sl) (Q := Q) (ls := ls1) hx hb hown hts hrows o1 (fun idx hi => by rw [hmn]; exact o7 idx hi) hW hS0 hp hS
        refine g2 (fun H2 locs2 q1 q2 => ?_)
        rw [← o3 (a_write_falls hp)]
        exact ih _ _ _ _ _ _ hw H2 locs2 _ _ ad1 ls1 _ q1 q2 hL hLn g1 hce hsl
      split at hw
      · rename_i T h' kc ks hp
        obtain ⟨u1, u2, u3⟩ := hw
        refine s_make hx hb hown hts hrows o1 (a_mk_of o8 henv) hW hS0 hA hp hS (by omega) (by omega) (fun H2 ad2 T' q1 q2 q3 => ?_)
        rw [← o3 (a_make_falls hp)]
        rw [List.append_assoc] at q1 q3
        have hL' : LR b (ad0 ++ (ad1 ++ ad2)) L ls1 := by rw [← List.append_assoc]; exact hL.mono
        exact ih _ _ _ _ _ _ u3 H2 locs1 _ _ (ad1 ++ ad2) ls1 _ q1 q2 hL' hLn q3 (by omega) (by omega)
      · exact hw.elim
set_option maxHeartbeats 4000000 in
/-- what M1 does from instruction i on, the JVM does -/
theorem s_walkK {skip : Nat → Bool} {K : Nat → aL → List Value → aH → Nat → Nat → (Nat → aL → List Value → aH → Nat → Nat → Prop) → Prop} (hx : p.tables.exec = Jvm.exec) (hb : c.code = cc) (hml : c.maxLocals = nL) (hown : s.vm.findClass own = some m.cls) (hts : ∀ w ∈ GW, w.before args s = true) (hrows : a_rows GW) (henv : ENV s) (hmn : meth.name = mname) (hT : ∀ (i : Nat) (x : xI), skip i = false → tbl[i]? = some x → xOK own mname cc MT tbl i x) (hA : ∀ q, s.heap.size ≤ q → A q) (hsc : a_scr A b xs s s.heap)
    (hRf : d + 1 ≤ R.frames) (hRl : 39 * (d + 1) ≤ R.locals) (IH : ∀ j argsA h1 Q1, C j argsA h1 Q1 → ∀ M, MT[j]? = some M → Ctr l D b xs d M argsA h1 Q1) (ad0 : List Nat)
    (hK : ∀ (cont : Nat → aL → List Value → aH → Nat → Nat → Prop), (∀ (i : Nat) (L : aL) (S : List Value) (h1 : aH) (bc bs : Nat), cont i L S h1 bc bs → ∀ (H1 : Heap) (locs1 : List Loc) (ce sl : Nat) (ad1 : List Nat) (ls1 : Array Slot) (S' : List Value), World D A b (ad0 ++ ad1) h1 H1 s → va_S A s.heap H1 locs1 → LR b (ad0 ++ ad1) L ls1 → L.length = nL → RVs b (ad0 ++ ad1) S S' → ce + bc = R.cells → sl + bs = R.slots → W p l e R s m args below meth c H1 locs1 ce sl Q (F0 m (pcOf tbl i) ls1 S')) → ∀ (i : Nat) (L : aL) (S : List Value) (h1 : aH) (bc bs : Nat), skip i = true → K i L S h1 bc bs cont → ∀ (H1 : Heap) (locs1 : List Loc) (ce sl : Nat) (ad1 : List Nat) (ls1 : Array Slot) (S' : List Value), World D A b (ad0 ++ ad1) h1 H1 s → va_S A s.heap H1 locs1 → LR b (ad0 ++ ad1) L ls1 → L.length = nL → RVs b (ad0 ++ ad1) S S' → ce + bc = R.cells → sl + bs = R.slots → W p l e R s m args below meth c H1 locs1 ce sl Q (F0 m (pcOf tbl i) ls1 S'))
    (hret : ∀ (i : Nat) (x : xI) (S : List Value) (h1 : aH) (r : Option Value) (H1 : Heap) (locs1 : List Loc) (ce sl : Nat) (ad1 : List Nat) (ls1 : Array Slot) (S' : List Value), tbl[i]? = some x → a_ret x.1 rt S = some r → Qf r h1 → World D A b (ad0 ++ ad1) h1 H1 s → va_S A s.heap H1 locs1 → RVs b (ad0 ++ ad1) S S' → ce ≤ R.cells → sl ≤ R.slots → decode cc x.2.1 = .ok (x.1, 1) → W p l e R s m args below meth c H1 locs1 ce sl Q (F0 m x.2.1 ls1 S')) :
    ∀ (n i : Nat) (L : aL) (S : List Value) (h1 : aH) (bc bs : Nat), wpK skip K xs C MT tbl rt Qf n i L S h1 bc bs → ∀ (H1 : Heap) (locs1 : List Loc) (ce sl : Nat) (ad1 : List Nat) (ls1 : Array Slot) (S' : List Value), World D A b (ad0 ++ ad1) h1 H1 s → va_S A s.heap H1 locs1 → LR b (ad0 ++ ad1) L ls1 → L.length = nL → RVs b (ad0 ++ ad1) S S' → ce + bc = R.cells → sl + bs = R.slots → W p l e R s m args below meth c H1 locs1 ce sl Q (F0 m (pcOf tbl i) ls1 S') := by
  intro n
  induction n with
  | zero => intro i L S h1 bc bs hw; exact hw.elim
  | succ n ih =>
    intro i L S h1 bc bs hw H1 locs1 ce sl ad1 ls1 S' hW hS0 hL hLn hS hce hsl
    unfold wpK at hw
    split at hw
    · rename_i hsk
      exact hK _ (fun i L S h1 bc bs hc => ih i L S h1 bc bs hc) i L S h1 bc bs hsk hw H1 locs1 ce sl ad1 ls1 S' hW hS0 hL hLn hS hce hsl
    rename_i hsk
    split at hw
    · exact hw.elim
    rename_i x hxi
    have hpc : pcOf tbl i = x.2.1 := by unfold pcOf; rw [hxi]
    rw [hpc]
    obtain ⟨o1, o2, o3, o4, o5, o6, o7, o8, o9, o10, o11, o12⟩ := hT i x hsk hxi
    have hls : ls1.size = nL := by rw [hL.1]; exact hLn
    -- a call's continuation
    have aft : ∀ (k : Nat) (M : aM), a_falls x.1 = true → x.2.2.1 = 3 → M.2.2.2.2.2.1.1 ≤ bc → M.2.2.2.2.2.1.2 ≤ bs → ∀ (r r' : Option Value) (h' : aH) (ad2 : List Nat) (H2 : Heap) (locs2 : List Loc) (R' : List Value), wpK skip K xs C MT tbl rt Qf n (i + 1) L (r.toList ++ S.drop k) h' (bc - M.2.2.2.2.2.1.1) (bs - M.2.2.2.2.2.1.2) → RO b ((ad0 ++ ad1) ++ ad2) r r' → RVs b (ad0 ++ ad1) (S.drop k) R' → World D A b ((ad0 ++ ad1) ++ ad2) h' H2 s → va_S A s.heap H2 locs2 → W p l e R s m args below meth c H2 locs2 (ce + M.2.2.2.2.2.1.1) (sl + M.2.2.2.2.2.1.2) Q (F0 m (x.2.1 + 3) ls1 (r'.toList ++ R')) := by
      intro k M hf h3 hm1 hm2 r r' h' ad2 H2 locs2 R' q1 q2 q3 q4 q5
      have e := o3 hf
      rw [h3] at e
      rw [← e]
      rw [List.append_assoc] at q2 q4
      have q3' : RVs b (ad0 ++ (ad1 ++ ad2)) (S.drop k) R' := by rw [← List.append_assoc]; exact q3.mono
      have hL' : LR b (ad0 ++ (ad1 ++ ad2)) L ls1 := by rw [← List.append_assoc]; exact hL.mono
      exact ih _ _ _ _ _ _ q1 H2 locs2 _ _ (ad1 ++ ad2) ls1 _ q4 q5 hL' hLn (q2.list.app q3') (by omega) (by omega)
    split at hw
    · rename_i idx hins
      obtain ⟨u1, u2, u3, M, u4, u5, u6, u7⟩ := hw
      have h3 : x.2.2.1 = 3 := by rw [o2 (by rw [hins]; rfl), hins]; rfl
      have hf : a_falls x.1 = true := by rw [hins]; rfl
      exact s_call hx hb hml hown hts henv (by rw [h3] at o1; exact o1) u4 rfl u3 u2 (Or.inl ⟨idx, hins, o9 idx hins, u1⟩) hRf hRl (IH _ _ _ _ u7 M u4) hW hS0 hA hsc hls hS (by omega) (by omega) (aft _ M hf h3 u5 u6)
    · rename_i idx hins
      have h3 : x.2.2.1 = 3 := by rw [o2 (by rw [hins]; rfl), hins]; rfl
      have hf : a_falls x.1 = true := by rw [hins]; rfl
      have o10' := o10 idx hins
      split at hw
      · rename_i hid
        rw [if_pos hid] at o10'
        obtain ⟨T, h', u1, u2, u3⟩ := hw
        have e := o3 hf
        rw [h3] at e
        refine s_copy (idx := idx) hx hb (by rw [hml, hls]) hown hts o10' (by rw [hins, h3] at o1; exact o1) (by omega) (by omega) hW hS0 u1 u2 hS (fun H2 locs2 T' q1 q2 q3 => ?_)
        rw [← e]
        exact ih _ _ _ _ _ _ u3 H2 locs2 _ _ ad1 ls1 _ q2 q3 hL hLn q1 hce hsl
      · rename_i hid
        rw [if_neg hid] at o10'
        obtain ⟨u2, u3, M, u4, u5, u6, u7⟩ := hw
        exact s_call hx hb hml hown hts henv (by rw [h3] at o1; exact o1) u4 rfl u3 u2 (Or.inr (Or.inl ⟨idx, hins, o10'⟩)) hRf hRl (IH _ _ _ _ u7 M u4) hW hS0 hA hsc hls hS (by omega) (by omega) (aft _ M hf h3 u5 u6)
    · rename_i idx hins
      have h3 : x.2.2.1 = 3 := by rw [o2 (by rw [hins]; rfl), hins]; rfl
      have hf : a_falls x.1 = true := by rw [hins]; rfl
      have o11' := o11 idx hins
      split at hw
      · rename_i hid
        rw [if_pos hid] at o11'
        obtain ⟨v, R1, u1, u2, u3⟩ := hw
        subst u1
        obtain ⟨v', R', rfl, r1, r2⟩ := hS
        obtain ⟨a, rfl⟩ := r1.isRef
        have e := o3 hf
        rw [h3] at e
        have hw8 : (R'.map fun v => v.category).sum ≤ 8 := by rw [r2.words]; exact u2
        refine W.objInit hx hb hown (hts _ o11'.1) (hts _ o11'.2.1) (hts _ o11'.2.2) rfl (by rw [hml]; exact hls) rfl (by rw [hins, h3] at o1; exact o1) (by omega) (by show 2 * 0 + _ + 12 ≤ _; omega) ?_
        refine W.eq (g2 := F0 m (pcOf tbl (i + 1)) ls1 R') (by rw [e]) ?_
        exact ih _ _ _ _ _ _ u3 H1 locs1 _ _ ad1 ls1 _ hW hS0 hL hLn r2 hce hsl
      · rename_i hid
        rw [if_neg hid] at o11'
        obtain ⟨u1, u2, u3, M, u4, u5, u6, u7⟩ := hw
        unfold a_isR at u1
        split at u1
        · rename_i v AsA hvA
          exact s_call hx hb hml hown hts henv (by rw [h3] at o1; exact o1) u4 rfl u3 u2 (Or.inr (Or.inr ⟨idx, v, AsA, hins, o11', hvA⟩)) hRf hRl (IH _ _ _ _ u7 M u4) hW hS0 hA hsc hls hS (by omega) (by omega) (aft _ M hf h3 u5 u6)
        · cases u1
    · rename_i dd lo hi offs hins
      split at hw
      · rename_i v R1
        split at hw
        · rename_i j hj
          obtain ⟨R', rfl, r1⟩ := hS.i1
          obtain ⟨g1, g2⟩ := o12 dd lo hi offs hins
          exact s_sw (pcs := pcOf tbl) hx hb (by rw [hins] at o1; exact o1) g1 g2 hj (ih _ _ _ _ _ _ hw H1 locs1 _ _ ad1 ls1 _ hW hS0 hL hLn r1 hce hsl)
        · exact hw.elim
      · exact hw.elim
    · rename_i n1 n2 n3 n4
      have hsw : a_isSw x.1 = false := by
        unfold a_isSw
        split
        · rename_i hq; exact (n4 _ _ _ _ hq).elim
        · rfl
      have hlen := o2 hsw
      rw [hlen] at o1 o3
      split at hw
      · rename_i r hr
        refine hret i x S h1 r H1 locs1 ce sl ad1 ls1 S' hxi hr hw hW hS0 hS (by omega) (by omega) ?_
        rw [a_ret_len hr] at o1
        exact o1
      split at hw
      · rename_i T hp
        obtain ⟨T', g1, g2⟩ := s_pure (l := l) (e := e) (R := R) (below := below) (meth := meth) (H := H1) (locs := locs1) (cells := ce) (slots := sl) (Q := Q) (ls := ls1) hx hb hown o1 (fun w hw => hts w (o5 w hw)) hp hS
        refine g2 ?_
        rw [← o3 (a_pure_falls hp)]
        exact ih _ _ _ _ _ _ hw H1 locs1 _ _ ad1 ls1 _ hW hS0 hL hLn g1 hce hsl
      split at hw
      · rename_i v hp
        obtain ⟨v', g1, g2⟩ := s_load (l := l) (e := e) (R := R) (s := s) (args := args) (m := m) (below := below) (meth := meth) (H := H1) (locs := locs1) (cells := ce) (slots := sl) (Q := Q) (S' := S') hx hb o1 hp hL
        refine g2 ?_
        rw [← o3 (a_load_falls hp)]
        exact ih _ _ _ _ _ _ hw H1 locs1 _ _ ad1 ls1 _ hW hS0 hL hLn ⟨v', S', rfl, g1, hS⟩ hce hsl
      split at hw
      · rename_i L' T hp
        obtain ⟨T', g1, g2⟩ := s_store (l := l) (e := e) (R := R) (s := s) (args := args) (m := m) (below := below) (meth := meth) (H := H1) (locs := locs1) (cells := ce) (slots := sl) (Q := Q) hx hb o1 hp hL hS
        refine g2 (fun ls2 hL2 => ?_)
        rw [← o3 (a_store_falls hp)]
        exact ih _ _ _ _ _ _ hw H1 locs1 _ _ ad1 ls2 _ hW hS0 hL2 (by rw [a_store_len hp]; exact hLn) g1 hce hsl
      split at hw
      · rename_i t T hp
        obtain ⟨T', g1, g2⟩ := s_br (l := l) (e := e) (R := R) (s := s) (args := args) (m := m) (below := below) (meth := meth) (H := H1) (locs := locs1) (cells := ce) (slots := sl) (Q := Q) (ls := ls1) hx hb o1 (o4 (a_br_jumps hp)) hp hS
        refine g2 ?_
        cases t with
        | true => exact ih _ _ _ _ _ _ hw H1 locs1 _ _ ad1 ls1 _ hW hS0 hL hLn g1 hce hsl
        | false =>
          show W p l e R s m args below meth c H1 locs1 ce sl Q (F0 m (x.2.1 + a_len x.1) ls1 T')
          rw [← o3 (a_br_falls hp)]
          exact ih _ _ _ _ _ _ hw H1 locs1 _ _ ad1 ls1 _ hW hS0 hL hLn g1 hce hsl
      split at hw
      · rename_i T hp
        obtain ⟨T', g1, g2⟩ := s_read (l := l) (e := e) (R := R) (m := m) (below := below) (meth := meth) (cells := ce) (slots := sl) (Q := Q) (ls := ls1) hx hb hown hts hrows o1 o6 hW hS0 hsc hp hS
        refine g2 ?_
        rw [← o3 (a_read_falls hp)]
        exact ih _ _ _ _ _ _ hw H1 locs1 _ _ ad1 ls1 _ hW hS0 hL hLn g1 hce hsl
      split at hw
      · rename_i T h' hp
        obtain ⟨T', g1, g2⟩ := s_write (l := l) (e := e) (R := R) (below := below) (cells := ce) (slots := sl) (Q := Q) (ls := ls1) hx hb hown hts hrows o1 (fun idx hi => by rw [hmn]; exact o7 idx hi) hW hS0 hp hS
        refine g2 (fun H2 locs2 q1 q2 => ?_)
        rw [← o3 (a_write_falls hp)]
        exact ih _ _ _ _ _ _ hw H2 locs2 _ _ ad1 ls1 _ q1 q2 hL hLn g1 hce hsl
      split at hw
      · rename_i T h' kc ks hp
        obtain ⟨u1, u2, u3⟩ := hw
        refine s_make hx hb hown hts hrows o1 (a_mk_of o8 henv) hW hS0 hA hp hS (by omega) (by omega) (fun H2 ad2 T' q1 q2 q3 => ?_)
        rw [← o3 (a_make_falls hp)]
        rw [List.append_assoc] at q1 q3
        have hL' : LR b (ad0 ++ (ad1 ++ ad2)) L ls1 := by rw [← List.append_assoc]; exact hL.mono
        exact ih _ _ _ _ _ _ u3 H2 locs1 _ _ (ad1 ++ ad2) ls1 _ q1 q2 hL' hLn q3 (by omega) (by omega)
      · exact hw.elim
end SGL
