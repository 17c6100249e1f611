/-! WITHOUT A COUNT OF STEPS: least fixed points (by program: wip/whole/gen_lfp.py) -/
def F1 (xs : Nat × (Nat → Int32)) (C : Nat → List Value → aH → (Option Value → aH → Prop) → Prop) (MT : List aM) (tbl : List xI) (rt : Option FieldType) (Q : Option Value → aH → Prop) (X : Nat → aL → List Value → aH → Nat → Nat → Prop) (i : Nat) (L : aL) (S : List Value) (h : aH) (bc bs : Nat) : Prop := match tbl[i]? with
    | none => False
    | some x => match x.1 with
      | .invokevirtual _ => a_rcv h x.2.2.2.2.2.1 (S.take x.2.2.2.2.1).reverse = true ∧ a_words (S.drop x.2.2.2.2.1) ≤ 8 ∧ x.2.2.2.2.1 ≤ S.length ∧ ∃ M, MT[x.2.2.2.1]? = some M ∧ M.2.2.2.2.2.1.1 ≤ bc ∧ M.2.2.2.2.2.1.2 ≤ bs ∧ C x.2.2.2.1 (S.take x.2.2.2.2.1).reverse h (fun r h' => X (i + 1) L (r.toList ++ S.drop x.2.2.2.2.1) h' (bc - M.2.2.2.2.2.1.1) (bs - M.2.2.2.2.2.1.2))
      | .invokestatic _ => if x.2.2.2.1 = idCopy then (∃ R h', a_copy S h = some (R, h') ∧ a_words R ≤ 8 ∧ X (i + 1) L R h' bc bs) else
        a_words (S.drop x.2.2.2.2.1) ≤ 8 ∧ x.2.2.2.2.1 ≤ S.length ∧ ∃ M, MT[x.2.2.2.1]? = some M ∧ M.2.2.2.2.2.1.1 ≤ bc ∧ M.2.2.2.2.2.1.2 ≤ bs ∧ C x.2.2.2.1 (S.take x.2.2.2.2.1).reverse h (fun r h' => X (i + 1) L (r.toList ++ S.drop x.2.2.2.2.1) h' (bc - M.2.2.2.2.2.1.1) (bs - M.2.2.2.2.2.1.2))
      | .invokespecial _ => if x.2.2.2.1 = idInit then (∃ v R, S = .ref v :: R ∧ a_words R ≤ 8 ∧ X (i + 1) L R h bc bs) else
        a_isR (S.take x.2.2.2.2.1).reverse = true ∧ a_words (S.drop x.2.2.2.2.1) ≤ 8 ∧ x.2.2.2.2.1 ≤ S.length ∧ ∃ M, MT[x.2.2.2.1]? = some M ∧ M.2.2.2.2.2.1.1 ≤ bc ∧ M.2.2.2.2.2.1.2 ≤ bs ∧ C x.2.2.2.1 (S.take x.2.2.2.2.1).reverse h (fun r h' => X (i + 1) L (r.toList ++ S.drop x.2.2.2.2.1) h' (bc - M.2.2.2.2.2.1.1) (bs - M.2.2.2.2.2.1.2))
      | .tableswitch _ lo hi _ => match S with
        | .int v :: R => (match a_sw lo hi x.2.2.2.2.2.2 v with | some j => X j L R h bc bs | none => False)
        | _ => False
      | _ => match a_ret x.1 rt S with
        | some r => Q r h
        | none => match a_pure x.1 x.2.2.2.2.2.1 S with
          | some R => X (i + 1) L R h bc bs
          | none => match a_load x.1 L with
            | some v => X (i + 1) L (v :: S) h bc bs
            | none => match a_store x.1 L S with
              | some (L', R) => X (i + 1) L' R h bc bs
              | none => match a_br x.1 S with
                | some (b, R) => X (if b then x.2.2.2.1 else i + 1) L R h bc bs
                | none => match a_read xs x S h with
                  | some R => X (i + 1) L R h bc bs
                  | none => match a_write x S h with
                    | some (R, h') => X (i + 1) L R h' bc bs
                    | none => match a_make x S h with
                      | some (R, h', kc, ks) => kc ≤ bc ∧ ks ≤ bs ∧ X (i + 1) L R h' (bc - kc) (bs - ks)
                      | none => False
def W1 (xs : Nat × (Nat → Int32)) (C : Nat → List Value → aH → (Option Value → aH → Prop) → Prop) (T : List aM) (tbl : List xI) (rt : Option FieldType) (Q : Option Value → aH → Prop) (i : Nat) (L : aL) (S : List Value) (h : aH) (bc bs : Nat) : Prop :=
  ∀ X : Nat → aL → List Value → aH → Nat → Nat → Prop, (∀ i L S h bc bs, F1 xs C T tbl rt Q X i L S h bc bs → X i L S h bc bs) → X i L S h bc bs
def callW (xs : Nat × (Nat → Int32)) (T : List aM) (P : Nat → Nat → List Value → aH → (Option Value → aH → Prop) → Prop) : Nat → Nat → List Value → aH → (Option Value → aH → Prop) → Prop
  | 0, j, args, h, Q => P 0 j args h Q
  | d + 1, j, args, h, Q => P (d + 1) j args h Q ∨ ∃ M, T[j]? = some M ∧ args.length = M.2.2.2.2.1 ∧ (a_args args).length ≤ M.2.2.1 ∧ W1 xs (callW xs T P d) T M.2.2.2.2.2.2 M.2.2.2.1 Q 0 (a_locals M.2.2.1 args) [] h M.2.2.2.2.2.1.1 M.2.2.2.2.2.1.2
/-- an instruction that is no call, by its groups -/
theorem f1_plain {xs : Nat × (Nat → Int32)} {C : Nat → List Value → aH → (Option Value → aH → Prop) → Prop} {T : List aM} {tbl : List xI} {rt : Option FieldType} {Q : Option Value → aH → Prop} {X : Nat → aL → List Value → aH → Nat → Nat → Prop} {i : Nat} {L : aL} {S : List Value} {h : aH} {bc bs : Nat} {x : xI} (hx : tbl[i]? = some x) (hp : a_isCall x.1 = false) :
    F1 xs C T tbl rt Q X i L S h bc bs = (match a_ret x.1 rt S with
        | some r => Q r h
        | none => match a_pure x.1 x.2.2.2.2.2.1 S with
          | some R => X (i + 1) L R h bc bs
          | none => match a_load x.1 L with
            | some v => X (i + 1) L (v :: S) h bc bs
            | none => match a_store x.1 L S with
              | some (L', R) => X (i + 1) L' R h bc bs
              | none => match a_br x.1 S with
                | some (b, R) => X (if b then x.2.2.2.1 else i + 1) L R h bc bs
                | none => match a_read xs x S h with
                  | some R => X (i + 1) L R h bc bs
                  | none => match a_write x S h with
                    | some (R, h') => X (i + 1) L R h' bc bs
                    | none => match a_make x S h with
                      | some (R, h', kc, ks) => kc ≤ bc ∧ ks ≤ bs ∧ X (i + 1) L R h' (bc - kc) (bs - ks)
                      | none => False) := by
  unfold F1
  rw [hx]
  dsimp only
  split
  · rename_i e; rw [e] at hp; cases hp
  · rename_i e; rw [e] at hp; cases hp
  · rename_i e; rw [e] at hp; cases hp
  · rename_i e; rw [e] at hp; cases hp
  · rfl
theorem f1_call {xs : Nat × (Nat → Int32)} {C : Nat → List Value → aH → (Option Value → aH → Prop) → Prop} {T : List aM} {tbl : List xI} {rt : Option FieldType} {Q : Option Value → aH → Prop} {X : Nat → aL → List Value → aH → Nat → Nat → Prop} {i : Nat} {L : aL} {S : List Value} {h : aH} {bc bs : Nat} {x : xI} (hx : tbl[i]? = some x) :
    (∀ idx, x.1 = .invokevirtual idx → F1 xs C T tbl rt Q X i L S h bc bs = (a_rcv h x.2.2.2.2.2.1 (S.take x.2.2.2.2.1).reverse = true ∧ a_words (S.drop x.2.2.2.2.1) ≤ 8 ∧ x.2.2.2.2.1 ≤ S.length ∧ ∃ M, T[x.2.2.2.1]? = some M ∧ M.2.2.2.2.2.1.1 ≤ bc ∧ M.2.2.2.2.2.1.2 ≤ bs ∧ C x.2.2.2.1 (S.take x.2.2.2.2.1).reverse h (fun r h' => X (i + 1) L (r.toList ++ S.drop x.2.2.2.2.1) h' (bc - M.2.2.2.2.2.1.1) (bs - M.2.2.2.2.2.1.2)))) ∧
    (∀ idx, x.1 = .invokestatic idx → F1 xs C T tbl rt Q X i L S h bc bs = (if x.2.2.2.1 = idCopy then (∃ R h', a_copy S h = some (R, h') ∧ a_words R ≤ 8 ∧ X (i + 1) L R h' bc bs) else a_words (S.drop x.2.2.2.2.1) ≤ 8 ∧ x.2.2.2.2.1 ≤ S.length ∧ ∃ M, T[x.2.2.2.1]? = some M ∧ M.2.2.2.2.2.1.1 ≤ bc ∧ M.2.2.2.2.2.1.2 ≤ bs ∧ C x.2.2.2.1 (S.take x.2.2.2.2.1).reverse h (fun r h' => X (i + 1) L (r.toList ++ S.drop x.2.2.2.2.1) h' (bc - M.2.2.2.2.2.1.1) (bs - M.2.2.2.2.2.1.2)))) ∧
    (∀ idx, x.1 = .invokespecial idx → F1 xs C T tbl rt Q X i L S h bc bs = (if x.2.2.2.1 = idInit then (∃ v R, S = .ref v :: R ∧ a_words R ≤ 8 ∧ X (i + 1) L R h bc bs) else a_isR (S.take x.2.2.2.2.1).reverse = true ∧ a_words (S.drop x.2.2.2.2.1) ≤ 8 ∧ x.2.2.2.2.1 ≤ S.length ∧ ∃ M, T[x.2.2.2.1]? = some M ∧ M.2.2.2.2.2.1.1 ≤ bc ∧ M.2.2.2.2.2.1.2 ≤ bs ∧ C x.2.2.2.1 (S.take x.2.2.2.2.1).reverse h (fun r h' => X (i + 1) L (r.toList ++ S.drop x.2.2.2.2.1) h' (bc - M.2.2.2.2.2.1.1) (bs - M.2.2.2.2.2.1.2)))) ∧
    (∀ d lo hi offs, x.1 = .tableswitch d lo hi offs → F1 xs C T tbl rt Q X i L S h bc bs = (match S with
        | .int v :: R => (match a_sw lo hi x.2.2.2.2.2.2 v with | some j => X j L R h bc bs | none => False)
        | _ => False)) := by
  unfold F1
  rw [hx]
  dsimp only
  refine ⟨fun idx e => ?_, fun idx e => ?_, fun idx e => ?_, fun d lo hi offs e => ?_⟩
  · rw [e]
  · rw [e]
  · rw [e]
  · rw [e]
theorem F1_mono {xs : Nat × (Nat → Int32)} {C : Nat → List Value → aH → (Option Value → aH → Prop) → Prop} {T : List aM} {tbl : List xI} {rt : Option FieldType} {Q Q' : Option Value → aH → Prop} {X X' : Nat → aL → List Value → aH → Nat → Nat → Prop} (hC : ∀ j a h Q Q', (∀ r h', Q r h' → Q' r h') → C j a h Q → C j a h Q') (hQ : ∀ r h, Q r h → Q' r h) (hX : ∀ i L S h bc bs, X i L S h bc bs → X' i L S h bc bs) {i : Nat} {L : aL} {S : List Value} {h : aH} {bc bs : Nat} (hw : F1 xs C T tbl rt Q X i L S h bc bs) : F1 xs C T tbl rt Q' X' i L S h bc bs := by
    cases hx : tbl[i]? with
    | none => unfold F1 at hw; rw [hx] at hw; exact hw.elim
    | some x =>
      cases hc : a_isCall x.1 with
      | false =>
        rw [f1_plain hx hc] at hw ⊢
        split at hw
        · rename_i r e; exact hQ _ _ hw
        split at hw
        · rename_i r e; exact hX _ _ _ _ _ _ hw
        split at hw
        · rename_i r e; exact hX _ _ _ _ _ _ hw
        split at hw
        · rename_i L' r e; exact hX _ _ _ _ _ _ hw
        split at hw
        · rename_i t r e; exact hX _ _ _ _ _ _ hw
        split at hw
        · rename_i r e; exact hX _ _ _ _ _ _ hw
        split at hw
        · rename_i r h' e; exact hX _ _ _ _ _ _ hw
        split at hw
        · rename_i r h' kc ks e; exact ⟨hw.1, hw.2.1, hX _ _ _ _ _ _ hw.2.2⟩
        · exact hw.elim
      | true =>
        have c1 := f1_call (xs := xs) (C := C) (T := T) (rt := rt) (Q := Q) (X := X) (L := L) (S := S) (h := h) (bc := bc) (bs := bs) hx
        have c2 := f1_call (xs := xs) (C := C) (T := T) (rt := rt) (Q := Q') (X := X') (L := L) (S := S) (h := h) (bc := bc) (bs := bs) hx
        cases e : x.1 <;> (rw [e] at hc) <;> try (cases hc; done)
        · rw [c1.2.2.1 _ e] at hw
          rw [c2.2.2.1 _ e]
          split
          · rename_i q
            rw [if_pos q] at hw
            obtain ⟨v, R, u1, u2, u3⟩ := hw
            exact ⟨v, R, u1, u2, hX _ _ _ _ _ _ u3⟩
          · rename_i q
            rw [if_neg q] at hw
            obtain ⟨u1, u2, u3, M, u4, u5, u6, u7⟩ := hw
            exact ⟨u1, u2, u3, M, u4, u5, u6, hC _ _ _ _ _ (fun r h' z => hX _ _ _ _ _ _ z) u7⟩
        · rw [c1.2.1 _ e] at hw
          rw [c2.2.1 _ e]
          split
          · rename_i q
            rw [if_pos q] at hw
            obtain ⟨R, h', u1, u2, u3⟩ := hw
            exact ⟨R, h', u1, u2, hX _ _ _ _ _ _ u3⟩
          · rename_i q
            rw [if_neg q] at hw
            obtain ⟨u2, u3, M, u4, u5, u6, u7⟩ := hw
            exact ⟨u2, u3, M, u4, u5, u6, hC _ _ _ _ _ (fun r h' z => hX _ _ _ _ _ _ z) u7⟩
        · rw [c1.1 _ e] at hw
          rw [c2.1 _ e]
          obtain ⟨u1, u2, u3, M, u4, u5, u6, u7⟩ := hw
          exact ⟨u1, u2, u3, M, u4, u5, u6, hC _ _ _ _ _ (fun r h' z => hX _ _ _ _ _ _ z) u7⟩
        · rw [c1.2.2.2 _ _ _ _ e] at hw
          rw [c2.2.2.2 _ _ _ _ e]
          split at hw
          · split at hw
            · rename_i j ej
              exact hX _ _ _ _ _ _ hw
            · exact hw.elim
          · exact hw.elim
theorem W1_fold {xs : Nat × (Nat → Int32)} {C : Nat → List Value → aH → (Option Value → aH → Prop) → Prop} {T : List aM} {tbl : List xI} {rt : Option FieldType} {Q : Option Value → aH → Prop} (hC : ∀ j a h Q Q', (∀ r h', Q r h' → Q' r h') → C j a h Q → C j a h Q') {i : Nat} {L : aL} {S : List Value} {h : aH} {bc bs : Nat} (hw : F1 xs C T tbl rt Q (W1 xs C T tbl rt Q) i L S h bc bs) : W1 xs C T tbl rt Q i L S h bc bs :=
  fun X hX => hX _ _ _ _ _ _ (F1_mono hC (fun _ _ q => q) (fun _ _ _ _ _ _ q => q X hX) hw)
theorem W1_mono {xs : Nat × (Nat → Int32)} {C : Nat → List Value → aH → (Option Value → aH → Prop) → Prop} {T : List aM} {tbl : List xI} {rt : Option FieldType} {Q Q' : Option Value → aH → Prop} (hC : ∀ j a h Q Q', (∀ r h', Q r h' → Q' r h') → C j a h Q → C j a h Q') (hQ : ∀ r h, Q r h → Q' r h) {i : Nat} {L : aL} {S : List Value} {h : aH} {bc bs : Nat} (hw : W1 xs C T tbl rt Q i L S h bc bs) : W1 xs C T tbl rt Q' i L S h bc bs :=
  fun X hX => hw X (fun _ _ _ _ _ _ q => hX _ _ _ _ _ _ (F1_mono hC hQ (fun _ _ _ _ _ _ z => z) q))
theorem callW_mono {xs : Nat × (Nat → Int32)} {T : List aM} {P : Nat → Nat → List Value → aH → (Option Value → aH → Prop) → Prop} (hP : ∀ d j a h Q Q', (∀ r h', Q r h' → Q' r h') → P d j a h Q → P d j a h Q') : ∀ (d j : Nat) a h Q Q', (∀ r h', Q r h' → Q' r h') → callW xs T P d j a h Q → callW xs T P d j a h Q'
  | 0, j, a, h, Q, Q', hq, hc => hP 0 j a h Q Q' hq hc
  | d + 1, j, a, h, Q, Q', hq, hc => by
    rcases hc with hc | ⟨M, h1, h2, h3, h4⟩
    · exact Or.inl (hP _ _ _ _ _ _ hq hc)
    · exact Or.inr ⟨M, h1, h2, h3, W1_mono (callW_mono hP d) hq h4⟩
def SimW (p : Program) (l : Launch) (e : Env) (R : Room) (s : State) (m : MethodId) (args : Array Value) (below : List Frame) (meth : Method) (c : Code) (Q : State → Prop) (D : va_G) (A : Nat → Prop) (b : Nat) (ad0 : List Nat) (nL : Nat) (tbl : List xI) (i : Nat) (L : aL) (S : List Value) (h1 : aH) (bc bs : Nat) : Prop :=
  ∀ (H1 : Heap) (locs1 : List Loc) (ce sl : Nat) (ad1 : List Nat) (ls1 : Array Slot) (S' : List Value), World D A b (ad0 ++ ad1) h1 H1 s → va_S A s.heap H1 locs1 → LR b (ad0 ++ ad1) L ls1 → L.length = nL → RVs b (ad0 ++ ad1) S S' → ce + bc = R.cells → sl + bs = R.slots → W p l e R s m args below meth c H1 locs1 ce sl Q (F0 m (pcOf tbl i) ls1 S')
section SGW
variable {p : Program} {l : Launch} {e : Env} {R : Room} {s : State} {m : MethodId} {args : Array Value} {below : List Frame} {meth : Method} {c : Code} {Q : State → Prop}
variable {cc : ByteArray} {nL : Nat} {b : Nat} {own : String} {D : va_G} {A : Nat → Prop} {xs : Nat × (Nat → Int32)}
variable {MT : List aM} {C : Nat → List Value → aH → (Option Value → aH → Prop) → Prop} {tbl : List xI} {rt : Option FieldType} {Qf : Option Value → aH → Prop} {mname : String} {d : Nat}
set_option maxHeartbeats 4000000 in
/-- what M1 does from instruction i on, the JVM does -/
theorem s_walkW (hx : p.tables.exec = Jvm.exec) (hb : c.code = cc) (hml : c.maxLocals = nL) (hown : s.vm.findClass own = some m.cls) (hts : ∀ w ∈ GW, w.before args s = true) (hrows : a_rows GW) (henv : ENV s) (hmn : meth.name = mname) (hT : tOK own mname cc MT tbl) (hA : ∀ q, s.heap.size ≤ q → A q) (hsc : a_scr A b xs s s.heap)
    (hRf : d + 1 ≤ R.frames) (hRl : 39 * (d + 1) ≤ R.locals) (IH : ∀ j argsA h1 Q1, C j argsA h1 Q1 → ∀ M, MT[j]? = some M → Ctr l D b xs d M argsA h1 Q1) (ad0 : List Nat)
    (hret : ∀ (i : Nat) (x : xI) (S : List Value) (h1 : aH) (r : Option Value) (H1 : Heap) (locs1 : List Loc) (ce sl : Nat) (ad1 : List Nat) (ls1 : Array Slot) (S' : List Value), tbl[i]? = some x → a_ret x.1 rt S = some r → Qf r h1 → World D A b (ad0 ++ ad1) h1 H1 s → va_S A s.heap H1 locs1 → RVs b (ad0 ++ ad1) S S' → ce ≤ R.cells → sl ≤ R.slots → decode cc x.2.1 = .ok (x.1, 1) → W p l e R s m args below meth c H1 locs1 ce sl Q (F0 m x.2.1 ls1 S')) :
    ∀ (i : Nat) (L : aL) (S : List Value) (h1 : aH) (bc bs : Nat), W1 xs C MT tbl rt Qf i L S h1 bc bs → SimW p l e R s m args below meth c Q D A b ad0 nL tbl i L S h1 bc bs := by
    intro i L S h1 bc bs hw
    refine hw (SimW p l e R s m args below meth c Q D A b ad0 nL tbl) ?_
    clear hw
    clear i L S h1 bc bs
    intro i L S h1 bc bs hw H1 locs1 ce sl ad1 ls1 S' hW hS0 hL hLn hS hce hsl
    unfold F1 at hw
    split at hw
    · exact hw.elim
    rename_i x hxi
    have hpc : pcOf tbl i = x.2.1 := by unfold pcOf; rw [hxi]
    rw [hpc]
    obtain ⟨o1, o2, o3, o4, o5, o6, o7, o8, o9, o10, o11, o12⟩ := hT i x hxi
    have hls : ls1.size = nL := by rw [hL.1]; exact hLn
    -- a call's continuation
    have aft : ∀ (k : Nat) (M : aM), a_falls x.1 = true → x.2.2.1 = 3 → M.2.2.2.2.2.1.1 ≤ bc → M.2.2.2.2.2.1.2 ≤ bs → ∀ (r r' : Option Value) (h' : aH) (ad2 : List Nat) (H2 : Heap) (locs2 : List Loc) (R' : List Value), SimW p l e R s m args below meth c Q D A b ad0 nL tbl (i + 1) L (r.toList ++ S.drop k) h' (bc - M.2.2.2.2.2.1.1) (bs - M.2.2.2.2.2.1.2) → RO b ((ad0 ++ ad1) ++ ad2) r r' → RVs b (ad0 ++ ad1) (S.drop k) R' → World D A b ((ad0 ++ ad1) ++ ad2) h' H2 s → va_S A s.heap H2 locs2 → W p l e R s m args below meth c H2 locs2 (ce + M.2.2.2.2.2.1.1) (sl + M.2.2.2.2.2.1.2) Q (F0 m (x.2.1 + 3) ls1 (r'.toList ++ R')) := by
      intro k M hf h3 hm1 hm2 r r' h' ad2 H2 locs2 R' q1 q2 q3 q4 q5
      have e := o3 hf
      rw [h3] at e
      rw [← e]
      rw [List.append_assoc] at q2 q4
      have q3' : RVs b (ad0 ++ (ad1 ++ ad2)) (S.drop k) R' := by rw [← List.append_assoc]; exact q3.mono
      have hL' : LR b (ad0 ++ (ad1 ++ ad2)) L ls1 := by rw [← List.append_assoc]; exact hL.mono
      exact q1 H2 locs2 _ _ (ad1 ++ ad2) ls1 _ q4 q5 hL' hLn (q2.list.app q3') (by omega) (by omega)
    split at hw
    · rename_i idx hins
      obtain ⟨u1, u2, u3, M, u4, u5, u6, u7⟩ := hw
      have h3 : x.2.2.1 = 3 := by rw [o2 (by rw [hins]; rfl), hins]; rfl
      have hf : a_falls x.1 = true := by rw [hins]; rfl
      exact s_call hx hb hml hown hts henv (by rw [h3] at o1; exact o1) u4 rfl u3 u2 (Or.inl ⟨idx, hins, o9 idx hins, u1⟩) hRf hRl (IH _ _ _ _ u7 M u4) hW hS0 hA hsc hls hS (by omega) (by omega) (aft _ M hf h3 u5 u6)
    · rename_i idx hins
      have h3 : x.2.2.1 = 3 := by rw [o2 (by rw [hins]; rfl), hins]; rfl
      have hf : a_falls x.1 = true := by rw [hins]; rfl
      have o10' := o10 idx hins
      split at hw
      · rename_i hid
        rw [if_pos hid] at o10'
        obtain ⟨T, h', u1, u2, u3⟩ := hw
        have e := o3 hf
        rw [h3] at e
        refine s_copy (idx := idx) hx hb (by rw [hml, hls]) hown hts o10' (by rw [hins, h3] at o1; exact o1) (by omega) (by omega) hW hS0 u1 u2 hS (fun H2 locs2 T' q1 q2 q3 => ?_)
        rw [← e]
        exact u3 H2 locs2 _ _ ad1 ls1 _ q2 q3 hL hLn q1 hce hsl
      · rename_i hid
        rw [if_neg hid] at o10'
        obtain ⟨u2, u3, M, u4, u5, u6, u7⟩ := hw
        exact s_call hx hb hml hown hts henv (by rw [h3] at o1; exact o1) u4 rfl u3 u2 (Or.inr (Or.inl ⟨idx, hins, o10'⟩)) hRf hRl (IH _ _ _ _ u7 M u4) hW hS0 hA hsc hls hS (by omega) (by omega) (aft _ M hf h3 u5 u6)
    · rename_i idx hins
      have h3 : x.2.2.1 = 3 := by rw [o2 (by rw [hins]; rfl), hins]; rfl
      have hf : a_falls x.1 = true := by rw [hins]; rfl
      have o11' := o11 idx hins
      split at hw
      · rename_i hid
        rw [if_pos hid] at o11'
        obtain ⟨v, R1, u1, u2, u3⟩ := hw
        subst u1
        obtain ⟨v', R', rfl, r1, r2⟩ := hS
        obtain ⟨a, rfl⟩ := r1.isRef
        have e := o3 hf
        rw [h3] at e
        have hw8 : (R'.map fun v => v.category).sum ≤ 8 := by rw [r2.words]; exact u2
        refine W.objInit hx hb hown (hts _ o11'.1) (hts _ o11'.2.1) (hts _ o11'.2.2) rfl (by rw [hml]; exact hls) rfl (by rw [hins, h3] at o1; exact o1) (by omega) (by show 2 * 0 + _ + 12 ≤ _; omega) ?_
        refine W.eq (g2 := F0 m (pcOf tbl (i + 1)) ls1 R') (by rw [e]) ?_
        exact u3 H1 locs1 _ _ ad1 ls1 _ hW hS0 hL hLn r2 hce hsl
      · rename_i hid
        rw [if_neg hid] at o11'
        obtain ⟨u1, u2, u3, M, u4, u5, u6, u7⟩ := hw
        unfold a_isR at u1
        split at u1
        · rename_i v AsA hvA
          exact s_call hx hb hml hown hts henv (by rw [h3] at o1; exact o1) u4 rfl u3 u2 (Or.inr (Or.inr ⟨idx, v, AsA, hins, o11', hvA⟩)) hRf hRl (IH _ _ _ _ u7 M u4) hW hS0 hA hsc hls hS (by omega) (by omega) (aft _ M hf h3 u5 u6)
        · cases u1
    · rename_i dd lo hi offs hins
      split at hw
      · rename_i v R1
        split at hw
        · rename_i j hj
          obtain ⟨R', rfl, r1⟩ := hS.i1
          obtain ⟨g1, g2⟩ := o12 dd lo hi offs hins
          exact s_sw (pcs := pcOf tbl) hx hb (by rw [hins] at o1; exact o1) g1 g2 hj (hw H1 locs1 _ _ ad1 ls1 _ hW hS0 hL hLn r1 hce hsl)
        · exact hw.elim
      · exact hw.elim
    · rename_i n1 n2 n3 n4
      have hsw : a_isSw x.1 = false := by
        unfold a_isSw
        split
        · rename_i hq; exact (n4 _ _ _ _ hq).elim
        · rfl
      have hlen := o2 hsw
      rw [hlen] at o1 o3
      split at hw
      · rename_i r hr
        refine hret i x S h1 r H1 locs1 ce sl ad1 ls1 S' hxi hr hw hW hS0 hS (by omega) (by omega) ?_
        rw [a_ret_len hr] at o1
        exact o1
      split at hw
      · rename_i T hp
        obtain ⟨T', g1, g2⟩ := s_pure (l := l) (e := e) (R := R) (below := below) (meth := meth) (H := H1) (locs := locs1) (cells := ce) (slots := sl) (Q := Q) (ls := ls1) hx hb hown o1 (fun w hw => hts w (o5 w hw)) hp hS
        refine g2 ?_
        rw [← o3 (a_pure_falls hp)]
        exact hw H1 locs1 _ _ ad1 ls1 _ hW hS0 hL hLn g1 hce hsl
      split at hw
      · rename_i v hp
        obtain ⟨v', g1, g2⟩ := s_load (l := l) (e := e) (R := R) (s := s) (args := args) (m := m) (below := below) (meth := meth) (H := H1) (locs := locs1) (cells := ce) (slots := sl) (Q := Q) (S' := S') hx hb o1 hp hL
        refine g2 ?_
        rw [← o3 (a_load_falls hp)]
        exact hw H1 locs1 _ _ ad1 ls1 _ hW hS0 hL hLn ⟨v', S', rfl, g1, hS⟩ hce hsl
      split at hw
      · rename_i L' T hp
        obtain ⟨T', g1, g2⟩ := s_store (l := l) (e := e) (R := R) (s := s) (args := args) (m := m) (below := below) (meth := meth) (H := H1) (locs := locs1) (cells := ce) (slots := sl) (Q := Q) hx hb o1 hp hL hS
        refine g2 (fun ls2 hL2 => ?_)
        rw [← o3 (a_store_falls hp)]
        exact hw H1 locs1 _ _ ad1 ls2 _ hW hS0 hL2 (by rw [a_store_len hp]; exact hLn) g1 hce hsl
      split at hw
      · rename_i t T hp
        obtain ⟨T', g1, g2⟩ := s_br (l := l) (e := e) (R := R) (s := s) (args := args) (m := m) (below := below) (meth := meth) (H := H1) (locs := locs1) (cells := ce) (slots := sl) (Q := Q) (ls := ls1) hx hb o1 (o4 (a_br_jumps hp)) hp hS
        refine g2 ?_
        cases t with
        | true => exact hw H1 locs1 _ _ ad1 ls1 _ hW hS0 hL hLn g1 hce hsl
        | false =>
          show W p l e R s m args below meth c H1 locs1 ce sl Q (F0 m (x.2.1 + a_len x.1) ls1 T')
          rw [← o3 (a_br_falls hp)]
          exact hw H1 locs1 _ _ ad1 ls1 _ hW hS0 hL hLn g1 hce hsl
      split at hw
      · rename_i T hp
        obtain ⟨T', g1, g2⟩ := s_read (l := l) (e := e) (R := R) (m := m) (below := below) (meth := meth) (cells := ce) (slots := sl) (Q := Q) (ls := ls1) hx hb hown hts hrows o1 o6 hW hS0 hsc hp hS
        refine g2 ?_
        rw [← o3 (a_read_falls hp)]
        exact hw H1 locs1 _ _ ad1 ls1 _ hW hS0 hL hLn g1 hce hsl
      split at hw
      · rename_i T h' hp
        obtain ⟨T', g1, g2⟩ := s_write (l := l) (e := e) (R := R) (below := below) (cells := ce) (slots := sl) (Q := Q) (ls := ls1) hx hb hown hts hrows o1 (fun idx hi => by rw [hmn]; exact o7 idx hi) hW hS0 hp hS
        refine g2 (fun H2 locs2 q1 q2 => ?_)
        rw [← o3 (a_write_falls hp)]
        exact hw H2 locs2 _ _ ad1 ls1 _ q1 q2 hL hLn g1 hce hsl
      split at hw
      · rename_i T h' kc ks hp
        obtain ⟨u1, u2, u3⟩ := hw
        refine s_make hx hb hown hts hrows o1 (a_mk_of o8 henv) hW hS0 hA hp hS (by omega) (by omega) (fun H2 ad2 T' q1 q2 q3 => ?_)
        rw [← o3 (a_make_falls hp)]
        rw [List.append_assoc] at q1 q3
        have hL' : LR b (ad0 ++ (ad1 ++ ad2)) L ls1 := by rw [← List.append_assoc]; exact hL.mono
        exact u3 H2 locs1 _ _ (ad1 ++ ad2) ls1 _ q1 q2 hL' hLn q3 (by omega) (by omega)
      · exact hw.elim
end SGW
set_option maxHeartbeats 4000000 in
theorem snd_callW {l : Launch} {D : va_G} {b : Nat} {xs : Nat × (Nat → Int32)} {MT : List aM} {P : Nat → Nat → List Value → aH → (Option Value → aH → Prop) → Prop} (hrows : a_rows GW) (hMT : ∀ (j : Nat) (M : aM), MT[j]? = some M → mOK MT M)
    (hP : ∀ (d j : Nat) args h Q, P d j args h Q → ∀ M, MT[j]? = some M → Ctr l D b xs d M args h Q) : ∀ (d j : Nat) args h Q, callW xs MT P d j args h Q → ∀ M, MT[j]? = some M → Ctr l D b xs d M args h Q := by
  intro d
  induction d with
  | zero => exact fun j args h Q hc => hP 0 j args h Q hc
  | succ d IH =>
    intro j argsA h Q hc M hM
    rcases hc with hc | ⟨M2, e, hn, hlen, hw⟩
    · exact hP _ _ _ _ _ hc M hM
    rw [hM] at e
    cases e
    obtain ⟨⟨hpl, hp0⟩, hT⟩ := hMT j M hM
    intro ad sz
    refine Met.ofW (cc := M.2.1) (maxL := M.2.2.1) (ret := M.2.2.2.1) (ws' := GW) hpl rfl ?_
    intro p e s m args below meth c s₁ B hml hv
    obtain ⟨args', rfl, hr, hsz, hWd, henv, hX, hbs, hbad⟩ := hv
    have hx := B.exec
    have hb := B.bytes
    have hret := B.returns
    have hts := atoms_spec (ws := wsM M) B.pre
    have hown : s.vm.findClass M.1.cls = some m.cls := findClass_of_methodNamed B.named
    have hmn : meth.name = M.1.name := (name_of_methodNamed B.named B.method).1
    have hlocks := B.notSynchronized
    subst hsz
    have hA : ∀ q, s.heap.size ≤ q → aA ad s.heap.size q := fun q hq => Or.inr hq
    have hsc : a_scr (aA ad s.heap.size) b xs s s.heap := ⟨hX, hbs, fun q => q.elim hbad (fun z => by omega)⟩
    rw [lg_entry_eq]
    have hw0 : World D (aA ad s.heap.size) b (ad ++ []) h s.heap s := by rw [List.append_nil]; exact hWd.weaken (fun q hq => Or.inl hq)
    have key := s_walkW (l := l) (e := e) (R := rmD (d + 1) M) (below := below) (meth := meth) (D := D) (A := aA ad s.heap.size) (Q := MQ below (CtrQ D b Q ad s.heap.size) args'.toArray s M.2.2.2.2.2.1.1 M.2.2.2.2.2.1.2 (aA ad s.heap.size)) (rt := M.2.2.2.1) (Qf := Q) (d := d) (C := callW xs MT P d) hx hb hml hown (fun w hw => hts w (List.mem_cons_of_mem _ hw)) hrows henv hmn hT hA hsc (Nat.le_refl _) (Nat.le_refl _) (fun j a9 h9 Q9 q M9 hM9 => IH j a9 h9 Q9 q M9 hM9) ad ?_ 0 (a_locals M.2.2.1 argsA) [] h M.2.2.2.2.2.1.1 M.2.2.2.2.2.1.2 hw s.heap [] 0 0 [] _ [] hw0 va_S.rf (by rw [List.append_nil]; exact a_locals_LR hr hlen) (a_locals_len hlen) rfl (Nat.zero_add _) (Nat.zero_add _)
    · rw [hp0] at key
      exact key
    · intro i x S h1 r H1 locs1 ce sl ad1 ls1 S' hxi hrt hq hw1 hS1 hSS hce hsl hdec
      refine W.widen (k := M.2.2.2.2.2.1.1) (n := M.2.2.2.2.2.1.2) hce hsl ?_
      have hfree : ∀ q ∈ locs1, aA ad s.heap.size q.base := hS1.2.2
      have post : ∀ (r' : Option Value), RO b (ad ++ ad1) r r' → ∀ t : State, t.heap = H1 → s.WarmedH t.vm → CtrQ D b Q ad s.heap.size args'.toArray s (.returned r') t := fun r' hro t ht hwm =>
        ⟨⟨r, r', h1, ad1, rfl, hq, hro, by rw [ht]; exact (hw1.weaken (B := fun _ => True) (fun _ _ => trivial)).moved hwm.alike, hw1.new⟩, hS1.F ht⟩
      obtain ⟨ins, xr⟩ := x
      dsimp only at hrt hdec ⊢
      cases ins <;> try (simp only [a_ret, reduceCtorEq] at hrt; done)
      case return_ =>
        simp only [a_ret] at hrt
        split at hrt
        · rename_i hq9
          obtain ⟨q1, q2⟩ := hq9
          cases hrt
          subst q2
          rw [show S' = [] from hSS]
          exact W.vret hx hb (by rw [hret]; exact q1) (post none rfl) hfree hdec
        · cases hrt
      case ireturn =>
        simp only [a_ret] at hrt
        split at hrt
        · split at hrt
          · split at hrt
            · rename_i ty hty hnar
              cases hrt
              obtain ⟨R', rfl, r2⟩ := hSS.i1
              rw [show R' = [] from r2]
              exact W.zret hx hb (by rw [hret]; exact hty) hnar (post _ ⟨_, rfl, rfl⟩) hfree hdec
            · cases hrt
          · cases hrt
        · cases hrt
      case lreturn =>
        simp only [a_ret] at hrt
        split at hrt
        · split at hrt
          · rename_i hty
            cases hrt
            obtain ⟨R', rfl, r2⟩ := hSS.l1
            rw [show R' = [] from r2]
            exact W.lret hx hb (by rw [hret]; exact hty) (post _ ⟨_, rfl, rfl⟩) hfree hdec
          · cases hrt
        · cases hrt
      case areturn =>
        simp only [a_ret] at hrt
        split at hrt
        · split at hrt
          · split at hrt
            · rename_i ty hty hnar
              cases hrt
              obtain ⟨v', R', rfl, r1, r2⟩ := hSS
              rw [show R' = [] from r2]
              obtain ⟨a9, rfl⟩ := r1.isRef
              exact W.aret hx hb (by rw [hret]; exact hty) (by cases ty <;> first | exact Or.inl ⟨_, rfl⟩ | exact Or.inr ⟨_, rfl⟩ | (cases hnar)) (Or.inr ⟨_, rfl⟩) (post _ ⟨_, rfl, r1⟩) hfree hdec
            · cases hrt
          · cases hrt
        · cases hrt
section W21F
variable {xs : Nat × (Nat → Int32)} {C2 : Nat → List v2 → Mem → (Option v2 → Mem → Prop) → Prop} {C1 : Nat → List Value → aH → (Option Value → aH → Prop) → Prop} {tbl : List xI} {rt : Option FieldType} {Q2 : Option v2 → Mem → Prop} {Q1 : Option Value → aH → Prop} {go : Nat → L2 → List v2 → Mem → Prop} {cc cs lo ls : Nat} {X : Nat → aL → List Value → aH → Nat → Nat → Prop}
set_option maxHeartbeats 4000000 in
theorem st21F
    (hC : ∀ (j : Nat) args m Q, okS args → C2 j args m Q → ∃ M, MT[j]? = some M ∧ M.2.2.2.2.2.1.1 ≤ cc ∧ M.2.2.2.2.2.1.2 ≤ cs ∧ C1 j (args.map enc) (toH m) (fun r h => ∃ r2 m2, r = r2.map enc ∧ h = toH m2 ∧ (∀ v, r2 = some v → okV v) ∧ Q r2 m2))
    (hmC : ∀ j a h Q Q', (∀ r h', Q r h' → Q' r h') → C1 j a h Q → C1 j a h Q')
    (hQ : ∀ r m, (∀ v, r = some v → okV v) → Q2 r m → Q1 (r.map enc) (toH m))
    (hgo : ∀ (j : Nat) (L : L2) (S : List v2) (m : Mem) (bc bs : Nat), okL L → okS S → lo ≤ bc → ls ≤ bs → go j L S m → X j (mapL L) (S.map enc) (toH m) bc bs)
    {x : xI} {i : Nat} {L : L2} {S : List v2} {m : Mem} {bc bs : Nat} (hx : tbl[i]? = some x) (hL : okL L) (hS : okS S) (hbc : lo + cc ≤ bc) (hbs : ls + cs ≤ bs) (hw : st2 xs C2 rt Q2 go x i L S m) : F1 xs C1 MT tbl rt Q1 X i (mapL L) (S.map enc) (toH m) bc bs := by
    have hbc' : lo ≤ bc := by omega
    have hbs' : ls ≤ bs := by omega
    obtain ⟨ins, pc, len, a, b, z, tg⟩ := x
    unfold st2 at hw
    dsimp only at hw
    -- a call, once its answer is known
    have aft : ∀ (M : aM) (rest : List v2) (kd : Nat), M.2.2.2.2.2.1.1 ≤ cc → M.2.2.2.2.2.1.2 ≤ cs → okS rest → ∀ (r : Option Value) (h : aH), (∃ r2 m2, r = r2.map enc ∧ h = toH m2 ∧ (∀ v, r2 = some v → okV v) ∧ c_ret kd (fun R m' => go (i + 1) L R m') rest r2 m2) → X (i + 1) (mapL L) (r.toList ++ rest.map enc) h (bc - M.2.2.2.2.2.1.1) (bs - M.2.2.2.2.2.1.2) := by
      intro M rest kd q1 q2 hr r h hh
      obtain ⟨r2, m2, rfl, rfl, h3, h4⟩ := hh
      have e : (r2.map enc).toList ++ rest.map enc = (r2.toList ++ rest).map enc := by cases r2 <;> rfl
      rw [e]
      refine hgo _ _ _ _ _ _ hL (fun v hv => ?_) (by omega) (by omega) (c_ret_spec h4)
      rcases List.mem_append.mp hv with q | q
      · cases r2 with
        | none => cases q
        | some w => rw [Option.toList_some, List.mem_singleton] at q; rw [q]; exact h3 w rfl
      · exact hr v q
    have hok0 : ∀ v, (none : Option v2) = some v → okV v := fun v q => by cases q
    cases ins <;> try (exact (show False from hw).elim)
    case iconst n9 =>
      dsimp only at hw
      rw [f1_plain hx rfl]
      exact hgo _ _ _ _ _ _ hL (okS_c (by trivial) hS) hbc' hbs' hw
    case bipush n9 =>
      dsimp only at hw
      rw [f1_plain hx rfl]
      exact hgo _ _ _ _ _ _ hL (okS_c (by trivial) hS) hbc' hbs' hw
    case sipush n9 =>
      dsimp only at hw
      rw [f1_plain hx rfl]
      exact hgo _ _ _ _ _ _ hL (okS_c (by trivial) hS) hbc' hbs' hw
    case lconst n9 =>
      dsimp only at hw
      rw [f1_plain hx rfl]
      exact hgo _ _ _ _ _ _ hL (okS_c (by trivial) hS) hbc' hbs' hw
    case ldc n9 =>
      dsimp only at hw
      rw [f1_plain hx rfl]
      exact hgo _ _ _ _ _ _ hL (okS_c (by trivial) hS) hbc' hbs' hw
    case ldc_w n9 =>
      dsimp only at hw
      rw [f1_plain hx rfl]
      exact hgo _ _ _ _ _ _ hL (okS_c (by trivial) hS) hbc' hbs' hw
    case ldc2_w n9 =>
      dsimp only at hw
      rw [f1_plain hx rfl]
      exact hgo _ _ _ _ _ _ hL (okS_c (by trivial) hS) hbc' hbs' hw
    case iadd =>
      dsimp only at hw
      split at hw
      · rw [f1_plain hx rfl]
        exact hgo _ _ _ _ _ _ hL (okS_c (by trivial) (okS_t (okS_t hS))) hbc' hbs' hw
      · exact hw.elim
    case isub =>
      dsimp only at hw
      split at hw
      · rw [f1_plain hx rfl]
        exact hgo _ _ _ _ _ _ hL (okS_c (by trivial) (okS_t (okS_t hS))) hbc' hbs' hw
      · exact hw.elim
    case imul =>
      dsimp only at hw
      split at hw
      · rw [f1_plain hx rfl]
        exact hgo _ _ _ _ _ _ hL (okS_c (by trivial) (okS_t (okS_t hS))) hbc' hbs' hw
      · exact hw.elim
    case iand =>
      dsimp only at hw
      split at hw
      · rw [f1_plain hx rfl]
        exact hgo _ _ _ _ _ _ hL (okS_c (by trivial) (okS_t (okS_t hS))) hbc' hbs' hw
      · exact hw.elim
    case ior =>
      dsimp only at hw
      split at hw
      · rw [f1_plain hx rfl]
        exact hgo _ _ _ _ _ _ hL (okS_c (by trivial) (okS_t (okS_t hS))) hbc' hbs' hw
      · exact hw.elim
    case ixor =>
      dsimp only at hw
      split at hw
      · rw [f1_plain hx rfl]
        exact hgo _ _ _ _ _ _ hL (okS_c (by trivial) (okS_t (okS_t hS))) hbc' hbs' hw
      · exact hw.elim
    case ishl =>
      dsimp only at hw
      split at hw
      · rw [f1_plain hx rfl]
        exact hgo _ _ _ _ _ _ hL (okS_c (by trivial) (okS_t (okS_t hS))) hbc' hbs' hw
      · exact hw.elim
    case ishr =>
      dsimp only at hw
      split at hw
      · rw [f1_plain hx rfl]
        exact hgo _ _ _ _ _ _ hL (okS_c (by trivial) (okS_t (okS_t hS))) hbc' hbs' hw
      · exact hw.elim
    case iushr =>
      dsimp only at hw
      split at hw
      · rw [f1_plain hx rfl]
        exact hgo _ _ _ _ _ _ hL (okS_c (by trivial) (okS_t (okS_t hS))) hbc' hbs' hw
      · exact hw.elim
    case ladd =>
      dsimp only at hw
      split at hw
      · rw [f1_plain hx rfl]
        exact hgo _ _ _ _ _ _ hL (okS_c (by trivial) (okS_t (okS_t hS))) hbc' hbs' hw
      · exact hw.elim
    case lsub =>
      dsimp only at hw
      split at hw
      · rw [f1_plain hx rfl]
        exact hgo _ _ _ _ _ _ hL (okS_c (by trivial) (okS_t (okS_t hS))) hbc' hbs' hw
      · exact hw.elim
    case lmul =>
      dsimp only at hw
      split at hw
      · rw [f1_plain hx rfl]
        exact hgo _ _ _ _ _ _ hL (okS_c (by trivial) (okS_t (okS_t hS))) hbc' hbs' hw
      · exact hw.elim
    case lor =>
      dsimp only at hw
      split at hw
      · rw [f1_plain hx rfl]
        exact hgo _ _ _ _ _ _ hL (okS_c (by trivial) (okS_t (okS_t hS))) hbc' hbs' hw
      · exact hw.elim
    case lshl =>
      dsimp only at hw
      split at hw
      · rw [f1_plain hx rfl]
        exact hgo _ _ _ _ _ _ hL (okS_c (by trivial) (okS_t (okS_t hS))) hbc' hbs' hw
      · exact hw.elim
    case lcmp =>
      dsimp only at hw
      split at hw
      · rw [f1_plain hx rfl]
        exact hgo _ _ _ _ _ _ hL (okS_c (by trivial) (okS_t (okS_t hS))) hbc' hbs' hw
      · exact hw.elim
    case lneg =>
      dsimp only at hw
      split at hw
      · rw [f1_plain hx rfl]
        exact hgo _ _ _ _ _ _ hL (okS_c (by trivial) (okS_t hS)) hbc' hbs' hw
      · exact hw.elim
    case i2l =>
      dsimp only at hw
      split at hw
      · rw [f1_plain hx rfl]
        exact hgo _ _ _ _ _ _ hL (okS_c (by trivial) (okS_t hS)) hbc' hbs' hw
      · exact hw.elim
    case l2i =>
      dsimp only at hw
      split at hw
      · rw [f1_plain hx rfl]
        exact hgo _ _ _ _ _ _ hL (okS_c (by trivial) (okS_t hS)) hbc' hbs' hw
      · exact hw.elim
    case idiv =>
      dsimp only at hw
      split at hw
      · rename_i y x R
        obtain ⟨h0, hw⟩ := hw
        have e : a_pure .idiv z ((vI y :: vI x :: R).map enc) = some (.int (x / y) :: R.map enc) := by
          show (if y = 0 then none else some _) = _
          rw [if_neg h0]
        rw [f1_plain hx rfl]
        simp only [a_ret, e]
        exact hgo _ _ _ _ _ _ hL (okS_c (by trivial) (okS_t (okS_t hS))) hbc' hbs' hw
      · exact hw.elim
    case irem =>
      dsimp only at hw
      split at hw
      · rename_i y x R
        obtain ⟨h0, hw⟩ := hw
        have e : a_pure .irem z ((vI y :: vI x :: R).map enc) = some (.int (x - x / y * y) :: R.map enc) := by
          show (if y = 0 then none else some _) = _
          rw [if_neg h0]
        rw [f1_plain hx rfl]
        simp only [a_ret, e]
        exact hgo _ _ _ _ _ _ hL (okS_c (by trivial) (okS_t (okS_t hS))) hbc' hbs' hw
      · exact hw.elim
    case ldiv =>
      dsimp only at hw
      split at hw
      · rename_i y x R
        obtain ⟨h0, hw⟩ := hw
        have e : a_pure .ldiv z ((vL y :: vL x :: R).map enc) = some (.long (x / y) :: R.map enc) := by
          show (if y = 0 then none else some _) = _
          rw [if_neg h0]
        rw [f1_plain hx rfl]
        simp only [a_ret, e]
        exact hgo _ _ _ _ _ _ hL (okS_c (by trivial) (okS_t (okS_t hS))) hbc' hbs' hw
      · exact hw.elim
    case lrem =>
      dsimp only at hw
      split at hw
      · rename_i y x R
        obtain ⟨h0, hw⟩ := hw
        have e : a_pure .lrem z ((vL y :: vL x :: R).map enc) = some (.long (x - x / y * y) :: R.map enc) := by
          show (if y = 0 then none else some _) = _
          rw [if_neg h0]
        rw [f1_plain hx rfl]
        simp only [a_ret, e]
        exact hgo _ _ _ _ _ _ hL (okS_c (by trivial) (okS_t (okS_t hS))) hbc' hbs' hw
      · exact hw.elim
    case dup =>
      dsimp only at hw
      split at hw
      · rw [f1_plain hx rfl]
        exact hgo _ _ _ _ _ _ hL (okS_c (by trivial) (okS_c (by trivial) (okS_t hS))) hbc' hbs' hw
      · rw [f1_plain hx rfl]
        exact hgo _ _ _ _ _ _ hL (okS_c (okS_h hS) hS) hbc' hbs' hw
      · exact hw.elim
    case pop =>
      dsimp only at hw
      split at hw
      · rw [f1_plain hx rfl]
        exact hgo _ _ _ _ _ _ hL (okS_t hS) hbc' hbs' hw
      · rw [f1_plain hx rfl]
        exact hgo _ _ _ _ _ _ hL (okS_t hS) hbc' hbs' hw
      · exact hw.elim
    case dup2 =>
      dsimp only at hw
      split at hw
      · rename_i x v R
        have e : a_pure .dup2 z ((vL x :: v :: R).map enc) = some ((vL x :: vL x :: v :: R).map enc) := rfl
        rw [f1_plain hx rfl]
        simp only [a_ret, e]
        exact hgo _ _ _ _ _ _ hL (okS_c (by trivial) hS) hbc' hbs' hw
      · rw [f1_plain hx rfl]
        exact hgo _ _ _ _ _ _ hL (okS_c (by trivial) (okS_c (okS_h (okS_t hS)) hS)) hbc' hbs' hw
      · exact hw.elim
    case iload k9 =>
      dsimp only at hw
      split at hw
      · rename_i x e
        have e2 : a_load (.iload k9) (mapL L) = some (enc (vI x)) := by simp only [a_load, l_get_map, e]; rfl
        rw [f1_plain hx rfl]
        simp only [a_ret, a_pure, e2]
        exact hgo _ _ _ _ _ _ hL (okS_c (by trivial) hS) hbc' hbs' hw
      · exact hw.elim
    case iload_n k9 =>
      dsimp only at hw
      split at hw
      · rename_i x e
        have e2 : a_load (.iload_n k9) (mapL L) = some (enc (vI x)) := by simp only [a_load, l_get_map, e]; rfl
        rw [f1_plain hx rfl]
        simp only [a_ret, a_pure, e2]
        exact hgo _ _ _ _ _ _ hL (okS_c (by trivial) hS) hbc' hbs' hw
      · exact hw.elim
    case lload k9 =>
      dsimp only at hw
      split at hw
      · rename_i x e
        have e2 : a_load (.lload k9) (mapL L) = some (enc (vL x)) := by simp only [a_load, l_get_map, e]; rfl
        rw [f1_plain hx rfl]
        simp only [a_ret, a_pure, e2]
        exact hgo _ _ _ _ _ _ hL (okS_c (by trivial) hS) hbc' hbs' hw
      · exact hw.elim
    case lload_n k9 =>
      dsimp only at hw
      split at hw
      · rename_i x e
        have e2 : a_load (.lload_n k9) (mapL L) = some (enc (vL x)) := by simp only [a_load, l_get_map, e]; rfl
        rw [f1_plain hx rfl]
        simp only [a_ret, a_pure, e2]
        exact hgo _ _ _ _ _ _ hL (okS_c (by trivial) hS) hbc' hbs' hw
      · exact hw.elim
    case aload k9 =>
      dsimp only at hw
      split at hw
      · rename_i t q e
        have e2 : a_load (.aload k9) (mapL L) = some (enc (vR t q)) := by simp only [a_load, l_get_map, e]; rfl
        rw [f1_plain hx rfl]
        simp only [a_ret, a_pure, e2]
        exact hgo _ _ _ _ _ _ hL (okS_c (okL_get hL e) hS) hbc' hbs' hw
      · exact hw.elim
    case aload_n k9 =>
      dsimp only at hw
      split at hw
      · rename_i t q e
        have e2 : a_load (.aload_n k9) (mapL L) = some (enc (vR t q)) := by simp only [a_load, l_get_map, e]; rfl
        rw [f1_plain hx rfl]
        simp only [a_ret, a_pure, e2]
        exact hgo _ _ _ _ _ _ hL (okS_c (okL_get hL e) hS) hbc' hbs' hw
      · exact hw.elim
    case istore k9 =>
      dsimp only at hw
      split at hw
      · rename_i x R
        obtain ⟨hk, hw⟩ := b_if_spec hw
        rw [decide_eq_true_eq] at hk
        have e2 : a_store (.istore k9) (mapL L) ((vI x :: R).map enc) = some (mapL (l_set1 L k9 (vI x)), R.map enc) := by
          rw [l_set1_map]
          simp only [a_store, List.map_cons, enc, mapL_len]
          rw [if_pos hk]
        rw [f1_plain hx rfl]
        simp only [a_ret, a_pure, a_load, e2]
        exact hgo _ _ _ _ _ _ (okL_set1 hL (by trivial)) (okS_t hS) hbc' hbs' hw
      · exact hw.elim
    case istore_n k9 =>
      dsimp only at hw
      split at hw
      · rename_i x R
        obtain ⟨hk, hw⟩ := b_if_spec hw
        rw [decide_eq_true_eq] at hk
        have e2 : a_store (.istore_n k9) (mapL L) ((vI x :: R).map enc) = some (mapL (l_set1 L k9 (vI x)), R.map enc) := by
          rw [l_set1_map]
          simp only [a_store, List.map_cons, enc, mapL_len]
          rw [if_pos hk]
        rw [f1_plain hx rfl]
        simp only [a_ret, a_pure, a_load, e2]
        exact hgo _ _ _ _ _ _ (okL_set1 hL (by trivial)) (okS_t hS) hbc' hbs' hw
      · exact hw.elim
    case lstore k9 =>
      dsimp only at hw
      split at hw
      · rename_i x R
        obtain ⟨hk, hw⟩ := b_if_spec hw
        rw [decide_eq_true_eq] at hk
        have e2 : a_store (.lstore k9) (mapL L) ((vL x :: R).map enc) = some (mapL (l_set2 L k9 (vL x)), R.map enc) := by
          rw [l_set2_map]
          simp only [a_store, List.map_cons, enc, mapL_len]
          rw [if_pos hk]
        rw [f1_plain hx rfl]
        simp only [a_ret, a_pure, a_load, e2]
        exact hgo _ _ _ _ _ _ (okL_set2 hL (by trivial)) (okS_t hS) hbc' hbs' hw
      · exact hw.elim
    case lstore_n k9 =>
      dsimp only at hw
      split at hw
      · rename_i x R
        obtain ⟨hk, hw⟩ := b_if_spec hw
        rw [decide_eq_true_eq] at hk
        have e2 : a_store (.lstore_n k9) (mapL L) ((vL x :: R).map enc) = some (mapL (l_set2 L k9 (vL x)), R.map enc) := by
          rw [l_set2_map]
          simp only [a_store, List.map_cons, enc, mapL_len]
          rw [if_pos hk]
        rw [f1_plain hx rfl]
        simp only [a_ret, a_pure, a_load, e2]
        exact hgo _ _ _ _ _ _ (okL_set2 hL (by trivial)) (okS_t hS) hbc' hbs' hw
      · exact hw.elim
    case astore k9 =>
      dsimp only at hw
      split at hw
      · rename_i t q R
        obtain ⟨hk, hw⟩ := b_if_spec hw
        rw [decide_eq_true_eq] at hk
        have e2 : a_store (.astore k9) (mapL L) ((vR t q :: R).map enc) = some (mapL (l_set1 L k9 (vR t q)), R.map enc) := by
          rw [l_set1_map]
          simp only [a_store, List.map_cons, enc, mapL_len]
          rw [if_pos hk]
        rw [f1_plain hx rfl]
        simp only [a_ret, a_pure, a_load, e2]
        exact hgo _ _ _ _ _ _ (okL_set1 hL (okS_h hS)) (okS_t hS) hbc' hbs' hw
      · exact hw.elim
    case astore_n k9 =>
      dsimp only at hw
      split at hw
      · rename_i t q R
        obtain ⟨hk, hw⟩ := b_if_spec hw
        rw [decide_eq_true_eq] at hk
        have e2 : a_store (.astore_n k9) (mapL L) ((vR t q :: R).map enc) = some (mapL (l_set1 L k9 (vR t q)), R.map enc) := by
          rw [l_set1_map]
          simp only [a_store, List.map_cons, enc, mapL_len]
          rw [if_pos hk]
        rw [f1_plain hx rfl]
        simp only [a_ret, a_pure, a_load, e2]
        exact hgo _ _ _ _ _ _ (okL_set1 hL (okS_h hS)) (okS_t hS) hbc' hbs' hw
      · exact hw.elim
    case iinc k9 n9 =>
      dsimp only at hw
      split at hw
      · rename_i x e
        obtain ⟨hk, hw⟩ := b_if_spec hw
        rw [decide_eq_true_eq] at hk
        have e2 : a_store (.iinc k9 n9) (mapL L) (S.map enc) = some (mapL (l_set1 L k9 (vI (x + Int32.ofInt n9))), S.map enc) := by
          rw [l_set1_map]
          simp only [a_store, l_get_map, e, Option.map_some, enc, mapL_len]
          rw [if_pos hk]
        rw [f1_plain hx rfl]
        simp only [a_ret, a_pure, a_load, e2]
        exact hgo _ _ _ _ _ _ (okL_set1 hL (by trivial)) hS hbc' hbs' hw
      · exact hw.elim
    case goto o9 =>
      dsimp only at hw
      rw [f1_plain hx rfl]
      exact hgo _ _ _ _ _ _ hL hS hbc' hbs' hw
    case ifCond cd o9 =>
      cases cd <;> dsimp only at hw
      case eq =>
        split at hw
        · rename_i x R
          rw [f1_plain hx rfl]
          show X (if (decide (x = 0)) = true then a else i + 1) (mapL L) (R.map enc) (toH m) bc bs
          by_cases h9 : x = 0
          · rw [if_pos (decide_eq_true h9)]; exact hgo _ _ _ _ _ _ hL (okS_t hS) hbc' hbs' (hw.1 h9)
          · rw [if_neg (by rw [decide_eq_true_eq]; exact h9)]; exact hgo _ _ _ _ _ _ hL (okS_t hS) hbc' hbs' (hw.2 h9)
        · exact hw.elim
      case ne =>
        split at hw
        · rename_i x R
          rw [f1_plain hx rfl]
          show X (if (!decide (x = 0)) = true then a else i + 1) (mapL L) (R.map enc) (toH m) bc bs
          by_cases h9 : x = 0
          · rw [if_neg (by simp [h9])]; exact hgo _ _ _ _ _ _ hL (okS_t hS) hbc' hbs' (hw.2 h9)
          · rw [if_pos (by simp [h9])]; exact hgo _ _ _ _ _ _ hL (okS_t hS) hbc' hbs' (hw.1 h9)
        · exact hw.elim
      case lt =>
        split at hw
        · rename_i x R
          rw [f1_plain hx rfl]
          show X (if (decide (x < 0)) = true then a else i + 1) (mapL L) (R.map enc) (toH m) bc bs
          by_cases h9 : x < 0
          · rw [if_pos (decide_eq_true h9)]; exact hgo _ _ _ _ _ _ hL (okS_t hS) hbc' hbs' (hw.1 h9)
          · rw [if_neg (by rw [decide_eq_true_eq]; exact h9)]; exact hgo _ _ _ _ _ _ hL (okS_t hS) hbc' hbs' (hw.2 h9)
        · exact hw.elim
      case ge =>
        split at hw
        · rename_i x R
          rw [f1_plain hx rfl]
          show X (if (decide (0 ≤ x)) = true then a else i + 1) (mapL L) (R.map enc) (toH m) bc bs
          by_cases h9 : 0 ≤ x
          · rw [if_pos (decide_eq_true h9)]; exact hgo _ _ _ _ _ _ hL (okS_t hS) hbc' hbs' (hw.1 h9)
          · rw [if_neg (by rw [decide_eq_true_eq]; exact h9)]; exact hgo _ _ _ _ _ _ hL (okS_t hS) hbc' hbs' (hw.2 h9)
        · exact hw.elim
      case gt =>
        split at hw
        · rename_i x R
          rw [f1_plain hx rfl]
          show X (if (decide (0 < x)) = true then a else i + 1) (mapL L) (R.map enc) (toH m) bc bs
          by_cases h9 : 0 < x
          · rw [if_pos (decide_eq_true h9)]; exact hgo _ _ _ _ _ _ hL (okS_t hS) hbc' hbs' (hw.1 h9)
          · rw [if_neg (by rw [decide_eq_true_eq]; exact h9)]; exact hgo _ _ _ _ _ _ hL (okS_t hS) hbc' hbs' (hw.2 h9)
        · exact hw.elim
      case le =>
        split at hw
        · rename_i x R
          rw [f1_plain hx rfl]
          show X (if (decide (x ≤ 0)) = true then a else i + 1) (mapL L) (R.map enc) (toH m) bc bs
          by_cases h9 : x ≤ 0
          · rw [if_pos (decide_eq_true h9)]; exact hgo _ _ _ _ _ _ hL (okS_t hS) hbc' hbs' (hw.1 h9)
          · rw [if_neg (by rw [decide_eq_true_eq]; exact h9)]; exact hgo _ _ _ _ _ _ hL (okS_t hS) hbc' hbs' (hw.2 h9)
        · exact hw.elim
    case if_icmp cd o9 =>
      cases cd <;> dsimp only at hw
      case eq =>
        split at hw
        · rename_i y x R
          rw [f1_plain hx rfl]
          show X (if (decide (x = y)) = true then a else i + 1) (mapL L) (R.map enc) (toH m) bc bs
          by_cases h9 : x = y
          · rw [if_pos (decide_eq_true h9)]; exact hgo _ _ _ _ _ _ hL (okS_t (okS_t hS)) hbc' hbs' (hw.1 h9)
          · rw [if_neg (by rw [decide_eq_true_eq]; exact h9)]; exact hgo _ _ _ _ _ _ hL (okS_t (okS_t hS)) hbc' hbs' (hw.2 h9)
        · exact hw.elim
      case ne =>
        split at hw
        · rename_i y x R
          rw [f1_plain hx rfl]
          show X (if (!decide (x = y)) = true then a else i + 1) (mapL L) (R.map enc) (toH m) bc bs
          by_cases h9 : x = y
          · rw [if_neg (by simp [h9])]; exact hgo _ _ _ _ _ _ hL (okS_t (okS_t hS)) hbc' hbs' (hw.2 h9)
          · rw [if_pos (by simp [h9])]; exact hgo _ _ _ _ _ _ hL (okS_t (okS_t hS)) hbc' hbs' (hw.1 h9)
        · exact hw.elim
      case lt =>
        split at hw
        · rename_i y x R
          rw [f1_plain hx rfl]
          show X (if (decide (x < y)) = true then a else i + 1) (mapL L) (R.map enc) (toH m) bc bs
          by_cases h9 : x < y
          · rw [if_pos (decide_eq_true h9)]; exact hgo _ _ _ _ _ _ hL (okS_t (okS_t hS)) hbc' hbs' (hw.1 h9)
          · rw [if_neg (by rw [decide_eq_true_eq]; exact h9)]; exact hgo _ _ _ _ _ _ hL (okS_t (okS_t hS)) hbc' hbs' (hw.2 h9)
        · exact hw.elim
      case ge =>
        split at hw
        · rename_i y x R
          rw [f1_plain hx rfl]
          show X (if (decide (y ≤ x)) = true then a else i + 1) (mapL L) (R.map enc) (toH m) bc bs
          by_cases h9 : y ≤ x
          · rw [if_pos (decide_eq_true h9)]; exact hgo _ _ _ _ _ _ hL (okS_t (okS_t hS)) hbc' hbs' (hw.1 h9)
          · rw [if_neg (by rw [decide_eq_true_eq]; exact h9)]; exact hgo _ _ _ _ _ _ hL (okS_t (okS_t hS)) hbc' hbs' (hw.2 h9)
        · exact hw.elim
      case gt =>
        split at hw
        · rename_i y x R
          rw [f1_plain hx rfl]
          show X (if (decide (y < x)) = true then a else i + 1) (mapL L) (R.map enc) (toH m) bc bs
          by_cases h9 : y < x
          · rw [if_pos (decide_eq_true h9)]; exact hgo _ _ _ _ _ _ hL (okS_t (okS_t hS)) hbc' hbs' (hw.1 h9)
          · rw [if_neg (by rw [decide_eq_true_eq]; exact h9)]; exact hgo _ _ _ _ _ _ hL (okS_t (okS_t hS)) hbc' hbs' (hw.2 h9)
        · exact hw.elim
      case le =>
        split at hw
        · rename_i y x R
          rw [f1_plain hx rfl]
          show X (if (decide (x ≤ y)) = true then a else i + 1) (mapL L) (R.map enc) (toH m) bc bs
          by_cases h9 : x ≤ y
          · rw [if_pos (decide_eq_true h9)]; exact hgo _ _ _ _ _ _ hL (okS_t (okS_t hS)) hbc' hbs' (hw.1 h9)
          · rw [if_neg (by rw [decide_eq_true_eq]; exact h9)]; exact hgo _ _ _ _ _ _ hL (okS_t (okS_t hS)) hbc' hbs' (hw.2 h9)
        · exact hw.elim
    case tableswitch d9 lo9 hi9 offs =>
      dsimp only at hw
      split at hw
      · rename_i x R
        split at hw
        · rename_i d r
          obtain ⟨hk, h1, h2⟩ := b_if_spec hw
          rw [decide_eq_true_eq] at hk
          rw [(f1_call hx).2.2.2 _ _ _ _ rfl]
          show (match a_sw lo9 hi9 (d :: r) x with | some j => X j (mapL L) (R.map enc) (toH m) bc bs | none => False)
          unfold a_sw
          by_cases h9 : x.toInt < lo9 ∨ hi9 < x.toInt
          · rw [if_pos h9]
            exact hgo _ _ _ _ _ _ hL (okS_t hS) hbc' hbs' (h1 h9)
          · rw [if_neg h9, List.getElem?_cons_succ]
            have hlt : (x.toInt - lo9).toNat < r.length := by omega
            rw [List.getElem?_eq_getElem hlt]
            exact hgo _ _ _ _ _ _ hL (okS_t hS) hbc' hbs' (sws_spec (k := (x.toInt - lo9).toNat) h2 (List.getElem?_eq_getElem hlt) (by omega))
        · exact hw.elim
      · exact hw.elim
    case getfield idx =>
      dsimp only at hw
      split at hw
      · rename_i t q R
        obtain ⟨hk, hw⟩ := b_if_spec hw
        simp only [Bool.and_eq_true, decide_eq_true_eq] at hk
        obtain ⟨⟨k0, k1⟩, k2⟩ := hk
        have h99 := g_ne99 k0 (by decide)
        have hq := okV_lt (okS_h hS) h99
        subst k1
        have e2 : a_read xs (.getfield idx, pc, len, g_cls t, b, z, tg) ((vR t q :: R).map enc) (toH m) = some (fval m t q (g_cls t) b :: R.map enc) := by
          simp only [a_read, List.map_cons, enc_ref h99, toH_at hq, g_cell0 k0]
          simp [k2]
        rw [f1_plain hx rfl]
        simp only [a_ret, a_pure, a_load, a_store, a_br, e2]
        split at hw
        · rename_i e3
          rw [fval_long e3]
          exact hgo _ _ _ _ _ _ hL (okS_c (by trivial) (okS_t hS)) hbc' hbs' hw
        · rename_i e3
          rw [fval_ref e3]
          exact hgo _ _ _ _ _ _ hL (okS_c (show okV (vR _ _) from Or.inr (g_F3 k0 k2 e3 hq).1) (okS_t hS)) hbc' hbs' hw
        · rename_i n2 n3
          have e3 : g_fk (g_cls t) b = 0 ∨ g_fk (g_cls t) b = 1 := by
            unfold g_fk at n2 n3 ⊢
            split <;> simp_all
          rw [fval_int e3]
          exact hgo _ _ _ _ _ _ hL (okS_c (by trivial) (okS_t hS)) hbc' hbs' hw
      · exact hw.elim
    case putfield idx =>
      dsimp only at hw
      split at hw
      · rename_i v t q R
        obtain ⟨hk, hw⟩ := b_if_spec hw
        simp only [Bool.and_eq_true, decide_eq_true_eq] at hk
        obtain ⟨⟨k0, k1⟩, k2⟩ := hk
        have h99 := g_ne99 k0 (by decide)
        have hq := okV_lt (okS_h (okS_t hS)) h99
        subst k1
        have key : (g_fk (g_cls t) b = 0 ∨ g_fk (g_cls t) b = 1) → a_fit (a_ty (g_cls t) b) (.int v) = true → go (i + 1) L R (mI m t q b v) → F1 xs C1 MT tbl rt Q1 X i (mapL L) ((vI v :: vR t q :: R).map enc) (toH m) bc bs := by
          intro hfk hfit hw
          have e2 : a_write (.putfield idx, pc, len, g_cls t, b, z, tg) ((vI v :: vR t q :: R).map enc) (toH m) = some (R.map enc, toH (mI m t q b v)) := by
            rw [toH_put (v := .int v) (k := b) k0 hq k2 mI_ne (by rw [fval_int hfk, mI_at]; simp [upd]) (fun k' hk' => fval_ne (by rw [mI_at]; simp [upd, hk']) rfl)]
            simp only [a_write, List.map_cons, enc_ref h99, toH_at hq, g_cell0 k0]
            simp [k2, enc_i, hfit]
          rw [f1_plain hx rfl]
          simp only [a_ret, a_pure, a_load, a_store, a_br, a_read, e2]
          exact hgo _ _ _ _ _ _ hL (okS_t (okS_t hS)) hbc' hbs' hw
        split at hw
        · rename_i e3
          exact key (Or.inl e3) (fit_int e3) hw
        · rename_i e3
          exact key (Or.inr e3) (fit_bool e3 hw.1) hw.2
        · exact hw.elim
      · rename_i v t q R
        obtain ⟨hk, hw⟩ := b_if_spec hw
        simp only [Bool.and_eq_true, decide_eq_true_eq] at hk
        obtain ⟨⟨k0, k1⟩, k2⟩ := hk
        have h99 := g_ne99 k0 (by decide)
        have hq := okV_lt (okS_h (okS_t hS)) h99
        subst k1
        split at hw
        · rename_i e3
          have e2 : a_write (.putfield idx, pc, len, g_cls t, b, z, tg) ((vL v :: vR t q :: R).map enc) (toH m) = some (R.map enc, toH (mL m t q b v)) := by
            rw [toH_put (v := .long v) (k := b) k0 hq k2 mL_ne (by rw [fval_long e3, mL_at]; simp [vp_updL]) (fun k' hk' => fval_ne rfl (by rw [mL_at]; simp [vp_updL, hk']))]
            simp only [a_write, List.map_cons, enc_ref h99, toH_at hq, g_cell0 k0]
            simp [k2, enc_l, fit_long e3]
          rw [f1_plain hx rfl]
          simp only [a_ret, a_pure, a_load, a_store, a_br, a_read, e2]
          exact hgo _ _ _ _ _ _ hL (okS_t (okS_t hS)) hbc' hbs' hw
        · exact hw.elim
      · exact hw.elim
    case iaload =>
      dsimp only at hw
      split at hw
      · rename_i j t q R
        split at hw
        · rename_i h9
          rw [decide_eq_true_eq] at h9
          subst h9
          obtain ⟨hin, hw⟩ := hw
          have e2 : a_read xs (.iaload, pc, len, a, b, z, tg) ((vI j :: vR 99 q :: R).map enc) (toH m) = some (.int (xs.2 j.toNatClampNeg) :: R.map enc) := by
            have h : a_read xs (.iaload, pc, len, a, b, z, tg) ((vI j :: vR 99 q :: R).map enc) (toH m) = (if ¬ (j < 0 ∨ xs.1 ≤ j.toNatClampNeg) then some (.int (xs.2 j.toNatClampNeg) :: R.map enc) else none) := rfl
            rw [h, if_pos (show ¬ (j < 0 ∨ xs.1 ≤ j.toNatClampNeg) from hin)]
          rw [f1_plain hx rfl]
          simp only [a_ret, a_pure, a_load, a_store, a_br, e2]
          exact hgo _ _ _ _ _ _ hL (okS_c (by trivial) (okS_t (okS_t hS))) hbc' hbs' hw
        · obtain ⟨hk, hin, hw⟩ := b_if_spec hw
          rw [decide_eq_true_eq] at hk
          have h99 := g_ne99 hk (by decide)
          have hq := okV_lt (okS_h (okS_t hS)) h99
          have hat := (g_F1 hq).2
          have e2 : a_read xs (.iaload, pc, len, a, b, z, tg) ((vI j :: vR t q :: R).map enc) (toH m) = some (.int (m.1 t q j.toNatClampNeg) :: R.map enc) := by
            simp only [a_read, List.map_cons, enc_ref h99, toH_at hq, g_cell1 hk, enc_i, enc_l]
            rw [if_neg (show ¬ g_at t q = sCR by unfold sCR; omega)]
            rw [if_pos ⟨trivial, hin⟩]
          rw [f1_plain hx rfl]
          simp only [a_ret, a_pure, a_load, a_store, a_br, e2]
          exact hgo _ _ _ _ _ _ hL (okS_c (by trivial) (okS_t (okS_t hS))) hbc' hbs' hw
      · exact hw.elim
    case laload =>
      dsimp only at hw
      split at hw
      · rename_i j t q R
        obtain ⟨hk, hin, hw⟩ := b_if_spec hw
        rw [decide_eq_true_eq] at hk
        have h99 := g_ne99 hk (by decide)
        have hq := okV_lt (okS_h (okS_t hS)) h99
        have e2 : a_read xs (.laload, pc, len, a, b, z, tg) ((vI j :: vR t q :: R).map enc) (toH m) = some (.long (m.2 t q j.toNatClampNeg) :: R.map enc) := by
          simp only [a_read, List.map_cons, enc_ref h99, toH_at hq, g_cell2 hk, enc_i, enc_l]
          rw [if_pos ⟨trivial, hin⟩]
        rw [f1_plain hx rfl]
        simp only [a_ret, a_pure, a_load, a_store, a_br, e2]
        exact hgo _ _ _ _ _ _ hL (okS_c (by trivial) (okS_t (okS_t hS))) hbc' hbs' hw
      · exact hw.elim
    case aaload =>
      dsimp only at hw
      split at hw
      · rename_i j t q R
        obtain ⟨hk, hin, hw⟩ := b_if_spec hw
        rw [decide_eq_true_eq] at hk
        have h99 := g_ne99 hk (by decide)
        have hq := okV_lt (okS_h (okS_t hS)) h99
        have hlt : j.toNatClampNeg < g_len t := Nat.not_le.mp fun z => hin (Or.inr z)
        obtain ⟨f1, f2⟩ := g_F4 t (g_lt hq) hk
        obtain ⟨f3, f4⟩ := f2 q hq _ hlt
        have e2 : a_read xs (.aaload, pc, len, a, b, z, tg) ((vI j :: vR t q :: R).map enc) (toH m) = some (enc (vR (g_ra t q j.toNatClampNeg).1 (g_ra t q j.toNatClampNeg).2) :: R.map enc) := by
          simp only [a_read, List.map_cons, enc_ref h99, toH_at hq, g_cell3 hk, enc_ref f4, enc_i]
          rw [if_pos ⟨f1, hin⟩, if_pos hlt]
        rw [f1_plain hx rfl]
        simp only [a_ret, a_pure, a_load, a_store, a_br, e2]
        exact hgo _ _ _ _ _ _ hL (okS_c (show okV (vR _ _) from Or.inr f3) (okS_t (okS_t hS))) hbc' hbs' hw
      · exact hw.elim
    case iastore =>
      dsimp only at hw
      split at hw
      · rename_i v j t q R
        obtain ⟨hk, hin, hw⟩ := b_if_spec hw
        rw [decide_eq_true_eq] at hk
        have h99 := g_ne99 hk (by decide)
        have hq := okV_lt (okS_h (okS_t (okS_t hS))) h99
        have e2 : a_write (.iastore, pc, len, a, b, z, tg) ((vI v :: vI j :: vR t q :: R).map enc) (toH m) = some (R.map enc, toH (mI m t q j.toNatClampNeg v)) := by
          rw [toH_set hq mI_ne, g_cell1 hk, mI_at]
          simp only [a_write, List.map_cons, enc_ref h99, toH_at hq, g_cell1 hk, enc_i, enc_l]
          rw [if_pos ⟨trivial, hin⟩]
        rw [f1_plain hx rfl]
        simp only [a_ret, a_pure, a_load, a_store, a_br, a_read, e2]
        exact hgo _ _ _ _ _ _ hL (okS_t (okS_t (okS_t hS))) hbc' hbs' hw
      · exact hw.elim
    case lastore =>
      dsimp only at hw
      split at hw
      · rename_i v j t q R
        obtain ⟨hk, hin, hw⟩ := b_if_spec hw
        rw [decide_eq_true_eq] at hk
        have h99 := g_ne99 hk (by decide)
        have hq := okV_lt (okS_h (okS_t (okS_t hS))) h99
        have e2 : a_write (.lastore, pc, len, a, b, z, tg) ((vL v :: vI j :: vR t q :: R).map enc) (toH m) = some (R.map enc, toH (mL m t q j.toNatClampNeg v)) := by
          rw [toH_set hq mL_ne, g_cell2 hk, mL_at]
          simp only [a_write, List.map_cons, enc_ref h99, toH_at hq, g_cell2 hk, enc_i, enc_l]
          rw [if_pos ⟨trivial, hin⟩]
        rw [f1_plain hx rfl]
        simp only [a_ret, a_pure, a_load, a_store, a_br, a_read, e2]
        exact hgo _ _ _ _ _ _ hL (okS_t (okS_t (okS_t hS))) hbc' hbs' hw
      · exact hw.elim
    case arraylength =>
      dsimp only at hw
      split at hw
      · rename_i t q R
        split at hw
        · rename_i h9
          rw [decide_eq_true_eq] at h9
          subst h9
          have e2 : a_read xs (.arraylength, pc, len, a, b, z, tg) ((vR 99 q :: R).map enc) (toH m) = some (.int (Int32.ofNat xs.1) :: R.map enc) := rfl
          rw [f1_plain hx rfl]
          simp only [a_ret, a_pure, a_load, a_store, a_br, e2]
          exact hgo _ _ _ _ _ _ hL (okS_c (by trivial) (okS_t hS)) hbc' hbs' hw
        · obtain ⟨hk, hw⟩ := b_if_spec hw
          simp only [Bool.or_eq_true, decide_eq_true_eq] at hk
          have h99 : t ≠ 99 := hk.elim (fun z => g_ne99 z (by decide)) (fun z => g_ne99 z (by decide))
          have hq := okV_lt (okS_h hS) h99
          have hat := (g_F1 hq).2
          have e2 : a_read xs (.arraylength, pc, len, a, b, z, tg) ((vR t q :: R).map enc) (toH m) = some (.int (Int32.ofNat (g_len t)) :: R.map enc) := by
            simp only [a_read, List.map_cons, enc_ref h99]
            rw [if_neg (show ¬ g_at t q = sCR by unfold sCR; omega), toH_at hq]
            rcases hk with hk | hk
            · rw [g_cell1 hk]
            · rw [g_cell2 hk]
          rw [f1_plain hx rfl]
          simp only [a_ret, a_pure, a_load, a_store, a_br, e2]
          exact hgo _ _ _ _ _ _ hL (okS_c (by trivial) (okS_t hS)) hbc' hbs' hw
      · exact hw.elim
    case invokevirtual idx =>
      dsimp only at hw
      obtain ⟨hk, hw⟩ := b_if_spec hw
      simp only [Bool.and_eq_true, decide_eq_true_eq] at hk
      obtain ⟨⟨⟨k0, k1⟩, k2⟩, k3⟩ := hk
      have hoA : okS (S.take b).reverse := fun v hv => hS v (List.mem_of_mem_take (List.mem_reverse.mp hv))
      have hoR : okS (S.drop b) := fun v hv => hS v (List.mem_of_mem_drop hv)
      obtain ⟨M, m1, m2, m3, m4⟩ := hC _ _ _ _ hoA hw
      have eA : ((S.map enc).take b).reverse = (S.take b).reverse.map enc := by rw [← List.map_take, List.map_reverse]
      rw [(f1_call hx).1 _ rfl]
      dsimp only
      rw [eA, ← List.map_drop, List.length_map]
      refine ⟨?_, by rw [c_words_eq]; exact k1, k0, M, m1, by omega, by omega, hmC _ _ _ _ _ (aft M _ _ m2 m3 hoR) m4⟩
      split at k3
      · rename_i t q As e
        simp only [Bool.and_eq_true, decide_eq_true_eq] at k3
        rw [e] at hoA ⊢
        have h99 := g_ne99 k3.1 (by decide)
        have hq := okV_lt (okS_h hoA) h99
        simp only [a_rcv, List.map_cons, enc_ref h99, toH_at hq, g_cell0 k3.1]
        exact decide_eq_true k3.2
      · cases k3
    case invokestatic idx =>
      dsimp only at hw
      split at hw
      · rename_i h9
        rw [decide_eq_true_eq] at h9
        subst h9
        split at hw
        · rename_i n8 dp t2 i2 sp t q R
          obtain ⟨hk, hw⟩ := b_if_spec hw
          rw [decide_eq_true_eq] at hk
          rw [(f1_call hx).2.1 _ rfl]
          dsimp only
          rw [if_pos rfl]
          have hq2 : okV (vR t2 i2) := okS_h (okS_t (okS_t hS))
          have hq1 : okV (vR t q) := okS_h (okS_t (okS_t (okS_t (okS_t hS))))
          have hoR : okS R := okS_t (okS_t (okS_t (okS_t (okS_t hS))))
          unfold b_copy at hw
          split at hw
          · rename_i c1 c2
            obtain ⟨⟨u1, u2, u3, u4, u5⟩, hw⟩ := hw
            have g1 := okV_lt hq1 (g_ne99 c1 (by decide))
            have g2 := okV_lt hq2 (g_ne99 c2 (by decide))
            refine ⟨R.map enc, _, ?_, by rw [c_words_eq]; exact hk, hgo _ _ _ _ _ _ hL hoR hbc' hbs' hw⟩
            have eH : toH ((fun a b => if a = t2 ∧ b = i2 then va_cpy (m.1 t q) (m.1 t2 i2) sp.toNatClampNeg dp.toNatClampNeg n8.toNatClampNeg else m.1 a b, m.2) : Mem) = _ := toH_set (m := m) g2 (fun t' i' h9 => ⟨if_neg h9, rfl⟩)
            rw [eH, g_cell1 c2]
            simp only [a_copy, List.map_cons, enc_ref (g_ne99 c1 (by decide)), enc_ref (g_ne99 c2 (by decide)), toH_at g1, toH_at g2, g_cell1 c1, g_cell1 c2, enc_i]
            rw [if_pos ⟨trivial, trivial, u1, u2, u3, u4, u5⟩]
            simp
          · rename_i c1 c2
            obtain ⟨⟨u1, u2, u3, u4, u5⟩, hw⟩ := hw
            have g1 := okV_lt hq1 (g_ne99 c1 (by decide))
            have g2 := okV_lt hq2 (g_ne99 c2 (by decide))
            refine ⟨R.map enc, _, ?_, by rw [c_words_eq]; exact hk, hgo _ _ _ _ _ _ hL hoR hbc' hbs' hw⟩
            have eH : toH ((m.1, fun a b => if a = t2 ∧ b = i2 then va_cpy (m.2 t q) (m.2 t2 i2) sp.toNatClampNeg dp.toNatClampNeg n8.toNatClampNeg else m.2 a b) : Mem) = _ := toH_set (m := m) g2 (fun t' i' h9 => ⟨rfl, if_neg h9⟩)
            rw [eH, g_cell2 c2]
            simp only [a_copy, List.map_cons, enc_ref (g_ne99 c1 (by decide)), enc_ref (g_ne99 c2 (by decide)), toH_at g1, toH_at g2, g_cell2 c1, g_cell2 c2, enc_i]
            rw [if_pos ⟨trivial, trivial, u1, u2, u3, u4, u5⟩]
            simp
          · exact hw.elim
        · exact hw.elim
      · rename_i h9
        rw [decide_eq_false_iff_not] at h9
        obtain ⟨hk, hw⟩ := b_if_spec hw
        simp only [Bool.and_eq_true, decide_eq_true_eq] at hk
        obtain ⟨k0, k1⟩ := hk
        have hoA : okS (S.take b).reverse := fun v hv => hS v (List.mem_of_mem_take (List.mem_reverse.mp hv))
        have hoR : okS (S.drop b) := fun v hv => hS v (List.mem_of_mem_drop hv)
        obtain ⟨M, m1, m2, m3, m4⟩ := hC _ _ _ _ hoA hw
        have eA : ((S.map enc).take b).reverse = (S.take b).reverse.map enc := by rw [← List.map_take, List.map_reverse]
        rw [(f1_call hx).2.1 _ rfl]
        dsimp only
        rw [if_neg h9, eA, ← List.map_drop, List.length_map]
        exact ⟨by rw [c_words_eq]; exact k1, k0, M, m1, by omega, by omega, hmC _ _ _ _ _ (aft M _ _ m2 m3 hoR) m4⟩
    case ireturn =>
      dsimp only at hw
      split at hw
      · rename_i v
        split at hw
        · have e : a_ret .ireturn (some .int) ([vI v].map enc) = some (some (.int v)) := by
            have h : a_ret .ireturn (some .int) ([vI v].map enc) = (if narrow .int (.int v) = .int v then some (some (.int v)) else none) := rfl
            rw [h, if_pos (show narrow .int (.int v) = .int v from rfl)]
          rw [f1_plain hx rfl]
          simp only [e]
          exact hQ _ _ (fun w q => by cases q; trivial) hw
        · have e : a_ret .ireturn (some .boolean) ([vI v].map enc) = some (some (.int v)) := by
            have h : a_ret .ireturn (some .boolean) ([vI v].map enc) = (if narrow .boolean (.int v) = .int v then some (some (.int v)) else none) := rfl
            rw [h, if_pos (narrow_b hw.1)]
          rw [f1_plain hx rfl]
          simp only [e]
          exact hQ _ _ (fun w q => by cases q; trivial) hw.2
        · exact hw.elim
      · exact hw.elim
    case lreturn =>
      dsimp only at hw
      split at hw
      · split at hw
        · rw [f1_plain hx rfl]
          exact hQ _ _ (fun w q => by cases q; trivial) hw
        · exact hw.elim
      · exact hw.elim
    case areturn =>
      dsimp only at hw
      split at hw
      · split at hw
        · rw [f1_plain hx rfl]
          exact hQ _ _ (fun w q => by cases q; exact okS_h hS) hw
        · exact hw.elim
      · exact hw.elim
    case return_ =>
      dsimp only at hw
      split at hw
      · split at hw
        · rw [f1_plain hx rfl]
          exact hQ _ _ hok0 hw
        · exact hw.elim
      · exact hw.elim
theorem w21F {cuts : List Nat} {K : Nat → L2 → List v2 → Mem → Prop}
    (hC : ∀ (j : Nat) args m Q, okS args → C2 j args m Q → ∃ M, MT[j]? = some M ∧ M.2.2.2.2.2.1.1 ≤ 0 ∧ M.2.2.2.2.2.1.2 ≤ 0 ∧ C1 j (args.map enc) (toH m) (fun r h => ∃ r2 m2, r = r2.map enc ∧ h = toH m2 ∧ (∀ v, r2 = some v → okV v) ∧ Q r2 m2))
    (hmC : ∀ j a h Q Q', (∀ r h', Q r h' → Q' r h') → C1 j a h Q → C1 j a h Q')
    (hQ : ∀ r m, (∀ v, r = some v → okV v) → Q2 r m → Q1 (r.map enc) (toH m))
    (hK : ∀ i L S m bc bs, okL L → okS S → K i L S m → W1 xs C1 MT tbl rt Q1 i (mapL L) (S.map enc) (toH m) bc bs) :
    ∀ (k i : Nat) (L : L2) (S : List v2) (m : Mem) (bc bs : Nat), okL L → okS S → wp2i xs C2 tbl cuts rt Q2 K k i L S m → W1 xs C1 MT tbl rt Q1 i (mapL L) (S.map enc) (toH m) bc bs := by
  intro k
  induction k with
  | zero => intro i L S m bc bs _ _ hw; exact hw.elim
  | succ k ih =>
    intro i L S m bc bs hL hS hw
    unfold wp2i at hw
    split at hw
    · exact hw.elim
    rename_i x hx
    refine W1_fold hmC (st21F (lo := 0) (ls := 0) (cc := 0) (cs := 0) hC hmC hQ (fun j L S m bc bs a1 a2 a3 a4 h => ?_) hx hL hS (Nat.zero_le _) (Nat.zero_le _) hw)
    split at h
    · exact hK j L S m bc bs a1 a2 h
    · exact ih j L S m bc bs a1 a2 h
end W21F
def W2 (xs : Nat × (Nat → Int32)) (C : Nat → List v2 → Mem → (Option v2 → Mem → Prop) → Prop) (tbl : List xI) (cuts : List Nat) (rt : Option FieldType) (Q : Option v2 → Mem → Prop) (i : Nat) (L : L2) (S : List v2) (m : Mem) : Prop :=
  ∀ X : Nat → L2 → List v2 → Mem → Prop, (∀ i L S m, wp2i xs C tbl cuts rt Q X 2000 i L S m → X i L S m) → X i L S m
def callW2 (xs : Nat × (Nat → Int32)) : Nat → Nat → List v2 → Mem → (Option v2 → Mem → Prop) → Prop
  | 0, _, _, _, _ => False
  | d + 1, j, args, m, Q => ∃ M, MT[j]? = some M ∧ M.2.2.2.2.2.1 = (0, 0) ∧ args.length = M.2.2.2.2.1 ∧ (g_args args).length ≤ M.2.2.1 ∧ ∃ cuts, W2 xs (callW2 xs d) M.2.2.2.2.2.2 cuts M.2.2.2.1 Q 0 (g_locals M.2.2.1 args) [] m
theorem c21W {xs : Nat × (Nat → Int32)} {P : Nat → Nat → List Value → aH → (Option Value → aH → Prop) → Prop} (hP : ∀ d j a h Q Q', (∀ r h', Q r h' → Q' r h') → P d j a h Q → P d j a h Q') :
    ∀ (d j : Nat) (args : List v2) (m : Mem) (Q : Option v2 → Mem → Prop), okS args → callW2 xs d j args m Q → ∃ M, MT[j]? = some M ∧ M.2.2.2.2.2.1.1 ≤ 0 ∧ M.2.2.2.2.2.1.2 ≤ 0 ∧ callW xs MT P d j (args.map enc) (toH m) (fun r h => ∃ r2 m2, r = r2.map enc ∧ h = toH m2 ∧ (∀ v, r2 = some v → okV v) ∧ Q r2 m2) := by
  intro d
  induction d with
  | zero => intro j args m Q _ hc; exact hc.elim
  | succ d ih =>
    intro j args m Q ho hc
    obtain ⟨M, h1, h2, h3, h4, cuts, hw⟩ := hc
    refine ⟨M, h1, by rw [h2]; exact Nat.le_refl _, by rw [h2]; exact Nat.le_refl _, Or.inr ⟨M, h1, by rw [List.length_map]; exact h3, by rw [g_args_map, mapL_len]; exact h4, ?_⟩⟩
    rw [g_locals_map, h2]
    have key : ∀ (bc bs : Nat), okL (g_locals M.2.2.1 args) → okS ([] : List v2) → W1 xs (callW xs MT P d) MT M.2.2.2.2.2.2 M.2.2.2.1 (fun r h => ∃ r2 m2, r = r2.map enc ∧ h = toH m2 ∧ (∀ v, r2 = some v → okV v) ∧ Q r2 m2) 0 (mapL (g_locals M.2.2.1 args)) (([] : List v2).map enc) (toH m) bc bs := by
      refine hw (fun i L S m => ∀ (bc bs : Nat), okL L → okS S → W1 xs (callW xs MT P d) MT M.2.2.2.2.2.2 M.2.2.2.1 (fun r h => ∃ r2 m2, r = r2.map enc ∧ h = toH m2 ∧ (∀ v, r2 = some v → okV v) ∧ Q r2 m2) i (mapL L) (S.map enc) (toH m) bc bs) ?_
      intro i L S m hi bc bs hL hS
      exact w21F (C1 := callW xs MT P d) (fun j a m Q o c => ih j a m Q o c) (callW_mono hP d) (fun r m o q => ⟨r, m, rfl, rfl, o, q⟩) (fun i L S m bc bs a1 a2 h => h bc bs a1 a2) 2000 i L S m bc bs hL hS hi
    exact key 0 0 (okL_locals ho) (fun v hv => by cases hv)
