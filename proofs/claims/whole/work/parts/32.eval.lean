/-! M1 RUN: for the constructors, in the kernel -/
/-- reads that no script answers -/
def a_read0 (x : xI) (S : List Value) (h : aH) : Option (List Value) := match x.1 with
  | .arraylength => none
  | _ => a_read (0, fun _ => 0) x S h
theorem a_read0_ok {xs : Nat × (Nat → Int32)} {x : xI} {S R : List Value} {h : aH} (e : a_read0 x S h = some R) : a_read xs x S h = some R := by
  obtain ⟨ins, xr⟩ := x
  cases ins <;> first
    | exact e
    | (simp only [a_read0, reduceCtorEq] at e; done)
    | (simp only [a_read0, a_read] at e ⊢
       split at e
       · split at e
         · split at e
           · rename_i hq; exact absurd (Or.inr (Nat.zero_le _)) hq
           · cases e
         · rename_i hq; rw [if_neg hq]; exact e
       · cases e)
theorem a_write_noread {xs : Nat × (Nat → Int32)} {x : xI} {S : List Value} {h : aH} {q : List Value × aH} (e : a_write x S h = some q) : a_read xs x S h = none := by
  obtain ⟨ins, xr⟩ := x
  cases ins <;> first | rfl | (simp only [a_write, reduceCtorEq] at e; done)
theorem a_make_noread {xs : Nat × (Nat → Int32)} {x : xI} {S : List Value} {h : aH} {q : List Value × aH × Nat × Nat} (e : a_make x S h = some q) : a_read xs x S h = none := by
  obtain ⟨ins, xr⟩ := x
  unfold a_make at e
  split at e
  · cases e
  cases ins <;> first | rfl | (simp only [reduceCtorEq] at e; done)
def ev1 (CE : Nat → List Value → aH → Option (Option Value × aH)) (T : List aM) (tbl : List xI) (rt : Option FieldType) : Nat → Nat → aL → List Value → aH → Nat → Nat → Option (Option Value × aH)
  | 0, _, _, _, _, _, _ => none
  | n + 1, i, L, S, h, bc, bs => match tbl[i]? with
    | none => none
    | some x => match x.1 with
      | .invokevirtual _ => none
      | .invokestatic _ => none
      | .tableswitch _ _ _ _ => none
      | .invokespecial _ => if x.2.2.2.1 = idInit then (match S with | .ref _ :: R => if a_words R ≤ 8 then ev1 CE T tbl rt n (i + 1) L R h bc bs else none | _ => none)
        else if a_isR (S.take x.2.2.2.2.1).reverse = true ∧ a_words (S.drop x.2.2.2.2.1) ≤ 8 ∧ x.2.2.2.2.1 ≤ S.length then (match T[x.2.2.2.1]? with
          | some M => if M.2.2.2.2.2.1.1 ≤ bc ∧ M.2.2.2.2.2.1.2 ≤ bs then (match CE x.2.2.2.1 (S.take x.2.2.2.2.1).reverse h with
            | some (r, h') => ev1 CE T tbl rt n (i + 1) L (r.toList ++ S.drop x.2.2.2.2.1) h' (bc - M.2.2.2.2.2.1.1) (bs - M.2.2.2.2.2.1.2)
            | none => none) else none
          | none => none) else none
      | _ => match a_ret x.1 rt S with
        | some r => some (r, h)
        | none => match a_pure x.1 x.2.2.2.2.2.1 S with
          | some R => ev1 CE T tbl rt n (i + 1) L R h bc bs
          | none => match a_load x.1 L with
            | some v => ev1 CE T tbl rt n (i + 1) L (v :: S) h bc bs
            | none => match a_store x.1 L S with
              | some (L', R) => ev1 CE T tbl rt n (i + 1) L' R h bc bs
              | none => match a_br x.1 S with
                | some (b, R) => ev1 CE T tbl rt n (if b then x.2.2.2.1 else i + 1) L R h bc bs
                | none => match a_read0 x S h with
                  | some R => ev1 CE T tbl rt n (i + 1) L R h bc bs
                  | none => match a_write x S h with
                    | some (R, h') => ev1 CE T tbl rt n (i + 1) L R h' bc bs
                    | none => match a_make x S h with
                      | some (R, h', kc, ks) => if kc ≤ bc ∧ ks ≤ bs then ev1 CE T tbl rt n (i + 1) L R h' (bc - kc) (bs - ks) else none
                      | none => none
def cev1 : Nat → Nat → List Value → aH → Option (Option Value × aH)
  | 0, _, _, _ => none
  | d + 1, j, args, h => match MT[j]? with
    | some M => if args.length = M.2.2.2.2.1 ∧ (a_args args).length ≤ M.2.2.1 then ev1 (cev1 d) MT M.2.2.2.2.2.2 M.2.2.2.1 5000 0 (a_locals M.2.2.1 args) [] h M.2.2.2.2.2.1.1 M.2.2.2.2.2.1.2 else none
    | none => none
set_option maxHeartbeats 1000000 in
theorem ev1_wp1 {xs : Nat × (Nat → Int32)} {CE : Nat → List Value → aH → Option (Option Value × aH)} {C : Nat → List Value → aH → (Option Value → aH → Prop) → Prop} {T : List aM} {tbl : List xI} {rt : Option FieldType} {Q : Option Value → aH → Prop} {r : Option Value} {h9 : aH} (hCE : ∀ j a h r h', CE j a h = some (r, h') → ∀ Q : Option Value → aH → Prop, Q r h' → C j a h Q) (hQ : Q r h9) :
    ∀ (n i : Nat) (L : aL) (S : List Value) (h : aH) (bc bs : Nat), ev1 CE T tbl rt n i L S h bc bs = some (r, h9) → wp1 xs C T tbl rt Q n i L S h bc bs := by
  intro n
  induction n with
  | zero => intro i L S h bc bs hw; cases hw
  | succ n ih =>
    intro i L S h bc bs hw
    unfold ev1 at hw
    cases hx : tbl[i]? with
    | none => rw [hx] at hw; cases hw
    | some x =>
      rw [hx] at hw
      dsimp only at hw
      split at hw
      · cases hw
      · cases hw
      · cases hw
      · rename_i idx hins
        rw [(wp1_call hx).2.2.1 _ hins]
        split at hw
        · rename_i hid
          rw [if_pos hid]
          cases S with
          | nil => cases hw
          | cons v R =>
            cases v with
            | ref v =>
              try dsimp only at hw
              split at hw
              · rename_i hR
                exact ⟨v, R, rfl, hR, ih _ _ _ _ _ _ hw⟩
              · cases hw
            | _ => cases hw
        · rename_i hid
          rw [if_neg hid]
          split at hw
          · rename_i hq
            obtain ⟨q1, q2, q3⟩ := hq
            split at hw
            · rename_i M hM
              split at hw
              · rename_i hb
                split at hw
                · rename_i r' h' hce
                  exact ⟨q1, q2, q3, M, hM, hb.1, hb.2, hCE _ _ _ _ _ hce _ (ih _ _ _ _ _ _ hw)⟩
                · cases hw
              · cases hw
            · cases hw
          · cases hw
      · rename_i n1 n2 n3 n4
        have hp : a_isCall x.1 = false := by
          unfold a_isCall
          split
          · rename_i e; exact (n1 _ e).elim
          · rename_i e; exact (n2 _ e).elim
          · rename_i e; exact (n4 _ e).elim
          · rename_i e; exact (n3 _ _ _ _ e).elim
          · rfl
        rw [wp1_plain hx hp]
        cases e0 : a_ret x.1 rt S with
        | some r0 => simp only [e0] at hw ⊢; cases hw; exact hQ
        | none =>
        simp only [e0] at hw ⊢
        cases e1 : a_pure x.1 x.2.2.2.2.2.1 S with
        | some R => simp only [e1] at hw ⊢; exact ih _ _ _ _ _ _ hw
        | none =>
        simp only [e1] at hw ⊢
        cases e2 : a_load x.1 L with
        | some v => simp only [e2] at hw ⊢; exact ih _ _ _ _ _ _ hw
        | none =>
        simp only [e2] at hw ⊢
        cases e3 : a_store x.1 L S with
        | some q => obtain ⟨L', R⟩ := q; simp only [e3] at hw ⊢; exact ih _ _ _ _ _ _ hw
        | none =>
        simp only [e3] at hw ⊢
        cases e4 : a_br x.1 S with
        | some q => obtain ⟨t, R⟩ := q; simp only [e4] at hw ⊢; exact ih _ _ _ _ _ _ hw
        | none =>
        simp only [e4] at hw ⊢
        cases e5 : a_read0 x S h with
        | some R => simp only [e5] at hw; simp only [a_read0_ok (xs := xs) e5]; exact ih _ _ _ _ _ _ hw
        | none =>
        simp only [e5] at hw
        cases e6 : a_write x S h with
        | some q => obtain ⟨R, h'⟩ := q; simp only [e6] at hw; simp only [a_write_noread (xs := xs) e6]; exact ih _ _ _ _ _ _ hw
        | none =>
        simp only [e6] at hw
        cases e7 : a_make x S h with
        | some q =>
          obtain ⟨R, h', kc, ks⟩ := q
          simp only [a_make_noread (xs := xs) e7]
          simp only [e7] at hw ⊢
          split at hw
          · rename_i hb
            exact ⟨hb.1, hb.2, ih _ _ _ _ _ _ hw⟩
          · cases hw
        | none => simp only [e7] at hw; cases hw
theorem cev1_call1 {xs : Nat × (Nat → Int32)} {P : Nat → Nat → List Value → aH → (Option Value → aH → Prop) → Prop} : ∀ (d j : Nat) (args : List Value) (h : aH) (r : Option Value) (h' : aH), cev1 d j args h = some (r, h') → ∀ Q : Option Value → aH → Prop, Q r h' → call1 xs MT P d j args h Q
  | 0, j, args, h, r, h', hc, Q, hq => by cases hc
  | d + 1, j, args, h, r, h', hc, Q, hq => by
    unfold cev1 at hc
    split at hc
    · rename_i M hM
      split at hc
      · rename_i hb
        exact Or.inr ⟨M, hM, hb.1, hb.2, 5000, ev1_wp1 (cev1_call1 d) hq _ _ _ _ _ _ _ hc⟩
      · cases hc
    · cases hc
/-- heaps whose arrays agree below their lengths -/
def eqvA (n : Nat) (c c' : (Nat → Int32) ⊕ (Nat → Int64) ⊕ (Nat → UInt32) ⊕ (Nat → UInt64) ⊕ (Nat → Option Nat)) : Bool := match c, c' with
  | .inl f, .inl g => (List.range n).all (fun i => decide (f i = g i))
  | .inr (.inl f), .inr (.inl g) => (List.range n).all (fun i => decide (f i = g i))
  | .inr (.inr (.inr (.inr f))), .inr (.inr (.inr (.inr g))) => (List.range n).all (fun i => decide (f i = g i))
  | _, _ => false
def eqvC (e e' : aE) : Bool := match e, e' with
  | .inl (ty, n, c), .inl (ty', n', c') => decide (ty = ty') && decide (n = n') && eqvA n c c'
  | .inr (ci, fs), .inr (ci', fs') => decide (ci = ci') && decide (fs = fs')
  | _, _ => false
def eqvH : aH → aH → Bool
  | [], [] => true
  | e :: h, e' :: h' => eqvC e e' && eqvH h h'
  | _, _ => false
/-- the world's cell, with the other contents -/
def fixC (e' : aE) (x : va_E) : va_E := match e', x with
  | .inl (_, n, .inl f), .inl (cA, _, .inl _) => .inl (cA, n, .inl f)
  | .inl (_, n, .inr (.inl f)), .inl (cA, _, .inr (.inl _)) => .inl (cA, n, .inr (.inl f))
  | _, x => x
theorem arrV_cong {cA : ClassId} {n : Nat} {f g : Nat → Value} (h : ∀ i, i < n → f i = g i) : arrV cA n f = arrV cA n g := by
  unfold arrV
  congr 1
  congr 1
  funext j
  exact h j.val j.isLt
theorem fixC_ok {b : Nat} {ad : List Nat} {tys : List (ClassId × FieldType)} {D : va_G} {H : Heap} {e e' : aE} {x : va_E} {a : Nat} (hq : eqvC e e' = true) (hc : CR b ad tys e x) (hx : va_at D vwCl (a, x) H) : CR b ad tys e' (fixC e' x) ∧ va_at D vwCl (a, fixC e' x) H := by
  obtain ⟨ty, n, c⟩ | ⟨ci, fs⟩ := e
  · obtain ⟨ty', n', c'⟩ | ⟨ci', fs'⟩ := e'
    · simp only [eqvC, Bool.and_eq_true, decide_eq_true_eq] at hq
      obtain ⟨⟨q1, q2⟩, q3⟩ := hq
      subst q1; subst q2
      obtain ⟨cA, c9, rfl, ht, har⟩ := hc
      obtain f | f | f | f | f := c
      · obtain f' | z := c'
        · obtain g | z := c9
          · cases (show f = g from har)
            refine ⟨⟨cA, _, rfl, ht, rfl⟩, ?_⟩
            have hh : ∀ i, i < n → f i = f' i := fun i hi => of_decide_eq_true (List.all_eq_true.mp q3 i (List.mem_range.mpr hi))
            show H[a]? = some (vp_cell cA (n, .inl f'))
            rw [vp_cell_i, ← arrV_cong (f := fun j => .int (f j)) (fun i hi => by rw [hh i hi])]
            exact hx
          · exact absurd har (by simp [AR])
        · exact absurd q3 (by simp [eqvA])
      · obtain z | f' | z := c'
        · exact absurd q3 (by simp [eqvA])
        · obtain z | g | z := c9
          · exact absurd har (by simp [AR])
          · cases (show f = g from har)
            refine ⟨⟨cA, _, rfl, ht, rfl⟩, ?_⟩
            have hh : ∀ i, i < n → f i = f' i := fun i hi => of_decide_eq_true (List.all_eq_true.mp q3 i (List.mem_range.mpr hi))
            show H[a]? = some (vp_cell cA (n, .inr (.inl f')))
            rw [vp_cell_l, ← arrV_cong (f := fun j => .long (f j)) (fun i hi => by rw [hh i hi])]
            exact hx
          · exact absurd har (by simp [AR])
        · exact absurd q3 (by simp [eqvA])
      · exact absurd har (by simp [AR])
      · exact absurd har (by simp [AR])
      · obtain z | z | z | z | f' := c'
        · exact absurd q3 (by simp [eqvA])
        · exact absurd q3 (by simp [eqvA])
        · exact absurd q3 (by simp [eqvA])
        · exact absurd q3 (by simp [eqvA])
        · refine ⟨⟨cA, c9, rfl, ht, ?_⟩, hx⟩
          obtain z | z | z | z | g := c9
          · exact absurd har (by simp [AR])
          · exact absurd har (by simp [AR])
          · exact absurd har (by simp [AR])
          · exact absurd har (by simp [AR])
          · intro i hi
            have e : f i = f' i := of_decide_eq_true (List.all_eq_true.mp q3 i (List.mem_range.mpr hi))
            have := har i hi
            rw [e] at this
            exact this
    · exact absurd hq (by simp [eqvC])
  · obtain ⟨ty', n', c'⟩ | ⟨ci', fs'⟩ := e'
    · exact absurd hq (by simp [eqvC])
    · simp only [eqvC, Bool.and_eq_true, decide_eq_true_eq] at hq
      obtain ⟨q1, q2⟩ := hq
      subst q1; subst q2
      exact ⟨hc, hx⟩
theorem eqvH_at : ∀ {h h' : aH}, eqvH h h' = true → h.length = h'.length ∧ ∀ (i : Nat) (e' : aE), h'[i]? = some e' → ∃ e, h[i]? = some e ∧ eqvC e e' = true
  | [], [], _ => ⟨rfl, fun i e' h => by simp at h⟩
  | e :: h, e' :: h', hq => by
    simp only [eqvH, Bool.and_eq_true] at hq
    obtain ⟨h1, h2⟩ := eqvH_at hq.2
    refine ⟨by simp [h1], fun i e9 hi => ?_⟩
    cases i with
    | zero => rw [List.getElem?_cons_zero] at hi ⊢; cases hi; exact ⟨e, rfl, hq.1⟩
    | succ i => rw [List.getElem?_cons_succ] at hi ⊢; exact h2 i e9 hi
  | [], _ :: _, hq => by simp [eqvH] at hq
  | _ :: _, [], hq => by simp [eqvH] at hq
theorem World.eqv {D : va_G} {A : Nat → Prop} {b : Nat} {ad : List Nat} {h h' : aH} {H : Heap} {s : State} (hq : eqvH h h' = true) (w : World D A b ad h H s) : World D A b ad h' H s := by
  obtain ⟨ws, tys, hP, hD, hK, hR⟩ := w
  obtain ⟨hl, hat⟩ := eqvH_at hq
  have hws : ws.length = h'.length := by rw [hR.1]; exact hl
  let ws' : va_W := List.zipWith (fun e' q => (q.1, fixC e' q.2)) h' ws
  have hz : ∀ (i : Nat) (q' : Nat × va_E), ws'[i]? = some q' → ∃ q e', ws[i]? = some q ∧ h'[i]? = some e' ∧ q' = (q.1, fixC e' q.2) := by
    intro i q' hi
    rw [List.getElem?_zipWith] at hi
    cases h1 : h'[i]? with
    | none => rw [h1] at hi; cases hi
    | some e' =>
      cases h2 : ws[i]? with
      | none => rw [h1, h2] at hi; cases hi
      | some q => rw [h1, h2] at hi; cases hi; exact ⟨q, e', rfl, rfl, rfl⟩
  have key : ∀ (i : Nat) (q : Nat × va_E) (e' : aE), ws[i]? = some q → h'[i]? = some e' → CR b ad tys e' (fixC e' q.2) ∧ va_at D vwCl (q.1, fixC e' q.2) H := by
    intro i q e' h1 h2
    obtain ⟨e, h3, h4⟩ := hat i e' h2
    obtain ⟨a, x, h5, -, h6⟩ := hR.2.2 i e h3
    rw [h1] at h5
    cases h5
    exact fixC_ok h4 h6 (hP i _ h1)
  refine ⟨ws', tys, fun i q' hi => ?_, ⟨fun i j p q hi hj hpq => ?_, fun i q hi => ?_⟩, hK, ?_, ?_, fun i e' hi => ?_⟩
  · obtain ⟨q, e', h1, h2, rfl⟩ := hz i q' hi
    exact (key i q e' h1 h2).2
  · obtain ⟨p0, e1, h1, h2, rfl⟩ := hz i p hi
    obtain ⟨q0, e2, h3, h4, rfl⟩ := hz j q hj
    exact hD.1 i j p0 q0 h1 h3 hpq
  · obtain ⟨q0, e2, h3, h4, rfl⟩ := hz i q hi
    exact hD.2 i q0 h3
  · show (List.zipWith _ h' ws).length = h'.length
    rw [List.length_zipWith, hws, Nat.min_self]
  · rw [← hR.2.1]
    apply List.ext_getElem?
    intro i
    rw [List.getElem?_map, List.getElem?_map]
    show ((List.zipWith _ h' ws)[i]?).map _ = _
    rw [List.getElem?_zipWith]
    cases h2 : ws[i]? with
    | none => cases h1 : h'[i]? <;> rfl
    | some q =>
      have : i < h'.length := by rw [← hws]; exact (List.getElem?_eq_some_iff.mp h2).1
      rw [List.getElem?_eq_getElem this]; rfl
  · have : i < ws.length := by rw [hws]; exact (List.getElem?_eq_some_iff.mp hi).1
    have h1 := List.getElem?_eq_getElem this
    refine ⟨(ws[i]).1, fixC e' (ws[i]).2, ?_, ?_, (key i _ e' h1 hi).1⟩
    · show (List.zipWith _ h' ws)[i]? = _
      rw [List.getElem?_zipWith, hi, h1]
    · rw [← hR.2.1, List.getElem?_map, h1]; rfl
