/-! WHAT M1'S STATES ARE IN THE JVM -/
def RV (b : Nat) (ad : List Nat) (v v' : Value) : Prop := match v with
  | .ref n => if n = sCR then v' = .ref b else ∃ a, ad[n]? = some a ∧ v' = .ref a
  | w => v' = w
def RVs (b : Nat) (ad : List Nat) : List Value → List Value → Prop
  | [], S' => S' = []
  | v :: S, S' => ∃ v' R', S' = v' :: R' ∧ RV b ad v v' ∧ RVs b ad S R'
theorem RV_ref {b : Nat} {ad : List Nat} {n : Nat} {v' : Value} : RV b ad (.ref n) v' ↔ (if n = sCR then v' = .ref b else ∃ a, ad[n]? = some a ∧ v' = .ref a) := Iff.rfl
theorem RV_int {b : Nat} {ad : List Nat} {x : Int32} {v' : Value} (h : RV b ad (.int x) v') : v' = .int x := h
theorem RV_long {b : Nat} {ad : List Nat} {x : Int64} {v' : Value} (h : RV b ad (.long x) v') : v' = .long x := h
theorem pf_at {α : Type} {a r : List α} {n : Nat} {x : α} (h : a[n]? = some x) : (a ++ r)[n]? = some x := by
  rw [List.getElem?_append_left (List.getElem?_eq_some_iff.mp h).1]; exact h
theorem RV.mono {b : Nat} {ad r : List Nat} {v v' : Value} (h : RV b ad v v') : RV b (ad ++ r) v v' := by
  cases v with
  | ref n =>
    rw [RV_ref] at h ⊢
    by_cases hn : n = sCR
    · rw [if_pos hn] at h ⊢; exact h
    · rw [if_neg hn] at h ⊢
      obtain ⟨a, h1, h2⟩ := h
      exact ⟨a, pf_at h1, h2⟩
  | _ => exact h
theorem RV.cat {b : Nat} {ad : List Nat} {v v' : Value} (h : RV b ad v v') : v'.category = v.category := by
  cases v with
  | ref n =>
    rw [RV_ref] at h
    by_cases hn : n = sCR
    · rw [if_pos hn] at h; rw [h]; rfl
    · rw [if_neg hn] at h
      obtain ⟨a, -, h2⟩ := h
      rw [h2]; rfl
  | _ => rw [show v' = _ from h]
theorem RV.isRef {b : Nat} {ad : List Nat} {n : Nat} {v' : Value} (h : RV b ad (.ref n) v') : ∃ a, v' = .ref a := by
  rw [RV_ref] at h
  by_cases hn : n = sCR
  · rw [if_pos hn] at h; exact ⟨_, h⟩
  · rw [if_neg hn] at h
    obtain ⟨a, -, h2⟩ := h
    exact ⟨a, h2⟩
theorem RVs.mono {b : Nat} {ad r : List Nat} : ∀ {S S' : List Value}, RVs b ad S S' → RVs b (ad ++ r) S S'
  | [], _, h => h
  | _ :: _, _, ⟨v', R', h1, h2, h3⟩ => ⟨v', R', h1, h2.mono, h3.mono⟩
theorem RVs.words {b : Nat} {ad : List Nat} : ∀ {S S' : List Value}, RVs b ad S S' → (S'.map fun v => v.category).sum = a_words S
  | [], _, h => by rw [show _ = [] from h]; rfl
  | v :: S, _, ⟨v', R', h1, h2, h3⟩ => by
    subst h1
    simp only [a_words, List.map_cons, List.sum_cons]
    rw [h2.cat, h3.words]; rfl
theorem RVs.length {b : Nat} {ad : List Nat} : ∀ {S S' : List Value}, RVs b ad S S' → S'.length = S.length
  | [], _, h => by rw [show _ = [] from h]
  | v :: S, _, ⟨v', R', h1, h2, h3⟩ => by subst h1; simp [h3.length]
theorem RVs.drop {b : Nat} {ad : List Nat} : ∀ (k : Nat) {S S' : List Value}, RVs b ad S S' → RVs b ad (S.drop k) (S'.drop k)
  | 0, _, _, h => h
  | k + 1, [], _, h => by rw [show _ = [] from h]; exact (rfl : RVs b ad [] [])
  | k + 1, v :: S, _, ⟨v', R', h1, h2, h3⟩ => by subst h1; exact h3.drop k
theorem RVs.take {b : Nat} {ad : List Nat} : ∀ (k : Nat) {S S' : List Value}, RVs b ad S S' → RVs b ad (S.take k) (S'.take k)
  | 0, _, _, h => by rw [List.take_zero, List.take_zero]; exact rfl
  | k + 1, [], _, h => by rw [show _ = [] from h]; exact (rfl : RVs b ad [] [])
  | k + 1, v :: S, _, ⟨v', R', h1, h2, h3⟩ => by subst h1; exact ⟨v', R'.take k, rfl, h2, h3.take k⟩
theorem RVs.app {b : Nat} {ad : List Nat} : ∀ {S S' T T' : List Value}, RVs b ad S S' → RVs b ad T T' → RVs b ad (S ++ T) (S' ++ T')
  | [], _, T, T', h, k => by rw [show _ = [] from h]; exact k
  | v :: S, _, T, T', ⟨v', R', h1, h2, h3⟩, k => by subst h1; exact ⟨v', R' ++ T', rfl, h2, h3.app k⟩
theorem RVs.rev {b : Nat} {ad : List Nat} : ∀ {S S' : List Value}, RVs b ad S S' → RVs b ad S.reverse S'.reverse
  | [], _, h => by rw [show _ = [] from h]; exact rfl
  | v :: S, _, ⟨v', R', h1, h2, h3⟩ => by
    subst h1
    rw [List.reverse_cons, List.reverse_cons]
    exact h3.rev.app ⟨v', [], rfl, h2, rfl⟩
theorem RVs.at {b : Nat} {ad : List Nat} : ∀ {S S' : List Value} {k : Nat} {v : Value}, RVs b ad S S' → S[k]? = some v → ∃ v', S'[k]? = some v' ∧ RV b ad v v'
  | [], _, _, _, _, h => by simp at h
  | w :: S, _, 0, v, ⟨v', R', h1, h2, h3⟩, h => by subst h1; rw [List.getElem?_cons_zero] at h; cases h; exact ⟨v', rfl, h2⟩
  | w :: S, _, k + 1, v, ⟨v', R', h1, h2, h3⟩, h => by subst h1; rw [List.getElem?_cons_succ] at h ⊢; exact h3.at h
theorem RVs.set {b : Nat} {ad : List Nat} : ∀ {S S' : List Value} (k : Nat) {v v' : Value}, RVs b ad S S' → RV b ad v v' → RVs b ad (S.set k v) (S'.set k v')
  | [], _, _, _, _, h, _ => by rw [show _ = [] from h]; exact (rfl : RVs b ad [] [])
  | w :: S, _, 0, v, v', ⟨w', R', h1, h2, h3⟩, h => by subst h1; exact ⟨v', R', rfl, h, h3⟩
  | w :: S, _, k + 1, v, v', ⟨w', R', h1, h2, h3⟩, h => by subst h1; exact ⟨w', R'.set k v', rfl, h2, h3.set k h⟩
theorem RVs.c1 {b : Nat} {ad : List Nat} {v : Value} {S S' : List Value} (h : RVs b ad (v :: S) S') : ∃ v' R', S' = v' :: R' ∧ RV b ad v v' ∧ RVs b ad S R' := h
/-- the locals -/
def LR (b : Nat) (ad : List Nat) (L : aL) (ls : Array Slot) : Prop := ls.size = L.length ∧ lv_wf ls ∧ ∀ (k : Nat) (v : Value), a_get L k = some v → ∃ v', ls[k]? = some (.val v') ∧ RV b ad v v'
theorem LR.mono {b : Nat} {ad r : List Nat} {L : aL} {ls : Array Slot} (h : LR b ad L ls) : LR b (ad ++ r) L ls := ⟨h.1, h.2.1, fun k v hk => by obtain ⟨v', h1, h2⟩ := h.2.2 k v hk; exact ⟨v', h1, h2.mono⟩⟩
theorem a_get_lt {L : aL} {k : Nat} {v : Value} (h : a_get L k = some v) : L[k]? = some (some v) := by
  unfold a_get at h
  split at h <;> simp_all
theorem a_get_some {L : aL} {k : Nat} {v : Value} (h : L[k]? = some (some v)) : a_get L k = some v := by unfold a_get; rw [h]
theorem a_kill_len (L : aL) (k : Nat) : (a_kill L k).length = L.length := by
  unfold a_kill
  split
  · rfl
  · split
    · split <;> simp
    · rfl
theorem a_kill_get {L : aL} {k j : Nat} {v : Value} (h : a_get (a_kill L k) j = some v) : a_get L j = some v ∧ ¬ (j + 1 = k ∧ v.category = 2) := by
  unfold a_kill at h
  split at h
  · exact ⟨h, by omega⟩
  · rename_i i
    split at h
    · rename_i w hw
      split at h
      · rename_i hc
        by_cases hj : j = i
        · subst hj
          have := a_get_lt h
          rw [List.getElem?_set] at this
          simp at this
        · have h2 := a_get_lt h
          rw [List.getElem?_set_ne (Ne.symm hj)] at h2
          exact ⟨a_get_some h2, by omega⟩
      · rename_i hc
        refine ⟨h, fun q => ?_⟩
        have e : j = i := by omega
        subst e
        rw [hw] at h
        cases h
        exact hc q.2
    · rename_i hw
      refine ⟨h, fun q => ?_⟩
      have e : j = i := by omega
      subst e
      rw [hw] at h
      cases h
theorem a_set1_len (L : aL) (k : Nat) (v : Value) : (a_set1 L k v).length = L.length := by unfold a_set1; rw [List.length_set, a_kill_len]
theorem a_set2_len (L : aL) (k : Nat) (v : Value) : (a_set2 L k v).length = L.length := by unfold a_set2; rw [List.length_set, List.length_set, a_kill_len]
theorem a_set1_get {L : aL} {k j : Nat} {v w : Value} (h : a_get (a_set1 L k v) j = some w) : (j = k ∧ w = v) ∨ (j ≠ k ∧ a_get L j = some w ∧ ¬ (j + 1 = k ∧ w.category = 2)) := by
  unfold a_set1 at h
  by_cases hj : j = k
  · subst hj
    have h2 := a_get_lt h
    rw [List.getElem?_set] at h2
    simp only [if_true] at h2
    split at h2
    · cases h2; exact Or.inl ⟨rfl, rfl⟩
    · cases h2
  · have h2 := a_get_lt h
    rw [List.getElem?_set_ne (Ne.symm hj)] at h2
    exact Or.inr ⟨hj, a_kill_get (a_get_some h2)⟩
theorem a_set2_get {L : aL} {k j : Nat} {v w : Value} (h : a_get (a_set2 L k v) j = some w) : (j = k ∧ w = v) ∨ (j ≠ k ∧ j ≠ k + 1 ∧ a_get L j = some w ∧ ¬ (j + 1 = k ∧ w.category = 2)) := by
  unfold a_set2 at h
  have h2 := a_get_lt h
  by_cases hk : j = k + 1
  · subst hk
    rw [List.getElem?_set] at h2
    simp at h2
  · rw [List.getElem?_set_ne (Ne.symm hk)] at h2
    rcases a_set1_get (L := L) (k := k) (v := v) (a_get_some h2) with q | q
    · exact Or.inl q
    · exact Or.inr ⟨q.1, hk, q.2⟩
/-- all that the locals hold -/
def lvAll (ls : Array Slot) : List (Nat × Value) := (List.range ls.size).filterMap (fun (k : Nat) => match (ls[k]? : Option Slot) with
  | some (Slot.val v) => some (k, v)
  | _ => none)
theorem lvAll_mem {ls : Array Slot} {k : Nat} {v : Value} : (k, v) ∈ lvAll ls ↔ ls[k]? = some (.val v) := by
  unfold lvAll
  rw [List.mem_filterMap]
  constructor
  · rintro ⟨i, -, h⟩
    split at h
    · rename_i w hw
      cases h
      exact hw
    · cases h
  · intro h
    refine ⟨k, List.mem_range.mpr (Array.getElem?_eq_some_iff.mp h).1, ?_⟩
    rw [h]
theorem lvAll_has {ls : Array Slot} (h : lv_wf ls) : lv_has ls ls.size (lvAll ls) := ⟨rfl, h, fun q hq => lvAll_mem.mp hq⟩
theorem LR.set1 {b : Nat} {ad : List Nat} {L : aL} {ls ls' : Array Slot} {k : Nat} {v v' : Value} (h : LR b ad L ls) (hv : RV b ad v v')
    (h' : lv_has ls' ls.size ((k, v') :: (lvAll ls).filter (fun q => !(q.1 == k) && !(q.1 + 1 == k && q.2.category == 2)))) : LR b ad (a_set1 L k v) ls' := by
  refine ⟨by rw [a_set1_len, ← h.1]; exact h'.1, h'.2.1, fun j w hj => ?_⟩
  rcases a_set1_get hj with ⟨h1, h2⟩ | ⟨h1, h2, h3⟩
  · subst h1; subst h2
    exact ⟨v', h'.2.2 (j, v') List.mem_cons_self, hv⟩
  · obtain ⟨w', h4, h5⟩ := h.2.2 j w h2
    refine ⟨w', h'.2.2 (j, w') (List.mem_cons_of_mem _ (List.mem_filter.mpr ⟨lvAll_mem.mpr h4, ?_⟩)), h5⟩
    simp only [Bool.and_eq_true, Bool.not_eq_true', beq_eq_false_iff_ne, ne_eq, Bool.and_eq_false_iff]
    refine ⟨h1, ?_⟩
    by_cases q : j + 1 = k
    · exact Or.inr (by rw [h5.cat]; exact fun z => h3 ⟨q, z⟩)
    · exact Or.inl q
theorem LR.set2 {b : Nat} {ad : List Nat} {L : aL} {ls ls' : Array Slot} {k : Nat} {v v' : Value} (h : LR b ad L ls) (hv : RV b ad v v')
    (h' : lv_has ls' ls.size ((k, v') :: (lvAll ls).filter (fun q => !(q.1 == k) && (!(q.1 == k + 1) && !(q.1 + 1 == k && q.2.category == 2))))) : LR b ad (a_set2 L k v) ls' := by
  refine ⟨by rw [a_set2_len, ← h.1]; exact h'.1, h'.2.1, fun j w hj => ?_⟩
  rcases a_set2_get hj with ⟨h1, h2⟩ | ⟨h1, h0, h2, h3⟩
  · subst h1; subst h2
    exact ⟨v', h'.2.2 (j, v') List.mem_cons_self, hv⟩
  · obtain ⟨w', h4, h5⟩ := h.2.2 j w h2
    refine ⟨w', h'.2.2 (j, w') (List.mem_cons_of_mem _ (List.mem_filter.mpr ⟨lvAll_mem.mpr h4, ?_⟩)), h5⟩
    simp only [Bool.and_eq_true, Bool.not_eq_true', beq_eq_false_iff_ne, ne_eq, Bool.and_eq_false_iff]
    refine ⟨h1, h0, ?_⟩
    by_cases q : j + 1 = k
    · exact Or.inr (by rw [h5.cat]; exact fun z => h3 ⟨q, z⟩)
    · exact Or.inl q
/-- the cells -/
def AR (b : Nat) (ad : List Nat) (n : Nat) (c c' : (Nat → Int32) ⊕ (Nat → Int64) ⊕ (Nat → UInt32) ⊕ (Nat → UInt64) ⊕ (Nat → Option Nat)) : Prop := match c, c' with
  | .inl f, .inl g => f = g
  | .inr (.inl f), .inr (.inl g) => f = g
  | .inr (.inr (.inr (.inr f))), .inr (.inr (.inr (.inr g))) => ∀ i, i < n → match f i with
    | none => g i = none
    | some k => ∃ a, RV b ad (.ref k) (.ref a) ∧ g i = some a
  | _, _ => False
def CR (b : Nat) (ad : List Nat) (tys : List (ClassId × FieldType)) (e : aE) (x : va_E) : Prop := match e with
  | .inl (ty, n, c) => ∃ cA c', x = .inl (cA, n, c') ∧ (∃ t0 : Nat, tys[t0]? = some (cA, ty)) ∧ AR b ad n c c'
  | .inr (ci, fs) => ∃ fs', x = .inr (ci, fs') ∧ RVs b ad fs fs'
def WR (b : Nat) (ad : List Nat) (tys : List (ClassId × FieldType)) (h : aH) (ws : va_W) : Prop := ws.length = h.length ∧ ws.map Prod.fst = ad ∧ ∀ (i : Nat) (e : aE), h[i]? = some e → ∃ a x, ws[i]? = some (a, x) ∧ ad[i]? = some a ∧ CR b ad tys e x
def World (D : va_G) (A : Nat → Prop) (b : Nat) (ad : List Nat) (h : aH) (H : Heap) (s : State) : Prop := ∃ (ws : va_W) (tys : List (ClassId × FieldType)), va_P D vwCl ws H ∧ va_D A ws ∧ va_K D vwCl tys s ∧ WR b ad tys h ws
theorem AR.mono {b : Nat} {ad r : List Nat} {n : Nat} {c c' : (Nat → Int32) ⊕ (Nat → Int64) ⊕ (Nat → UInt32) ⊕ (Nat → UInt64) ⊕ (Nat → Option Nat)} (h : AR b ad n c c') : AR b (ad ++ r) n c c' := by
  unfold AR at h ⊢
  split at h
  · exact h
  · exact h
  · intro i hi
    have h1 := h i hi
    split at h1
    · exact h1
    · rename_i k q
      obtain ⟨a, h2, h3⟩ := h1
      exact ⟨a, h2.mono, h3⟩
  · exact h
theorem CR.mono {b : Nat} {ad r : List Nat} {tys ty2 : List (ClassId × FieldType)} {e : aE} {x : va_E} (h : CR b ad tys e x) : CR b (ad ++ r) (tys ++ ty2) e x := by
  obtain ⟨ty, n, c⟩ | ⟨ci, fs⟩ := e
  · obtain ⟨cA, c', h1, ⟨t0, h2⟩, h3⟩ := h
    exact ⟨cA, c', h1, ⟨t0, pf_at h2⟩, h3.mono⟩
  · obtain ⟨fs', h1, h2⟩ := h
    exact ⟨fs', h1, h2.mono⟩
theorem WR.ad_len {b : Nat} {ad : List Nat} {tys : List (ClassId × FieldType)} {h : aH} {ws : va_W} (w : WR b ad tys h ws) : ad.length = h.length := by rw [← w.2.1, List.length_map, w.1]
/-- one cell anew -/
theorem WR.set {b : Nat} {ad : List Nat} {tys : List (ClassId × FieldType)} {h : aH} {ws : va_W} (w : WR b ad tys h ws) {n a : Nat} {x x' : va_E} {e' : aE} (hn : ws[n]? = some (a, x)) (hc : CR b ad tys e' x') : WR b ad tys (h.set n e') (ws.set n (a, x')) := by
  have hl := (List.getElem?_eq_some_iff.mp hn).1
  refine ⟨by rw [List.length_set, List.length_set]; exact w.1, ?_, fun i e hi => ?_⟩
  · rw [← w.2.1, List.map_set]
    apply List.ext_getElem?
    intro i
    by_cases hi : i = n
    · subst hi
      rw [List.getElem?_set_self (by simpa using hl), List.getElem?_map, hn]; rfl
    · rw [List.getElem?_set_ne (Ne.symm hi)]
  · by_cases hin : i = n
    · subst hin
      rw [List.getElem?_set_self (by rw [← w.1]; exact hl)] at hi
      cases hi
      refine ⟨a, x', by rw [List.getElem?_set_self hl], ?_, hc⟩
      rw [← w.2.1, List.getElem?_map, hn]; rfl
    · rw [List.getElem?_set_ne (Ne.symm hin)] at hi ⊢
      exact w.2.2 i e hi
/-- one cell more -/
theorem WR.push {b : Nat} {ad : List Nat} {tys ty2 : List (ClassId × FieldType)} {h : aH} {ws : va_W} (w : WR b ad tys h ws) {a : Nat} {x : va_E} {e : aE} (hc : CR b (ad ++ [a]) (tys ++ ty2) e x) : WR b (ad ++ [a]) (tys ++ ty2) (h ++ [e]) (ws ++ [(a, x)]) := by
  have hal := w.ad_len
  refine ⟨by simp [w.1], by rw [List.map_append, w.2.1]; rfl, fun i e1 hi => ?_⟩
  by_cases hlt : i < h.length
  · rw [List.getElem?_append_left hlt] at hi
    obtain ⟨a1, x1, h1, h2, h3⟩ := w.2.2 i e1 hi
    exact ⟨a1, x1, pf_at h1, pf_at h2, h3.mono⟩
  · have hl2 := (List.getElem?_eq_some_iff.mp hi).1
    rw [List.length_append] at hl2
    have e0 : i = h.length := by simp at hl2; omega
    subst e0
    rw [List.getElem?_append_right (Nat.le_refl _), Nat.sub_self] at hi
    cases hi
    refine ⟨a, x, ?_, ?_, hc⟩
    · rw [← w.1, List.getElem?_append_right (Nat.le_refl _), Nat.sub_self]; rfl
    · rw [← hal, List.getElem?_append_right (Nat.le_refl _), Nat.sub_self]; rfl
