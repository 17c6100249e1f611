/-! WHAT M2 DOES, M1 DOES -/
def a_isCall (x : Instr) : Bool := match x with
  | .invokevirtual _ => true | .invokestatic _ => true | .invokespecial _ => true | .tableswitch _ _ _ _ => true | _ => false
/-- an instruction that is no call, by its groups -/
theorem wp1_plain {xs : Nat × (Nat → Int32)} {C : Nat → List Value → aH → (Option Value → aH → Prop) → Prop} {T : List aM} {tbl : List xI} {rt : Option FieldType} {Q : Option Value → aH → Prop} {n i : Nat} {L : aL} {S : List Value} {h : aH} {bc bs : Nat} {x : xI} (hx : tbl[i]? = some x) (hp : a_isCall x.1 = false) :
    wp1 xs C T tbl rt Q (n + 1) i L S h bc bs = (match a_ret x.1 rt S with
        | some r => Q r h
        | none => match a_pure x.1 x.2.2.2.2.2.1 S with
          | some R => wp1 xs C T tbl rt Q n (i + 1) L R h bc bs
          | none => match a_load x.1 L with
            | some v => wp1 xs C T tbl rt Q n (i + 1) L (v :: S) h bc bs
            | none => match a_store x.1 L S with
              | some (L', R) => wp1 xs C T tbl rt Q n (i + 1) L' R h bc bs
              | none => match a_br x.1 S with
                | some (b, R) => wp1 xs C T tbl rt Q n (if b then x.2.2.2.1 else i + 1) L R h bc bs
                | none => match a_read xs x S h with
                  | some R => wp1 xs C T tbl rt Q n (i + 1) L R h bc bs
                  | none => match a_write x S h with
                    | some (R, h') => wp1 xs C T tbl rt Q n (i + 1) L R h' bc bs
                    | none => match a_make x S h with
                      | some (R, h', kc, ks) => kc ≤ bc ∧ ks ≤ bs ∧ wp1 xs C T tbl rt Q n (i + 1) L R h' (bc - kc) (bs - ks)
                      | none => False) := by
  rw [wp1, hx]
  dsimp only
  split
  · rename_i e; rw [e] at hp; cases hp
  · rename_i e; rw [e] at hp; cases hp
  · rename_i e; rw [e] at hp; cases hp
  · rename_i e; rw [e] at hp; cases hp
  · rfl
theorem wp1_call {xs : Nat × (Nat → Int32)} {C : Nat → List Value → aH → (Option Value → aH → Prop) → Prop} {T : List aM} {tbl : List xI} {rt : Option FieldType} {Q : Option Value → aH → Prop} {n i : Nat} {L : aL} {S : List Value} {h : aH} {bc bs : Nat} {x : xI} (hx : tbl[i]? = some x) :
    (∀ idx, x.1 = .invokevirtual idx → wp1 xs C T tbl rt Q (n + 1) i L S h bc bs = (a_rcv h x.2.2.2.2.2.1 (S.take x.2.2.2.2.1).reverse = true ∧ a_words (S.drop x.2.2.2.2.1) ≤ 8 ∧ x.2.2.2.2.1 ≤ S.length ∧ ∃ M, T[x.2.2.2.1]? = some M ∧ M.2.2.2.2.2.1.1 ≤ bc ∧ M.2.2.2.2.2.1.2 ≤ bs ∧ C x.2.2.2.1 (S.take x.2.2.2.2.1).reverse h (fun r h' => wp1 xs C T tbl rt Q n (i + 1) L (r.toList ++ S.drop x.2.2.2.2.1) h' (bc - M.2.2.2.2.2.1.1) (bs - M.2.2.2.2.2.1.2)))) ∧
    (∀ idx, x.1 = .invokestatic idx → wp1 xs C T tbl rt Q (n + 1) i L S h bc bs = (if x.2.2.2.1 = idCopy then (∃ R h', a_copy S h = some (R, h') ∧ a_words R ≤ 8 ∧ wp1 xs C T tbl rt Q n (i + 1) L R h' bc bs) else a_words (S.drop x.2.2.2.2.1) ≤ 8 ∧ x.2.2.2.2.1 ≤ S.length ∧ ∃ M, T[x.2.2.2.1]? = some M ∧ M.2.2.2.2.2.1.1 ≤ bc ∧ M.2.2.2.2.2.1.2 ≤ bs ∧ C x.2.2.2.1 (S.take x.2.2.2.2.1).reverse h (fun r h' => wp1 xs C T tbl rt Q n (i + 1) L (r.toList ++ S.drop x.2.2.2.2.1) h' (bc - M.2.2.2.2.2.1.1) (bs - M.2.2.2.2.2.1.2)))) ∧
    (∀ idx, x.1 = .invokespecial idx → wp1 xs C T tbl rt Q (n + 1) i L S h bc bs = (if x.2.2.2.1 = idInit then (∃ v R, S = .ref v :: R ∧ a_words R ≤ 8 ∧ wp1 xs C T tbl rt Q n (i + 1) L R h bc bs) else a_isR (S.take x.2.2.2.2.1).reverse = true ∧ a_words (S.drop x.2.2.2.2.1) ≤ 8 ∧ x.2.2.2.2.1 ≤ S.length ∧ ∃ M, T[x.2.2.2.1]? = some M ∧ M.2.2.2.2.2.1.1 ≤ bc ∧ M.2.2.2.2.2.1.2 ≤ bs ∧ C x.2.2.2.1 (S.take x.2.2.2.2.1).reverse h (fun r h' => wp1 xs C T tbl rt Q n (i + 1) L (r.toList ++ S.drop x.2.2.2.2.1) h' (bc - M.2.2.2.2.2.1.1) (bs - M.2.2.2.2.2.1.2)))) ∧
    (∀ d lo hi offs, x.1 = .tableswitch d lo hi offs → wp1 xs C T tbl rt Q (n + 1) i L S h bc bs = (match S with
        | .int v :: R => (match a_sw lo hi x.2.2.2.2.2.2 v with | some j => wp1 xs C T tbl rt Q n j L R h bc bs | none => False)
        | _ => False)) := by
  rw [wp1, hx]
  dsimp only
  refine ⟨fun idx e => ?_, fun idx e => ?_, fun idx e => ?_, fun d lo hi offs e => ?_⟩
  · rw [e]
  · rw [e]
  · rw [e]
  · rw [e] <;> rfl
/-- more steps do no harm -/
theorem wp1_mono {xs : Nat × (Nat → Int32)} {C : Nat → List Value → aH → (Option Value → aH → Prop) → Prop} {T : List aM} {tbl : List xI} {rt : Option FieldType} {Q Q' : Option Value → aH → Prop} (hC : ∀ j a h Q Q', (∀ r h', Q r h' → Q' r h') → C j a h Q → C j a h Q') (hQ : ∀ r h, Q r h → Q' r h) :
    ∀ (n n' i : Nat) (L : aL) (S : List Value) (h : aH) (bc bs bc' bs' : Nat), n ≤ n' → bc ≤ bc' → bs ≤ bs' → wp1 xs C T tbl rt Q n i L S h bc bs → wp1 xs C T tbl rt Q' n' i L S h bc' bs' := by
  intro n
  induction n with
  | zero => intro n' i L S h bc bs bc' bs' _ _ _ hw; exact hw.elim
  | succ n ih =>
    intro n' i L S h bc bs bc' bs' hn hbc hbs hw
    obtain ⟨n', rfl⟩ : ∃ k, n' = k + 1 := ⟨n' - 1, by omega⟩
    have hn' : n ≤ n' := by omega
    cases hx : tbl[i]? with
    | none => unfold wp1 at hw; rw [hx] at hw; exact hw.elim
    | some x =>
      cases hc : a_isCall x.1 with
      | false =>
        rw [wp1_plain hx hc] at hw ⊢
        split at hw
        · rename_i r e; exact hQ _ _ hw
        split at hw
        · rename_i r e; exact ih _ _ _ _ _ _ _ _ _ hn' hbc hbs hw
        split at hw
        · rename_i r e; exact ih _ _ _ _ _ _ _ _ _ hn' hbc hbs hw
        split at hw
        · rename_i L' r e; exact ih _ _ _ _ _ _ _ _ _ hn' hbc hbs hw
        split at hw
        · rename_i t r e; exact ih _ _ _ _ _ _ _ _ _ hn' hbc hbs hw
        split at hw
        · rename_i r e; exact ih _ _ _ _ _ _ _ _ _ hn' hbc hbs hw
        split at hw
        · rename_i r h' e; exact ih _ _ _ _ _ _ _ _ _ hn' hbc hbs hw
        split at hw
        · rename_i r h' kc ks e; exact ⟨by omega, by omega, ih _ _ _ _ _ _ _ _ _ hn' (by omega) (by omega) hw.2.2⟩
        · exact hw.elim
      | true =>
        have c1 := wp1_call (xs := xs) (C := C) (T := T) (rt := rt) (Q := Q) (n := n) (L := L) (S := S) (h := h) (bc := bc) (bs := bs) hx
        have c2 := wp1_call (xs := xs) (C := C) (T := T) (rt := rt) (Q := Q') (n := n') (L := L) (S := S) (h := h) (bc := bc') (bs := bs') hx
        cases e : x.1 <;> (rw [e] at hc) <;> try (cases hc; done)
        · rw [c1.2.2.1 _ e] at hw
          rw [c2.2.2.1 _ e]
          split
          · rename_i q
            rw [if_pos q] at hw
            obtain ⟨v, R, u1, u2, u3⟩ := hw
            exact ⟨v, R, u1, u2, ih _ _ _ _ _ _ _ _ _ hn' hbc hbs u3⟩
          · rename_i q
            rw [if_neg q] at hw
            obtain ⟨u1, u2, u3, M, u4, u5, u6, u7⟩ := hw
            exact ⟨u1, u2, u3, M, u4, by omega, by omega, hC _ _ _ _ _ (fun r h' z => ih _ _ _ _ _ _ _ _ _ hn' (by omega) (by omega) z) u7⟩
        · rw [c1.2.1 _ e] at hw
          rw [c2.2.1 _ e]
          split
          · rename_i q
            rw [if_pos q] at hw
            obtain ⟨R, h', u1, u2, u3⟩ := hw
            exact ⟨R, h', u1, u2, ih _ _ _ _ _ _ _ _ _ hn' hbc hbs u3⟩
          · rename_i q
            rw [if_neg q] at hw
            obtain ⟨u2, u3, M, u4, u5, u6, u7⟩ := hw
            exact ⟨u2, u3, M, u4, by omega, by omega, hC _ _ _ _ _ (fun r h' z => ih _ _ _ _ _ _ _ _ _ hn' (by omega) (by omega) z) u7⟩
        · rw [c1.1 _ e] at hw
          rw [c2.1 _ e]
          obtain ⟨u1, u2, u3, M, u4, u5, u6, u7⟩ := hw
          exact ⟨u1, u2, u3, M, u4, by omega, by omega, hC _ _ _ _ _ (fun r h' z => ih _ _ _ _ _ _ _ _ _ hn' (by omega) (by omega) z) u7⟩
        · rw [c1.2.2.2 _ _ _ _ e] at hw
          rw [c2.2.2.2 _ _ _ _ e]
          split at hw
          · split at hw
            · rename_i j ej
              exact ih _ _ _ _ _ _ _ _ _ hn' hbc hbs hw
            · exact hw.elim
          · exact hw.elim
theorem call1_mono {xs : Nat × (Nat → Int32)} {T : List aM} {P : Nat → Nat → List Value → aH → (Option Value → aH → Prop) → Prop} (hP : ∀ d j a h Q Q', (∀ r h', Q r h' → Q' r h') → P d j a h Q → P d j a h Q') : ∀ (d j : Nat) a h Q Q', (∀ r h', Q r h' → Q' r h') → call1 xs T P d j a h Q → call1 xs T P d j a h Q'
  | 0, j, a, h, Q, Q', hq, hc => hP 0 j a h Q Q' hq hc
  | d + 1, j, a, h, Q, Q', hq, hc => by
    rcases hc with hc | ⟨M, h1, h2, h3, n, h4⟩
    · exact Or.inl (hP _ _ _ _ _ _ hq hc)
    · exact Or.inr ⟨M, h1, h2, h3, n, wp1_mono (call1_mono hP d) hq n n _ _ _ _ _ _ _ _ (Nat.le_refl _) (Nat.le_refl _) (Nat.le_refl _) h4⟩
