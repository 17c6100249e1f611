/-! W2 IS CLOSED: from a stretch whose cuts hold, the stretch's head holds -/
theorem b_if_mono {c : Bool} {P P' : Prop} (h : P → P') (hw : b_if c P) : b_if c P' := by
  cases c
  · exact hw
  · exact h hw
theorem sws_mono {go go' : Nat → Prop} (h : ∀ j, go j → go' j) {v : Int32} : ∀ {r : List Nat} {lo : Int}, sws go v lo r → sws go' v lo r
  | [], _, _ => trivial
  | _ :: _, _, hw => ⟨fun q => h _ (hw.1 q), sws_mono h hw.2⟩
theorem c_ret_mono {kd : Nat} {go go' : List v2 → Mem → Prop} (h : ∀ R m, go R m → go' R m) {rest : List v2} {r : Option v2} {m : Mem} (hw : c_ret kd go rest r m) : c_ret kd go' rest r m := by
  unfold c_ret at hw ⊢
  split at hw
  · exact ⟨hw.1, h _ _ hw.2⟩
  · obtain ⟨x, h1, h2⟩ := hw; exact ⟨x, h1, h _ _ h2⟩
  · obtain ⟨x, h1, h2⟩ := hw; exact ⟨x, h1, h _ _ h2⟩
  · obtain ⟨x, h1, h2⟩ := hw; exact ⟨x, h1, h _ _ h2⟩
theorem b_copy_mono {t i t2 i2 : Nat} {sp dp n : Int32} {m : Mem} {go go' : Mem → Prop} (h : ∀ m, go m → go' m) (hw : b_copy t i t2 i2 sp dp n m go) : b_copy t i t2 i2 sp dp n m go' := by
  unfold b_copy at hw ⊢
  split at hw
  · exact ⟨hw.1, h _ hw.2⟩
  · exact ⟨hw.1, h _ hw.2⟩
  · exact hw.elim
set_option maxHeartbeats 4000000 in
theorem st2_mono {xs : Nat × (Nat → Int32)} {C : Nat → List v2 → Mem → (Option v2 → Mem → Prop) → Prop} {rt : Option FieldType} {Q Q' : Option v2 → Mem → Prop} {go go' : Nat → L2 → List v2 → Mem → Prop} (hC : ∀ j a m Q Q', (∀ r m', Q r m' → Q' r m') → C j a m Q → C j a m Q') (hQ : ∀ r m, Q r m → Q' r m) (hg : ∀ j L S m, go j L S m → go' j L S m) {x : xI} {i : Nat} {L : L2} {S : List v2} {m : Mem} (hw : st2 xs C rt Q go x i L S m) : st2 xs C rt Q' go' x i L S m := by
  obtain ⟨ins, pc, len, a, b, z, tg⟩ := x
  unfold st2 at hw ⊢
  dsimp only at hw ⊢
  cases ins <;> (try dsimp only at hw ⊢)
  case ifCond cd o9 =>
    cases cd <;> dsimp only at hw ⊢ <;> (split at hw <;> first | exact hw.elim | exact ⟨fun q => hg _ _ _ _ (hw.1 q), fun q => hg _ _ _ _ (hw.2 q)⟩)
  case if_icmp cd o9 =>
    cases cd <;> dsimp only at hw ⊢ <;> (split at hw <;> first | exact hw.elim | exact ⟨fun q => hg _ _ _ _ (hw.1 q), fun q => hg _ _ _ _ (hw.2 q)⟩)
  case tableswitch d lo hi offs =>
    split at hw
    · split at hw
      · exact b_if_mono (fun q => ⟨fun z => hg _ _ _ _ (q.1 z), sws_mono (fun j z => hg _ _ _ _ z) q.2⟩) hw
      · exact hw.elim
    · exact hw.elim
  case getfield idx =>
    split at hw
    · refine b_if_mono (fun q => ?_) hw
      split at q <;> exact hg _ _ _ _ q
    · exact hw.elim
  case putfield idx =>
    split at hw
    · refine b_if_mono (fun q => ?_) hw
      split at q
      · exact hg _ _ _ _ q
      · exact ⟨q.1, hg _ _ _ _ q.2⟩
      · exact q.elim
    · refine b_if_mono (fun q => ?_) hw
      split at q
      · exact hg _ _ _ _ q
      · exact q.elim
    · exact hw.elim
  case iaload =>
    split at hw
    · split at hw
      · exact ⟨hw.1, hg _ _ _ _ hw.2⟩
      · exact b_if_mono (fun q => ⟨q.1, hg _ _ _ _ q.2⟩) hw
    · exact hw.elim
  case arraylength =>
    split at hw
    · split at hw
      · exact hg _ _ _ _ hw
      · exact b_if_mono (fun q => hg _ _ _ _ q) hw
    · exact hw.elim
  case invokevirtual idx => exact b_if_mono (fun q => hC _ _ _ _ _ (fun r m' z => c_ret_mono (fun R m9 y => hg _ _ _ _ y) z) q) hw
  case invokestatic idx =>
    split at hw
    · split at hw
      · exact b_if_mono (fun q => b_copy_mono (fun m9 y => hg _ _ _ _ y) q) hw
      · exact hw.elim
    · exact b_if_mono (fun q => hC _ _ _ _ _ (fun r m' z => c_ret_mono (fun R m9 y => hg _ _ _ _ y) z) q) hw
  case ireturn =>
    split at hw
    · split at hw
      · exact hQ _ _ hw
      · exact ⟨hw.1, hQ _ _ hw.2⟩
      · exact hw.elim
    · exact hw.elim
  case lreturn =>
    split at hw
    · split at hw
      · exact hQ _ _ hw
      · exact hw.elim
    · exact hw.elim
  case areturn =>
    split at hw
    · split at hw
      · exact hQ _ _ hw
      · exact hw.elim
    · exact hw.elim
  case return_ =>
    split at hw
    · split at hw
      · exact hQ _ _ hw
      · exact hw.elim
    · exact hw.elim
  all_goals first
    | exact hw.elim
    | exact hg _ _ _ _ hw
    | (split at hw <;> first
        | exact hw.elim
        | exact hg _ _ _ _ hw
        | exact ⟨hw.1, hg _ _ _ _ hw.2⟩
        | exact b_if_mono (fun q => hg _ _ _ _ q) hw
        | exact b_if_mono (fun q => ⟨q.1, hg _ _ _ _ q.2⟩) hw)
theorem wp2i_mono {xs : Nat × (Nat → Int32)} {C : Nat → List v2 → Mem → (Option v2 → Mem → Prop) → Prop} {tbl : List xI} {cuts : List Nat} {rt : Option FieldType} {Q Q' : Option v2 → Mem → Prop} {K K' : Nat → L2 → List v2 → Mem → Prop} (hC : ∀ j a m Q Q', (∀ r m', Q r m' → Q' r m') → C j a m Q → C j a m Q') (hQ : ∀ r m, Q r m → Q' r m) (hK : ∀ j L S m, K j L S m → K' j L S m) : ∀ (k i : Nat) (L : L2) (S : List v2) (m : Mem), wp2i xs C tbl cuts rt Q K k i L S m → wp2i xs C tbl cuts rt Q' K' k i L S m := by
  intro k
  induction k with
  | zero => intro i L S m hw; exact hw
  | succ k ih =>
    intro i L S m hw
    unfold wp2i at hw ⊢
    split at hw
    · exact hw.elim
    · refine st2_mono hC hQ (fun j L S m q => ?_) hw
      split at q
      · exact hK _ _ _ _ q
      · exact ih _ _ _ _ q
theorem W2_fold {xs : Nat × (Nat → Int32)} {C : Nat → List v2 → Mem → (Option v2 → Mem → Prop) → Prop} {tbl : List xI} {cuts : List Nat} {rt : Option FieldType} {Q : Option v2 → Mem → Prop} (hC : ∀ j a m Q Q', (∀ r m', Q r m' → Q' r m') → C j a m Q → C j a m Q') {i : Nat} {L : L2} {S : List v2} {m : Mem} (hw : wp2i xs C tbl cuts rt Q (W2 xs C tbl cuts rt Q) 2000 i L S m) : W2 xs C tbl cuts rt Q i L S m :=
  fun X hX => hX _ _ _ _ (wp2i_mono hC (fun _ _ q => q) (fun _ _ _ _ q => q X hX) 2000 i L S m hw)
theorem W2_mono {xs : Nat × (Nat → Int32)} {C : Nat → List v2 → Mem → (Option v2 → Mem → Prop) → Prop} {tbl : List xI} {cuts : List Nat} {rt : Option FieldType} {Q Q' : Option v2 → Mem → Prop} (hC : ∀ j a m Q Q', (∀ r m', Q r m' → Q' r m') → C j a m Q → C j a m Q') (hQ : ∀ r m, Q r m → Q' r m) {i : Nat} {L : L2} {S : List v2} {m : Mem} (hw : W2 xs C tbl cuts rt Q i L S m) : W2 xs C tbl cuts rt Q' i L S m :=
  fun X hX => hw X (fun _ _ _ _ q => hX _ _ _ _ (wp2i_mono hC hQ (fun _ _ _ _ z => z) 2000 _ _ _ _ q))
theorem callW2_mono {xs : Nat × (Nat → Int32)} : ∀ (d j : Nat) a m Q Q', (∀ r m', Q r m' → Q' r m') → callW2 xs d j a m Q → callW2 xs d j a m Q'
  | 0, _, _, _, _, _, _, hc => hc.elim
  | d + 1, j, a, m, Q, Q', hq, hc => by
    obtain ⟨M, h1, h2, h3, h4, cuts, h5⟩ := hc
    exact ⟨M, h1, h2, h3, h4, cuts, W2_mono (callW2_mono d) hq h5⟩
/-- a stretch of a method, for its calls at depth d -/
theorem W2_st {xs : Nat × (Nat → Int32)} {d : Nat} {tbl : List xI} {cuts : List Nat} {rt : Option FieldType} {Q : Option v2 → Mem → Prop} {i : Nat} {L : L2} {S : List v2} {m : Mem} (hw : wp2i xs (callW2 xs d) tbl cuts rt Q (W2 xs (callW2 xs d) tbl cuts rt Q) 2000 i L S m) : W2 xs (callW2 xs d) tbl cuts rt Q i L S m := W2_fold (callW2_mono d) hw
