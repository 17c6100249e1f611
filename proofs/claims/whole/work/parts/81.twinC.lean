/-! CONTRACTS (28): the class's twins (wip/whole/src/81.twinC.src) -/
theorem fcA : ∀ f, f < 2 → ∀ c, c < 1001 → (((lN f) <<< ((nI 10).toInt64 &&& 63)) ||| (nI c).toInt64) <<< ((nI 40).toInt64 &&& 63) = lN ((f * 1024 + c) * 2 ^ 40) := by decide +kernel
theorem fcB : ∀ p, p < 13 → ∀ k, k < 10 → (nI p).toInt64 <<< ((nI (4 * k)).toInt64 &&& 63) = lN (p * 16 ^ k) := by decide +kernel
section L81
variable {xs : Nat × (Nat → Int32)} {d : Nat} {Q : Option v2 → Mem → Prop} {m : Mem} {S : Sys}
/-- Twins.faceOf(act) -/
theorem c_faceOf {x : Nat} {c : Nat → Nat} (hR : RC m S) (hw : wf S) (hx : isA S x) (hc : ∀ s, s < sN S → m.1 29 0 s = nI (c s) ∧ c s < 10) (hQ : Q (some (vL (lN (faceN S c x)))) m) : callW2 xs (d + 1) 44 [vR 26 0, vR 4 x] m Q := by
  have h3 := wf_n hw
  have hk3 := wf_k hw hx
  have hc1 := wf_c hw hx
  have ho4 := wf_o hw hx
  refine eX7_faceOf m _ (W2_st (bX7_faceOf_0 m _ ?_))
  rw [rc_k hR hx, rc_c hR hx, nI_eq (by omega) (by omega), fcA 0 (by omega) _ (by omega), fcA 1 (by omega) _ (by omega)]
  have key : ∀ hi, Q (some (vL (lN (hi + lowF S c x (sO S x))))) m → ∀ o, o ≤ sO S x → (W2 xs (callW2 xs d) tX7_faceOf [22] (some .long) Q 22 [some (vR 26 0), some (vR 4 (x)), some (vL (lN (hi + lowF S c x o))), none, some (vI (nI o))] [] (m)) := by
    intro hi hQ
    refine upto (sO S x) ?_ ?_
    · refine W2_st (bX7_faceOf_22 m _ _ _ ?_)
      rw [rc_o hR hx, nI_leI (by omega) (by omega)]
      exact ⟨fun _ => hQ, fun z => absurd (Nat.le_refl _) z⟩
    · intro o ho ih
      have ht := wf_t hw hx ho
      have hp := (wf_p hw hx ho).2
      have hct := hc _ ht
      refine W2_st (bX7_faceOf_22 m _ _ _ ?_)
      rw [rc_o hR hx, nI_leI (by omega) (by omega), nI_clamp (by omega), rc_t hR hx ho, rc_p hR hx ho, nI_clamp (by omega), hct.1, pk_mul, fcB _ (by omega) _ hct.2, lN_add]
      simp only [nI_add]
      refine ⟨fun z => by omega, fun _ => ⟨inb_nI (by omega) (by omega), inb_nI (by omega) (by omega), inb_nI (by omega) (by omega), ?_⟩⟩
      rw [Nat.add_assoc]
      exact ih
  have key2 : ∀ hi, Q (some (vL (lN (hi + lowF S c x (sO S x))))) m → (W2 xs (callW2 xs d) tX7_faceOf [22] (some .long) Q 22 [some (vR 26 0), some (vR 4 (x)), some (vL (lN hi)), none, some (vI (nI 0))] [] (m)) := by
    intro hi hQ
    have := key hi hQ 0 (Nat.zero_le _)
    rw [show lowF S c x 0 = 0 from rfl, Nat.add_zero] at this
    exact this
  unfold faceN at hQ
  refine ⟨fun h => key2 _ ?_, fun h => key2 _ ?_⟩
  · rw [decide_eq_false h] at hQ; exact hQ
  · rw [decide_eq_true h] at hQ; exact hQ
theorem c_readFaces {c : Nat → Nat} (hR : RC m S) (hw : wf S) (hc : ∀ s, s < sN S → m.1 29 0 s = nI (c s) ∧ c s < 10) (hQ : ∀ m', offL (tM 28) m m' → (∀ x, isA S x → m'.2 28 0 x = lN (faceN S c x)) → Q none m') : callW2 xs (d + 2) 43 [vR 26 0] m Q := by
  have h3 := wf_n hw
  refine eX7_readFaces m (W2_st (bX7_readFaces_0 m ?_))
  have key : ∀ s, s ≤ sN S → ∀ mc o2, offL (tM 28) m mc → (∀ x, isA S x → x < 4 * s → mc.2 28 0 x = lN (faceN S c x)) → (W2 xs (callW2 xs (d + 1)) tX7_readFaces [2, 9] none Q 2 [some (vR 26 0), some (vI (nI s)), (o2)] [] (mc)) := by
    refine upto (sN S) ?_ ?_
    · intro mc o2 g1 g2
      refine W2_st (bX7_readFaces_2 mc _ _ ?_)
      rw [rc_n (RC_L g1.2 hR), nI_leI (by omega) (by omega)]
      exact ⟨fun _ => hQ mc g1 (fun x hx => g2 x hx (by have := hx.1; omega)), fun z => absurd (Nat.le_refl _) z⟩
    · intro s hs ih mc o2 g1 g2
      have h4 := wf_a hw hs
      refine W2_st (bX7_readFaces_2 mc _ _ ?_)
      rw [rc_n (RC_L g1.2 hR), nI_leI (by omega) (by omega)]
      refine ⟨fun z => by omega, fun _ => ?_⟩
      have inner : ∀ a, a ≤ sA S s → ∀ mc, offL (tM 28) m mc → (∀ x, isA S x → x < 4 * s + a → mc.2 28 0 x = lN (faceN S c x)) → (W2 xs (callW2 xs (d + 1)) tX7_readFaces [2, 9] none Q 9 [some (vR 26 0), some (vI (nI s)), some (vI (nI a))] [] (mc)) := by
        refine upto (sA S s) ?_ ?_
        · intro mc g1 g2
          refine W2_st (bX7_readFaces_9 mc _ _ ?_)
          rw [nI_clamp (by omega), rc_a (RC_L g1.2 hR) hs, nI_leI (by omega) (by omega), nI_add]
          refine ⟨inb_nI (by omega) (by omega), fun _ => ih mc _ g1 (fun x hx hlt => g2 x hx ?_), fun z => absurd (Nat.le_refl _) z⟩
          by_cases hxs : x / 4 = s
          · have := hx.2; rw [hxs] at this; omega
          · omega
        · intro a ha iha mc g1 g2
          have hRc := RC_L g1.2 hR
          have hx := isA_mk hs ha (by omega)
          refine W2_st (bX7_readFaces_9 mc _ _ ?_)
          simp only [pk_mul, nI_add]
          rw [nI_clamp (n := s) (by omega), rc_a hRc hs, nI_leI (by omega) (by omega), nI_clamp (n := s * 4 + a) (by omega)]
          refine ⟨inb_nI (by omega) (by omega), fun z => by omega, fun _ => c_actS hw hs ha ⟨_, rfl, c_faceOf hRc hw hx (fun t ht => by rw [g1.2]; exact hc t ht) ⟨_, rfl, inb_nI (by omega) (by omega), ?_⟩⟩⟩
          rw [show s * 4 + a = 4 * s + a by omega]
          refine iha _ (offL_L g1 _ _ ⟨rfl, rfl⟩) (fun x hx2 hlt => ?_)
          rw [mL_r]
          by_cases hxx : x = 4 * s + a
          · rw [if_pos ⟨rfl, rfl, hxx⟩, hxx]
          · rw [if_neg (fun z => hxx z.2.2)]; exact g2 x hx2 (by omega)
      exact inner 0 (Nat.zero_le _) mc g1 g2
  exact key 0 (Nat.zero_le _) m none (offL_rfl _ _) (fun x _ hlt => by omega)
theorem c_hasFace {t x : Nat} {c : Nat → Nat} (hR : RC m S) (hw : wf S) (ht : t < sN S) (hx : isA S x) (hc10 : ∀ s, s < sN S → c s < 10) (hF : ∀ y, isA S y → m.2 28 0 y = lN (faceN S c y)) (hQ : Q (some (vI (bI (anyU (fun b => likeX S c x (4 * t + b)) (sA S t))))) m) : callW2 xs (d + 1) 47 [vR 26 0, vI (nI t), vL (lN (faceN S c x))] m Q := by
  have h3 := wf_n hw
  have h4 := wf_a hw ht
  refine eX7_hasFace m _ _ (W2_st (bX7_hasFace_0 m _ _ ?_))
  have hlt : ∀ y, isA S y → faceN S c y < 2 ^ 52 := fun y hy => face_lt hw hc10 hy
  have hif : ∀ y, isA S y → (faceN S c x = faceN S c y ↔ likeX S c x y = true) := fun y hy => face_iff hw hc10 hx hy
  generalize faceN S c = fc at hlt hif hF ⊢
  have fx := hlt x hx
  generalize fc x = F at fx hif ⊢
  have key : ∀ b, b ≤ sA S t → (∀ b', b' < b → likeX S c x (4 * t + b') = false) → (W2 xs (callW2 xs d) tX7_hasFace [2] (some .boolean) Q 2 [some (vR 26 0), some (vI (nI t)), some (vL (lN F)), none, some (vI (nI b))] [] (m)) := by
    refine upto (sA S t) ?_ ?_
    · intro hn
      refine W2_st (bX7_hasFace_2 m _ _ _ ?_)
      rw [nI_clamp (by omega), rc_a hR ht, nI_leI (by omega) (by omega)]
      refine ⟨inb_nI (by omega) (by omega), fun _ => ⟨isB0, ?_⟩, fun z => absurd (Nat.le_refl _) z⟩
      have e : anyU (fun b => likeX S c x (4 * t + b)) (sA S t) = false := by
        cases h : anyU (fun b => likeX S c x (4 * t + b)) (sA S t) with
        | false => rfl
        | true => obtain ⟨b, q1, q2⟩ := anyU_iff.mp h; rw [hn b q1] at q2; cases q2
      rw [e] at hQ; exact hQ
    · intro b hb ih hn
      have hy := isA_mk ht hb (by omega)
      have fy := hlt _ hy
      have hfy := hF _ hy
      have hi := hif _ hy
      generalize fc (4 * t + b) = G at fy hfy hi
      refine W2_st (bX7_hasFace_2 m _ _ _ ?_)
      simp only [pk_mul, nI_add]
      rw [nI_clamp (n := t) (by omega), rc_a hR ht, nI_leI (by omega) (by omega), nI_clamp (n := t * 4 + b) (by omega), show t * 4 + b = 4 * t + b by omega, hfy, lg_cmp_eq, pk_lEQ (by omega) (by omega)]
      refine ⟨inb_nI (by omega) (by omega), fun z => by omega, fun _ => ⟨inb_nI (by omega) (by omega), fun hne => ih (fun b' hb' => ?_), fun he => ⟨isB1, ?_⟩⟩⟩
      · rcases Nat.lt_or_ge b' b with q | q
        · exact hn b' q
        · rw [show b' = b by omega]
          cases hl : likeX S c x (4 * t + b) with
          | false => rfl
          | true => exact absurd (hi.mpr hl).symm hne
      · have e : anyU (fun b => likeX S c x (4 * t + b)) (sA S t) = true := anyU_iff.mpr ⟨b, hb, hi.mp he.symm⟩
        rw [e] at hQ; exact hQ
  exact key 0 (Nat.zero_le _) (fun b' hb' => by omega)
theorem c_covers {s t : Nat} {c : Nat → Nat} (hR : RC m S) (hw : wf S) (hs : s < sN S) (ht : t < sN S) (hc10 : ∀ s, s < sN S → c s < 10) (hF : ∀ y, isA S y → m.2 28 0 y = lN (faceN S c y)) (hQ : Q (some (vI (bI (covS S c s t)))) m) : callW2 xs (d + 2) 46 [vR 26 0, vI (nI s), vI (nI t)] m Q := by
  have h3 := wf_n hw
  have h4 := wf_a hw hs
  refine eX7_covers m _ _ (W2_st (bX7_covers_0 m _ _ ?_))
  have key : ∀ a, a ≤ sA S s → (∀ a', a' < a → anyU (fun b => likeX S c (4 * s + a') (4 * t + b)) (sA S t) = true) → (W2 xs (callW2 xs (d + 1)) tX7_covers [2] (some .boolean) Q 2 [some (vR 26 0), some (vI (nI s)), some (vI (nI t)), some (vI (nI a))] [] (m)) := by
    refine upto (sA S s) ?_ ?_
    · intro hn
      refine W2_st (bX7_covers_2 m _ _ _ ?_)
      rw [nI_clamp (by omega), rc_a hR hs, nI_leI (by omega) (by omega)]
      refine ⟨inb_nI (by omega) (by omega), fun _ => ⟨isB1, ?_⟩, fun z => absurd (Nat.le_refl _) z⟩
      have e : covS S c s t = true := allU_iff.mpr hn
      rw [e] at hQ; exact hQ
    · intro a ha ih hn
      have hx := isA_mk hs ha (by omega)
      refine W2_st (bX7_covers_2 m _ _ _ ?_)
      simp only [pk_mul, nI_add]
      rw [nI_clamp (n := s) (by omega), rc_a hR hs, nI_leI (by omega) (by omega), nI_clamp (n := s * 4 + a) (by omega), show s * 4 + a = 4 * s + a by omega, hF _ hx]
      refine ⟨inb_nI (by omega) (by omega), fun z => by omega, fun _ => ⟨inb_nI (by omega) (by omega), c_hasFace hR hw ht hx hc10 hF ⟨_, rfl, ?_⟩⟩⟩
      rw [bI_0]
      refine ⟨fun h => ih (fun a' ha' => ?_), fun h => ⟨isB0, ?_⟩⟩
      · rw [Bool.not_eq_false] at h
        rcases Nat.lt_or_ge a' a with q | q
        · exact hn a' q
        · rw [show a' = a by omega]; exact h
      · have e : covS S c s t = false := by
          cases h5 : covS S c s t with
          | false => rfl
          | true => have := allU_iff.mp h5 a ha; rw [h] at this; cases this
        rw [e] at hQ; exact hQ
  exact key 0 (Nat.zero_le _) (fun a' ha' => by omega)
def tTw : Nat → Nat → Prop := fun t j => (t = 26 ∨ t = 27 ∨ t = 28 ∨ t = 29) ∧ j = 0
theorem m1_neg : ¬ (0 : Int32) ≤ (-1 : Int32) := by decide
theorem c_split {c : Nat → Nat} (hR : RC m S) (hw : wf S) (hc : ∀ s, s < sN S → m.1 29 0 s = nI (c s) ∧ c s < 10) (hF : ∀ y, isA S y → m.2 28 0 y = lN (faceN S c y)) (hQ : ∀ m', offI tTw m m' → (∀ k, k ≠ 5 → m'.1 26 0 k = m.1 26 0 k) → m'.1 26 0 5 = nI (num (twS S c) (sN S)).2 → (∀ s, s < sN S → m'.1 29 0 s = nI ((num (twS S c) (sN S)).1 s)) → Q none m') : callW2 xs (d + 3) 45 [vR 26 0] m Q := by
  have h3 := wf_n hw
  have hc10 : ∀ s, s < sN S → c s < 10 := fun s hs => (hc s hs).2
  refine eX7_split m (W2_st (bX7_split_0 m ?_))
  have rc : ∀ mc, offI tTw m mc → RC mc S := fun mc h => RC_off h.1 (by unfold tTw; omega) (by unfold tTw; omega) (fun x _ => by unfold tTw; omega) (fun x _ => by unfold tTw; omega) (fun x _ => by unfold tTw; omega) hw hR
  have key : ∀ s, s ≤ sN S → ∀ mc o2, offI tTw m mc → mc.1 29 0 = m.1 29 0 → (∀ k, k ≠ 5 → mc.1 26 0 k = m.1 26 0 k) → mc.1 26 0 5 = nI (num (twS S c) s).2 → (∀ t, t < s → mc.1 27 0 t = nI ((num (twS S c) s).1 t)) → (W2 xs (callW2 xs (d + 2)) tX7_split [5, 17] none Q 5 [some (vR 26 0), some (vI (nI s)), (o2)] [] (mc)) := by
    refine upto (sN S) ?_ ?_
    · intro mc o2 g1 g2 g3 g4 g5
      refine W2_st (bX7_split_5 mc _ _ ?_)
      rw [rc_n (rc mc g1), nI_leI (by omega) (by omega)]
      refine ⟨fun _ => ⟨⟨by decide, by decide, by decide, by decide, by decide⟩, ?_⟩, fun z => absurd (Nat.le_refl _) z⟩
      refine hQ _ ⟨fun t i hT => ⟨?_, (g1.1 t i hT).2⟩, g1.2⟩ (fun k hk => ?_) ?_ (fun s hs => ?_)
      · show (if t = 29 ∧ i = 0 then va_cpy (mc.1 27 0) (mc.1 29 0) (nI 0).toNatClampNeg (nI 0).toNatClampNeg (nI 10).toNatClampNeg else mc.1 t i) = _
        rw [if_neg (fun z => hT ⟨by omega, z.2⟩)]
        exact (g1.1 t i hT).1
      · show (if 26 = 29 ∧ 0 = 0 then va_cpy (mc.1 27 0) (mc.1 29 0) (nI 0).toNatClampNeg (nI 0).toNatClampNeg (nI 10).toNatClampNeg else mc.1 26 0) k = _
        rw [if_neg (by omega)]; exact g3 k hk
      · show (if 26 = 29 ∧ 0 = 0 then va_cpy (mc.1 27 0) (mc.1 29 0) (nI 0).toNatClampNeg (nI 0).toNatClampNeg (nI 10).toNatClampNeg else mc.1 26 0) 5 = _
        rw [if_neg (by omega)]; exact g4
      · show (if 29 = 29 ∧ 0 = 0 then va_cpy (mc.1 27 0) (mc.1 29 0) (nI 0).toNatClampNeg (nI 0).toNatClampNeg (nI 10).toNatClampNeg else mc.1 29 0) s = _
        rw [if_pos ⟨rfl, rfl⟩, show (nI 0).toNatClampNeg = 0 from rfl, show (nI 10).toNatClampNeg = 10 from rfl, pk_cpy_in (by omega) (by omega), Nat.zero_add, Nat.sub_zero]
        exact g5 s hs
    · intro s hs ih mc o2 g1 g2 g3 g4 g5
      have hcn := cnt_n (twS S c) s
      refine W2_st (bX7_split_5 mc _ _ ?_)
      rw [rc_n (rc mc g1), nI_leI (by omega) (by omega), nI_clamp (n := s) (by omega)]
      refine ⟨fun z => by omega, fun _ => ⟨inb_nI (by omega) (by omega), ?_⟩⟩
      have T1 : offI tTw m (mI mc 27 0 s (-1 : Int32)) := offI_I g1 _ _ ⟨by omega, rfl⟩
      -- the search for a twin; b: it has been found
      have srch : ∀ t, t ≤ s → ∀ m1, offI tTw m m1 → m1.1 29 0 = m.1 29 0 → (∀ k, k ≠ 5 → m1.1 26 0 k = m.1 26 0 k) → m1.1 26 0 5 = nI (num (twS S c) s).2 → (∀ u, u < s → m1.1 27 0 u = nI ((num (twS S c) s).1 u)) → m1.1 27 0 s = (match fstT (twS S c s) t with | some u => nI ((num (twS S c) s).1 u) | none => (-1 : Int32)) → (W2 xs (callW2 xs (d + 2)) tX7_split [5, 17] none Q 17 [some (vR 26 0), some (vI (nI s)), some (vI (nI t))] [] (m1)) := by
        -- once it is known
        have fin : ∀ m1 o2, offI tTw m m1 → m1.1 29 0 = m.1 29 0 → (∀ k, k ≠ 5 → m1.1 26 0 k = m.1 26 0 k) → m1.1 26 0 5 = nI (num (twS S c) (s + 1)).2 → (∀ u, u < s → m1.1 27 0 u = nI ((num (twS S c) s).1 u)) → m1.1 27 0 s = nI ((num (twS S c) (s + 1)).1 s) → (W2 xs (callW2 xs (d + 2)) tX7_split [5, 17] none Q 5 [some (vR 26 0), some (vI (nI (s + 1))), (o2)] [] (m1)) := by
          intro m1 o2 q1 q2 q3 q4 q5 q6
          refine ih m1 o2 q1 q2 q3 q4 (fun u hu => ?_)
          by_cases hus : u = s
          · rw [hus]; exact q6
          · rw [num_old (by omega)]; exact q5 u (by omega)
        have found : ∀ m1 o2 u, fstT (twS S c s) s = some u → offI tTw m m1 → m1.1 29 0 = m.1 29 0 → (∀ k, k ≠ 5 → m1.1 26 0 k = m.1 26 0 k) → m1.1 26 0 5 = nI (num (twS S c) s).2 → (∀ u, u < s → m1.1 27 0 u = nI ((num (twS S c) s).1 u)) → m1.1 27 0 s = nI ((num (twS S c) s).1 u) → (W2 xs (callW2 xs (d + 2)) tX7_split [5, 17] none Q 5 [some (vR 26 0), some (vI (nI (s + 1))), (o2)] [] (m1)) := by
          intro m1 o2 u hf q1 q2 q3 q4 q5 q6
          have e : num (twS S c) (s + 1) = (fun s' => if s' = s then (num (twS S c) s).1 u else (num (twS S c) s).1 s', (num (twS S c) s).2) := by simp only [num, hf]
          refine fin m1 o2 q1 q2 q3 (by rw [e]; exact q4) q5 ?_
          rw [e, q6]
          show _ = nI (if s = s then _ else _)
          rw [if_pos rfl]
        have nlt : ∀ u, u < s → (num (twS S c) s).1 u < 10 := fun u hu => by
          have := (num_spec (tw_eqv (S := S) c s) s (Nat.le_refl _)).1 u hu
          omega
        have ib : inb (nI s) 10 := inb_nI (by omega) (by omega)
        refine upto s ?_ ?_
        · intro m1 q1 q2 q3 q4 q5 q6
          refine W2_st (bX7_split_17 m1 _ _ ?_)
          rw [nI_leI (by omega) (by omega), nI_clamp (by omega), q6]
          refine ⟨fun _ => ⟨ib, ?_⟩, fun z => absurd (Nat.le_refl _) z⟩
          cases hf : fstT (twS S c s) s with
          | some u =>
            rw [hf] at q6
            have hu := fstT_some hf
            have := nlt u hu.1
            simp only [nI_add]
            refine ⟨fun _ => found m1 _ u hf q1 q2 q3 q4 q5 q6, fun z => absurd (nI_pos' (by omega)) z⟩
          | none =>
            refine ⟨fun z => absurd z m1_neg, fun _ => ⟨ib, ?_⟩⟩
            have e : num (twS S c) (s + 1) = (fun s' => if s' = s then (num (twS S c) s).2 else (num (twS S c) s).1 s', (num (twS S c) s).2 + 1) := by simp only [num, hf]
            rw [q4]
            have e5 : (mI m1 27 0 s (nI (num (twS S c) s).2)).1 26 0 5 = nI (num (twS S c) s).2 := by rw [mI_r, if_neg (by omega)]; exact q4
            rw [e5]
            simp only [nI_add]
            refine fin _ _ (offI_I (offI_I q1 _ _ ⟨by omega, rfl⟩) _ _ ⟨by omega, rfl⟩) (by funext k; rw [mI_r, if_neg (by omega), mI_r, if_neg (by omega), q2]) (fun k hk => by rw [mI_r, if_neg (by omega), mI_r, if_neg (by omega)]; exact q3 k hk) (by rw [mI_r, if_pos ⟨rfl, rfl, rfl⟩, e]) (fun u hu => by rw [mI_r, if_neg (by omega), mI_r, if_neg (by omega)]; exact q5 u hu) ?_
            rw [mI_r, if_neg (by omega), mI_r, if_pos ⟨rfl, rfl, rfl⟩, e]
            show _ = nI (if s = s then _ else _)
            rw [if_pos rfl]
        · intro t ht iht m1 q1 q2 q3 q4 q5 q6
          have hRm := rc m1 q1
          refine W2_st (bX7_split_17 m1 _ _ ?_)
          rw [nI_leI (by omega) (by omega), nI_clamp (n := s) (by omega), nI_clamp (n := t) (by omega), q6]
          refine ⟨fun z => by omega, fun _ => ⟨ib, ?_⟩⟩
          cases hf : fstT (twS S c s) t with
          | some u =>
            rw [hf] at q6
            have hu := fstT_some hf
            have := nlt u (by omega)
            have hfs : ∀ k, t ≤ k → fstT (twS S c s) k = some u := by
              intro k hk
              induction k with
              | zero => rw [show t = 0 by omega] at hf; exact hf
              | succ k ihk =>
                rcases Nat.lt_or_ge t (k + 1) with z | z
                · simp only [fstT]; rw [ihk (by omega)]
                · rw [show k + 1 = t by omega]; exact hf
            simp only [nI_add]
            have hge : (0 : Int32) ≤ nI ((num (twS S c) s).1 u) := nI_pos' (by omega)
            exact ⟨fun _ => ⟨ib, fun _ => found m1 _ u (hfs s (by omega)) q1 q2 q3 q4 q5 q6, fun z => absurd hge z⟩, fun z => absurd hge z⟩
          | none =>
            rw [hf] at q6
            have hct := hc t (by omega)
            have hcs := hc s hs
            refine ⟨fun z => absurd z m1_neg, fun _ => ⟨inb_nI (by omega) (by omega), ib, ?_⟩⟩
            rw [q2, hct.1, hcs.1, nI_eq (by omega) (by omega)]
            simp only [nI_add]
            have step : ∀ b, twS S c s t = b → fstT (twS S c s) (t + 1) = (match b with | true => some t | false => none) := by
              intro b hb
              simp only [fstT]
              rw [hf, hb] <;> cases b <;> rfl
            have no : twS S c s t = false → (W2 xs (callW2 xs (d + 2)) tX7_split [5, 17] none Q 17 [some (vR 26 0), some (vI (nI s)), some (vI (nI (t + 1)))] [] (m1)) := by
              intro hb
              refine iht m1 q1 q2 q3 q4 q5 ?_
              rw [step false hb]; exact q6
            have hF1 : ∀ y, isA S y → m1.2 28 0 y = lN (faceN S c y) := fun y hy => by rw [q1.2]; exact hF y hy
            refine ⟨fun hne => no ?_, fun he => c_covers hRm hw hs (by omega) hc10 hF1 ⟨_, rfl, fun h1 => no ?_, fun h1 => c_covers hRm hw (by omega) hs hc10 hF1 ⟨_, rfl, fun h2 => no ?_, fun h2 => ⟨inb_nI (by omega) (by omega), ib, ?_⟩⟩⟩⟩
            · unfold twS; rw [decide_eq_false (fun z => hne z.symm)]; rfl
            · rw [bI_0] at h1; unfold twS; rw [h1]; simp
            · rw [bI_0] at h2; unfold twS; rw [h2]; simp
            · rw [bI_0, Bool.not_eq_false] at h1 h2
              have hb : twS S c s t = true := tw_iff.mpr ⟨he.symm, h1, h2⟩
              rw [q5 t ht]
              refine iht _ (offI_I q1 _ _ ⟨by omega, rfl⟩) (by funext k; rw [mI_r, if_neg (by omega), q2]) (fun k hk => by rw [mI_r, if_neg (by omega)]; exact q3 k hk) (by rw [mI_r, if_neg (by omega)]; exact q4) (fun u hu => by rw [mI_r, if_neg (by omega)]; exact q5 u hu) ?_
              rw [mI_r, if_pos ⟨rfl, rfl, rfl⟩, step true hb]
      refine srch 0 (Nat.zero_le _) _ T1 (by funext k; rw [mI_r, if_neg (by omega), g2]) (fun k hk => by rw [mI_r, if_neg (by omega)]; exact g3 k hk) (by rw [mI_r, if_neg (by omega)]; exact g4) (fun u hu => by rw [mI_r, if_neg (by omega)]; exact g5 u hu) (by rw [mI_r, if_pos ⟨rfl, rfl, rfl⟩]; rfl)
  exact key 0 (Nat.zero_le _) _ none (offI_I (offI_rfl _ _) _ _ ⟨by omega, rfl⟩) (by funext k; rw [mI_r, if_neg (by omega)]) (fun k hk => by rw [mI_r, if_neg (by omega)]) (by rw [mI_r, if_pos ⟨rfl, rfl, rfl⟩]; rfl) (fun t ht => by omega)
/-- what Twins has found -/
def twinsOK (m : Mem) (S : Sys) : Prop := (∀ s, s < sN S → m.1 29 0 s = nI (clsR S 12 s)) ∧ m.1 26 0 5 = nI (cntR S 12)
theorem c_twinsN (hR : RC m S) (hw : wf S) (hv : m.1 26 0 3 ≠ m.1 1 0 2) (hQ : ∀ m', off tTw m m' → m'.1 26 0 3 = m.1 1 0 2 → twinsOK m' S → Q none m') : callW2 xs (d + 4) 42 [vR 26 0] m Q := by
  have h3 := wf_n hw
  have hM := wf_m hw
  refine eX7_settle m (W2_st (bX7_settle_0 m ⟨fun _ => ?_, fun z => absurd z hv⟩))
  have rc : ∀ mc, off tTw m mc → RC mc S := fun mc h => RC_off h (by unfold tTw; omega) (by unfold tTw; omega) (fun x _ => by unfold tTw; omega) (fun x _ => by unfold tTw; omega) (fun x _ => by unfold tTw; omega) hw hR
  have T0 : off tTw m (mI m 26 0 3 (m.1 1 0 2)) := off_I (off_rfl _ _) _ _ ⟨by omega, rfl⟩
  have cR : ∀ r, cntR S r ≤ 10 := fun r => by
    cases r with
    | zero => exact Nat.zero_le _
    | succ r => have := cnt_n (twS S (clsR S r)) (sN S); show (num _ _).2 ≤ 10; omega
  have key : ∀ r, r ≤ 12 → ∀ b mc, off tTw m mc → mc.1 26 0 3 = m.1 1 0 2 → (∀ s, s < sN S → mc.1 29 0 s = nI (clsR S r s)) → mc.1 26 0 5 = nI (cntR S r) → (match r with | 0 => b = (-1 : Int32) | r' + 1 => b = nI (cntR S r')) → (W2 xs (callW2 xs (d + 3)) tX7_settle [14, 41] none Q 41 [some (vR 26 0), some (vI (b)), some (vI (nI r))] [] (mc)) := by
    refine upto 12 ?_ ?_
    · intro b mc g1 g2 g3 g4 g5
      exact W2_st (bX7_settle_41 mc _ _ ⟨fun _ => hQ mc g1 g2 ⟨g3, g4⟩, fun z => absurd (by decide) z⟩)
    · intro r hr ih b mc g1 g2 g3 g4 g5
      refine W2_st (bX7_settle_41 mc _ _ ?_)
      rw [nI_ltI (by omega) (by omega), g4]
      simp only [nI_add]
      refine ⟨fun z => by omega, fun _ => ⟨fun he => ?_, fun hne => ?_⟩⟩
      · -- the count stands
        cases r with
        | zero =>
          exfalso
          have g5' : b = (-1 : Int32) := g5
          rw [g5'] at he
          exact absurd he (show ¬ nI 0 = (-1 : Int32) by decide)
        | succ r =>
          have g5' : b = nI (cntR S r) := g5
          rw [g5'] at he
          have := cR (r + 1)
          have := cR r
          have he2 : cntR S (r + 1) = cntR S r := (nI_eq (by omega) (by omega)).mp he
          obtain ⟨k, hk⟩ : ∃ k, 12 = r + (1 + k) := ⟨11 - r, by omega⟩
          obtain ⟨s1, s2⟩ := cls_stay hw he2 (1 + k)
          obtain ⟨s3, s4⟩ := cls_stay hw he2 1
          refine hQ mc g1 g2 ⟨fun s hs => ?_, ?_⟩
          · rw [g3 s hs, hk, s1 s hs, s3 s hs]
          · rw [g4, hk, s2, s4]
      · refine c_readFaces (rc mc g1) hw (fun s hs => ⟨g3 s hs, cls_lt hw r s hs⟩) (fun m2 f1 f2 => ⟨rfl, ?_⟩)
        have T2 : off tTw m m2 := off_trans g1 (off_sub f1.1 (fun t j z => ⟨by have := z.1; omega, z.2⟩))
        refine c_split (rc m2 T2) hw (fun s hs => ⟨by rw [f1.2]; exact g3 s hs, cls_lt hw r s hs⟩) f2 (fun m4 e1 e2 e3 e4 => ⟨rfl, ?_⟩)
        refine ih _ m4 (off_trans T2 e1.1) ?_ e4 e3 rfl
        rw [e2 3 (by omega), f1.2]; exact g2
  have init : ∀ s, s ≤ sN S → ∀ mc, off tTw m mc → mc.1 26 0 3 = m.1 1 0 2 → (∀ t, t < s → mc.1 29 0 t = nI (clsR S 0 t)) → (W2 xs (callW2 xs (d + 3)) tX7_settle [14, 41] none Q 14 [some (vR 26 0), some (vI (nI s)), none] [] (mc)) := by
    refine upto (sN S) ?_ ?_
    · intro mc g1 g2 g3
      refine W2_st (bX7_settle_14 mc _ ?_)
      rw [rc_n (rc mc g1), nI_leI (by omega) (by omega)]
      refine ⟨fun _ => key 0 (Nat.zero_le _) _ _ (off_I g1 _ _ ⟨by omega, rfl⟩) (by rw [mI_r, if_neg (by omega)]; exact g2) (fun s hs => by rw [mI_r, if_neg (by omega)]; exact g3 s hs) (by rw [mI_r, if_pos ⟨rfl, rfl, rfl⟩]; rfl) rfl, fun z => absurd (Nat.le_refl _) z⟩
    · intro s hs ih mc g1 g2 g3
      refine W2_st (bX7_settle_14 mc _ ?_)
      rw [rc_n (rc mc g1), nI_leI (by omega) (by omega), rc_m (rc mc g1), nI_clamp (by omega)]
      simp only [nI_add]
      refine ⟨fun z => by omega, fun _ => c_has (by omega) (by omega) ⟨_, rfl, ?_⟩⟩
      rw [bI_0]
      have nxt : ∀ v, v = clsR S 0 s → (W2 xs (callW2 xs (d + 3)) tX7_settle [14, 41] none Q 14 [some (vR 26 0), some (vI (nI (s + 1))), none] [] (mI mc 29 0 s (nI v))) := by
        intro v hv
        refine ih _ (off_I g1 _ _ ⟨by omega, rfl⟩) (by rw [mI_r, if_neg (by omega)]; exact g2) (fun t ht => ?_)
        rw [mI_r]
        by_cases hts : t = s
        · rw [if_pos ⟨rfl, rfl, hts⟩, hv, hts]
        · rw [if_neg (fun z => hts z.2.2)]; exact g3 t (by omega)
      refine ⟨fun hb => ⟨inb_nI (by omega) (by omega), nxt _ ?_⟩, fun hb => ⟨inb_nI (by omega) (by omega), nxt _ ?_⟩⟩
      · simp only [clsR]; rw [hb]; rfl
      · rw [Bool.not_eq_false] at hb; simp only [clsR]; rw [hb]; rfl
  exact init 0 (Nat.zero_le _) _ T0 (by rw [mI_r, if_pos ⟨rfl, rfl, rfl⟩]) (fun t ht => by omega)
end L81
