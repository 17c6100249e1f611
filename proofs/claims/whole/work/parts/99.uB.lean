/-! THE GUIDE (2): the class (wip/whole/src/99.uB.src) -/
section L99B
variable {xs : Nat × (Nat → Int32)} {d : Nat} {Q : Option v2 → Mem → Prop} {m : Mem} {S : Sys} {V : Nat → Int} {D : Int}
theorem mean_bd (hw : wf S) (hVb : ∀ t, (V t).natAbs ≤ 2 ^ 25) {s a : Nat} (hs : s < sN S) (ha : a < sA S s) : (meanS S (4 * s + a) V).natAbs ≤ 2 ^ 30 := by
  have hx := isA_s hw hs ha
  have hu : meanS S (4 * s + a) V ≤ meanS S (4 * s + a) (fun _ => 2 ^ 25) := meanS_le (fun o _ => by have := hVb (sT S (4 * s + a) o); show _ ≤ (2 : Int) ^ 25; omega)
  have hl : meanS S (4 * s + a) (fun _ => - 2 ^ 25) ≤ meanS S (4 * s + a) V := meanS_le (fun o _ => by have := hVb (sT S (4 * s + a) o); show (- (2 : Int) ^ 25) ≤ _; omega)
  rw [meanS_const] at hu hl
  have := wf_ps hw hx
  omega
theorem c_isTight {s a : Nat} (hR : RC m S) (hw : wf S) (hs : s < sN S) (ha : a < sA S s) (hV : ∀ t, t < sN S → m.2 15 0 t = lI (V t)) (hVb : ∀ t, (V t).natAbs ≤ 2 ^ 25) (hQ : Q (some (vI (bI (tig S V s a)))) m) : callW2 xs (d + 2) 55 [vR 7 0, vI (nI s), vI (nI a)] m Q := by
  have h3 := wf_n hw
  have h1 := mean_bd hw hVb hs ha
  have h2 := hVb s
  refine eX8_isTight m _ _ _ (W2_st (bX8_isTight_0 m _ _ _ ?_))
  refine c_actS hw hs ha ⟨_, rfl, ?_⟩
  refine c_meanS hR hw (isA_s hw hs ha) hV ⟨_, rfl, ?_⟩
  rw [nI_clamp (n := s) (by omega), hV s hs, lI_N, lI_mul, lg_cmp_eq, lI_eq (by omega) (by omega) (by omega) (by omega)]
  unfold tig at hQ
  refine ⟨inb_nI (by omega) (by omega), fun h => ⟨isB0, ?_⟩, fun h => ⟨isB1, ?_⟩⟩
  · have h : ¬ meanS S (4 * s + a) V = 12 * V s := h
    rw [decide_eq_false h] at hQ; exact hQ
  · have h : meanS S (4 * s + a) V = 12 * V s := h
    rw [decide_eq_true h] at hQ; exact hQ
theorem c_tightInto {s N : Nat} (hR : RC m S) (hw : wf S) (hs : s < sN S) (hN : N < 2 ^ 31) (hV : ∀ t, t < sN S → m.2 15 0 t = lI (V t)) (hVb : ∀ t, (V t).natAbs ≤ 2 ^ 25) (hQ0 : (∀ a, a < sA S s → ¬ (someInS S (4 * s + a) N = true ∧ tig S V s a = true)) → Q (some (vI (-1 : Int32))) m) (hQ1 : ∀ a, a < sA S s → someInS S (4 * s + a) N = true → tig S V s a = true → (∀ b, b < a → ¬ (someInS S (4 * s + b) N = true ∧ tig S V s b = true)) → Q (some (vI (nI a))) m) : callW2 xs (d + 3) 17 [vR 16 0, vI (nI s), vI (nI N)] m Q := by
  have h3 := wf_n hw
  have h4 := wf_a hw hs
  refine eX2_tightActInto m _ _ (W2_st (bX2_tightActInto_0 m _ _ ?_))
  have key : ∀ a, a ≤ sA S s → (∀ b, b < a → ¬ (someInS S (4 * s + b) N = true ∧ tig S V s b = true)) → (W2 xs (callW2 xs (d + 2)) tX2_tightActInto [2] (some .int) Q 2 [some (vR 16 0), some (vI (nI s)), some (vI (nI N)), some (vI (nI a))] [] (m)) := by
    refine upto (sA S s) ?_ ?_
    · intro g
      refine W2_st (bX2_tightActInto_2 m _ _ _ ?_)
      rw [nI_clamp (n := s) (by omega), rc_a hR hs, nI_leI (by omega) (by omega)]
      exact ⟨inb_nI (by omega) (by omega), fun _ => hQ0 g, fun z => absurd (Nat.le_refl _) z⟩
    · intro a ha ih g
      have hx := isA_s hw hs ha
      refine W2_st (bX2_tightActInto_2 m _ _ _ ?_)
      rw [nI_clamp (n := s) (by omega), rc_a hR hs, nI_leI (by omega) (by omega), nI_add]
      refine ⟨inb_nI (by omega) (by omega), fun z => by omega, fun _ => c_actS hw hs ha ⟨_, rfl, ?_⟩⟩
      have hb : goesS S (4 * s + a) &&& N < 2 ^ 31 := by have := Nat.and_le_left (n := goesS S (4 * s + a)) (m := N); have := goes_lt hw hx; omega
      rw [rc_g hR hx, nI_and, z_eq hb, goes_some]
      have nx : ¬ (someInS S (4 * s + a) N = true ∧ tig S V s a = true) → (W2 xs (callW2 xs (d + 2)) tX2_tightActInto [2] (some .int) Q 2 [some (vR 16 0), some (vI (nI s)), some (vI (nI N)), some (vI (nI (a + 1)))] [] (m)) := fun z => ih (fun b hb => by
        by_cases e : b = a
        · rw [e]; exact z
        · exact g b (by omega))
      refine ⟨fun h => nx (fun z => by rw [h] at z; exact absurd z.1 (by decide)), fun h => c_isTight hR hw hs ha hV hVb ⟨_, rfl, ?_⟩⟩
      rw [Bool.not_eq_false] at h
      rw [bI_0]
      refine ⟨fun ht => nx (fun z => by rw [ht] at z; exact absurd z.2 (by decide)), fun ht => ?_⟩
      rw [Bool.not_eq_false] at ht
      exact hQ1 a ha h ht g
  exact key 0 (Nat.zero_le _) (fun b hb => absurd hb (Nat.not_lt_zero _))
def stepsOK (m : Mem) (S : Sys) (V : Nat → Int) : Prop := ∀ s, s < sN S → (∃ k, k ≤ 9 ∧ dst S V s k ∧ m.1 17 0 s = nI k) ∨ ((∀ r, nt S V r s = false) ∧ m.1 17 0 s = nI 0)
theorem nt_clos {r : Nat} (hw : wf S) (h : ∀ t, t < sN S → nt S V (r + 1) t = true → nt S V r t = true) : ∀ j t, t < sN S → nt S V j t = true → nt S V r t = true := by
  intro j
  induction j with
  | zero => intro t ht q; exact nt_le (Nat.zero_le _) q
  | succ j ih =>
    intro t ht q
    rcases nt_inv q with q | ⟨a, o, ha, q1, ho, q2⟩
    · exact ih t ht q
    · exact h t ht (nt_step ha q1 ho (ih _ (wf_t hw (isA_s hw ht ha) ho) q2))
def tGu : Nat → Nat → Prop := fun t j => (t = 16 ∨ t = 17) ∧ j = 0
/-- the set of a round -/
def ntB (S : Sys) (V : Nat → Int) (r N : Nat) : Prop := ∀ t, N.testBit t = true ↔ t < sN S ∧ nt S V r t = true
theorem ntB_lt {r N : Nat} (hw : wf S) (h : ntB S V r N) : N < 1024 := sub_lt (fun i hi => ((h i).mp hi).1) (wf_n hw)
theorem some_nt {s a r N : Nat} (hw : wf S) (hs : s < sN S) (ha : a < sA S s) (h : ntB S V r N) : someInS S (4 * s + a) N = true ↔ ∃ o, o < sO S (4 * s + a) ∧ nt S V r (sT S (4 * s + a) o) = true := by
  unfold someInS
  rw [anyU_iff]
  constructor
  · intro ⟨o, ho, q⟩; exact ⟨o, ho, ((h _).mp q).2⟩
  · intro ⟨o, ho, q⟩; exact ⟨o, ho, (h _).mpr ⟨wf_t hw (isA_s hw hs ha) ho, q⟩⟩
theorem c_guideN (hR : RC m S) (hw : wf S) (hV : ∀ t, t < sN S → m.2 15 0 t = lI (V t)) (hVb : ∀ t, (V t).natAbs ≤ 2 ^ 25) (hv : m.1 16 0 2 ≠ m.1 1 0 2) (hQ : ∀ m', offI tGu m m' → m'.1 16 0 2 = m.1 1 0 2 → stepsOK m' S V → Q none m') : callW2 xs (d + 4) 16 [vR 16 0] m Q := by
  have h3 := wf_n hw
  refine eX2_settle m (W2_st (bX2_settle_0 m ⟨fun _ => ?_, fun z => absurd z hv⟩))
  refine c_fill17 _ (fun m2 f1 f2 => ⟨rfl, ?_⟩)
  have o2 : offI tGu m m2 := offI_trans (offI_I (offI_rfl _ _) _ _ ⟨Or.inl rfl, rfl⟩) (offI_sub f1 (fun t j z => ⟨Or.inr z.1, z.2⟩))
  have v2 : m2.1 16 0 2 = m.1 1 0 2 := by rw [(f1.1 16 0 (by unfold tM; omega)).1, mI_r, if_pos ⟨rfl, rfl, rfl⟩]
  have rc : ∀ mc, offI tGu m mc → RC mc S := fun mc h => RC_off h.1 (by unfold tGu; omega) (by unfold tGu; omega) (fun x _ => by unfold tGu; omega) (fun x _ => by unfold tGu; omega) (fun x _ => by unfold tGu; omega) hw hR
  have vc : ∀ mc, offI tGu m mc → ∀ t, t < sN S → mc.2 15 0 t = lI (V t) := fun mc h t ht => by rw [h.2]; exact hV t ht
  rw [rc_m (rc m2 o2)]
  have key : ∀ r, r ≤ 11 → ∀ N g mc o4 o5, 1 ≤ r → offI tGu m mc → mc.1 16 0 2 = m.1 1 0 2 → ntB S V (r - 1) N → (g = 0 → ∀ t, t < sN S → nt S V r t = true → nt S V (r - 1) t = true) → g ≤ 1 → (∀ s, s < sN S → (∃ k, k ≤ r - 1 ∧ dst S V s k ∧ mc.1 17 0 s = nI k) ∨ (nt S V (r - 1) s = false ∧ mc.1 17 0 s = nI 0)) → (W2 xs (callW2 xs (d + 3)) tX2_settle [24, 33] none Q 24 [some (vR 16 0), some (vI (nI N)), some (vI (nI g)), some (vI (nI r)), (o4), (o5)] [] (mc)) := by
    refine upto 11 ?_ ?_
    · intro N g mc o4 o5 _ g1 g2 g3 g4 g5 g6
      refine W2_st (bX2_settle_24 mc _ _ _ _ _ ⟨fun _ => hQ mc g1 g2 (fun s hs => ?_), fun z => absurd (by decide) z⟩)
      rcases g6 s hs with ⟨k, hk, q1, q2⟩ | ⟨q1, q2⟩
      · exact Or.inl ⟨k, by have := dst_n hw hs q1; omega, q1, q2⟩
      · refine Or.inr ⟨fun r => ?_, q2⟩
        cases q3 : nt S V r s with
        | false => rfl
        | true => rw [nt_le (by omega) (nt_10 hw hs q3)] at q1; cases q1
    · intro r hr ih N g mc o4 o5 hr1 g1 g2 g3 g4 g5 g6
      refine W2_st (bX2_settle_24 mc _ _ _ _ _ ?_)
      rw [nI_ltI (by omega) (by omega), z_eq (by omega)]
      refine ⟨fun z => by omega, fun _ => ⟨fun z => hQ mc g1 g2 (fun s hs => ?_), fun z => ?_⟩⟩
      · rcases g6 s hs with ⟨k, hk, q1, q2⟩ | ⟨q1, q2⟩
        · exact Or.inl ⟨k, by have := dst_n hw hs q1; omega, q1, q2⟩
        · refine Or.inr ⟨fun j => ?_, q2⟩
          cases q3 : nt S V j s with
          | false => rfl
          | true =>
            have q4 := nt_clos hw (r := r - 1) (by rw [show r - 1 + 1 = r by omega]; exact g4 z) j s hs q3
            rw [q4] at q1; cases q1
      have hN := ntB_lt hw g3
      have key2 : ∀ s, s ≤ sN S → ∀ N' mc, offI tGu m mc → mc.1 16 0 2 = m.1 1 0 2 → (∀ t, N'.testBit t = true ↔ N.testBit t = true ∨ (t < s ∧ nt S V r t = true)) → (∀ t, t < sN S → t < s → (∃ k, k ≤ r ∧ dst S V t k ∧ mc.1 17 0 t = nI k) ∨ (nt S V r t = false ∧ mc.1 17 0 t = nI 0)) → (∀ t, t < sN S → s ≤ t → (∃ k, k ≤ r - 1 ∧ dst S V t k ∧ mc.1 17 0 t = nI k) ∨ (nt S V (r - 1) t = false ∧ mc.1 17 0 t = nI 0)) → (W2 xs (callW2 xs (d + 3)) tX2_settle [24, 33] none Q 33 [some (vR 16 0), some (vI (nI N)), some (vI (nI g)), some (vI (nI r)), some (vI (nI N')), some (vI (nI s))] [] (mc)) := by
        refine upto (sN S) ?_ ?_
        · intro N' mc e1 e2 e3 e4 e5
          refine W2_st (bX2_settle_33 mc _ _ _ _ _ ?_)
          have hB : ntB S V r N' := fun t => by
            rw [e3 t, g3 t]
            constructor
            · intro q
              rcases q with q | q
              · exact ⟨q.1, by have := nt_le (show r - 1 ≤ r by omega) q.2; exact this⟩
              · exact q
            · intro q; exact Or.inr q
          have hN' := ntB_lt hw hB
          rw [rc_n (rc mc e1), nI_leI (by omega) (by omega), nI_eq (by omega) (by omega), nI_add]
          have st : ∀ s, s < sN S → (∃ k, k ≤ r + 1 - 1 ∧ dst S V s k ∧ mc.1 17 0 s = nI k) ∨ (nt S V (r + 1 - 1) s = false ∧ mc.1 17 0 s = nI 0) := fun s hs => by
            rw [show r + 1 - 1 = r by omega]; exact e4 s hs hs
          have hB' : ntB S V (r + 1 - 1) N' := by rw [show r + 1 - 1 = r by omega]; exact hB
          refine ⟨fun _ => ⟨fun he => ih N' 0 mc _ _ (by omega) e1 e2 hB' (fun _ t ht q => ?_) (by omega) st, fun he => ih N' 1 mc _ _ (by omega) e1 e2 hB' (fun z => by omega) (by omega) st⟩, fun z => absurd (Nat.le_refl _) z⟩
          rw [show r + 1 - 1 = r by omega]
          -- nothing new: closed from r - 1 on
          have cl : ∀ t, t < sN S → nt S V (r - 1 + 1) t = true → nt S V (r - 1) t = true := fun t ht q => by
            rw [show r - 1 + 1 = r by omega] at q
            have q2 := (hB t).mpr ⟨ht, q⟩
            rw [he] at q2
            exact ((g3 t).mp q2).2
          exact nt_le (by omega) (nt_clos hw cl _ t ht q)
        · intro s hs ih2 N' mc e1 e2 e3 e4 e5
          refine W2_st (bX2_settle_33 mc _ _ _ _ _ ?_)
          simp only [nI_add]
          rw [rc_n (rc mc e1), nI_leI (by omega) (by omega), nI_clamp (n := s) (by omega)]
          refine ⟨fun z => by omega, fun _ => c_has (by omega) (by omega) ⟨_, rfl, ?_⟩⟩
          rw [bI_0]
          refine ⟨fun hin => ?_, fun hin => ?_⟩
          · rw [Bool.not_eq_false] at hin
            have hn := ((g3 s).mp hin).2
            refine ih2 N' mc e1 e2 (fun t => ?_) (fun t ht hts => ?_) (fun t ht hts => e5 t ht (by omega))
            · rw [e3 t]
              constructor
              · intro q
                rcases q with q | q
                · exact Or.inl q
                · exact Or.inr ⟨by omega, q.2⟩
              · intro q
                rcases q with q | q
                · exact Or.inl q
                · by_cases e : t = s
                  · rw [e]; exact Or.inl hin
                  · exact Or.inr ⟨by omega, q.2⟩
            · by_cases e : t = s
              · rw [e]
                rcases e5 s hs (Nat.le_refl _) with ⟨k, hk, q1, q2⟩ | ⟨q1, q2⟩
                · exact Or.inl ⟨k, by omega, q1, q2⟩
                · rw [hn] at q1; cases q1
              · exact e4 t ht (by omega)
          · have hn : nt S V (r - 1) s = false := by
              cases q : nt S V (r - 1) s with
              | false => rfl
              | true => rw [(g3 s).mpr ⟨hs, q⟩] at hin; cases hin
            have h0 : mc.1 17 0 s = nI 0 := by
              rcases e5 s hs (Nat.le_refl _) with ⟨k, hk, q1, q2⟩ | ⟨q1, q2⟩
              · rw [nt_le hk q1.1] at hn; cases hn
              · exact q2
            refine c_tightInto (rc mc e1) hw hs (by omega) (vc mc e1) hVb (fun hno => ⟨_, rfl, fun _ => ?_, fun z => absurd (by decide) z⟩) (fun a ha q1 q2 q3 => ⟨_, rfl, fun z => by rw [z_lt (by have := wf_a hw hs; omega)] at z; exact z.elim, fun _ => ⟨inb_nI (by omega) (by omega), ?_⟩⟩)
            · have hnr : nt S V r s = false := by
                cases q : nt S V r s with
                | false => rfl
                | true =>
                  rw [show r = r - 1 + 1 by omega] at q
                  rcases nt_inv q with q | ⟨a, o, ha, q1, ho, q2⟩
                  · rw [q] at hn; cases hn
                  · exact absurd ⟨(some_nt hw hs ha g3).mpr ⟨o, ho, q2⟩, q1⟩ (hno a ha)
              refine ih2 N' mc e1 e2 (fun t => ?_) (fun t ht hts => ?_) (fun t ht hts => e5 t ht (by omega))
              · rw [e3 t]
                constructor
                · intro q
                  rcases q with q | q
                  · exact Or.inl q
                  · exact Or.inr ⟨by omega, q.2⟩
                · intro q
                  rcases q with q | q
                  · exact Or.inl q
                  · by_cases e : t = s
                    · rw [e, hnr] at q; exact absurd q.2 (by decide)
                    · exact Or.inr ⟨by omega, q.2⟩
              · by_cases e : t = s
                · rw [e]; exact Or.inr ⟨hnr, h0⟩
                · exact e4 t ht (by omega)
            · have hnr : nt S V r s = true := by
                obtain ⟨o, ho, q4⟩ := (some_nt hw hs ha g3).mp q1
                rw [show r = r - 1 + 1 by omega]
                exact nt_step ha q2 ho q4
              rw [one_shl (by omega), nI_or]
              refine ih2 (N' ||| 2 ^ s) (mI mc 17 0 s (nI r)) (offI_I e1 _ _ ⟨Or.inr rfl, rfl⟩) (by rw [mI_r, if_neg (by omega)]; exact e2) (fun t => ?_) (fun t ht hts => ?_) (fun t ht hts => ?_)
              · rw [Nat.testBit_or, two_bit, Bool.or_eq_true, e3 t, decide_eq_true_iff]
                constructor
                · intro q
                  rcases q with (q | q) | q
                  · exact Or.inl q
                  · exact Or.inr ⟨by omega, q.2⟩
                  · exact Or.inr ⟨by omega, by rw [← q]; exact hnr⟩
                · intro q
                  rcases q with q | q
                  · exact Or.inl (Or.inl q)
                  · by_cases e : t = s
                    · exact Or.inr e.symm
                    · exact Or.inl (Or.inr ⟨by omega, q.2⟩)
              · rw [mI_r]
                by_cases e : t = s
                · rw [if_pos ⟨rfl, rfl, e⟩, e]
                  refine Or.inl ⟨r, Nat.le_refl _, ⟨hnr, fun j hj => ?_⟩, rfl⟩
                  cases q : nt S V j s with
                  | false => rfl
                  | true => rw [nt_le (show j ≤ r - 1 by omega) q] at hn; cases hn
                · rw [if_neg (by omega)]; exact e4 t ht (by omega)
              · rw [mI_r, if_neg (by omega)]; exact e5 t ht (by omega)
      refine key2 0 (Nat.zero_le _) N mc g1 g2 (fun t => ?_) (fun t _ z => by omega) (fun t ht _ => g6 t ht)
      constructor
      · intro q; exact Or.inl q
      · intro q
        rcases q with q | q
        · exact q
        · omega
  refine key 1 (by omega) (sM S) 1 m2 _ _ (by omega) o2 v2 (fun t => ?_) (fun z => by omega) (by omega) (fun s hs => ?_)
  · show (sM S).testBit t = true ↔ t < sN S ∧ (sM S).testBit t = true
    exact ⟨fun q => ⟨hw.2.1 t q, q⟩, fun q => q.2⟩
  · rw [f2 s (by omega)]
    cases q : (sM S).testBit s with
    | true => exact Or.inl ⟨0, by omega, ⟨q, fun j hj => by omega⟩, rfl⟩
    | false => exact Or.inr ⟨q, rfl⟩
end L99B
