/-! CONTRACTS (22): the class's verdict: improve, settle (wip/whole/src/73.settleC.src) -/
section L73
variable {xs : Nat × (Nat → Int32)} {d : Nat} {Q : Option v2 → Mem → Prop} {m : Mem} {S : Sys}
theorem bI_or (a b : Bool) : bI a ||| bI b = bI (a || b) := by cases a <;> cases b <;> decide
/-- what improve(seekers) does: w' out of w -/
def impr (S : Sys) (l : Bool) (B : Nat) (V : Nat → Int) (w w' : Nat → Nat) (sk b : Bool) : Prop := (∀ s, B.testBit s = true → wantS S l s ≠ sk → w' s = w s) ∧ (∀ s, B.testBit s = true → wantS S l s = sk → (w' s = w s ∧ ∀ a, a < sA S s → ¬ btr sk (meanS S (4 * s + a) V) (12 * V s)) ∨ (w' s < sA S s ∧ btr sk (meanS S (4 * s + w' s) V) (12 * V s))) ∧ (b = true ↔ ∃ s, B.testBit s = true ∧ wantS S l s = sk ∧ btr sk (meanS S (4 * s + w' s) V) (12 * V s))
theorem op_W {m m' : Mem} {e U i : Nat} (h : offI (tW i) m m') (ho : opened m e U) : opened m' e U := by
  unfold opened at ho ⊢
  rw [(h.1 10 e (by unfold tW; omega)).1, (h.1 13 e (by unfold tW; omega)).1, (h.1 14 e (by unfold tW; omega)).1]
  exact ho
theorem c_improve {i B : Nat} {V : Nat → Int} {w : Nat → Nat} {l : Bool} (sk : Bool) (hR : RC m S) (hw : wf S) (ho : opened m i B) (h5 : cntB B ≤ 5) (hl : m.1 7 i 1 = bI l) (hV : ∀ t, t < sN S → m.2 15 i t = lI (V t)) (hVb : ∀ t, (V t).natAbs ≤ 2 ^ 25) (hp : pol S B w) (hway : ∀ s, B.testBit s = true → m.1 9 i s = nI (w s)) (hold : ∀ s, B.testBit s = true → meanS S (4 * s + w s) V = 12 * V s) (hQ : ∀ b w' m', offI (tW i) m m' → (∀ s, B.testBit s = true → m'.1 9 i s = nI (w' s)) → impr S l B V w w' sk b → Q (some (vI (bI b))) m') : callW2 xs (d + 3) 53 [vR 7 i, vI (bI sk)] m Q := by
  have h3 := wf_n hw
  refine eX8_improve m _ _ (W2_st (bX8_improve_0 m _ _ ?_))
  have key : ∀ r, r ≤ cntB B → ∀ (b : Bool) (wc : Nat → Nat) mc o4, offI (tW i) m mc → (∀ s, B.testBit s = true → mc.1 9 i s = nI (wc s)) → (∀ s, B.testBit s = true → (r ≤ cntU B s ∨ wantS S l s ≠ sk) → wc s = w s) → (∀ s, B.testBit s = true → cntU B s < r → wantS S l s = sk → (wc s = w s ∧ ∀ a, a < sA S s → ¬ btr sk (meanS S (4 * s + a) V) (12 * V s)) ∨ (wc s < sA S s ∧ btr sk (meanS S (4 * s + wc s) V) (12 * V s))) → (b = true ↔ ∃ s, B.testBit s = true ∧ cntU B s < r ∧ wantS S l s = sk ∧ btr sk (meanS S (4 * s + wc s) V) (12 * V s)) → (W2 xs (callW2 xs (d + 2)) tX8_improve [4] (some .boolean) Q 4 [some (vR 7 (i)), some (vI (bI sk)), some (vI (bI b)), some (vI (nI r)), (o4)] [] (mc)) := by
    refine upto (cntB B) ?_ ?_
    · intro b wc mc o4 g1 g2 g3 g4 g5
      refine W2_st (bX8_improve_4 mc _ _ _ _ _ ?_)
      rw [(op_W g1 ho).1, nI_leI (by omega) (by omega)]
      refine ⟨fun _ => ⟨(isB_bI _).mpr trivial, hQ b wc mc g1 g2 ⟨fun s hs hn => g3 s hs (Or.inr hn), fun s hs hn => ?_, ?_⟩⟩, fun z => absurd (Nat.le_refl _) z⟩
      · exact g4 s hs (cntU_B hs (Nat.lt_of_lt_of_le (hp s hs).1 h3)) hn
      · rw [g5]
        constructor
        · rintro ⟨s, q1, _, q3, q4⟩; exact ⟨s, q1, q3, q4⟩
        · rintro ⟨s, q1, q3, q4⟩; exact ⟨s, q1, cntU_B q1 (Nat.lt_of_lt_of_le (hp s q1).1 h3), q3, q4⟩
    · intro r hr ih b wc mc o4 g1 g2 g3 g4 g5
      have ho' := op_W g1 ho
      have hq := qOf_in hr
      have hqn := (hp _ hq.1).1
      have hR' := RC_W g1 hw hR
      have hl' : mc.1 7 i 1 = bI l := by rw [(g1.1 7 i (by unfold tW; omega)).1]; exact hl
      have hcnt : ∀ s, B.testBit s = true → s ≠ qOf B r → cntU B s ≠ r := fun s hs hne e => hne (by rw [← e, qOf_cnt hs (Nat.lt_of_lt_of_le (hp s hs).1 h3)])
      refine W2_st (bX8_improve_4 mc _ _ _ _ _ ?_)
      rw [ho'.1, nI_leI (by omega) (by omega), nI_clamp (n := r) (by omega), ho'.2.2 r hr, hl']
      simp only [nI_add]
      refine ⟨fun z => by omega, fun _ => ⟨inb_nI (by omega) (by omega), c_seeks hR' hw hqn l ⟨_, rfl, ?_⟩⟩⟩
      rw [bI_eq]
      have hwq : wc (qOf B r) = w (qOf B r) := g3 _ hq.1 (Or.inl (by rw [hq.2.2]; exact Nat.le_refl _))
      refine ⟨fun hne => ?_, fun he => ?_⟩
      · refine ih b wc mc _ g1 g2 (fun s hs hc => ?_) (fun s hs hc hn => ?_) ?_
        · by_cases hsq : s = qOf B r
          · rw [hsq]; exact hwq
          · exact g3 s hs (by rcases hc with q | q; exact Or.inl (by omega); exact Or.inr q)
        · by_cases hsq : s = qOf B r
          · rw [hsq] at hn; exact absurd hn hne
          · exact g4 s hs (by have := hcnt s hs hsq; omega) hn
        · rw [g5]
          constructor
          · rintro ⟨s, q1, q2, q3⟩; exact ⟨s, q1, by omega, q3⟩
          · rintro ⟨s, q1, q2, q3, q4⟩
            refine ⟨s, q1, ?_, q3, q4⟩
            have := hcnt s q1 (fun e => by rw [e] at q3; exact hne q3)
            omega
      · have hold' := hold _ hq.1
        refine c_improveState (w := wc) sk hR' hw hqn (fun t ht => by rw [g1.2]; exact hV t ht) hVb (g2 _ hq.1) (by rw [hwq]; exact (hp _ hq.1).2) (by rw [hwq]; exact hold') (fun b' v m5 f1 f2 f3 f4 => ⟨_, rfl, ?_⟩)
        rw [bI_or]
        refine ih (b || b') (fun s => if s = qOf B r then v else wc s) m5 _ (offI_trans g1 f1) (fun s hs => ?_) (fun s hs hc => ?_) (fun s hs hc hn => ?_) ?_
        · by_cases hsq : s = qOf B r
          · rw [if_pos hsq, hsq]; exact f3
          · rw [if_neg hsq, f2 s hsq]; exact g2 s hs
        · by_cases hsq : s = qOf B r
          · exfalso
            rw [hsq] at hc
            rcases hc with q | q
            · have := hq.2.2; omega
            · exact q he
          · show (if s = qOf B r then v else wc s) = w s
            rw [if_neg hsq]
            exact g3 s hs (by rcases hc with q | q; exact Or.inl (by omega); exact Or.inr q)
        · by_cases hsq : s = qOf B r
          · subst hsq
            rw [if_pos rfl]
            cases b' with
            | true => exact Or.inr f4
            | false => exact Or.inl ⟨f4.1.trans hwq, f4.2⟩
          · rw [if_neg hsq]
            exact g4 s hs (by have := hcnt s hs hsq; omega) hn
        · rw [Bool.or_eq_true, g5]
          constructor
          · rintro (⟨s, q1, q2, q3, q4⟩ | hb')
            · have hsq : s ≠ qOf B r := fun e => by rw [e, hq.2.2] at q2; omega
              exact ⟨s, q1, by omega, q3, by rw [if_neg hsq]; exact q4⟩
            · subst hb'
              exact ⟨qOf B r, hq.1, by rw [hq.2.2]; omega, he, by rw [if_pos rfl]; exact f4.2⟩
          · rintro ⟨s, q1, q2, q3, q4⟩
            by_cases hsq : s = qOf B r
            · refine Or.inr ?_
              cases b' with
              | true => rfl
              | false =>
                rw [if_pos hsq, hsq, f4.1] at q4
                exact absurd q4 (f4.2 _ (by rw [hwq]; exact (hp _ hq.1).2))
            · rw [if_neg hsq] at q4
              exact Or.inl ⟨s, q1, by have := hcnt s q1 hsq; omega, q3, q4⟩
  exact key 0 (Nat.zero_le _) false w m none (offI_rfl _ _) hway (fun _ _ _ => rfl) (fun s hs hc => by omega) ⟨fun z => (by cases z), fun ⟨s, _, q, _⟩ => (by omega)⟩
def tSe (i : Nat) : Nat → Nat → Prop := fun t j => (t = 7 ∨ t = 9 ∨ t = 10 ∨ t = 13 ∨ t = 14 ∨ t = 15) ∧ j = i ∨ t = 12 ∧ j / 5 = i
theorem RC_S {m' : Mem} {i : Nat} (h : off (tSe i) m m') (hw : wf S) (hR : RC m S) : RC m' S := RC_off h (by unfold tSe; omega) (by unfold tSe; omega) (fun x _ => by unfold tSe; omega) (fun x _ => by unfold tSe; omega) (fun x _ => by unfold tSe; omega) hw hR
/-- what settle() has found -/
def settledV (m : Mem) (S : Sys) (l : Bool) (i X Y : Nat) : Prop := m.1 7 i 10 = bI (decide (cntB (ndiff Y X) ≤ 5)) ∧ (cntB (ndiff Y X) ≤ 5 → ∃ w V D, saddle S l (ndiff Y X) X w V D ∧ (∀ s, s < sN S → m.2 15 i s = lI (V s)) ∧ m.2 7 i 7 = lI D ∧ (∀ s, (V s).natAbs ≤ 2 ^ 25) ∧ D.natAbs ≤ 2 ^ 25 ∧ ∀ s, (ndiff Y X).testBit s = true → 0 < V s)
theorem open_bits {n X Y : Nat} (hY : sub_n Y n) : ndiff (ndiff (fullB n) X) (ndiff (fullB n) Y) = ndiff Y X := by
  apply Nat.eq_of_testBit_eq
  intro i
  rw [ndiff_bit, ndiff_bit, ndiff_bit, ndiff_bit, fullB_bit]
  cases hy : Y.testBit i with
  | true => rw [decide_eq_true (hY i hy)]; cases X.testBit i <;> rfl
  | false => cases X.testBit i <;> cases decide (i < n) <;> rfl
/-- what is open has some chance -/
theorem sad_pos {l : Bool} {X Y : Nat} {w0 w : Nat → Nat} {V : Nat → Int} {D : Int} (hw : wf S) (hf : full S) (hX : isOnes S l X) (hY : isG S l (fullB (sN S)) Y) (hrk : ranked S l (fullB (sN S)) Y w0) (h : saddle S l (ndiff Y X) X w V D) : ∀ s, (ndiff Y X).testBit s = true → 0 < V s := by
  obtain ⟨hBn, hd, hBf⟩ := open_facts hX hY
  have hwp := h.2.1
  have hcp : pol S (ndiff Y X) (fun s => if wantS S l s = true then w0 s else w s) := fun s hs => ⟨hBn s hs, by
    show (if wantS S l s = true then w0 s else w s) < _
    split
    · exact (hrk.1 s (hBf s hs).1 (hBf s hs).2.2.1).2.1
    · exact (hwp s hs).2⟩
  obtain ⟨W, E, hch⟩ := chance_ex hw hf hX.1.1 hd hcp
  have hup := sad_up hw hf hd h hcp hch (fun s _ hwt => by show (if wantS S l s = true then w0 s else w s) = w s; rw [if_neg (by rw [hwt]; simp)])
  obtain ⟨hE, Z, hZB, hZl, w1, w2, w3, w4⟩ := hch
  have hWp : ∀ s, (ndiff Y X).testBit s = true → 0 < W s := by
    intro s0 hs0
    apply Classical.byContradiction
    intro hn
    have h00 : W s0 = 0 := by have := w3 s0 (hBn s0 hs0); omega
    obtain ⟨s, q1, q2, q3⟩ := hrk.2 (fun s => (ndiff Y X).testBit s = true ∧ W s = 0) ⟨s0, hs0, h00⟩ (fun s hs => ⟨(hBf s hs.1).1, (hBf s hs.1).2.2.1⟩)
    have hx := pol_a hw hcp q1.1
    have hex : ∃ o, o < sO S (4 * s + (if wantS S l s = true then w0 s else w s)) ∧ Y.testBit (sT S (4 * s + (if wantS S l s = true then w0 s else w s)) o) = true ∧ ¬ ((ndiff Y X).testBit (sT S (4 * s + (if wantS S l s = true then w0 s else w s)) o) = true ∧ W (sT S (4 * s + (if wantS S l s = true then w0 s else w s)) o) = 0) := by
      cases hwt : wantS S l s with
      | true => rw [if_pos rfl]; exact q2 hwt
      | false => rw [if_neg (by simp)]; exact q3 hwt _ (hwp s q1.1).2
    obtain ⟨o, ho, p2, p3⟩ := hex
    have hT := wf_t hw hx ho
    have hWT : 0 < W (sT S (4 * s + (if wantS S l s = true then w0 s else w s)) o) := by
      cases hXT : X.testBit (sT S (4 * s + (if wantS S l s = true then w0 s else w s)) o) with
      | true => rw [w1 _ hT hXT]; exact hE
      | false =>
        have hBT : (ndiff Y X).testBit (sT S (4 * s + (if wantS S l s = true then w0 s else w s)) o) = true := by rw [ndiff_bit, p2, hXT]; rfl
        have h7 := w3 _ hT
        have h8 : W (sT S (4 * s + (if wantS S l s = true then w0 s else w s)) o) ≠ 0 := fun z => p3 ⟨hBT, z⟩
        omega
    have h9 := w4 s q1.1
    have h10 : meanS S (4 * s + (if wantS S l s = true then w0 s else w s)) (fun _ => 0) < meanS S (4 * s + (if wantS S l s = true then w0 s else w s)) W := by
      refine sumI_lt (fun o ho => Int.mul_le_mul_of_nonneg_left (w3 _ (wf_t hw hx ho)) (Int.natCast_nonneg _)) ho ?_
      have := (wf_p hw hx ho).1
      exact Int.mul_lt_mul_of_pos_left hWT (by omega)
    rw [meanS_zero (fun _ _ => rfl)] at h10
    have h11 := q1.2
    rw [h11] at h9
    dsimp only at h9
    omega
  intro s hs
  have h1 := hup s (hBn s hs)
  have h2 := Int.mul_pos (hWp s hs) h.1
  apply Classical.byContradiction
  intro hn
  have h3 : V s * E ≤ 0 := Int.mul_nonpos_of_nonpos_of_nonneg (by omega) (Int.le_of_lt hE)
  omega
theorem c_settleN {i X Y : Nat} {w0 : Nat → Nat} {l : Bool} (hR : RC m S) (hw : wf S) (hf : full S) (hl : m.1 7 i 1 = bI l) (hv : m.1 7 i 5 ≠ m.1 1 0 2) (hso : sorted m S l i X Y) (hway : ∀ t, t < sN S → m.1 9 i t = nI (w0 t)) (hrk : ranked S l (fullB (sN S)) Y w0) (hQ : ∀ m', off (tSe i) m m' → m'.1 7 i 5 = m.1 1 0 2 → (∀ k, k ≠ 5 → k ≠ 10 → m'.1 7 i k = m.1 7 i k) → settledV m' S l i X Y → Q none m') : callW2 xs (d + 4) 50 [vR 7 i] m Q := by
  have h3 := wf_n hw
  obtain ⟨s8, s9, hX, hY⟩ := hso
  obtain ⟨hBn, hd, hBf⟩ := open_facts hX hY
  have hX10 := sub_lt hX.1.1 h3
  refine eX8_settle m _ (W2_st (bX8_settle_0 m _ ⟨fun _ => ?_, fun z => absurd z hv⟩))
  have o1 : off (tSe i) m (mI m 7 i 5 (m.1 1 0 2)) := off_I (off_rfl _ _) _ _ (Or.inl ⟨Or.inl rfl, rfl⟩)
  refine c_everyone (RC_S o1 hw hR) hw ⟨_, rfl, ?_⟩
  rw [mI_r, if_neg (by omega), mI_r, if_neg (by omega), s8, s9, nI_diff, nI_diff, open_bits hY.1]
  generalize hBe : ndiff Y X = B at hBn hd hBf
  have hB10 := sub_lt hBn h3
  have gd0 : good S l B w0 := by
    refine ⟨fun s hs => ?_, fun c hc hag C hC hCB => ?_⟩
    · have := hrk.1 s (hBf s hs).1 (hBf s hs).2.2.1
      exact ⟨this.1, this.2.1⟩
    · obtain ⟨s, q1, q2, q3⟩ := hrk.2 C hC (fun s hs => ⟨(hBf s (hCB s hs)).1, (hBf s (hCB s hs)).2.2.1⟩)
      cases hwt : wantS S l s with
      | true =>
        obtain ⟨o, p1, _, p3⟩ := q2 hwt
        rw [← hag s (hCB s q1) hwt] at p1 p3
        exact ⟨s, q1, o, p1, p3⟩
      | false =>
        obtain ⟨o, p1, _, p3⟩ := q3 hwt (c s) (hc s (hCB s q1)).2
        exact ⟨s, q1, o, p1, p3⟩
  refine c_open hB10 (fun h6 => ⟨_, rfl, (isB_bI _).mpr trivial, ?_⟩) (fun m5 h5 e1 e2 => ⟨_, rfl, (isB_bI _).mpr trivial, ?_⟩)
  · rw [mI_r, if_pos ⟨rfl, rfl, rfl⟩]
    refine W2_st (bX8_settle_35 _ _ _ _ ⟨fun z => absurd z (by decide), fun _ => ⟨fun _ => ?_, fun z => absurd rfl z⟩⟩)
    refine hQ _ (off_I o1 _ _ (Or.inl ⟨Or.inl rfl, rfl⟩)) ?_ (fun k k1 k2 => ?_) ⟨?_, fun z => ?_⟩
    · rw [mI_r, if_neg (by omega), mI_r, if_pos ⟨rfl, rfl, rfl⟩]
    · rw [mI_r, if_neg (by omega), mI_r, if_neg (by omega)]
    · rw [mI_r, if_pos ⟨rfl, rfl, rfl⟩, hBe, decide_eq_false (by omega)]
    · rw [hBe] at z; omega
  · rw [mI_r, if_pos ⟨rfl, rfl, rfl⟩]
    have o5 : off (tSe i) m (mI m5 7 i 10 (bI true)) := off_I (off_trans o1 (off_sub e1.1 (fun t j z => Or.inl ⟨by have := z.1; omega, z.2⟩))) _ _ (Or.inl ⟨Or.inl rfl, rfl⟩)
    have x7 : ∀ k, (mI m5 7 i 10 (bI true)).1 7 i k = if k = 10 then bI true else if k = 5 then m.1 1 0 2 else m.1 7 i k := by
      intro k
      rw [mI_r]
      by_cases h10 : k = 10
      · rw [if_pos ⟨rfl, rfl, h10⟩, if_pos h10]
      · rw [if_neg (fun z => h10 z.2.2), if_neg h10, (e1.1 7 i (by unfold tE; omega)).1, mI_r]
        by_cases hk5 : k = 5
        · rw [if_pos ⟨rfl, rfl, hk5⟩, if_pos hk5]
        · rw [if_neg (fun z => hk5 z.2.2), if_neg hk5]
    have op5 : opened (mI m5 7 i 10 (bI true)) i B := by
      unfold opened at e2 ⊢
      refine ⟨?_, fun s hs => ?_, fun j hj => ?_⟩
      · rw [mI_r, if_neg (by omega)]; exact e2.1
      · rw [mI_r, if_neg (by omega)]; exact e2.2.1 s hs
      · rw [mI_r, if_neg (by omega)]; exact e2.2.2 j hj
    have w5 : ∀ s, B.testBit s = true → (mI m5 7 i 10 (bI true)).1 9 i s = nI (w0 s) := fun s hs => by
      rw [mI_r, if_neg (by omega), (e1.1 9 i (by unfold tE; omega)).1, mI_r, if_neg (by omega)]
      exact hway s (hBn s hs)
    have key : ∀ N w mc r, mu S l B X w ≤ N → r + N ≤ 2000 → good S l B w → off (tSe i) m mc → (∀ k, mc.1 7 i k = if k = 10 then bI true else if k = 5 then m.1 1 0 2 else m.1 7 i k) → opened mc i B → (∀ s, B.testBit s = true → mc.1 9 i s = nI (w s)) → (W2 xs (callW2 xs (d + 3)) tX8_settle [35] none Q 35 [some (vR 7 (i)), some (vI (bI true)), some (vI (nI r))] [] (mc)) := by
      intro N
      induction N using Nat.strongRecOn with
      | _ N ihN =>
        intro w mc r hN hr hg g1 g2 g3 g4
        have hRc := RC_S g1 hw hR
        have hlk := good_lk hg
        obtain ⟨D1, q1, q2, q3, q4⟩ := sol_facts (X := X) hw hf hd hg
        refine W2_st (bX8_settle_35 mc _ _ _ ?_)
        rw [nI_leI (by omega) (by omega)]
        simp only [nI_add]
        refine ⟨fun z => by omega, fun _ => ⟨fun z => absurd z (by decide), fun _ => ?_⟩⟩
        have mc8 : mc.1 7 i 8 = nI X := by rw [g2, if_neg (by omega), if_neg (by omega)]; exact s8
        refine c_evaluate hRc hw hf g3 h5 hg.1 hlk g4 mc8 hX10 hd (fun m2 f1 f2 f3 => ⟨rfl, ?_⟩)
        have o2 : off (tSe i) m m2 := off_trans g1 (off_sub f1.1 (fun t j z => by unfold tEv at z; unfold tSe; omega))
        have hR2 := RC_L f1.2 hRc
        have l2 : m2.1 7 i 1 = bI l := by rw [f1.2, g2, if_neg (by omega), if_neg (by omega)]; exact hl
        have w2 : ∀ s, B.testBit s = true → m2.1 9 i s = nI (w s) := fun s hs => by rw [f1.2]; exact g4 s hs
        have hVb : ∀ t, (solW S B X w t).natAbs ≤ 2 ^ 25 := fun t => (solW_le hw hf hg.1 hlk h5 t).1
        refine c_improve false hR2 hw (op_L f1.2 g3) h5 l2 f2 hVb hg.1 w2 (fun s hs => (q1 s hs).symm) (fun b w' m4 e3 e4 e5 => ⟨_, rfl, ?_⟩)
        have o4 : off (tSe i) m m4 := off_trans o2 (off_sub e3.1 (fun t j z => by unfold tW at z; unfold tSe; omega))
        have x74 : ∀ k, m4.1 7 i k = if k = 10 then bI true else if k = 5 then m.1 1 0 2 else m.1 7 i k := fun k => by rw [(e3.1 7 i (by unfold tW; omega)).1, f1.2]; exact g2 k
        have op4 : opened m4 i B := op_W e3 (op_L f1.2 g3)
        obtain ⟨i1, i2, i3⟩ := e5
        rw [bI_0]
        refine ⟨fun hb => ?_, fun hb => ?_⟩
        · rw [Bool.not_eq_false] at hb
          have hrn : rnk S l B X w w' := step_no hw hf hd hg (fun s hs => ⟨hBn s hs, by
            by_cases hwt : wantS S l s = false
            · rcases i2 s hs hwt with q | q
              · rw [q.1]; exact (hg.1 s hs).2
              · exact q.1
            · rw [i1 s hs hwt]; exact (hg.1 s hs).2⟩) (fun s hs hwt => i1 s hs (by rw [hwt]; simp)) (fun s hs hwt => by
            rcases i2 s hs hwt with q | q
            · exact Or.inl q.1
            · exact Or.inr q.2) (by obtain ⟨s, p1, p2, p3⟩ := i3.mp hb; exact ⟨s, p1, p2, p3⟩)
          have hmu := mu_lt hw hf hd h5 hg hrn
          exact ihN (mu S l B X w') (by omega) w' m4 (r + 1) (Nat.le_refl _) (by omega) hrn.1 o4 x74 op4 e4
        · -- the others are content
          have hno : ∀ s, B.testBit s = true → wantS S l s = false → w' s = w s ∧ ∀ a, a < sA S s → 12 * solW S B X w s ≤ meanS S (4 * s + a) (solW S B X w) := by
            intro s hs hwt
            rcases i2 s hs hwt with q | q
            · refine ⟨q.1, fun a ha => ?_⟩
              have : ¬ meanS S (4 * s + a) (solW S B X w) < 12 * solW S B X w s := q.2 a ha
              omega
            · rw [i3.mpr ⟨s, hs, hwt, q.2⟩] at hb; cases hb
          have hww : ∀ s, B.testBit s = true → w' s = w s := fun s hs => by
            by_cases hwt : wantS S l s = false
            · exact (hno s hs hwt).1
            · exact i1 s hs hwt
          have w4 : ∀ s, B.testBit s = true → m4.1 9 i s = nI (w s) := fun s hs => by rw [e4 s hs, hww s hs]
          have l4 : m4.1 7 i 1 = bI l := by rw [x74, if_neg (by omega), if_neg (by omega)]; exact hl
          refine c_improve true (RC_S o4 hw hR) hw op4 h5 l4 (fun t ht => by rw [e3.2]; exact f2 t ht) hVb hg.1 w4 (fun s hs => (q1 s hs).symm) (fun b2 w2' m7 e6 e7 e8 => ⟨_, rfl, ?_⟩)
          have o7 : off (tSe i) m m7 := off_trans o4 (off_sub e6.1 (fun t j z => by unfold tW at z; unfold tSe; omega))
          have x77 : ∀ k, m7.1 7 i k = if k = 10 then bI true else if k = 5 then m.1 1 0 2 else m.1 7 i k := fun k => by rw [(e6.1 7 i (by unfold tW; omega)).1]; exact x74 k
          have op7 : opened m7 i B := op_W e6 op4
          obtain ⟨j1, j2, j3⟩ := e8
          rw [bI_0]
          refine ⟨fun hb2 => ?_, fun hb2 => ?_⟩
          · -- both are content
            subst hb2
            refine W2_st (bX8_settle_35 m7 _ _ _ ?_)
            rw [nI_leI (by omega) (by omega)]
            refine ⟨fun z => by omega, fun _ => ⟨fun _ => ?_, fun z => absurd rfl z⟩⟩
            have hyes : ∀ s, B.testBit s = true → wantS S l s = true → ∀ a, a < sA S s → meanS S (4 * s + a) (solW S B X w) ≤ 12 * solW S B X w s := by
              intro s hs hwt a ha
              rcases j2 s hs hwt with q | q
              · have : ¬ 12 * solW S B X w s < meanS S (4 * s + a) (solW S B X w) := q.2 a ha
                omega
              · have := j3.mpr ⟨s, hs, hwt, q.2⟩; cases this
            have hsad : saddle S l (ndiff Y X) X w (solW S B X w) (solD S B X w) := by
              rw [hBe]
              refine ⟨D1, hg.1, q2, q3, q4, q1, fun s hs a ha => ?_, hg.2⟩
              cases hwt : wantS S l s with
              | true => exact hyes s hs hwt a ha
              | false => exact (hno s hs hwt).2 a ha
            refine hQ m7 o7 ?_ (fun k k1 k2 => ?_) ⟨?_, fun _ => ⟨w, solW S B X w, solD S B X w, hsad, fun s hs => ?_, ?_, hVb, (solW_le hw hf hg.1 hlk h5 0).2, sad_pos hw hf hX hY hrk hsad⟩⟩
            · rw [x77, if_neg (by omega), if_pos rfl]
            · rw [x77, if_neg k2, if_neg k1]
            · rw [x77, if_pos rfl, hBe, decide_eq_true h5]
            · rw [e6.2, e3.2]; exact f2 s hs
            · rw [e6.2, e3.2]; exact f3
          · rw [Bool.not_eq_false] at hb2
            have hrn : rnk S l B X w w2' := step_yes hw hf hd hg (fun s hs => ⟨hBn s hs, by
              by_cases hwt : wantS S l s = true
              · rcases j2 s hs hwt with q | q
                · rw [q.1]; exact (hg.1 s hs).2
                · exact q.1
              · rw [j1 s hs hwt]; exact (hg.1 s hs).2⟩) (fun s hs hwt => (hno s hs hwt).2) (fun s hs hwt => by
              rcases j2 s hs hwt with q | q
              · exact Or.inl q.1
              · exact Or.inr q.2) (by obtain ⟨s, p1, p2, p3⟩ := j3.mp hb2; exact ⟨s, p1, p2, p3⟩)
            have hmu := mu_lt hw hf hd h5 hg hrn
            exact ihN (mu S l B X w2') (by omega) w2' m7 (r + 1) (Nat.le_refl _) (by omega) hrn.1 o7 x77 op7 e7
    have hm := mu_le (S := S) (l := l) (B := B) (X := X) w0
    exact key 1024 w0 _ 0 hm (by omega) gd0 o5 x7 op5 w5
end L73
