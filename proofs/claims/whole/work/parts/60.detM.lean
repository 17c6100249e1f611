/-! CONTRACTS (10): the reference's determinant (wip/whole/src/60.detM.src) -/
/-- nothing has changed but cells of T, and no int -/
def offL (T : Nat → Nat → Prop) (m m' : Mem) : Prop := off T m m' ∧ m'.1 = m.1
theorem offL_rfl (T : Nat → Nat → Prop) (m : Mem) : offL T m m := ⟨off_rfl _ _, rfl⟩
theorem offL_trans {T : Nat → Nat → Prop} {a b c : Mem} (h : offL T a b) (h2 : offL T b c) : offL T a c := ⟨off_trans h.1 h2.1, h2.2.trans h.2⟩
theorem offL_sub {T T' : Nat → Nat → Prop} {a b : Mem} (h : offL T a b) (hs : ∀ t i, T t i → T' t i) : offL T' a b := ⟨off_sub h.1 hs, h.2⟩
theorem offL_L {T : Nat → Nat → Prop} {a b : Mem} (h : offL T a b) {t i : Nat} (k : Nat) (v : Int64) (hT : T t i) : offL T a (mL b t i k v) := ⟨off_L h.1 _ _ hT, h.2⟩
theorem lI_eq {a b : Int} (ha : -2 ^ 63 ≤ a) (ha2 : a < 2 ^ 63) (hb : -2 ^ 63 ≤ b) (hb2 : b < 2 ^ 63) : lI a = lI b ↔ a = b := by
  constructor
  · intro h
    have := congrArg Int64.toInt h
    rw [lI_toInt ha ha2, lI_toInt hb hb2] at this
    exact this
  · intro h; rw [h]
theorem lI_le {a b : Int} (ha : -2 ^ 63 ≤ a) (ha2 : a < 2 ^ 63) (hb : -2 ^ 63 ≤ b) (hb2 : b < 2 ^ 63) : lI a ≤ lI b ↔ a ≤ b := by rw [l_le, lI_toInt ha ha2, lI_toInt hb hb2]
theorem lI_lt {a b : Int} (ha : -2 ^ 63 ≤ a) (ha2 : a < 2 ^ 63) (hb : -2 ^ 63 ≤ b) (hb2 : b < 2 ^ 63) : lI a < lI b ↔ a < b := by rw [l_lt, lI_toInt ha ha2, lI_toInt hb hb2]
/-- a division that leaves no rest -/
theorem lI_div {q b : Int} (hb : b ≠ 0) (h1 : -2 ^ 63 < q * b) (h2 : q * b < 2 ^ 63) (h3 : -2 ^ 63 ≤ b) (h4 : b < 2 ^ 63) : lI (q * b) / lI b = lI q := by
  apply Int64.toInt_inj.mp
  have hq : q.natAbs ≤ (q * b).natAbs := by
    rw [Int.natAbs_mul]
    exact Nat.le_mul_of_pos_right _ (by omega)
  rw [Int64.toInt_div, lI_toInt (by omega) h2, lI_toInt h3 h4, Int.mul_tdiv_cancel _ hb, lI_toInt (by omega) (by omega)]
  exact Int.bmod_eq_of_le (by omega) (by omega)
section L60
variable {xs : Nat × (Nat → Int32)} {d : Nat} {Q : Option v2 → Mem → Prop}
def tM (t0 : Nat) : Nat → Nat → Prop := fun t j => t = t0 ∧ j = 0
theorem bm_le {n : Nat} {P : Nat → Nat → Int} {w : Nat → Nat} (hP : ∀ r c, r < n → c < n → (P r c).natAbs ≤ w c) {k i j : Nat} (hk : k < n) (hi : i < n) (hj : j < n) : (bm P k i j).natAbs ≤ facN (k + 1) * (prodN w k * w j) := by
  unfold bm
  have h := det_le (n := k + 1) (A := fun r c => P (if r < k then r else i) (if c < k then c else j)) (w := fun c => if c < k then w c else w j) (fun r c hr hc => by
    have h1 : (if r < k then r else i) < n := by split <;> omega
    by_cases hc2 : c < k
    · rw [if_pos hc2, if_pos hc2]; exact hP _ c h1 (by omega)
    · rw [if_neg hc2, if_neg hc2]; exact hP _ j h1 hj)
  have e : prodN (fun c => if c < k then w c else w j) (k + 1) = prodN w k * w j := by
    simp only [prodN]
    rw [if_neg (Nat.lt_irrefl k), prodN_congr (v := w) (fun i hi => if_pos hi)]
  rw [e] at h
  exact h
theorem r_det {m : Mem} {n : Nat} {A : Nat → Nat → Int} {w : Nat → Nat} (hn : n ≤ 5) (hA : ∀ r c, r < n → c < n → m.2 47 0 (6 * r + c) = lI (A r c)) (hw : ∀ r c, r < n → c < n → (A r c).natAbs ≤ w c) (hb1 : ∀ k j, k < n → j < n → k ≤ j → facN (k + 1) * (prodN w k * w j) < 2 ^ 62) (hb2 : ∀ k j, k + 1 < n → j < n → k ≤ j → facN (k + 1) * (prodN w k * w j) ≤ 2 ^ 30) (hQ : ∀ m', offL (tM 47) m m' → Q (some (vL (lI (det n A)))) m') : callW2 xs (d + 1) 135 [vR 40 0, vI (nI n)] m Q := by
  refine eX12_determinant m _ (W2_st (bX12_determinant_0 m _ ?_))
  have key : ∀ k, k ≤ n → ∀ (P : Nat → Nat → Int) (sgn : Int) mc o7 o8 o9, offL (tM 47) m mc → (∀ r c, r < n → c < n → (P r c).natAbs ≤ w c) → sgn * det n P = det n A → det k P ≠ 0 → (∀ r c, k ≤ r → r < n → k ≤ c → c < n → mc.2 47 0 (6 * r + c) = lI (bm P k r c)) → (W2 xs (callW2 xs d) tX12_determinant [6, 11, 34, 88, 95] (some .long) Q 6 [some (vR 40 0), some (vI (nI n)), some (vL (lI sgn)), none, some (vL (lI (det k P))), none, some (vI (nI k)), (o7), (o8), (o9), none] [] (mc)) := by
    refine upto n ?_ ?_
    · intro P sgn mc o7 o8 o9 h1 h2 h3 h4 h5
      refine W2_st (bX12_determinant_6 mc _ _ _ _ _ _ _ ?_)
      rw [nI_leI (by omega) (by omega), lI_mul, h3]
      exact ⟨fun _ => hQ mc h1, fun z => absurd (Nat.le_refl _) z⟩
    · intro k hk ih P sgn mc o7 o8 o9 h1 h2 h3 h4 h5
      refine W2_st (bX12_determinant_6 mc _ _ _ _ _ _ _ ?_)
      rw [nI_leI (by omega) (by omega)]
      refine ⟨fun z => by omega, fun _ => ?_⟩
      -- what is left once row p is the pivot's
      have elim : ∀ (P : Nat → Nat → Int) (sgn : Int) mc o7 o9, offL (tM 47) m mc → (∀ r c, r < n → c < n → (P r c).natAbs ≤ w c) → sgn * det n P = det n A → det k P ≠ 0 → (∀ r c, k ≤ r → r < n → k ≤ c → c < n → mc.2 47 0 (6 * r + c) = lI (bm P k r c)) → bm P k k k ≠ 0 → (W2 xs (callW2 xs d) tX12_determinant [6, 11, 34, 88, 95] (some .long) Q 88 [some (vR 40 0), some (vI (nI n)), some (vL (lI sgn)), none, some (vL (lI (det k P))), none, some (vI (nI k)), some (vI (o7)), some (vI (nI (k + 1))), (o9), none] [] (mc)) := by
        intro P sgn mc x7 o9 h1 h2 h3 h4 h5 hpk
        have step : ∀ i, i ≤ n → ∀ mc o9, k + 1 ≤ i → offL (tM 47) m mc → (∀ r c, k ≤ r → r < n → k ≤ c → c < n → mc.2 47 0 (6 * r + c) = lI (if k < r ∧ r < i ∧ k < c then bm P (k + 1) r c else bm P k r c)) → (W2 xs (callW2 xs d) tX12_determinant [6, 11, 34, 88, 95] (some .long) Q 88 [some (vR 40 0), some (vI (nI n)), some (vL (lI sgn)), none, some (vL (lI (det k P))), none, some (vI (nI k)), some (vI (x7)), some (vI (nI i)), (o9), none] [] (mc)) := by
          refine upto n ?_ ?_
          · intro mc o9 hki g1 g2
            refine W2_st (bX12_determinant_88 mc _ _ _ _ _ _ _ ?_)
            simp (disch := omega) only [nI_leI, pk_mul, nI_add, nI_clamp, inb_iff]
            refine ⟨fun _ => ⟨by omega, ?_⟩, fun z => absurd (Nat.le_refl _) z⟩
            rw [g2 k k (Nat.le_refl _) hk (Nat.le_refl _) hk, if_neg (by omega), bm_kk]
            rw [bm_kk] at hpk
            refine ih P sgn mc _ _ _ g1 h2 h3 hpk (fun r c q1 q2 q3 q4 => ?_)
            rw [g2 r c (by omega) q2 (by omega) q4, if_pos ⟨by omega, q2, by omega⟩]
          · intro i hi ihi mc o9 hki g1 g2
            refine W2_st (bX12_determinant_88 mc _ _ _ _ _ _ _ ?_)
            rw [nI_leI (by omega) (by omega), nI_add]
            refine ⟨fun z => by omega, fun _ => ?_⟩
            have inner : ∀ j, j ≤ n → ∀ mc, k + 1 ≤ j → offL (tM 47) m mc → (∀ r c, k ≤ r → r < n → k ≤ c → c < n → mc.2 47 0 (6 * r + c) = lI (if k < r ∧ (r < i ∨ r = i ∧ c < j) ∧ k < c then bm P (k + 1) r c else bm P k r c)) → (W2 xs (callW2 xs d) tX12_determinant [6, 11, 34, 88, 95] (some .long) Q 95 [some (vR 40 0), some (vI (nI n)), some (vL (lI sgn)), none, some (vL (lI (det k P))), none, some (vI (nI k)), some (vI (x7)), some (vI (nI i)), some (vI (nI j)), none] [] (mc)) := by
              refine upto n ?_ ?_
              · intro mc hkj e1 e2
                refine W2_st (bX12_determinant_95 mc _ _ _ _ _ _ _ ?_)
                rw [nI_leI (by omega) (by omega), nI_add]
                refine ⟨fun _ => ihi mc _ (by omega) e1 (fun r c q1 q2 q3 q4 => ?_), fun z => absurd (Nat.le_refl _) z⟩
                rw [e2 r c q1 q2 q3 q4]
                congr 1
                by_cases hc : k < r ∧ r < i + 1 ∧ k < c
                · rw [if_pos hc, if_pos ⟨hc.1, by omega, hc.2.2⟩]
                · rw [if_neg hc, if_neg (by omega)]
              · intro j hj ihj mc hkj e1 e2
                refine W2_st (bX12_determinant_95 mc _ _ _ _ _ _ _ ?_)
                simp (disch := omega) only [nI_leI, pk_mul, nI_add, nI_clamp, inb_iff]
                rw [e2 i j (by omega) hi (by omega) hj, if_neg (by omega), e2 k k (Nat.le_refl _) hk (Nat.le_refl _) hk, if_neg (by omega), e2 i k (by omega) hi (Nat.le_refl _) hk, if_neg (by omega), e2 k j (Nat.le_refl _) hk (by omega) hj, if_neg (by omega), lI_mul, lI_mul, lI_sub]
                have b0 : ∀ i j, i < n → j < n → k ≤ j → (bm P k i j).natAbs ≤ 2 ^ 30 := fun i j hi hj hkj => Nat.le_trans (bm_le h2 (by omega) hi hj) (hb2 k j (by omega) hj hkj)
                have bD : (det k P).natAbs ≤ 2 ^ 30 := by
                  rcases Nat.eq_zero_or_pos k with hk0 | hk0
                  · subst hk0; show (1 : Int).natAbs ≤ _; decide
                  · have := Nat.le_trans (bm_le h2 (k := k - 1) (i := k - 1) (j := k - 1) (by omega) (by omega) (by omega)) (hb2 (k - 1) (k - 1) (by omega) (by omega) (Nat.le_refl _))
                    rw [bm_kk, show k - 1 + 1 = k by omega] at this
                    exact this
                have m1 : (bm P k i j * bm P k k k).natAbs ≤ 2 ^ 60 := by rw [Int.natAbs_mul]; exact Nat.le_trans (Nat.mul_le_mul (b0 i j hi hj (by omega)) (b0 k k hk hk (Nat.le_refl _))) (by decide)
                have m2 : (bm P k i k * bm P k k j).natAbs ≤ 2 ^ 60 := by rw [Int.natAbs_mul]; exact Nat.le_trans (Nat.mul_le_mul (b0 i k hi hk (Nat.le_refl _)) (b0 k j hk hj (by omega))) (by decide)
                have hs := sylv h4 i j
                rw [← hs, lI_div h4 (by omega) (by omega) (by omega) (by omega)]
                refine ⟨fun z => by omega, fun _ => ⟨by omega, by omega, by omega, by omega, ?_, by omega, ?_⟩⟩
                · intro z
                  have := congrArg Int64.toInt z
                  rw [lI_toInt (by omega) (by omega)] at this
                  exact h4 this
                · refine ihj _ (by omega) (offL_L e1 _ _ ⟨rfl, rfl⟩) (fun r c q1 q2 q3 q4 => ?_)
                  rw [mL_r]
                  by_cases hrc : r = i ∧ c = j
                  · rw [if_pos ⟨rfl, rfl, by rw [hrc.1, hrc.2]⟩, if_pos ⟨by omega, by omega, by omega⟩, hrc.1, hrc.2]
                  · rw [if_neg (by omega), e2 r c q1 q2 q3 q4]
                    congr 1
                    by_cases hc : k < r ∧ (r < i ∨ r = i ∧ c < j + 1) ∧ k < c
                    · rw [if_pos hc, if_pos ⟨hc.1, by omega, hc.2.2⟩]
                    · rw [if_neg hc, if_neg (by omega)]
            refine inner (k + 1) (by omega) mc (Nat.le_refl _) g1 (fun r c q1 q2 q3 q4 => ?_)
            rw [g2 r c q1 q2 q3 q4]
            congr 1
            by_cases hc : k < r ∧ r < i ∧ k < c
            · rw [if_pos hc, if_pos ⟨hc.1, by omega, hc.2.2⟩]
            · rw [if_neg hc, if_neg (by omega)]
        refine step (k + 1) (by omega) mc o9 (Nat.le_refl _) h1 (fun r c q1 q2 q3 q4 => ?_)
        rw [h5 r c q1 q2 q3 q4, if_neg (by omega)]
      -- the search for the pivot
      have srch : ∀ p, p ≤ n → ∀ o8 o9, k ≤ p → (∀ i, k ≤ i → i < p → bm P k i k = 0) → (W2 xs (callW2 xs d) tX12_determinant [6, 11, 34, 88, 95] (some .long) Q 11 [some (vR 40 0), some (vI (nI n)), some (vL (lI sgn)), none, some (vL (lI (det k P))), none, some (vI (nI k)), some (vI (nI p)), (o8), (o9), none] [] (mc)) := by
        refine upto n ?_ ?_
        · intro o8 o9 _ hz
          refine W2_st (bX12_determinant_11 mc _ _ _ _ _ _ _ ?_)
          rw [nI_leI (by omega) (by omega)]
          refine ⟨fun _ => ⟨fun z => absurd rfl z, fun _ => ?_⟩, fun z => absurd (Nat.le_refl _) z⟩
          have h0 := det_nopiv hk h4 hz
          rw [h0, Int.mul_zero] at h3
          have := hQ mc h1
          rw [← h3] at this
          rw [lI_N]
          exact this
        · intro p hp ihp o8 o9 hkp hz
          refine W2_st (bX12_determinant_11 mc _ _ _ _ _ _ _ ?_)
          simp (disch := omega) only [nI_leI, pk_mul, nI_add, nI_clamp, inb_iff, nI_eq, lg_cmp_eq]
          rw [h5 p k hkp hp (Nat.le_refl _) hk, lI_N]
          have bb := Nat.lt_of_le_of_lt (bm_le h2 hk hp hk (i := p) (j := k)) (hb1 k k hk hk (Nat.le_refl _))
          rw [lI_eq (by omega) (by omega) (by omega) (by omega)]
          refine ⟨fun z => by omega, fun _ => ⟨by omega, fun hne => ⟨fun _ => ?_, fun z => by omega⟩, fun he => ihp _ _ (by omega) (fun i q1 q2 => ?_)⟩⟩
          · -- rows p and k change places
            have swp : ∀ j, j ≤ n → ∀ mc' o9, offL (tM 47) m mc' → (∀ r c, k ≤ r → r < n → c < n → (k ≤ c ∨ r = p ∨ r = k) → mc'.2 47 0 (6 * r + c) = mc.2 47 0 (6 * (if c < j ∧ r = k then p else if c < j ∧ r = p then k else r) + c)) → (W2 xs (callW2 xs d) tX12_determinant [6, 11, 34, 88, 95] (some .long) Q 34 [some (vR 40 0), some (vI (nI n)), some (vL (lI sgn)), none, some (vL (lI (det k P))), none, some (vI (nI k)), some (vI (nI p)), some (vI (nI j)), (o9), none] [] (mc')) := by
              refine upto n ?_ ?_
              · intro mc' o9 g1 g2
                refine W2_st (bX12_determinant_34 mc' _ _ _ _ _ _ _ ?_)
                rw [nI_leI (by omega) (by omega), nI_eq (by omega) (by omega), lI_neg, nI_add]
                refine ⟨fun _ => ⟨fun hpk => ?_, fun hpk => ?_⟩, fun z => absurd (Nat.le_refl _) z⟩
                · have e := elim (swR P k p) (-sgn) mc' (nI p) o9 g1 (fun r c q1 q2 => by
                    unfold swR
                    split
                    · exact h2 p c hp q2
                    · split
                      · exact h2 k c hk q2
                      · exact h2 r c q1 q2) (by rw [det_swR hk hp (Ne.symm hpk)]; grind) (by rw [det_swlow hkp]; exact h4) (fun r c q1 q2 q3 q4 => by
                    rw [g2 r c q1 q2 q4 (Or.inl q3), bm_sw hkp q1]
                    by_cases hr : r = k
                    · rw [if_pos ⟨q4, hr⟩, if_pos hr, h5 p c hkp hp q3 q4]
                    · rw [if_neg (fun z => hr z.2), if_neg hr]
                      by_cases hr2 : r = p
                      · rw [if_pos ⟨q4, hr2⟩, if_pos hr2, h5 k c (Nat.le_refl _) hk q3 q4]
                      · rw [if_neg (fun z => hr2 z.2), if_neg hr2, h5 r c q1 q2 q3 q4]) (by rw [bm_sw hkp (Nat.le_refl _), if_pos rfl]; exact hne)
                  rw [det_swlow hkp] at e
                  exact e
                · subst hpk
                  refine elim P sgn mc' _ o9 g1 h2 h3 h4 (fun r c q1 q2 q3 q4 => ?_) hne
                  rw [g2 r c q1 q2 q4 (Or.inl q3)]
                  have e : (if c < n ∧ r = p then p else if c < n ∧ r = p then p else r) = r := by split <;> omega
                  rw [e, h5 r c q1 q2 q3 q4]
              · intro j hj ihj mc' o9 g1 g2
                refine W2_st (bX12_determinant_34 mc' _ _ _ _ _ _ _ ?_)
                simp (disch := omega) only [nI_leI, pk_mul, nI_add, nI_clamp, inb_iff, nI_eq, lI_neg]
                refine ⟨fun z => by omega, fun _ => ⟨fun hpk => ⟨fun z => absurd hpk z, fun _ => ?_⟩, fun hpk => ⟨by omega, by omega, by omega, by omega, ?_⟩⟩⟩
                · subst hpk
                  refine elim P sgn mc' _ o9 g1 h2 h3 h4 (fun r c q1 q2 q3 q4 => ?_) hne
                  rw [g2 r c q1 q2 q4 (Or.inl q3)]
                  have e : (if c < j ∧ r = p then p else if c < j ∧ r = p then p else r) = r := by split <;> omega
                  rw [e, h5 r c q1 q2 q3 q4]
                · refine ihj _ _ (offL_L (offL_L g1 _ _ ⟨rfl, rfl⟩) _ _ ⟨rfl, rfl⟩) (fun r c q1 q2 q3 q4 => ?_)
                  rw [mL_r, mL_r]
                  by_cases hcj : c = j
                  · subst hcj
                    by_cases hrk : r = k
                    · rw [if_pos ⟨rfl, rfl, by rw [hrk]⟩, if_pos ⟨by omega, hrk⟩, g2 p c hkp hp q3 (Or.inr (Or.inl rfl)), if_neg (by omega), if_neg (by omega)]
                    · rw [if_neg (by omega)]
                      by_cases hrp : r = p
                      · rw [if_pos ⟨rfl, rfl, by rw [hrp]⟩, if_neg (by omega), if_pos ⟨by omega, hrp⟩, g2 k c (Nat.le_refl _) hk q3 (Or.inr (Or.inr rfl)), if_neg (by omega), if_neg (by omega)]
                      · rw [if_neg (by omega), g2 r c q1 q2 q3 q4, if_neg (by omega), if_neg (by omega), if_neg (by omega), if_neg (by omega)]
                  · rw [if_neg (by omega), if_neg (by omega), g2 r c q1 q2 q3 q4]
                    congr 2
                    by_cases ha : c < j ∧ r = k
                    · rw [if_pos ha, if_pos (show c < j + 1 ∧ r = k from ⟨by omega, ha.2⟩)]
                    · rw [if_neg ha, if_neg (show ¬ (c < j + 1 ∧ r = k) by omega)]
                      by_cases hb : c < j ∧ r = p
                      · rw [if_pos hb, if_pos (show c < j + 1 ∧ r = p from ⟨by omega, hb.2⟩)]
                      · rw [if_neg hb, if_neg (show ¬ (c < j + 1 ∧ r = p) by omega)]
            refine swp 0 (Nat.zero_le _) mc _ h1 (fun r c q1 q2 q3 q4 => ?_)
            rw [if_neg (by omega), if_neg (by omega)]
          · rcases Nat.lt_or_ge i p with q | q
            · exact hz i q1 q
            · rw [show i = p by omega]; exact he
      exact srch k (by omega) _ _ (Nat.le_refl _) (fun i q1 q2 => by omega)
  have e0 := key 0 (Nat.zero_le _) A 1 m none none none (offL_rfl _ _) hw (Int.one_mul _) (show (1 : Int) ≠ 0 by decide) (fun r c _ q2 _ q4 => by rw [hA r c q2 q4, ← gj_0 A r c]; unfold gj; rw [if_neg (by omega)])
  rw [lI_N 1]
  exact e0
end L60
