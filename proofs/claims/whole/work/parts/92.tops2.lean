/-! CONTRACTS (38): whole(), sets(), reached() (wip/whole/src/92.tops2.src) -/
section L92
variable {xs : Nat × (Nat → Int32)} {d : Nat} {Q : Option v2 → Mem → Prop} {m : Mem} {S : Sys}
theorem c_whole (hR : RC m S) (hw : wf S) (hQ : Q (some (vI (nI (lackS S)))) m) : callW2 xs (d + 3) 84 [vR 0 0] m Q := by
  refine eX11_whole m (W2_st (bX11_whole_0 m ?_))
  exact c_lacking hR hw ⟨_, rfl, hQ⟩
theorem r_whole (hR : RM m S) (hw : wf S) (hQ : Q (some (vI (nI (lackS S)))) (mI m 40 0 0 (nI 0))) : callW2 xs (d + 3) 125 [vR 40 0] m Q := by
  refine eX12_whole m (W2_st (bX12_whole_0 m ?_))
  exact r_lacking (RM_0 hR) hw ⟨_, rfl, hQ⟩
def inN (n : Nat) (p : Int32) : Prop := ((0 : Nat) : Int) ≤ p.toInt ∧ p.toInt ≤ (n : Int)
theorem inN_t {n : Nat} {p : Int32} (h : inN n p) (hn : n < 2 ^ 30) : ∃ k, k ≤ n ∧ p = nI k := by
  obtain ⟨k, h1, h2⟩ := int_nI p (n + 1) (by have := h.1; omega) (by have := h.2; omega) (by omega)
  exact ⟨k, by omega, h2⟩
theorem i_neg {p : Int32} : p < 0 ↔ p.toInt < 0 := by rw [Int32.lt_iff_toInt_lt]; rfl
theorem i_leN {p : Int32} {n : Nat} (hn : n < 2 ^ 31) : p ≤ nI n ↔ p.toInt ≤ (n : Int) := by rw [Int32.le_iff_toInt_le, nI_toInt hn]
theorem i_ltN {p : Int32} {n : Nat} (hn : n < 2 ^ 31) : nI n < p ↔ (n : Int) < p.toInt := by rw [Int32.lt_iff_toInt_lt, nI_toInt hn]
def setF (S : Sys) (k : Nat) (r : Int32) : Prop := ∃ X Y, isOnes S (decide (2 ≤ k)) X ∧ isG S (decide (2 ≤ k)) (fullB (sN S)) Y ∧ r = nI (if k % 2 = 1 then ndiff (fullB (sN S)) Y else X)
def setsR (S : Sys) (p r : Int32) : Prop := (¬ inN 3 p → r = -1) ∧ (inN 3 p → (¬ lackS S = 0 → r = -2) ∧ (lackS S = 0 → setF S p.toNatClampNeg r))
theorem set_uniq {p r r' : Int32} (h : setsR S p r) (h' : setsR S p r') : r = r' := by
  by_cases hp : inN 3 p
  · by_cases hl : lackS S = 0
    · obtain ⟨X, Y, a1, a2, a3⟩ := (h.2 hp).2 hl
      obtain ⟨X', Y', b1, b2, b3⟩ := (h'.2 hp).2 hl
      rw [a3, b3, isOnes_uniq a1 b1, isG_uniq a2 b2]
    · rw [(h.2 hp).1 hl, (h'.2 hp).1 hl]
  · rw [h.1 hp, h'.1 hp]
theorem c_sets {ver : Nat} {p : Int32} (hR : RC m S) (hw : wf S) (hver : m.1 1 0 2 = nI ver) (hv : ver < 2 ^ 31) (hC : ∀ l, CV m S ver l l.toNat) (hQ : ∀ (l : Bool) m' r, off (tV l.toNat) m m' → CV m' S ver l l.toNat → (m' = m ∨ ∃ X Y, sorted m' S l l.toNat X Y) → setsR S p r → Q (some (vI r)) m') : callW2 xs (d + 6) 91 [vR 0 0, vI p] m Q := by
  refine eX11_sets m _ (W2_st (bX11_sets_0 m _ ?_))
  have no : ¬ inN 3 p → Q (some (vI (-1))) m := fun h => hQ false m _ (off_rfl _ _) (hC false) (Or.inl rfl) ⟨fun _ => rfl, fun z => absurd z h⟩
  rw [i_neg, i_leN (by omega)]
  refine ⟨fun h => no (fun z => by have := z.1; omega), fun h1 => ⟨fun h2 => ?_, fun h => no (fun z => h z.2)⟩⟩
  have hin : inN 3 p := ⟨by omega, h2⟩
  obtain ⟨k, hk, e⟩ := inN_t hin (by omega)
  have hcl : p.toNatClampNeg = k := by rw [e, nI_clamp (by omega)]
  refine c_isWhole hR hw ⟨_, rfl, ?_⟩
  rw [bI_0, decide_eq_false_iff_not]
  refine ⟨fun hl => ?_, fun hl => hQ false m _ (off_rfl _ _) (hC false) (Or.inl rfl) ⟨fun z => absurd hin z, fun _ => ⟨fun _ => rfl, fun z => absurd z hl⟩⟩⟩
  rw [Decidable.not_not] at hl
  have ans : ∀ (l : Bool) X Y m' r, off (tV l.toNat) m m' → CV m' S ver l l.toNat → sorted m' S l l.toNat X Y → l = decide (2 ≤ k) → r = nI (if k % 2 = 1 then ndiff (fullB (sN S)) Y else X) → Q (some (vI r)) m' := fun l X Y m' r q1 q2 q3 q4 q5 => hQ l m' r q1 q2 (Or.inr ⟨X, Y, q3⟩) ⟨fun z => absurd hin z, fun _ => ⟨fun z => absurd hl z, fun _ => by rw [hcl]; exact ⟨X, Y, by rw [← q4]; exact q3.2.2.1, by rw [← q4]; exact q3.2.2.2, q5⟩⟩⟩
  have key : ∀ l : Bool, l = decide (2 ≤ k) → callW2 xs (d + 5) 49 [vR 7 l.toNat] m (fun r4 m5 => r4 = none ∧ ¬ (nI 2) = 0 ∧ ((¬ (p - p / (nI 2) * (nI 2)) = 0 → Q (some (vI (m5.1 7 l.toNat 9))) m5) ∧ ((p - p / (nI 2) * (nI 2)) = 0 → Q (some (vI (m5.1 7 l.toNat 8))) m5))) := by
    intro l hlk
    refine c_sort hR hw hver hv (hC l) (fun X Y m2 e1 e2 e3 e4 => ⟨rfl, by decide, ?_⟩)
    rw [e4.1, e4.2.1]
    have h4 : k = 0 ∨ k = 1 ∨ k = 2 ∨ k = 3 := by omega
    refine ⟨fun h => ans l X Y m2 _ e1.1 e2 e4 hlk ?_, fun h => ans l X Y m2 _ e1.1 e2 e4 hlk ?_⟩
    · rcases h4 with q | q | q | q <;> subst q
      · exact absurd (by rw [e]; decide) h
      · rfl
      · exact absurd (by rw [e]; decide) h
      · rfl
    · rcases h4 with q | q | q | q <;> subst q
      · rfl
      · exact absurd h (by rw [e]; decide)
      · rfl
      · exact absurd h (by rw [e]; decide)
  refine ⟨fun h => key true ?_, fun h => key false ?_⟩
  · rw [e, nI_leI (by omega) (by omega)] at h
    exact (decide_eq_true h).symm
  · rw [e, nI_leI (by omega) (by omega)] at h
    exact (decide_eq_false h).symm
theorem r_sets {p : Int32} (hR : RM m S) (hw : wf S) (hQ : ∀ r, setsR S p r → Q (some (vI r)) (mI m 40 0 0 (nI 0))) : callW2 xs (d + 6) 159 [vR 40 0, vI p] m Q := by
  have hRo := RM_0 (v := nI 0) hR
  refine eX12_sets m _ (W2_st (bX12_sets_0 m _ ?_))
  generalize mI m 40 0 0 (nI 0) = mo at hRo hQ ⊢
  have hlk := lack_le hw (sN S) (Nat.le_refl _)
  rw [show sumU _ (sN S) = lackS S from rfl] at hlk
  refine r_isIn p 0 3 (by omega) (by omega) ⟨_, rfl, ?_⟩
  rw [bI_0, decide_eq_false_iff_not]
  refine ⟨fun hin => ?_, fun hin => hQ _ ⟨fun _ => rfl, fun z => absurd z hin⟩⟩
  rw [Decidable.not_not] at hin
  have hin' : inN 3 p := hin
  obtain ⟨k, hk, e⟩ := inN_t hin' (by omega)
  have hcl : p.toNatClampNeg = k := by rw [e, nI_clamp (by omega)]
  refine r_lacking hRo hw ⟨_, rfl, ?_⟩
  rw [z_le (by omega)]
  refine ⟨fun hl => ?_, fun hl => hQ _ ⟨fun z => absurd hin' z, fun _ => ⟨fun _ => rfl, fun z => absurd z hl⟩⟩⟩
  have ans : ∀ r, setF S k r → Q (some (vI r)) mo := fun r q => hQ r ⟨fun z => absurd hin' z, fun _ => ⟨fun z => absurd hl z, fun _ => by rw [hcl]; exact q⟩⟩
  have key : ∀ l : Bool, l = decide (2 ≤ k) → ¬ (nI 2) = 0 ∧ ((¬ (p - p / (nI 2) * (nI 2)) = 0 → callW2 xs (d + 5) 131 [vR 40 0] mo (fun r7 m8 => ∃ w9 : Int32, r7 = some (vI w9) ∧ callW2 xs (d + 5) 132 [vR 40 0, vI (bI l)] m8 (fun r10 m11 => ∃ w12 : Int32, r10 = some (vI w12) ∧ Q (some (vI (w9 &&& (w12 ^^^ (-1 : Int32))))) m11))) ∧ ((p - p / (nI 2) * (nI 2)) = 0 → callW2 xs (d + 5) 133 [vR 40 0, vI (bI l)] mo (fun r13 m14 => ∃ w15 : Int32, r13 = some (vI w15) ∧ Q (some (vI w15)) m14))) := by
    intro l hlk2
    obtain ⟨X0, hX0⟩ := isOnes_ex hw l
    obtain ⟨Y0, hY0⟩ := isG_ex hw l (fullB (sN S))
    have h4 : k = 0 ∨ k = 1 ∨ k = 2 ∨ k = 3 := by omega
    refine ⟨by decide, fun h => ?_, fun h => ?_⟩
    · refine r_all hRo hw ⟨_, rfl, r_above hRo hw l (fun Y hY => ⟨_, rfl, ?_⟩)⟩
      rw [nI_diff]
      refine ans _ ⟨X0, Y, by rw [← hlk2]; exact hX0, by rw [← hlk2]; exact hY, ?_⟩
      rcases h4 with q | q | q | q <;> subst q
      · exact absurd (by rw [e]; decide) h
      · rfl
      · exact absurd (by rw [e]; decide) h
      · rfl
    · refine r_ones hRo hw l (fun X hX => ⟨_, rfl, ?_⟩)
      refine ans _ ⟨X, Y0, by rw [← hlk2]; exact hX, by rw [← hlk2]; exact hY0, ?_⟩
      rcases h4 with q | q | q | q <;> subst q
      · rfl
      · exact absurd h (by rw [e]; decide)
      · rfl
      · exact absurd h (by rw [e]; decide)
  refine ⟨fun h => key false ?_, fun h => key true ?_⟩
  · rw [e, nI_leI (by omega) (by omega)] at h
    exact (decide_eq_false (by omega)).symm
  · rw [e, nI_leI (by omega) (by omega)] at h
    exact (decide_eq_true (by omega)).symm
def rchR (S : Sys) (p r : Int32) : Prop := (isSt S p = false → r = -1) ∧ (isSt S p = true → ∃ y, isRch S (fullB (sN S)) p.toNatClampNeg y ∧ r = nI y)
theorem rch_uniq {p r r' : Int32} (h : rchR S p r) (h' : rchR S p r') : r = r' := by
  cases hst : isSt S p with
  | false => rw [h.1 hst, h'.1 hst]
  | true =>
    obtain ⟨y, a1, a2⟩ := h.2 hst
    obtain ⟨y', b1, b2⟩ := h'.2 hst
    rw [a2, b2, isRch_uniq a1 b1]
theorem c_reached {p : Int32} (hR : RC m S) (hw : wf S) (hQ : ∀ r, rchR S p r → Q (some (vI r)) m) : callW2 xs (d + 4) 92 [vR 0 0, vI p] m Q := by
  have h3 := wf_n hw
  refine eX11_reached m _ (W2_st (bX11_reached_0 m _ ?_))
  refine c_hasS hR hw p ⟨_, rfl, ?_⟩
  rw [bI_0]
  refine ⟨fun hst => ?_, fun hst => hQ _ ⟨fun _ => rfl, fun z => (by rw [hst] at z; cases z)⟩⟩
  rw [Bool.not_eq_false] at hst
  obtain ⟨s, hs, e⟩ := isSt_t hw hst
  subst e
  refine c_reachedFrom hR hw hs (fun y hy => ⟨_, rfl, hQ _ ⟨fun z => (by rw [hst] at z; cases z), fun _ => ⟨y, ?_, rfl⟩⟩⟩)
  rw [nI_clamp (by omega)]
  exact hy
theorem r_reached {p : Int32} (hR : RM m S) (hw : wf S) (hQ : ∀ r, rchR S p r → Q (some (vI r)) (mI m 40 0 0 (nI 0))) : callW2 xs (d + 4) 161 [vR 40 0, vI p] m Q := by
  have h3 := wf_n hw
  have hRo := RM_0 (v := nI 0) hR
  refine eX12_reached m _ (W2_st (bX12_reached_0 m _ ?_))
  generalize mI m 40 0 0 (nI 0) = mo at hRo hQ ⊢
  refine r_isState hRo hw p ⟨_, rfl, ?_⟩
  rw [bI_0]
  refine ⟨fun hst => hQ _ ⟨fun _ => rfl, fun z => (by rw [hst] at z; cases z)⟩, fun hst => ?_⟩
  rw [Bool.not_eq_false] at hst
  obtain ⟨s, hs, e⟩ := isSt_t hw hst
  subst e
  refine r_all hRo hw ⟨_, rfl, r_reachedFrom hRo hw hs (sub_lt (sub_n_fullB _) h3) (fun y hy => ⟨_, rfl, hQ _ ⟨fun z => (by rw [hst] at z; cases z), fun _ => ⟨y, ?_, rfl⟩⟩⟩)⟩
  rw [nI_clamp (by omega)]
  exact hy
end L92
