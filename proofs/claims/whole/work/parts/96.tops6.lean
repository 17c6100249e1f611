/-! CONTRACTS (42): the reference's hole(); count() (wip/whole/src/96.tops6.src) -/
section L96
variable {xs : Nat × (Nat → Int32)} {d : Nat} {Q : Option v2 → Mem → Prop} {m : Mem} {S : Sys}
theorem d4 : ∀ x, x < 41 → nI x / nI 4 = nI (x / 4) ∧ nI x - nI x / nI 4 * nI 4 = nI (x % 4) := by decide +kernel
theorem sumU_0 {n : Nat} {f : Nat → Nat} (h : ∀ i, i < n → f i = 0) : sumU f n = 0 := by
  induction n with
  | zero => rfl
  | succ n ih => show sumU f n + f n = 0; rw [ih (fun i hi => h i (by omega)), h n (by omega)]
def stG (S : Sys) (H : Nat) (s a : Nat) : Nat := if H.testBit s = true then (allInS S (4 * s + a) H).toNat else 0
theorem stN_flat (hw : wf S) (H : Nat) : sumU (fun x => if x % 4 < sA S (x / 4) then stG S H (x / 4) (x % 4) else 0) (4 * sN S) = stN S H := by
  rw [flat (sN S) (fun s hs => wf_a hw hs)]
  unfold stN stG
  refine sumU_congr (fun s _ => ?_)
  by_cases h : H.testBit s = true
  · rw [if_pos h]
    exact sumU_congr (fun a _ => by rw [if_pos h])
  · rw [if_neg h]
    exact sumU_0 (fun a _ => by rw [if_neg h])
theorem r_hole {p1 p2 : Int32} (hR : RM m S) (hw : wf S) (hQ : ∀ m' r, offI (fun t j => (t = 40 ∨ t = 63) ∧ j = 0) (mI m 40 0 0 (nI 0)) m' → (∀ k, k ≠ 30 → m'.1 40 0 k = (mI m 40 0 0 (nI 0)).1 40 0 k) → holR S p1 p2 r → Q (some (vI r)) m') : callW2 xs (d + 6) 169 [vR 40 0, vI p1, vI p2] m Q := by
  have h3 := wf_n hw
  have hRo := RM_0 (v := nI 0) hR
  refine eX12_hole m _ _ (W2_st (bX12_hole_0 m _ _ ?_))
  generalize mI m 40 0 0 (nI 0) = mo at hRo hQ ⊢
  have hlk := lack_le hw (sN S) (Nat.le_refl _)
  rw [show sumU _ (sN S) = lackS S from rfl] at hlk
  refine r_isIn p2 0 2 (by omega) (by omega) ⟨_, rfl, ?_⟩
  rw [bI_0, decide_eq_false_iff_not]
  refine ⟨fun hin => ?_, fun hin => hQ mo _ (offI_rfl _ _) (fun _ _ => rfl) ⟨fun _ => rfl, fun z => absurd z hin⟩⟩
  rw [Decidable.not_not] at hin
  have hok : inN 2 p2 := hin
  refine r_lacking hRo hw ⟨_, rfl, ?_⟩
  rw [z_le (by omega)]
  refine ⟨fun hl => ?_, fun hl => hQ mo _ (offI_rfl _ _) (fun _ _ => rfl) ⟨fun z => absurd hok z, fun _ => ⟨fun _ => rfl, fun z => absurd z hl⟩⟩⟩
  refine r_findHoles hRo hw (fun f m2 e1 e2 e3 e4 e5 => ⟨rfl, ?_⟩)
  have fin : ∀ r, holF S p1 p2 r f → Q (some (vI r)) m2 := fun r h => hQ m2 r e1 e2 ⟨fun z => absurd hok z, fun _ => ⟨fun z => absurd hl z, fun _ => ⟨f, fun s hs => (e3 s hs).1, h⟩⟩⟩
  have hR2 : RM m2 S := by
    have h := fun t (ht : t ≠ 40) (ht2 : t ≠ 63) => (e1.1 t 0 (by omega)).1
    unfold RM RMa at hRo ⊢
    rw [e2 1 (by omega), e2 2 (by omega), h 41 (by omega) (by omega), h 42 (by omega) (by omega), h 43 (by omega) (by omega), h 44 (by omega) (by omega), h 45 (by omega) (by omega), h 46 (by omega) (by omega)]
    exact hRo
  have hgn := gcnt_le f (sN S)
  rw [e4, i_neg, i_lt2 (by omega)]
  refine ⟨fun h0 => ⟨fun h => fin _ ⟨fun z => absurd z h0, fun _ => ⟨fun _ => rfl, fun z => by omega⟩⟩, fun ha => ⟨fun hb => ?_, fun h => fin _ ⟨fun z => absurd z h0, fun _ => ⟨fun _ => rfl, fun z => by omega⟩⟩⟩⟩, fun h0 => fin _ ⟨fun _ => rfl, fun z => absurd h0 z⟩⟩
  obtain ⟨j, hj, e⟩ := int_nI p1 _ (by omega) hb (by omega)
  obtain ⟨s, g1, g2, g3⟩ := gcnt_ex _ hj
  subst e
  have an : ∀ r, (r = if p2 = nI 1 then nI (f s) else nI (stN S (f s))) → Q (some (vI r)) m2 := fun r hr => fin r ⟨fun z => absurd z h0, fun _ => ⟨fun z => absurd ⟨by omega, hb⟩ z, fun _ => ⟨s, g1, g2, by rw [g3], hr⟩⟩⟩
  have h63 : m2.1 63 0 j = nI (f s) := by rw [← g3]; exact e5 s g1 g2
  have hf10 := (e3 s g1).2
  generalize hH : f s = H at h63 hf10 an
  let G : Nat → Nat := fun x => if x % 4 < sA S (x / 4) then stG S H (x / 4) (x % 4) else 0
  refine upto (P := fun x => (W2 xs (callW2 xs (d + 5)) tX12_hole [35] (some .int) Q 35 [some (vR 40 0), some (vI (nI j)), some (vI (p2)), some (vI (nI (sumU G x))), some (vI (nI x))] [] (m2))) (4 * sN S) ?_ ?_ 0 (Nat.zero_le _)
  · refine W2_st (bX12_hole_35 m2 _ _ _ _ ?_)
    rw [rm_n hR2, pk_mul, nI_leI (by omega) (by omega), nI_clamp (by omega), h63]
    refine ⟨fun _ => ⟨fun h1 => an _ ?_, fun h1 => ⟨inb_nI (by omega) (by omega), an _ (if_pos h1).symm⟩⟩, fun z => absurd (Nat.le_refl _) z⟩
    rw [if_neg h1, ← stN_flat hw H]
  · intro x hx ih
    rw [show sumU G (x + 1) = sumU G x + G x from rfl] at ih
    have hsx : x / 4 < sN S := by omega
    have ha := rm_a hR2 hsx
    have h4 := wf_a hw hsx
    have hd4 := d4 x (by omega)
    refine W2_st (bX12_hole_35 m2 _ _ _ _ ?_)
    rw [hd4.2, hd4.1, nI_clamp (n := x / 4) (by omega), nI_clamp (n := j) (by omega), h63, ha, rm_n hR2, pk_mul, nI_leI (by omega) (by omega), nI_leI (by omega) (by omega), shr_bit (by omega) (by omega), bI_1]
    simp only [nI_add]
    have ib : inb (nI j) 10 := inb_nI (by omega) (by omega)
    refine ⟨fun z => by omega, fun _ => ⟨by decide, by decide, inb_nI (by omega) (by omega), fun h => ?_, fun h => ⟨ib, by decide, fun hb => ?_, fun hb => ⟨ib, ?_⟩⟩⟩⟩
    · rw [show G x = 0 from if_neg (by omega)] at ih
      exact ih
    · rw [show G x = 0 from (if_pos (by omega)).trans (if_neg hb)] at ih
      exact ih
    · have hia : isA S x := ⟨hsx, by omega⟩
      have e4x : 4 * (x / 4) + x % 4 = x := by omega
      have hG : G x = (allInS S x H).toNat := by
        show (if x % 4 < sA S (x / 4) then stG S H (x / 4) (x % 4) else 0) = _
        rw [if_pos (by omega)]
        unfold stG
        rw [if_pos hb, e4x]
      rw [hG] at ih
      refine r_allIn hR2 hw hia (by omega) ⟨_, rfl, ?_⟩
      rw [bI_0]
      refine ⟨fun h9 => ?_, fun h9 => ?_⟩
      · rw [h9] at ih; exact ih
      · rw [Bool.not_eq_false] at h9; rw [h9] at ih; exact ih
end L96
