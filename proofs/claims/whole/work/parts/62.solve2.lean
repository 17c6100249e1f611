/-! CONTRACTS (12): the reference's solve() (wip/whole/src/62.solve2.src) -/
theorem wb1 : ∀ i, i < 5 → ∀ k, k < 5 → ∀ j, j < 5 → k ≤ j → facN (k + 1) * (prodN (fun c => if c = i then 12000 else 12) k * (if j = i then 12000 else 12)) < 2 ^ 62 := by decide +kernel
theorem wb2 : ∀ i, i < 5 → ∀ k, k < 4 → ∀ j, j < 5 → k ≤ j → facN (k + 1) * (prodN (fun c => if c = i then 12000 else 12) k * (if j = i then 12000 else 12)) ≤ 2 ^ 30 := by decide +kernel
theorem wb3 : ∀ i, i < 5 → ∀ k, k < 6 → facN k * prodN (fun c => if c = i then 12000 else 12) k < 2 ^ 62 := by decide +kernel
def tS : Nat → Nat → Prop := fun t j => (t = 47 ∨ t = 52 ∨ t = 53) ∧ j = 0
section L62
variable {xs : Nat × (Nat → Int32)} {d : Nat} {Q : Option v2 → Mem → Prop} {m : Mem}
theorem r_solve {k : Nat} {q : Nat → Nat} {A : Nat → Nat → Int} {b : Nat → Int} (ha : askd m k q) (hA : ∀ r j, r < k → j < k → m.2 50 0 (5 * r + j) = lI (A r j)) (hb : ∀ r, r < k → m.2 51 0 r = lI (b r)) (hA12 : ∀ r j, r < k → j < k → (A r j).natAbs ≤ 12) (hb12 : ∀ r, r < k → (b r).natAbs ≤ 12000) (hD : 0 < det k A) (hQ : ∀ m', offL tS m m' → (∀ i, i < k → ∃ u v, m'.2 52 0 (q i) = lI u ∧ m'.2 53 0 (q i) = lI v ∧ low u v (det k (setC A i b)) (det k A)) → (∀ t, (∀ i, i < k → q i ≠ t) → m'.2 52 0 t = m.2 52 0 t ∧ m'.2 53 0 t = m.2 53 0 t) → Q none m') : callW2 xs (d + 2) 137 [vR 40 0] m Q := by
  have hk5 := ha.2.1
  refine eX12_solve m (W2_st (bX12_solve_0 m ?_))
  let M : Int32 → Nat → Nat → Int := fun cI r j => if nI j = cI then b r else A r j
  -- the matrix is laid, its determinant taken
  have fill : ∀ (cI : Int32) (i : Nat), i < k → (cI = -1 ∨ cI = nI i) → ∀ m1 o4, offL tS m m1 → (∀ m2 v, offL tS m m2 → v = lI (det k (M cI)) → (∀ t, m2.2 52 0 t = if 0 ≤ cI ∧ t = q i then v else m1.2 52 0 t) → (∀ t, m2.2 53 0 t = if ¬ 0 ≤ cI ∧ t = q i then v else m1.2 53 0 t) → (W2 xs (callW2 xs (d + 1)) tX12_solve [2, 8, 13, 19] none Q 8 [some (vR 40 0), some (vI (nI i)), some (vI ((if nI i ≤ cI then nI i + nI 1 else nI i))), (some (vL v)), none] [] (m2))) → (W2 xs (callW2 xs (d + 1)) tX12_solve [2, 8, 13, 19] none Q 13 [some (vR 40 0), some (vI (nI i)), some (vI (cI)), some (vI (nI 0)), (o4)] [] (m1)) := by
    intro cI i hi hcI m1 o4 hm1 hcont
    have key : ∀ r, r ≤ k → ∀ mc o4, offL tS m mc → mc.2 52 0 = m1.2 52 0 → mc.2 53 0 = m1.2 53 0 → (∀ r' j, r' < r → j < k → mc.2 47 0 (6 * r' + j) = lI (M cI r' j)) → (W2 xs (callW2 xs (d + 1)) tX12_solve [2, 8, 13, 19] none Q 13 [some (vR 40 0), some (vI (nI i)), some (vI (cI)), some (vI (nI r)), (o4)] [] (mc)) := by
      refine upto k ?_ ?_
      · intro mc o4 g1 g2 g3 g4
        have ha' := askd_off g1.2 ha
        have hqi := ha.2.2.1 i hi
        refine W2_st (bX12_solve_13 mc _ _ _ _ ?_)
        rw [ha'.1, nI_leI (by omega) (by omega)]
        refine ⟨fun _ => ?_, fun z => absurd (Nat.le_refl _) z⟩
        refine r_det (A := M cI) (w := fun c => if c = i then 12000 else 12) hk5 (fun r c hr hc => g4 r c hr hc) (fun r c hr hc => ?_) (fun k' j h1 h2 h3 => wb1 i (by omega) k' (by omega) j (by omega) h3) (fun k' j h1 h2 h3 => wb2 i (by omega) k' (by omega) j (by omega) h3) (fun m2 e1 => ⟨_, rfl, ?_⟩)
        · show (if nI c = cI then b r else A r c).natAbs ≤ _
          by_cases hci : c = i
          · rw [if_pos hci]
            split
            · exact hb12 r hr
            · exact Nat.le_trans (hA12 r c hr hc) (by omega)
          · rw [if_neg hci, if_neg (fun e => by
              rcases hcI with h | h
              · rw [h] at e
                have := congrArg Int32.toInt e
                rw [nI_toInt (by omega)] at this
                have e2 : (-1 : Int32).toInt = -1 := rfl
                omega
              · rw [h, nI_eq (by omega) (by omega)] at e
                exact hci e)]
            exact hA12 r c hr hc
        · have o1 : m2.1 = mc.1 := e1.2
          have o2 : m2.1 = m.1 := o1.trans g1.2
          have hqi2 : m2.1 49 0 i = nI (q i) := by rw [o2]; exact hqi.1
          have z52 : m2.2 52 0 = m1.2 52 0 := by rw [(e1.1 52 0 (by unfold tM; omega)).2]; exact g2
          have z53 : m2.2 53 0 = m1.2 53 0 := by rw [(e1.1 53 0 (by unfold tM; omega)).2]; exact g3
          have hoff2 : offL tS m m2 := offL_trans g1 (offL_sub e1 (fun t j z => ⟨Or.inl z.1, z.2⟩))
          have hq10 := hqi.2
          simp (disch := omega) only [nI_clamp, inb_iff, hqi2]
          refine ⟨fun h0 => ⟨by omega, by omega, ?_⟩, fun h0 => ⟨by omega, by omega, ?_⟩⟩
          · have c1 := hcont (mL m2 52 0 (q i) (lI (det k (M cI)))) _ (offL_L hoff2 _ _ ⟨Or.inr (Or.inl rfl), rfl⟩) rfl (fun t => by
              rw [mL_r, z52]
              by_cases ht : t = q i
              · rw [if_pos ⟨rfl, rfl, ht⟩, if_pos ⟨h0, ht⟩]
              · rw [if_neg (by omega), if_neg (fun z => ht z.2)]) (fun t => by
              rw [mL_r, if_neg (by omega), if_neg (fun z => z.1 h0), z53])
            refine ⟨fun h5 => ?_, fun h5 => ?_⟩
            · rw [if_pos h5] at c1; exact c1
            · rw [if_neg h5] at c1; exact c1
          · have c1 := hcont (mL m2 53 0 (q i) (lI (det k (M cI)))) _ (offL_L hoff2 _ _ ⟨Or.inr (Or.inr rfl), rfl⟩) rfl (fun t => by
              rw [mL_r, if_neg (by omega), if_neg (fun z => h0 z.1), z52]) (fun t => by
              rw [mL_r, z53]
              by_cases ht : t = q i
              · rw [if_pos ⟨rfl, rfl, ht⟩, if_pos ⟨h0, ht⟩]
              · rw [if_neg (by omega), if_neg (fun z => ht z.2)])
            refine ⟨fun h5 => ?_, fun h5 => ?_⟩
            · rw [if_pos h5] at c1; exact c1
            · rw [if_neg h5] at c1; exact c1
      · intro r hr ihr mc o4 g1 g2 g3 g4
        have ha' := askd_off g1.2 ha
        refine W2_st (bX12_solve_13 mc _ _ _ _ ?_)
        rw [ha'.1, nI_leI (by omega) (by omega)]
        refine ⟨fun z => by omega, fun _ => ?_⟩
        have inner : ∀ j, j ≤ k → ∀ mc, offL tS m mc → mc.2 52 0 = m1.2 52 0 → mc.2 53 0 = m1.2 53 0 → (∀ r' j', r' < k → j' < k → (r' < r ∨ r' = r ∧ j' < j) → mc.2 47 0 (6 * r' + j') = lI (M cI r' j')) → (W2 xs (callW2 xs (d + 1)) tX12_solve [2, 8, 13, 19] none Q 19 [some (vR 40 0), some (vI (nI i)), some (vI (cI)), some (vI (nI r)), some (vI (nI j))] [] (mc)) := by
          refine upto k ?_ ?_
          · intro mc g1 g2 g3 g4
            have ha' := askd_off g1.2 ha
            refine W2_st (bX12_solve_19 mc _ _ _ _ ?_)
            rw [ha'.1, nI_leI (by omega) (by omega), nI_add]
            exact ⟨fun _ => ihr mc _ g1 g2 g3 (fun r' j' h1 h2 => g4 r' j' (by omega) h2 (by omega)), fun z => absurd (Nat.le_refl _) z⟩
          · intro j hj ihj mc g1 g2 g3 g4
            have ha' := askd_off g1.2 ha
            have x50 : ∀ t, mc.2 50 0 t = m.2 50 0 t := fun t => by rw [(g1.1 50 0 (by unfold tS; omega)).2]
            have x51 : ∀ t, mc.2 51 0 t = m.2 51 0 t := fun t => by rw [(g1.1 51 0 (by unfold tS; omega)).2]
            refine W2_st (bX12_solve_19 mc _ _ _ _ ?_)
            simp (disch := omega) only [ha'.1, nI_leI, pk_mul, nI_add, nI_clamp, inb_iff, x50, x51, hA r j hr hj, hb r hr]
            have nxt : ∀ v, v = lI (M cI r j) → (W2 xs (callW2 xs (d + 1)) tX12_solve [2, 8, 13, 19] none Q 19 [some (vR 40 0), some (vI (nI i)), some (vI (cI)), some (vI (nI r)), some (vI (nI (j + 1)))] [] (mL mc 47 0 (6 * r + j) v)) := by
              intro v hv
              refine ihj _ (offL_L g1 _ _ ⟨Or.inl rfl, rfl⟩) (by funext t; rw [mL_r, if_neg (by omega), g2]) (by funext t; rw [mL_r, if_neg (by omega), g3]) (fun r' j' h1 h2 h3 => ?_)
              rw [mL_r]
              by_cases he : r' = r ∧ j' = j
              · rw [if_pos ⟨rfl, rfl, by rw [he.1, he.2]⟩, hv, he.1, he.2]
              · rw [if_neg (by omega)]
                exact g4 r' j' h1 h2 (by omega)
            refine ⟨fun z => by omega, fun _ => ⟨fun hne => ⟨by omega, by omega, nxt _ ?_⟩, fun he => ⟨by omega, by omega, nxt _ ?_⟩⟩⟩
            · show _ = lI (if nI j = cI then b r else A r j)
              rw [if_neg hne]
            · show _ = lI (if nI j = cI then b r else A r j)
              rw [if_pos he]
        exact inner 0 (Nat.zero_le _) mc g1 g2 g3 (fun r' j' h1 h2 h3 => g4 r' j' (by omega) h2)
    exact key 0 (Nat.zero_le _) m1 o4 hm1 rfl rfl (fun r' j h1 h2 => by omega)
  -- all unknowns, one by one
  have main : ∀ i, i ≤ k → ∀ mc o2 o3, offL tS m mc → (∀ i', i' < i → ∃ u v, mc.2 52 0 (q i') = lI u ∧ mc.2 53 0 (q i') = lI v ∧ low u v (det k (setC A i' b)) (det k A)) → (∀ t, (∀ i', i' < i → q i' ≠ t) → mc.2 52 0 t = m.2 52 0 t ∧ mc.2 53 0 t = m.2 53 0 t) → (W2 xs (callW2 xs (d + 1)) tX12_solve [2, 8, 13, 19] none Q 2 [some (vR 40 0), some (vI (nI i)), (o2), (o3), none] [] (mc)) := by
    refine upto k ?_ ?_
    · intro mc o2 o3 g1 g2 g3
      have ha' := askd_off g1.2 ha
      refine W2_st (bX12_solve_2 mc _ _ _ ?_)
      rw [ha'.1, nI_leI (by omega) (by omega)]
      exact ⟨fun _ => hQ mc g1 g2 g3, fun z => absurd (Nat.le_refl _) z⟩
    · intro i hi ih mc o2 o3 g1 g2 g3
      have ha' := askd_off g1.2 ha
      have hqi := ha.2.2.1 i hi
      have hq10 := hqi.2
      refine W2_st (bX12_solve_2 mc _ _ _ ?_)
      rw [ha'.1, nI_leI (by omega) (by omega)]
      refine ⟨fun z => by omega, fun _ => ?_⟩
      have m1i : (-1 : Int32).toInt = -1 := rfl
      have nm1 : ¬ nI i < (-1 : Int32) := by rw [i_lt, nI_toInt (by omega), m1i]; omega
      have nm2 : ¬ nI i ≤ (-1 : Int32) := by rw [i_le, nI_toInt (by omega), m1i]; omega
      have nm3 : ¬ (0 : Int32) ≤ -1 := by decide
      refine W2_st (bX12_solve_8 mc _ _ _ ⟨fun z => absurd z nm1, fun _ => ?_⟩)
      refine fill (-1) i hi (Or.inl rfl) mc _ g1 (fun m2 v2 e1 e2 e3 e4 => ?_)
      rw [if_neg nm2]
      refine W2_st (bX12_solve_8 m2 _ _ _ ⟨fun z => absurd z (nI_nlt (Nat.le_refl _) (by omega)), fun _ => ?_⟩)
      refine fill (nI i) i hi (Or.inr rfl) m2 _ e1 (fun m3 v3 f1 f2 f3 f4 => ?_)
      rw [if_pos (nI_le (Nat.le_refl _) (by omega)), nI_add]
      -- what both determinants are
      have d1 : det k (M (-1)) = det k A := det_congr (fun r c hr hc => if_neg (fun e => by
        have := congrArg Int32.toInt e
        rw [nI_toInt (by omega), m1i] at this
        omega))
      have d2 : det k (M (nI i)) = det k (setC A i b) := det_congr (fun r c hr hc => by
        show (if nI c = nI i then b r else A r c) = setC A i b r c
        unfold setC
        by_cases hci : c = i
        · rw [if_pos (by rw [hci]), if_pos hci]
        · rw [if_neg (fun e => hci ((nI_eq (by omega) (by omega)).mp e)), if_neg hci])
      have hz : (0 : Int32) ≤ nI i := nI_pos' (by omega)
      have x52 : m3.2 52 0 (q i) = lI (det k (setC A i b)) := by rw [f3, if_pos ⟨hz, rfl⟩, f2, d2]
      have x53 : m3.2 53 0 (q i) = lI (det k A) := by rw [f4, if_neg (fun z => z.1 hz), e4, if_pos ⟨nm3, rfl⟩, e2, d1]
      have o52 : ∀ t, t ≠ q i → m3.2 52 0 t = mc.2 52 0 t := fun t ht => by rw [f3, if_neg (fun z => ht z.2), e3, if_neg (fun z => ht z.2)]
      have o53 : ∀ t, t ≠ q i → m3.2 53 0 t = mc.2 53 0 t := fun t ht => by rw [f4, if_neg (fun z => ht z.2), e4, if_neg (fun z => ht z.2)]
      have hqi3 : m3.1 49 0 i = nI (q i) := by rw [f1.2]; exact hqi.1
      have bN : (det k (setC A i b)).natAbs < 2 ^ 62 := by
        refine Nat.lt_of_le_of_lt (det_le (w := fun c => if c = i then 12000 else 12) (fun r c hr hc => ?_)) (wb3 i (by omega) k (by omega))
        unfold setC
        by_cases hci : c = i
        · rw [if_pos hci, if_pos hci]; exact hb12 r hr
        · rw [if_neg hci, if_neg hci]; exact hA12 r c hr hc
      have bD : (det k A).natAbs < 2 ^ 62 := by
        refine Nat.lt_of_le_of_lt (det_le (w := fun c => if c = i then 12000 else 12) (fun r c hr hc => ?_)) (wb3 i (by omega) k (by omega))
        by_cases hci : c = i
        · rw [if_pos hci]; exact Nat.le_trans (hA12 r c hr hc) (by omega)
        · rw [if_neg hci]; exact hA12 r c hr hc
      obtain ⟨Dn, hDn⟩ : ∃ Dn : Nat, det k A = (Dn : Int) := ⟨(det k A).toNat, by omega⟩
      generalize hN : det k (setC A i b) = N at x52 bN
      obtain ⟨u, v, hlow, hu, hv⟩ := low_of N Dn (by omega)
      have hg : 0 < Nat.gcd N.natAbs Dn := Nat.gcd_pos_of_pos_right _ (by omega)
      have hg2 : Nat.gcd N.natAbs Dn ≤ Dn := Nat.gcd_le_right _ (by omega)
      refine W2_st (bX12_solve_8 m3 _ _ _ ⟨fun _ => ?_, fun z => absurd (nI_lt (by omega) (by omega)) z⟩)
      rw [hDn] at x53 bD
      simp (disch := omega) only [nI_clamp, inb_iff, hqi3, x52, x53]
      refine ⟨by omega, by omega, by omega, r_gcd (by omega) (by omega) ⟨_, rfl, by omega, ?_⟩⟩
      rw [lg_cmp_ge, lI_N, x53, lI_le (by omega) (by omega) (by omega) (by omega)]
      refine ⟨fun _ => ⟨by omega, ?_⟩, fun z => absurd (by omega) z⟩
      generalize Nat.gcd N.natAbs Dn = g at hg hg2 hu hv ⊢
      have gne : ¬ lI (g : Int) = 0 := fun z => by rw [lI_z (by omega)] at z; omega
      refine ⟨gne, by omega, by omega, gne, by omega, ?_⟩
      rw [mL_r, if_neg (by omega), x52, x53]
      have q1 : lI N / lI (g : Int) = lI u := by
        have := lI_div (q := u) (b := (g : Int)) (by omega) (by omega) (by omega) (by omega) (by omega)
        rw [← hu] at this
        exact this
      have q2 : lI (Dn : Int) / lI (g : Int) = lI v := by
        have := lI_div (q := v) (b := (g : Int)) (by omega) (by omega) (by omega) (by omega) (by omega)
        rw [← hv] at this
        exact this
      rw [q1, q2, nI_add]
      refine ih _ _ _ (offL_L (offL_L f1 _ _ ⟨Or.inr (Or.inl rfl), rfl⟩) _ _ ⟨Or.inr (Or.inr rfl), rfl⟩) (fun i' hi' => ?_) (fun t ht => ?_)
      · by_cases hii : i' = i
        · subst hii
          refine ⟨u, v, ?_, ?_, ?_⟩
          · rw [mL_r, if_neg (by omega), mL_r, if_pos ⟨rfl, rfl, rfl⟩]
          · rw [mL_r, if_pos ⟨rfl, rfl, rfl⟩]
          · rw [hN, hDn]; exact hlow
        · have hqq : q i' ≠ q i := fun e => hii (ha.2.2.2 i' i (by omega) hi e)
          obtain ⟨u', v', p1, p2, p3⟩ := g2 i' (by omega)
          refine ⟨u', v', ?_, ?_, p3⟩
          · rw [mL_r, if_neg (by omega), mL_r, if_neg (fun z => hqq z.2.2), o52 _ hqq]; exact p1
          · rw [mL_r, if_neg (fun z => hqq z.2.2), mL_r, if_neg (by omega), o53 _ hqq]; exact p2
      · have htq : t ≠ q i := fun e => ht i (by omega) e.symm
        have := g3 t (fun i' hi' => ht i' (by omega))
        rw [mL_r, if_neg (by omega), mL_r, if_neg (fun z => htq z.2.2), o52 t htq, mL_r, if_neg (fun z => htq z.2.2), mL_r, if_neg (by omega), o53 t htq]
        exact this
  exact main 0 (Nat.zero_le _) m none none (offL_rfl _ _) (fun i' hi' => by omega) (fun _ _ => ⟨rfl, rfl⟩)
end L62
