/-! CONTRACTS (33): the reference's costs of the choices (wip/whole/src/87.costN.src) -/
section L87
variable {xs : Nat × (Nat → Int32)} {d : Nat} {Q : Option v2 → Mem → Prop} {m : Mem} {S : Sys}
theorem r_costsChosen {Y : Nat} {c : Nat → Nat} (hR : RM m S) (hw : wf S) (hf : full S) (hch : ∀ s, s < sN S → m.1 48 0 s = nI (c s)) (hpY : pol S Y c) (hlk : lkS S Y c) (hk5 : cntB Y ≤ 5) (hQ : ∀ m', chM m m' → (∀ s, Y.testBit s = true → ∃ u v : Int, m'.2 52 0 s = lI u ∧ m'.2 53 0 s = lI v ∧ low u v (cW S Y c s) (cD S Y c) ∧ u.natAbs ≤ 2 ^ 35 ∧ v.natAbs ≤ 2 ^ 25) → Q none m') : callW2 xs (d + 3) 163 [vR 40 0, vI (nI Y)] m Q := by
  have h3 := wf_n hw
  have hY10 : Y < 1024 := sub_lt (fun s hs => (hpY s hs).1) h3
  obtain ⟨hA12, hb12, hDk⟩ := cA_facts hw hf hpY hlk
  have hD : 0 < det (cntB Y) (cA S Y c) := hDk _ (Nat.le_refl _)
  have hxi : ∀ i, i < cntB Y → isA S (4 * qOf Y i + c (qOf Y i)) := fun i hi => pol_a hw hpY (qOf_in hi).1
  refine eX12_costsChosen m _ (W2_st (bX12_costsChosen_0 m _ ?_))
  let A : Nat → Nat → Int := cA S Y c
  let b : Nat → Int := fun i => 12 * (sC S (4 * qOf Y i + c (qOf Y i)) : Int)
  have hAb : ∀ r, cA S Y c r (cntB Y) = b r := fun r => by unfold cA mA; exact if_pos rfl
  have fin : ∀ mc, chM m mc → askd mc (cntB Y) (qOf Y) → (∀ r j, r < cntB Y → j < cntB Y → mc.2 50 0 (5 * r + j) = lI (A r j)) → (∀ r, r < cntB Y → mc.2 51 0 r = lI (b r)) → callW2 xs (d + 2) 137 [vR 40 0] mc (fun r1 m2 => r1 = none ∧ Q none m2) := by
    intro mc g1 g2 g3 g4
    refine r_solve g2 g3 g4 hA12 (fun r hr => by rw [← hAb]; exact hb12 r hr) hD (fun m' e1 e2 e3 => ⟨rfl, ?_⟩)
    refine hQ m' (chM_offL g1 e1 (fun t j z => ⟨by have := z.1; omega, z.2⟩)) (fun s hys => ?_)
    have hs10 : s < 10 := Nat.lt_of_lt_of_le (hpY s hys).1 h3
    have hi := cntU_B hys hs10
    obtain ⟨u, v, p1, p2, p3⟩ := e2 _ hi
    rw [qOf_cnt hys hs10] at p1 p2
    have eW : cW S Y c s = det (cntB Y) (setC A (cntU Y s) b) := by
      unfold cW
      rw [if_pos hys]
      show det _ (setC A _ (fun r => cA S Y c r (cntB Y))) = _
      congr 2
      funext r
      exact hAb r
    have p4 : low u v (cW S Y c s) (cD S Y c) := by rw [eW]; exact p3
    have h8 := low_le p4 hD
    have h9 := cW_bd hw hf hpY hlk hk5 s
    exact ⟨u, v, p1, p2, p4, Nat.le_trans h8.2 h9.1, Nat.le_trans h8.1 h9.2⟩
  have rows : ∀ i, i ≤ cntB Y → ∀ mc, chM m mc → askd mc (cntB Y) (qOf Y) → (∀ r j, r < i → j < cntB Y → mc.2 50 0 (5 * r + j) = lI (A r j)) → (∀ r, r < i → mc.2 51 0 r = lI (b r)) → (W2 xs (callW2 xs (d + 2)) tX12_costsChosen [5, 32] none Q 32 [some (vR 40 0), some (vI (nI Y)), some (vI (nI i))] [] (mc)) := by
    refine upto (cntB Y) ?_ ?_
    · intro mc g1 g2 g3 g4
      refine W2_st (bX12_costsChosen_32 mc _ _ ?_)
      rw [g2.1, nI_leI (by omega) (by omega)]
      exact ⟨fun _ => fin mc g1 g2 g3 g4, fun z => absurd (Nat.le_refl _) z⟩
    · intro i hi ih mc g1 g2 g3 g4
      have hqi := g2.2.2.1 i hi
      have hq10 := hqi.2
      have hqY := (qOf_in hi).1
      have hqn := (hpY _ hqY).1
      have hR' := RM_ch g1 hR
      have hch' : ∀ s, s < sN S → mc.1 48 0 s = nI (c s) := fun s hs => by rw [ch_48 g1]; exact hch s hs
      have hx := hxi i hi
      have hx40 := wf_40 hw hx
      have hc4 := wf_a hw hqn
      have hcc := (hpY _ hqY).2
      have hco := wf_c hw hx
      refine W2_st (bX12_costsChosen_32 mc _ _ ?_)
      simp (disch := omega) only [g2.1, nI_leI, nI_clamp, inb_iff, hqi.1, hch' _ hqn, pk_mul, nI_add]
      refine ⟨fun z => by omega, fun _ => ⟨by omega, r_layRow hR' hw g2 hi hqn (hch' _ hqn) hcc (fun m4 f1 f2 f3 => ⟨rfl, ?_⟩)⟩⟩
      have e1 : m4.1 = mc.1 := f1.2
      have k1 : chM m m4 := chM_offL g1 f1 (fun t j z => ⟨by have := z.1; omega, z.2⟩)
      have s51 : m4.2 51 0 = mc.2 51 0 := (f1.1 51 0 (by unfold tM; omega)).2
      rw [e1]
      simp (disch := omega) only [hqi.1, nI_clamp, hch' _ hqn, pk_mul, nI_add, inb_iff, rm_c hR' hx, lI_i, lI_N, lI_mul]
      refine ⟨by omega, by omega, by omega, by omega, by omega, ?_⟩
      refine ih _ (chM_L k1 51 _ _ (by omega)) (askd_off e1 g2) (fun r j hr hj => ?_) (fun r hr => ?_)
      · rw [mL_r, if_neg (by omega)]
        by_cases hri : r = i
        · rw [hri, f2 j hj]
          congr 1
          show _ = mA _ _ _ i j
          unfold mA
          rw [if_neg (show ¬ j = cntB Y by omega)]
          rfl
        · rw [f3 r j hri (by omega)]
          exact g3 r j (by omega) hj
      · rw [mL_r]
        by_cases hri : r = i
        · rw [if_pos ⟨rfl, rfl, hri⟩, hri]
          rfl
        · rw [if_neg (by omega), s51]; exact g4 r (by omega)
  have list : ∀ s, s ≤ sN S → ∀ mc, chM m mc → mc.1 40 0 12 = nI (cntU Y s) → (∀ j, j < cntU Y s → mc.1 49 0 j = nI (qOf Y j)) → (W2 xs (callW2 xs (d + 2)) tX12_costsChosen [5, 32] none Q 5 [some (vR 40 0), some (vI (nI Y)), some (vI (nI s))] [] (mc)) := by
    refine upto (sN S) ?_ ?_
    · intro mc g1 g2 g3
      have hR' := RM_ch g1 hR
      have ek : cntU Y (sN S) = cntB Y := by
        have h1 := sumU_mono (f := fun i => (Y.testBit i).toNat) (k := sN S) (n := 10) h3
        have h2 : ¬ cntU Y (sN S) < cntU Y 10 := by
          intro z
          obtain ⟨s, q1, q2, q3⟩ := cntU_ex 10 z
          have q4 := (hpY s q2).1
          have q5 := cntU_lt q4 q2
          omega
        unfold cntB cntU at *
        omega
      rw [ek] at g2 g3
      refine W2_st (bX12_costsChosen_5 mc _ _ ?_)
      rw [rm_n hR', nI_leI (by omega) (by omega)]
      refine ⟨fun _ => rows 0 (Nat.zero_le _) mc g1 ⟨g2, hk5, fun i hi => ⟨g3 i hi, (qOf_in hi).2.1⟩, fun i j hi hj e => qOf_inj hi hj e⟩ (fun r j hr _ => by omega) (fun r hr => by omega), fun z => absurd (Nat.le_refl _) z⟩
    · intro s hs ih mc g1 g2 g3
      have hR' := RM_ch g1 hR
      have hc9 : cntU Y s ≤ s := by
        have := sumU_le (f := fun i => (Y.testBit i).toNat) (n := s) (c := 1) (fun i _ => Bool.toNat_le _)
        unfold cntU
        omega
      refine W2_st (bX12_costsChosen_5 mc _ _ ?_)
      rw [rm_n hR', nI_leI (by omega) (by omega), shr_bit (b := Y) (by omega) (by omega), bI_1, nI_add, g2, nI_clamp (by omega)]
      refine ⟨fun z => by omega, fun _ => ⟨fun hb => ?_, fun hb => ⟨inb_nI (by omega) (by omega), ?_⟩⟩⟩
      · rw [Bool.not_eq_true] at hb
        have ec : cntU Y (s + 1) = cntU Y s := by rw [cntU_s, hb]; rfl
        exact ih _ g1 (by rw [ec]; exact g2) (fun j hj => g3 j (by omega))
      · have ec : cntU Y (s + 1) = cntU Y s + 1 := by rw [cntU_s, hb]; rfl
        rw [show (mI mc 49 0 (cntU Y s) (nI s)).1 40 0 12 = nI (cntU Y s) by rw [mI_r, if_neg (by omega)]; exact g2, nI_add]
        refine ih _ (chM_12 (chM_49 g1 _ _) _) (by rw [mI_r, if_pos ⟨rfl, rfl, rfl⟩, ec]) (fun j hj => ?_)
        rw [mI_r, if_neg (by omega), mI_r]
        by_cases hj2 : j = cntU Y s
        · rw [if_pos ⟨rfl, rfl, hj2⟩, hj2, qOf_cnt hb (by omega)]
        · rw [if_neg (by omega)]
          exact g3 j (by omega)
  refine list 0 (Nat.zero_le _) _ (chM_12 (chM_rfl m) _) ?_ (fun j hj => absurd hj (Nat.not_lt_zero _))
  rw [mI_r, if_pos ⟨rfl, rfl, rfl⟩]
  rfl
end L87
