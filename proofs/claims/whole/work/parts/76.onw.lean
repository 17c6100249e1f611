/-! CONTRACTS (25): the reference's onwards() (wip/whole/src/76.onw.src) -/
section L76
variable {xs : Nat × (Nat → Int32)} {d : Nat} {Q : Option v2 → Mem → Prop} {m : Mem} {S : Sys}
theorem p12b : ∀ k, k < 12 → (12 : Int) ^ k < 2 ^ 41 := by decide
theorem hor_lt2 (hw : wf S) (l : Bool) {k s : Nat} (hk : k < 12) (hs : s < sN S) : 0 ≤ hor S l k s ∧ hor S l k s < 2 ^ 41 := by
  have h1 := hor_in hw l k s hs
  have h2 := p12b k hk
  omega
theorem r_onwards {k : Nat} (hR : RM m S) (hw : wf S) (l : Bool) (hk : k < 11) (hsc : m.2 40 0 26 = lI (12 ^ k)) (hnow : ∀ s, s < sN S → m.2 59 0 s = lI (hor S l k s)) (hQ : ∀ m', offL tO m m' → m'.2 40 0 26 = lI (12 ^ (k + 1)) → (∀ s, s < sN S → m'.2 59 0 s = lI (hor S l (k + 1) s)) → Q none m') : callW2 xs (d + 3) 156 [vR 40 0, vI (bI l)] m Q := by
  have h3 := wf_n hw
  have e12 : (12 : Int) ^ k * (12 : Nat) = 12 ^ (k + 1) := by rw [Int.pow_succ]; rfl
  refine eX12_onwards m _ (W2_st (bX12_onwards_0 m _ ?_))
  rw [hsc, lI_N, lI_mul, e12]
  have T0 : offL tO m (mL m 40 0 26 (lI (12 ^ (k + 1)))) := offL_L (offL_rfl _ _) _ _ ⟨Or.inl rfl, rfl⟩
  -- the last loop
  have copy : ∀ s, s ≤ sN S → ∀ mc o3 o4 o6, offL tO m mc → mc.2 40 0 26 = lI (12 ^ (k + 1)) → (∀ t, t < sN S → mc.2 60 0 t = lI (hor S l (k + 1) t)) → (∀ t, t < s → mc.2 59 0 t = lI (hor S l (k + 1) t)) → (W2 xs (callW2 xs (d + 2)) tX12_onwards [8, 26, 40, 131] none Q 131 [some (vR 40 0), some (vI (bI l)), some (vI (nI s)), (o3), (o4), none, (o6)] [] (mc)) := by
    refine upto (sN S) ?_ ?_
    · intro mc o3 o4 o6 g1 g2 g3 g4
      refine W2_st (bX12_onwards_131 mc _ _ _ _ _ ?_)
      rw [rm_n (RM_L g1.2 hR), nI_leI (by omega) (by omega)]
      exact ⟨fun _ => hQ mc g1 g2 g4, fun z => absurd (Nat.le_refl _) z⟩
    · intro s hs ih mc o3 o4 o6 g1 g2 g3 g4
      refine W2_st (bX12_onwards_131 mc _ _ _ _ _ ?_)
      rw [rm_n (RM_L g1.2 hR), nI_leI (by omega) (by omega), nI_clamp (by omega), nI_add, g3 s hs]
      refine ⟨fun z => by omega, fun _ => ⟨inb_nI (by omega) (by omega), inb_nI (by omega) (by omega), ih _ _ _ _ (offL_L g1 _ _ ⟨Or.inr (Or.inl rfl), rfl⟩) (by rw [mL_r, if_neg (by omega)]; exact g2) (fun t ht => by rw [mL_r, if_neg (by omega)]; exact g3 t ht) (fun t ht => ?_)⟩⟩
      rw [mL_r]
      by_cases hts : t = s
      · rw [if_pos ⟨rfl, rfl, hts⟩, hts]
      · rw [if_neg (fun z => hts z.2.2)]; exact g4 t (by omega)
  have main : ∀ s, s ≤ sN S → ∀ mc o3 o4 o6, offL tO m mc → mc.2 40 0 26 = lI (12 ^ (k + 1)) → mc.2 59 0 = m.2 59 0 → (∀ t, t < s → mc.2 60 0 t = lI (hor S l (k + 1) t)) → (W2 xs (callW2 xs (d + 2)) tX12_onwards [8, 26, 40, 131] none Q 8 [some (vR 40 0), some (vI (bI l)), some (vI (nI s)), (o3), (o4), none, (o6)] [] (mc)) := by
    refine upto (sN S) ?_ ?_
    · intro mc o3 o4 o6 g1 g2 g3 g4
      refine W2_st (bX12_onwards_8 mc _ _ _ _ _ ?_)
      rw [rm_n (RM_L g1.2 hR), nI_leI (by omega) (by omega)]
      exact ⟨fun _ => copy 0 (Nat.zero_le _) mc _ _ _ g1 g2 g4 (fun t ht => by omega), fun z => absurd (Nat.le_refl _) z⟩
    · intro s hs ih mc o3 o4 o6 g1 g2 g3 g4
      have h4 := wf_a hw hs
      refine W2_st (bX12_onwards_8 mc _ _ _ _ _ ?_)
      rw [rm_n (RM_L g1.2 hR), nI_leI (by omega) (by omega), nI_clamp (by omega)]
      refine ⟨fun z => by omega, fun _ => r_isMarked (RM_L g1.2 hR) hw (by omega) ⟨_, rfl, ?_⟩⟩
      rw [bI_0]
      have done : ∀ mc o3 o4 o6, offL tO m mc → mc.2 40 0 26 = lI (12 ^ (k + 1)) → mc.2 59 0 = m.2 59 0 → (∀ t, t < s → mc.2 60 0 t = lI (hor S l (k + 1) t)) → mc.2 60 0 s = lI (hor S l (k + 1) s) → (W2 xs (callW2 xs (d + 2)) tX12_onwards [8, 26, 40, 131] none Q 8 [some (vR 40 0), some (vI (bI l)), some (vI (nI (s + 1))), (o3), (o4), none, (o6)] [] (mc)) := by
        intro mc o3 o4 o6 g1 g2 g3 g4 g5
        refine ih mc _ _ _ g1 g2 g3 (fun t ht => ?_)
        by_cases hts : t = s
        · rw [hts]; exact g5
        · exact g4 t (by omega)
      have fr : ∀ v, offL tO m (mL mc 60 0 s v) ∧ (mL mc 60 0 s v).2 40 0 26 = lI (12 ^ (k + 1)) ∧ (mL mc 60 0 s v).2 59 0 = m.2 59 0 ∧ (∀ t, t < s → (mL mc 60 0 s v).2 60 0 t = lI (hor S l (k + 1) t)) ∧ (mL mc 60 0 s v).2 60 0 s = v := by
        intro v
        refine ⟨offL_L g1 _ _ ⟨Or.inr (Or.inr rfl), rfl⟩, by rw [mL_r, if_neg (by omega)]; exact g2, by funext t; rw [mL_r, if_neg (by omega), g3], fun t ht => by rw [mL_r, if_neg (by omega)]; exact g4 t ht, by rw [mL_r, if_pos ⟨rfl, rfl, rfl⟩]⟩
      cases hmk : (sM S).testBit s with
      | true =>
        refine ⟨fun z => (by cases z), fun _ => ⟨inb_nI (by omega) (by omega), ?_⟩⟩
        rw [g2]
        obtain ⟨f1, f2, f3, f4, f5⟩ := fr (lI (12 ^ (k + 1)))
        have eh : hor S l (k + 1) s = 12 ^ (k + 1) := by simp only [hor]; rw [if_pos hmk]
        refine W2_st (bX12_onwards_26 _ _ _ _ _ _ ?_)
        rw [nI_clamp (by omega), rm_a (RM_L f1.2 hR) hs, nI_leI (by omega) (by omega), nI_add]
        refine ⟨inb_nI (by omega) (by omega), fun _ => done _ _ _ _ f1 f2 f3 f4 (by rw [f5, eh]), fun _ => r_isMarked (RM_L f1.2 hR) hw (by omega) ⟨_, rfl, fun _ => done _ _ _ _ f1 f2 f3 f4 (by rw [f5, eh]), fun z => ?_⟩⟩
        rw [bI_0, hmk] at z
        cases z
      | false =>
        refine ⟨fun _ => ⟨inb_nI (by omega) (by omega), ?_⟩, fun z => absurd rfl z⟩
        have eh : hor S l (k + 1) s = bestU (wantS S l s) (fun a => meanS S (4 * s + a) (hor S l k)) (sA S s) := by simp only [hor]; rw [if_neg (by rw [hmk]; simp)]
        have hma : ∀ a, a < sA S s → 0 ≤ meanS S (4 * s + a) (hor S l k) ∧ meanS S (4 * s + a) (hor S l k) ≤ 12 * 2 ^ 41 := fun a ha => by
          have hx := isA_mk hs ha (by omega)
          exact mean_in hw hx (by decide) (fun o ho => by have := hor_lt2 hw l (k := k) (by omega) (wf_t hw hx ho); omega)
        have acts : ∀ a, a ≤ sA S s → ∀ mc o4 o6, offL tO m mc → mc.2 40 0 26 = lI (12 ^ (k + 1)) → mc.2 59 0 = m.2 59 0 → (∀ t, t < s → mc.2 60 0 t = lI (hor S l (k + 1) t)) → mc.2 60 0 s = lI (bestU (wantS S l s) (fun a => meanS S (4 * s + a) (hor S l k)) a) → (W2 xs (callW2 xs (d + 2)) tX12_onwards [8, 26, 40, 131] none Q 26 [some (vR 40 0), some (vI (bI l)), some (vI (nI s)), some (vI (nI a)), (o4), none, (o6)] [] (mc)) := by
          refine upto (sA S s) ?_ ?_
          · intro mc o4 o6 g1 g2 g3 g4 g5
            refine W2_st (bX12_onwards_26 mc _ _ _ _ _ ?_)
            rw [nI_clamp (by omega), rm_a (RM_L g1.2 hR) hs, nI_leI (by omega) (by omega), nI_add]
            exact ⟨inb_nI (by omega) (by omega), fun _ => done mc _ _ _ g1 g2 g3 g4 (by rw [g5, eh]), fun z => absurd (Nat.le_refl _) z⟩
          · intro a ha iha mc o4 o6 g1 g2 g3 g4 g5
            have hx := isA_mk hs ha (by omega)
            have ho4 := wf_o hw hx
            have hRc := RM_L g1.2 hR
            refine W2_st (bX12_onwards_26 mc _ _ _ _ _ ?_)
            rw [nI_clamp (by omega), rm_a hRc hs, nI_leI (by omega) (by omega)]
            refine ⟨inb_nI (by omega) (by omega), fun z => by omega, fun _ => r_isMarked hRc hw (by omega) ⟨_, rfl, fun z => absurd (by rw [hmk]; rfl) z, fun _ => ?_⟩⟩
            have outs : ∀ o, o ≤ sO S (4 * s + a) → (W2 xs (callW2 xs (d + 2)) tX12_onwards [8, 26, 40, 131] none Q 40 [some (vR 40 0), some (vI (bI l)), some (vI (nI s)), some (vI (nI a)), some (vL (lI (sumI (fun o => (sP S (4 * s + a) o : Int) * hor S l k (sT S (4 * s + a) o)) o))), none, some (vI (nI o))] [] (mc)) := by
              refine upto (sO S (4 * s + a)) ?_ ?_
              · refine W2_st (bX12_onwards_40 mc _ _ _ _ _ ?_)
                simp (disch := omega) only [pk_mul, nI_add, nI_clamp, inb_iff, rm_o hRc hx, nI_leI]
                refine ⟨by omega, fun _ => ?_, fun z => absurd (Nat.le_refl _) z⟩
                refine r_wants hRc hw hs l ⟨_, rfl, ?_⟩
                have hm1 := hma a ha
                have hbb := bestU_in (sk := wantS S l s) (f := fun a => meanS S (4 * s + a) (hor S l k)) (n := a) (lo := 0) (hi := 12 * 2 ^ 41) (Int.le_refl _) (by decide) (fun a' ha' => hma a' (by omega))
                rw [show sumI (fun o => (sP S (4 * s + a) o : Int) * hor S l k (sT S (4 * s + a) o)) (sO S (4 * s + a)) = meanS S (4 * s + a) (hor S l k) from rfl, g5, lg_cmp_ge, lg_cmp_le, lI_le (by omega) (by omega) (by omega) (by omega), lI_le (by omega) (by omega) (by omega) (by omega), bI_0, z_eq (by omega)]
                have wr : ∀ v o4 o6, v = bestU (wantS S l s) (fun a => meanS S (4 * s + a) (hor S l k)) (a + 1) → (W2 xs (callW2 xs (d + 2)) tX12_onwards [8, 26, 40, 131] none Q 26 [some (vR 40 0), some (vI (bI l)), some (vI (nI s)), some (vI (nI (a + 1))), (o4), none, (o6)] [] (mL mc 60 0 s (lI v))) := by
                  intro v o4 o6 hv
                  refine iha _ _ _ (offL_L g1 _ _ ⟨Or.inr (Or.inr rfl), rfl⟩) (by rw [mL_r, if_neg (by omega)]; exact g2) (by funext t; rw [mL_r, if_neg (by omega), g3]) (fun t ht => by rw [mL_r, if_neg (by omega)]; exact g4 t ht) (by rw [mL_r, if_pos ⟨rfl, rfl, rfl⟩, hv])
                have ib : s < 10 := by omega
                simp only [nI_00, nI_10, not_true_eq_false, not_false_eq_true, imp_false0, true_imp, false_imp, and_true, true_and]
                have eB : bestU (wantS S l s) (fun a => meanS S (4 * s + a) (hor S l k)) (a + 1) = if a = 0 ∨ btb (wantS S l s) (meanS S (4 * s + a) (hor S l k)) (bestU (wantS S l s) (fun a => meanS S (4 * s + a) (hor S l k)) a) = true then meanS S (4 * s + a) (hor S l k) else bestU (wantS S l s) (fun a => meanS S (4 * s + a) (hor S l k)) a := rfl
                refine ⟨fun hq => ⟨ib, fun hle => ⟨fun h0 => ⟨ib, wr _ _ _ ?_⟩, fun h0 => ⟨ib, ib, wr _ _ _ ?_⟩⟩, fun hlt => ⟨fun h0 => ⟨ib, wr _ _ _ ?_⟩, fun h0 => ⟨ib, wr _ _ _ ?_⟩⟩⟩, fun hq => ⟨ib, fun hle => ⟨fun h0 => ⟨ib, wr _ _ _ ?_⟩, fun h0 => ⟨ib, ib, wr _ _ _ ?_⟩⟩, fun hlt => ⟨fun h0 => ⟨ib, wr _ _ _ ?_⟩, fun h0 => ⟨ib, wr _ _ _ ?_⟩⟩⟩⟩
                · rw [eB, if_pos (Or.inl h0)]
                · rw [eB, if_neg (by rw [hq, btb_f]; simp only [decide_eq_true_iff]; rw [hq] at hle; omega)]
                · rw [eB, if_pos (Or.inl h0)]
                · rw [eB, if_pos (Or.inr (by rw [hq, btb_f, decide_eq_true_iff]; rw [hq] at hlt; omega))]
                · rw [eB, if_pos (Or.inl h0)]
                · rw [Bool.not_eq_false] at hq
                  rw [eB, if_neg (by rw [hq, btb_t]; simp only [decide_eq_true_iff]; rw [hq] at hle; omega)]
                · rw [eB, if_pos (Or.inl h0)]
                · rw [Bool.not_eq_false] at hq
                  rw [eB, if_pos (Or.inr (by rw [hq, btb_t, decide_eq_true_iff]; rw [hq] at hlt; omega))]
              · intro o ho iho
                have ht := wf_t hw hx ho
                have hp := (wf_p hw hx ho).2
                have e16 : 16 * s + 4 * a + o = 4 * (4 * s + a) + o := by omega
                refine W2_st (bX12_onwards_40 mc _ _ _ _ _ ?_)
                simp (disch := omega) only [pk_mul, nI_add, nI_clamp, inb_iff, rm_o hRc hx, nI_leI, e16, rm_t hRc hx ho, rm_p hRc hx ho, lI_i]
                rw [g3, hnow _ ht, lI_mul, lI_add]
                exact ⟨by omega, fun z => by omega, fun _ => ⟨by omega, by omega, by omega, iho⟩⟩
            have := outs 0 (Nat.zero_le _)
            rw [lI_N]
            exact this
        obtain ⟨f1, f2, f3, f4, f5⟩ := fr (lN 0)
        exact acts 0 (Nat.zero_le _) _ _ _ f1 f2 f3 f4 (by rw [f5, lI_N]; rfl)
  exact main 0 (Nat.zero_le _) _ none none none T0 (by rw [mL_r, if_pos ⟨rfl, rfl, rfl⟩]) (by funext t; rw [mL_r, if_neg (by omega)]) (fun t ht => by omega)
end L76
