/-! CONTRACTS (16): the reference's findValues() (wip/whole/src/68.findM.src) -/
section L68
variable {xs : Nat × (Nat → Int32)} {d : Nat} {Q : Option v2 → Mem → Prop} {m : Mem} {S : Sys}
theorem lead_pos {l : Bool} {f z s : Nat} (h : leadS S l f z s = true) : 0 < sA S s := by
  unfold leadS at h
  cases hw : wantS S l s with
  | true =>
    rw [hw] at h
    obtain ⟨a, ha, _⟩ := anyU_iff.mp h
    omega
  | false =>
    rw [hw] at h
    simp only [Bool.and_eq_true, decide_eq_true_iff] at h
    exact h.1
/-- what comes to the MARKED has an ACT -/
theorem isG_pos {l : Bool} {x y : Nat} (h : isG S l x y) {s : Nat} (hs : y.testBit s = true) (hm : (sM S).testBit s = false) : 0 < sA S s := by
  obtain ⟨h1, h2, h3, h4⟩ := h
  obtain ⟨z, hz⟩ := bits_ex (fun s => y.testBit s = true ∧ ((sM S).testBit s = true ∨ 0 < sA S s)) (sN S)
  have hyz : bsub y z := h4 z (fun t ht => (hz t).mpr ⟨h1 t (h2 t ht), h2 t ht, Or.inl ht⟩) (fun t ht q => (hz t).mpr ⟨ht, h3 t ht (leadS_mono (bsub_rfl _) (fun i w => ((hz i).mp w).2.1) q), Or.inr (lead_pos q)⟩)
  rcases ((hz s).mp (hyz s hs)).2.2 with q | q
  · rw [hm] at q; cases q
  · exact q
/-- what is open: B; what is sure: X -/
theorem open_facts {l : Bool} {X Y : Nat} (hX : isOnes S l X) (hY : isG S l (fullB (sN S)) Y) : sub_n (ndiff Y X) (sN S) ∧ (∀ s, X.testBit s = true → (ndiff Y X).testBit s = false) ∧ (∀ s, (ndiff Y X).testBit s = true → Y.testBit s = true ∧ X.testBit s = false ∧ (sM S).testBit s = false ∧ 0 < sA S s) := by
  have hb : ∀ s, (ndiff Y X).testBit s = true → Y.testBit s = true ∧ X.testBit s = false := by
    intro s hs
    rw [ndiff_bit, Bool.and_eq_true] at hs
    exact ⟨hs.1, by simpa using hs.2⟩
  refine ⟨fun s hs => hY.1 s (hb s hs).1, fun s hs => by rw [ndiff_bit, hs]; simp, fun s hs => ?_⟩
  have h1 := hb s hs
  have hm : (sM S).testBit s = false := by
    cases q : (sM S).testBit s with
    | false => rfl
    | true => have := hX.1.2.1 s q; rw [h1.2] at this; cases this
  exact ⟨h1.1, h1.2, hm, isG_pos hY h1.1 hm⟩
theorem wor_agr {B G : Nat} {l : Bool} {c x : Nat → Nat} {s : Nat} {u v : Int} (h : wor S B G l c s u v) (hx : agr S B false x c) : wor S B G l x s u v := by
  obtain ⟨h1, h2, ⟨c1, W, E, q1, q2, q3, q4⟩, h4⟩ := h
  refine ⟨h1, h2, ⟨c1, W, E, q1, fun t ht hf => by rw [q2 t ht hf, hx t ht hf], q3, q4⟩, fun y W E hy hya hch => h4 y W E hy (fun t ht hf => by rw [hya t ht hf, hx t ht hf]) hch⟩
def valC (S : Sys) (B G : Nat) (l : Bool) (s : Nat) (u v : Int) (cov : (Nat → Nat) → Prop) : Prop := 0 < v ∧ Nat.gcd u.natAbs v.natAbs = 1 ∧ u.natAbs ≤ 2 ^ 25 ∧ v.natAbs ≤ 2 ^ 25 ∧ (∃ c, pol S B c ∧ wor S B G l c s u v) ∧ ∀ x, pol S B x → cov x → ∃ u' v', wor S B G l x s u' v' ∧ cmpl l (u' * v) (u * v')
theorem cmpl_rfl (l : Bool) (a : Int) : cmpl l a a := by cases l <;> exact Int.le_refl _
theorem r_findValues {l : Bool} (hR : RM m S) (hw : wf S) (hf : full S) (hQ0 : ∀ X Y, isOnes S l X → isG S l (fullB (sN S)) Y → 5 < cntB (ndiff Y X) → Q (some (vI (bI false))) m) (hQ1 : ∀ m' X Y, isOnes S l X → isG S l (fullB (sN S)) Y → cntB (ndiff Y X) ≤ 5 → fvM m m' → (∀ s, s < sN S → ∃ u v, m'.2 54 0 ((if l = true then 10 else 0) + s) = lI u ∧ m'.2 55 0 ((if l = true then 10 else 0) + s) = lI v ∧ mmv S (ndiff Y X) X l s u v ∧ u.natAbs ≤ 2 ^ 25 ∧ v.natAbs ≤ 2 ^ 25) → Q (some (vI (bI true))) m') : callW2 xs (d + 6) 145 [vR 40 0, vI (bI l)] m Q := by
  have h3 := wf_n hw
  refine eX12_findValues m _ (W2_st (bX12_findValues_0 m _ ?_))
  refine r_ones hR hw l (fun X hX => ⟨_, rfl, r_above hR hw l (fun Y hY => ⟨_, rfl, ?_⟩)⟩)
  obtain ⟨hBn, hd, hBf⟩ := open_facts hX hY
  rw [nI_diff]
  generalize hBe : ndiff Y X = B at hBn hd hBf
  have hB10 := sub_lt hBn h3
  have hXn : sub_n X (sN S) := hX.1.1
  have hX10 := sub_lt hXn h3
  have hcb := cnt_10 B
  refine r_countBits hB10 ⟨_, rfl, ?_⟩
  rw [nI_leI (by omega) (by omega), bI_0]
  let base : Nat := if l = true then 10 else 0
  refine ⟨fun hB5 => ?_, fun hB5 => ⟨isB0, hQ0 X Y hX hY (by rw [hBe]; omega)⟩⟩
  have hA4 : ∀ t, t < sN S → nxF S B false t = true → sA S t ≤ 4 := fun t ht _ => wf_a hw ht
  have hb10 : base ≤ 10 := by show (if l = true then 10 else 0) ≤ 10; split <;> omega
  have key : ∀ N (c : Nat → Nat) (first : Bool) mc o7 o8 o9, wsum (sA S) (nxF S B false) c (sN S) ≤ N → fvM m mc → (∀ s, s < sN S → mc.1 48 0 s = nI (c s)) → pol S B c → (∀ s, B.testBit s = true → foeS S s = true → c s = 0) → (first = true → ∀ s, B.testBit s = true → c s = 0) → (first = false → ∀ s, s < sN S → ∃ u v, mc.2 54 0 (base + s) = lI u ∧ mc.2 55 0 (base + s) = lI v ∧ valC S B X l s u v (fun x => bef (sN S) (nxF S B false) x c)) → (W2 xs (callW2 xs (d + 5)) tX12_findValues [27, 41, 50] (some .boolean) Q 41 [some (vR 40 0), some (vI (bI l)), some (vI (nI X)), some (vI (nI B)), some (vI (nI base)), some (vI (bI first)), some (vI (nI 1)), (o7), (o8), (o9)] [] (mc)) := by
    intro N
    induction N using Nat.strongRecOn with
    | _ N ihN =>
      intro c first mc o7 o8 o9 hN g1 gch gp g0 gf gw
      refine W2_st (bX12_findValues_41 mc _ _ _ _ _ _ _ _ _ ⟨fun z => absurd z (by decide), fun _ => ?_⟩)
      refine r_worst (RM_fv g1 hR) hw hf gch gp g0 hB5 hXn hd (fun m2 c2 e1 e54 e55 e48 ec e56 => ⟨rfl, ?_⟩)
      have k2 : fvM m m2 := fvM_trans g1 e1
      have gp2 : pol S B c2 := fun s hs => by rw [ec s hs]; exact gp s hs
      have hnob : first = true → ∀ x, ¬ bef (sN S) (nxF S B false) x c := by
        intro h1 x h2
        obtain ⟨s, q1, q2, q3, q4⟩ := h2
        have := gf h1 s (nxF_iff.mp q2).1
        omega
      have hsm : ∀ x, sam (sN S) (nxF S B false) x c → pol S B x → agr S B false x c := fun x h hx t ht hft => h t (hx t ht).1 (nxF_iff.mpr ⟨ht, hft⟩)
      have inner : ∀ k, k ≤ sN S → ∀ m3 o8 o9, fvM m m3 → m3.1 = m2.1 → m3.2 56 0 = m2.2 56 0 → m3.2 57 0 = m2.2 57 0 → (∀ t, k ≤ t → m3.2 54 0 (base + t) = mc.2 54 0 (base + t) ∧ m3.2 55 0 (base + t) = mc.2 55 0 (base + t)) → (∀ t, t < k → ∃ u v, m3.2 54 0 (base + t) = lI u ∧ m3.2 55 0 (base + t) = lI v ∧ valC S B X l t u v (fun x => bef (sN S) (nxF S B false) x c ∨ sam (sN S) (nxF S B false) x c)) → (W2 xs (callW2 xs (d + 5)) tX12_findValues [27, 41, 50] (some .boolean) Q 50 [some (vR 40 0), some (vI (bI l)), some (vI (nI X)), some (vI (nI B)), some (vI (nI base)), some (vI (bI first)), some (vI (nI 1)), some (vI (nI k)), (o8), (o9)] [] (m3)) := by
        refine upto (sN S) ?_ ?_
        · intro m3 o8 o9 f1 f2 f3 f4 f7 f8
          have hR3 := RM_fv f1 hR
          have y48 : ∀ s, s < sN S → m3.1 48 0 s = nI (c2 s) := fun s hs => by rw [f2]; exact e48 s hs
          refine W2_st (bX12_findValues_50 m3 _ _ _ _ _ _ _ _ _ ?_)
          rw [rm_n hR3, nI_leI (by omega) (by omega)]
          refine ⟨fun _ => ?_, fun z => absurd (Nat.le_refl _) z⟩
          refine r_nextChoice (f := false) hR3 hw y48 gp2 (fun b c' m4 n1 n2 n3' => ⟨_, rfl, ?_⟩)
          -- in the words of c
          have n3 : ∃ c3 : Nat → Nat, (∀ s, B.testBit s = true → c3 s = c' s) ∧ nxt (sN S) (sA S) (nxF S B false) c c3 b := by
            refine ⟨fun s => if B.testBit s = true then c' s else c s, fun s hs => if_pos hs, ?_⟩
            have eB : ∀ t, nxF S B false t = true → B.testBit t = true := fun t ht => (nxF_iff.mp ht).1
            cases b with
            | true =>
              obtain ⟨s0, p1, p2, p3, p4, p5, p6⟩ := n3'
              have hs0 := eB s0 p2
              refine ⟨s0, p1, p2, ?_, ?_, fun t ht hF => ?_, fun t ht => ?_⟩
              · show (if B.testBit s0 = true then c' s0 else c s0) = _
                rw [if_pos hs0, p3, ec s0 hs0]
              · rw [← ec s0 hs0]; exact p4
              · have := p5 t ht hF
                show _ ∧ (if B.testBit t = true then c' t else c t) = 0
                rw [if_pos (eB t hF), ← ec t (eB t hF)]
                exact this
              · show (if B.testBit t = true then c' t else c t) = c t
                split
                · rename_i hBt
                  rw [p6 t ht, ec t hBt]
                · rfl
            | false =>
              refine ⟨fun t ht hF => ?_, fun t ht => ?_⟩
              · have := n3'.1 t ht hF
                show _ ∧ (if B.testBit t = true then c' t else c t) = 0
                rw [if_pos (eB t hF), ← ec t (eB t hF)]
                exact this
              · show (if B.testBit t = true then c' t else c t) = c t
                split
                · rename_i hBt
                  rw [n3'.2 t ht, ec t hBt]
                · rfl
          obtain ⟨c3, hc3, n3⟩ := n3
          have k4 : fvM m m4 := fvM_48 f1 n1
          cases b with
          | true =>
            have hlt := wsum_nxt hA4 n3
            obtain ⟨s0, p1, p2, p3, p4, p5, p6⟩ := id n3
            have hws : wsum (sA S) (nxF S B false) c' (sN S) = wsum (sA S) (nxF S B false) c3 (sN S) := by
              have : ∀ k, wsum (sA S) (nxF S B false) c' k = wsum (sA S) (nxF S B false) c3 k := by
                intro k
                induction k with
                | zero => rfl
                | succ k ihk =>
                  simp only [wsum]
                  rw [ihk]
                  split
                  · rename_i hF
                    rw [hc3 k (nxF_iff.mp hF).1]
                  · rfl
              exact this _
            have hpc : ∀ s, B.testBit s = true → c3 s < sA S s := by
              intro s hs
              have hcs := (gp s hs).2
              cases hF : nxF S B false s with
              | false => rw [p6 s (Or.inl hF)]; exact hcs
              | true =>
                rcases Nat.lt_or_ge s s0 with q | q
                · rw [(p5 s q hF).2]; omega
                · rcases Nat.lt_or_ge s0 s with q2 | q2
                  · rw [p6 s (Or.inr q2)]; exact hcs
                  · have e : s = s0 := by omega
                    rw [e, p3]; exact p4
            refine ihN (wsum (sA S) (nxF S B false) c' (sN S)) (by omega) c' false m4 _ _ _ (Nat.le_refl _) k4 n2 (fun s hs => ⟨(gp s hs).1, by rw [← hc3 s hs]; exact hpc s hs⟩) (fun s hs hft => ?_) (fun z => by cases z) (fun _ s hs => ?_)
            · rw [← hc3 s hs, p6 s (Or.inl (by unfold nxF; rw [hs, hft]; rfl))]
              exact g0 s hs hft
            · obtain ⟨u, v, r1, r2, r3⟩ := f8 s hs
              refine ⟨u, v, by rw [n1.2]; exact r1, by rw [n1.2]; exact r2, r3.1, r3.2.1, r3.2.2.1, r3.2.2.2.1, r3.2.2.2.2.1, fun x hx hb => r3.2.2.2.2.2 x hx (nxt_t n3 (fun t ht hF => (hx t (nxF_iff.mp hF).1).2) ?_)⟩
              obtain ⟨s1, q1, q2, q3, q4⟩ := hb
              exact ⟨s1, q1, q2, by rw [hc3 s1 (nxF_iff.mp q2).1]; exact q3, fun t h1 h2 h5 => by rw [hc3 t (nxF_iff.mp h5).1]; exact q4 t h1 h2 h5⟩
          | false =>
            refine W2_st (bX12_findValues_41 m4 _ _ _ _ _ _ _ _ _ ⟨fun _ => ⟨isB1, ?_⟩, fun z => absurd (by decide) z⟩)
            refine hQ1 m4 X Y hX hY (by rw [hBe]; exact hB5) k4 (fun s hs => ?_)
            obtain ⟨u, v, r1, r2, r3⟩ := f8 s hs
            rw [hBe]
            exact ⟨u, v, by rw [n1.2]; exact r1, by rw [n1.2]; exact r2, ⟨r3.1, r3.2.1, r3.2.2.2.2.1, fun x hx => r3.2.2.2.2.2 x hx (nxt_f n3 (fun t ht hF => (hx t (nxF_iff.mp hF).1).2))⟩, r3.2.2.1, r3.2.2.2.1⟩
        · intro k hk ih m3 o8 o9 f1 f2 f3 f4 f7 f8
          have hR3 := RM_fv f1 hR
          obtain ⟨u, v, v1, v2, vw⟩ := e56 k hk
          have v4 := vw.2.2.1
          have v5 := vw.2.2.2.1
          have hv := vw.1
          have hwor : wor S B X l c k u v := ⟨vw.1, vw.2.1, vw.2.2.2.2.1, fun x W E h1 h2 h4 => vw.2.2.2.2.2 x W E h1 h2 trivial h4⟩
          have y56 : m3.2 56 0 k = lI u := by rw [f3]; exact v1
          have y57 : m3.2 57 0 k = lI v := by rw [f4]; exact v2
          have y54 := (f7 k (Nat.le_refl _)).1
          have y55 := (f7 k (Nat.le_refl _)).2
          have e57 : (mL m3 54 0 (base + k) (lI u)).2 57 0 k = lI v := by rw [mL_r, if_neg (by omega)]; exact y57
          have take : ∀ o8 o9, valC S B X l k u v (fun x => bef (sN S) (nxF S B false) x c ∨ sam (sN S) (nxF S B false) x c) → (W2 xs (callW2 xs (d + 5)) tX12_findValues [27, 41, 50] (some .boolean) Q 50 [some (vR 40 0), some (vI (bI l)), some (vI (nI X)), some (vI (nI B)), some (vI (nI base)), some (vI (bI first)), some (vI (nI 1)), some (vI (nI (k + 1))), (o8), (o9)] [] (mL (mL m3 54 0 (base + k) (m3.2 56 0 k)) 55 0 (base + k) ((mL m3 54 0 (base + k) (m3.2 56 0 k)).2 57 0 k))) := by
            intro o8 o9 hwc
            rw [y56, e57]
            refine ih _ _ _ (fvM_L (fvM_L f1 54 _ _ (by omega)) 55 _ _ (by omega)) f2 (by funext t; rw [mL_r, if_neg (by omega), mL_r, if_neg (by omega), f3]) (by funext t; rw [mL_r, if_neg (by omega), mL_r, if_neg (by omega), f4]) (fun t ht => ?_) (fun t ht => ?_)
            · rw [mL_r, if_neg (by omega), mL_r, if_neg (by omega), mL_r, if_neg (by omega), mL_r, if_neg (by omega)]
              exact f7 t (by omega)
            · by_cases htk : t = k
              · refine ⟨u, v, ?_, ?_, by rw [htk]; exact hwc⟩
                · rw [mL_r, if_neg (by omega), mL_r, if_pos ⟨rfl, rfl, by omega⟩]
                · rw [mL_r, if_pos ⟨rfl, rfl, by omega⟩]
              · obtain ⟨u', v', r1, r2, r3⟩ := f8 t (by omega)
                refine ⟨u', v', ?_, ?_, r3⟩
                · rw [mL_r, if_neg (by omega), mL_r, if_neg (by omega)]; exact r1
                · rw [mL_r, if_neg (by omega), mL_r, if_neg (by omega)]; exact r2
          have keep : ∀ o8 o9, (∃ wu wv, mc.2 54 0 (base + k) = lI wu ∧ mc.2 55 0 (base + k) = lI wv ∧ valC S B X l k wu wv (fun x => bef (sN S) (nxF S B false) x c ∨ sam (sN S) (nxF S B false) x c)) → (W2 xs (callW2 xs (d + 5)) tX12_findValues [27, 41, 50] (some .boolean) Q 50 [some (vR 40 0), some (vI (bI l)), some (vI (nI X)), some (vI (nI B)), some (vI (nI base)), some (vI (bI first)), some (vI (nI 1)), some (vI (nI (k + 1))), (o8), (o9)] [] (m3)) := by
            intro o8 o9 hwc
            refine ih _ _ _ f1 f2 f3 f4 (fun t ht => f7 t (by omega)) (fun t ht => ?_)
            by_cases htk : t = k
            · subst htk
              obtain ⟨wu, wv, r1, r2, r3⟩ := hwc
              exact ⟨wu, wv, y54.trans r1, y55.trans r2, r3⟩
            · exact f8 t (by omega)
          refine W2_st (bX12_findValues_50 m3 _ _ _ _ _ _ _ _ _ ?_)
          rw [rm_n hR3, nI_leI (by omega) (by omega), nI_clamp (n := k) (by omega), nI_add, nI_add, nI_clamp (n := base + k) (by omega), y56, y57, bI_0, bI_0]
          have ib : inb (nI k) 10 := inb_nI (by omega) (by omega)
          have ic : inb (nI (base + k)) 20 := inb_nI (by omega) (by omega)
          cases first with
          | true =>
            have hnew : valC S B X l k u v (fun x => bef (sN S) (nxF S B false) x c ∨ sam (sN S) (nxF S B false) x c) := ⟨vw.1, vw.2.1, v4, v5, ⟨c, gp, hwor⟩, fun x hx hcv => by
              rcases hcv with q | q
              · exact absurd q (hnob rfl x)
              · exact ⟨u, v, wor_agr hwor (hsm x q hx), cmpl_rfl _ _⟩⟩
            refine ⟨fun z => by omega, fun _ => ⟨fun _ => ⟨ic, ic, ib, ib, ?_⟩, fun _ => ⟨ib, ib, ic, ic, ?_⟩⟩⟩
            · refine r_isBelowAny _ _ _ _ (fun b => ⟨_, rfl, fun _ => ⟨ib, ic, ib, ic, ?_⟩, fun z => by cases z⟩)
              exact take _ _ hnew
            · refine r_isBelowAny _ _ _ _ (fun b => ⟨_, rfl, fun _ => ⟨ib, ic, ib, ic, ?_⟩, fun z => by cases z⟩)
              exact take _ _ hnew
          | false =>
            obtain ⟨wu, wv, r1, r2, r3⟩ := gw rfl k hk
            have hwv := r3.1
            have b1 := r3.2.2.1
            have b2 := r3.2.2.2.1
            rw [y54, y55, r1, r2]
            have hnew : cmpl l (wu * v) (u * wv) → valC S B X l k u v (fun x => bef (sN S) (nxF S B false) x c ∨ sam (sN S) (nxF S B false) x c) := by
              intro hcm
              refine ⟨vw.1, vw.2.1, v4, v5, ⟨c, gp, hwor⟩, fun x hx hcv => ?_⟩
              rcases hcv with q | q
              · obtain ⟨u', v', q1, q2⟩ := r3.2.2.2.2.2 x hx q
                refine ⟨u', v', q1, ?_⟩
                have nv' := Int.le_of_lt q1.1
                have nv := Int.le_of_lt hv
                cases l with
                | false => exact fr_trans nv' hwv nv q2 hcm
                | true => exact fr_trans nv hwv nv' hcm q2
              · exact ⟨u, v, wor_agr hwor (hsm x q hx), cmpl_rfl _ _⟩
            have hkeep : cmpl l (u * wv) (wu * v) → ∃ wu wv, mc.2 54 0 (base + k) = lI wu ∧ mc.2 55 0 (base + k) = lI wv ∧ valC S B X l k wu wv (fun x => bef (sN S) (nxF S B false) x c ∨ sam (sN S) (nxF S B false) x c) := fun hcm => ⟨wu, wv, r1, r2, r3.1, r3.2.1, r3.2.2.1, r3.2.2.2.1, r3.2.2.2.2.1, fun x hx hcv => by
              rcases hcv with q | q
              · exact r3.2.2.2.2.2 x hx q
              · exact ⟨u, v, wor_agr hwor (hsm x q hx), hcm⟩⟩
            refine ⟨fun z => by omega, fun _ => ⟨fun hl => ⟨ic, ic, ib, ib, ?_⟩, fun hl => ⟨ib, ib, ic, ic, ?_⟩⟩⟩
            · subst hl
              refine r_isBelow wu wv u v (mul25 b1 v5) (mul25 v4 b2) ⟨_, rfl, fun z => absurd rfl z, fun _ => ?_⟩
              rw [bI_0, decide_eq_false_iff_not]
              refine ⟨fun h => keep _ _ (hkeep (show u * wv ≤ wu * v by omega)), fun h => ⟨ib, ic, ib, ic, take _ _ (hnew (show wu * v ≤ u * wv by omega))⟩⟩
            · rw [Bool.not_eq_false] at hl
              subst hl
              refine r_isBelow u v wu wv (mul25 v4 b2) (mul25 b1 v5) ⟨_, rfl, fun z => absurd rfl z, fun _ => ?_⟩
              rw [bI_0, decide_eq_false_iff_not]
              refine ⟨fun h => keep _ _ (hkeep (show wu * v ≤ u * wv by omega)), fun h => ⟨ib, ic, ib, ic, take _ _ (hnew (show u * wv ≤ wu * v by omega))⟩⟩
      exact inner 0 (Nat.zero_le _) m2 _ _ k2 rfl rfl rfl (fun t _ => by rw [e54, e55]; exact ⟨rfl, rfl⟩) (fun t ht => by omega)
  -- all choices are the first
  have clr : ∀ s, s ≤ 10 → ∀ mc, fvM m mc → (∀ t, t < s → mc.1 48 0 t = nI 0) → (W2 xs (callW2 xs (d + 5)) tX12_findValues [27, 41, 50] (some .boolean) Q 27 [some (vR 40 0), some (vI (bI l)), some (vI (nI X)), some (vI (nI B)), some (vI (nI base)), some (vI (nI s)), none, none, none, none] [] (mc)) := by
    refine upto 10 ?_ ?_
    · intro mc g1 g2
      refine W2_st (bX12_findValues_27 mc _ _ _ _ _ ⟨fun _ => ?_, fun z => absurd (by decide) z⟩)
      exact key _ (fun _ => 0) true mc none none none (Nat.le_refl _) g1 (fun s hs => g2 s (by omega)) (fun s hs => ⟨hBn s hs, (hBf s hs).2.2.2⟩) (fun _ _ _ => rfl) (fun _ _ _ => rfl) (fun z => by cases z)
    · intro s hs ih mc g1 g2
      refine W2_st (bX12_findValues_27 mc _ _ _ _ _ ?_)
      rw [nI_leI (by omega) (by omega), nI_clamp (by omega), nI_add]
      refine ⟨fun z => by omega, fun _ => ⟨inb_nI (by omega) (by omega), ih _ (fvM_48 g1 (offI_I (offI_rfl _ _) _ _ ⟨rfl, rfl⟩)) (fun t ht => ?_)⟩⟩
      rw [mI_r]
      by_cases hts : t = s
      · rw [if_pos ⟨rfl, rfl, hts⟩]
      · rw [if_neg (by omega)]; exact g2 t (by omega)
  have := clr 0 (Nat.zero_le _) m (fvM_rfl m) (fun t ht => by omega)
  refine ⟨fun hl => ?_, fun hl => ?_⟩
  · subst hl; exact this
  · rw [Bool.not_eq_false] at hl; subst hl; exact this
end L68
