/-! CONTRACTS (29): the reference's twins (wip/whole/src/82.twinM.src) -/
section L82
variable {xs : Nat × (Nat → Int32)} {d : Nat} {Q : Option v2 → Mem → Prop} {m : Mem} {S : Sys}
theorem partC_le (hw : wf S) {c : Nat → Nat} {x : Nat} (hx : isA S x) (k n : Nat) (hn : n ≤ sO S x) : sumU (fun o => if c (sT S x o) = k then sP S x o else 0) n ≤ 12 := by
  have h1 := sumU_mono2 (f := fun o => if c (sT S x o) = k then sP S x o else 0) (g := sP S x) (n := n) (fun o _ => by split <;> omega)
  have h2 := sumU_mono (f := sP S x) hn
  have h3 := wf_ps hw hx
  unfold partsS at h3
  omega
theorem r_partIn {x k : Nat} {c : Nat → Nat} (hR : RM m S) (hw : wf S) (hx : isA S x) (hk : k < 10) (hc : ∀ s, s < sN S → m.1 64 0 s = nI (c s) ∧ c s < 10) (hQ : Q (some (vI (nI (partC S c x k)))) m) : callW2 xs (d + 1) 170 [vR 40 0, vI (nI x), vI (nI k)] m Q := by
  have h3 := wf_n hw
  have hx40 := wf_40 hw hx
  have ho4 := wf_o hw hx
  refine eX12_partIn m _ _ (W2_st (bX12_partIn_0 m _ _ ?_))
  refine upto (P := fun o => (W2 xs (callW2 xs d) tX12_partIn [4] (some .int) Q 4 [some (vR 40 0), some (vI (nI x)), some (vI (nI k)), some (vI (nI (sumU (fun o => if c (sT S x o) = k then sP S x o else 0) o))), some (vI (nI o))] [] (m))) (sO S x) ?_ ?_ 0 (Nat.zero_le _)
  · refine W2_st (bX12_partIn_4 m _ _ _ _ ?_)
    rw [nI_clamp (by omega), rm_o hR hx, nI_leI (by omega) (by omega)]
    exact ⟨inb_nI (by omega) (by omega), fun _ => hQ, fun z => absurd (Nat.le_refl _) z⟩
  · intro o ho ih
    have ht := wf_t hw hx ho
    have hct := hc _ ht
    refine W2_st (bX12_partIn_4 m _ _ _ _ ?_)
    simp (disch := omega) only [nI_clamp, inb_iff, rm_o hR hx, nI_leI, pk_mul, nI_add, rm_t hR hx ho, rm_p hR hx ho, hct.1, nI_eq]
    simp only [sumU] at ih
    refine ⟨by omega, fun z => by omega, fun _ => ⟨by omega, by omega, fun hne => ?_, fun he => ⟨by omega, ?_⟩⟩⟩
    · rw [if_neg hne] at ih; exact ih
    · rw [if_pos he] at ih; exact ih
theorem r_areLike {x y : Nat} {c : Nat → Nat} (hR : RM m S) (hw : wf S) (hx : isA S x) (hy : isA S y) (hc : ∀ s, s < sN S → m.1 64 0 s = nI (c s) ∧ c s < 10) (hQ : Q (some (vI (bI (likeX S c x y)))) m) : callW2 xs (d + 2) 171 [vR 40 0, vI (nI x), vI (nI y)] m Q := by
  have h3 := wf_n hw
  have hx40 := wf_40 hw hx
  have hy40 := wf_40 hw hy
  have kx := wf_k hw hx
  have ky := wf_k hw hy
  have cx := wf_c hw hx
  have cy := wf_c hw hy
  refine eX12_areLike m _ _ (W2_st (bX12_areLike_0 m _ _ ?_))
  have key : ∀ k, k ≤ 10 → (W2 xs (callW2 xs (d + 1)) tX12_areLike [34] (some .boolean) Q 34 [some (vR 40 0), some (vI (nI x)), some (vI (nI y)), some (vI (bI (decide (sC S x = sC S y) && (decide (sK S x = 2) == decide (sK S y = 2)) && allU (fun k => decide (partC S c x k = partC S c y k)) k))), some (vI (nI k))] [] (m)) := by
    refine upto 10 ?_ ?_
    · exact W2_st (bX12_areLike_34 m _ _ _ _ ⟨fun _ => ⟨(isB_bI _).mpr trivial, hQ⟩, fun z => absurd (by decide) z⟩)
    · intro k hk ih
      refine W2_st (bX12_areLike_34 m _ _ _ _ ?_)
      rw [nI_leI (by omega) (by omega), bI_0]
      simp only [nI_add]
      simp only [allU] at ih
      refine ⟨fun z => by omega, fun _ => ⟨fun h => ⟨(isB_bI _).mpr trivial, ?_⟩, fun h => ?_⟩⟩
      · -- no more: it is no at the end too
        have e : likeX S c x y = false := by
          cases hl : likeX S c x y with
          | false => rfl
          | true =>
            obtain ⟨q1, q2, q3⟩ := like_iff.mp hl
            have e2 : decide (sK S x = 2) = decide (sK S y = 2) := decide_eq_decide.mpr q2
            rw [decide_eq_true q1, e2, allU_iff.mpr (fun k' hk' => decide_eq_true (q3 k' (by omega)))] at h
            simp at h
        rw [h]
        rw [e] at hQ
        exact hQ
      · rw [Bool.not_eq_false] at h
        refine r_partIn hR hw hx hk hc ⟨_, rfl, r_partIn hR hw hy hk hc ⟨_, rfl, ?_⟩⟩
        have b1 := partC_le hw (c := c) hx k (sO S x) (Nat.le_refl _)
        have b2 := partC_le hw (c := c) hy k (sO S y) (Nat.le_refl _)
        rw [show sumU _ (sO S x) = partC S c x k from rfl] at b1
        rw [show sumU _ (sO S y) = partC S c y k from rfl] at b2
        rw [nI_eq (by omega) (by omega)]
        rw [← Bool.and_assoc, h, Bool.true_and] at ih
        refine ⟨fun hne => ?_, fun he => ?_⟩
        · rw [decide_eq_false hne] at ih; exact ih
        · rw [decide_eq_true he] at ih; exact ih
  have k0 := key 0 (Nat.zero_le _)
  simp only [allU, Bool.and_true] at k0
  simp (disch := omega) only [nI_clamp, inb_iff, rm_c hR hx, rm_c hR hy, rm_k hR hx, rm_k hR hy, nI_eq]
  simp only [e01, e10, eq_self, not_true_eq_false, not_false_eq_true, imp_false0, true_imp, false_imp, and_true, true_and]
  refine ⟨hx40, hy40, fun hne => ?_, fun he => ⟨hx40, fun h1 => ⟨hy40, fun h2 => ?_, fun h2 => ?_⟩, fun h1 => ⟨hy40, fun h2 => ?_, fun h2 => ?_⟩⟩⟩
  · rw [decide_eq_false hne] at k0; exact k0
  · rw [decide_eq_true he, decide_eq_false h1, decide_eq_false h2] at k0; exact k0
  · rw [decide_eq_true he, decide_eq_false h1, decide_eq_true h2] at k0; exact ⟨fun _ => k0, fun z => absurd z (by decide)⟩
  · rw [decide_eq_true he, decide_eq_true h1, decide_eq_false h2] at k0; exact ⟨fun _ => k0, fun z => absurd z (by decide)⟩
  · rw [decide_eq_true he, decide_eq_true h1, decide_eq_true h2] at k0; exact k0
theorem r_hasAll {s t : Nat} {c : Nat → Nat} (hR : RM m S) (hw : wf S) (hs : s < sN S) (ht : t < sN S) (hc : ∀ s, s < sN S → m.1 64 0 s = nI (c s) ∧ c s < 10) (hQ : Q (some (vI (bI (covS S c s t)))) m) : callW2 xs (d + 3) 172 [vR 40 0, vI (nI s), vI (nI t)] m Q := by
  have h3 := wf_n hw
  have h4 := wf_a hw hs
  have h5 := wf_a hw ht
  refine eX12_hasAll m _ _ (W2_st (bX12_hasAll_0 m _ _ ?_))
  have key : ∀ a, a ≤ sA S s → ∀ o5 o6, (W2 xs (callW2 xs (d + 2)) tX12_hasAll [4, 14] (some .boolean) Q 4 [some (vR 40 0), some (vI (nI s)), some (vI (nI t)), some (vI (bI (allU (fun a => anyU (fun b => likeX S c (4 * s + a) (4 * t + b)) (sA S t)) a))), some (vI (nI a)), (o5), (o6)] [] (m)) := by
    refine upto (sA S s) ?_ ?_
    · intro o5 o6
      refine W2_st (bX12_hasAll_4 m _ _ _ _ _ _ ?_)
      rw [nI_clamp (by omega), rm_a hR hs, nI_leI (by omega) (by omega)]
      exact ⟨inb_nI (by omega) (by omega), fun _ => ⟨(isB_bI _).mpr trivial, hQ⟩, fun z => absurd (Nat.le_refl _) z⟩
    · intro a ha ih o5 o6
      have hx := isA_mk hs ha (by omega)
      refine W2_st (bX12_hasAll_4 m _ _ _ _ _ _ ?_)
      rw [nI_clamp (by omega), rm_a hR hs, nI_leI (by omega) (by omega)]
      refine ⟨inb_nI (by omega) (by omega), fun z => by omega, fun _ => ?_⟩
      refine upto (P := fun b => (W2 xs (callW2 xs (d + 2)) tX12_hasAll [4, 14] (some .boolean) Q 14 [some (vR 40 0), some (vI (nI s)), some (vI (nI t)), some (vI (bI (allU (fun a => anyU (fun b => likeX S c (4 * s + a) (4 * t + b)) (sA S t)) a))), some (vI (nI a)), some (vI (bI (anyU (fun b => likeX S c (4 * s + a) (4 * t + b)) b))), some (vI (nI b))] [] (m))) (sA S t) ?_ ?_ 0 (Nat.zero_le _)
      · refine W2_st (bX12_hasAll_14 m _ _ _ _ _ _ ?_)
        rw [nI_clamp (by omega), rm_a hR ht, nI_leI (by omega) (by omega), bI_0, bI_0]
        simp only [nI_add]
        simp only [allU] at ih
        refine ⟨inb_nI (by omega) (by omega), fun _ => ⟨fun h1 => ?_, fun h1 => ⟨fun h2 => ?_, fun h2 => ?_⟩⟩, fun z => absurd (Nat.le_refl _) z⟩
        · rw [h1, Bool.false_and] at ih; exact ih _ _
        · rw [h2, Bool.and_false] at ih; rw [h2]; exact ih _ _
        · rw [Bool.not_eq_false] at h1 h2; rw [h1, h2] at ih; rw [h2]; exact ih _ _
      · intro b hb ihb
        have hy := isA_mk ht hb (by omega)
        refine W2_st (bX12_hasAll_14 m _ _ _ _ _ _ ?_)
        rw [nI_clamp (by omega), rm_a hR ht, nI_leI (by omega) (by omega)]
        simp only [nI_add, pk_mul, bI_0]
        simp only [anyU] at ihb
        refine ⟨inb_nI (by omega) (by omega), fun z => by omega, fun _ => ⟨fun h1 => ?_, fun h1 => r_areLike hR hw hx hy hc ⟨_, rfl, ?_⟩⟩⟩
        · rw [Bool.not_eq_false] at h1; rw [h1, Bool.true_or] at ihb; exact ihb
        · rw [bI_0]
          refine ⟨fun h2 => ?_, fun h2 => ?_⟩
          · rw [h1, h2] at ihb; exact ihb
          · rw [Bool.not_eq_false] at h2; rw [h2, Bool.or_true] at ihb; exact ihb
  exact key 0 (Nat.zero_le _) none none
/-- findClasses() -/
theorem r_findClasses (hR : RM m S) (hw : wf S) (hQ : ∀ m', offI (fun t j => (t = 64 ∨ t = 65) ∧ j = 0) m m' → (∀ s, s < sN S → m'.1 64 0 s = nI (clsR S 12 s)) → Q (some (vI (nI (cntR S 12)))) m') : callW2 xs (d + 4) 173 [vR 40 0] m Q := by
  have h3 := wf_n hw
  refine eX12_findClasses m (W2_st (bX12_findClasses_0 m ?_))
  have rm : ∀ mc, offI (fun t j => (t = 64 ∨ t = 65) ∧ j = 0) m mc → RM mc S := fun mc h => RM_off h.1 (by omega) (by omega) (by omega) (by omega) (by omega) (by omega) (by omega) hR
  have rnd : ∀ r, r ≤ 12 → ∀ mc o3 o4 o5, offI (fun t j => (t = 64 ∨ t = 65) ∧ j = 0) m mc → (∀ s, s < sN S → mc.1 64 0 s = nI (clsR S r s)) → (W2 xs (callW2 xs (d + 3)) tX12_findClasses [2, 23, 30, 38, 92] (some .int) Q 23 [some (vR 40 0), some (vI (nI (cntR S r))), some (vI (nI r)), (o3), (o4), (o5)] [] (mc)) := by
    refine upto 12 ?_ ?_
    · intro mc o3 o4 o5 g1 g2
      exact W2_st (bX12_findClasses_23 mc _ _ _ _ _ ⟨fun _ => hQ mc g1 g2, fun z => absurd (by decide) z⟩)
    · intro r hr ih mc o3 o4 o5 g1 g2
      refine W2_st (bX12_findClasses_23 mc _ _ _ _ _ ?_)
      rw [nI_leI (by omega) (by omega)]
      refine ⟨fun z => by omega, fun _ => ?_⟩
      -- the copy
      have copy : ∀ s, s ≤ sN S → ∀ mc o4 o5, offI (fun t j => (t = 64 ∨ t = 65) ∧ j = 0) m mc → (∀ t, t < sN S → mc.1 65 0 t = nI (clsR S (r + 1) t)) → (∀ t, t < s → mc.1 64 0 t = nI (clsR S (r + 1) t)) → (W2 xs (callW2 xs (d + 3)) tX12_findClasses [2, 23, 30, 38, 92] (some .int) Q 92 [some (vR 40 0), some (vI (nI (cntR S (r + 1)))), some (vI (nI r)), some (vI (nI s)), (o4), (o5)] [] (mc)) := by
        refine upto (sN S) ?_ ?_
        · intro mc o4 o5 g1 g2 g3
          refine W2_st (bX12_findClasses_92 mc _ _ _ _ _ ?_)
          rw [rm_n (rm mc g1), nI_leI (by omega) (by omega)]
          simp only [nI_add]
          exact ⟨fun _ => ih mc _ _ _ g1 g3, fun z => absurd (Nat.le_refl _) z⟩
        · intro s hs ihs mc o4 o5 g1 g2 g3
          refine W2_st (bX12_findClasses_92 mc _ _ _ _ _ ?_)
          rw [rm_n (rm mc g1), nI_leI (by omega) (by omega), nI_clamp (by omega), g2 s hs]
          simp only [nI_add]
          refine ⟨fun z => by omega, fun _ => ⟨inb_nI (by omega) (by omega), inb_nI (by omega) (by omega), ihs _ _ _ (offI_I g1 _ _ ⟨Or.inl rfl, rfl⟩) (fun t ht => by rw [mI_r, if_neg (by omega)]; exact g2 t ht) (fun t ht => ?_)⟩⟩
          rw [mI_r]
          by_cases hts : t = s
          · rw [if_pos ⟨rfl, rfl, hts⟩, hts]
          · rw [if_neg (fun z => hts z.2.2)]; exact g3 t (by omega)
      have row : ∀ s, s ≤ sN S → ∀ mc o4 o5, offI (fun t j => (t = 64 ∨ t = 65) ∧ j = 0) m mc → (∀ t, t < sN S → mc.1 64 0 t = nI (clsR S r t)) → (∀ t, t < s → mc.1 65 0 t = nI ((num (twS S (clsR S r)) s).1 t)) → (W2 xs (callW2 xs (d + 3)) tX12_findClasses [2, 23, 30, 38, 92] (some .int) Q 30 [some (vR 40 0), some (vI (nI (num (twS S (clsR S r)) s).2)), some (vI (nI r)), some (vI (nI s)), (o4), (o5)] [] (mc)) := by
        refine upto (sN S) ?_ ?_
        · intro mc o4 o5 g1 g2 g3
          refine W2_st (bX12_findClasses_30 mc _ _ _ _ _ ?_)
          rw [rm_n (rm mc g1), nI_leI (by omega) (by omega)]
          exact ⟨fun _ => copy 0 (Nat.zero_le _) mc _ _ g1 g3 (fun t ht => by omega), fun z => absurd (Nat.le_refl _) z⟩
        · intro s hs ihs mc o4 o5 g1 g2 g3
          have hRc := rm mc g1
          have hcn := cnt_n (twS S (clsR S r)) s
          refine W2_st (bX12_findClasses_30 mc _ _ _ _ _ ?_)
          rw [rm_n hRc, nI_leI (by omega) (by omega)]
          refine ⟨fun z => by omega, fun _ => ?_⟩
          have nlt : ∀ u, u < s → (num (twS S (clsR S r)) s).1 u < 10 := fun u hu => by
            have := (num_spec (tw_eqv (S := S) (clsR S r) s) s (Nat.le_refl _)).1 u hu
            omega
          have ib : inb (nI s) 10 := inb_nI (by omega) (by omega)
          -- what is written at the end
          have wr : ∀ mc' v n' o4 o5, mc' = mI mc 65 0 s (nI v) → v = (num (twS S (clsR S r)) (s + 1)).1 s → n' = (num (twS S (clsR S r)) (s + 1)).2 → (W2 xs (callW2 xs (d + 3)) tX12_findClasses [2, 23, 30, 38, 92] (some .int) Q 30 [some (vR 40 0), some (vI (nI n')), some (vI (nI r)), some (vI (nI (s + 1))), (o4), (o5)] [] (mc')) := by
            intro mc' v n' o4 o5 e1 e2 e3
            subst e1 e3
            refine ihs _ _ _ (offI_I g1 _ _ ⟨Or.inr rfl, rfl⟩) (fun t ht => by rw [mI_r, if_neg (by omega)]; exact g2 t ht) (fun t ht => ?_)
            rw [mI_r]
            by_cases hts : t = s
            · rw [if_pos ⟨rfl, rfl, hts⟩, hts, e2]
            · rw [if_neg (fun z => hts z.2.2), num_old (by omega)]; exact g3 t (by omega)
          have foundW : ∀ u o4 o5, fstT (twS S (clsR S r) s) s = some u → (W2 xs (callW2 xs (d + 3)) tX12_findClasses [2, 23, 30, 38, 92] (some .int) Q 30 [some (vR 40 0), some (vI (nI (num (twS S (clsR S r)) s).2)), some (vI (nI r)), some (vI (nI (s + 1))), (o4), (o5)] [] (mI mc 65 0 s (nI ((num (twS S (clsR S r)) s).1 u)))) := by
            intro u o4 o5 hf
            have e : num (twS S (clsR S r)) (s + 1) = (fun s' => if s' = s then (num (twS S (clsR S r)) s).1 u else (num (twS S (clsR S r)) s).1 s', (num (twS S (clsR S r)) s).2) := by simp only [num, hf]
            refine wr _ _ _ _ _ rfl ?_ (by rw [e])
            rw [e]
            show _ = (if s = s then _ else _)
            rw [if_pos rfl]
          refine upto (P := fun t => ∀ v : Int32, v = (match fstT (twS S (clsR S r) s) t with | some u => nI ((num (twS S (clsR S r)) s).1 u) | none => (-1 : Int32)) → (W2 xs (callW2 xs (d + 3)) tX12_findClasses [2, 23, 30, 38, 92] (some .int) Q 38 [some (vR 40 0), some (vI (nI (num (twS S (clsR S r)) s).2)), some (vI (nI r)), some (vI (nI s)), some (vI (v)), some (vI (nI t))] [] (mc))) s ?_ ?_ 0 (Nat.zero_le _) (-1 : Int32) rfl
          · intro v hv
            refine W2_st (bX12_findClasses_38 mc _ _ _ _ _ ?_)
            rw [nI_leI (by omega) (by omega), nI_clamp (by omega)]
            refine ⟨fun _ => ?_, fun z => absurd (Nat.le_refl _) z⟩
            cases hf : fstT (twS S (clsR S r) s) s with
            | some u =>
              rw [hf] at hv
              have hu := fstT_some hf
              have := nlt u hu.1
              have hge : (0 : Int32) ≤ nI ((num (twS S (clsR S r)) s).1 u) := nI_pos' (by omega)
              have hv' : v = nI ((num (twS S (clsR S r)) s).1 u) := hv
              subst hv'
              simp only [nI_add, Nat.add_zero]
              exact ⟨fun _ => ⟨ib, fun _ => foundW u _ _ hf, fun z => absurd hge z⟩, fun z => absurd hge z⟩
            | none =>
              rw [hf] at hv
              have hv' : v = (-1 : Int32) := hv
              subst hv'
              have e : num (twS S (clsR S r)) (s + 1) = (fun s' => if s' = s then (num (twS S (clsR S r)) s).2 else (num (twS S (clsR S r)) s).1 s', (num (twS S (clsR S r)) s).2 + 1) := by simp only [num, hf]
              simp only [nI_add, Nat.add_zero]
              refine ⟨fun z => absurd z m1_neg, fun _ => ⟨ib, fun z => absurd z m1_neg, fun _ => wr _ _ _ _ _ rfl ?_ (by rw [e])⟩⟩
              rw [e]
              show _ = (if s = s then _ else _)
              rw [if_pos rfl]
          · intro t ht iht v hv
            refine W2_st (bX12_findClasses_38 mc _ _ _ _ _ ?_)
            rw [nI_leI (by omega) (by omega), nI_clamp (n := s) (by omega), nI_clamp (n := t) (by omega)]
            refine ⟨fun z => by omega, fun _ => ?_⟩
            cases hf : fstT (twS S (clsR S r) s) t with
            | some u =>
              rw [hf] at hv
              have hu := fstT_some hf
              have := nlt u (by omega)
              have hge : (0 : Int32) ≤ nI ((num (twS S (clsR S r)) s).1 u) := nI_pos' (by omega)
              have hv' : v = nI ((num (twS S (clsR S r)) s).1 u) := hv
              subst hv'
              have hfs : ∀ k, t ≤ k → fstT (twS S (clsR S r) s) k = some u := by
                intro k hk
                induction k with
                | zero => rw [show t = 0 by omega] at hf; exact hf
                | succ k ihk =>
                  rcases Nat.lt_or_ge t (k + 1) with z | z
                  · simp only [fstT]; rw [ihk (by omega)]
                  · rw [show k + 1 = t by omega]; exact hf
              simp only [nI_add, Nat.add_zero]
              exact ⟨fun _ => ⟨fun _ => ⟨ib, fun _ => foundW u _ _ (hfs s (by omega)), fun z => absurd hge z⟩, fun z => absurd hge z⟩, fun z => absurd hge z⟩
            | none =>
              rw [hf] at hv
              have hv' : v = (-1 : Int32) := hv
              subst hv'
              have hct := g2 t (by omega)
              have hcs := g2 s hs
              have lt1 := cls_lt hw r t (by omega)
              have lt2 := cls_lt hw r s hs
              have hc10 : ∀ s, s < sN S → mc.1 64 0 s = nI (clsR S r s) ∧ clsR S r s < 10 := fun s hs => ⟨g2 s hs, cls_lt hw r s hs⟩
              rw [hct, hcs, nI_eq (by omega) (by omega)]
              simp only [nI_add]
              have step : ∀ b, twS S (clsR S r) s t = b → fstT (twS S (clsR S r) s) (t + 1) = (match b with | true => some t | false => none) := by
                intro b hb
                simp only [fstT]
                rw [hf, hb] <;> cases b <;> rfl
              have no : twS S (clsR S r) s t = false → (W2 xs (callW2 xs (d + 3)) tX12_findClasses [2, 23, 30, 38, 92] (some .int) Q 38 [some (vR 40 0), some (vI (nI (num (twS S (clsR S r)) s).2)), some (vI (nI r)), some (vI (nI s)), some (vI ((-1 : Int32))), some (vI (nI (t + 1)))] [] (mc)) := by
                intro hb
                refine iht _ ?_
                rw [step false hb]
              refine ⟨fun z => absurd z m1_neg, fun _ => ⟨ib, inb_nI (by omega) (by omega), fun hne => no ?_, fun he => r_hasAll hRc hw hs (by omega) hc10 ⟨_, rfl, fun h1 => no ?_, fun h1 => r_hasAll hRc hw (by omega) hs hc10 ⟨_, rfl, fun h2 => no ?_, fun h2 => ⟨inb_nI (by omega) (by omega), ?_⟩⟩⟩⟩⟩
              · unfold twS; rw [decide_eq_false hne]; rfl
              · rw [bI_0] at h1; unfold twS; rw [h1]; simp
              · rw [bI_0] at h2; unfold twS; rw [h2]; simp
              · rw [bI_0, Bool.not_eq_false] at h1 h2
                have hb : twS S (clsR S r) s t = true := tw_iff.mpr ⟨he, h1, h2⟩
                refine iht _ ?_
                rw [step true hb, g3 t ht]
      exact row 0 (Nat.zero_le _) mc _ _ g1 g2 (fun t ht => by omega)
  have init : ∀ s, s ≤ sN S → ∀ mc, offI (fun t j => (t = 64 ∨ t = 65) ∧ j = 0) m mc → (∀ t, t < s → mc.1 64 0 t = nI (clsR S 0 t)) → (W2 xs (callW2 xs (d + 3)) tX12_findClasses [2, 23, 30, 38, 92] (some .int) Q 2 [some (vR 40 0), some (vI (nI s)), none, none, none, none] [] (mc)) := by
    refine upto (sN S) ?_ ?_
    · intro mc g1 g2
      refine W2_st (bX12_findClasses_2 mc _ ?_)
      rw [rm_n (rm mc g1), nI_leI (by omega) (by omega)]
      exact ⟨fun _ => rnd 0 (Nat.zero_le _) mc none none none g1 g2, fun z => absurd (Nat.le_refl _) z⟩
    · intro s hs ih mc g1 g2
      refine W2_st (bX12_findClasses_2 mc _ ?_)
      rw [rm_n (rm mc g1), nI_leI (by omega) (by omega), nI_clamp (by omega)]
      simp only [nI_add]
      refine ⟨fun z => by omega, fun _ => r_isMarked (rm mc g1) hw (by omega) ⟨_, rfl, ?_⟩⟩
      rw [bI_0]
      have nxt : ∀ v, v = clsR S 0 s → (W2 xs (callW2 xs (d + 3)) tX12_findClasses [2, 23, 30, 38, 92] (some .int) Q 2 [some (vR 40 0), some (vI (nI (s + 1))), none, none, none, none] [] (mI mc 64 0 s (nI v))) := by
        intro v hv
        refine ih _ (offI_I g1 _ _ ⟨Or.inl rfl, rfl⟩) (fun t ht => ?_)
        rw [mI_r]
        by_cases hts : t = s
        · rw [if_pos ⟨rfl, rfl, hts⟩, hv, hts]
        · rw [if_neg (fun z => hts z.2.2)]; exact g2 t (by omega)
      refine ⟨fun hb => ⟨inb_nI (by omega) (by omega), nxt _ ?_⟩, fun hb => ⟨inb_nI (by omega) (by omega), nxt _ ?_⟩⟩
      · simp only [clsR]; rw [hb]; rfl
      · rw [Bool.not_eq_false] at hb; simp only [clsR]; rw [hb]; rfl
  exact init 0 (Nat.zero_le _) m (offI_rfl _ _) (fun t ht => by omega)
end L82
