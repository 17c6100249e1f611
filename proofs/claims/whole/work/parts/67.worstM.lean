/-! CONTRACTS (15): the reference's worst() (wip/whole/src/67.worstM.src) -/
section L67
variable {xs : Nat × (Nat → Int32)} {d : Nat} {Q : Option v2 → Mem → Prop} {m : Mem} {S : Sys}
theorem worC_mono {B G : Nat} {l : Bool} {c0 : Nat → Nat} {s : Nat} {u v : Int} {cov cov' : (Nat → Nat) → Prop} (h : worC S B G l c0 s u v cov) (hc : ∀ x, pol S B x → agr S B false x c0 → cov' x → cov x) : worC S B G l c0 s u v cov' := ⟨h.1, h.2.1, h.2.2.1, h.2.2.2.1, h.2.2.2.2.1, fun x W E h1 h2 h3 h4 => h.2.2.2.2.2 x W E h1 h2 (hc x h1 h2 h3) h4⟩
theorem mul25 {a b : Int} (ha : a.natAbs ≤ 2 ^ 25) (hb : b.natAbs ≤ 2 ^ 25) : (a * b).natAbs < 2 ^ 62 := by
  rw [Int.natAbs_mul]
  exact Nat.lt_of_le_of_lt (Nat.mul_le_mul ha hb) (by decide)
theorem r_worst {B G : Nat} {c0 : Nat → Nat} {l : Bool} (hR : RM m S) (hw : wf S) (hf : full S) (hch : ∀ s, s < sN S → m.1 48 0 s = nI (c0 s)) (hc : pol S B c0) (h00 : ∀ s, B.testBit s = true → foeS S s = true → c0 s = 0) (hB5 : cntB B ≤ 5) (hG : sub_n G (sN S)) (hd : ∀ s, G.testBit s = true → B.testBit s = false) (hQ : ∀ m' (c' : Nat → Nat), fvM m m' → m'.2 54 0 = m.2 54 0 → m'.2 55 0 = m.2 55 0 → (∀ s, s < sN S → m'.1 48 0 s = nI (c' s)) → (∀ s, B.testBit s = true → c' s = c0 s) → (∀ s, s < sN S → ∃ u v, m'.2 56 0 s = lI u ∧ m'.2 57 0 s = lI v ∧ worC S B G l c0 s u v (fun _ => True)) → Q none m') : callW2 xs (d + 4) 144 [vR 40 0, vI (nI B), vI (nI G), vI (bI l)] m Q := by
  have h3 := wf_n hw
  have hBn : sub_n B (sN S) := fun s hs => (hc s hs).1
  have hB10 := sub_lt hBn h3
  have hG10 := sub_lt hG h3
  have hA4 : ∀ t, t < sN S → nxF S B true t = true → sA S t ≤ 4 := fun t ht _ => wf_a hw ht
  refine eX12_worst m _ _ _ (W2_st (bX12_worst_0 m _ _ _ ?_))
  have key : ∀ N (c : Nat → Nat) (first : Bool) mc o6 o7, wsum (sA S) (nxF S B true) c (sN S) ≤ N → fvM m mc → mc.2 54 0 = m.2 54 0 → mc.2 55 0 = m.2 55 0 → (∀ s, s < sN S → mc.1 48 0 s = nI (c s)) → pol S B c → agr S B false c c0 → (first = true → ∀ s, B.testBit s = true → foeS S s = true → c s = 0) → (first = false → ∀ s, s < sN S → ∃ u v, mc.2 56 0 s = lI u ∧ mc.2 57 0 s = lI v ∧ worC S B G l c0 s u v (fun x => bef (sN S) (nxF S B true) x c)) → (W2 xs (callW2 xs (d + 3)) tX12_worst [4, 12] none Q 4 [some (vR 40 0), some (vI (nI B)), some (vI (nI G)), some (vI (bI l)), some (vI (bI first)), some (vI (nI 1)), (o6), (o7)] [] (mc)) := by
    intro N
    induction N using Nat.strongRecOn with
    | _ N ihN =>
      intro c first mc o6 o7 hN g1 g54 g55 gch gp ga gf gw
      refine W2_st (bX12_worst_4 mc _ _ _ _ _ _ _ ⟨fun z => absurd z (by decide), fun _ => ?_⟩)
      refine r_chances (RM_fv g1 hR) hw hf gch gp hB5 hG hd (fun m2 W E e1 e2 e3 => ⟨rfl, ?_⟩)
      have k2 : fvM m m2 := fvM_trans g1 (fvM_ch e1)
      have x56 : m2.2 56 0 = mc.2 56 0 := (e1.1 56 0 (by unfold tCh; omega)).2
      have x57 : m2.2 57 0 = mc.2 57 0 := (e1.1 57 0 (by unfold tCh; omega)).2
      have x54 : m2.2 54 0 = m.2 54 0 := (e1.1 54 0 (by unfold tCh; omega)).2.trans g54
      have x55 : m2.2 55 0 = m.2 55 0 := (e1.1 55 0 (by unfold tCh; omega)).2.trans g55
      have x48 : ∀ s, s < sN S → m2.1 48 0 s = nI (c s) := fun s hs => by rw [ch_48 e1]; exact gch s hs
      -- all that were before, and c itself
      have hcov : ∀ x, pol S B x → agr S B false x c0 → (bef (sN S) (nxF S B true) x c ∨ sam (sN S) (nxF S B true) x c) → bef (sN S) (nxF S B true) x c ∨ ∀ t, B.testBit t = true → x t = c t := by
        intro x hx hxa h
        rcases h with h | h
        · exact Or.inl h
        · refine Or.inr (fun t ht => ?_)
          cases hft : foeS S t with
          | true => exact h t (hx t ht).1 (nxF_iff.mpr ⟨ht, hft⟩)
          | false => rw [hxa t ht hft, ga t ht hft]
      have hnob : first = true → ∀ x, ¬ bef (sN S) (nxF S B true) x c := by
        intro h1 x h2
        obtain ⟨s, q1, q2, q3, q4⟩ := h2
        have q5 := nxF_iff.mp q2
        have := gf h1 s q5.1 q5.2
        omega
      have inner : ∀ k, k ≤ sN S → ∀ m3 o7, fvM m m3 → m3.1 = m2.1 → m3.2 52 0 = m2.2 52 0 → m3.2 53 0 = m2.2 53 0 → m3.2 54 0 = m.2 54 0 → m3.2 55 0 = m.2 55 0 → (∀ t, k ≤ t → m3.2 56 0 t = mc.2 56 0 t ∧ m3.2 57 0 t = mc.2 57 0 t) → (∀ t, t < k → ∃ u v, m3.2 56 0 t = lI u ∧ m3.2 57 0 t = lI v ∧ worC S B G l c0 t u v (fun x => bef (sN S) (nxF S B true) x c ∨ sam (sN S) (nxF S B true) x c)) → (W2 xs (callW2 xs (d + 3)) tX12_worst [4, 12] none Q 12 [some (vR 40 0), some (vI (nI B)), some (vI (nI G)), some (vI (bI l)), some (vI (bI first)), some (vI (nI 1)), some (vI (nI k)), (o7)] [] (m3)) := by
        refine upto (sN S) ?_ ?_
        · intro m3 o7 f1 f2 f3 f4 f5 f6 f7 f8
          have hR3 := RM_fv f1 hR
          have y48 : ∀ s, s < sN S → m3.1 48 0 s = nI (c s) := fun s hs => by rw [f2]; exact x48 s hs
          refine W2_st (bX12_worst_12 m3 _ _ _ _ _ _ _ ?_)
          rw [rm_n hR3, nI_leI (by omega) (by omega)]
          refine ⟨fun _ => ?_, fun z => absurd (Nat.le_refl _) z⟩
          refine r_nextChoice (f := true) hR3 hw y48 gp (fun b c' m4 n1 n2 n3 => ⟨_, rfl, ?_⟩)
          have k4 : fvM m m4 := fvM_48 f1 n1
          have z54 : m4.2 54 0 = m.2 54 0 := by rw [n1.2]; exact f5
          have z55 : m4.2 55 0 = m.2 55 0 := by rw [n1.2]; exact f6
          cases b with
          | true =>
            have hlt := wsum_nxt hA4 n3
            obtain ⟨s0, p1, p2, p3, p4, p5, p6⟩ := id n3
            have p2' := nxF_iff.mp p2
            refine ihN (wsum (sA S) (nxF S B true) c' (sN S)) (by omega) c' false m4 _ _ (Nat.le_refl _) k4 z54 z55 n2 (fun s hs => ⟨(gp s hs).1, ?_⟩) (fun s hs hft => ?_) (fun z => by cases z) (fun _ s hs => ?_)
            · have hsn := (gp s hs).1
              have hcs := (gp s hs).2
              cases hF : nxF S B true s with
              | false => rw [p6 s (Or.inl hF)]; exact hcs
              | true =>
                rcases Nat.lt_or_ge s s0 with q | q
                · rw [(p5 s q hF).2]; omega
                · rcases Nat.lt_or_ge s0 s with q2 | q2
                  · rw [p6 s (Or.inr q2)]; exact hcs
                  · have e : s = s0 := by omega
                    rw [e, p3]; exact p4
            · rw [p6 s (Or.inl (by unfold nxF; rw [hs, hft]; rfl))]
              exact ga s hs hft
            · obtain ⟨u, v, r1, r2, r3⟩ := f8 s hs
              refine ⟨u, v, by rw [n1.2]; exact r1, by rw [n1.2]; exact r2, worC_mono r3 (fun x hx hxa hb => nxt_t n3 (fun t ht hF => (hx t (nxF_iff.mp hF).1).2) hb)⟩
          | false =>
            refine W2_st (bX12_worst_4 m4 _ _ _ _ _ _ _ ⟨fun _ => ?_, fun z => absurd (by decide) z⟩)
            refine hQ m4 c' k4 z54 z55 n2 (fun s hs => ?_) (fun s hs => ?_)
            · cases hft : foeS S s with
              | true => rw [(n3.1 s (gp s hs).1 (nxF_iff.mpr ⟨hs, hft⟩)).2, h00 s hs hft]
              | false => rw [n3.2 s (by unfold nxF; rw [hs, hft]; rfl), ga s hs hft]
            · obtain ⟨u, v, r1, r2, r3⟩ := f8 s hs
              exact ⟨u, v, by rw [n1.2]; exact r1, by rw [n1.2]; exact r2, worC_mono r3 (fun x hx hxa _ => nxt_f n3 (fun t ht hF => (hx t (nxF_iff.mp hF).1).2))⟩
        · intro k hk ih m3 o7 f1 f2 f3 f4 f5 f6 f7 f8
          have hR3 := RM_fv f1 hR
          obtain ⟨u, v, v1, v2, v3, v4, v5⟩ := e3 k hk
          have y52 : m3.2 52 0 k = lI u := by rw [f3]; exact v1
          have y53 : m3.2 53 0 k = lI v := by rw [f4]; exact v2
          have y56 := (f7 k (Nat.le_refl _)).1
          have y57 := (f7 k (Nat.le_refl _)).2
          have e57 : (mL m3 56 0 k (lI u)).2 53 0 k = lI v := by rw [mL_r, if_neg (by omega)]; exact y53
          -- the new one is taken
          have take : ∀ o7, worC S B G l c0 k u v (fun x => bef (sN S) (nxF S B true) x c ∨ sam (sN S) (nxF S B true) x c) → (W2 xs (callW2 xs (d + 3)) tX12_worst [4, 12] none Q 12 [some (vR 40 0), some (vI (nI B)), some (vI (nI G)), some (vI (bI l)), some (vI (bI first)), some (vI (nI 1)), some (vI (nI (k + 1))), (o7)] [] (mL (mL m3 56 0 k (m3.2 52 0 k)) 57 0 k ((mL m3 56 0 k (m3.2 52 0 k)).2 53 0 k))) := by
            intro o7 hwc
            rw [y52, e57]
            refine ih _ _ (fvM_L (fvM_L f1 56 _ _ (by omega)) 57 _ _ (by omega)) f2 (by funext t; rw [mL_r, if_neg (by omega), mL_r, if_neg (by omega), f3]) (by funext t; rw [mL_r, if_neg (by omega), mL_r, if_neg (by omega), f4]) (by funext t; rw [mL_r, if_neg (by omega), mL_r, if_neg (by omega), f5]) (by funext t; rw [mL_r, if_neg (by omega), mL_r, if_neg (by omega), f6]) (fun t ht => ?_) (fun t ht => ?_)
            · rw [mL_r, if_neg (by omega), mL_r, if_neg (by omega), mL_r, if_neg (by omega), mL_r, if_neg (by omega)]
              exact f7 t (by omega)
            · by_cases htk : t = k
              · refine ⟨u, v, ?_, ?_, by rw [htk]; exact hwc⟩
                · rw [mL_r, if_neg (by omega), mL_r, if_pos ⟨rfl, rfl, htk⟩]
                · rw [mL_r, if_pos ⟨rfl, rfl, htk⟩]
              · obtain ⟨u', v', r1, r2, r3⟩ := f8 t (by omega)
                refine ⟨u', v', ?_, ?_, r3⟩
                · rw [mL_r, if_neg (by omega), mL_r, if_neg (by omega)]; exact r1
                · rw [mL_r, if_neg (by omega), mL_r, if_neg (by omega)]; exact r2
          have keep : ∀ o7, (∃ wu wv, mc.2 56 0 k = lI wu ∧ mc.2 57 0 k = lI wv ∧ worC S B G l c0 k wu wv (fun x => bef (sN S) (nxF S B true) x c ∨ sam (sN S) (nxF S B true) x c)) → (W2 xs (callW2 xs (d + 3)) tX12_worst [4, 12] none Q 12 [some (vR 40 0), some (vI (nI B)), some (vI (nI G)), some (vI (bI l)), some (vI (bI first)), some (vI (nI 1)), some (vI (nI (k + 1))), (o7)] [] (m3)) := by
            intro o7 hwc
            refine ih _ _ f1 f2 f3 f4 f5 f6 (fun t ht => f7 t (by omega)) (fun t ht => ?_)
            by_cases htk : t = k
            · subst htk
              obtain ⟨wu, wv, r1, r2, r3⟩ := hwc
              exact ⟨wu, wv, y56.trans r1, y57.trans r2, r3⟩
            · exact f8 t (by omega)
          refine W2_st (bX12_worst_12 m3 _ _ _ _ _ _ _ ?_)
          rw [rm_n hR3, nI_leI (by omega) (by omega), nI_clamp (by omega), nI_add, y52, y53, bI_0, bI_0]
          have ib : inb (nI k) 10 := inb_nI (by omega) (by omega)
          cases first with
          | true =>
            have hnew : worC S B G l c0 k u v (fun x => bef (sN S) (nxF S B true) x c ∨ sam (sN S) (nxF S B true) x c) := worC_new hw hf hk gp ga e2 v3 v4 v5 (fun x => bef (sN S) (nxF S B true) x c) _ hcov (fun x _ _ _ _ hb _ => absurd hb (hnob rfl x))
            refine ⟨fun z => by omega, fun _ => ⟨fun _ => ⟨ib, ib, ib, ib, ?_⟩, fun _ => ⟨ib, ib, ib, ib, ?_⟩⟩⟩
            · refine r_isBelowAny _ _ _ _ (fun b => ⟨_, rfl, fun _ => ⟨ib, ib, ib, ib, ?_⟩, fun z => by cases z⟩)
              exact take _ hnew
            · refine r_isBelowAny _ _ _ _ (fun b => ⟨_, rfl, fun _ => ⟨ib, ib, ib, ib, ?_⟩, fun z => by cases z⟩)
              exact take _ hnew
          | false =>
            obtain ⟨wu, wv, r1, r2, r3⟩ := gw rfl k hk
            have hwv := r3.1
            have b1 := r3.2.2.1
            have b2 := r3.2.2.2.1
            rw [y56, y57, r1, r2]
            have hnew : cmpl l (u * wv) (wu * v) → worC S B G l c0 k u v (fun x => bef (sN S) (nxF S B true) x c ∨ sam (sN S) (nxF S B true) x c) := by
              intro hcm
              refine worC_new hw hf hk gp ga e2 v3 v4 v5 (fun x => bef (sN S) (nxF S B true) x c) _ hcov (fun x W' E' hx hxa hb hxch => ?_)
              have h9 := r3.2.2.2.2.2 x W' E' hx hxa hb hxch
              have nE' := Int.le_of_lt hxch.1
              have nv := Int.le_of_lt v3.1
              cases l with
              | false => exact fr_trans nv hwv nE' hcm h9
              | true => exact fr_trans nE' hwv nv h9 hcm
            have hkeep : cmpl l (wu * v) (u * wv) → ∃ wu wv, mc.2 56 0 k = lI wu ∧ mc.2 57 0 k = lI wv ∧ worC S B G l c0 k wu wv (fun x => bef (sN S) (nxF S B true) x c ∨ sam (sN S) (nxF S B true) x c) := fun hcm => ⟨wu, wv, r1, r2, worC_keep hw hf hk gp e2 v3 _ _ hcov r3 hcm⟩
            refine ⟨fun z => by omega, fun _ => ⟨fun hl => ⟨ib, ib, ib, ib, ?_⟩, fun hl => ⟨ib, ib, ib, ib, ?_⟩⟩⟩
            · subst hl
              refine r_isBelow u v wu wv (mul25 v4 b2) (mul25 b1 v5) ⟨_, rfl, fun z => absurd rfl z, fun _ => ?_⟩
              rw [bI_0, decide_eq_false_iff_not]
              refine ⟨fun h => keep _ (hkeep (show wu * v ≤ u * wv by omega)), fun h => ⟨ib, ib, ib, ib, take _ (hnew (show u * wv ≤ wu * v by omega))⟩⟩
            · rw [Bool.not_eq_false] at hl
              subst hl
              refine r_isBelow wu wv u v (mul25 b1 v5) (mul25 v4 b2) ⟨_, rfl, fun z => absurd rfl z, fun _ => ?_⟩
              rw [bI_0, decide_eq_false_iff_not]
              refine ⟨fun h => keep _ (hkeep (show u * wv ≤ wu * v by omega)), fun h => ⟨ib, ib, ib, ib, take _ (hnew (show wu * v ≤ u * wv by omega))⟩⟩
      exact inner 0 (Nat.zero_le _) m2 _ k2 rfl rfl rfl x54 x55 (fun t _ => by rw [x56, x57]; exact ⟨rfl, rfl⟩) (fun t ht => by omega)
  exact key _ c0 true m none none (Nat.le_refl _) (fvM_rfl m) rfl rfl hch hc (fun _ _ _ => rfl) (fun _ => h00) (fun z => by cases z)
end L67
