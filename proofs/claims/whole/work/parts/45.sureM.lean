/-! CONTRACTS (4): what is sure and what can't be: the reference (wip/whole/src/45.sureM.src) -/
section L45
variable {xs : Nat × (Nat → Int32)} {d : Nat} {Q : Option v2 → Mem → Prop} {m : Mem} {S : Sys}
theorem r_leads (hR : RM m S) (hw : wf S) {s : Nat} (hs : s < sN S) {f z : Nat} (hf : f < 2 ^ 31) (hz : z < 2 ^ 31) (l : Bool) (hQ : Q (some (vI (bI (leadS S l f z s)))) m) : callW2 xs (d + 3) 129 [vR 40 0, vI (nI s), vI (nI f), vI (nI z), vI (bI l)] m Q := by
  have h3 := wf_n hw
  have h4 := wf_a hw hs
  refine eX12_leads m _ _ _ _ (W2_st (bX12_leads_0 m _ _ _ _ ?_))
  have key : ∀ a, a ≤ sA S s → ∀ o8, (W2 xs (callW2 xs (d + 2)) tX12_leads [13] (some .boolean) Q 13 [some (vR 40 0), some (vI (nI s)), some (vI (nI f)), some (vI (nI z)), some (vI (bI l)), some (vI (bI (anyU (fun a => leadA S f z (4 * s + a)) a))), some (vI (bI (decide (0 < sA S s) && allU (fun a => leadA S f z (4 * s + a)) a))), some (vI (nI a)), (o8)] [] (m)) := by
    refine upto (sA S s) ?_ ?_
    · intro o8
      refine W2_st (bX12_leads_13 m _ _ _ _ _ _ _ _ ?_)
      simp (disch := omega) only [rm_a hR hs, nI_leI, nI_clamp, inb_iff]
      refine ⟨by omega, fun _ => r_wants hR hw hs l ⟨_, rfl, ?_⟩, fun z => absurd (Nat.le_refl _) z⟩
      unfold leadS at hQ
      cases hwt : wantS S l s with
      | true => rw [hwt] at hQ; exact ⟨fun z => absurd z (by decide), fun _ => ⟨(isB_bI _).mpr trivial, hQ⟩⟩
      | false => rw [hwt] at hQ; exact ⟨fun _ => ⟨(isB_bI _).mpr trivial, hQ⟩, fun z => absurd rfl z⟩
    · intro a ha ih o8
      refine W2_st (bX12_leads_13 m _ _ _ _ _ _ _ _ ?_)
      have hx := isA_mk hs ha (by omega)
      simp (disch := omega) only [rm_a hR hs, nI_leI, nI_clamp, inb_iff, pk_mul, nI_add, bI_0, nI_00, nI_10, e01, e10, not_true_eq_false, not_false_eq_true, imp_false0, true_imp, false_imp, true_and, and_true, Bool.not_eq_false]
      refine ⟨by omega, fun z => by omega, fun _ => r_allIn hR hw hx hf ⟨_, rfl, ?_⟩⟩
      simp only [anyU, allU] at ih
      rw [decide_eq_true (show 0 < sA S s by omega), Bool.true_and] at ih ⊢
      cases hA : allInS S (4 * s + a) f with
      | false =>
        have eL : leadA S f z (4 * s + a) = false := by unfold leadA; rw [hA]; rfl
        simp only [eL, Bool.or_false, Bool.and_false] at ih
        simp only [bI_0, reduceCtorEq, not_true_eq_false, not_false_eq_true, imp_false0, true_imp, false_imp, and_true, true_and, Bool.not_eq_false]
        refine ⟨fun h5 => ⟨fun h6 => ?_, fun h6 => ?_⟩, fun h5 => ⟨fun h6 => ?_, fun h6 => ?_⟩⟩ <;> (have := ih (some (vI (nI 0))); simp only [h5] at this; exact this)
      | true =>
        simp only [bI_0, reduceCtorEq, not_true_eq_false, not_false_eq_true, imp_false0, true_imp, false_imp, and_true, true_and, Bool.not_eq_false]
        refine r_someIn hR hw hx hz ⟨_, rfl, ?_⟩
        cases hB : someInS S (4 * s + a) z with
        | false =>
          have eL : leadA S f z (4 * s + a) = false := by unfold leadA; rw [hA, hB]; rfl
          simp only [eL, Bool.and_false, Bool.or_false] at ih
          simp only [bI_0, reduceCtorEq, not_true_eq_false, not_false_eq_true, imp_false0, true_imp, false_imp, and_true, true_and, Bool.not_eq_false]
          refine ⟨fun h5 => ⟨fun h6 => ?_, fun h6 => ?_⟩, fun h5 => ⟨fun h6 => ?_, fun h6 => ?_⟩⟩ <;> (have := ih (some (vI (nI 0))); simp only [h5] at this; exact this)
        | true =>
          have eL : leadA S f z (4 * s + a) = true := by unfold leadA; rw [hA, hB]; rfl
          simp only [eL, Bool.and_true, Bool.or_true] at ih
          simp only [bI_0, reduceCtorEq, not_true_eq_false, not_false_eq_true, imp_false0, true_imp, false_imp, and_true, true_and, Bool.not_eq_false]
          refine ⟨fun h5 => ⟨fun h6 => ?_, fun h6 => ?_⟩, fun h5 => ⟨fun h6 => ?_, fun h6 => ?_⟩⟩ <;> (have := ih (some (vI (nI 1))); simp only [h6] at this; exact this)
  rw [rm_a hR]
  all_goals first
    | (simp (disch := omega) only [nI_clamp, inb_iff, z_le]
       refine ⟨by omega, fun h => ?_, fun h => ?_⟩
       · have := key 0 (Nat.zero_le _) none
         simp only [anyU, allU, decide_eq_false (show ¬ 0 < sA S s by omega)] at this
         exact this
       · have := key 0 (Nat.zero_le _) none
         simp only [anyU, allU, decide_eq_true (show 0 < sA S s by omega)] at this
         exact this)
    | (rw [nI_clamp (by omega)]; exact hs)
/-- comes(stay, least) -/
def isCo (S : Sys) (l : Bool) (f y : Nat) : Prop := bsub y f ∧ sub_n y (sN S) ∧ bsub (sM S &&& f) y ∧ (∀ s, s < sN S → f.testBit s = true → leadS S l f y s = true → y.testBit s = true) ∧ ∀ z, bsub (sM S &&& f) z → (∀ s, s < sN S → f.testBit s = true → leadS S l f z s = true → z.testBit s = true) → bsub y z
theorem r_comes (hR : RM m S) (hw : wf S) {f : Nat} (hf : f < 1024) (l : Bool) (hQ : ∀ y, isCo S l f y → Q (some (vI (nI y))) m) : callW2 xs (d + 4) 130 [vR 40 0, vI (nI f), vI (bI l)] m Q := by
  have h3 := wf_n hw
  have hM := wf_m hw
  refine eX12_comes m _ _ (W2_st (bX12_comes_0 m _ _ ?_))
  rw [rm_m hR, nI_and]
  let g : Nat → Nat → Bool := fun z k => f.testBit k && leadS S l f z k
  have hg : ∀ z z' k, bsub z z' → g z k = true → g z' k = true := by
    intro z z' k hz h
    show (f.testBit k && leadS S l f z' k) = true
    rw [show g z k = (f.testBit k && leadS S l f z k) from rfl, Bool.and_eq_true] at h
    rw [h.1, leadS_mono (bsub_rfl _) hz h.2]
    rfl
  have key : ∀ N y o5 o6, y + N = 1024 → bsub y f → sub_n y (sN S) → bsub (sM S &&& f) y → (∀ z, bsub (sM S &&& f) z → (∀ s, s < sN S → f.testBit s = true → leadS S l f z s = true → z.testBit s = true) → bsub y z) → (W2 xs (callW2 xs (d + 3)) tX12_comes [7, 13] (some .int) Q 7 [some (vR 40 0), some (vI (nI f)), some (vI (bI l)), some (vI (nI y)), some (vI (nI 1)), (o5), (o6)] [] (m)) := by
    intro N
    induction N using Nat.strongRecOn with
    | _ N ihN =>
      intro y o5 o6 hyN hyf hyn hyM hymin
      refine W2_st (bX12_comes_7 m _ _ _ _ _ _ ?_)
      refine ⟨fun z => absurd z (by decide), fun _ => ?_⟩
      have hy10 := sub_lt hyn h3
      refine upto (P := fun k => (W2 xs (callW2 xs (d + 3)) tX12_comes [7, 13] (some .int) Q 13 [some (vR 40 0), some (vI (nI f)), some (vI (bI l)), some (vI (nI (passU g y k))), some (vI (nI 1)), some (vI (nI y)), some (vI (nI k))] [] (m))) (sN S) ?_ ?_ 0 (Nat.zero_le _)
      · have hpn : sub_n (passU g y (sN S)) (sN S) := passU_subn hyn (Nat.le_refl _)
        have hp10 := sub_lt hpn h3
        refine W2_st (bX12_comes_13 m _ _ _ _ _ _ ?_)
        rw [rm_n hR, nI_leI (by omega) (by omega), nI_eq (by omega) (by omega)]
        refine ⟨fun _ => ⟨fun he => ?_, fun hne => ?_⟩, fun z => absurd (Nat.le_refl _) z⟩
        · rw [he]
          refine W2_st (bX12_comes_7 m _ _ _ _ _ _ ⟨fun _ => ?_, fun z => absurd (by decide) z⟩)
          refine hQ y ⟨hyf, hyn, hyM, fun s hs h1 h2 => ?_, hymin⟩
          exact passU_fix he s hs (by show (f.testBit s && leadS S l f y s) = true; rw [h1, h2]; rfl)
        · have hsub : bsub y (passU g y (sN S)) := passU_mono (k := 0) (Nat.zero_le _)
          have hlt : y < passU g y (sN S) := Nat.lt_of_le_of_ne (bsub_le hsub) (Ne.symm hne)
          refine ihN (1024 - passU g y (sN S)) (by omega) _ _ _ (by omega) ?_ hpn (bsub_trans hyM hsub) (fun z h1 h2 => ?_)
          · refine passU_min hyf (fun w k _ _ h => ?_)
            rw [show g w k = (f.testBit k && leadS S l f w k) from rfl, Bool.and_eq_true] at h
            exact h.1
          · refine passU_min (hymin z h1 h2) (fun w k hk hwz h => ?_)
            have h5 := hg w z k hwz h
            rw [show g z k = (f.testBit k && leadS S l f z k) from rfl, Bool.and_eq_true] at h5
            exact h2 k hk h5.1 h5.2
      · intro k hk ih
        have hpn : sub_n (passU g y k) (sN S) := passU_subn hyn (by omega)
        have hp10 := sub_lt hpn h3
        refine W2_st (bX12_comes_13 m _ _ _ _ _ _ ?_)
        rw [rm_n hR, nI_leI (by omega) (by omega), shr_bit (by omega) (by omega), bI_1]
        rw [show (W2 xs (callW2 xs (d + 3)) tX12_comes [7, 13] (some .int) Q 13 [some (vR 40 0), some (vI (nI f)), some (vI (bI l)), some (vI (nI (passU g y (k + 1)))), some (vI (nI 1)), some (vI (nI y)), some (vI (nI (k + 1)))] [] (m)) = (W2 xs (callW2 xs (d + 3)) tX12_comes [7, 13] (some .int) Q 13 [some (vR 40 0), some (vI (nI f)), some (vI (bI l)), some (vI (nI (passU g y (k + 1)))), some (vI (nI 1)), some (vI (nI y)), some (vI (nI k + nI 1))] [] (m)) by rw [nI_add]] at ih
        rw [passU_succ] at ih
        refine ⟨fun z => by omega, fun _ => ⟨fun hb => ?_, fun hb => ?_⟩⟩
        · rw [if_neg (by show ¬ (f.testBit k && leadS S l f (passU g y k) k) = true; rw [Bool.and_eq_true]; exact fun z => hb z.1)] at ih
          exact ih
        · refine r_leads hR hw hk (by omega) (by omega) l ⟨_, rfl, ?_⟩
          rw [bI_0, one_shl (by omega), nI_or]
          refine ⟨fun hl => ?_, fun hl => ?_⟩
          · rw [if_neg (by show ¬ (f.testBit k && leadS S l f (passU g y k) k) = true; rw [hl]; simp)] at ih
            exact ih
          · rw [if_pos (by show (f.testBit k && leadS S l f (passU g y k) k) = true; rw [Bool.not_eq_false] at hl; rw [hl, hb]; rfl)] at ih
            exact ih
  have hlt : sM S &&& f < 1024 := and_lt hM
  exact key (1024 - (sM S &&& f)) _ _ _ (by omega) (bsub_and_r _ _) (sub_n_of (bsub_and_l _ _) hw.2.1) (bsub_rfl _) (fun z h1 _ => h1)
theorem isCo_G (hw : wf S) {l : Bool} {x y : Nat} (hM : bsub (sM S) x) (hcl : ∀ s, s < sN S → leadS S l x x s = true → x.testBit s = true) (h : isCo S l x y) : isG S l x y := by
  obtain ⟨h1, h2, h3, h4, h5⟩ := h
  have hMM : sM S &&& x = sM S := bsub_anti (bsub_and_l _ _) (fun i q => by rw [Nat.testBit_and, q, hM i q]; rfl)
  rw [hMM] at h3 h5
  refine ⟨h2, h3, fun s hs q => h4 s hs (hcl s hs (leadS_mono (bsub_rfl _) h1 q)) q, fun z hz1 hz2 => h5 z hz1 (fun s hs _ q => hz2 s hs q)⟩
theorem full_cl (hw : wf S) {l : Bool} {b : Nat} : ∀ s, s < sN S → leadS S l b (fullB (sN S)) s = true → (fullB (sN S)).testBit s = true := fun s hs _ => by rw [fullB_bit]; exact decide_eq_true hs
theorem r_above (hR : RM m S) (hw : wf S) (l : Bool) (hQ : ∀ y, isG S l (fullB (sN S)) y → Q (some (vI (nI y))) m) : callW2 xs (d + 5) 132 [vR 40 0, vI (bI l)] m Q := by
  refine eX12_above m _ (W2_st (bX12_above_0 m _ (r_all hR hw ⟨_, rfl, ?_⟩)))
  refine r_comes hR hw (fullB_lt (wf_n hw)) l (fun y hy => ⟨_, rfl, hQ y ?_⟩)
  exact isCo_G hw (sub_n_full.mp hw.2.1) (full_cl hw) hy
theorem r_ones (hR : RM m S) (hw : wf S) (l : Bool) (hQ : ∀ X, isOnes S l X → Q (some (vI (nI X))) m) : callW2 xs (d + 5) 133 [vR 40 0, vI (bI l)] m Q := by
  have h3 := wf_n hw
  have hM := wf_m hw
  refine eX12_ones m _ (W2_st (bX12_ones_0 m _ (r_all hR hw ⟨_, rfl, ?_⟩)))
  have key : ∀ x o4, bsub (sM S) x → sub_n x (sN S) → (∀ s, s < sN S → leadS S l x x s = true → x.testBit s = true) → (∀ Z Y, sub_n Z (sN S) → isG S l Z Y → bsub Z Y → bsub Z x) → (W2 xs (callW2 xs (d + 4)) tX12_ones [5] (some .int) Q 5 [some (vR 40 0), some (vI (bI l)), some (vI (nI x)), some (vI (nI 1)), (o4)] [] (m)) := by
    intro x
    induction x using Nat.strongRecOn with
    | _ x ihx =>
      intro o4 h1 h2 hcl hgr
      have hx10 := sub_lt h2 h3
      have hxM : x ||| sM S = x := bsub_anti (bsub_or (bsub_rfl _) h1) (bsub_l _ _)
      refine W2_st (bX12_ones_5 m _ _ _ _ ⟨fun z => absurd z (by decide), fun _ => ?_⟩)
      rw [rm_m hR, nI_or, hxM]
      refine r_comes hR hw hx10 l (fun y hy => ⟨_, rfl, ?_⟩)
      have hG := isCo_G hw h1 hcl hy
      have hy10 := sub_lt hy.2.1 h3
      rw [nI_eq (by omega) (by omega)]
      refine ⟨fun he => ?_, fun hne => ?_⟩
      · refine W2_st (bX12_ones_5 m _ _ _ _ ⟨fun _ => ?_, fun z => absurd (by decide) z⟩)
        subst he
        exact hQ y ⟨hG, hgr⟩
      · refine ihx y (Nat.lt_of_le_of_ne (bsub_le hy.1) hne) _ hG.2.1 hG.1 (fun s hs q => hG.2.2.1 s hs (leadS_mono hy.1 (bsub_rfl _) q)) (ones_step hgr hG)
  exact key _ _ (sub_n_full.mp hw.2.1) (sub_n_fullB _) (full_cl hw) (fun Z _ hZ _ _ => sub_n_full.mp hZ)
end L45
