/-! CONTRACTS (3): the reference's leaves over a system S (wip/whole/src/44.leafM.src) -/
section L44
variable {xs : Nat × (Nat → Int32)} {d : Nat} {Q : Option v2 → Mem → Prop} {m : Mem} {S : Sys}
theorem l_lt (a b : Int64) : a < b ↔ a.toInt < b.toInt := Int64.lt_iff_toInt_lt
theorem l_le (a b : Int64) : a ≤ b ↔ a.toInt ≤ b.toInt := Int64.le_iff_toInt_le
theorem r_isIn (v : Int32) (a b : Nat) (ha : a < 2 ^ 31) (hb : b < 2 ^ 31) (hQ : Q (some (vI (bI (decide ((a : Int) ≤ v.toInt ∧ v.toInt ≤ b))))) m) : callW2 xs (d + 1) 113 [vL v.toInt64, vL (lN a), vL (lN b)] m Q := by
  refine eX12_isIn m _ _ _ (W2_st (bX12_isIn_0 m _ _ _ ?_))
  rw [lg_cmp_lt, lg_cmp_gt, l_lt, l_lt, lN_toInt ha, lN_toInt hb, Int32.toInt_toInt64]
  refine ⟨fun h => ⟨isB0, ?_⟩, fun h => ret_yQ _ ?_ hQ⟩
  · rw [decide_eq_false (by omega)] at hQ; exact hQ
  · rw [decide_eq_false_iff_not]; omega
theorem r_isState (hR : RM m S) (hw : wf S) (p : Int32) (hQ : Q (some (vI (bI (isSt S p)))) m) : callW2 xs (d + 1) 114 [vR 40 0, vI p] m Q := by
  have h3 := wf_n hw
  refine eX12_isState m _ (W2_st (bX12_isState_0 m _ ?_))
  have h0 : (0 : Int32).toInt = 0 := rfl
  rw [rm_n hR, i_lt, i_le, nI_toInt (by omega), h0]
  unfold isSt at hQ
  refine ⟨fun h => ⟨isB0, ?_⟩, fun h => ret_yQ _ ?_ hQ⟩
  · rw [decide_eq_false (by omega)] at hQ; exact hQ
  · rw [decide_eq_false_iff_not]; omega
theorem r_isAct (hR : RM m S) (hw : wf S) (p q : Int32) (hQ : Q (some (vI (bI (isAc S p q)))) m) : callW2 xs (d + 2) 115 [vR 40 0, vI p, vI q] m Q := by
  refine eX12_isAct m _ _ (W2_st (bX12_isAct_0 m _ _ ?_))
  refine r_isState hR hw p ⟨_, rfl, ?_⟩
  unfold isAc at hQ
  cases h : isSt S p with
  | false =>
    rw [h] at hQ
    exact ⟨fun _ => ⟨isB0, hQ⟩, fun z => absurd rfl z⟩
  | true =>
    rw [h, Bool.true_and] at hQ
    refine ⟨fun z => absurd z (by decide), fun _ => ⟨fun z => ⟨isB0, ?_⟩, fun z => ?_⟩⟩
    · rw [i_lt] at z
      rw [decide_eq_false (by intro y; exact absurd y.1 (by simpa using z))] at hQ
      exact hQ
    · obtain ⟨s, hs, e⟩ := isSt_t hw h
      have h3 := wf_n hw
      have h4 := wf_a hw hs
      subst e
      rw [nI_clamp (by omega)] at hQ ⊢
      rw [rm_a hR hs]
      refine ⟨inb_nI (by omega) (by omega), ret_yQ _ ?_ hQ⟩
      rw [i_le, nI_toInt (by omega), decide_eq_false_iff_not]
      rw [i_lt] at z
      have h0 : (0 : Int32).toInt = 0 := rfl
      rw [h0] at z
      omega
theorem r_isMarked (hR : RM m S) (hw : wf S) {s : Nat} (hs : s < 32) (hQ : Q (some (vI (bI ((sM S).testBit s)))) m) : callW2 xs (d + 1) 116 [vR 40 0, vI (nI s)] m Q := by
  refine eX12_isMarked m _ (W2_st (bX12_isMarked_0 m _ ?_))
  have := wf_m hw
  rw [rm_m hR, shr_bit (by omega) hs]
  exact ret_nQ _ (bI_1 _) hQ
theorem r_isFoe (hR : RM m S) (hw : wf S) {s : Nat} (hs : s < sN S) (hQ : Q (some (vI (bI (foeS S s)))) m) : callW2 xs (d + 1) 117 [vR 40 0, vI (nI s)] m Q := by
  refine eX12_isFoe m _ (W2_st (bX12_isFoe_0 m _ ?_))
  have h3 := wf_n hw
  have h4 := wf_a hw hs
  simp (disch := omega) only [nI_clamp, inb_iff, pk_mul, rm_a hR hs, z_le]
  refine ⟨by omega, fun h => ⟨isB0, ?_⟩, fun h => ⟨by omega, ?_⟩⟩
  · unfold foeS at hQ
    rw [h] at hQ
    exact hQ
  · have hx : isA S (4 * s + 0) := isA_mk hs (by omega) (by omega)
    have hk := rm_k hR hx
    have hk3 := wf_k hw hx
    rw [show 4 * s = 4 * s + 0 from rfl, hk]
    refine ret_nQ _ ?_ hQ
    unfold foeS
    rw [nI_eq (by omega) (by omega), decide_eq_true (show 0 < sA S s by omega), Bool.true_and, decide_eq_true_iff]
    exact Iff.rfl
theorem r_wants (hR : RM m S) (hw : wf S) {s : Nat} (hs : s < sN S) (l : Bool) (hQ : Q (some (vI (bI (wantS S l s)))) m) : callW2 xs (d + 2) 128 [vR 40 0, vI (nI s), vI (bI l)] m Q := by
  refine eX12_wants m _ _ (W2_st (bX12_wants_0 m _ _ ?_))
  refine r_isFoe hR hw hs ⟨_, rfl, ?_⟩
  refine ret_nQ _ ?_ hQ
  rw [bI_eq]
  unfold wantS
  simp
theorem r_all (hR : RM m S) (hw : wf S) (hQ : Q (some (vI (nI (fullB (sN S))))) m) : callW2 xs (d + 1) 131 [vR 40 0] m Q := by
  refine eX12_all m (W2_st (bX12_all_0 m ?_))
  have h3 := wf_n hw
  rw [rm_n hR, mask_n (by omega)]
  exact hQ
theorem sum12 {f : Nat → Nat} {n : Nat} (h : ∀ i, i < n → f i ≤ 12) : sumU f n ≤ n * 12 := sumU_le h
/-- partsOf(x) -/
theorem r_partsOf (hR : RM m S) (hw : wf S) {x : Nat} (hx : isA S x) (hQ : Q (some (vI (nI (partsS S x)))) m) : callW2 xs (d + 1) 120 [vR 40 0, vI (nI x)] m Q := by
  refine eX12_partsOf m _ (W2_st (bX12_partsOf_0 m _ ?_))
  have h1 := wf_40 hw hx
  have h2 := wf_o hw hx
  refine upto (P := fun o => (W2 xs (callW2 xs d) tX12_partsOf [4] (some .int) Q 4 [some (vR 40 0), some (vI (nI x)), some (vI (nI (sumU (sP S x) o))), some (vI (nI o))] [] (m))) (sO S x) ?_ ?_ 0 (Nat.zero_le _)
  · refine W2_st (bX12_partsOf_4 m _ _ _ ?_)
    simp (disch := omega) only [nI_clamp, inb_iff, rm_o hR hx, nI_leI]
    exact ⟨h1, fun _ => hQ, fun z => absurd (Nat.le_refl _) z⟩
  · intro o ho ih
    refine W2_st (bX12_partsOf_4 m _ _ _ ?_)
    simp (disch := omega) only [nI_clamp, inb_iff, rm_o hR hx, nI_leI, pk_mul, nI_add, rm_p hR hx ho]
    exact ⟨h1, fun z => by omega, fun _ => ⟨by omega, ih⟩⟩
theorem r_lacking (hR : RM m S) (hw : wf S) (hQ : Q (some (vI (nI (lackS S)))) m) : callW2 xs (d + 2) 124 [vR 40 0] m Q := by
  refine eX12_lacking m (W2_st (bX12_lacking_0 m ?_))
  have h3 := wf_n hw
  have key : ∀ s, s ≤ sN S → ∀ o3, (W2 xs (callW2 xs (d + 1)) tX12_lacking [4, 10] (some .int) Q 4 [some (vR 40 0), some (vI (nI (sumU (fun s => sumU (fun a => 12 - partsS S (4 * s + a)) (sA S s)) s))), some (vI (nI s)), (o3)] [] (m)) := by
    refine upto (sN S) ?_ ?_
    · intro o3
      refine W2_st (bX12_lacking_4 m _ _ _ ?_)
      simp (disch := omega) only [rm_n hR, nI_leI]
      exact ⟨fun _ => hQ, fun z => absurd (Nat.le_refl _) z⟩
    · intro s hs ih o3
      refine W2_st (bX12_lacking_4 m _ _ _ ?_)
      simp (disch := omega) only [rm_n hR, nI_leI]
      refine ⟨fun z => by omega, fun _ => ?_⟩
      have h4 := wf_a hw hs
      refine upto (P := fun a => (W2 xs (callW2 xs (d + 1)) tX12_lacking [4, 10] (some .int) Q 10 [some (vR 40 0), some (vI (nI (sumU (fun s => sumU (fun a => 12 - partsS S (4 * s + a)) (sA S s)) s + sumU (fun a => 12 - partsS S (4 * s + a)) a))), some (vI (nI s)), some (vI (nI a))] [] (m))) (sA S s) ?_ ?_ 0 (Nat.zero_le _)
      · refine W2_st (bX12_lacking_10 m _ _ _ ?_)
        simp (disch := omega) only [rm_a hR hs, nI_leI, nI_clamp, inb_iff, nI_add]
        exact ⟨by omega, fun _ => ih _, fun z => absurd (Nat.le_refl _) z⟩
      · intro a ha ih2
        refine W2_st (bX12_lacking_10 m _ _ _ ?_)
        have hx := isA_mk hs ha (by omega)
        simp (disch := omega) only [rm_a hR hs, nI_leI, nI_clamp, inb_iff, pk_mul, nI_add]
        refine ⟨by omega, fun z => by omega, fun _ => r_partsOf hR hw hx ⟨_, rfl, ?_⟩⟩
        rw [pk_sub (wf_ps hw hx), nI_add, Nat.add_assoc]
        exact ih2
  exact key 0 (Nat.zero_le _) none
theorem r_allIn (hR : RM m S) (hw : wf S) {x : Nat} (hx : isA S x) {b : Nat} (hb : b < 2 ^ 31) (hQ : Q (some (vI (bI (allInS S x b)))) m) : callW2 xs (d + 1) 126 [vR 40 0, vI (nI x), vI (nI b)] m Q := by
  refine eX12_allIn m _ _ (W2_st (bX12_allIn_0 m _ _ ?_))
  have h1 := wf_40 hw hx
  have h2 := wf_o hw hx
  refine upto (P := fun o => (W2 xs (callW2 xs d) tX12_allIn [4] (some .boolean) Q 4 [some (vR 40 0), some (vI (nI x)), some (vI (nI b)), some (vI (bI (allU (fun o => b.testBit (sT S x o)) o))), some (vI (nI o))] [] (m))) (sO S x) ?_ ?_ 0 (Nat.zero_le _)
  · refine W2_st (bX12_allIn_4 m _ _ _ _ ?_)
    simp (disch := omega) only [nI_clamp, inb_iff, rm_o hR hx, nI_leI, isB_bI]
    exact ⟨h1, fun _ => ⟨trivial, hQ⟩, fun z => absurd (Nat.le_refl _) z⟩
  · intro o ho ih
    refine W2_st (bX12_allIn_4 m _ _ _ _ ?_)
    have ht := wf_t10 hw hx ho
    simp (disch := omega) only [nI_clamp, inb_iff, rm_o hR hx, nI_leI, pk_mul, nI_add, rm_t hR hx ho, shr_bit, bI_0, bI_1]
    simp only [allU] at ih
    refine ⟨h1, fun z => by omega, fun _ => ⟨fun h => ?_, fun h => ⟨by omega, fun h5 => ?_, fun h5 => ?_⟩⟩⟩
    · rw [h] at ih; exact ih
    · rw [Bool.not_eq_true] at h5
      rw [h5, Bool.and_false] at ih; exact ih
    · rw [Bool.not_eq_false] at h
      rw [h5, Bool.and_true, h] at ih; exact ih
theorem r_someIn (hR : RM m S) (hw : wf S) {x : Nat} (hx : isA S x) {b : Nat} (hb : b < 2 ^ 31) (hQ : Q (some (vI (bI (someInS S x b)))) m) : callW2 xs (d + 1) 127 [vR 40 0, vI (nI x), vI (nI b)] m Q := by
  refine eX12_someIn m _ _ (W2_st (bX12_someIn_0 m _ _ ?_))
  have h1 := wf_40 hw hx
  have h2 := wf_o hw hx
  refine upto (P := fun o => (W2 xs (callW2 xs d) tX12_someIn [4] (some .boolean) Q 4 [some (vR 40 0), some (vI (nI x)), some (vI (nI b)), some (vI (bI (anyU (fun o => b.testBit (sT S x o)) o))), some (vI (nI o))] [] (m))) (sO S x) ?_ ?_ 0 (Nat.zero_le _)
  · refine W2_st (bX12_someIn_4 m _ _ _ _ ?_)
    simp (disch := omega) only [nI_clamp, inb_iff, rm_o hR hx, nI_leI, isB_bI]
    exact ⟨h1, fun _ => ⟨trivial, hQ⟩, fun z => absurd (Nat.le_refl _) z⟩
  · intro o ho ih
    refine W2_st (bX12_someIn_4 m _ _ _ _ ?_)
    have ht := wf_t10 hw hx ho
    simp (disch := omega) only [nI_clamp, inb_iff, rm_o hR hx, nI_leI, pk_mul, nI_add, rm_t hR hx ho, shr_bit, bI_0, bI_1]
    simp only [anyU] at ih
    refine ⟨h1, fun z => by omega, fun _ => ⟨fun h => ?_, fun h => ⟨by omega, fun h5 => ?_, fun h5 => ?_⟩⟩⟩
    · rw [Bool.not_eq_false] at h
      rw [h] at ih; exact ih
    · rw [Bool.not_eq_true] at h5
      rw [h5, h] at ih; exact ih
    · rw [h5, Bool.or_true] at ih; exact ih
end L44
