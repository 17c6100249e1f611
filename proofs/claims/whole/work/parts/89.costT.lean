/-! CONTRACTS (35): the reference's cost(), whole (wip/whole/src/89.costT.src) -/
section L89
variable {xs : Nat × (Nat → Int32)} {d : Nat} {Q : Option v2 → Mem → Prop} {m : Mem} {S : Sys}
theorem mul3525 {a b : Int} (ha : a.natAbs ≤ 2 ^ 35) (hb : b.natAbs ≤ 2 ^ 25) : (a * b).natAbs < 2 ^ 62 := by
  rw [Int.natAbs_mul]
  exact Nat.lt_of_le_of_lt (Nat.mul_le_mul ha hb) (by decide)
theorem r_cost {p1 p2 : Int32} (hR : RM m S) (hw : wf S) (hQ : ∀ m' r, fvM (mI m 40 0 0 (nI 0)) m' → (∀ X, isOnes S false X → costR S X p1 p2 r) → Q (some (vL r)) m') : callW2 xs (d + 6) 164 [vR 40 0, vI p1, vI p2] m Q := by
  have h3 := wf_n hw
  have hM10 := wf_m hw
  have hRo := RM_0 (v := nI 0) hR
  refine eX12_cost m _ _ (W2_st (bX12_cost_0 m _ _ ?_))
  generalize mI m 40 0 0 (nI 0) = mo at hRo hQ ⊢
  have hlk := lack_le hw (sN S) (Nat.le_refl _)
  rw [show sumU _ (sN S) = lackS S from rfl] at hlk
  refine r_isState hRo hw p1 ⟨_, rfl, ?_⟩
  rw [bI_0]
  refine ⟨fun hst => hQ mo _ (fvM_rfl _) (fun X _ => by unfold costR; simp [hst]), fun hst => ?_⟩
  rw [Bool.not_eq_false] at hst
  refine r_isIn p2 0 1 (by omega) (by omega) ⟨_, rfl, ?_⟩
  rw [bI_0, decide_eq_false_iff_not]
  refine ⟨fun hin => ?_, fun hin => hQ mo _ (fvM_rfl _) (fun X _ => by
    have : ¬ in01 p2 := hin
    unfold costR; simp [hst, this])⟩
  rw [Decidable.not_not] at hin
  have hin' : in01 p2 := hin
  refine r_lacking hRo hw ⟨_, rfl, ?_⟩
  rw [z_le (by omega)]
  refine ⟨fun hl0 => ?_, fun hl0 => hQ mo _ (fvM_rfl _) (fun X _ => by unfold costR; simp [hst, hin', hl0])⟩
  have hf := full_lack hw hl0
  refine r_ones hRo hw false (fun X hX => ⟨_, rfl, ?_⟩)
  obtain ⟨s, hs, hp1⟩ := isSt_t hw hst
  have hcl : p1.toNatClampNeg = s := by rw [hp1, nI_clamp (by omega)]
  obtain ⟨hBn, hBi, hBp⟩ := sureB hX
  have hX10 := sub_lt hX.1.1 h3
  rw [rm_m hRo, nI_diff]
  -- an answer for this X is one for each
  have ans : ∀ m' r, fvM mo m' → costR S X p1 p2 r → Q (some (vL r)) m' := fun m' r h1 h2 => hQ m' r h1 (fun X' hX' => by rw [isOnes_uniq hX' hX]; exact h2)
  generalize hBe : ndiff X (sM S) = B at hBn hBi hBp
  have hB10 := sub_lt hBn h3
  have hcb := cnt_10 B
  -- the choices, one after another
  have enum : foeN S = 0 → cntB B ≤ 5 → B.testBit s = true → ∀ N (c : Nat → Nat) mc (a b : Int64) o11, wsum (sA S) (nxF S B false) c (sN S) ≤ N → fvM mo mc → (∀ t, t < sN S → mc.1 48 0 t = nI (c t)) → pol S B c → cosS S B s a b (fun x => bef (sN S) (nxF S B false) x c) → (W2 xs (callW2 xs (d + 5)) tX12_cost [35, 77, 93] (some .long) Q 93 [some (vR 40 0), some (vI (nI s)), some (vI (p2)), some (vI (nI X)), some (vI (nI B)), some (vI (nI 0)), some (vL (a)), none, some (vL (b)), none, some (vI (nI 1)), (o11)] [] (mc)) := by
    intro hfoe h5 hsB N
    have hnf := foeN_0.mp hfoe
    have hA4 : ∀ t, t < sN S → nxF S B false t = true → sA S t ≤ 4 := fun t ht _ => wf_a hw ht
    have hdB : ∀ t, B.testBit t = true → (sM S).testBit t = false := fun t ht => ((hBi t).mp ht).2
    induction N using Nat.strongRecOn with
    | _ N ihN =>
      intro c mc a b o11 hN g1 gch gp gc
      have hRc := RM_fv g1 hRo
      have hcov : ∀ c', pol S B c' → (bef (sN S) (nxF S B false) c' c ∨ sam (sN S) (nxF S B false) c' c) → bef (sN S) (nxF S B false) c' c ∨ ∀ t, B.testBit t = true → c' t = c t := by
        intro c' hc' h
        exact h.imp id (fun h t ht => h t (hc' t ht).1 (nxF_iff.mpr ⟨ht, hnf t (hc' t ht).1⟩))
      -- one more is seen
      have go : ∀ mn (a b : Int64) o11, fvM mo mn → (∀ t, t < sN S → mn.1 48 0 t = nI (c t)) → cosS S B s a b (fun x => bef (sN S) (nxF S B false) x c ∨ sam (sN S) (nxF S B false) x c) → callW2 xs (d + 5) 142 [vR 40 0, vI (nI B), vI (nI 0)] mn (fun r4 m5 => ∃ w6 : Int32, r4 = some (vI w6) ∧ (W2 xs (callW2 xs (d + 5)) tX12_cost [35, 77, 93] (some .long) Q 93 [some (vR 40 0), some (vI (nI s)), some (vI (p2)), some (vI (nI X)), some (vI (nI B)), some (vI (nI 0)), some (vL (a)), none, some (vL (b)), none, some (vI (w6)), (o11)] [] (m5))) := by
        intro mn a b o11 k1 k2 k3
        refine r_nextChoice (f := false) (RM_fv k1 hRo) hw k2 gp (fun bb c' m4 n1 n2 n3 => ⟨_, rfl, ?_⟩)
        have k4 : fvM mo m4 := fvM_48 k1 n1
        cases bb with
        | true =>
          have hlt := wsum_nxt hA4 n3
          obtain ⟨s0, q1, q2, q3, q4, q5, q6⟩ := id n3
          refine ihN (wsum (sA S) (nxF S B false) c' (sN S)) (by omega) c' m4 a b _ (Nat.le_refl _) k4 n2 (fun t ht => ⟨(gp t ht).1, ?_⟩) (cos_mono k3 (fun x hx hb => nxt_t n3 (fun t ht hF => (hx t (nxF_iff.mp hF).1).2) hb))
          have hcs := (gp t ht).2
          cases hF : nxF S B false t with
          | false => rw [q6 t (Or.inl hF)]; exact hcs
          | true =>
            rcases Nat.lt_or_ge t s0 with q | q
            · rw [(q5 t q hF).2]; omega
            · rcases Nat.lt_or_ge s0 t with q7 | q7
              · rw [q6 t (Or.inr q7)]; exact hcs
              · have e : t = s0 := by omega
                rw [e, q3]; exact q4
        | false =>
          have kend := cos_mono (cov' := fun _ => True) k3 (fun x hx _ => nxt_f n3 (fun t ht hF => (hx t (nxF_iff.mp hF).1).2))
          have fin : ∀ r, r = (if p2 = 0 then a else b) → Q (some (vL r)) m4 := by
            intro r hr
            have hXs := ((hBi s).mp hsB)
            refine ans m4 r k4 ?_
            unfold costR
            rw [hcl, hBe]
            refine ⟨fun z => (by rw [hst] at z; cases z), fun _ => ⟨fun z => absurd hin' z, fun _ => ⟨fun z => absurd hl0 z, fun _ => ⟨fun z => absurd ⟨hfoe, h5⟩ z, fun _ => ⟨fun z => (by rw [hXs.1] at z; cases z), fun _ => ⟨fun z => (by rw [hXs.2] at z; cases z), fun _ w hw' => ?_⟩⟩⟩⟩⟩⟩
            obtain ⟨u, v, e1, e2, e3⟩ := cos_end hw hf hX.1.2.1 hBi hsB hw' kend
            exact ⟨u, v, e1, by rw [hr, e2, e3]⟩
          refine W2_st (bX12_cost_93 m4 _ _ _ _ _ _ _ _ _ ⟨fun _ => ⟨fun h => fin _ (if_neg h).symm, fun h => fin _ (if_pos h).symm⟩, fun z => absurd (by decide) z⟩)
      refine W2_st (bX12_cost_93 mc _ _ _ _ _ _ _ _ _ ⟨fun z => absurd z (by decide), fun _ => ?_⟩)
      refine r_sureChosen hRc hw gch gp hdB (fun x hxB hsh hmax => ⟨_, rfl, ?_⟩)
      have hmx : mx S B c x := ⟨hxB, hsh, hmax⟩
      have hx10 := sub_lt (sub_n_of hxB hBn) h3
      rw [shr_bit (by omega) (by omega), bI_1]
      refine ⟨fun hsx => ?_, fun hsx => ?_⟩
      · rw [Bool.not_eq_true] at hsx
        exact go mc a b _ g1 gch (cos_skip hmx hsx hcov gc)
      · refine r_costsChosen hRc hw hf gch (fun t ht => gp t (hxB t ht)) hsh.1 (Nat.le_trans (cnt_le hxB) h5) (fun m8 e1 e2 => ⟨rfl, ?_⟩)
        have k8 : fvM mo m8 := fvM_trans g1 (fvM_ch e1)
        have x48 : ∀ t, t < sN S → m8.1 48 0 t = nI (c t) := fun t ht => by rw [ch_48 e1]; exact gch t ht
        obtain ⟨u, v, v1, v2, v3, v4, v5⟩ := e2 s hsx
        have ib : inb (nI s) 10 := inb_nI (by omega) (by omega)
        rw [nI_clamp (by omega), v1, v2, lg_cmp_lt]
        rcases gc with ⟨c1, c2, c3⟩ | ⟨wu, wv, c1, c2, c3⟩
        · refine ⟨fun _ => ⟨ib, ib, ?_⟩, fun z => absurd (by rw [c1]; decide) z⟩
          refine go m8 _ _ _ k8 x48 (Or.inr ⟨u, v, rfl, rfl, cos_new hw hf gp hmx hsx v3 v4 v5 hcov (fun c' x' q1 q2 q3 q4 => ?_)⟩)
          rw [c3 c' x' q1 q2 q3] at q4
          cases q4
        · have w0 := c3.1
          have w1 := c3.2.1
          have w3 := c3.2.2.2.1
          have w4 := c3.2.2.2.2.1
          refine ⟨fun z => ?_, fun _ => ⟨ib, ib, ?_⟩⟩
          · exfalso
            rw [c1, lI_N, lI_lt (by omega) (by omega) (by omega) (by omega)] at z
            omega
          · rw [c1, c2]
            refine r_isBelow u v wu wv (mul3525 v4 w4) (mul3525 w3 v5) ⟨_, rfl, ?_⟩
            rw [bI_0, decide_eq_false_iff_not]
            refine ⟨fun h => ?_, fun h => ⟨ib, ib, ?_⟩⟩
            · exact go m8 _ _ _ k8 x48 (Or.inr ⟨wu, wv, rfl, rfl, cos_keep hw hf gp hmx v3 hcov c3 (by omega)⟩)
            · rw [v1, v2]
              refine go m8 _ _ _ k8 x48 (Or.inr ⟨u, v, rfl, rfl, cos_new hw hf gp hmx hsx v3 v4 v5 hcov (fun c' x' q1 q2 q3 q4 => ?_)⟩)
              have hD' := (csol hw hf (fun t ht => q1 t (q3.1 t ht)) q3.2.1.1).1
              exact fr_trans (Int.le_of_lt v3.1) w1 (Int.le_of_lt hD') (by omega) (c3.2.2.2.2.2.2 c' x' q1 q2 q3 q4)
  -- the choices begin with the first ACTS
  have zero : foeN S = 0 → cntB B ≤ 5 → B.testBit s = true → ∀ k, k ≤ 10 → ∀ mc, offI (tM 48) mo mc → (∀ t, t < k → mc.1 48 0 t = nI 0) → (W2 xs (callW2 xs (d + 5)) tX12_cost [35, 77, 93] (some .long) Q 77 [some (vR 40 0), some (vI (nI s)), some (vI (p2)), some (vI (nI X)), some (vI (nI B)), some (vI (nI 0)), some (vI (nI k)), none, none, none, none, none] [] (mc)) := by
    intro hfoe h5 hsB
    refine upto 10 ?_ ?_
    · intro mc g1 g2
      refine W2_st (bX12_cost_77 mc _ _ _ _ _ _ ⟨fun _ => ?_, fun z => absurd (by decide) z⟩)
      rw [show lN 1 = lI 1 from lI_N 1]
      refine enum hfoe h5 hsB _ (fun _ => 0) mc _ _ _ (Nat.le_refl _) (fvM_48 (fvM_rfl _) g1) (fun t ht => g2 t (by omega)) (fun t ht => ⟨hBn t ht, hBp t ht⟩) (Or.inl ⟨rfl, rfl, fun c x _ hb _ => ?_⟩)
      obtain ⟨t, _, _, q, _⟩ := hb
      exact absurd q (Nat.not_lt_zero _)
    · intro k hk ih mc g1 g2
      refine W2_st (bX12_cost_77 mc _ _ _ _ _ _ ?_)
      rw [nI_leI (by omega) (by omega), nI_add, nI_clamp (by omega)]
      refine ⟨fun z => by omega, fun _ => ⟨inb_nI (by omega) (by omega), ih _ (offI_I g1 _ _ ⟨rfl, rfl⟩) (fun t ht => ?_)⟩⟩
      rw [mI_r]
      by_cases htk : t = k
      · rw [if_pos ⟨rfl, rfl, htk⟩]
      · rw [if_neg (by omega)]; exact g2 t (by omega)
  rw [hp1]
  have e0 : nI 0 = bI (anyU (foeS S) 0) := rfl
  refine upto (P := fun k => (W2 xs (callW2 xs (d + 5)) tX12_cost [35, 77, 93] (some .long) Q 35 [some (vR 40 0), some (vI (nI s)), some (vI (p2)), some (vI (nI X)), some (vI (nI B)), some (vI (bI (anyU (foeS S) k))), some (vI (nI k)), none, none, none, none, none] [] (mo))) (sN S) ?_ ?_ 0 (Nat.zero_le _)
  · refine W2_st (bX12_cost_35 mo _ _ _ _ _ _ ?_)
    rw [rm_n hRo, nI_leI (by omega) (by omega), bI_0]
    refine ⟨fun _ => ⟨fun hany => ?_, fun hany => ?_⟩, fun z => absurd (Nat.le_refl _) z⟩
    · refine ans mo _ (fvM_rfl _) ?_
      have : ¬ foeN S = 0 := fun z => hany (by
        cases q : anyU (foeS S) (sN S) with
        | false => rfl
        | true =>
          obtain ⟨t, ht, q2⟩ := anyU_iff.mp q
          rw [foeN_0.mp z t ht] at q2
          cases q2)
      unfold costR
      simp [hst, hin', hl0, this]
    · have hfoe : foeN S = 0 := foeN_0.mpr (fun t ht => by
        cases q : foeS S t with
        | false => rfl
        | true => rw [anyU_iff.mpr ⟨t, ht, q⟩] at hany; cases hany)
      refine r_countBits hB10 ⟨_, rfl, ?_⟩
      rw [nI_leI (by omega) (by omega), shr_bit (by omega) (by omega), bI_0]
      refine ⟨fun h5 => ⟨fun hXs => ?_, fun hXs => ?_⟩, fun h5 => ?_⟩
      · rw [Bool.not_eq_false] at hXs
        refine r_isMarked hRo hw (by omega) ⟨_, rfl, ?_⟩
        rw [bI_0]
        refine ⟨fun hms => ?_, fun hms => ?_⟩
        · rw [hany]
          exact zero hfoe h5 ((hBi s).mpr ⟨hXs, hms⟩) 0 (Nat.zero_le _) mo (offI_rfl _ _) (fun t ht => by omega)
        · rw [Bool.not_eq_false] at hms
          refine ans mo _ (fvM_rfl _) ?_
          unfold costR
          rw [hcl, hBe]
          simp [hst, hin', hl0, hfoe, h5, hXs, hms]
      · refine ans mo _ (fvM_rfl _) ?_
        unfold costR
        rw [hcl, hBe]
        simp [hst, hin', hl0, hfoe, h5, hXs]
      · refine ans mo _ (fvM_rfl _) ?_
        unfold costR
        rw [hcl, hBe]
        simp [hst, hin', hl0, hfoe, h5]
  · intro k hk ih
    rw [show anyU (foeS S) (k + 1) = (anyU (foeS S) k || foeS S k) from rfl] at ih
    refine W2_st (bX12_cost_35 mo _ _ _ _ _ _ ?_)
    rw [rm_n hRo, nI_leI (by omega) (by omega), bI_0, nI_add]
    refine ⟨fun z => by omega, fun _ => ⟨fun h => ?_, fun h => ?_⟩⟩
    · rw [Bool.not_eq_false] at h
      rw [h] at ih
      exact ih
    · rw [h, Bool.false_or] at ih
      refine r_isFoe hRo hw hk ⟨_, rfl, ?_⟩
      rw [bI_0]
      refine ⟨fun h2 => ?_, fun h2 => ?_⟩
      · rw [h2] at ih; exact ih
      · rw [Bool.not_eq_false] at h2; rw [h2] at ih; exact ih
end L89
