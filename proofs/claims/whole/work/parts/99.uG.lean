/-! THE GUIDE (7): choice(), distance(), sum(), the reference (wip/whole/src/99.uG.src) -/
section L99G
variable {xs : Nat × (Nat → Int32)} {d : Nat} {Q : Option v2 → Mem → Prop} {m : Mem} {S : Sys}
/-- the class has found a saddle: so there is one -/
def sadOK (S : Sys) : Prop := lackS S = 0 → ∀ X Y, isOnes S false X → isG S false (fullB (sN S)) Y → cntB (ndiff Y X) ≤ 5 → ∃ V D, vKb S X Y V D
theorem sad_rf {e2 e3 : Prop} {F : Nat → Nat → Prop} (h : rfR S e2 e3 F) (hF : ∀ X Y, F X Y → ∃ V D, vKb S X Y V D) : sadOK S := fun hl X Y hX hY h5 => by
  obtain ⟨X', Y', a1, a2, a3, a4⟩ := h.2 hl
  have e1 := isOnes_uniq a1 hX
  have e2 := isG_uniq a2 hY
  subst e1 e2
  exact hF _ _ (a4 h5)
theorem choP_ex {V : Nat → Int} {D : Int} {X Y s : Nat} (hw : wf S) (hf : full S) (hK : vK S X Y V D) (hs : s < sN S) (hm : (sM S).testBit s = false) (hA : 0 < sA S s) : ∃ a, a < sA S s ∧ choP S V s a := by
  by_cases hn : 0 < V s ∧ foeS S s = false
  · obtain ⟨r, hr⟩ := nt_all hw hf hK hs hn.1
    obtain ⟨k, _, hk⟩ := dst_ex r hr
    cases k with
    | zero =>
      have := hk.1
      have this : (sM S).testBit s = true := this
      rw [hm] at this; cases this
    | succ k =>
      obtain ⟨a, o, ha, ht, ho, _, hd⟩ := dst_pred hw hs hk
      exact ⟨a, ha, ht, fun _ _ => ⟨o, k, k + 1, ho, hd, hk, by omega⟩⟩
  · obtain ⟨a, ha, hc⟩ := tig_ex hw hf hK hs hm hA
    exact ⟨a, ha, hc, fun z1 z2 => absurd ⟨z1, z2⟩ hn⟩
theorem isAc_0 {s : Nat} (hw : wf S) (hs : s < sN S) : isAc S (nI s) (nI 0) = decide (0 < sA S s) := by
  have h3 := wf_n hw
  unfold isAc isSt
  rw [nI_toInt (by omega), nI_toInt (by omega), nI_clamp (by omega), decide_eq_true (by omega), Bool.true_and]
  by_cases q : 0 < sA S s
  · rw [decide_eq_true q, decide_eq_true (by omega)]
  · rw [decide_eq_false q, decide_eq_false (by omega)]
theorem r_choice {p : Int32} (hR : RM m S) (hw : wf S) (hsd : isAc S p (nI 0) = true → sadOK S) (hQ : ∀ m1 m' r, fvM (mI m 40 0 0 (nI 0)) m1 → fdM m1 m' → choR S p r → Q (some (vI r)) m') : callW2 xs (d + 8) 152 [vR 40 0, vI p] m Q := by
  have h3 := wf_n hw
  have hRo := RM_0 (v := nI 0) hR
  refine eX12_choice m _ (W2_st (bX12_choice_0 m _ ?_))
  generalize mI m 40 0 0 (nI 0) = mo at hRo hQ ⊢
  have no : isAc S p (nI 0) = false → Q (some (vI (-1 : Int32))) mo := fun h => hQ mo mo _ (fvM_rfl _) (fdM_rfl _) ⟨fun _ => rfl, fun z => (by rw [h] at z; cases z)⟩
  refine r_isState hRo hw p ⟨_, rfl, ?_⟩
  rw [bI_0]
  refine ⟨fun hst => no (by unfold isAc; rw [hst]; rfl), fun hst => ?_⟩
  rw [Bool.not_eq_false] at hst
  obtain ⟨s, hs, e3⟩ := isSt_t hw hst
  subst e3
  have h4 := wf_a hw hs
  have hA := isAc_0 hw hs
  rw [hA] at no hsd
  rw [nI_clamp (n := s) (by omega), rm_a hRo hs, z_eq (by omega)]
  have is10 : inb (nI s) 10 := inb_nI (by omega) (by omega)
  refine ⟨is10, fun hac => ?_, fun hac => no (decide_eq_false (by omega))⟩
  have hA0 : 0 < sA S s := by omega
  have hsd := hsd (decide_eq_true hA0)
  have hcl : (nI s).toNatClampNeg = s := nI_clamp (by omega)
  have ex : ∀ r, rfR S (r = -2) (r = -3) (fun X Y => ∃ V D, vKb S X Y V D ∧ choA S V s r) → choR S (nI s) r := fun r h => ⟨fun z => (by rw [hA, decide_eq_true hA0] at z; cases z), fun _ => by rw [hcl]; exact h⟩
  refine r_refusal hRo hw (fun hl => ⟨_, rfl, fun z => absurd z (by decide), fun _ => ?_⟩) (fun X Y hl hX hY h6 => ⟨_, rfl, fun z => absurd z (by decide), fun _ => ?_⟩) (fun m1 X Y hl hX hY h5 g1 g2 => ⟨_, rfl, fun _ => ?_, fun z => absurd (by decide) z⟩)
  · exact hQ mo mo (-2) (fvM_rfl _) (fdM_rfl _) (ex _ ⟨fun _ => rfl, fun z => absurd z hl⟩)
  · exact hQ mo mo (-3) (fvM_rfl _) (fdM_rfl _) (ex _ ⟨fun z => absurd hl z, fun _ => ⟨X, Y, hX, hY, fun _ => rfl, fun z => by omega⟩⟩)
  obtain ⟨V, D, hK⟩ := hsd hl X Y hX hY h5
  have hf := full_lack hw hl
  have hVN := valN_of hw hf hK g2
  have hR1 := RM_fv g1 hRo
  have fin : ∀ m' r, fdM m1 m' → choA S V s r → Q (some (vI r)) m' := fun m' r h1 h2 => hQ m1 m' r g1 h1 (ex r ⟨fun z => absurd hl z, fun _ => ⟨X, Y, hX, hY, fun z => by omega, fun _ => ⟨V, D, hK, h2⟩⟩⟩)
  refine r_isMarked hR1 hw (by omega) ⟨_, rfl, ?_⟩
  rw [bI_0]
  refine ⟨fun hm => ?_, fun hm => fin m1 _ (fdM_rfl _) ⟨fun _ => rfl, fun z => absurd z hm⟩⟩
  refine r_findDistances hR1 hw hK.1 hVN (fun m2 y1 y2 => ⟨rfl, inb_nI (by omega) (by omega), ?_⟩)
  have hV2 := valN_fd y1 hVN
  have hR2 := RM_fd y1 hR1
  obtain ⟨hD, hD2, hW⟩ := hV2
  obtain ⟨_, u, v, v1, v2, v3, v4, v5, v6, v7⟩ := hW s hs
  have v5 : u * D.toNat = (V s).toNat * v := v5
  have hnn := vK_nn hK.1 s hs
  have hu : (u : Int) ≤ ((0 : Nat) : Int) ↔ ¬ 0 < V s := by
    constructor
    · intro z z2
      rw [show u = 0 by omega, Nat.zero_mul] at v5
      have : 0 < (V s).toNat * v := Nat.mul_pos (by omega) v3
      omega
    · intro z
      rw [show (V s).toNat = 0 by omega, Nat.zero_mul] at v5
      rcases Nat.eq_zero_or_pos u with q | q
      · omega
      · have : 0 < u * D.toNat := Nat.mul_pos q hD
        omega
  have hF : ∀ t, t < sN S → m2.1 58 0 t = nI (m2.1 58 0 t).toNatClampNeg ∧ (m2.1 58 0 t).toNatClampNeg ≤ 100 := fun t ht => by
    rcases y2 t ht with ⟨k, q1, q2, q3⟩ | ⟨q1, q2⟩
    · rw [q3, nI_clamp (by omega)]; exact ⟨rfl, by omega⟩
    · rw [q2, nI_clamp (by omega)]; exact ⟨rfl, by omega⟩
  have hFd : ∀ t k, t < sN S → dst S V t k → (m2.1 58 0 t).toNatClampNeg = k := fun t k ht hk => by
    rcases y2 t ht with ⟨k', q1, q2, q3⟩ | ⟨q1, q2⟩
    · rw [q3, nI_clamp (by omega)]; exact dst_uniq q2 hk
    · have := hk.1; rw [q1 k] at this; cases this
  have hFe : ∀ t, t < sN S → (m2.1 58 0 t).toNatClampNeg < 100 → dst S V t (m2.1 58 0 t).toNatClampNeg := fun t ht hk => by
    rcases y2 t ht with ⟨k', q1, q2, q3⟩ | ⟨q1, q2⟩
    · rw [q3, nI_clamp (by omega)]; exact q2
    · rw [q2, nI_clamp (by omega)] at hk; omega
  have key : ∀ nr : Bool, (nr = true ↔ (0 < V s ∧ foeS S s = false)) → ∀ x2, ∀ a, a ≤ sA S s → ∀ mc, fdM m1 mc → mc.1 58 0 = m2.1 58 0 → (∀ b, b < a → ¬ choP S V s b) → (W2 xs (callW2 xs (d + 7)) tX12_choice [47] (some .int) Q 47 [some (vR 40 0), some (vI (nI s)), some (vI (x2)), some (vI (bI nr)), some (vI (nI a))] [] (mc)) := by
    intro nr hnr x2
    refine upto (sA S s) ?_ ?_
    · intro mc e1 e2 e4
      obtain ⟨b, hb, hc⟩ := choP_ex hw hf hK.1 hs hm hA0
      exact absurd hc (e4 b hb)
    · intro a ha ih mc e1 e2 e4
      have hx := isA_s hw hs ha
      refine W2_st (bX12_choice_47 mc _ _ _ _ ?_)
      simp only [pk_mul, nI_add]
      have hRc := RM_fd e1 hR1
      rw [nI_clamp (n := s) (by omega), rm_a hRc hs, nI_leI (by omega) (by omega)]
      refine ⟨is10, fun z => by omega, fun _ => r_isJust hRc hw hs ha (vK_nn hK.1) (valN_fd e1 hVN) (fun m3 f1 => ⟨_, rfl, ?_⟩)⟩
      have f2 : fdM m1 m3 := fdM_trans e1 (fdM_40 f1)
      have f3 : m3.1 58 0 = m2.1 58 0 := by rw [f1.2]; exact e2
      have nx : ¬ choP S V s a → (W2 xs (callW2 xs (d + 7)) tX12_choice [47] (some .int) Q 47 [some (vR 40 0), some (vI (nI s)), some (vI (x2)), some (vI (bI nr)), some (vI (nI (a + 1)))] [] (m3)) := fun z => ih m3 f2 f3 (fun b hb => by
        by_cases e : b = a
        · rw [e]; exact z
        · exact e4 b (by omega))
      have yes : choP S V s a → Q (some (vI (nI a))) m3 := fun z => fin m3 _ f2 ⟨fun q => (by rw [hm] at q; cases q), fun _ => ⟨a, ha, z, e4, rfl⟩⟩
      rw [bI_0, bI_0]
      refine ⟨fun ht => nx (fun z => by have := z.1; rw [ht] at this; cases this), fun ht => ?_⟩
      rw [Bool.not_eq_false] at ht
      refine ⟨fun hn => yes ⟨ht, fun z1 z2 => by rw [hnr.mpr ⟨z1, z2⟩] at hn; cases hn⟩, fun hn => ?_⟩
      rw [Bool.not_eq_false] at hn
      obtain ⟨hp, hfo⟩ := hnr.mp hn
      refine r_nearest (F := fun t => (m2.1 58 0 t).toNatClampNeg) (RM_fd f2 hR1) hw hx (fun t ht => by rw [f3]; exact hF t ht) (fun k0 z1 z2 z3 => ⟨_, rfl, is10, ?_⟩)
      have h10 := hF s hs
      rw [f3, h10.1, nI_leI (by omega) (by omega)]
      refine ⟨fun hl => nx (fun z => ?_), fun hl => yes ⟨ht, fun _ _ => ?_⟩⟩
      · obtain ⟨o, k, k', ho, q1, q2, q3⟩ := z.2 hp hfo
        have a1 := z2 o ho
        have a1 : k0 ≤ (m2.1 58 0 (sT S (4 * s + a) o)).toNatClampNeg := a1
        rw [hFd _ k (wf_t hw hx ho) q1] at a1
        rw [hFd s k' hs q2] at hl
        omega
      · rcases z3 with z3 | ⟨o, ho, z3⟩
        · omega
        · have z3 : k0 = (m2.1 58 0 (sT S (4 * s + a) o)).toNatClampNeg := z3
          have a1 := hFe _ (wf_t hw hx ho) (by omega)
          obtain ⟨r, hr⟩ := nt_all hw hf hK.1 hs hp
          obtain ⟨k', _, hk'⟩ := dst_ex r hr
          rw [hFd s k' hs hk'] at hl
          exact ⟨o, k0, k', ho, by rw [z3]; exact a1, hk', by omega⟩
  have z0 : ∀ b, b < 0 → ¬ choP S V s b := fun b hb => absurd hb (Nat.not_lt_zero _)
  rw [v1, lI_N, lg_cmp_le, lI_le (by omega) (by omega) (by omega) (by omega), hu]
  refine ⟨fun hn => key false ⟨fun z => (by cases z), fun z => absurd z.1 hn⟩ _ 0 (Nat.zero_le _) m2 y1 rfl z0, fun hn => ?_⟩
  have hp : 0 < V s := Decidable.not_not.mp hn
  refine r_isFoe hR2 hw hs ⟨_, rfl, ?_⟩
  rw [bI_0]
  exact ⟨fun hfo => key false ⟨fun z => (by cases z), fun z => absurd z.2 hfo⟩ _ 0 (Nat.zero_le _) m2 y1 rfl z0, fun hfo => key true ⟨fun _ => ⟨hp, hfo⟩, fun _ => rfl⟩ _ 0 (Nat.zero_le _) m2 y1 rfl z0⟩
theorem r_distance {p : Int32} (hR : RM m S) (hw : wf S) (hsd : isSt S p = true → sadOK S) (hQ : ∀ m1 m' r, fvM (mI m 40 0 0 (nI 0)) m1 → fdM m1 m' → disR S p r → Q (some (vI r)) m') : callW2 xs (d + 8) 153 [vR 40 0, vI p] m Q := by
  have h3 := wf_n hw
  have hRo := RM_0 (v := nI 0) hR
  refine eX12_distance m _ (W2_st (bX12_distance_0 m _ ?_))
  generalize mI m 40 0 0 (nI 0) = mo at hRo hQ ⊢
  refine r_isState hRo hw p ⟨_, rfl, ?_⟩
  rw [bI_0]
  refine ⟨fun hst => ?_, fun hst => hQ mo mo _ (fvM_rfl _) (fdM_rfl _) ⟨fun _ => rfl, fun z => (by rw [hst] at z; cases z)⟩⟩
  rw [Bool.not_eq_false] at hst
  obtain ⟨s, hs, e3⟩ := isSt_t hw hst
  have hcl : p.toNatClampNeg = s := by rw [e3, nI_clamp (by omega)]
  have hsd := hsd hst
  have ex : ∀ r, rfR S (r = -2) (r = -3) (fun X Y => ∃ V D, vKb S X Y V D ∧ (V s = 0 → r = -4) ∧ (0 < V s → ∃ k, dst S V s k ∧ r = nI k)) → disR S p r := fun r h => ⟨fun z => (by rw [hst] at z; cases z), fun _ => by rw [hcl]; exact h⟩
  refine r_refusal hRo hw (fun hl => ⟨_, rfl, fun z => absurd z (by decide), fun _ => ?_⟩) (fun X Y hl hX hY h6 => ⟨_, rfl, fun z => absurd z (by decide), fun _ => ?_⟩) (fun m1 X Y hl hX hY h5 g1 g2 => ⟨_, rfl, fun _ => ?_, fun z => absurd (by decide) z⟩)
  · exact hQ mo mo (-2) (fvM_rfl _) (fdM_rfl _) (ex _ ⟨fun _ => rfl, fun z => absurd z hl⟩)
  · exact hQ mo mo (-3) (fvM_rfl _) (fdM_rfl _) (ex _ ⟨fun z => absurd hl z, fun _ => ⟨X, Y, hX, hY, fun _ => rfl, fun z => by omega⟩⟩)
  obtain ⟨V, D, hK⟩ := hsd hl X Y hX hY h5
  have hf := full_lack hw hl
  have hVN := valN_of hw hf hK g2
  have hR1 := RM_fv g1 hRo
  have fin : ∀ m' r, fdM m1 m' → ((V s = 0 → r = -4) ∧ (0 < V s → ∃ k, dst S V s k ∧ r = nI k)) → Q (some (vI r)) m' := fun m' r h1 h2 => hQ m1 m' r g1 h1 (ex r ⟨fun z => absurd hl z, fun _ => ⟨X, Y, hX, hY, fun z => by omega, fun _ => ⟨V, D, hK, h2⟩⟩⟩)
  have hVN' := hVN
  obtain ⟨hD, hD2, hW⟩ := hVN'
  obtain ⟨_, u, v, v1, v2, v3, v4, v5, v6, v7⟩ := hW s hs
  have v5 : u * D.toNat = (V s).toNat * v := v5
  have hnn := vK_nn hK.1 s hs
  rw [hcl, v1, lI_N, lg_cmp_eq, lI_eq (by omega) (by omega) (by omega) (by omega)]
  refine ⟨by rw [e3]; exact inb_nI (by omega) (by omega), fun hu => ?_, fun hu => fin m1 _ (fdM_rfl _) ⟨fun _ => rfl, fun z => ?_⟩⟩
  · refine r_findDistances hR1 hw hK.1 hVN (fun m2 y1 y2 => ⟨rfl, by rw [e3]; exact inb_nI (by omega) (by omega), fin m2 _ y1 ⟨fun z => ?_, fun z => ?_⟩⟩)
    · rw [show (V s).toNat = 0 by omega, Nat.zero_mul] at v5
      have : 0 < u * D.toNat := Nat.mul_pos (by omega) hD
      omega
    · rcases y2 s hs with ⟨k, q1, q2, q3⟩ | ⟨q1, q2⟩
      · exact ⟨k, q2, q3⟩
      · obtain ⟨k, hk⟩ := nt_all hw hf hK.1 hs z
        rw [q1 k] at hk; cases hk
  · rw [show u = 0 by omega, Nat.zero_mul] at v5
    have : 0 < (V s).toNat * v := Nat.mul_pos (by omega) v3
    omega
theorem r_sum {p q p3 : Int32} (hR : RM m S) (hw : wf S) (hsd : isAc S p q = true ∧ in01 p3 → sadOK S) (hQ : ∀ m1 m' r, fvM (mI m 40 0 0 (nI 0)) m1 → fdM m1 m' → sumR S p q p3 r → Q (some (vL r)) m') : callW2 xs (d + 8) 154 [vR 40 0, vI p, vI q, vI p3] m Q := by
  have h3 := wf_n hw
  have hRo := RM_0 (v := nI 0) hR
  refine eX12_sum m _ _ _ (W2_st (bX12_sum_0 m _ _ _ ?_))
  generalize mI m 40 0 0 (nI 0) = mo at hRo hQ ⊢
  have no : ¬ (isAc S p q = true ∧ in01 p3) → Q (some (vL (-1 : Int64))) mo := fun h => hQ mo mo _ (fvM_rfl _) (fdM_rfl _) ⟨fun _ => rfl, fun z => absurd z h⟩
  refine r_isAct hRo hw p q ⟨_, rfl, ?_⟩
  rw [bI_0]
  refine ⟨fun hac => no (fun z => by rw [hac] at z; exact absurd z.1 (by decide)), fun hac => ?_⟩
  rw [Bool.not_eq_false] at hac
  refine r_isIn p3 0 1 (by omega) (by omega) ⟨_, rfl, ?_⟩
  rw [bI_0, decide_eq_false_iff_not]
  refine ⟨fun hin => ?_, fun hin => no (fun z => hin z.2)⟩
  rw [Decidable.not_not] at hin
  have hin' : in01 p3 := hin
  have hsd := hsd ⟨hac, hin'⟩
  obtain ⟨s, a, hs, ha, ha4, e3, e4⟩ := isAc_t hw hac
  have hx := isA_s hw hs ha
  have hcl : p.toNatClampNeg = s := by rw [e3, nI_clamp (by omega)]
  have hcl2 : q.toNatClampNeg = a := by rw [e4, nI_clamp (by omega)]
  have ex : ∀ r, rfR S (r = -2) (r = -3) (fun X Y => ∃ V D u v, vKb S X Y V D ∧ low u v (meanS S (4 * p.toNatClampNeg + q.toNatClampNeg) V) (12 * D) ∧ r = lI (if p3 = 0 then u else v)) → sumR S p q p3 r := fun r h => ⟨fun z => absurd ⟨hac, hin'⟩ z, fun _ => h⟩
  refine r_refusal hRo hw (fun hl => ⟨_, rfl, fun z => absurd z (by decide), fun _ => ?_⟩) (fun X Y hl hX hY h6 => ⟨_, rfl, fun z => absurd z (by decide), fun _ => ?_⟩) (fun m1 X Y hl hX hY h5 g1 g2 => ⟨_, rfl, fun _ => ?_, fun z => absurd (by decide) z⟩)
  · exact hQ mo mo (-2) (fvM_rfl _) (fdM_rfl _) (ex _ ⟨fun _ => rfl, fun z => absurd z hl⟩)
  · exact hQ mo mo (-3) (fvM_rfl _) (fdM_rfl _) (ex _ ⟨fun z => absurd hl z, fun _ => ⟨X, Y, hX, hY, fun _ => rfl, fun z => by omega⟩⟩)
  obtain ⟨V, D, hK⟩ := hsd hl X Y hX hY h5
  have hf := full_lack hw hl
  have hVN := valN_of hw hf hK g2
  have hR1 := RM_fv g1 hRo
  have hDp := vK_D hK.1
  rw [e3, e4, pk_mul, nI_add]
  refine r_findSum hR1 hw hx hVN (fun m2 u v y1 y2 y3 y4 y5 y6 y7 y8 => ⟨rfl, ?_⟩)
  have em := meanS_N (V := V) (W := fun t => (V t).toNat) hw hx (fun t ht => (Int.toNat_of_nonneg (vK_nn hK.1 t ht)).symm)
  have hlow : low (u : Int) (v : Int) (meanS S (4 * s + a) V) (12 * D) := ⟨by omega, by rw [Int.natAbs_natCast, Int.natAbs_natCast]; exact y5, by
    rw [em, show (12 : Int) * D = ((12 * D.toNat : Nat) : Int) by rw [Int.natCast_mul, Int.toNat_of_nonneg (by omega)]; rfl, ← Int.natCast_mul, ← Int.natCast_mul, y6]⟩
  have fin : ∀ r, r = lI (if p3 = 0 then (u : Int) else (v : Int)) → Q (some (vL r)) m2 := fun r hr => hQ m1 m2 r g1 (fdM_40 y1) (ex r ⟨fun z => absurd hl z, fun _ => ⟨X, Y, hX, hY, fun z => by omega, fun _ => ⟨V, D, u, v, hK, by rw [hcl, hcl2]; exact hlow, hr⟩⟩⟩)
  exact ⟨fun h => fin _ (by rw [if_neg h]; exact y3), fun h => fin _ (by rw [if_pos h]; exact y2)⟩
end L99G
