/-! THE GUIDE (4): choice(), distance(), sum(), the class's calls (wip/whole/src/99.uD.src) -/
section L99D
variable {xs : Nat × (Nat → Int32)} {d : Nat} {Q : Option v2 → Mem → Prop} {m : Mem} {S : Sys}
theorem CV_off {m m' : Mem} {T : Nat → Nat → Prop} {ver i : Nat} {l : Bool} (h : off T m m') (hT : ∀ t, t = 7 ∨ t = 8 ∨ t = 9 ∨ t = 15 → ¬ T t i) (hC : CV m S ver l i) : CV m' S ver l i := CV_eq (h 7 i (hT 7 (by omega))).1 (h 8 i (hT 8 (by omega))).1 (h 9 i (hT 9 (by omega))).1 (h 15 i (hT 15 (by omega))).2 (h 7 i (hT 7 (by omega))).2 hC
theorem set_V {X Y i : Nat} {l : Bool} (h : settledV m S l i X Y) (h5 : cntB (ndiff Y X) ≤ 5) (h2 : sorted m S l i X Y) (hl : l = false) : ∃ V D, vKb S X Y V D ∧ (∀ t, t < sN S → m.2 15 i t = lI (V t)) ∧ m.2 7 i 7 = lI D := by
  obtain ⟨w, V, D, f1, f2, f3, f4, f5, f6⟩ := h.2 h5
  subst hl
  exact ⟨V, D, ⟨⟨h2.2.2.1, h2.2.2.2, ⟨w, f1⟩, f6⟩, f4, f5⟩, f2, f3⟩
theorem RC_Gu {m' : Mem} (h : offI tGu m m') (hw : wf S) (hR : RC m S) : RC m' S := RC_off h.1 (by unfold tGu; omega) (by unfold tGu; omega) (fun x _ => by unfold tGu; omega) (fun x _ => by unfold tGu; omega) (fun x _ => by unfold tGu; omega) hw hR
theorem c_choice {ver : Nat} {p : Int32} (hR : RC m S) (hw : wf S) (hver : m.1 1 0 2 = nI ver) (hv : ver < 2 ^ 31) (hC : CV m S ver false 0) (hG : GC m S ver) (hQ : ∀ m1 m' r, off (tSe 0) m m1 → CV m1 S ver false 0 → (m1 = m ∨ ∃ X Y, sorted m1 S false 0 X Y) → offI tGu m1 m' → GC m' S ver → choR S p r → Q (some (vI r)) m') : callW2 xs (d + 7) 86 [vR 0 0, vI p] m Q := by
  have h3 := wf_n hw
  refine eX11_choice m _ (W2_st (bX11_choice_0 m _ ?_))
  refine c_hasA hR hw p (nI 0) ⟨_, rfl, ?_⟩
  rw [bI_0]
  refine ⟨fun hac => ?_, fun hac => hQ m m _ (off_rfl _ _) hC (Or.inl rfl) (offI_rfl _ _) hG ⟨fun _ => rfl, fun z => (by rw [hac] at z; cases z)⟩⟩
  rw [Bool.not_eq_false] at hac
  obtain ⟨s, a, hs, ha, ha4, e3, e4⟩ := isAc_t hw hac
  have hcl : p.toNatClampNeg = s := by rw [e3, nI_clamp (by omega)]
  have ex : ∀ r, rfR S (r = -2) (r = -3) (fun X Y => ∃ V D, vKb S X Y V D ∧ choA S V p.toNatClampNeg r) → choR S p r := fun r h => ⟨fun z => (by rw [hac] at z; cases z), fun _ => h⟩
  refine c_refusal hR hw hver hv hC (fun hl => ⟨_, rfl, fun z => absurd z (by decide), fun _ => ?_⟩) (fun X Y m2 hl g1 g2 g3 g4 => ⟨fun h6 => ⟨_, rfl, fun z => absurd z (by decide), fun _ => ?_⟩, fun h5 => ⟨_, rfl, fun _ => ?_, fun z => absurd rfl z⟩⟩)
  · exact hQ m m _ (off_rfl _ _) hC (Or.inl rfl) (offI_rfl _ _) hG (ex _ ⟨fun _ => rfl, fun z => absurd z hl⟩)
  · exact hQ m2 m2 _ g1 g2 (Or.inr ⟨X, Y, g3⟩) (offI_rfl _ _) (GC_eq (g1 16 0 (by unfold tSe; omega)).1 (g1 17 0 (by unfold tSe; omega)).1 hG) (ex _ ⟨fun z => absurd hl z, fun _ => ⟨X, Y, g3.2.2.1, g3.2.2.2, fun _ => rfl, fun z => by omega⟩⟩)
  · obtain ⟨V, D, k1, k2, k3⟩ := set_V g4 h5 g3 rfl
    have hf := full_lack hw hl
    have hR2 := RC_S g1 hw hR
    refine c_guide hR2 hw hf (by rw [(g1 1 0 (by unfold tSe; omega)).1]; exact hver) hv (GC_eq (g1 16 0 (by unfold tSe; omega)).1 (g1 17 0 (by unfold tSe; omega)).1 hG) k1.1 k2 k1.2.1 (fun m3 f1 f2 f3 => ⟨rfl, ?_⟩)
    rw [e3]
    refine c_pick (RC_Gu f1 hw hR2) hw hf hs (by omega) k1.1 (by rw [f1.2]; exact k2) k1.2.1 (by rw [(f1.1 7 0 (by unfold tGu; omega)).1]; exact g3.2.1) f3 (fun r hr => ⟨_, rfl, ?_⟩)
    exact hQ m2 m3 r g1 g2 (Or.inr ⟨X, Y, g3⟩) f1 f2 (ex _ ⟨fun z => absurd hl z, fun _ => ⟨X, Y, g3.2.2.1, g3.2.2.2, fun z => by omega, fun _ => ⟨V, D, k1, by rw [hcl]; exact hr⟩⟩⟩)
theorem c_distance {ver : Nat} {p : Int32} (hR : RC m S) (hw : wf S) (hver : m.1 1 0 2 = nI ver) (hv : ver < 2 ^ 31) (hC : CV m S ver false 0) (hG : GC m S ver) (hQ : ∀ m1 m' r, off (tSe 0) m m1 → CV m1 S ver false 0 → (m1 = m ∨ ∃ X Y, sorted m1 S false 0 X Y) → offI tGu m1 m' → GC m' S ver → disR S p r → Q (some (vI r)) m') : callW2 xs (d + 7) 87 [vR 0 0, vI p] m Q := by
  have h3 := wf_n hw
  refine eX11_distance m _ (W2_st (bX11_distance_0 m _ ?_))
  refine c_hasS hR hw p ⟨_, rfl, ?_⟩
  rw [bI_0]
  refine ⟨fun hac => ?_, fun hac => hQ m m _ (off_rfl _ _) hC (Or.inl rfl) (offI_rfl _ _) hG ⟨fun _ => rfl, fun z => (by rw [hac] at z; cases z)⟩⟩
  rw [Bool.not_eq_false] at hac
  obtain ⟨s, hs, e3⟩ := isSt_t hw hac
  have hcl : p.toNatClampNeg = s := by rw [e3, nI_clamp (by omega)]
  have ex : ∀ r, rfR S (r = -2) (r = -3) (fun X Y => ∃ V D, vKb S X Y V D ∧ (V p.toNatClampNeg = 0 → r = -4) ∧ (0 < V p.toNatClampNeg → ∃ k, dst S V p.toNatClampNeg k ∧ r = nI k)) → disR S p r := fun r h => ⟨fun z => (by rw [hac] at z; cases z), fun _ => h⟩
  refine c_refusal hR hw hver hv hC (fun hl => ⟨_, rfl, fun z => absurd z (by decide), fun _ => ?_⟩) (fun X Y m2 hl g1 g2 g3 g4 => ⟨fun h6 => ⟨_, rfl, fun z => absurd z (by decide), fun _ => ?_⟩, fun h5 => ⟨_, rfl, fun _ => ?_, fun z => absurd rfl z⟩⟩)
  · exact hQ m m _ (off_rfl _ _) hC (Or.inl rfl) (offI_rfl _ _) hG (ex _ ⟨fun _ => rfl, fun z => absurd z hl⟩)
  · exact hQ m2 m2 _ g1 g2 (Or.inr ⟨X, Y, g3⟩) (offI_rfl _ _) (GC_eq (g1 16 0 (by unfold tSe; omega)).1 (g1 17 0 (by unfold tSe; omega)).1 hG) (ex _ ⟨fun z => absurd hl z, fun _ => ⟨X, Y, g3.2.2.1, g3.2.2.2, fun _ => rfl, fun z => by omega⟩⟩)
  · obtain ⟨V, D, k1, k2, k3⟩ := set_V g4 h5 g3 rfl
    have hf := full_lack hw hl
    have hR2 := RC_S g1 hw hR
    have hG2 : GC m2 S ver := GC_eq (g1 16 0 (by unfold tSe; omega)).1 (g1 17 0 (by unfold tSe; omega)).1 hG
    have hlo : ndiff (fullB (sN S)) Y < 1024 := sub_lt (fun i hi => by
      rw [ndiff_bit, Bool.and_eq_true, fullB_bit] at hi
      exact of_decide_eq_true hi.1) h3
    have hYs := vK_Y k1.1 hs
    have hnn := vK_nn k1.1 s hs
    rw [g3.2.1, e3]
    refine c_has (by omega) (by omega) ⟨_, rfl, ?_⟩
    rw [bI_0, ndiff_bit, fullB_bit, decide_eq_true hs, Bool.true_and]
    refine ⟨fun hy => ?_, fun hy => ?_⟩
    · have hy : Y.testBit s = true := by
        cases q : Y.testBit s with
        | true => rfl
        | false => rw [q] at hy; cases hy
      refine c_guide hR2 hw hf (by rw [(g1 1 0 (by unfold tSe; omega)).1]; exact hver) hv hG2 k1.1 k2 k1.2.1 (fun m3 f1 f2 f3 => ⟨rfl, inb_nI (by omega) (by omega), ?_⟩)
      rw [nI_clamp (n := s) (by omega)]
      have hp := hYs.mpr hy
      rcases f3 s hs with ⟨k, q1, q2, q3⟩ | ⟨q1, q2⟩
      · exact hQ m2 m3 _ g1 g2 (Or.inr ⟨X, Y, g3⟩) f1 f2 (ex _ ⟨fun z => absurd hl z, fun _ => ⟨X, Y, g3.2.2.1, g3.2.2.2, fun z => by omega, fun _ => ⟨V, D, k1, by rw [hcl]; exact ⟨fun z => by omega, fun _ => ⟨k, q2, q3⟩⟩⟩⟩⟩)
      · obtain ⟨k, hk⟩ := nt_all hw hf k1.1 hs hp
        rw [q1 k] at hk; cases hk
    · have hy : ¬ 0 < V s := fun z => by rw [hYs.mp z] at hy; exact hy rfl
      exact hQ m2 m2 _ g1 g2 (Or.inr ⟨X, Y, g3⟩) (offI_rfl _ _) hG2 (ex _ ⟨fun z => absurd hl z, fun _ => ⟨X, Y, g3.2.2.1, g3.2.2.2, fun z => by omega, fun _ => ⟨V, D, k1, by rw [hcl]; exact ⟨fun _ => rfl, fun z => absurd z hy⟩⟩⟩⟩)
theorem c_sum {ver : Nat} {p q p3 : Int32} (hR : RC m S) (hw : wf S) (hver : m.1 1 0 2 = nI ver) (hv : ver < 2 ^ 31) (hC : CV m S ver false 0) (hQ : ∀ m' r, off (tSe 0) m m' → CV m' S ver false 0 → (m' = m ∨ ∃ X Y, sorted m' S false 0 X Y) → sumR S p q p3 r → Q (some (vL r)) m') : callW2 xs (d + 7) 88 [vR 0 0, vI p, vI q, vI p3] m Q := by
  have h3 := wf_n hw
  refine eX11_sum m _ _ _ (W2_st (bX11_sum_0 m _ _ _ ?_))
  have no : ¬ (isAc S p q = true ∧ in01 p3) → Q (some (vL (-1 : Int64))) m := fun h => hQ m _ (off_rfl _ _) hC (Or.inl rfl) ⟨fun _ => rfl, fun z => absurd z h⟩
  refine c_hasA hR hw p q ⟨_, rfl, ?_⟩
  rw [bI_0]
  refine ⟨fun hac => no (fun z => by rw [hac] at z; exact absurd z.1 (by decide)), fun hac => ?_⟩
  rw [Bool.not_eq_false] at hac
  refine c_isHalf p3 ⟨_, rfl, ?_⟩
  rw [bI_0, decide_eq_false_iff_not]
  refine ⟨fun hin => ?_, fun hin => no (fun z => hin (in01_iff.mp z.2))⟩
  rw [Decidable.not_not] at hin
  have hin' : in01 p3 := in01_iff.mpr hin
  obtain ⟨s, a, hs, ha, ha4, e3, e4⟩ := isAc_t hw hac
  have hcl : p.toNatClampNeg = s := by rw [e3, nI_clamp (by omega)]
  have hcl2 : q.toNatClampNeg = a := by rw [e4, nI_clamp (by omega)]
  have ex : ∀ r, rfR S (r = -2) (r = -3) (fun X Y => ∃ V D u v, vKb S X Y V D ∧ low u v (meanS S (4 * p.toNatClampNeg + q.toNatClampNeg) V) (12 * D) ∧ r = lI (if p3 = 0 then u else v)) → sumR S p q p3 r := fun r h => ⟨fun z => absurd ⟨hac, hin'⟩ z, fun _ => h⟩
  refine c_refusal hR hw hver hv hC (fun hl => ⟨_, rfl, fun z => absurd z (by decide), fun _ => ?_⟩) (fun X Y m2 hl g1 g2 g3 g4 => ⟨fun h6 => ⟨_, rfl, fun z => absurd z (by decide), fun _ => ?_⟩, fun h5 => ⟨_, rfl, fun _ => ?_, fun z => absurd rfl z⟩⟩)
  · exact hQ m _ (off_rfl _ _) hC (Or.inl rfl) (ex _ ⟨fun _ => rfl, fun z => absurd z hl⟩)
  · exact hQ m2 _ g1 g2 (Or.inr ⟨X, Y, g3⟩) (ex _ ⟨fun z => absurd hl z, fun _ => ⟨X, Y, g3.2.2.1, g3.2.2.2, fun _ => rfl, fun z => by omega⟩⟩)
  · obtain ⟨V, D, k1, k2, k3⟩ := set_V g4 h5 g3 rfl
    have hD := vK_D k1.1
    have hDb := k1.2.2
    have hmb := mean_bd hw k1.2.1 hs ha
    have hm0 : 0 ≤ meanS S (4 * s + a) V := sumI_nn (fun o ho => Int.mul_nonneg (Int.natCast_nonneg _) (vK_nn k1.1 _ (wf_t hw (isA_s hw hs ha) ho)))
    rw [e3, e4]
    refine c_actS hw hs ha ⟨_, rfl, ?_⟩
    refine c_meanS (RC_S g1 hw hR) hw (isA_s hw hs ha) k2 ⟨_, rfl, ?_⟩
    rw [k3, lI_N, lI_mul]
    refine c_lowest hm0 (by omega) (by omega) (by omega) (fun u v hlow => ⟨_, rfl, ?_⟩)
    exact hQ m2 _ g1 g2 (Or.inr ⟨X, Y, g3⟩) (ex _ ⟨fun z => absurd hl z, fun _ => ⟨X, Y, g3.2.2.1, g3.2.2.2, fun z => by omega, fun _ => ⟨V, D, u, v, k1, by rw [hcl, hcl2]; exact hlow, rfl⟩⟩⟩)
end L99D
