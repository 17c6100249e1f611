/-! CONTRACTS (48): mark() (wip/whole/src/99.sysD.src) -/
section L99d
variable {xs : Nat × (Nat → Int32)} {d : Nat} {Q : Option v2 → Mem → Prop} {m : Mem} {S : Sys}
def mrkOK (S : Sys) (p : Int32) : Prop := ∃ b, sub_n b (sN S) ∧ p = nI b
theorem ndiff_le (a b : Nat) : ndiff a b ≤ a := bsub_le (fun i q => by rw [ndiff_bit, Bool.and_eq_true] at q; exact q.1)
theorem ndiff_0 {a n : Nat} : ndiff a (fullB n) = 0 ↔ sub_n a n := by
  constructor
  · intro h i hi
    have h1 := ndiff_bit a (fullB n) i
    rw [h, Nat.zero_testBit, hi, fullB_bit] at h1
    by_cases q : i < n
    · exact q
    · rw [decide_eq_false q] at h1; cases h1
  · intro h
    apply Nat.eq_of_testBit_eq
    intro i
    rw [ndiff_bit, Nat.zero_testBit, fullB_bit]
    cases q : a.testBit i with
    | false => rfl
    | true => rw [decide_eq_true (h i q)]; rfl
theorem nI_z32 {x : Nat} (h : x < 2 ^ 32) : nI x = 0 ↔ x = 0 := by
  constructor
  · intro e
    have h1 := congrArg (fun z : Int32 => z.toBitVec.toNat) e
    have h2 : (nI x).toBitVec.toNat = x % 2 ^ 32 := rfl
    have h3 : (0 : Int32).toBitVec.toNat = 0 := rfl
    simp only [h2, h3] at h1
    omega
  · intro e; rw [e]; rfl
theorem sub_pow {b n : Nat} (h : sub_n b n) : b < 2 ^ n := Nat.lt_pow_two_of_testBit _ (fun i hi => by
  cases q : b.testBit i with
  | false => rfl
  | true => have := h i q; omega)
theorem pow_sub {b n : Nat} (h : b < 2 ^ n) : sub_n b n := fun i q => by
  rcases Nat.lt_or_ge i n with r | r
  · exact r
  · rw [Nat.testBit_lt_two_pow (Nat.lt_of_lt_of_le h (Nat.pow_le_pow_right (by decide) r))] at q; cases q
theorem mrk_c (hw : wf S) {p : Int32} : p &&& (nI (fullB (sN S)) ^^^ (-1 : Int32)) = 0 ↔ mrkOK S p := by
  have h3 := wf_n hw
  have e := nI_tb p
  have hlt : p.toBitVec.toNat < 2 ^ 32 := p.toBitVec.isLt
  constructor
  · intro h
    rw [e, nI_diff, nI_z32 (Nat.lt_of_le_of_lt (ndiff_le _ _) hlt), ndiff_0] at h
    exact ⟨_, h, e⟩
  · rintro ⟨b, h1, h2⟩
    rw [h2, nI_diff, ndiff_0.mpr h1]
    rfl
theorem mrk_r (hw : wf S) {p : Int32} : (¬ p.toInt < 0 ∧ p.toInt < ((2 ^ sN S : Nat) : Int)) ↔ mrkOK S p := by
  have h3 := wf_n hw
  have hp : 2 ^ sN S ≤ 2 ^ 10 := Nat.pow_le_pow_right (by decide) h3
  constructor
  · rintro ⟨h1, h2⟩
    obtain ⟨k, hk, e⟩ := int_nI p _ (by omega) h2 (by omega)
    exact ⟨k, pow_sub hk, e⟩
  · rintro ⟨b, h1, h2⟩
    have h4 := sub_pow h1
    rw [h2, nI_toInt (by omega)]
    omega
theorem c_mark {ver : Nat} {p : Int32} (hR : RC m S) (hw : wf S) (hver : m.1 1 0 2 = nI ver) (hN : ¬ mrkOK S p → Q (some (vI (-1))) m) (hQ : ∀ b m', sub_n b (sN S) → p = nI b → off tU m m' → RC m' (markS S b) → m'.1 1 0 2 = nI (ver + 1) → Q (some (vI (nI (cntB b)))) m') : callW2 xs (d + 2) 83 [vR 0 0, vI p] m Q := by
  have h3 := wf_n hw
  refine eX11_mark m _ (W2_st (bX11_mark_0 m _ ?_))
  refine c_everyone hR hw ⟨_, rfl, ?_⟩
  rw [mrk_c hw]
  refine ⟨fun h => ?_, hN⟩
  obtain ⟨b, hb, e⟩ := h
  have hb10 := sub_lt hb h3
  refine eX10_setMarked m _ (W2_st (bX10_setMarked_0 m _ ⟨rfl, ?_⟩))
  rw [hver, nI_add, e]
  refine c_bitCount hb10 ⟨_, rfl, hQ b _ hb e (off_I (off_I (off_rfl _ _) _ _ (by unfold tU; omega)) _ _ (by unfold tU; omega)) (RC_set hR (fun s hs _ => ⟨hs, Nat.le_refl _⟩) (off_I (off_I (off_rfl _ _) _ _ (by omega)) _ _ (by omega)) ?_ ?_ (fun s hs => ?_) (fun s hs h10 => ?_)) ?_⟩
  · rw [mI_r, if_neg (by omega), mI_r, if_neg (by omega)]; exact rc_n hR
  · rw [mI_r, if_pos ⟨rfl, rfl, rfl⟩]
  · rw [mI_r, if_neg (by omega), mI_r, if_neg (by omega)]; exact rc_a hR hs
  · rw [mI_r, if_neg (by omega), mI_r, if_neg (by omega)]; exact rc_a0 hR hs h10
  · rw [mI_r, if_neg (by omega), mI_r, if_pos ⟨rfl, rfl, rfl⟩]
theorem cntU_n {b n : Nat} (hb : sub_n b n) (hn : n ≤ 10) : cntU b n = cntB b := by
  have h1 := sumU_mono (f := fun i => (b.testBit i).toNat) (k := n) (n := 10) hn
  have h2 : ¬ cntU b n < cntU b 10 := by
    intro z
    obtain ⟨s, q1, q2, q3⟩ := cntU_ex 10 z
    have q5 := cntU_lt (hb s q2) q2
    omega
  unfold cntB cntU at *
  omega
theorem r_mark {p : Int32} (hR : RM m S) (hw : wf S) (hN : ¬ mrkOK S p → Q (some (vI (-1))) (mI m 40 0 0 (nI 0))) (hQ : ∀ b m', sub_n b (sN S) → p = nI b → off tUM m m' → m'.1 40 0 0 = nI 0 → RM m' (markS S b) → Q (some (vI (nI (cntB b)))) m') : callW2 xs (d + 1) 123 [vR 40 0, vI p] m Q := by
  have h3 := wf_n hw
  refine eX12_mark m _ (W2_st (bX12_mark_0 m _ ?_))
  have hRo := RM_0 (v := nI 0) hR
  have o1 : off tUM m (mI m 40 0 0 (nI 0)) := off_I (off_rfl _ _) _ _ (by unfold tUM; omega)
  have z0 : (mI m 40 0 0 (nI 0)).1 40 0 0 = nI 0 := by rw [mI_r, if_pos ⟨rfl, rfl, rfl⟩]
  generalize mI m 40 0 0 (nI 0) = mo at hRo hN o1 z0 ⊢
  have hp : 2 ^ sN S ≤ 2 ^ 10 := Nat.pow_le_pow_right (by decide) h3
  rw [rm_n hRo, one_shl (by omega), i_neg, i_lt2 (by omega)]
  refine ⟨fun h => hN (fun z => ((mrk_r hw).mpr z).1 h), fun h1 => ⟨fun h2 => ?_, fun h => hN (fun z => h ((mrk_r hw).mpr z).2)⟩⟩
  obtain ⟨b, hb, e⟩ := (mrk_r hw).mp ⟨h1, h2⟩
  have hb10 := sub_lt hb h3
  subst e
  have hfin := hQ b (mI mo 40 0 2 (nI b)) hb rfl (off_I o1 _ _ (by unfold tUM; omega)) (by rw [mI_r, if_neg (by omega)]; exact z0) (RM_set hRo (fun s hs _ => ⟨hs, Nat.le_refl _⟩) (off_I (off_rfl _ _) _ _ (by omega)) (by rw [mI_r, if_neg (by omega)]; exact rm_n hRo) (by rw [mI_r, if_pos ⟨rfl, rfl, rfl⟩]) (fun s hs => by rw [mI_r, if_neg (by omega)]; exact rm_a hRo hs))
  have en : (mI mo 40 0 2 (nI b)).1 40 0 1 = nI (sN S) := by rw [mI_r, if_neg (by omega)]; exact rm_n hRo
  generalize mI mo 40 0 2 (nI b) = mf at hfin en ⊢
  refine upto (P := fun s => (W2 xs (callW2 xs d) tX12_mark [20] (some .int) Q 20 [some (vR 40 0), some (vI (nI b)), some (vI (nI (cntU b s))), some (vI (nI s))] [] (mf))) (sN S) ?_ ?_ 0 (Nat.zero_le _)
  · refine W2_st (bX12_mark_20 mf _ _ _ ?_)
    rw [en, nI_leI (by omega) (by omega), cntU_n hb h3]
    exact ⟨fun _ => hfin, fun z => absurd (Nat.le_refl _) z⟩
  · intro s hs ih
    refine W2_st (bX12_mark_20 mf _ _ _ ?_)
    rw [en, nI_leI (by omega) (by omega), shr_bit (by omega) (by omega), toNat_cnt, nI_add, nI_add]
    exact ⟨fun z => by omega, fun _ => ih⟩
end L99d
