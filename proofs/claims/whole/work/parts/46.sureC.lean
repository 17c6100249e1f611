/-! CONTRACTS (5): what is sure and what can't be: the class (wip/whole/src/46.sureC.src) -/
section L46
variable {xs : Nat × (Nat → Int32)} {d : Nat} {Q : Option v2 → Mem → Prop} {m : Mem} {S : Sys}
theorem RC_off {m m' : Mem} {T : Nat → Nat → Prop} (h : off T m m') (h1 : ¬ T 1 0) (h2 : ¬ T 2 0) (h4 : ∀ x, x < 40 → ¬ T 4 x) (h5 : ∀ x, x < 40 → ¬ T 5 x) (h6 : ∀ x, x < 40 → ¬ T 6 x) (hw : wf S) (hR : RC m S) : RC m' S := by
  refine ⟨?_, ?_, ?_, ?_, ?_⟩
  · rw [(h 1 0 h1).1]; exact rc_n hR
  · rw [(h 1 0 h1).1]; exact rc_m hR
  · intro s hs; rw [(h 2 0 h2).1]; exact rc_a hR hs
  · intro s hs hs2; rw [(h 2 0 h2).1]; exact rc_a0 hR hs hs2
  · intro x hx
    have hx4 := wf_40 hw hx
    unfold RCa
    rw [(h 4 x (h4 x hx4)).1, (h 5 x (h5 x hx4)).1, (h 6 x (h6 x hx4)).1]
    exact rc_x hR hx
theorem RM_off {m m' : Mem} {T : Nat → Nat → Prop} (h : off T m m') (h0 : ¬ T 40 0) (h1 : ¬ T 41 0) (h2 : ¬ T 42 0) (h3 : ¬ T 43 0) (h4 : ¬ T 44 0) (h5 : ¬ T 45 0) (h6 : ¬ T 46 0) (hR : RM m S) : RM m' S := by
  unfold RM RMa at hR ⊢
  rw [(h 40 0 h0).1, (h 41 0 h1).1, (h 42 0 h2).1, (h 43 0 h3).1, (h 44 0 h4).1, (h 45 0 h5).1, (h 46 0 h6).1]
  exact hR
/-- cells of the ways of index i alone -/
def tW (i : Nat) : Nat → Nat → Prop := fun t j => t = 9 ∧ j = i
/-- the same, and no long has changed -/
def offI (T : Nat → Nat → Prop) (m m' : Mem) : Prop := off T m m' ∧ m'.2 = m.2
theorem offI_rfl (T : Nat → Nat → Prop) (m : Mem) : offI T m m := ⟨off_rfl _ _, rfl⟩
theorem offI_trans {T : Nat → Nat → Prop} {a b c : Mem} (h : offI T a b) (h2 : offI T b c) : offI T a c := ⟨off_trans h.1 h2.1, h2.2.trans h.2⟩
theorem offI_sub {T T' : Nat → Nat → Prop} {a b : Mem} (h : offI T a b) (hs : ∀ t i, T t i → T' t i) : offI T' a b := ⟨off_sub h.1 hs, h.2⟩
theorem offI_I {T : Nat → Nat → Prop} {a b : Mem} (h : offI T a b) {t i : Nat} (k : Nat) (v : Int32) (hT : T t i) : offI T a (mI b t i k v) := ⟨off_I h.1 _ _ hT, h.2⟩
theorem RC_W {m' : Mem} {i : Nat} (h : offI (tW i) m m') (hw : wf S) (hR : RC m S) : RC m' S := RC_off h.1 (by unfold tW; omega) (by unfold tW; omega) (fun x _ => by unfold tW; omega) (fun x _ => by unfold tW; omega) (fun x _ => by unfold tW; omega) hw hR
/-- Ways.join(s, field, near) -/
theorem c_join (hR : RC m S) (hw : wf S) {i s f z : Nat} (hs : s < sN S) (hz : z < 1024) (l : Bool) (hl : m.1 8 i 1 = bI l) (hQ : ∀ v m', offI (tW i) m m' → (∀ t, t ≠ s → m'.1 9 i t = m.1 9 i t) → m'.1 9 i s = nI v → (leadS S l f z s = true → v < sA S s ∧ (wantS S l s = true → leadA S f z (4 * s + v) = true)) → Q (some (vI (bI (leadS S l f z s)))) m') : callW2 xs (d + 3) 58 [vR 8 i, vI (nI s), vI (nI f), vI (nI z)] m Q := by
  have h3 := wf_n hw
  have h4 := wf_a hw hs
  refine eX9_join m _ _ _ _ (W2_st (bX9_join_0 m _ _ _ _ ?_))
  rw [hl]
  refine c_seeks hR hw hs l ⟨_, rfl, ?_⟩
  rw [nI_clamp (by omega)]
  refine ⟨inb_nI (by omega) (by omega), ?_⟩
  have hwr : ∀ (m0 : Mem) (v : Nat), offI (tW i) m m0 → (∀ t, t ≠ s → m0.1 9 i t = m.1 9 i t) → offI (tW i) m (mI m0 9 i s (nI v)) ∧ (∀ t, t ≠ s → (mI m0 9 i s (nI v)).1 9 i t = m.1 9 i t) ∧ (mI m0 9 i s (nI v)).1 9 i s = nI v := by
    intro m0 v h1 h2
    refine ⟨offI_I h1 _ _ ⟨rfl, rfl⟩, fun t ht => ?_, ?_⟩
    · rw [mI_r, if_neg (fun z => ht z.2.2)]; exact h2 t ht
    · rw [mI_r, if_pos ⟨rfl, rfl, rfl⟩]
  obtain ⟨hm1, hm2, hm3⟩ := hwr m 0 (offI_rfl _ _) (fun _ _ => rfl)
  generalize hm0 : mI m 9 i s (nI 0) = m0 at hm1 hm2 hm3
  have hR0 := RC_W hm1 hw hR
  have key : ∀ a, a ≤ sA S s → ∀ o6 o7, (∀ b, b < a → leadA S f z (4 * s + b) = ! wantS S l s) → (W2 xs (callW2 xs (d + 2)) tX9_join [14] (some .boolean) Q 14 [some (vR 8 (i)), some (vI (nI s)), some (vI (nI f)), some (vI (nI z)), some (vI (bI (wantS S l s))), some (vI (nI a)), (o6), (o7)] [] (m0)) := by
    refine upto (sA S s) ?_ ?_
    · intro o6 o7 hb
      refine W2_st (bX9_join_14 m0 _ _ _ _ _ _ _ _ ?_)
      simp (disch := omega) only [rc_a hR0 hs, nI_leI, nI_clamp, inb_iff, bI_0]
      refine ⟨by omega, fun _ => ⟨fun hq => ⟨isB0, ?_⟩, fun hq => ⟨by omega, ?_⟩⟩, fun z => absurd (Nat.le_refl _) z⟩
      · have hL : leadS S l f z s = false := by
          unfold leadS
          rw [Bool.not_eq_false] at hq
          rw [hq] at hb ⊢
          cases h5 : anyU (fun a => leadA S f z (4 * s + a)) (sA S s) with
          | false => rfl
          | true =>
            obtain ⟨a, ha, e⟩ := anyU_iff.mp h5
            rw [hb a ha] at e
            cases e
        have := hQ 0 m0 hm1 hm2 hm3 (fun z => by rw [hL] at z; cases z)
        rw [hL] at this
        exact this
      · rw [z_le (by omega)]
        have hL : leadS S l f z s = decide (0 < sA S s) := by
          unfold leadS
          rw [hq] at hb ⊢
          show (_ && _) = _
          rw [allU_iff.mpr (fun a ha => by rw [hb a ha]; rfl), Bool.and_true]
        refine ⟨fun h0 => ⟨isB0, ?_⟩, fun h0 => ⟨isB1, ?_⟩⟩
        · have := hQ 0 m0 hm1 hm2 hm3 (fun z => by rw [hL, h0] at z; cases z)
          rw [hL, h0] at this
          exact this
        · have := hQ 0 m0 hm1 hm2 hm3 (fun _ => ⟨by omega, fun z => by rw [hq] at z; cases z⟩)
          rw [hL, decide_eq_true (show 0 < sA S s by omega)] at this
          exact this
    · intro a ha ih o6 o7 hb
      refine W2_st (bX9_join_14 m0 _ _ _ _ _ _ _ _ ?_)
      have hx := isA_mk hs ha (by omega)
      simp (disch := omega) only [rc_a hR0 hs, nI_leI, nI_clamp, inb_iff, nI_add]
      refine ⟨by omega, fun z => by omega, fun _ => c_actS hw hs ha ⟨_, rfl, c_staysIn hR0 hx hw ⟨_, rfl, ?_⟩⟩⟩
      have hgl := goes_lt hw hx
      simp (disch := first | omega | exact Nat.lt_trans (and_lt hgl) (by omega)) only [rc_g hR0 hx, nI_and, z_eq, goes_some]
      have fin : ∀ b : Bool, leadA S f z (4 * s + a) = b → b = (! wantS S l s) → ∀ o6 o7, (W2 xs (callW2 xs (d + 2)) tX9_join [14] (some .boolean) Q 14 [some (vR 8 (i)), some (vI (nI s)), some (vI (nI f)), some (vI (nI z)), some (vI (bI (wantS S l s))), some (vI (nI (a + 1))), (o6), (o7)] [] (m0)) := by
        intro b e1 e2 o6 o7
        refine ih o6 o7 (fun b' hb' => ?_)
        rcases Nat.lt_or_ge b' a with q | q
        · exact hb b' q
        · rw [show b' = a by omega, e1, e2]
      have yes : wantS S l s = true → leadA S f z (4 * s + a) = true → Q (some (vI (nI 1))) (mI m0 9 i s (nI a)) := by
        intro e1 e2
        have hL : leadS S l f z s = true := by
          unfold leadS
          rw [e1]
          exact anyU_iff.mpr ⟨a, ha, e2⟩
        obtain ⟨g1, g2, g3⟩ := hwr m0 a hm1 hm2
        have := hQ a _ g1 g2 g3 (fun _ => ⟨ha, fun _ => e2⟩)
        rw [hL] at this
        exact this
      have no : wantS S l s = false → leadA S f z (4 * s + a) = false → Q (some (vI (nI 0))) m0 := by
        intro e1 e2
        have hL : leadS S l f z s = false := by
          unfold leadS
          rw [e1]
          show (_ && _) = false
          cases h5 : allU (fun a => leadA S f z (4 * s + a)) (sA S s) with
          | false => rw [Bool.and_false]
          | true => rw [allU_iff.mp h5 a ha] at e2; cases e2
        have := hQ 0 m0 hm1 hm2 hm3 (fun z => by rw [hL] at z; cases z)
        rw [hL] at this
        exact this
      unfold leadA at fin yes no
      cases hA : allInS S (4 * s + a) f <;> cases hB : someInS S (4 * s + a) z <;> cases hq : wantS S l s <;> (rw [hA, hB, hq] at fin yes no; simp only [bI_t, bI_f, nI_00, nI_10, e01, e10, isB0n, isB1n, not_true_eq_false, not_false_eq_true, imp_false0, true_imp, false_imp, true_and, and_true, reduceCtorEq])
      · exact no rfl rfl
      · exact fin false rfl rfl _ _
      · exact no rfl rfl
      · exact fin false rfl rfl _ _
      · exact no rfl rfl
      · exact fin false rfl rfl _ _
      · exact fin true rfl rfl _ _
      · exact ⟨by omega, yes rfl rfl⟩
  exact key 0 (Nat.zero_le _) _ _ (fun b hb => by omega)
/-- the ways w of those who want lead on, from set to set -/
def okw (S : Sys) (l : Bool) (f : Nat) (w : Nat → Nat) (s : Nat) : Prop := s < sN S ∧ w s < sA S s ∧ (wantS S l s = true → allInS S (4 * s + w s) f = true)
def ranked (S : Sys) (l : Bool) (f z : Nat) (w : Nat → Nat) : Prop := (∀ s, z.testBit s = true → (sM S).testBit s = false → okw S l f w s) ∧ ∀ C : Nat → Prop, (∃ s, C s) → (∀ s, C s → z.testBit s = true ∧ (sM S).testBit s = false) → ∃ s, C s ∧ (wantS S l s = true → ∃ o, o < sO S (4 * s + w s) ∧ z.testBit (sT S (4 * s + w s) o) = true ∧ ¬ C (sT S (4 * s + w s) o)) ∧ (wantS S l s = false → ∀ a, a < sA S s → ∃ o, o < sO S (4 * s + a) ∧ z.testBit (sT S (4 * s + a) o) = true ∧ ¬ C (sT S (4 * s + a) o))
theorem ranked_0 {l : Bool} {f : Nat} {w : Nat → Nat} : ranked S l f (sM S) w := by
  refine ⟨fun s h1 h2 => (by rw [h1] at h2; cases h2), fun C hC h => ?_⟩
  obtain ⟨s, hs⟩ := hC
  have := h s hs
  rw [this.1] at this
  cases this.2
theorem ranked_same {l : Bool} {f z : Nat} {w w' : Nat → Nat} (h : ranked S l f z w) (he : ∀ s, z.testBit s = true → w' s = w s) : ranked S l f z w' := by
  refine ⟨fun s h1 h2 => ?_, fun C hC hz => ?_⟩
  · have := h.1 s h1 h2
    unfold okw at this ⊢
    rw [he s h1]
    exact this
  · obtain ⟨s, h1, h2, h3⟩ := h.2 C hC hz
    refine ⟨s, h1, ?_, h3⟩
    rw [he s (hz s h1).1]
    exact h2
theorem ranked_add {l : Bool} {f z s : Nat} {w : Nat → Nat} (hw : wf S) (hs : s < sN S) (h : ranked S l f z w) (hzs : z.testBit s = false) (hv : w s < sA S s) (hL : leadS S l f z s = true) (hv2 : wantS S l s = true → leadA S f z (4 * s + w s) = true) : ranked S l f (z ||| 2 ^ s) w := by
  have hz2 : ∀ t, (z ||| 2 ^ s).testBit t = true → z.testBit t = true ∨ t = s := by
    intro t ht
    rw [Nat.testBit_or, two_bit, Bool.or_eq_true] at ht
    rcases ht with q | q
    · exact Or.inl q
    · exact Or.inr (of_decide_eq_true q).symm
  refine ⟨fun t h1 h2 => ?_, fun C hC hz => ?_⟩
  · rcases hz2 t h1 with q | q
    · exact h.1 t q h2
    · rw [q]
      refine ⟨hs, hv, fun hq => ?_⟩
      have := hv2 hq
      unfold leadA at this
      rw [Bool.and_eq_true] at this
      exact this.1
  · by_cases hne : ∃ t, C t ∧ z.testBit t = true
    · obtain ⟨t, h1, h2, h3⟩ := h.2 (fun t => C t ∧ z.testBit t = true) hne (fun t ht => ⟨ht.2, (hz t ht.1).2⟩)
      refine ⟨t, h1.1, fun hq => ?_, fun hq a ha => ?_⟩
      · obtain ⟨o, q1, q2, q3⟩ := h2 hq
        exact ⟨o, q1, bsub_l _ _ _ q2, fun y => q3 ⟨y, q2⟩⟩
      · obtain ⟨o, q1, q2, q3⟩ := h3 hq a ha
        exact ⟨o, q1, bsub_l _ _ _ q2, fun y => q3 ⟨y, q2⟩⟩
    · have hCs : ∀ t, C t → t = s := by
        intro t ht
        rcases hz2 t (hz t ht).1 with q | q
        · exact absurd ⟨t, ht, q⟩ hne
        · exact q
      obtain ⟨t, ht⟩ := hC
      have hts := hCs t ht
      subst hts
      have hsome : ∀ x, someInS S x z = true → ∃ o, o < sO S x ∧ (z ||| 2 ^ t).testBit (sT S x o) = true ∧ ¬ C (sT S x o) := by
        intro x hx
        obtain ⟨o, ho, q⟩ := anyU_iff.mp hx
        exact ⟨o, ho, bsub_l _ _ _ q, fun y => by rw [hCs _ y] at q; rw [q] at hzs; cases hzs⟩
      refine ⟨t, ht, fun hq => ?_, fun hq a ha => ?_⟩
      · have := hv2 hq
        unfold leadA at this
        rw [Bool.and_eq_true] at this
        exact hsome _ this.2
      · unfold leadS at hL
        rw [hq] at hL
        simp only [Bool.and_eq_true] at hL
        have := allU_iff.mp hL.2 a ha
        unfold leadA at this
        rw [Bool.and_eq_true] at this
        exact hsome _ this.2
theorem nI_tb (x : Int32) : x = nI x.toBitVec.toNat := by
  apply Int32.toBitVec_inj.mp
  apply BitVec.eq_of_toNat_eq
  show _ = (BitVec.ofNat 32 _).toNat
  rw [BitVec.toNat_ofNat]
  exact (Nat.mod_eq_of_lt x.toBitVec.isLt).symm
/-- Ways.grow(field) -/
theorem c_grow (hR : RC m S) (hw : wf S) {i f : Nat} (l : Bool) (hl : m.1 8 i 1 = bI l) (hQ : ∀ y w m', offI (tW i) m m' → (∀ t, t < sN S → m'.1 9 i t = nI (w t)) → isG S l f y → ranked S l f y w → Q (some (vI (nI y))) m') : callW2 xs (d + 4) 57 [vR 8 i, vI (nI f)] m Q := by
  have h3 := wf_n hw
  have hM := wf_m hw
  refine eX9_grow m _ _ (W2_st (bX9_grow_0 m _ _ ?_))
  rw [rc_m hR]
  let g : Nat → Nat → Bool := fun z k => ! z.testBit k && leadS S l f z k
  -- what holds of a set and its ways
  have key : ∀ r, r ≤ 10 → ∀ y w m' (b : Bool) o5 o6, offI (tW i) m m' → (∀ t, t < sN S → m'.1 9 i t = nI (w t)) → sub_n y (sN S) → bsub (sM S) y → (∀ z, bsub (sM S) z → (∀ s, s < sN S → leadS S l f z s = true → z.testBit s = true) → bsub y z) → ranked S l f y w → (match b with | true => r ≤ cntB y | false => ∀ s, s < sN S → leadS S l f y s = true → y.testBit s = true) → (W2 xs (callW2 xs (d + 3)) tX9_grow [8, 17] (some .int) Q 8 [some (vR 8 (i)), some (vI (nI f)), some (vI (nI y)), some (vI (bI b)), some (vI (nI r)), (o5), (o6)] [] (m')) := by
    refine upto 10 ?_ ?_
    · intro y w m' b o5 o6 hoff hways hyn hyM hymin hrk hb
      refine W2_st (bX9_grow_8 m' _ _ _ _ _ _ _ ?_)
      refine ⟨fun _ => ?_, fun z => absurd (by decide) z⟩
      refine hQ y w m' hoff hways ⟨hyn, hyM, ?_, hymin⟩ hrk
      cases b with
      | true => exact fun s hs _ => cnt_full hb s (by omega)
      | false => exact hb
    · intro r hr ihr y w m' b o5 o6 hoff hways hyn hyM hymin hrk hb
      refine W2_st (bX9_grow_8 m' _ _ _ _ _ _ _ ?_)
      rw [nI_leI (by omega) (by omega), bI_0]
      refine ⟨fun z => by omega, fun _ => ⟨fun hbf => ?_, fun hbt => ?_⟩⟩
      · subst hbf
        exact hQ y w m' hoff hways ⟨hyn, hyM, hb, hymin⟩ hrk
      · rw [Bool.not_eq_false] at hbt
        subst hbt
        have hy10 := sub_lt hyn h3
        have inner : ∀ k, k ≤ sN S → ∀ w m', offI (tW i) m m' → (∀ t, t < sN S → m'.1 9 i t = nI (w t)) → ranked S l f (passU g y k) w → (W2 xs (callW2 xs (d + 3)) tX9_grow [8, 17] (some .int) Q 17 [some (vR 8 (i)), some (vI (nI f)), some (vI (nI (passU g y k))), some (vI (nI 1)), some (vI (nI r)), some (vI (nI y)), some (vI (nI k))] [] (m')) := by
          refine upto (sN S) ?_ ?_
          · intro w m' hoff hways hrk
            have hR' := RC_W hoff hw hR
            have hpn : sub_n (passU g y (sN S)) (sN S) := passU_subn hyn (Nat.le_refl _)
            have hp10 := sub_lt hpn h3
            have hsub : bsub y (passU g y (sN S)) := passU_mono (k := 0) (Nat.zero_le _)
            have hmin2 : ∀ z, bsub (sM S) z → (∀ s, s < sN S → leadS S l f z s = true → z.testBit s = true) → bsub (passU g y (sN S)) z := by
              intro z h1 h2
              refine passU_min (hymin z h1 h2) (fun w k hk hwz h => ?_)
              rw [show g w k = (! w.testBit k && leadS S l f w k) from rfl, Bool.and_eq_true] at h
              exact h2 k hk (leadS_mono (bsub_rfl _) hwz h.2)
            refine W2_st (bX9_grow_17 m' _ _ _ _ _ _ _ ?_)
            rw [rc_n hR', nI_leI (by omega) (by omega), nI_eq (by omega) (by omega), nI_add]
            refine ⟨fun _ => ⟨fun he => ?_, fun hne => ?_⟩, fun z => absurd (Nat.le_refl _) z⟩
            · refine ihr _ w m' false _ _ hoff hways hpn (bsub_trans hyM hsub) hmin2 hrk (fun s hs q => ?_)
              rw [he] at q ⊢
              cases hys : y.testBit s with
              | true => rfl
              | false => rw [← hys]; exact passU_fix he s hs (by show (! y.testBit s && leadS S l f y s) = true; rw [hys, q]; rfl)
            · refine ihr _ w m' true _ _ hoff hways hpn (bsub_trans hyM hsub) hmin2 hrk ?_
              have := cnt_lt hsub (Ne.symm hne) hp10
              show r + 1 ≤ _
              have : r ≤ cntB y := hb
              omega
          · intro k hk ih w m' hoff hways hrk
            have hR' := RC_W hoff hw hR
            have hpn : sub_n (passU g y k) (sN S) := passU_subn hyn (by omega)
            have hp10 := sub_lt hpn h3
            refine W2_st (bX9_grow_17 m' _ _ _ _ _ _ _ ?_)
            simp (disch := omega) only [rc_n hR', nI_leI, nI_or, nI_add, one_shl, Nat.or_zero]
            refine ⟨fun z => by omega, fun _ => c_has (by omega) (by omega) ⟨_, rfl, ?_⟩⟩
            rw [bI_0]
            rw [passU_succ] at ih
            refine ⟨fun hbt => ?_, fun hbf => ?_⟩
            · rw [if_neg (by show ¬ (! (passU g y k).testBit k && _) = true; rw [Bool.not_eq_false] at hbt; rw [hbt]; simp)] at ih
              exact ih w m' hoff hways hrk
            · have hl' : m'.1 8 i 1 = bI l := by rw [(hoff.1 8 i (by unfold tW; omega)).1]; exact hl
              refine c_join hR' hw hk hp10 l hl' (fun v m2 g1 g2 g3 g4 => ⟨_, rfl, ?_⟩)
              have hoff2 := offI_trans hoff g1
              have hways2 : ∀ t, t < sN S → m2.1 9 i t = nI (if t = k then v else w t) := by
                intro t ht
                by_cases htk : t = k
                · rw [if_pos htk, htk]; exact g3
                · rw [if_neg htk, g2 t htk]; exact hways t ht
              have hrk2 : ranked S l f (passU g y k) (fun t => if t = k then v else w t) := ranked_same hrk (fun s hs => by
                rw [if_neg (fun e => by rw [e] at hs; rw [hs] at hbf; cases hbf)])
              rw [bI_0]
              refine ⟨fun hLf => ?_, fun hLt => ?_⟩
              · rw [if_neg (by show ¬ (! (passU g y k).testBit k && leadS S l f (passU g y k) k) = true; rw [hLf]; simp)] at ih
                exact ih _ m2 hoff2 hways2 hrk2
              · rw [Bool.not_eq_false] at hLt
                rw [if_pos (by show (! (passU g y k).testBit k && leadS S l f (passU g y k) k) = true; rw [hLt, hbf]; rfl)] at ih
                refine ih _ m2 hoff2 hways2 (ranked_add hw hk hrk2 hbf ?_ hLt ?_)
                · rw [if_pos rfl]; exact (g4 hLt).1
                · rw [if_pos rfl]; exact (g4 hLt).2
        exact inner 0 (Nat.zero_le _) w m' hoff hways hrk
  have hw0 : ∀ t, m.1 9 i t = nI ((m.1 9 i t).toBitVec.toNat) := fun t => nI_tb _
  exact key 0 (Nat.zero_le _) (sM S) (fun t => (m.1 9 i t).toBitVec.toNat) m true none none (offI_rfl _ _) (fun t _ => hw0 t) hw.2.1 (bsub_rfl _) (fun z h _ => h) ranked_0 (Nat.zero_le _)
/-- cells of Verdict.sort of verdict i -/
def tV (i : Nat) : Nat → Nat → Prop := fun t j => (t = 9 ∨ t = 7) ∧ j = i
theorem RC_V {m' : Mem} {i : Nat} (h : offI (tV i) m m') (hw : wf S) (hR : RC m S) : RC m' S := RC_off h.1 (by unfold tV; omega) (by unfold tV; omega) (fun x _ => by unfold tV; omega) (fun x _ => by unfold tV; omega) (fun x _ => by unfold tV; omega) hw hR
/-- what sort has found out -/
def sorted (m : Mem) (S : Sys) (l : Bool) (i X Y : Nat) : Prop := m.1 7 i 8 = nI X ∧ m.1 7 i 9 = nI (ndiff (fullB (sN S)) Y) ∧ isOnes S l X ∧ isG S l (fullB (sN S)) Y
theorem c_sortN (hR : RC m S) (hw : wf S) {i : Nat} (l : Bool) (hl : m.1 8 i 1 = bI l) (hv : m.1 7 i 4 ≠ m.1 1 0 2) (hQ : ∀ X Y w m', offI (tV i) m m' → m'.1 7 i 4 = m.1 1 0 2 → (∀ k, k ≠ 4 → k ≠ 8 → k ≠ 9 → m'.1 7 i k = m.1 7 i k) → sorted m' S l i X Y → (∀ t, t < sN S → m'.1 9 i t = nI (w t)) → ranked S l (fullB (sN S)) Y w → Q none m') : callW2 xs (d + 5) 49 [vR 7 i] m Q := by
  have h3 := wf_n hw
  have hfl := fullB_lt h3
  refine eX8_sort m _ (W2_st (bX8_sort_0 m _ ⟨fun _ => ?_, fun z => absurd z hv⟩))
  have g0 : offI (tV i) m (mI m 7 i 4 (m.1 1 0 2)) := offI_I (offI_rfl _ _) _ _ ⟨Or.inr rfl, rfl⟩
  refine c_everyone (RC_V g0 hw hR) hw ⟨_, rfl, ?_⟩
  have key : ∀ r, r ≤ 11 → ∀ x b mc, offI (tV i) m mc → mc.1 7 i 4 = m.1 1 0 2 → (∀ k, k ≠ 4 → k ≠ 8 → k ≠ 9 → mc.1 7 i k = m.1 7 i k) → mc.1 7 i 8 = nI x → sub_n x (sN S) → bsub (sM S) x → (∀ s, s < sN S → leadS S l x x s = true → x.testBit s = true) → (∀ Z Y, sub_n Z (sN S) → isG S l Z Y → bsub Z Y → bsub Z x) → ((b = nI x ∧ isG S l x x) ∨ (b ≠ nI x ∧ r + cntB x ≤ 10)) → (W2 xs (callW2 xs (d + 4)) tX8_sort [23] none Q 23 [some (vR 7 (i)), some (vI (nI (fullB (sN S)))), some (vI (b)), some (vI (nI r))] [] (mc)) := by
    have last : ∀ x mc, offI (tV i) m mc → mc.1 7 i 4 = m.1 1 0 2 → (∀ k, k ≠ 4 → k ≠ 8 → k ≠ 9 → mc.1 7 i k = m.1 7 i k) → mc.1 7 i 8 = nI x → isOnes S l x → callW2 xs (d + 4) 57 [vR 8 i, vI (nI (fullB (sN S)))] mc (fun r1 m2 => ∃ w3 : Int32, r1 = some (vI w3) ∧ Q none (mI m2 7 i 9 (nI (fullB (sN S)) &&& (w3 ^^^ (-1 : Int32))))) := by
      intro x mc h1 h2 h5 h7 h8
      have hl' : mc.1 8 i 1 = bI l := by rw [(h1.1 8 i (by unfold tV; omega)).1]; exact hl
      refine c_grow (RC_V h1 hw hR) hw l hl' (fun y w m2 g1 g2 g3 g4 => ⟨_, rfl, ?_⟩)
      rw [nI_diff]
      have e7 : m2.1 7 i = mc.1 7 i := (g1.1 7 i (by unfold tW; omega)).1
      refine hQ x y w _ (offI_I (offI_trans h1 (offI_sub g1 (fun t j z => ⟨Or.inl z.1, z.2⟩))) _ _ ⟨Or.inr rfl, rfl⟩) ?_ ?_ ⟨?_, ?_, h8, g3⟩ (fun t ht => ?_) g4
      · rw [mI_r, if_neg (by omega), e7]; exact h2
      · intro k k1 k2 k3
        rw [mI_r, if_neg (by omega), e7]; exact h5 k k1 k2 k3
      · rw [mI_r, if_neg (by omega), e7]; exact h7
      · rw [mI_r, if_pos ⟨rfl, rfl, rfl⟩]
      · rw [mI_r, if_neg (by omega)]; exact g2 t ht
    refine upto 11 ?_ ?_
    · intro x b mc h1 h2 h5 h7 h8 h9 h10 h11 h12
      refine W2_st (bX8_sort_23 mc _ _ _ _ ⟨fun _ => ?_, fun z => absurd (by decide) z⟩)
      rcases h12 with ⟨_, q⟩ | ⟨_, q⟩
      · exact last x mc h1 h2 h5 h7 ⟨q, h11⟩
      · omega
    · intro r hr ih x b mc h1 h2 h5 h7 h8 h9 h10 h11 h12
      refine W2_st (bX8_sort_23 mc _ _ _ _ ?_)
      rw [nI_ltI (by omega) (by omega), h7, nI_add]
      refine ⟨fun z => by omega, fun _ => ⟨fun he => ?_, fun hne => ?_⟩⟩
      · rcases h12 with ⟨_, q⟩ | ⟨q, _⟩
        · exact last x mc h1 h2 h5 h7 ⟨q, h11⟩
        · exact absurd he.symm q
      · have hl' : mc.1 8 i 1 = bI l := by rw [(h1.1 8 i (by unfold tV; omega)).1]; exact hl
        refine c_grow (RC_V h1 hw hR) hw l hl' (fun y w m2 g1 g2 g3 g4 => ⟨_, rfl, ?_⟩)
        have hyx : bsub y x := g3.2.2.2 x h9 h10
        have hx10 := sub_lt h8 h3
        have hy10 := sub_lt g3.1 h3
        have e7 : m2.1 7 i = mc.1 7 i := (g1.1 7 i (by unfold tW; omega)).1
        refine ih y (nI x) _ (offI_I (offI_trans h1 (offI_sub g1 (fun t j z => ⟨Or.inl z.1, z.2⟩))) _ _ ⟨Or.inr rfl, rfl⟩) ?_ ?_ ?_ g3.1 g3.2.1 (fun s hs q => g3.2.2.1 s hs (leadS_mono hyx (bsub_rfl _) q)) (ones_step h11 g3) ?_
        · rw [mI_r, if_neg (by omega), e7]; exact h2
        · intro k k1 k2 k3
          rw [mI_r, if_neg (by omega), e7]; exact h5 k k1 k2 k3
        · rw [mI_r, if_pos ⟨rfl, rfl, rfl⟩]
        · by_cases hxy : x = y
          · rw [hxy] at g3 ⊢
            exact Or.inl ⟨rfl, g3⟩
          · refine Or.inr ⟨fun z => hxy ((nI_eq (by omega) (by omega)).mp z), ?_⟩
            have := cnt_lt hyx (Ne.symm hxy) hx10
            rcases h12 with ⟨q, _⟩ | ⟨_, q⟩
            · exact absurd q.symm hne
            · omega
  refine key 0 (Nat.zero_le _) (fullB (sN S)) _ _ (offI_I g0 _ _ ⟨Or.inr rfl, rfl⟩) ?_ ?_ ?_ (sub_n_fullB _) (sub_n_full.mp hw.2.1) (full_cl hw) (fun Z _ hZ _ _ => sub_n_full.mp hZ) (Or.inr ⟨?_, by have := cnt_10 (fullB (sN S)); omega⟩)
  · rw [mI_r, if_neg (by omega), mI_r, if_pos ⟨rfl, rfl, rfl⟩]
  · intro k k1 k2 k3
    rw [mI_r, if_neg (by omega), mI_r, if_neg (by omega)]
  · rw [mI_r, if_pos ⟨rfl, rfl, rfl⟩]
  · intro z
    have := congrArg Int32.toInt z
    rw [nI_toInt (by omega)] at this
    have e : (-1 : Int32).toInt = -1 := rfl
    omega
end L46
