/-! CONTRACTS (14): the reference's values (wip/whole/src/66.valueM.src) -/
def tF : Nat → Nat → Prop := fun t j => (t = 40 ∨ 47 ≤ t ∧ t ≤ 57) ∧ j = 0
/-- what findValues() may change -/
def fvM (m mc : Mem) : Prop := off tF m mc ∧ ∀ k, k ≠ 12 → mc.1 40 0 k = m.1 40 0 k
theorem fvM_rfl (m : Mem) : fvM m m := ⟨off_rfl _ _, fun _ _ => rfl⟩
theorem fvM_trans {a b c : Mem} (h : fvM a b) (h2 : fvM b c) : fvM a c := ⟨off_trans h.1 h2.1, fun k hk => (h2.2 k hk).trans (h.2 k hk)⟩
theorem fvM_ch {a b : Mem} (h : chM a b) : fvM a b := ⟨off_sub h.1 (fun t j z => ⟨by have := z.1; omega, z.2⟩), h.2⟩
theorem fvM_L {a b : Mem} (h : fvM a b) (t k : Nat) (v : Int64) (ht : 47 ≤ t ∧ t ≤ 57) : fvM a (mL b t 0 k v) := ⟨off_L h.1 _ _ ⟨by omega, rfl⟩, h.2⟩
theorem fvM_48 {a b c : Mem} (h : fvM a b) (h2 : offI (tM 48) b c) : fvM a c := ⟨off_trans h.1 (off_sub h2.1 (fun t j z => ⟨by have := z.1; omega, z.2⟩)), fun k hk => by rw [(h2.1 40 0 (by unfold tM; omega)).1]; exact h.2 k hk⟩
theorem RM_fv {m mc : Mem} {S : Sys} (h : fvM m mc) (hR : RM m S) : RM mc S := by
  unfold RM RMa at hR ⊢
  rw [h.2 1 (by omega), h.2 2 (by omega), (h.1 41 0 (by unfold tF; omega)).1, (h.1 42 0 (by unfold tF; omega)).1, (h.1 43 0 (by unfold tF; omega)).1, (h.1 44 0 (by unfold tF; omega)).1, (h.1 45 0 (by unfold tF; omega)).1, (h.1 46 0 (by unfold tF; omega)).1]
  exact hR
section L66
variable {xs : Nat × (Nat → Int32)} {d : Nat} {Q : Option v2 → Mem → Prop} {m : Mem} {S : Sys}
def nxF (S : Sys) (B : Nat) (f : Bool) (s : Nat) : Bool := B.testBit s && (foeS S s == f)
theorem nxF_iff {B : Nat} {f : Bool} {s : Nat} : nxF S B f s = true ↔ B.testBit s = true ∧ foeS S s = f := by unfold nxF; rw [Bool.and_eq_true]; simp
theorem r_nextChoice {B : Nat} {c : Nat → Nat} {f : Bool} (hR : RM m S) (hw : wf S) (hch : ∀ s, s < sN S → m.1 48 0 s = nI (c s)) (hc : pol S B c) (hQ : ∀ b c' m', offI (tM 48) m m' → (∀ s, s < sN S → m'.1 48 0 s = nI (c' s)) → nxt (sN S) (sA S) (nxF S B f) c c' b → Q (some (vI (bI b))) m') : callW2 xs (d + 2) 142 [vR 40 0, vI (nI B), vI (bI f)] m Q := by
  have h3 := wf_n hw
  have hBn : sub_n B (sN S) := fun s hs => (hc s hs).1
  have hB10 := sub_lt hBn h3
  refine eX12_nextChoice m _ _ (W2_st (bX12_nextChoice_0 m _ _ ?_))
  have key : ∀ s, s ≤ sN S → ∀ mc, offI (tM 48) m mc → (∀ t, t < sN S → mc.1 48 0 t = nI (if t < s ∧ nxF S B f t = true then 0 else c t)) → (∀ t, t < s → nxF S B f t = true → c t + 1 = sA S t) → (W2 xs (callW2 xs (d + 1)) tX12_nextChoice [2] (some .boolean) Q 2 [some (vR 40 0), some (vI (nI B)), some (vI (bI f)), some (vI (nI s))] [] (mc)) := by
    refine upto (sN S) ?_ ?_
    · intro mc g1 g2 g3
      have hR' := RM_off g1.1 (by unfold tM; omega) (by unfold tM; omega) (by unfold tM; omega) (by unfold tM; omega) (by unfold tM; omega) (by unfold tM; omega) (by unfold tM; omega) hR
      refine W2_st (bX12_nextChoice_2 mc _ _ _ ?_)
      rw [rm_n hR', nI_leI (by omega) (by omega)]
      refine ⟨fun _ => ⟨isB0, ?_⟩, fun z => absurd (Nat.le_refl _) z⟩
      refine hQ false (fun t => if t < sN S ∧ nxF S B f t = true then 0 else c t) mc g1 (fun s hs => g2 s hs) ⟨fun t ht hF => ⟨g3 t ht hF, if_pos ⟨ht, hF⟩⟩, fun t hF => if_neg (fun z => by rw [z.2] at hF; cases hF)⟩
    · intro s hs ih mc g1 g2 g3
      have hR' := RM_off g1.1 (by unfold tM; omega) (by unfold tM; omega) (by unfold tM; omega) (by unfold tM; omega) (by unfold tM; omega) (by unfold tM; omega) (by unfold tM; omega) hR
      refine W2_st (bX12_nextChoice_2 mc _ _ _ ?_)
      rw [rm_n hR', nI_leI (by omega) (by omega), shr_bit (by omega) (by omega), bI_1, nI_add, nI_clamp (by omega)]
      have skp : nxF S B f s = false → (W2 xs (callW2 xs (d + 1)) tX12_nextChoice [2] (some .boolean) Q 2 [some (vR 40 0), some (vI (nI B)), some (vI (bI f)), some (vI (nI (s + 1)))] [] (mc)) := by
        intro hF
        refine ih mc g1 (fun t ht => ?_) (fun t ht hFt => ?_)
        · rw [g2 t ht]
          congr 1
          by_cases hts : t < s ∧ nxF S B f t = true
          · rw [if_pos hts, if_pos ⟨by omega, hts.2⟩]
          · have hz : ¬ (t < s + 1 ∧ nxF S B f t = true) := by
              intro z
              rcases Nat.lt_or_ge t s with q | q
              · exact hts ⟨q, z.2⟩
              · have e : t = s := by omega
                rw [e, hF] at z
                cases z.2
            rw [if_neg hts, if_neg hz]
        · rcases Nat.lt_or_ge t s with q | q
          · exact g3 t q hFt
          · rw [show t = s by omega, hF] at hFt; cases hFt
      refine ⟨fun z => by omega, fun _ => ⟨fun hb => skp ?_, fun hb => ?_⟩⟩
      · rw [Bool.not_eq_true] at hb; unfold nxF; rw [hb]; rfl
      · refine r_isFoe hR' hw hs ⟨_, rfl, ?_⟩
        rw [bI_eq]
        refine ⟨fun hne => skp ?_, fun he => ?_⟩
        · unfold nxF; rw [hb]; simp [hne]
        · have hF : nxF S B f s = true := nxF_iff.mpr ⟨hb, he⟩
          have h4 := wf_a hw hs
          have hcs := (hc s hb).2
          have es : mc.1 48 0 s = nI (c s) := by rw [g2 s hs, if_neg (by omega)]
          have e41 : (mI mc 48 0 s (nI (c s + 1))).1 41 0 s = nI (sA S s) := by rw [mI_r, if_neg (by omega)]; exact rm_a hR' hs
          have e48 : (mI mc 48 0 s (nI (c s + 1))).1 48 0 s = nI (c s + 1) := by rw [mI_r, if_pos ⟨rfl, rfl, rfl⟩]
          rw [es, nI_add, e41, e48, nI_leI (by omega) (by omega)]
          refine ⟨inb_nI (by omega) (by omega), inb_nI (by omega) (by omega), inb_nI (by omega) (by omega), inb_nI (by omega) (by omega), fun hle => ⟨inb_nI (by omega) (by omega), ?_⟩, fun hlt => ⟨isB1, ?_⟩⟩
          · refine ih _ (offI_I (offI_I g1 _ _ ⟨rfl, rfl⟩) _ _ ⟨rfl, rfl⟩) (fun t ht => ?_) (fun t ht hFt => ?_)
            · rw [mI_r]
              by_cases hts : t = s
              · rw [if_pos ⟨rfl, rfl, hts⟩, if_pos ⟨by omega, by rw [hts]; exact hF⟩]
              · rw [if_neg (by omega), mI_r, if_neg (by omega), g2 t ht]
                congr 1
                by_cases hts2 : t < s ∧ nxF S B f t = true
                · rw [if_pos hts2, if_pos ⟨by omega, hts2.2⟩]
                · rw [if_neg hts2, if_neg (fun z => hts2 ⟨by omega, z.2⟩)]
            · rcases Nat.lt_or_ge t s with q | q
              · exact g3 t q hFt
              · rw [show t = s by omega]; omega
          · refine hQ true (fun t => if t = s then c s + 1 else if t < s ∧ nxF S B f t = true then 0 else c t) _ (offI_I g1 _ _ ⟨rfl, rfl⟩) (fun t ht => ?_) ⟨s, hs, hF, if_pos rfl, by omega, fun t ht hFt => ⟨g3 t ht hFt, ?_⟩, fun t ht => ?_⟩
            · rw [mI_r]
              by_cases hts : t = s
              · rw [if_pos ⟨rfl, rfl, hts⟩, if_pos hts]
              · rw [if_neg (by omega), if_neg hts]; exact g2 t ht
            · show (if t = s then c s + 1 else if t < s ∧ nxF S B f t = true then 0 else c t) = 0
              rw [if_neg (by omega), if_pos ⟨ht, hFt⟩]
            · show (if t = s then c s + 1 else if t < s ∧ nxF S B f t = true then 0 else c t) = c t
              rcases ht with q | q
              · rw [if_neg (fun z => by rw [z, hF] at q; cases q), if_neg (fun z => by rw [z.2] at q; cases q)]
              · rw [if_neg (by omega), if_neg (by omega)]
  exact key 0 (Nat.zero_le _) m (offI_rfl _ _) (fun t ht => by rw [if_neg (by omega)]; exact hch t ht) (fun t ht => by omega)
theorem r_isBelow (a b c e : Int) (h1 : (a * e).natAbs < 2 ^ 62) (h2 : (c * b).natAbs < 2 ^ 62) (hQ : Q (some (vI (bI (decide (a * e < c * b))))) m) : callW2 xs (d + 1) 141 [vL (lI a), vL (lI b), vL (lI c), vL (lI e)] m Q := by
  refine eX12_isBelow m _ _ _ _ (W2_st (bX12_isBelow_0 m _ _ _ _ ?_))
  rw [lI_mul, lI_mul, lg_cmp_ge, lI_le (by omega) (by omega) (by omega) (by omega)]
  refine ret_yQ _ ?_ hQ
  rw [decide_eq_false_iff_not]
  omega
theorem r_isBelowAny (a b c e : Int64) (hQ : ∀ b, Q (some (vI (bI b))) m) : callW2 xs (d + 1) 141 [vL a, vL b, vL c, vL e] m Q := by
  refine eX12_isBelow m _ _ _ _ (W2_st (bX12_isBelow_0 m _ _ _ _ ?_))
  exact ⟨fun _ => ⟨isB0, hQ false⟩, fun _ => ⟨isB1, hQ true⟩⟩
theorem r_countBits {b : Nat} (hb : b < 1024) (hQ : Q (some (vI (nI (cntB b)))) m) : callW2 xs (d + 1) 143 [vR 40 0, vI (nI b)] m Q := by
  refine eX12_countBits m _ (W2_st (bX12_countBits_0 m _ ?_))
  refine upto (P := fun s => (W2 xs (callW2 xs d) tX12_countBits [4] (some .int) Q 4 [some (vR 40 0), some (vI (nI b)), some (vI (nI (cntU b s))), some (vI (nI s))] [] (m))) 10 ?_ ?_ 0 (Nat.zero_le _)
  · refine W2_st (bX12_countBits_4 m _ _ _ ⟨fun _ => hQ, fun z => absurd (by decide) z⟩)
  · intro s hs ih
    refine W2_st (bX12_countBits_4 m _ _ _ ?_)
    rw [nI_leI (by omega) (by omega), shr_bit (by omega) (by omega), toNat_cnt, nI_add, nI_add]
    exact ⟨fun z => by omega, fun _ => ih⟩
/-- the worst so far: over those of the FOE's choices that cov names -/
def worC (S : Sys) (B G : Nat) (l : Bool) (c0 : Nat → Nat) (s : Nat) (u v : Int) (cov : (Nat → Nat) → Prop) : Prop := 0 < v ∧ Nat.gcd u.natAbs v.natAbs = 1 ∧ u.natAbs ≤ 2 ^ 25 ∧ v.natAbs ≤ 2 ^ 25 ∧ (∃ c W E, pol S B c ∧ agr S B false c c0 ∧ chance S B G c W E ∧ u * E = W s * v) ∧ ∀ x W E, pol S B x → agr S B false x c0 → cov x → chance S B G x W E → cmpl l (u * E) (W s * v)
/-- the step of worst(): one more of the FOE's choices, c -/
theorem worC_new {B G : Nat} {l : Bool} {c0 c : Nat → Nat} {s : Nat} {u v : Int} {W : Nat → Int} {E : Int} (hw : wf S) (hf : full S) (hs : s < sN S) (hc : pol S B c) (ha : agr S B false c c0) (hch : chance S B G c W E) (hl : low u v (W s) E) (hu : u.natAbs ≤ 2 ^ 25) (hv : v.natAbs ≤ 2 ^ 25) (cov cov' : (Nat → Nat) → Prop) (hcov : ∀ x, pol S B x → agr S B false x c0 → cov' x → cov x ∨ ∀ t, B.testBit t = true → x t = c t) (hold : ∀ x W' E', pol S B x → agr S B false x c0 → cov x → chance S B G x W' E' → cmpl l (u * E') (W' s * v)) : worC S B G l c0 s u v cov' := by
  obtain ⟨h1, h2, h3⟩ := hl
  refine ⟨h1, h2, hu, hv, ⟨c, W, E, hc, ha, hch, h3⟩, fun x W' E' hx hxa hxc hxch => ?_⟩
  rcases hcov x hx hxa hxc with q | q
  · exact hold x W' E' hx hxa q hxch
  · have e1 := chance_le hw hf hc q hch hxch s hs
    have e2 := chance_le hw hf hx (fun t ht => (q t ht).symm) hxch hch s hs
    have hE := hch.1
    have nE' := Int.le_of_lt hxch.1
    have nv := Int.le_of_lt h1
    have nE := Int.le_of_lt hE
    cases l with
    | false => exact fr_trans nv hE nE' (by rw [h3]; exact Int.le_refl _) e1
    | true => exact fr_trans nE' hE nv e2 (by rw [h3]; exact Int.le_refl _)
theorem worC_keep {B G : Nat} {l : Bool} {c0 c : Nat → Nat} {s : Nat} {u v wu wv : Int} {W : Nat → Int} {E : Int} (hw : wf S) (hf : full S) (hs : s < sN S) (hc : pol S B c) (hch : chance S B G c W E) (hl : low u v (W s) E) (cov cov' : (Nat → Nat) → Prop) (hcov : ∀ x, pol S B x → agr S B false x c0 → cov' x → cov x ∨ ∀ t, B.testBit t = true → x t = c t) (hold : worC S B G l c0 s wu wv cov) (hcmp : cmpl l (wu * v) (u * wv)) : worC S B G l c0 s wu wv cov' := by
  obtain ⟨h1, h2, h3, h4, h5, h6⟩ := hold
  refine ⟨h1, h2, h3, h4, h5, fun x W' E' hx hxa hxc hxch => ?_⟩
  rcases hcov x hx hxa hxc with q | q
  · exact h6 x W' E' hx hxa q hxch
  · have e1 := chance_le hw hf hc q hch hxch s hs
    have e2 := chance_le hw hf hx (fun t ht => (q t ht).symm) hxch hch s hs
    have hE := hch.1
    have nE' := Int.le_of_lt hxch.1
    have nwv := Int.le_of_lt h1
    have nv := Int.le_of_lt hl.1
    cases l with
    | false =>
      have e3 : u * E' ≤ W' s * v := fr_trans nv hE nE' (by rw [hl.2.2]; exact Int.le_refl _) e1
      exact fr_trans nwv hl.1 nE' hcmp e3
    | true =>
      have e3 : W' s * v ≤ u * E' := fr_trans nE' hE nv e2 (by rw [hl.2.2]; exact Int.le_refl _)
      exact fr_trans nE' hl.1 nwv e3 hcmp
end L66
