/-! CONTRACTS (26): what can come (wip/whole/src/77.reach.src) -/
/-- one pass: each place may add a set -/
def passG (g : Nat → Nat → Nat) (y : Nat) : Nat → Nat
  | 0 => y
  | k + 1 => passG g y k ||| g (passG g y k) k
theorem passG_mono {g : Nat → Nat → Nat} {y k n : Nat} (h : k ≤ n) : bsub (passG g y k) (passG g y n) := by
  induction n with
  | zero => rw [show k = 0 by omega]; exact bsub_rfl _
  | succ n ih =>
    rcases Nat.lt_or_ge k (n + 1) with q | q
    · exact bsub_trans (ih (by omega)) (bsub_l _ _)
    · rw [show k = n + 1 by omega]; exact bsub_rfl _
theorem passG_min {g : Nat → Nat → Nat} {y z : Nat} (hy : bsub y z) {n : Nat} (hz : ∀ w k, k < n → bsub w z → bsub (g w k) z) : bsub (passG g y n) z := by
  induction n with
  | zero => exact hy
  | succ n ih =>
    have h1 := ih (fun w k hk => hz w k (by omega))
    exact bsub_or h1 (hz _ n (by omega) h1)
theorem passG_fix {g : Nat → Nat → Nat} {y n : Nat} (h : passG g y n = y) (k : Nat) (hk : k < n) : bsub (g y k) y := by
  have h1 : passG g y k = y := bsub_anti (by have := passG_mono (g := g) (y := y) (show k ≤ n by omega); rw [h] at this; exact this) (passG_mono (g := g) (y := y) (Nat.zero_le k))
  have h2 : bsub (passG g y (k + 1)) y := by have := passG_mono (g := g) (y := y) (show k + 1 ≤ n by omega); rw [h] at this; exact this
  simp only [passG] at h2
  rw [h1] at h2
  exact bsub_trans (bsub_r _ _) h2
section L77
variable {xs : Nat × (Nat → Int32)} {d : Nat} {Q : Option v2 → Mem → Prop} {m : Mem} {S : Sys}
/-- what the ACTS of s that stay in b lead to -/
def nextS (S : Sys) (s b : Nat) : Nat := orU (fun a => if allInS S (4 * s + a) b = true then goesS S (4 * s + a) else 0) (sA S s)
theorem goes_sub (hw : wf S) {x : Nat} (hx : isA S x) : sub_n (goesS S x) (sN S) := by
  intro t ht
  rw [goes_bit] at ht
  obtain ⟨o, ho, e⟩ := anyU_iff.mp ht
  rw [← of_decide_eq_true e]
  exact wf_t hw hx ho
theorem orU_sub {f : Nat → Nat} {n z : Nat} : bsub (orU f n) z ↔ ∀ a, a < n → bsub (f a) z := by
  induction n with
  | zero => exact ⟨fun _ a ha => by omega, fun _ => bsub_0 _⟩
  | succ n ih =>
    simp only [orU]
    constructor
    · intro h a ha
      rcases Nat.lt_or_ge a n with q | q
      · exact ih.mp (bsub_trans (bsub_l _ _) h) a q
      · rw [show a = n by omega]; exact bsub_trans (bsub_r _ _) h
    · intro h
      exact bsub_or (ih.mpr (fun a ha => h a (by omega))) (h n (by omega))
theorem next_sub (hw : wf S) {s : Nat} (hs : s < sN S) (b : Nat) : sub_n (nextS S s b) (sN S) := by
  rw [sub_n_full]
  refine orU_sub.mpr (fun a ha => ?_)
  split
  · exact sub_n_full.mp (goes_sub hw (isA_mk hs ha (by have := wf_a hw hs; omega)))
  · exact bsub_0 _
theorem c_nextOf {s b : Nat} (hR : RC m S) (hw : wf S) (hs : s < sN S) (hQ : Q (some (vI (nI (nextS S s b)))) m) : callW2 xs (d + 2) 76 [vR 1 0, vI (nI s), vI (nI b)] m Q := by
  have h3 := wf_n hw
  have h4 := wf_a hw hs
  refine eX10_nextOf m _ _ (W2_st (bX10_nextOf_0 m _ _ ?_))
  have key : ∀ a, a ≤ sA S s → ∀ o5, (W2 xs (callW2 xs (d + 1)) tX10_nextOf [4] (some .int) Q 4 [some (vR 1 0), some (vI (nI s)), some (vI (nI b)), some (vI (nI (orU (fun a => if allInS S (4 * s + a) b = true then goesS S (4 * s + a) else 0) a))), some (vI (nI a)), (o5)] [] (m)) := by
    refine upto (sA S s) ?_ ?_
    · intro o5
      refine W2_st (bX10_nextOf_4 m _ _ _ _ _ ?_)
      rw [nI_clamp (by omega), rc_a hR hs, nI_leI (by omega) (by omega)]
      exact ⟨inb_nI (by omega) (by omega), fun _ => hQ, fun z => absurd (Nat.le_refl _) z⟩
    · intro a ha ih o5
      have hx := isA_mk hs ha (by omega)
      refine W2_st (bX10_nextOf_4 m _ _ _ _ _ ?_)
      rw [nI_clamp (by omega), rc_a hR hs, nI_leI (by omega) (by omega)]
      simp only [nI_add, nI_or]
      refine ⟨inb_nI (by omega) (by omega), fun z => by omega, fun _ => c_actS hw hs ha ⟨_, rfl, c_staysIn hR hx hw ⟨_, rfl, ?_⟩⟩⟩
      rw [rc_g hR hx, nI_or, bI_0]
      simp only [orU] at ih
      refine ⟨fun h => ?_, fun h => ?_⟩
      · rw [if_neg (by rw [h]; simp)] at ih; exact ih _
      · rw [Bool.not_eq_false] at h; rw [if_pos h] at ih; exact ih _
  exact key 0 (Nat.zero_le _) none
/-- y: what s can come to by ACTS that stay in b -/
def isRch (S : Sys) (b s y : Nat) : Prop := sub_n y (sN S) ∧ y.testBit s = true ∧ (∀ t, t < sN S → y.testBit t = true → bsub (nextS S t b) y) ∧ ∀ z, z.testBit s = true → (∀ t, t < sN S → z.testBit t = true → bsub (nextS S t b) z) → bsub y z
theorem isRch_uniq {b s y y' : Nat} (h : isRch S b s y) (h' : isRch S b s y') : y = y' := bsub_anti (h.2.2.2 y' h'.2.1 h'.2.2.1) (h'.2.2.2 y h.2.1 h.2.2.1)
theorem next_mono {s b b' : Nat} (h : bsub b b') : bsub (nextS S s b) (nextS S s b') := by
  refine orU_sub.mpr (fun a ha => ?_)
  split
  · rename_i hA
    have h2 := orU_sub.mp (bsub_rfl (nextS S s b')) a ha
    rw [if_pos (allIn_mono h hA)] at h2
    exact h2
  · exact bsub_0 _
theorem c_reachedFrom {s : Nat} (hR : RC m S) (hw : wf S) (hs : s < sN S) (hQ : ∀ y, isRch S (fullB (sN S)) s y → Q (some (vI (nI y))) m) : callW2 xs (d + 3) 77 [vR 1 0, vI (nI s)] m Q := by
  have h3 := wf_n hw
  refine eX10_reachedFrom m _ (W2_st (bX10_reachedFrom_0 m _ ?_))
  rw [one_shl (by omega)]
  let g : Nat → Nat → Nat := fun z k => if z.testBit k = true then nextS S k (fullB (sN S)) else 0
  have gsub : ∀ w k z, bsub w z → (∀ t, t < sN S → z.testBit t = true → bsub (nextS S t (fullB (sN S))) z) → k < sN S → bsub (g w k) z := by
    intro w k z h1 h2 hk
    show bsub (if w.testBit k = true then _ else 0) z
    split
    · rename_i hb; exact h2 k hk (h1 k hb)
    · exact bsub_0 _
  have gn : ∀ w k, k < sN S → bsub (g w k) (fullB (sN S)) := by
    intro w k hk
    show bsub (if w.testBit k = true then _ else 0) _
    split
    · exact sub_n_full.mp (next_sub hw hk _)
    · exact bsub_0 _
  have key : ∀ r, r ≤ 10 → ∀ y (b : Bool) o5 o6, sub_n y (sN S) → y.testBit s = true → (∀ z, z.testBit s = true → (∀ t, t < sN S → z.testBit t = true → bsub (nextS S t (fullB (sN S))) z) → bsub y z) → (match b with | true => r < cntB y | false => ∀ t, t < sN S → y.testBit t = true → bsub (nextS S t (fullB (sN S))) y) → (W2 xs (callW2 xs (d + 2)) tX10_reachedFrom [8, 17] (some .int) Q 8 [some (vR 1 0), some (vI (nI s)), some (vI (nI y)), some (vI (bI b)), some (vI (nI r)), (o5), (o6)] [] (m)) := by
    refine upto 10 ?_ ?_
    · intro y b o5 o6 h1 h2 h5 hb
      refine W2_st (bX10_reachedFrom_8 m _ _ _ _ _ _ ⟨fun _ => ?_, fun z => absurd (by decide) z⟩)
      cases b with
      | true => have : 10 < cntB y := hb; have := cnt_10 y; omega
      | false => exact hQ y ⟨h1, h2, hb, h5⟩
    · intro r hr ihr y b o5 o6 h1 h2 h5 hb
      refine W2_st (bX10_reachedFrom_8 m _ _ _ _ _ _ ?_)
      rw [nI_leI (by omega) (by omega), bI_0]
      refine ⟨fun z => by omega, fun _ => ⟨fun hbf => ?_, fun hbt => ?_⟩⟩
      · subst hbf; exact hQ y ⟨h1, h2, hb, h5⟩
      · rw [Bool.not_eq_false] at hbt
        subst hbt
        have hy10 := sub_lt h1 h3
        refine upto (P := fun k => (W2 xs (callW2 xs (d + 2)) tX10_reachedFrom [8, 17] (some .int) Q 17 [some (vR 1 0), some (vI (nI s)), some (vI (nI (passG g y k))), some (vI (nI 1)), some (vI (nI r)), some (vI (nI y)), some (vI (nI k))] [] (m))) (sN S) ?_ ?_ 0 (Nat.zero_le _)
        · have hpn : sub_n (passG g y (sN S)) (sN S) := sub_n_full.mpr (passG_min (sub_n_full.mp h1) (fun w k hk _ => gn w k hk))
          have hp10 := sub_lt hpn h3
          have hsub : bsub y (passG g y (sN S)) := passG_mono (k := 0) (Nat.zero_le _)
          refine W2_st (bX10_reachedFrom_17 m _ _ _ _ _ _ ?_)
          rw [rc_n hR, nI_leI (by omega) (by omega), nI_eq (by omega) (by omega)]
          simp only [nI_add]
          refine ⟨fun _ => ⟨fun he => ?_, fun hne => ?_⟩, fun z => absurd (Nat.le_refl _) z⟩
          · rw [he]
            refine ihr y false _ _ h1 h2 h5 (fun t ht hy => ?_)
            have := passG_fix he t ht
            rw [show g y t = (if y.testBit t = true then nextS S t (fullB (sN S)) else 0) from rfl, if_pos hy] at this
            exact this
          · refine ihr _ true _ _ hpn (hsub s h2) (fun z q1 q2 => passG_min (h5 z q1 q2) (fun w k hk hwz => gsub w k z hwz q2 hk)) ?_
            have := cnt_lt hsub (Ne.symm hne) hp10
            have hb' : r < cntB y := hb
            show r + 1 < _
            omega
        · intro k hk ih
          have hpn : sub_n (passG g y k) (sN S) := sub_n_full.mpr (passG_min (sub_n_full.mp h1) (fun w k' hk' _ => gn w k' (by omega)))
          have hp10 := sub_lt hpn h3
          refine W2_st (bX10_reachedFrom_17 m _ _ _ _ _ _ ?_)
          rw [rc_n hR, nI_leI (by omega) (by omega)]
          simp only [nI_add, nI_or, Nat.or_zero]
          refine ⟨fun z => by omega, fun _ => c_has (by omega) (by omega) ⟨_, rfl, ?_⟩⟩
          rw [bI_0]
          simp only [passG] at ih
          refine ⟨fun hb => ?_, fun hb => c_everyone hR hw ⟨_, rfl, c_nextOf hR hw hk ⟨_, rfl, ?_⟩⟩⟩
          · rw [show g (passG g y k) k = (if (passG g y k).testBit k = true then nextS S k (fullB (sN S)) else 0) from rfl, if_neg (by rw [hb]; simp), Nat.or_zero] at ih
            exact ih
          · rw [Bool.not_eq_false] at hb
            rw [show g (passG g y k) k = (if (passG g y k).testBit k = true then nextS S k (fullB (sN S)) else 0) from rfl, if_pos hb] at ih
            rw [nI_or]
            exact ih
  refine key 0 (Nat.zero_le _) (2 ^ s) true none none (sub_n_two hs) (two_self s) (fun z hz _ => bsub_two hz) ?_
  show 0 < cntB (2 ^ s)
  have := cntU_B (U := 2 ^ s) (two_self s) (show s < 10 by omega)
  omega
/-- the reference's reachedFrom(s, stay) -/
theorem r_reachedFrom {s b : Nat} (hR : RM m S) (hw : wf S) (hs : s < sN S) (hb : b < 1024) (hQ : ∀ y, isRch S b s y → Q (some (vI (nI y))) m) : callW2 xs (d + 2) 160 [vR 40 0, vI (nI s), vI (nI b)] m Q := by
  have h3 := wf_n hw
  refine eX12_reachedFrom m _ _ (W2_st (bX12_reachedFrom_0 m _ _ ?_))
  rw [one_shl (by omega)]
  let on : Nat → Nat → Bool := fun z x => z.testBit (x / 4) && decide (x % 4 < sA S (x / 4)) && allInS S x b
  let g : Nat → Nat → Nat := fun z x => if on z x = true then goesS S x else 0
  have onA : ∀ z x, x < 4 * sN S → on z x = true → isA S x ∧ z.testBit (x / 4) = true ∧ allInS S x b = true := by
    intro z x hx h
    rw [show on z x = (z.testBit (x / 4) && decide (x % 4 < sA S (x / 4)) && allInS S x b) from rfl, Bool.and_eq_true, Bool.and_eq_true] at h
    exact ⟨⟨by omega, of_decide_eq_true h.1.2⟩, h.1.1, h.2⟩
  have gsub : ∀ w x z, bsub w z → (∀ t, t < sN S → z.testBit t = true → bsub (nextS S t b) z) → x < 4 * sN S → bsub (g w x) z := by
    intro w x z h1 h2 hx
    show bsub (if on w x = true then _ else 0) z
    split
    · rename_i ho
      obtain ⟨a1, a2, a3⟩ := onA w x hx ho
      have h5 := h2 (x / 4) a1.1 (h1 _ a2)
      have h6 := orU_sub.mp h5 (x % 4) a1.2
      rw [show 4 * (x / 4) + x % 4 = x by omega, if_pos a3] at h6
      exact h6
    · exact bsub_0 _
  have gn : ∀ w x, x < 4 * sN S → bsub (g w x) (fullB (sN S)) := by
    intro w x hx
    show bsub (if on w x = true then _ else 0) _
    split
    · rename_i ho; exact sub_n_full.mp (goes_sub hw (onA w x hx ho).1)
    · exact bsub_0 _
  have key : ∀ N y o5 o6 o7 o8, y + N = 1024 → sub_n y (sN S) → y.testBit s = true → (∀ z, z.testBit s = true → (∀ t, t < sN S → z.testBit t = true → bsub (nextS S t b) z) → bsub y z) → (W2 xs (callW2 xs (d + 1)) tX12_reachedFrom [6, 12, 48] (some .int) Q 6 [some (vR 40 0), some (vI (nI s)), some (vI (nI b)), some (vI (nI y)), some (vI (nI 1)), (o5), (o6), (o7), (o8)] [] (m)) := by
    intro N
    induction N using Nat.strongRecOn with
    | _ N ihN =>
      intro y o5 o6 o7 o8 hyN h1 h2 h5
      have hy10 := sub_lt h1 h3
      refine W2_st (bX12_reachedFrom_6 m _ _ _ _ _ _ _ _ ⟨fun z => absurd z (by decide), fun _ => ?_⟩)
      have loop : ∀ x, x ≤ 4 * sN S → ∀ o7 o8, (W2 xs (callW2 xs (d + 1)) tX12_reachedFrom [6, 12, 48] (some .int) Q 12 [some (vR 40 0), some (vI (nI s)), some (vI (nI b)), some (vI (nI (passG g y x))), some (vI (nI 1)), some (vI (nI y)), some (vI (nI x)), (o7), (o8)] [] (m)) := by
        refine upto (4 * sN S) ?_ ?_
        · intro o7 o8
          have hpn : sub_n (passG g y (4 * sN S)) (sN S) := sub_n_full.mpr (passG_min (sub_n_full.mp h1) (fun w k hk _ => gn w k hk))
          have hp10 := sub_lt hpn h3
          have hsub : bsub y (passG g y (4 * sN S)) := passG_mono (k := 0) (Nat.zero_le _)
          refine W2_st (bX12_reachedFrom_12 m _ _ _ _ _ _ _ _ ?_)
          rw [rm_n hR, pk_mul, nI_leI (by omega) (by omega), nI_eq (by omega) (by omega)]
          refine ⟨fun _ => ⟨fun he => ?_, fun hne => ?_⟩, fun z => absurd (Nat.le_refl _) z⟩
          · rw [he]
            refine W2_st (bX12_reachedFrom_6 m _ _ _ _ _ _ _ _ ⟨fun _ => ?_, fun z => absurd (by decide) z⟩)
            refine hQ y ⟨h1, h2, fun t ht hy => orU_sub.mpr (fun a ha => ?_), h5⟩
            split
            · rename_i hA
              have h4 := wf_a hw ht
              have h6 := passG_fix he (4 * t + a) (by omega)
              have ho : on y (4 * t + a) = true := by
                show (y.testBit ((4 * t + a) / 4) && decide ((4 * t + a) % 4 < sA S ((4 * t + a) / 4)) && allInS S (4 * t + a) b) = true
                rw [show (4 * t + a) / 4 = t by omega, show (4 * t + a) % 4 = a by omega, hy, hA, decide_eq_true ha]
                rfl
              rw [show g y (4 * t + a) = (if on y (4 * t + a) = true then goesS S (4 * t + a) else 0) from rfl, if_pos ho] at h6
              exact h6
            · exact bsub_0 _
          · have hlt : y < passG g y (4 * sN S) := Nat.lt_of_le_of_ne (bsub_le hsub) (Ne.symm hne)
            exact ihN (1024 - passG g y (4 * sN S)) (by omega) _ _ _ _ _ (by omega) hpn (hsub s h2) (fun z q1 q2 => passG_min (h5 z q1 q2) (fun w k hk hwz => gsub w k z hwz q2 hk))
        · intro x hx ih o7 o8
          have hpn : sub_n (passG g y x) (sN S) := sub_n_full.mpr (passG_min (sub_n_full.mp h1) (fun w k' hk' _ => gn w k' (by omega)))
          have hp10 := sub_lt hpn h3
          have h4 := wf_a hw (show x / 4 < sN S by omega)
          refine W2_st (bX12_reachedFrom_12 m _ _ _ _ _ _ _ _ ?_)
          rw [rm_n hR, pk_mul, nI_leI (by omega) (by omega), pk_rem (by omega) (by omega) (by omega), pk_div (by omega) (by omega) (by omega), shr_bit (by omega) (by omega), bI_1, nI_clamp (by omega), rm_a hR (show x / 4 < sN S by omega), nI_leI (by omega) (by omega)]
          simp only [passG] at ih
          -- the ACT's OUTCOMES are gone through
          have off0 : on (passG g y x) x = false → (W2 xs (callW2 xs (d + 1)) tX12_reachedFrom [6, 12, 48] (some .int) Q 48 [some (vR 40 0), some (vI (nI s)), some (vI (nI b)), some (vI (nI (passG g y x))), some (vI (nI 1)), some (vI (nI y)), some (vI (nI x)), some (vI (nI 0)), some (vI (nI 0))] [] (m)) := by
            intro ho
            rw [show g (passG g y x) x = (if on (passG g y x) x = true then goesS S x else 0) from rfl, if_neg (by rw [ho]; simp), Nat.or_zero] at ih
            refine W2_st (bX12_reachedFrom_48 m _ _ _ _ _ _ _ _ ?_)
            rw [nI_clamp (by omega)]
            simp only [nI_add]
            exact ⟨inb_nI (by omega) (by omega), fun _ => ih _ _, fun _ => ⟨fun _ => ih _ _, fun z => absurd (by decide) z⟩⟩
          have on1 : on (passG g y x) x = true → (W2 xs (callW2 xs (d + 1)) tX12_reachedFrom [6, 12, 48] (some .int) Q 48 [some (vR 40 0), some (vI (nI s)), some (vI (nI b)), some (vI (nI (passG g y x))), some (vI (nI 1)), some (vI (nI y)), some (vI (nI x)), some (vI (nI 1)), some (vI (nI 0))] [] (m)) := by
            intro ho
            obtain ⟨hA, _, _⟩ := onA _ x hx ho
            have ho4 := wf_o hw hA
            rw [show g (passG g y x) x = (if on (passG g y x) x = true then goesS S x else 0) from rfl, if_pos ho] at ih
            have outs : ∀ o, o ≤ sO S x → (W2 xs (callW2 xs (d + 1)) tX12_reachedFrom [6, 12, 48] (some .int) Q 48 [some (vR 40 0), some (vI (nI s)), some (vI (nI b)), some (vI (nI (passG g y x ||| orU (fun o => 2 ^ sT S x o) o))), some (vI (nI 1)), some (vI (nI y)), some (vI (nI x)), some (vI (nI 1)), some (vI (nI o))] [] (m)) := by
              refine upto (sO S x) ?_ ?_
              · refine W2_st (bX12_reachedFrom_48 m _ _ _ _ _ _ _ _ ?_)
                rw [nI_clamp (by omega), rm_o hR hA, nI_leI (by omega) (by omega)]
                simp only [nI_add]
                exact ⟨inb_nI (by omega) (by omega), fun _ => ih _ _, fun z => absurd (Nat.le_refl _) z⟩
              · intro o ho2 iho
                have ht := wf_t10 hw hA ho2
                refine W2_st (bX12_reachedFrom_48 m _ _ _ _ _ _ _ _ ?_)
                simp (disch := omega) only [nI_clamp, rm_o hR hA, nI_leI, nI_add, pk_mul, rm_t hR hA ho2, one_shl, nI_or, inb_iff, Nat.or_assoc]
                exact ⟨by omega, fun z => by omega, fun _ => ⟨fun z => absurd z (by decide), fun _ => ⟨by omega, iho⟩⟩⟩
            have := outs 0 (Nat.zero_le _)
            simp only [orU, Nat.or_zero] at this
            exact this
          have n4 : ¬ nI 4 = 0 := by decide
          refine ⟨fun z => by omega, fun _ => ⟨n4, fun h => off0 ?_, fun h => ⟨n4, n4, inb_nI (by omega) (by omega), fun h6 => off0 ?_, fun h6 => ?_⟩⟩⟩
          · show (_ && _ && _) = false
            rw [Bool.not_eq_true] at h
            rw [h]; rfl
          · show (_ && _ && _) = false
            rw [decide_eq_false (by omega)]; simp
          · have hA : isA S x := ⟨by omega, by omega⟩
            refine r_allIn hR hw hA (by omega) ⟨_, rfl, fun h7 => off0 ?_, fun h7 => on1 ?_⟩
            · rw [bI_0] at h7
              show (_ && _ && _) = false
              rw [h7]; simp
            · rw [bI_0, Bool.not_eq_false] at h7
              show (_ && _ && _) = true
              rw [h7, h, decide_eq_true (show x % 4 < sA S (x / 4) by omega)]; rfl
      exact loop 0 (Nat.zero_le _) _ _
  have hlt : 2 ^ s < 1024 := sub_lt (sub_n_two hs) h3
  exact key (1024 - 2 ^ s) _ _ _ _ _ (by omega) (sub_n_two hs) (two_self s) (fun z hz _ => bsub_two hz)
end L77
