/-! CONTRACTS (32): the reference's sure choices and their costs (wip/whole/src/86.costM.src) -/
section L86
variable {xs : Nat × (Nat → Int32)} {d : Nat} {Q : Option v2 → Mem → Prop} {m : Mem} {S : Sys}
/-- x keeps to itself and the MARKED by the choices c, and is sure to end -/
def shut (S : Sys) (c : Nat → Nat) (x : Nat) : Prop := lkS S x c ∧ ∀ s, x.testBit s = true → allInS S (4 * s + c s) (x ||| sM S) = true
theorem filB_bit {p : Nat → Bool} {n k : Nat} : (passU (fun _ s => p s) 0 n).testBit k = true ↔ k < n ∧ p k = true := by
  induction n with
  | zero =>
    rw [show passU (fun _ s => p s) 0 0 = 0 from rfl, Nat.zero_testBit]
    exact ⟨fun z => (by cases z), fun z => by omega⟩
  | succ n ih =>
    rw [passU_succ]
    by_cases hp : p n = true
    · rw [if_pos hp, Nat.testBit_or, Bool.or_eq_true, ih, two_bit, decide_eq_true_iff]
      constructor
      · rintro (q | q)
        · exact ⟨by omega, q.2⟩
        · rw [← q]; exact ⟨by omega, hp⟩
      · intro q
        by_cases e : n = k
        · exact Or.inr e
        · exact Or.inl ⟨by omega, q.2⟩
    · rw [if_neg hp, ih]
      constructor
      · intro q; exact ⟨by omega, q.2⟩
      · intro q
        refine ⟨?_, q.2⟩
        by_cases e : k = n
        · rw [e] at q; exact absurd q.2 hp
        · omega
/-- what keeps to itself lies in what may come -/
theorem shut_in {B x y : Nat} {c : Nat → Nat} (hc : pol S B c) (hxB : bsub x B) (hx : shut S c x) (hy : isCr S B (sM S) c y) : bsub x y := by
  intro s0 hs0
  apply Classical.byContradiction
  intro hn
  obtain ⟨s, ⟨q1, q2⟩, o, ho, q3⟩ := hx.1 (fun s => x.testBit s = true ∧ ¬ y.testBit s = true) ⟨s0, hs0, hn⟩ (fun s hs => hs.1)
  refine q2 (hy.2.2.1 s (hc s (hxB s q1)).1 (hxB s q1) (anyU_iff.mpr ⟨o, ho, ?_⟩))
  have h1 := allU_iff.mp (hx.2 s q1) o ho
  rw [Nat.testBit_or, Bool.or_eq_true] at h1
  rcases h1 with h1 | h1
  · exact Classical.byContradiction (fun z => q3 ⟨h1, z⟩)
  · exact hy.1 _ h1
theorem r_sureChosen {B : Nat} {c : Nat → Nat} (hR : RM m S) (hw : wf S) (hch : ∀ s, s < sN S → m.1 48 0 s = nI (c s)) (hc : pol S B c) (hd : ∀ s, B.testBit s = true → (sM S).testBit s = false) (hQ : ∀ x, bsub x B → shut S c x → (∀ z, bsub z B → shut S c z → bsub z x) → Q (some (vI (nI x))) m) : callW2 xs (d + 3) 162 [vR 40 0, vI (nI B)] m Q := by
  have h3 := wf_n hw
  have hM : sub_n (sM S) (sN S) := hw.2.1
  have hM10 := wf_m hw
  have hBn : sub_n B (sN S) := fun s hs => (hc s hs).1
  refine eX12_sureChosen m _ (W2_st (bX12_sureChosen_0 m _ ?_))
  have key : ∀ N x o4 o5 o6 o7 o8, x ≤ N → bsub x B → (∀ z, bsub z B → shut S c z → bsub z x) → (W2 xs (callW2 xs (d + 2)) tX12_sureChosen [4, 21] (some .int) Q 4 [some (vR 40 0), some (vI (nI B)), some (vI (nI x)), some (vI (nI 1)), (o4), (o5), (o6), (o7), (o8)] [] (m)) := by
    intro N
    induction N using Nat.strongRecOn with
    | _ N ihN =>
      intro x o4 o5 o6 o7 o8 hN hxB hmax
      refine W2_st (bX12_sureChosen_4 m _ _ _ _ _ _ _ _ ⟨fun z => absurd z (by decide), fun _ => ?_⟩)
      have hcx : pol S x c := fun s hs => hc s (hxB s hs)
      have hdx : ∀ s, (sM S).testBit s = true → x.testBit s = false := fun s hs => by
        cases q : x.testBit s with
        | false => rfl
        | true => have := hd s (hxB s q); rw [hs] at this; cases this
      have hx10 := sub_lt (sub_n_of hxB hBn) h3
      rw [rm_m hR]
      refine r_comesChosen hR hw hch hcx hM (fun y hy hyn => ⟨_, rfl, ?_⟩)
      rw [nI_or]
      have hyx : bsub (y &&& x) x := bsub_and_r _ _
      have hy10 : y &&& x < 1024 := Nat.lt_of_le_of_lt (bsub_le hyx) hx10
      have hxM : x ||| sM S < 1024 := sub_lt (sub_n_or (sub_n_of hxB hBn) hM) h3
      let p : Nat → Bool := fun s => (y &&& x).testBit s && allInS S (4 * s + c s) (x ||| sM S)
      refine upto (P := fun k => ∀ o8, (W2 xs (callW2 xs (d + 2)) tX12_sureChosen [4, 21] (some .int) Q 21 [some (vR 40 0), some (vI (nI B)), some (vI (nI x)), some (vI (nI 1)), some (vI (nI (x ||| sM S))), some (vI (nI (passU (fun _ s => p s) 0 k))), some (vI (nI (y &&& x))), some (vI (nI k)), (o8)] [] (m))) (sN S) ?_ ?_ 0 (Nat.zero_le _) _
      · intro o8
        have hbit : ∀ s, (passU (fun _ s => p s) 0 (sN S)).testBit s = true ↔ (y.testBit s = true ∧ x.testBit s = true) ∧ allInS S (4 * s + c s) (x ||| sM S) = true := by
          intro s
          rw [filB_bit]
          show _ ∧ ((y &&& x).testBit s && allInS S (4 * s + c s) (x ||| sM S)) = true ↔ _
          rw [Bool.and_eq_true, Nat.testBit_and, Bool.and_eq_true]
          exact ⟨fun z => z.2, fun z => ⟨hyn s z.1.1, z⟩⟩
        generalize passU (fun _ s => p s) 0 (sN S) = k at hbit ⊢
        have hkx : bsub k x := fun s hs => ((hbit s).mp hs).1.2
        have hk10 : k < 1024 := Nat.lt_of_le_of_lt (bsub_le hkx) hx10
        have hmk : ∀ z, bsub z B → shut S c z → bsub z k := by
          intro z hz hs s hzs
          have hzx := hmax z hz hs
          refine (hbit s).mpr ⟨⟨shut_in hcx hzx hs hy s hzs, hzx s hzs⟩, allIn_mono (fun i hi => ?_) (hs.2 s hzs)⟩
          rw [Nat.testBit_or, Bool.or_eq_true] at hi ⊢
          exact hi.imp (hzx i) id
        refine W2_st (bX12_sureChosen_21 m _ _ _ _ _ _ _ _ ?_)
        rw [rm_n hR, nI_leI (by omega) (by omega), nI_eq (by omega) (by omega)]
        refine ⟨fun _ => ⟨fun he => ?_, fun hne => ?_⟩, fun z => absurd (Nat.le_refl _) z⟩
        · subst he
          refine W2_st (bX12_sureChosen_4 m _ _ _ _ _ _ _ _ ⟨fun _ => ?_, fun z => absurd (by decide) z⟩)
          refine hQ k hxB ⟨?_, fun s hs => ((hbit s).mp hs).2⟩ hmax
          have h9 := isCr_lk hcx hM hdx hy
          have e : y &&& k = k := bsub_anti hyx (fun s hs => by rw [Nat.testBit_and, Bool.and_eq_true]; exact ((hbit s).mp hs).1)
          rw [e] at h9
          exact h9
        · have hlt : k < x := Nat.lt_of_le_of_ne (bsub_le hkx) hne
          exact ihN k (by omega) k _ _ _ _ _ (Nat.le_refl _) (bsub_trans hkx hxB) hmk
      · intro k hk ih o8
        rw [passU_succ] at ih
        refine W2_st (bX12_sureChosen_21 m _ _ _ _ _ _ _ _ ?_)
        simp (disch := omega) only [rm_n hR, nI_leI, shr_bit, bI_1, nI_clamp, hch k hk, pk_mul, nI_add, one_shl, nI_or, inb_iff]
        refine ⟨fun z => by omega, fun _ => ⟨fun hb => ⟨fun _ => ?_, fun z => absurd rfl z⟩, fun hb => ⟨by omega, ?_⟩⟩⟩
        · rw [if_neg (by show ¬ ((y &&& x).testBit k && allInS S (4 * k + c k) (x ||| sM S)) = true; rw [Bool.and_eq_true]; exact fun z => hb z.1)] at ih
          rw [Nat.or_zero]
          exact ih _
        · have hbx := hyx k hb
          refine r_allIn hR hw (pol_a hw hcx hbx) (by omega) ⟨_, rfl, ?_⟩
          rw [bI_0]
          refine ⟨fun hl => ⟨fun _ => ?_, fun z => absurd rfl z⟩, fun hl => ⟨fun z => absurd z (by decide), fun _ => ?_⟩⟩
          · rw [if_neg (by show ¬ ((y &&& x).testBit k && allInS S (4 * k + c k) (x ||| sM S)) = true; rw [hl]; simp)] at ih
            rw [Nat.or_zero]
            exact ih _
          · rw [if_pos (by show ((y &&& x).testBit k && allInS S (4 * k + c k) (x ||| sM S)) = true; rw [Bool.not_eq_false] at hl; rw [hl, hb]; rfl)] at ih
            exact ih _
  exact key B B _ _ _ _ _ (Nat.le_refl _) (bsub_rfl _) (fun z hz _ => hz)
end L86
