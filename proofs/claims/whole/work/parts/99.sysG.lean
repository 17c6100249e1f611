/-! CONTRACTS (51): outcome(), the reference (wip/whole/src/99.sysG.src) -/
section L99g
variable {xs : Nat × (Nat → Int32)} {d : Nat} {Q : Option v2 → Mem → Prop} {m : Mem} {S : Sys}
theorem od2 : ∀ k, k < 4 → (nI k - nI k / nI 2 * nI 2 = nI 1 ↔ k % 2 = 1) := by decide +kernel
theorem r_outcome {p q t n : Int32} (hR : RM m S) (hw : wf S) (hN : ∀ r, outN S p q t n r → Q (some (vI r)) (mI m 40 0 0 (nI 0))) (hQ : ∀ m', outY S p q t n → off tUM m m' → m'.1 40 0 0 = nI 0 → RM m' (addO S (xOf p q) t.toNatClampNeg n.toNatClampNeg) → Q (some (vI (nI (partsS S (xOf p q) + n.toNatClampNeg)))) m') : callW2 xs (d + 3) 121 [vR 40 0, vI p, vI q, vI t, vI n] m Q := by
  have h3 := wf_n hw
  refine eX12_outcome m _ _ _ _ (W2_st (bX12_outcome_0 m _ _ _ _ ?_))
  have hRo := RM_0 (v := nI 0) hR
  have o1 : off tUM m (mI m 40 0 0 (nI 0)) := off_I (off_rfl _ _) _ _ (by unfold tUM; omega)
  have z0 : (mI m 40 0 0 (nI 0)).1 40 0 0 = nI 0 := by rw [mI_r, if_pos ⟨rfl, rfl, rfl⟩]
  generalize mI m 40 0 0 (nI 0) = mo at hRo hN o1 z0 ⊢
  have no : ¬ outIn S p q t n → Q (some (vI (-1))) mo := fun h => hN _ (Or.inl ⟨h, rfl⟩)
  refine r_isAct hRo hw p q ⟨_, rfl, ?_⟩
  rw [bI_0]
  refine ⟨fun h => no (fun z => by have := z.1; rw [h] at this; cases this), fun hac => ?_⟩
  rw [Bool.not_eq_false] at hac
  refine r_isState hRo hw t ⟨_, rfl, ?_⟩
  rw [bI_0]
  refine ⟨fun h => no (fun z => by have := z.2.1; rw [h] at this; cases this), fun hst => ?_⟩
  rw [Bool.not_eq_false] at hst
  refine r_isIn n 1 12 (by omega) (by omega) ⟨_, rfl, ?_⟩
  rw [bI_0, decide_eq_false_iff_not]
  refine ⟨fun hin => ?_, fun h => no (fun z => h z.2.2.1)⟩
  rw [Decidable.not_not] at hin
  have hin : in112 n := hin
  obtain ⟨s, a, hs, ha, ha4, e1, e2⟩ := isAc_t hw hac
  obtain ⟨b, hb, e3⟩ := isSt_t hw hst
  obtain ⟨k, hk1, hk, e4⟩ := in112_t hin
  subst e1 e2 e3 e4
  have hxo : xOf (nI s) (nI a) = 4 * s + a := by unfold xOf; rw [nI_clamp (by omega), nI_clamp (by omega)]
  unfold outN outY outIn at *
  rw [hxo, nI_clamp (n := b) (by omega), nI_clamp (n := k) (by omega)] at hN hQ
  rw [hxo] at no
  have hx : isA S (4 * s + a) := ⟨by omega, by rw [show (4 * s + a) / 4 = s by omega, show (4 * s + a) % 4 = a by omega]; exact ha⟩
  rw [pk_mul, nI_add, nI_clamp (n := 4 * s + a) (by omega)]
  have hx40 := wf_40 hw hx
  generalize 4 * s + a = x at *
  have hkk := wf_k hw hx
  have ho4 := wf_o hw hx
  have hps := wf_ps hw hx
  have ix : inb (nI x) 40 := inb_nI (by omega) (by omega)
  rw [rm_k hRo hx, rm_o hRo hx, od2 _ (by omega), nI_eq (a := sK S x) (by omega) (by omega), nI_eq (a := sO S x) (by omega) (by omega), nI_eq (a := sO S x) (by omega) (by omega)]
  -- those that are there already
  have loop : (sK S x = 3 → nI b = nI s) → sO S x < room S x → (W2 xs (callW2 xs (d + 2)) tX12_outcome [59] (some .int) Q 59 [some (vR 40 0), some (vI (nI s)), some (vI (nI a)), some (vI (nI b)), some (vI (nI k)), some (vI (nI x)), some (vI (nI 0)), some (vI (nI 0))] [] (mo)) := by
    intro hk3 hlt
    have hr : room S x ≤ 4 := by unfold room; split <;> omega
    have hI : isAc S (nI s) (nI a) = true ∧ isSt S (nI b) = true ∧ in112 (nI k) ∧ (sK S x = 3 → nI b = nI s) := ⟨hac, hst, hin, hk3⟩
    refine upto (P := fun o => (W2 xs (callW2 xs (d + 2)) tX12_outcome [59] (some .int) Q 59 [some (vR 40 0), some (vI (nI s)), some (vI (nI a)), some (vI (nI b)), some (vI (nI k)), some (vI (nI x)), some (vI (bI (anyU (fun o => decide (sT S x o = b)) o))), some (vI (nI o))] [] (mo))) (sO S x) ?_ ?_ 0 (Nat.zero_le _)
    · refine W2_st (bX12_outcome_59 mo _ _ _ _ _ _ _ ?_)
      rw [nI_clamp (n := x) (by omega), rm_o hRo hx, nI_leI (by omega) (by omega), bI_0, ← goes_bit]
      refine ⟨ix, fun _ => ⟨fun hg => hN _ (Or.inr (Or.inr ⟨hI, hlt, fun z => hg z.2, rfl⟩)), fun hg => ?_⟩, fun z => absurd (Nat.le_refl _) z⟩
      refine r_partsOf hRo hw hx ⟨_, rfl, ?_⟩
      rw [nI_add, nI_leI (by omega) (by omega), rm_o hRo hx, pk_mul, nI_add, nI_clamp (n := 4 * x + sO S x) (by omega)]
      refine ⟨fun h12 => ⟨ix, inb_nI (by omega) (by omega), ix, ?_⟩, fun h12 => hN _ (Or.inr (Or.inr ⟨hI, hlt, fun z => h12 z.1, rfl⟩))⟩
      have a1 : (mI mo 45 0 (4 * x + sO S x) (nI b)).1 44 0 x = nI (sO S x) := by rw [mI_r, if_neg (by omega)]; exact rm_o hRo hx
      rw [a1, nI_add, nI_clamp (n := 4 * x + sO S x) (by omega)]
      have a2 : (mI (mI mo 45 0 (4 * x + sO S x) (nI b)) 46 0 (4 * x + sO S x) (nI k)).1 44 0 x = nI (sO S x) := by rw [mI_r, if_neg (by omega)]; exact a1
      rw [a2, nI_add]
      refine ⟨inb_nI (by omega) (by omega), ix, ix, ?_⟩
      generalize hm3 : mI (mI (mI mo 45 0 (4 * x + sO S x) (nI b)) 46 0 (4 * x + sO S x) (nI k)) 44 0 x (nI (sO S x + 1)) = m3
      have r3 : ∀ t i j, ¬ (44 ≤ t ∧ t ≤ 46) → m3.1 t i j = mo.1 t i j := fun t i j h => by rw [← hm3, mI_r, if_neg (by omega), mI_r, if_neg (by omega), mI_r, if_neg (by omega)]
      have hRM : RM m3 (addO S x b k) := RM_addO hRo hw hx (by omega) (fun t h1 h2 => by funext j; exact r3 t 0 j (by omega)) (fun y hy => by rw [← hm3, mI_r, if_neg (by omega), mI_r, if_neg (by omega), mI_r, if_neg (by omega)]) (by rw [← hm3, mI_r, if_pos ⟨rfl, rfl, rfl⟩]) (fun y hy => by rw [← hm3]; exact ⟨by rw [mI_r, if_neg (by omega), mI_r, if_neg (by omega), mI_r, if_neg (by omega)], by rw [mI_r, if_neg (by omega), mI_r, if_neg (by omega), mI_r, if_neg (by omega)]⟩) (by rw [← hm3]; exact ⟨by rw [mI_r, if_neg (by omega), mI_r, if_neg (by omega), mI_r, if_pos ⟨rfl, rfl, rfl⟩], by rw [mI_r, if_neg (by omega), mI_r, if_pos ⟨rfl, rfl, rfl⟩]⟩)
      have hk4 : sK S x = 3 → b = x / 4 := by
        intro h
        have h9 := hk3 h
        rw [nI_eq (by omega) (by omega)] at h9
        have h8 : xOf (nI s) (nI a) = x := hxo
        unfold xOf at h8
        rw [nI_clamp (by omega), nI_clamp (by omega)] at h8
        omega
      have hw3 : wf (addO S x b k) := wf_addO hw hx hb hk1 h12 hlt hk4
      refine r_partsOf hRM hw3 hx ⟨_, rfl, ?_⟩
      rw [addO_parts]
      refine hQ m3 ⟨hI, hlt, h12, hg⟩ ?_ (by rw [r3 40 0 0 (by omega)]; exact z0) hRM
      rw [← hm3]
      exact off_I (off_I (off_I o1 _ _ (by unfold tUM; omega)) _ _ (by unfold tUM; omega)) _ _ (by unfold tUM; omega)
    · intro o ho ih
      rw [show anyU (fun o => decide (sT S x o = b)) (o + 1) = (anyU (fun o => decide (sT S x o = b)) o || decide (sT S x o = b)) from rfl] at ih
      have ht := wf_t10 hw hx ho
      refine W2_st (bX12_outcome_59 mo _ _ _ _ _ _ _ ?_)
      rw [nI_clamp (n := x) (by omega), rm_o hRo hx, nI_leI (by omega) (by omega), bI_0, pk_mul, nI_add, nI_add, nI_clamp (n := 4 * x + o) (by omega), rm_t hRo hx ho, nI_eq (a := sT S x o) (by omega) (by omega)]
      refine ⟨ix, fun z => by omega, fun _ => ⟨fun h => ?_, fun h => ⟨inb_nI (by omega) (by omega), fun hne => ?_, fun heq => ?_⟩⟩⟩
      · rw [Bool.not_eq_false] at h; rw [h] at ih; exact ih
      · rw [h, decide_eq_false hne] at ih; exact ih
      · rw [h, decide_eq_true heq] at ih; exact ih
  have hfull : (sK S x = 3 → nI b = nI s) → ¬ sO S x < room S x → Q (some (vI (-2))) mo := fun hk3 h => hN _ (Or.inr (Or.inl ⟨⟨hac, hst, hin, hk3⟩, h, rfl⟩))
  have hwo := (wf_x hw hx).2.2.1
  have cont : (sK S x = 3 → nI b = nI s) → (¬ sK S x % 2 = 1 → (¬ sO S x = 4 → (W2 xs (callW2 xs (d + 2)) tX12_outcome [59] (some .int) Q 59 [some (vR 40 0), some (vI (nI s)), some (vI (nI a)), some (vI (nI b)), some (vI (nI k)), some (vI (nI x)), some (vI (nI 0)), some (vI (nI 0))] [] (mo))) ∧ (sO S x = 4 → Q (some (vI (-2))) mo)) ∧ (sK S x % 2 = 1 → (¬ sO S x = 1 → (W2 xs (callW2 xs (d + 2)) tX12_outcome [59] (some .int) Q 59 [some (vR 40 0), some (vI (nI s)), some (vI (nI a)), some (vI (nI b)), some (vI (nI k)), some (vI (nI x)), some (vI (nI 0)), some (vI (nI 0))] [] (mo))) ∧ (sO S x = 1 → Q (some (vI (-2))) mo)) := by
    intro hk3
    refine ⟨fun hodd => ?_, fun hodd => ?_⟩
    · have hr : room S x = 4 := if_neg hodd
      exact ⟨fun h => loop hk3 (by omega), fun h => hfull hk3 (by omega)⟩
    · have hr : room S x = 1 := if_pos hodd
      rw [if_pos hodd] at hwo
      exact ⟨fun h => loop hk3 (by omega), fun h => hfull hk3 (by omega)⟩
  refine ⟨ix, fun h => ⟨ix, ix, by decide, cont (fun z => absurd z h)⟩, fun h => ⟨fun he => ⟨ix, ix, by decide, cont (fun _ => he)⟩, fun he => no (fun z => he (z.2.2.2 h))⟩⟩
end L99g
