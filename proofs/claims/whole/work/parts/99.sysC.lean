/-! CONTRACTS (47): act(), calls (wip/whole/src/99.sysC.src) -/
section L99c
variable {xs : Nat × (Nat → Int32)} {d : Nat} {Q : Option v2 → Mem → Prop} {m : Mem} {S : Sys}
def actIn (S : Sys) (p q c : Int32) : Prop := isSt S p = true ∧ inN 3 q ∧ inN 1000 c
/-- why an ACT is refused -/
def actN (S : Sys) (p q c r : Int32) : Prop := (¬ actIn S p q c ∧ r = -1) ∨ (actIn S p q c ∧ sA S p.toNatClampNeg = 4 ∧ r = -2) ∨ (actIn S p q c ∧ sA S p.toNatClampNeg < 4 ∧ ¬ actOK S p.toNatClampNeg q.toNatClampNeg ∧ r = -3)
def actY (S : Sys) (p q c : Int32) : Prop := actIn S p q c ∧ sA S p.toNatClampNeg < 4 ∧ actOK S p.toNatClampNeg q.toNatClampNeg
theorem actN_uniq {p q c r r' : Int32} (h : actN S p q c r) (h' : actN S p q c r') : r = r' := by
  rcases h with ⟨a, b⟩ | ⟨a, a2, b⟩ | ⟨a, a2, a3, b⟩ <;> rcases h' with ⟨e, f⟩ | ⟨e, e2, f⟩ | ⟨e, e2, e3, f⟩
  · rw [b, f]
  · exact absurd e a
  · exact absurd e a
  · exact absurd a e
  · rw [b, f]
  · omega
  · exact absurd a e
  · omega
  · rw [b, f]
theorem actN_Y {p q c r : Int32} (h : actN S p q c r) (h' : actY S p q c) : False := by
  rcases h with ⟨a, b⟩ | ⟨a, a2, b⟩ | ⟨a, a2, a3, b⟩
  · exact a h'.1
  · have := h'.2.1; omega
  · exact a3 h'.2.2
theorem c_act {ver : Nat} {p q c : Int32} (hR : RC m S) (hw : wf S) (hver : m.1 1 0 2 = nI ver) (hN : ∀ r, actN S p q c r → Q (some (vI r)) m) (hQ : ∀ m', actY S p q c → off tU m m' → RC m' (addA S p.toNatClampNeg q.toNatClampNeg c.toNatClampNeg) → m'.1 1 0 2 = nI (ver + 1) → Q (some (vI (nI (sA S p.toNatClampNeg)))) m') : callW2 xs (d + 4) 80 [vR 0 0, vI p, vI q, vI c] m Q := by
  have h3 := wf_n hw
  refine eX11_act m _ _ _ (W2_st (bX11_act_0 m _ _ _ ?_))
  have no : ¬ actIn S p q c → Q (some (vI (-1))) m := fun h => hN _ (Or.inl ⟨h, rfl⟩)
  refine c_hasS hR hw p ⟨_, rfl, ?_⟩
  rw [bI_0]
  refine ⟨fun hst => no (fun z => by have := z.1; rw [hst] at this; cases this), fun hst => ?_⟩
  rw [Bool.not_eq_false] at hst
  rw [i_neg, i_neg, i_ltN (by omega), i_leN (by omega)]
  refine ⟨fun h => no (fun z => by have := z.2.1.1; omega), fun g1 => ⟨fun h => no (fun z => by have := z.2.1.2; omega), fun g2 => ⟨fun h => no (fun z => by have := z.2.2.1; omega), fun g3 => ⟨fun g4 => ?_, fun h => no (fun z => h z.2.2.2)⟩⟩⟩⟩
  have hin : actIn S p q c := ⟨hst, ⟨by omega, by omega⟩, ⟨by omega, g4⟩⟩
  obtain ⟨s, hs, e1⟩ := isSt_t hw hst
  obtain ⟨k, hk, e2⟩ := inN_t hin.2.1 (by omega)
  obtain ⟨w, hwc, e3⟩ := inN_t hin.2.2 (by omega)
  subst e1 e2 e3
  unfold actN actY at *
  rw [nI_clamp (n := s) (by omega)] at hN hQ
  rw [nI_clamp (n := k) (by omega)] at hN hQ
  rw [nI_clamp (n := w) (by omega)] at hQ
  have h4 := wf_a hw hs
  have ib : inb (nI s) 10 := inb_nI (by omega) (by omega)
  have add : actOK S s k → sA S s < 4 → callW2 xs (d + 3) 67 [vR 1 0, vI (nI s), vI (nI k), vI (nI w)] m (fun r4 m5 => ∃ w6 : Int32, r4 = some (vI w6) ∧ Q (some (vI w6)) m5) := by
    intro hok hlt
    refine eX10_addAct m _ _ _ (W2_st (bX10_addAct_0 m _ _ _ ⟨ib, ?_⟩))
    have e0 : (mI m 1 0 2 (m.1 1 0 2 + nI 1)).1 2 0 (nI s).toNatClampNeg = nI (sA S s) := by rw [nI_clamp (by omega), mI_r, if_neg (by omega)]; exact rc_a hR hs
    rw [e0, hver, nI_add]
    refine c_actAt _ s (sA S s) (by omega) hlt ⟨_, rfl, ?_⟩
    refine eX0_begin _ _ _ _ (W2_st (bX0_begin_0 _ _ _ _ ⟨rfl, ib, ib, ib, ?_⟩))
    generalize hx : 4 * s + sA S s = x
    have hx40 : x < 40 := by omega
    rw [nI_clamp (by omega)]
    generalize hm5 : mI (mI (mI (mI (mI (mI m 1 0 2 (nI (ver + 1))) 4 x 0 (nI k)) 4 x 1 (nI w)) 4 x 2 (nI 0)) 4 x 3 (nI 0)) 4 x 4 (nI 0) = m5
    have r5 : ∀ t i j, t ≠ 4 → ¬ (t = 1 ∧ i = 0 ∧ j = 2) → m5.1 t i j = m.1 t i j := fun t i j h1 h2 => by
      rw [← hm5, mI_r, if_neg (by omega), mI_r, if_neg (by omega), mI_r, if_neg (by omega), mI_r, if_neg (by omega), mI_r, if_neg (by omega), mI_r, if_neg h2]
    have x5 : m5.1 4 x 0 = nI k ∧ m5.1 4 x 1 = nI w ∧ m5.1 4 x 2 = nI 0 ∧ m5.1 4 x 3 = nI 0 ∧ m5.1 4 x 4 = nI 0 := by
      rw [← hm5]
      refine ⟨?_, ?_, ?_, ?_, ?_⟩
      · rw [mI_r, if_neg (by omega), mI_r, if_neg (by omega), mI_r, if_neg (by omega), mI_r, if_neg (by omega), mI_r, if_pos ⟨rfl, rfl, rfl⟩]
      · rw [mI_r, if_neg (by omega), mI_r, if_neg (by omega), mI_r, if_neg (by omega), mI_r, if_pos ⟨rfl, rfl, rfl⟩]
      · rw [mI_r, if_neg (by omega), mI_r, if_neg (by omega), mI_r, if_pos ⟨rfl, rfl, rfl⟩]
      · rw [mI_r, if_neg (by omega), mI_r, if_pos ⟨rfl, rfl, rfl⟩]
      · rw [mI_r, if_pos ⟨rfl, rfl, rfl⟩]
    have v5 : m5.1 1 0 2 = nI (ver + 1) := by
      rw [← hm5, mI_r, if_neg (by omega), mI_r, if_neg (by omega), mI_r, if_neg (by omega), mI_r, if_neg (by omega), mI_r, if_neg (by omega), mI_r, if_pos ⟨rfl, rfl, rfl⟩]
    have o5 : ∀ T : Nat → Nat → Prop, T 1 0 → T 4 x → off T m m5 := fun T h1 h2 => by
      rw [← hm5]
      exact off_I (off_I (off_I (off_I (off_I (off_I (off_rfl _ _) _ _ h1) _ _ h2) _ _ h2) _ _ h2) _ _ h2) _ _ h2
    rw [r5 2 0 s (by omega) (by omega), rc_a hR hs, nI_add]
    have e1 : (mI m5 2 0 s (nI (sA S s + 1))).1 2 0 s = nI (sA S s + 1) := by rw [mI_r, if_pos ⟨rfl, rfl, rfl⟩]
    rw [e1, nI_sub1]
    refine ⟨_, rfl, hQ _ ⟨hin, hlt, hok⟩ (off_I (o5 tU (by unfold tU; omega) (by unfold tU; omega)) _ _ (by unfold tU; omega)) (RC_addA hR hw hs hlt (off_I (o5 _ (by omega) (by omega)) _ _ (by omega)) ?_ ?_ (fun t ht hne => ?_) e1 ?_) ?_⟩
    · rw [mI_r, if_neg (by omega), r5 1 0 0 (by omega) (by omega)]; exact rc_n hR
    · rw [mI_r, if_neg (by omega), r5 1 0 1 (by omega) (by omega)]; exact rc_m hR
    · rw [mI_r, if_neg (by omega), r5 2 0 t (by omega) (by omega)]
    · rw [hx, mI_r, if_neg (by omega), mI_r, if_neg (by omega), mI_r, if_neg (by omega), mI_r, if_neg (by omega), mI_r, if_neg (by omega)]
      exact x5
    · rw [mI_r, if_neg (by omega)]; exact v5
  rw [nI_clamp (by omega), rc_a hR hs, i_lt2 (by omega), nI_toInt (by omega), z_le (by omega), nI_eq (a := k) (by omega) (by omega)]
  refine ⟨ib, fun hlt => ⟨ib, fun h0 => add (Or.inl h0) (by omega), fun h0 => ?_⟩, fun hlt => hN _ (Or.inr (Or.inl ⟨hin, by omega, rfl⟩))⟩
  refine c_isFoes hR hw hs ⟨_, rfl, ?_⟩
  have bad : ¬ (k = 2 ↔ foeS S s = true) → Q (some (vI (-3))) m := fun h => hN _ (Or.inr (Or.inr ⟨hin, by omega, fun z => z.elim h0 h, rfl⟩))
  refine ⟨fun h2 => ⟨fun hf => add (Or.inr ⟨fun z => absurd z h2, fun z => ?_⟩) (by omega), fun hf => bad (fun z => ?_)⟩, fun h2 => ⟨fun hf => add (Or.inr ⟨fun _ => ?_, fun _ => h2⟩) (by omega), fun hf => bad (fun z => ?_)⟩⟩
  · rw [z] at hf; exact absurd hf (by decide)
  · cases q : foeS S s with
    | true => exact h2 (z.mpr q)
    | false => rw [q] at hf; exact hf rfl
  · rw [bI_1] at hf; exact hf
  · have := z.mp h2
    rw [this] at hf
    exact hf rfl
theorem r_act {p q c : Int32} (hR : RM m S) (hw : wf S) (hN : ∀ r, actN S p q c r → Q (some (vI r)) (mI m 40 0 0 (nI 0))) (hQ : ∀ m', actY S p q c → off tUM m m' → m'.1 40 0 0 = nI 0 → RM m' (addA S p.toNatClampNeg q.toNatClampNeg c.toNatClampNeg) → Q (some (vI (nI (sA S p.toNatClampNeg)))) m') : callW2 xs (d + 2) 119 [vR 40 0, vI p, vI q, vI c] m Q := by
  have h3 := wf_n hw
  refine eX12_act m _ _ _ (W2_st (bX12_act_0 m _ _ _ ?_))
  have hRo := RM_0 (v := nI 0) hR
  have o1 : off tUM m (mI m 40 0 0 (nI 0)) := off_I (off_rfl _ _) _ _ (by unfold tUM; omega)
  have z0 : (mI m 40 0 0 (nI 0)).1 40 0 0 = nI 0 := by rw [mI_r, if_pos ⟨rfl, rfl, rfl⟩]
  generalize mI m 40 0 0 (nI 0) = mo at hRo hN o1 z0 ⊢
  have no : ¬ actIn S p q c → Q (some (vI (-1))) mo := fun h => hN _ (Or.inl ⟨h, rfl⟩)
  refine r_isState hRo hw p ⟨_, rfl, ?_⟩
  rw [bI_0]
  refine ⟨fun hst => no (fun z => by have := z.1; rw [hst] at this; cases this), fun hst => ?_⟩
  rw [Bool.not_eq_false] at hst
  refine r_isIn q 0 3 (by omega) (by omega) ⟨_, rfl, ?_⟩
  rw [bI_0, decide_eq_false_iff_not]
  refine ⟨fun h => no (fun z => h z.2.1), fun hq => ?_⟩
  rw [Decidable.not_not] at hq
  refine r_isIn c 0 1000 (by omega) (by omega) ⟨_, rfl, ?_⟩
  rw [bI_0, decide_eq_false_iff_not]
  refine ⟨fun hc => ?_, fun h => no (fun z => h z.2.2)⟩
  rw [Decidable.not_not] at hc
  have hin : actIn S p q c := ⟨hst, hq, hc⟩
  obtain ⟨s, hs, e1⟩ := isSt_t hw hst
  obtain ⟨k, hk, e2⟩ := inN_t hin.2.1 (by omega)
  obtain ⟨w, hwc, e3⟩ := inN_t hin.2.2 (by omega)
  subst e1 e2 e3
  unfold actN actY at *
  rw [nI_clamp (n := s) (by omega)] at hN hQ
  rw [nI_clamp (n := k) (by omega)] at hN hQ
  rw [nI_clamp (n := w) (by omega)] at hQ
  have h4 := wf_a hw hs
  have ib : inb (nI s) 10 := inb_nI (by omega) (by omega)
  rw [nI_clamp (by omega), rm_a hRo hs, z_le (by omega), pk_mul, nI_add, nI_eq (a := sA S s) (by omega) (by omega)]
  have add : actOK S s k → sA S s < 4 → inb (nI s) 10 ∧ inb (nI (4 * s + sA S s)) 40 ∧ inb (nI (4 * s + sA S s)) 40 ∧ inb (nI (4 * s + sA S s)) 40 ∧ inb (nI s) 10 ∧ inb (nI s) 10 ∧ inb (nI s) 10 ∧ Q (some (vI (((mI (mI (mI (mI mo 42 0 (nI (4 * s + sA S s)).toNatClampNeg (nI k)) 43 0 (nI (4 * s + sA S s)).toNatClampNeg (nI w)) 44 0 (nI (4 * s + sA S s)).toNatClampNeg (nI 0)) 41 0 s (((mI (mI (mI mo 42 0 (nI (4 * s + sA S s)).toNatClampNeg (nI k)) 43 0 (nI (4 * s + sA S s)).toNatClampNeg (nI w)) 44 0 (nI (4 * s + sA S s)).toNatClampNeg (nI 0)).1 41 0 s) + (nI 1))).1 41 0 s) - (nI 1)))) (mI (mI (mI (mI mo 42 0 (nI (4 * s + sA S s)).toNatClampNeg (nI k)) 43 0 (nI (4 * s + sA S s)).toNatClampNeg (nI w)) 44 0 (nI (4 * s + sA S s)).toNatClampNeg (nI 0)) 41 0 s (((mI (mI (mI mo 42 0 (nI (4 * s + sA S s)).toNatClampNeg (nI k)) 43 0 (nI (4 * s + sA S s)).toNatClampNeg (nI w)) 44 0 (nI (4 * s + sA S s)).toNatClampNeg (nI 0)).1 41 0 s) + (nI 1))) := by
    intro hok hlt
    have ix : inb (nI (4 * s + sA S s)) 40 := inb_nI (by omega) (by omega)
    refine ⟨ib, ix, ix, ix, ib, ib, ib, ?_⟩
    rw [nI_clamp (by omega)]
    generalize hx : 4 * s + sA S s = x
    generalize hm5 : mI (mI (mI mo 42 0 x (nI k)) 43 0 x (nI w)) 44 0 x (nI 0) = m5
    have r5 : ∀ t j, (t = 40 ∨ t = 41 ∨ (42 ≤ t ∧ t ≤ 44 ∧ j ≠ x)) → m5.1 t 0 j = mo.1 t 0 j := fun t j h => by
      rw [← hm5, mI_r, if_neg (by omega), mI_r, if_neg (by omega), mI_r, if_neg (by omega)]
    have x5 : m5.1 42 0 x = nI k ∧ m5.1 43 0 x = nI w ∧ m5.1 44 0 x = nI 0 := by
      rw [← hm5]
      refine ⟨?_, ?_, ?_⟩
      · rw [mI_r, if_neg (by omega), mI_r, if_neg (by omega), mI_r, if_pos ⟨rfl, rfl, rfl⟩]
      · rw [mI_r, if_neg (by omega), mI_r, if_pos ⟨rfl, rfl, rfl⟩]
      · rw [mI_r, if_pos ⟨rfl, rfl, rfl⟩]
    have o5 : ∀ (T : Nat → Nat → Prop) ma, off T ma mo → T 42 0 → T 43 0 → T 44 0 → off T ma m5 := fun T ma h0 h1 h2 h3 => by
      rw [← hm5]
      exact off_I (off_I (off_I h0 _ _ h1) _ _ h2) _ _ h3
    rw [r5 41 s (by omega), rm_a hRo hs, nI_add]
    have e1 : (mI m5 41 0 s (nI (sA S s + 1))).1 41 0 s = nI (sA S s + 1) := by rw [mI_r, if_pos ⟨rfl, rfl, rfl⟩]
    rw [e1, nI_sub1]
    refine hQ _ ⟨hin, hlt, hok⟩ (off_I (o5 tUM m o1 (by unfold tUM; omega) (by unfold tUM; omega) (by unfold tUM; omega)) _ _ (by unfold tUM; omega)) ?_ (RM_addA hRo hw hs hlt (off_I (o5 _ mo (off_rfl _ _) (by omega) (by omega) (by omega)) _ _ (by omega)) ?_ ?_ (fun t hne => ?_) e1 ?_ (fun y hy => ?_))
    · rw [mI_r, if_neg (by omega), r5 40 0 (by omega)]; exact z0
    · rw [mI_r, if_neg (by omega), r5 40 1 (by omega)]; exact rm_n hRo
    · rw [mI_r, if_neg (by omega), r5 40 2 (by omega)]; exact rm_m hRo
    · rw [mI_r, if_neg (by omega), r5 41 t (by omega)]
    · rw [hx, mI_r, if_neg (by omega), mI_r, if_neg (by omega), mI_r, if_neg (by omega)]
      exact x5
    · rw [hx] at hy
      rw [mI_r, if_neg (by omega), mI_r, if_neg (by omega), mI_r, if_neg (by omega)]
      exact ⟨r5 42 y (by omega), r5 43 y (by omega), r5 44 y (by omega)⟩
  refine ⟨ib, fun hne => ⟨ib, fun h0 => add (Or.inl h0) (by omega), fun h0 => ?_⟩, fun heq => hN _ (Or.inr (Or.inl ⟨hin, heq, rfl⟩))⟩
  have bad : ¬ (k = 2 ↔ foeS S s = true) → Q (some (vI (-3))) mo := fun h => hN _ (Or.inr (Or.inr ⟨hin, by omega, fun z => z.elim h0 h, rfl⟩))
  refine r_isFoe hRo hw hs ⟨_, rfl, ?_⟩
  rw [rm_a hRo hs, nI_add, nI_eq (a := k) (by omega) (by omega)]
  refine ⟨fun h2 => ⟨fun hf => add (Or.inr ⟨fun z => absurd z h2, fun z => ?_⟩) (by omega), fun hf => bad (fun z => ?_)⟩, fun h2 => ⟨fun hf => add (Or.inr ⟨fun _ => ?_, fun _ => h2⟩) (by omega), fun hf => bad (fun z => ?_)⟩⟩
  · rw [z] at hf; exact absurd hf (by decide)
  · cases q : foeS S s with
    | true => exact h2 (z.mpr q)
    | false => rw [q] at hf; exact hf rfl
  · rw [bI_1] at hf; exact hf
  · have := z.mp h2
    rw [this] at hf
    exact hf rfl
end L99c
