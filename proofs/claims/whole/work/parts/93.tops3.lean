/-! CONTRACTS (39): within(), bound() (wip/whole/src/93.tops3.src) -/
section L93
variable {xs : Nat × (Nat → Int32)} {d : Nat} {Q : Option v2 → Mem → Prop} {m : Mem} {S : Sys}
/-- the horizons' cache -/
def HO (m : Mem) (S : Sys) (ver : Nat) (l : Bool) (i : Nat) : Prop := ∃ a, a ≤ ver ∧ m.1 18 i 2 = nI a ∧ m.1 18 i 1 = bI l ∧ (a = ver → horOK m S l i)
theorem c_hor {i ver : Nat} {l : Bool} (hR : RC m S) (hw : wf S) (hver : m.1 1 0 2 = nI ver) (hv : ver < 2 ^ 31) (hH : HO m S ver l i) (hQ : ∀ m', off (tH i) m m' → HO m' S ver l i → horOK m' S l i → Q none m') : callW2 xs (d + 4) 27 [vR 18 i] m Q := by
  obtain ⟨a, a1, a2, a3, a4⟩ := id hH
  by_cases hav : a = ver
  · refine eX4_settle m _ (W2_st (bX4_settle_0 m _ ⟨fun z => absurd ?_ z, fun _ => hQ m (off_rfl _ _) hH (a4 hav)⟩))
    rw [a2, hver, hav]
  · refine c_horN hR hw a3 (by rw [a2, hver, ne_eq, nI_eq (by omega) (by omega)]; exact hav) (fun m' e1 e2 e3 e4 => hQ m' e1 ⟨ver, Nat.le_refl _, by rw [e2, hver], e3, fun _ => e4⟩ e4)
def witF (S : Sys) (l : Bool) (s k : Nat) (p : Int32) (r : Int64) : Prop := ∃ u v, low u v (hor S l k s) (12 ^ k) ∧ r = lI (if p = 0 then u else v)
theorem p12pos (k : Nat) : (0 : Int) < 12 ^ k := Int.pow_pos (by decide)
theorem wit_uniq {l : Bool} {p : Int32} {ok : Prop} {s k : Nat} {q : Int32} {r r' : Int64} (h : askR S p ok r (witF S l s k q r)) (h' : askR S p ok r' (witF S l s k q r')) : r = r' := by
  refine askR_uniq h h' (fun _ _ _ ⟨u, v, a1, a2⟩ ⟨u', v', b1, b2⟩ => ?_)
  obtain ⟨e1, e2⟩ := low_uniq (p12pos k) a1 b1
  rw [a2, b2, e1, e2]
theorem c_within {ver : Nat} {l : Bool} {p1 p2 p4 : Int32} (hR : RC m S) (hw : wf S) (hver : m.1 1 0 2 = nI ver) (hv : ver < 2 ^ 31) (hH : HO m S ver l l.toNat) (hQ : ∀ m' r, off (tH l.toNat) m m' → HO m' S ver l l.toNat → askR S p1 (inN 10 p2 ∧ in01 p4) r (witF S l p1.toNatClampNeg p2.toNatClampNeg p4 r) → Q (some (vL r)) m') : callW2 xs (d + 5) 89 [vR 0 0, vI p1, vI p2, vI (bI l), vI p4] m Q := by
  have h3 := wf_n hw
  refine eX11_within m _ _ _ _ (W2_st (bX11_within_0 m _ _ _ _ ?_))
  refine c_hasS hR hw p1 ⟨_, rfl, ?_⟩
  rw [bI_0]
  refine ⟨fun hst => hQ m _ (off_rfl _ _) hH (askR_st hst), fun hst => ?_⟩
  rw [Bool.not_eq_false] at hst
  have no : ¬ (inN 10 p2 ∧ in01 p4) → Q (some (vL (-1))) m := fun h => hQ m _ (off_rfl _ _) hH (askR_ok hst h)
  rw [i_neg, i_ltN (by omega)]
  refine ⟨fun h => no (fun z => by have := z.1.1; omega), fun h1 => ⟨fun h => no (fun z => by have := z.1.2; omega), fun h2 => ?_⟩⟩
  have hin2 : inN 10 p2 := ⟨by omega, by omega⟩
  refine c_isHalf p4 ⟨_, rfl, ?_⟩
  rw [bI_0, decide_eq_false_iff_not]
  refine ⟨fun hin => ?_, fun hin => no (fun z => hin (in01_iff.mp z.2))⟩
  rw [Decidable.not_not] at hin
  have hok : inN 10 p2 ∧ in01 p4 := ⟨hin2, in01_iff.mpr hin⟩
  refine c_isWhole hR hw ⟨_, rfl, ?_⟩
  rw [bI_0, decide_eq_false_iff_not]
  refine ⟨fun hl => ?_, fun hl => hQ m _ (off_rfl _ _) hH (askR_lk hst hok hl)⟩
  rw [Decidable.not_not] at hl
  obtain ⟨s, hs, e⟩ := isSt_t hw hst
  obtain ⟨k, hk, e2⟩ := inN_t hin2 (by omega)
  subst e e2
  have key : callW2 xs (d + 4) 27 [vR 18 l.toNat] m (fun r10 m11 => r10 = none ∧ inb (nI k) 11 ∧ inb (nI s) 10 ∧ inb (nI k) 11 ∧ callW2 xs (d + 4) 109 [vL (m11.2 15 (3 + 11 * l.toNat + (nI k).toNatClampNeg) (nI s).toNatClampNeg), vL (m11.2 20 l.toNat (nI k).toNatClampNeg), vI p4] m11 (fun r12 m13 => ∃ w14 : Int64, r12 = some (vL w14) ∧ Q (some (vL w14)) m13)) := by
    refine c_hor hR hw hver hv hH (fun m2 f1 f2 f3 => ⟨rfl, inb_nI (by omega) (by omega), inb_nI (by omega) (by omega), inb_nI (by omega) (by omega), ?_⟩)
    rw [nI_clamp (by omega), nI_clamp (by omega), (f3 k (by omega)).1, (f3 k (by omega)).2 s hs]
    have hb := hor_lt hw l (show k < 11 by omega) hs
    have hp := p12 k (by omega)
    refine c_lowest hb.1 (by omega) (p12pos k) (by omega) (fun u v hlow => ⟨_, rfl, hQ m2 _ f1 f2 (askR_F hst hok hl ⟨u, v, ?_, rfl⟩)⟩)
    rw [nI_clamp (by omega), nI_clamp (by omega)]
    exact hlow
  cases l with
  | false => exact ⟨fun _ => key, fun z => absurd rfl z⟩
  | true => exact ⟨fun z => absurd z (by decide), fun _ => key⟩
theorem RM_O {m' : Mem} (h : offL tO m m') (hR : RM m S) : RM m' S := RM_L h.2 hR
theorem r_within {l : Bool} {p1 p2 p4 : Int32} (hR : RM m S) (hw : wf S) (hQ : ∀ m' r, offL tO (mI m 40 0 0 (nI 0)) m' → askR S p1 (inN 10 p2 ∧ in01 p4) r (witF S l p1.toNatClampNeg p2.toNatClampNeg p4 r) → Q (some (vL r)) m') : callW2 xs (d + 5) 157 [vR 40 0, vI p1, vI p2, vI (bI l), vI p4] m Q := by
  have h3 := wf_n hw
  have hRo := RM_0 (v := nI 0) hR
  refine eX12_within m _ _ _ _ (W2_st (bX12_within_0 m _ _ _ _ ?_))
  generalize mI m 40 0 0 (nI 0) = mo at hRo hQ ⊢
  have rf : offL tO mo mo := ⟨off_rfl _ _, rfl⟩
  have hlk := lack_le hw (sN S) (Nat.le_refl _)
  rw [show sumU _ (sN S) = lackS S from rfl] at hlk
  refine r_isState hRo hw p1 ⟨_, rfl, ?_⟩
  rw [bI_0]
  refine ⟨fun hst => hQ mo _ rf (askR_st hst), fun hst => ?_⟩
  rw [Bool.not_eq_false] at hst
  have no : ¬ (inN 10 p2 ∧ in01 p4) → Q (some (vL (-1))) mo := fun h => hQ mo _ rf (askR_ok hst h)
  refine r_isIn p2 0 10 (by omega) (by omega) ⟨_, rfl, ?_⟩
  rw [bI_0, decide_eq_false_iff_not]
  refine ⟨fun hin => no (fun z => hin z.1), fun hin2 => ?_⟩
  rw [Decidable.not_not] at hin2
  refine r_isIn p4 0 1 (by omega) (by omega) ⟨_, rfl, ?_⟩
  rw [bI_0, decide_eq_false_iff_not]
  refine ⟨fun hin4 => ?_, fun hin => no (fun z => hin z.2)⟩
  rw [Decidable.not_not] at hin4
  have hok : inN 10 p2 ∧ in01 p4 := ⟨hin2, hin4⟩
  refine r_lacking hRo hw ⟨_, rfl, ?_⟩
  rw [z_le (by omega)]
  refine ⟨fun hl => ?_, fun hl => hQ mo _ rf (askR_lk hst hok hl)⟩
  obtain ⟨s, hs, e⟩ := isSt_t hw hst
  obtain ⟨n, hn, e2⟩ := inN_t hok.1 (by omega)
  subst e e2
  refine r_start hRo hw l (fun m2 f1 f2 f3 => ⟨rfl, ?_⟩)
  refine upto (P := fun k => ∀ mc, offL tO mo mc → mc.2 40 0 26 = lI (12 ^ k) → (∀ t, t < sN S → mc.2 59 0 t = lI (hor S l k t)) → (W2 xs (callW2 xs (d + 4)) tX12_within [30] (some .long) Q 30 [some (vR 40 0), some (vI (nI s)), some (vI (nI n)), some (vI (bI l)), some (vI (p4)), some (vI (nI k)), none] [] (mc))) n ?_ ?_ 0 (Nat.zero_le _) m2 f1 f2 f3
  · intro mc g1 g2 g3
    refine W2_st (bX12_within_30 mc _ _ _ _ _ ?_)
    have g59 := g3 s hs
    rw [nI_leI (by omega) (by omega), nI_clamp (by omega), g2, g59]
    have hb := hor_lt hw l (show n < 11 by omega) hs
    have hp := p12 n (by omega)
    have hp0 := p12pos n
    refine ⟨fun _ => ⟨inb_nI (by omega) (by omega), ?_⟩, fun z => absurd (Nat.le_refl _) z⟩
    have fin : ∀ u v, low u v (hor S l n s) (12 ^ n) → Q (some (vL (lI (if p4 = 0 then u else v)))) mc := fun u v hlow => hQ mc _ g1 (askR_F hst hok hl ⟨u, v, by rw [nI_clamp (by omega), nI_clamp (by omega)]; exact hlow, rfl⟩)
    generalize hor S l n s = N at hb fin g59 ⊢
    generalize (12 : Int) ^ n = D at hp hp0 fin g2 ⊢
    obtain ⟨D', rfl⟩ : ∃ n : Nat, D = (n : Int) := ⟨D.toNat, by omega⟩
    refine r_gcd (by omega) (by omega) ⟨_, rfl, ?_⟩
    obtain ⟨u, v, hlow, hu, hv⟩ := low_of N D' (by omega)
    have hQ' := fin u v hlow
    have hg : 0 < Nat.gcd N.natAbs D' := Nat.gcd_pos_of_pos_right _ (by omega)
    have hg2 : Nat.gcd N.natAbs D' ≤ D' := Nat.gcd_le_right _ (by omega)
    generalize Nat.gcd N.natAbs D' = g at hg hg2 hu hv ⊢
    have gne : ¬ lI (g : Int) = 0 := fun z => by rw [lI_z (by omega)] at z; omega
    have q1 : lI N / lI (g : Int) = lI u := by
      have := lI_div (q := u) (b := (g : Int)) (by omega) (by omega) (by omega) (by omega) (by omega)
      rw [← hu] at this
      exact this
    have q2 : lI (D' : Int) / lI (g : Int) = lI v := by
      have := lI_div (q := v) (b := (g : Int)) (by omega) (by omega) (by omega) (by omega) (by omega)
      rw [← hv] at this
      exact this
    rw [g2, g59, q1, q2]
    refine ⟨fun h => ⟨gne, ?_⟩, fun h => ⟨inb_nI (by omega) (by omega), gne, ?_⟩⟩
    · rw [if_neg h] at hQ'; exact hQ'
    · rw [if_pos h] at hQ'; exact hQ'
  · intro k hk ih mc g1 g2 g3
    refine W2_st (bX12_within_30 mc _ _ _ _ _ ?_)
    rw [nI_leI (by omega) (by omega), nI_add]
    refine ⟨fun z => by omega, fun _ => ?_⟩
    exact r_onwards (RM_O g1 hRo) hw l (by omega) g2 g3 (fun m5 e1 e2 e3 => ⟨rfl, ih m5 (offL_trans g1 e1) e2 e3⟩)
end L93
