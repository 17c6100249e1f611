/-! CONTRACTS (23): fractions in lowest terms, the cache of a verdict, refusals (wip/whole/src/74.valueC.src) -/
section L74
variable {xs : Nat × (Nat → Int32)} {d : Nat} {Q : Option v2 → Mem → Prop} {m : Mem} {S : Sys}
theorem c_commonDivisor {a b : Nat} (ha : a < 2 ^ 63) (hb : b < 2 ^ 63) (hQ : Q (some (vL (lI ((Nat.gcd a b : Nat) : Int)))) m) : callW2 xs (d + 1) 110 [vL (lI a), vL (lI b)] m Q := by
  refine eX11_commonDivisor m _ _ (W2_st (bX11_commonDivisor_0 m _ _ ?_))
  -- two rounds halve the smaller one
  have key : ∀ e x y r o9, x < 2 ^ 63 → y < 2 ^ 63 → y < 2 ^ e → r + 2 * e < 1000000 → Nat.gcd x y = Nat.gcd a b → (W2 xs (callW2 xs d) tX11_commonDivisor [6] (some .long) Q 6 [some (vL (lI a)), none, some (vL (lI b)), none, some (vL (lI x)), none, some (vL (lI y)), none, some (vI (nI r)), (o9), none] [] (m)) := by
    intro e
    induction e with
    | zero =>
      intro x y r o9 hx hy he hr hg
      have hy0 : y = 0 := by simpa using he
      refine W2_st (bX11_commonDivisor_6 m _ _ _ _ _ _ ?_)
      rw [nI_leI (by omega) (by omega), lg_cmp_eq, lI_N, lI_eq (by omega) (by omega) (by omega) (by omega)]
      refine ⟨fun z => by omega, fun _ => ⟨fun _ => ?_, fun z => absurd (by omega) z⟩⟩
      rw [hy0, Nat.gcd_zero_right] at hg
      rw [hg]
      exact hQ
    | succ e ih =>
      intro x y r o9 hx hy he hr hg
      refine W2_st (bX11_commonDivisor_6 m _ _ _ _ _ _ ?_)
      rw [nI_leI (by omega) (by omega), lg_cmp_eq, lI_N, lI_eq (by omega) (by omega) (by omega) (by omega), lI_z hy]
      simp only [nI_add]
      refine ⟨fun z => by omega, fun _ => ⟨fun h => ?_, fun h => ⟨by omega, ?_⟩⟩⟩
      · rw [show y = 0 by omega, Nat.gcd_zero_right] at hg
        rw [hg]
        exact hQ
      · rw [lI_rem (by omega) hx hy]
        have h2 := Nat.mod_lt x (show 0 < y by omega)
        have hg2 : Nat.gcd y (x % y) = Nat.gcd a b := by rw [← hg, Nat.gcd_comm y, ← Nat.gcd_rec, Nat.gcd_comm]
        generalize x % y = z at h2 hg2
        refine W2_st (bX11_commonDivisor_6 m _ _ _ _ _ _ ?_)
        rw [nI_leI (by omega) (by omega), lg_cmp_eq, lI_N, lI_eq (by omega) (by omega) (by omega) (by omega), lI_z (by omega)]
        simp only [nI_add]
        refine ⟨fun z => by omega, fun _ => ⟨fun h => ?_, fun h => ⟨by omega, ?_⟩⟩⟩
        · rw [show z = 0 by omega, Nat.gcd_zero_right] at hg2
          rw [hg2]
          exact hQ
        · rw [lI_rem (by omega) hy (by omega)]
          have h3 := Nat.mod_lt y (show 0 < z by omega)
          have h4 : y % z < 2 ^ e := by
            have h5 := Nat.div_add_mod y z
            have h6 : 1 ≤ y / z := Nat.div_pos (by omega) (by omega)
            have h7 : z * 1 ≤ z * (y / z) := Nat.mul_le_mul_left _ h6
            rw [Nat.pow_succ] at he
            omega
          refine ih z (y % z) (r + 1 + 1) _ (by omega) (by omega) h4 (by omega) ?_
          rw [← hg2, Nat.gcd_comm z, ← Nat.gcd_rec, Nat.gcd_comm]
  exact key 63 a b 0 none ha hb hb (by omega) rfl
/-- lowestTerms(upper, lower, what) -/
theorem c_lowest {N : Int} {D : Int} {w : Int32} (hN : 0 ≤ N) (hN2 : N < 2 ^ 62) (hD : 0 < D) (hD2 : D < 2 ^ 62) (hQ : ∀ u v, low u v N D → Q (some (vL (lI (if w = 0 then u else v)))) m) : callW2 xs (d + 2) 109 [vL (lI N), vL (lI D), vI w] m Q := by
  obtain ⟨n, rfl⟩ : ∃ n : Nat, N = (n : Int) := ⟨N.toNat, by omega⟩
  obtain ⟨D', rfl⟩ : ∃ n : Nat, D = (n : Int) := ⟨D.toNat, by omega⟩
  refine eX11_lowestTerms m _ _ _ (W2_st (bX11_lowestTerms_0 m _ _ _ ?_))
  refine c_commonDivisor (by omega) (by omega) ⟨_, rfl, ?_⟩
  obtain ⟨u, v, hl, hu, hv⟩ := low_of (n : Int) D' (by omega)
  have hQ' := hQ u v hl
  have hna : ((n : Int)).natAbs = n := by omega
  rw [hna] at hu hv
  have hg : 0 < Nat.gcd n D' := Nat.gcd_pos_of_pos_right _ (by omega)
  have hg2 : Nat.gcd n D' ≤ D' := Nat.gcd_le_right _ (by omega)
  generalize Nat.gcd n D' = g at hg hg2 hu hv ⊢
  have gne : ¬ lI (g : Int) = 0 := fun z => by rw [lI_z (by omega)] at z; omega
  have q1 : lI (n : Int) / lI (g : Int) = lI u := by
    have := lI_div (q := u) (b := (g : Int)) (by omega) (by omega) (by omega) (by omega) (by omega)
    rw [← hu] at this
    exact this
  have q2 : lI (D' : Int) / lI (g : Int) = lI v := by
    have := lI_div (q := v) (b := (g : Int)) (by omega) (by omega) (by omega) (by omega) (by omega)
    rw [← hv] at this
    exact this
  rw [lg_cmp_eq, lI_N, lI_eq (by omega) (by omega) (by omega) (by omega), q1, q2]
  refine ⟨fun _ => ⟨fun h => ⟨gne, ?_⟩, fun h => ⟨gne, ?_⟩⟩, fun z => by omega⟩
  · rw [if_neg h] at hQ'; exact hQ'
  · rw [if_pos h] at hQ'; exact hQ'
/-- lowest terms are one -/
theorem low_uniq {u v u' v' N D : Int} (hD : 0 < D) (h : low u v N D) (h' : low u' v' N D) : u = u' ∧ v = v' := by
  obtain ⟨h1, h2, h3⟩ := h
  obtain ⟨k1, k2, k3⟩ := h'
  have e : u * v' = u' * v := by
    have e1 : D * (u * v') = D * (u' * v) := by
      have : (u * D) * v' = (u' * D) * v := by rw [h3, k3]; grind
      grind
    rcases Int.mul_eq_mul_left_iff (show D ≠ 0 by omega) |>.mp e1 with q
    exact q
  have en : u.natAbs * v'.natAbs = u'.natAbs * v.natAbs := by rw [← Int.natAbs_mul, ← Int.natAbs_mul, e]
  have d1 : v.natAbs ∣ v'.natAbs := Nat.Coprime.dvd_of_dvd_mul_left (Nat.Coprime.symm h2) ⟨u'.natAbs, by rw [en, Nat.mul_comm]⟩
  have d2 : v'.natAbs ∣ v.natAbs := Nat.Coprime.dvd_of_dvd_mul_left (Nat.Coprime.symm k2) ⟨u.natAbs, by rw [← en, Nat.mul_comm]⟩
  have hv : v = v' := by
    have := Nat.dvd_antisymm d1 d2
    omega
  refine ⟨?_, hv⟩
  subst hv
  exact Int.eq_of_mul_eq_mul_right (show v ≠ 0 by omega) e
theorem c_isHalf (p : Int32) (hQ : Q (some (vI (bI (decide (p = 0 ∨ p = nI 1))))) m) : callW2 xs (d + 1) 106 [vI p] m Q := by
  refine eX11_isHalf m _ (W2_st (bX11_isHalf_0 m _ ?_))
  refine ⟨fun h => ⟨isB1, ?_⟩, fun h => ret_nQ _ ?_ hQ⟩
  · rw [decide_eq_true (Or.inl h)] at hQ; exact hQ
  · rw [decide_eq_true_iff]
    exact ⟨Or.inr, fun z => z.resolve_left h⟩
theorem half_in (p : Int32) : decide (p = 0 ∨ p = nI 1) = decide (((0 : Nat) : Int) ≤ p.toInt ∧ p.toInt ≤ ((1 : Nat) : Int)) := by
  have h0 : (0 : Int32).toInt = 0 := rfl
  have h1 : (nI 1).toInt = 1 := rfl
  rw [decide_eq_decide, ← Int32.toInt_inj, ← Int32.toInt_inj, h0, h1]
  omega
/-- the cache of verdict i -/
def CV (m : Mem) (S : Sys) (ver : Nat) (l : Bool) (i : Nat) : Prop := ∃ a b, m.1 7 i 4 = nI a ∧ m.1 7 i 5 = nI b ∧ a ≤ ver ∧ b ≤ ver ∧ m.1 7 i 1 = bI l ∧ m.1 8 i 1 = bI l ∧ (b = ver → a = ver) ∧ (a = ver → ∃ X Y, sorted m S l i X Y ∧ (b ≠ ver → ∃ w, (∀ t, t < sN S → m.1 9 i t = nI (w t)) ∧ ranked S l (fullB (sN S)) Y w) ∧ (b = ver → settledV m S l i X Y))
theorem CV_eq {m m' : Mem} {ver i : Nat} {l : Bool} (h7 : m'.1 7 i = m.1 7 i) (h8 : m'.1 8 i = m.1 8 i) (h9 : m'.1 9 i = m.1 9 i) (h15 : m'.2 15 i = m.2 15 i) (h7l : m'.2 7 i = m.2 7 i) (h : CV m S ver l i) : CV m' S ver l i := by
  unfold CV sorted settledV at h ⊢
  rw [h7, h8, h9, h15, h7l]
  exact h
theorem ver_ne {a ver : Nat} (ha : a ≤ ver) (hv : ver < 2 ^ 31) : (nI a = nI ver) ↔ a = ver := nI_eq (by omega) hv
/-- Verdict.sort() -/
theorem c_sort {i ver : Nat} {l : Bool} (hR : RC m S) (hw : wf S) (hver : m.1 1 0 2 = nI ver) (hv : ver < 2 ^ 31) (hC : CV m S ver l i) (hQ : ∀ X Y m', offI (tV i) m m' → CV m' S ver l i → m'.1 7 i 4 = nI ver → sorted m' S l i X Y → Q none m') : callW2 xs (d + 5) 49 [vR 7 i] m Q := by
  obtain ⟨a, b, c1, c2, c3, c4, c5, c6, c7, c8⟩ := id hC
  by_cases ha : a = ver
  · obtain ⟨X, Y, hs, _⟩ := c8 ha
    refine eX8_sort m _ (W2_st (bX8_sort_0 m _ ⟨fun z => absurd (by rw [c1, ha, hver]) z, fun _ => ?_⟩))
    exact hQ X Y m (offI_rfl _ _) hC (by rw [c1, ha]) hs
  · have hb : b ≠ ver := fun e => ha (c7 e)
    refine c_sortN hR hw l c6 (by rw [c1, hver]; exact fun z => ha ((ver_ne c3 hv).mp z)) (fun X Y w m' e1 e2 e3 e4 e5 e6 => ?_)
    rw [hver] at e2
    refine hQ X Y m' e1 ⟨ver, b, e2, (e3 5 (by omega) (by omega) (by omega)).trans c2, Nat.le_refl _, c4, (e3 1 (by omega) (by omega) (by omega)).trans c5, ?_, fun _ => rfl, fun _ => ⟨X, Y, e4, fun _ => ⟨w, e5, e6⟩, fun z => absurd z hb⟩⟩ e2 e4
    rw [(e1.1 8 i (by unfold tV; omega)).1]; exact c6
/-- Verdict.settle(), behind sort() -/
theorem c_settle {i ver : Nat} {l : Bool} (hR : RC m S) (hw : wf S) (hf : full S) (hver : m.1 1 0 2 = nI ver) (hv : ver < 2 ^ 31) (hC : CV m S ver l i) (h4 : m.1 7 i 4 = nI ver) (hQ : ∀ X Y m', off (tSe i) m m' → CV m' S ver l i → sorted m' S l i X Y → settledV m' S l i X Y → Q none m') : callW2 xs (d + 4) 50 [vR 7 i] m Q := by
  obtain ⟨a, b, c1, c2, c3, c4, c5, c6, c7, c8⟩ := id hC
  have ha : a = ver := (ver_ne c3 hv).mp (by rw [← c1, h4])
  obtain ⟨X, Y, hs, hr, hse⟩ := c8 ha
  by_cases hb : b = ver
  · refine eX8_settle m _ (W2_st (bX8_settle_0 m _ ⟨fun z => absurd (by rw [c2, hb, hver]) z, fun _ => ?_⟩))
    exact hQ X Y m (off_rfl _ _) hC hs (hse hb)
  · obtain ⟨w, hw1, hw2⟩ := hr hb
    refine c_settleN hR hw hf c5 (by rw [c2, hver]; exact fun z => hb ((ver_ne c4 hv).mp z)) hs hw1 hw2 (fun m' e1 e2 e3 e4 => ?_)
    rw [hver] at e2
    have hs' : sorted m' S l i X Y := by
      refine ⟨(e3 8 (by omega) (by omega)).trans hs.1, (e3 9 (by omega) (by omega)).trans hs.2.1, hs.2.2⟩
    refine hQ X Y m' e1 ⟨ver, ver, (e3 4 (by omega) (by omega)).trans h4, e2, Nat.le_refl _, Nat.le_refl _, (e3 1 (by omega) (by omega)).trans c5, ?_, fun _ => rfl, fun _ => ⟨X, Y, hs', fun z => absurd rfl z, fun _ => e4⟩⟩ hs' e4
    rw [(e1 8 i (by unfold tSe; omega)).1]; exact c6
/-- refusalOf(verdict i) -/
theorem c_refusal {i ver : Nat} {l : Bool} (hR : RC m S) (hw : wf S) (hver : m.1 1 0 2 = nI ver) (hv : ver < 2 ^ 31) (hC : CV m S ver l i) (hQ2 : ¬ lackS S = 0 → Q (some (vI (-2 : Int32))) m) (hQ : ∀ X Y m', lackS S = 0 → off (tSe i) m m' → CV m' S ver l i → sorted m' S l i X Y → settledV m' S l i X Y → (5 < cntB (ndiff Y X) → Q (some (vI (-3 : Int32))) m') ∧ (cntB (ndiff Y X) ≤ 5 → Q (some (vI (nI 0))) m')) : callW2 xs (d + 6) 104 [vR 0 0, vR 7 i] m Q := by
  have key : ∀ (h : callW2 xs (d + 5) 71 [vR 1 0] m (fun r1 m2 => ∃ w3 : Int32, r1 = some (vI w3) ∧ ((¬ w3 = 0 → callW2 xs (d + 5) 49 [vR 7 i] m2 (fun r4 m5 => r4 = none ∧ callW2 xs (d + 5) 50 [vR 7 i] m5 (fun r6 m7 => r6 = none ∧ (((m7.1 7 i 10) = 0 → Q (some (vI (-3 : Int32))) m7) ∧ (¬ (m7.1 7 i 10) = 0 → Q (some (vI (nI 0))) m7))))) ∧ (w3 = 0 → Q (some (vI (-2 : Int32))) m2)))), callW2 xs (d + 6) 104 [vR 0 0, vR 7 i] m Q := fun h => eX11_refusalOf m _ (W2_st (bX11_refusalOf_0 m _ h))
  refine key (c_isWhole hR hw ⟨_, rfl, fun hl => ?_, fun hl => ?_⟩)
  · rw [bI_0, decide_eq_false_iff_not, Classical.not_not] at hl
    have hf := full_lack hw hl
    refine c_sort hR hw hver hv hC (fun X Y m5 e1 e2 e3 e4 => ⟨rfl, ?_⟩)
    have hver5 : m5.1 1 0 2 = nI ver := by rw [(e1.1 1 0 (by unfold tV; omega)).1]; exact hver
    refine c_settle (RC_V e1 hw hR) hw hf hver5 hv e2 e3 (fun X' Y' m7 f1 f2 f3 f4 => ⟨rfl, ?_⟩)
    have h := hQ X' Y' m7 hl (off_trans (off_sub e1.1 (fun t j z => by unfold tV at z; unfold tSe; omega)) f1) f2 f3 f4
    rw [f4.1, bI_0, decide_eq_false_iff_not]
    exact ⟨fun z => h.1 (by omega), fun z => h.2 (by omega)⟩
  · rw [bI_0, decide_eq_false_iff_not] at hl
    exact hQ2 hl
end L74
