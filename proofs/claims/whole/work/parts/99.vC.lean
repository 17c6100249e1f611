/-! THE LAW'S LOOP over class and reference (wip/whole/src/99.vC.src) -/
section L99VC
variable {xs : Nat × (Nat → Int32)} {m m' : Mem} {S : Sys} {ver : Nat} {H : Shv}
/-- nothing yet -/
def S0 : Sys := ((0, 0), fun _ => 0, fun _ => 0, fun _ => 0, fun _ => 0, fun _ _ => 0, fun _ _ => 0)
def H0 : Shv := fun _ => (0, 0, 0, fun _ => 0)
theorem m0_0 {t i k : Nat} (h : ¬ ((t = 1 ∧ i = 0 ∧ k = 2) ∨ (t = 7 ∧ i = 1 ∧ k = 1) ∨ (t = 8 ∧ i = 1 ∧ k = 1) ∨ (t = 18 ∧ i = 1 ∧ k = 1))) : m0.1 t i k = nI 0 := if_neg h
theorem m0_1 {t i k : Nat} (h : (t = 1 ∧ i = 0 ∧ k = 2) ∨ (t = 7 ∧ i = 1 ∧ k = 1) ∨ (t = 8 ∧ i = 1 ∧ k = 1) ∨ (t = 18 ∧ i = 1 ∧ k = 1)) : m0.1 t i k = nI 1 := if_pos h
theorem inv_m0 : INV m0 S0 1 H0 := by
  refine ⟨⟨Nat.zero_le _, fun i h => ?_, fun s h => absurd h (Nat.not_lt_zero _), fun x h => absurd h.1 (Nat.not_lt_zero _)⟩, ⟨⟨m0_0 (by omega), m0_0 (by omega), fun s h => absurd h (Nat.not_lt_zero _), fun s _ _ => m0_0 (by omega), fun x h => absurd h.1 (Nat.not_lt_zero _)⟩, m0_1 (by omega), m0_0 (by omega), fun l => ?_, fun l => ?_, ⟨0, by omega, m0_0 (by omega), fun z => by omega⟩, ⟨0, by omega, m0_0 (by omega), fun z => by omega⟩, ⟨0, by omega, m0_0 (by omega), fun z => by omega⟩, ⟨0, m0_0 (by omega), by omega, fun z => by omega⟩, fun h hh => ⟨Nat.zero_le _, m0_0 (by omega), fun z => absurd z (show ¬ 0 = 1 by decide), fun z => absurd z (show ¬ 0 = 2 by decide), fun z => absurd z (show ¬ 3 ≤ 0 by decide)⟩⟩, ⟨m0_0 (by omega), m0_0 (by omega), fun s h => absurd h (Nat.not_lt_zero _), fun x h => absurd h.1 (Nat.not_lt_zero _)⟩, fun h hh => ⟨m0_0 (by omega), fun z => absurd z (show ¬ (0 = 1 ∨ 0 = 2) by decide), fun z => absurd z (show ¬ 3 ≤ 0 by decide)⟩⟩
  · have h : (0 : Nat).testBit i = true := h
    rw [Nat.zero_testBit] at h; cases h
  · cases l with
    | false => exact ⟨0, 0, m0_0 (by omega), m0_0 (by omega), by omega, by omega, m0_0 (by show ¬ ((7 = 1 ∧ _) ∨ (7 = 7 ∧ 0 = 1 ∧ _) ∨ _); omega), m0_0 (by show ¬ ((8 = 1 ∧ _) ∨ _ ∨ (8 = 8 ∧ 0 = 1 ∧ _) ∨ _); omega), fun z => by omega, fun z => by omega⟩
    | true => exact ⟨0, 0, m0_0 (by omega), m0_0 (by omega), by omega, by omega, m0_1 (Or.inr (Or.inl ⟨rfl, rfl, rfl⟩)), m0_1 (Or.inr (Or.inr (Or.inl ⟨rfl, rfl, rfl⟩))), fun z => by omega, fun z => by omega⟩
  · cases l with
    | false => exact ⟨0, by omega, m0_0 (by omega), m0_0 (by show ¬ (_ ∨ _ ∨ _ ∨ (18 = 18 ∧ 0 = 1 ∧ _)); omega), fun z => by omega⟩
    | true => exact ⟨0, by omega, m0_0 (by omega), m0_1 (Or.inr (Or.inr (Or.inr ⟨rfl, rfl, rfl⟩))), fun z => by omega⟩
/-- the class's element(), as the law calls it: what it answers, or which throw was caught -/
def elG (m : Mem) (p1 p2 : Int32) : Prop := (m.1 31 p1.toNatClampNeg 0 = nI 3 ∨ m.1 31 p1.toNatClampNeg 0 = nI 4) ∧ ¬ p2 < 0 ∧ p2 < m.1 31 p1.toNatClampNeg 2
def eleM (m : Mem) (p1 p2 : Int32) (Q : Option v2 → Mem → Prop) : Prop := (shl p1 = false → Q (some (vI (nI 1))) m) ∧ (shl p1 = true → (elG m p1 p2 → p2.toNatClampNeg < 60 ∧ Q (some (vI (nI 0))) (mL m 90 0 0 (m.2 32 p1.toNatClampNeg p2.toNatClampNeg))) ∧ (¬ elG m p1 p2 → Q (some (vI (nI 2))) m))
theorem eleM_mono {p1 p2 : Int32} {Q Q' : Option v2 → Mem → Prop} (h : ∀ r m', Q r m' → Q' r m') (hc : eleM m p1 p2 Q) : eleM m p1 p2 Q' := ⟨fun z => h _ _ (hc.1 z), fun z => ⟨fun y => ⟨((hc.2 z).1 y).1, h _ _ ((hc.2 z).1 y).2⟩, fun y => h _ _ ((hc.2 z).2 y)⟩⟩
/-- what the law calls -/
def C2 (xs : Nat × (Nat → Int32)) (j : Nat) (a : List v2) (m : Mem) (Q : Option v2 → Mem → Prop) : Prop := (j ≠ 189 ∧ callW2 xs 8 j a m Q) ∨ (j = 189 ∧ ∃ p1 p2, a = [vR 0 0, vI p1, vI p2, vR 90 0] ∧ eleM m p1 p2 Q)
theorem elG_iff {p1 p2 : Int32} (hS : SC m H) (hp : shl p1 = true) : elG m p1 p2 ↔ eleG H p1 p2 := by
  obtain ⟨a, ha, e1⟩ := shl_t hp
  have ca : p1.toNatClampNeg = a := by rw [e1, nI_clamp (by omega)]
  obtain ⟨a4, a0, _, _, a3⟩ := hS a ha
  unfold elG eleG
  rw [ca, a0, nI_eq (by omega) (by omega), nI_eq (by omega) (by omega), i_neg]
  constructor
  · intro ⟨z1, z2, z3⟩
    obtain ⟨b1, b2, b3⟩ := a3 (by omega)
    rw [b2, i_lt, nI_toInt (by omega)] at z3
    exact ⟨hp, by omega, by omega, z3⟩
  · intro ⟨_, z1, z2, z3⟩
    obtain ⟨b1, b2, b3⟩ := a3 z1
    rw [b2, i_lt, nI_toInt (by omega)]
    exact ⟨by omega, by omega, z3⟩
theorem c_element {p1 p2 : Int32} {Q : Option v2 → Mem → Prop} (hS : SC m H) (hQ : ∀ k v m', eleR H p1 p2 k v → (k = 0 → m' = mL m 90 0 0 v) → (k ≠ 0 → m' = m) → k ≤ 2 → Q (some (vI (nI k))) m') : eleM m p1 p2 Q := by
  refine ⟨fun hp => hQ 1 0 m ⟨fun _ => ⟨rfl, rfl⟩, fun z => (by rw [hp] at z; cases z)⟩ (fun z => by omega) (fun _ => rfl) (by omega), fun hp => ?_⟩
  rw [elG_iff hS hp]
  refine ⟨fun hg => ?_, fun hg => hQ 2 0 m ⟨fun z => (by rw [hp] at z; cases z), fun _ => ⟨fun _ => ⟨rfl, rfl⟩, fun z => absurd z hg⟩⟩ (fun z => by omega) (fun _ => rfl) (by omega)⟩
  obtain ⟨a, ha, e1⟩ := shl_t hp
  have ca : p1.toNatClampNeg = a := by rw [e1, nI_clamp (by omega)]
  obtain ⟨a4, a0, _, _, a3⟩ := hS a ha
  have hg' := hg
  obtain ⟨_, z1, z2, z3⟩ := hg'
  rw [ca] at z1 z3
  obtain ⟨b1, b2, b3⟩ := a3 z1
  obtain ⟨j, hj, e2⟩ := int_nI p2 (hL H a) z2 z3 (by omega)
  have cj : p2.toNatClampNeg = j := by rw [e2, nI_clamp (by omega)]
  refine ⟨by omega, ?_⟩
  rw [ca, cj, b3 j hj]
  exact hQ 0 (hD H a j) _ ⟨fun z => (by rw [hp] at z; cases z), fun _ => ⟨fun z => absurd hg z, fun _ => ⟨rfl, by rw [ca, cj]⟩⟩⟩ (fun _ => rfl) (fun z => absurd rfl z) (by omega)
theorem r_thrown {d : Nat} {Q : Option v2 → Mem → Prop} (hQ : Q (some (vI (m.1 40 0 0))) m) : callW2 xs (d + 1) 112 [vR 40 0] m Q := eX12_thrown m (W2_st (bX12_thrown_0 m hQ))
theorem inv_90 {v : Int64} (hI : INV m S ver H) : INV (mL m 90 0 0 v) S ver H := by
  obtain ⟨hw, hC, hR, hS⟩ := hI
  have h : off (tM 90) m (mL m 90 0 0 v) := off_L (off_rfl _ _) _ _ ⟨rfl, rfl⟩
  exact ⟨hw, ic_r hw hC h (fun t i z => by have := z.1; omega), RM_off h (by unfold tM; omega) (by unfold tM; omega) (by unfold tM; omega) (by unfold tM; omega) (by unfold tM; omega) (by unfold tM; omega) (by unfold tM; omega) hR, SM_off h (fun t _ _ => by unfold tM; omega) hS⟩
theorem law_el {j : Nat} {Q : Option v2 → Mem → Prop} {K : Nat → L2 → List v2 → Mem → Prop} (hI : INV m S ver H) (hl : 6 * j + 6 ≤ xs.1 ∧ xs.1 ≤ 3072) (go : ∀ m3 o5 o6 o7, NX ver m3 → K 13 [some (vR 99 0), some (vR 0 0), some (vR 40 0), some (vR 90 0), some (vI (nI (6 * j + 6))), o5, o6, o7] [] m3) : inb (nI (6 * j + 1)) xs.1 ∧ inb (nI (6 * j + 2)) xs.1 ∧ C2 xs 189 [vR 0 0, vI (xs.2 (nI (6 * j + 1)).toNatClampNeg), vI (xs.2 (nI (6 * j + 2)).toNatClampNeg), vR 90 0] m (fun r151 m152 => ∃ w153 : Int32, r151 = some (vI w153) ∧ inb (nI (6 * j + 1)) xs.1 ∧ inb (nI (6 * j + 2)) xs.1 ∧ C2 xs 181 [vR 40 0, vI (xs.2 (nI (6 * j + 1)).toNatClampNeg), vI (xs.2 (nI (6 * j + 2)).toNatClampNeg)] m152 (fun r154 m155 => ∃ w156 : Int64, r154 = some (vL w156) ∧ C2 xs 112 [vR 40 0] m155 (fun r157 m158 => ∃ w159 : Int32, r157 = some (vI w159) ∧ ((w159 = w153 → ((¬ w153 = 0 → K 13 [some (vR 99 0), some (vR 0 0), some (vR 40 0), some (vR 90 0), some (vI (nI (6 * j + 6))), some (vI w153), some (vL w156), none] [] m158) ∧ (w153 = 0 → inb (nI 0) 1 ∧ (((lg_cmp (m158.2 90 0 (nI 0).toNatClampNeg) w156) = 0 → K 13 [some (vR 99 0), some (vR 0 0), some (vR 40 0), some (vR 90 0), some (vI (nI (6 * j + 6))), some (vI w153), some (vL w156), none] [] m158) ∧ (¬ (lg_cmp (m158.2 90 0 (nI 0).toNatClampNeg) w156) = 0 → isB (nI 0) ∧ Q (some (vI (nI 0))) m158))))) ∧ (¬ w159 = w153 → isB (nI 0) ∧ Q (some (vI (nI 0))) m158))))) := by
  have ib : ∀ k, k ≤ 5 → inb (nI (6 * j + k)) xs.1 := fun k hk => inb_nI (by omega) (by omega)
  obtain ⟨hw, hC, hR, hS⟩ := hI
  have h4 : ∀ h, h < 8 → hK H h ≤ 4 := fun h hh => (hC.2.2.2.2.2.2.2.2.2 h hh).1
  refine ⟨ib 1 (by omega), ib 2 (by omega), Or.inr ⟨rfl, _, _, rfl, c_element hC.2.2.2.2.2.2.2.2.2 (fun k v m2 g1 g2 g3 g4 => ⟨_, rfl, ib 1 (by omega), ib 2 (by omega), Or.inl ⟨by decide, ?_⟩⟩)⟩⟩
  have hI2 : INV m2 S ver H := by
    by_cases e : k = 0
    · rw [g2 e]; exact inv_90 ⟨hw, hC, hR, hS⟩
    · rw [g3 e]; exact ⟨hw, hC, hR, hS⟩
  refine r_element hI2.2.2.2 h4 (fun k' v' f1 => ⟨_, rfl, Or.inl ⟨by decide, r_thrown ⟨_, rfl, ?_⟩⟩⟩)
  obtain ⟨e1, e2⟩ := ele_uniq g1 f1
  subst e1 e2
  have hI3 : INV (mI m2 40 0 0 (nI k)) S ver H := inv_0 hw hI2.2.1 hI2.2.2.1 hI2.2.2.2
  have hn : NX ver (mI m2 40 0 0 (nI k)) := nx hI3 (by omega)
  rw [mI_r, if_pos ⟨rfl, rfl, rfl⟩, z_eq (by omega)]
  refine ⟨fun _ => ⟨fun _ => go _ _ _ _ hn, fun z => ⟨inb_nI (by omega) (by omega), fun _ => go _ _ _ _ hn, fun y => absurd ?_ y⟩⟩, fun z => absurd rfl z⟩
  rw [lg_cmp_eq]
  show m2.2 90 0 0 = v
  rw [g2 z, mL_r, if_pos ⟨rfl, rfl, rfl⟩]
/-- the law's answer -/
def Qt : Option v2 → Mem → Prop := fun r _ => r = some (vI (nI 1))
theorem i_sub6 {n : Nat} (hn : n ≤ 3072) : (Int32.ofNat n - nI 6).toInt = (n : Int) - 6 := by
  have h1 : (Int32.ofNat n).toInt = (n : Int) := nI_toInt (n := n) (by omega)
  have h2 : (nI 6).toInt = 6 := nI_toInt (by omega)
  rw [Int32.toInt_sub, h1, h2, Int.bmod_eq_of_le (by omega) (by omega)]
set_option maxHeartbeats 4000000 in
set_option maxRecDepth 100000 in
theorem law_loop (hx : xs.1 ≤ 3072) : ∀ (n j ver : Nat) (S : Sys) (H : Shv) (m : Mem) (o5 o6 o7 : Option v2), j + n = 513 → j ≤ 512 → ver ≤ j + 1 → INV m S ver H → wp2 100 xs (C2 xs) tL_law [13] (some .boolean) Qt n 13 [some (vR 99 0), some (vR 0 0), some (vR 40 0), some (vR 90 0), some (vI (nI (6 * j))), o5, o6, o7] [] m := by
  intro n
  induction n with
  | zero => intro j ver S H m o5 o6 o7 h1 h2; omega
  | succ n ih =>
    intro j ver S H m o5 o6 o7 h1 h2 h3 hI
    have hv : ver < 2 ^ 30 := by omega
    refine bL_law_13 m (nI (6 * j)) o5 o6 o7 ?_
    rw [i_lt, i_sub6 hx, nI_toInt (by omega)]
    refine ⟨fun _ => ⟨isB1, rfl⟩, fun hlt => ?_⟩
    have hl : 6 * j + 6 ≤ xs.1 ∧ xs.1 ≤ 3072 := ⟨by omega, hx⟩
    have ib : ∀ k, k ≤ 5 → inb (nI (6 * j + k)) xs.1 := fun k hk => inb_nI (by omega) (by omega)
    have go : ∀ m3 o5 o6 o7, NX ver m3 → wp2 100 xs (C2 xs) tL_law [13] (some .boolean) Qt n 13 [some (vR 99 0), some (vR 0 0), some (vR 40 0), some (vR 90 0), some (vI (nI (6 * j + 6))), o5, o6, o7] [] m3 := fun m3 o5 o6 o7 ⟨S', v', H', hI', hv'⟩ => by
      have := ih (j + 1) v' S' H' m3 o5 o6 o7 (by omega) (by omega) (by omega) hI'
      rw [show 6 * (j + 1) = 6 * j + 6 by omega] at this
      exact this
    simp only [nI_add]
    refine ⟨inb_nI (by omega) (by omega), fun _ => go m _ _ _ (nx hI (by omega)), fun _ => ?_, fun _ => ?_, fun _ => ?_, fun _ => ?_, fun _ => ?_, fun _ => ?_, fun _ => ?_, fun _ => ?_, fun _ => ?_, fun _ => ?_, fun _ => ?_, fun _ => ?_, fun _ => ?_, fun _ => ?_, fun _ => ?_, fun _ => ?_, fun _ => ?_, fun _ => ?_, fun _ => ?_, fun _ => ?_, fun _ => ?_, fun _ => ?_, fun _ => ?_, fun _ => ?_, fun _ => ?_, trivial⟩
    · exact Or.inl ⟨by decide, callW2_mono _ _ _ _ _ _ (fun r m2 ⟨w, e, hc⟩ => ⟨w, e, Or.inl ⟨by decide, callW2_mono _ _ _ _ _ _ (fun r' m3 ⟨w', e', ew, hn⟩ => ⟨w', e', fun _ => go m3 _ _ _ hn, fun z => absurd ew z⟩) hc⟩⟩) (j_state hI)⟩
    · exact ⟨ib 1 (by omega), ib 2 (by omega), ib 3 (by omega), Or.inl ⟨by decide, callW2_mono _ _ _ _ _ _ (fun r m2 ⟨w, e, hc⟩ => ⟨w, e, ib 1 (by omega), ib 2 (by omega), ib 3 (by omega), Or.inl ⟨by decide, callW2_mono _ _ _ _ _ _ (fun r' m3 ⟨w', e', ew, hn⟩ => ⟨w', e', fun _ => go m3 _ _ _ hn, fun z => absurd ew z⟩) hc⟩⟩) (j_act hI)⟩⟩
    · exact ⟨ib 1 (by omega), ib 2 (by omega), ib 3 (by omega), ib 4 (by omega), Or.inl ⟨by decide, callW2_mono _ _ _ _ _ _ (fun r m2 ⟨w, e, hc⟩ => ⟨w, e, ib 1 (by omega), ib 2 (by omega), ib 3 (by omega), ib 4 (by omega), Or.inl ⟨by decide, callW2_mono _ _ _ _ _ _ (fun r' m3 ⟨w', e', ew, hn⟩ => ⟨w', e', fun _ => go m3 _ _ _ hn, fun z => absurd ew z⟩) hc⟩⟩) (j_outcome hI)⟩⟩
    · exact ⟨ib 1 (by omega), Or.inl ⟨by decide, callW2_mono _ _ _ _ _ _ (fun r m2 ⟨w, e, hc⟩ => ⟨w, e, ib 1 (by omega), Or.inl ⟨by decide, callW2_mono _ _ _ _ _ _ (fun r' m3 ⟨w', e', ew, hn⟩ => ⟨w', e', fun _ => go m3 _ _ _ hn, fun z => absurd ew z⟩) hc⟩⟩) (j_drop hI)⟩⟩
    · exact ⟨ib 1 (by omega), Or.inl ⟨by decide, callW2_mono _ _ _ _ _ _ (fun r m2 ⟨w, e, hc⟩ => ⟨w, e, ib 1 (by omega), Or.inl ⟨by decide, callW2_mono _ _ _ _ _ _ (fun r' m3 ⟨w', e', ew, hn⟩ => ⟨w', e', fun _ => go m3 _ _ _ hn, fun z => absurd ew z⟩) hc⟩⟩) (j_mark hI)⟩⟩
    · exact Or.inl ⟨by decide, callW2_mono _ _ _ _ _ _ (fun r m2 ⟨w, e, hc⟩ => ⟨w, e, Or.inl ⟨by decide, callW2_mono _ _ _ _ _ _ (fun r' m3 ⟨w', e', ew, hn⟩ => ⟨w', e', fun _ => go m3 _ _ _ hn, fun z => absurd ew z⟩) hc⟩⟩) (j_whole hI)⟩
    · exact ⟨ib 1 (by omega), ib 2 (by omega), fun z => ⟨ib 3 (by omega), Or.inl ⟨by decide, callW2_mono _ _ _ _ _ _ (fun r m2 ⟨w, e, hc⟩ => ⟨w, e, ib 1 (by omega), ib 2 (by omega), fun _ => ⟨ib 3 (by omega), Or.inl ⟨by decide, callW2_mono _ _ _ _ _ _ (fun r' m3 ⟨w', e', ew, hn⟩ => ⟨w', e', fun _ => go m3 _ _ _ hn, fun z => absurd ((lg_cmp_eq _ _).mpr ew) z⟩) hc⟩⟩, fun y => absurd z y⟩) (j_value (l := false) hI hv)⟩⟩, fun z => ⟨ib 3 (by omega), Or.inl ⟨by decide, callW2_mono _ _ _ _ _ _ (fun r m2 ⟨w, e, hc⟩ => ⟨w, e, ib 1 (by omega), ib 2 (by omega), fun y => absurd y z, fun _ => ⟨ib 3 (by omega), Or.inl ⟨by decide, callW2_mono _ _ _ _ _ _ (fun r' m3 ⟨w', e', ew, hn⟩ => ⟨w', e', fun _ => go m3 _ _ _ hn, fun z => absurd ((lg_cmp_eq _ _).mpr ew) z⟩) hc⟩⟩⟩) (j_value (l := true) hI hv)⟩⟩⟩
    · exact ⟨ib 1 (by omega), Or.inl ⟨by decide, callW2_mono _ _ _ _ _ _ (fun r m2 ⟨w, e, hc⟩ => ⟨w, e, ib 1 (by omega), Or.inl ⟨by decide, callW2_mono _ _ _ _ _ _ (fun r' m3 ⟨w', e', ew, hn⟩ => ⟨w', e', fun _ => go m3 _ _ _ hn, fun z => absurd ew z⟩) hc⟩⟩) (j_choice hI hv)⟩⟩
    · exact ⟨ib 1 (by omega), Or.inl ⟨by decide, callW2_mono _ _ _ _ _ _ (fun r m2 ⟨w, e, hc⟩ => ⟨w, e, ib 1 (by omega), Or.inl ⟨by decide, callW2_mono _ _ _ _ _ _ (fun r' m3 ⟨w', e', ew, hn⟩ => ⟨w', e', fun _ => go m3 _ _ _ hn, fun z => absurd ew z⟩) hc⟩⟩) (j_distance hI hv)⟩⟩
    · exact ⟨ib 1 (by omega), ib 2 (by omega), ib 3 (by omega), Or.inl ⟨by decide, callW2_mono _ _ _ _ _ _ (fun r m2 ⟨w, e, hc⟩ => ⟨w, e, ib 1 (by omega), ib 2 (by omega), ib 3 (by omega), Or.inl ⟨by decide, callW2_mono _ _ _ _ _ _ (fun r' m3 ⟨w', e', ew, hn⟩ => ⟨w', e', fun _ => go m3 _ _ _ hn, fun z => absurd ((lg_cmp_eq _ _).mpr ew) z⟩) hc⟩⟩) (j_sum hI hv)⟩⟩
    · exact ⟨ib 1 (by omega), ib 2 (by omega), ib 3 (by omega), fun z => ⟨ib 4 (by omega), Or.inl ⟨by decide, callW2_mono _ _ _ _ _ _ (fun r m2 ⟨w, e, hc⟩ => ⟨w, e, ib 1 (by omega), ib 2 (by omega), ib 3 (by omega), fun _ => ⟨ib 4 (by omega), Or.inl ⟨by decide, callW2_mono _ _ _ _ _ _ (fun r' m3 ⟨w', e', ew, hn⟩ => ⟨w', e', fun _ => go m3 _ _ _ hn, fun z => absurd ((lg_cmp_eq _ _).mpr ew) z⟩) hc⟩⟩, fun y => absurd z y⟩) (j_within (l := false) hI hv)⟩⟩, fun z => ⟨ib 4 (by omega), Or.inl ⟨by decide, callW2_mono _ _ _ _ _ _ (fun r m2 ⟨w, e, hc⟩ => ⟨w, e, ib 1 (by omega), ib 2 (by omega), ib 3 (by omega), fun y => absurd y z, fun _ => ⟨ib 4 (by omega), Or.inl ⟨by decide, callW2_mono _ _ _ _ _ _ (fun r' m3 ⟨w', e', ew, hn⟩ => ⟨w', e', fun _ => go m3 _ _ _ hn, fun z => absurd ((lg_cmp_eq _ _).mpr ew) z⟩) hc⟩⟩⟩) (j_within (l := true) hI hv)⟩⟩⟩
    · exact ⟨ib 1 (by omega), ib 2 (by omega), Or.inl ⟨by decide, callW2_mono _ _ _ _ _ _ (fun r m2 ⟨w, e, hc⟩ => ⟨w, e, ib 1 (by omega), ib 2 (by omega), Or.inl ⟨by decide, callW2_mono _ _ _ _ _ _ (fun r' m3 ⟨w', e', ew, hn⟩ => ⟨w', e', fun _ => go m3 _ _ _ hn, fun z => absurd ew z⟩) hc⟩⟩) (j_bound hI hv)⟩⟩
    · exact ⟨ib 1 (by omega), Or.inl ⟨by decide, callW2_mono _ _ _ _ _ _ (fun r m2 ⟨w, e, hc⟩ => ⟨w, e, ib 1 (by omega), Or.inl ⟨by decide, callW2_mono _ _ _ _ _ _ (fun r' m3 ⟨w', e', ew, hn⟩ => ⟨w', e', fun _ => go m3 _ _ _ hn, fun z => absurd ew z⟩) hc⟩⟩) (j_sets hI hv)⟩⟩
    · exact ⟨ib 1 (by omega), Or.inl ⟨by decide, callW2_mono _ _ _ _ _ _ (fun r m2 ⟨w, e, hc⟩ => ⟨w, e, ib 1 (by omega), Or.inl ⟨by decide, callW2_mono _ _ _ _ _ _ (fun r' m3 ⟨w', e', ew, hn⟩ => ⟨w', e', fun _ => go m3 _ _ _ hn, fun z => absurd ew z⟩) hc⟩⟩) (j_reached hI)⟩⟩
    · exact ⟨ib 1 (by omega), ib 2 (by omega), Or.inl ⟨by decide, callW2_mono _ _ _ _ _ _ (fun r m2 ⟨w, e, hc⟩ => ⟨w, e, ib 1 (by omega), ib 2 (by omega), Or.inl ⟨by decide, callW2_mono _ _ _ _ _ _ (fun r' m3 ⟨w', e', ew, hn⟩ => ⟨w', e', fun _ => go m3 _ _ _ hn, fun z => absurd ((lg_cmp_eq _ _).mpr ew) z⟩) hc⟩⟩) (j_cost hI hv)⟩⟩
    · exact ⟨ib 1 (by omega), ib 2 (by omega), Or.inl ⟨by decide, callW2_mono _ _ _ _ _ _ (fun r m2 ⟨w, e, hc⟩ => ⟨w, e, ib 1 (by omega), ib 2 (by omega), Or.inl ⟨by decide, callW2_mono _ _ _ _ _ _ (fun r' m3 ⟨w', e', ew, hn⟩ => ⟨w', e', fun _ => go m3 _ _ _ hn, fun z => absurd ew z⟩) hc⟩⟩) (j_hole hI hv)⟩⟩
    · exact ⟨ib 1 (by omega), Or.inl ⟨by decide, callW2_mono _ _ _ _ _ _ (fun r m2 ⟨w, e, hc⟩ => ⟨w, e, ib 1 (by omega), Or.inl ⟨by decide, callW2_mono _ _ _ _ _ _ (fun r' m3 ⟨w', e', ew, hn⟩ => ⟨w', e', fun _ => go m3 _ _ _ hn, fun z => absurd ew z⟩) hc⟩⟩) (j_twin hI hv)⟩⟩
    · exact ⟨ib 1 (by omega), Or.inl ⟨by decide, callW2_mono _ _ _ _ _ _ (fun r m2 ⟨w, e, hc⟩ => ⟨w, e, ib 1 (by omega), Or.inl ⟨by decide, callW2_mono _ _ _ _ _ _ (fun r' m3 ⟨w', e', ew, hn⟩ => ⟨w', e', fun _ => go m3 _ _ _ hn, fun z => absurd ew z⟩) hc⟩⟩) (j_count hI hv)⟩⟩
    · exact ⟨ib 1 (by omega), ib 2 (by omega), ib 3 (by omega), Or.inl ⟨by decide, callW2_mono _ _ _ _ _ _ (fun r m2 ⟨w, e, hc⟩ => ⟨w, e, ib 1 (by omega), ib 2 (by omega), ib 3 (by omega), Or.inl ⟨by decide, callW2_mono _ _ _ _ _ _ (fun r' m3 ⟨w', e', ew, hn⟩ => ⟨w', e', fun _ => go m3 _ _ _ hn, fun z => absurd ew z⟩) hc⟩⟩) (j_look hI)⟩⟩
    · exact ⟨ib 1 (by omega), ib 2 (by omega), ib 3 (by omega), ib 4 (by omega), Or.inl ⟨by decide, callW2_mono _ _ _ _ _ _ (fun r m2 ⟨w, e, hc⟩ => ⟨w, e, ib 1 (by omega), ib 2 (by omega), ib 3 (by omega), ib 4 (by omega), Or.inl ⟨by decide, callW2_mono _ _ _ _ _ _ (fun r' m3 ⟨w', e', ew, hn⟩ => ⟨w', e', fun _ => go m3 _ _ _ hn, fun z => absurd ew z⟩) hc⟩⟩) (j_keep hI hv)⟩⟩
    · exact ⟨ib 1 (by omega), ib 2 (by omega), ib 3 (by omega), Or.inl ⟨by decide, callW2_mono _ _ _ _ _ _ (fun r m2 ⟨w, e, hc⟩ => ⟨w, e, ib 1 (by omega), ib 2 (by omega), ib 3 (by omega), Or.inl ⟨by decide, callW2_mono _ _ _ _ _ _ (fun r' m3 ⟨w', e', ew, hn⟩ => ⟨w', e', fun _ => go m3 _ _ _ hn, fun z => absurd ew z⟩) hc⟩⟩) (j_make hI)⟩⟩
    · exact law_el hI hl (fun m3 o5 o6 o7 hn => go m3 o5 o6 o7 hn)
    · exact ⟨ib 1 (by omega), ib 2 (by omega), ib 3 (by omega), ib 4 (by omega), ib 5 (by omega), Or.inl ⟨by decide, callW2_mono _ _ _ _ _ _ (fun r m2 ⟨w, e, hc⟩ => ⟨w, e, ib 1 (by omega), ib 2 (by omega), ib 3 (by omega), ib 4 (by omega), ib 5 (by omega), Or.inl ⟨by decide, callW2_mono _ _ _ _ _ _ (fun r' m3 ⟨w', e', ew, hn⟩ => ⟨w', e', fun _ => go m3 _ _ _ hn, fun z => absurd ew z⟩) hc⟩⟩) (j_copy hI)⟩⟩
    · exact ⟨ib 1 (by omega), Or.inl ⟨by decide, callW2_mono _ _ _ _ _ _ (fun r m2 ⟨w, e, hc⟩ => ⟨w, e, ib 1 (by omega), Or.inl ⟨by decide, callW2_mono _ _ _ _ _ _ (fun r' m3 ⟨w', e', ew, hn⟩ => ⟨w', e', fun _ => go m3 _ _ _ hn, fun z => absurd ((lg_cmp_eq _ _).mpr ew) z⟩) hc⟩⟩) (j_weight hI)⟩⟩
    · exact ⟨ib 1 (by omega), ib 2 (by omega), Or.inl ⟨by decide, callW2_mono _ _ _ _ _ _ (fun r m2 ⟨w, e, hc⟩ => ⟨w, e, ib 1 (by omega), ib 2 (by omega), Or.inl ⟨by decide, callW2_mono _ _ _ _ _ _ (fun r' m3 ⟨w', e', ew, hn⟩ => ⟨w', e', fun _ => go m3 _ _ _ hn, fun z => absurd ((lg_cmp_eq _ _).mpr ew) z⟩) hc⟩⟩) (j_ratio hI)⟩⟩
end L99VC
