/-! CONTRACTS (53): ratio(), the reference; weight(), make() (wip/whole/src/99.tB.src) -/
section L99u
variable {xs : Nat × (Nat → Int32)} {d : Nat} {Q : Option v2 → Mem → Prop} {m : Mem} {S : Sys} {H : Shv}
theorem SM_0 {v : Int32} (h : SM m H) : SM (mI m 40 0 0 v) H := by
  intro a ha
  obtain ⟨h1, h2, h3⟩ := h a ha
  refine ⟨by rw [mI_r, if_neg (by omega)]; exact h1, h2, fun z => ⟨(h3 z).1, by rw [mI_r, if_neg (by omega)]; exact (h3 z).2.1, (h3 z).2.2⟩⟩
theorem r_ratio {p q : Int32} (hS : SM m H) (h4 : ∀ h, h < 8 → hK H h ≤ 4) (hQ : ∀ r, ratR H p q r → Q (some (vL r)) (mI m 40 0 0 (nI 0))) : callW2 xs (d + 2) 185 [vR 40 0, vI p, vI q] m Q := by
  refine eX12_ratio m _ _ (W2_st (bX12_ratio_0 m _ _ ?_))
  have hS := SM_0 (v := nI 0) hS
  generalize mI m 40 0 0 (nI 0) = mo at hS hQ ⊢
  refine r_isShelf p ⟨_, rfl, ?_⟩
  rw [bI_0]
  refine ⟨fun h => hQ _ (ratR_1 (fun z => by rw [h] at z; exact absurd z.1 (by decide))), fun hp => ?_⟩
  rw [Bool.not_eq_false] at hp
  refine r_isShelf q ⟨_, rfl, ?_⟩
  rw [bI_0]
  refine ⟨fun hq => ?_, fun h => hQ _ (ratR_1 (fun z => by rw [h] at z; exact absurd z.2 (by decide)))⟩
  rw [Bool.not_eq_false] at hq
  obtain ⟨a, ha, e1⟩ := shl_t hp
  obtain ⟨b, hb, e2⟩ := shl_t hq
  have an : ∀ r, _ → Q (some (vL r)) mo := fun r h => hQ r (ratR_2 ⟨hp, hq⟩ h)
  subst e1 e2
  rw [nI_clamp (n := a) (by omega), nI_clamp (n := b) (by omega)] at an
  rw [nI_clamp (n := a) (by omega), nI_clamp (n := b) (by omega)]
  obtain ⟨a0, a2, _⟩ := hS a ha
  obtain ⟨b0, b2, _⟩ := hS b hb
  have a4 := h4 a ha
  have b4 := h4 b hb
  have ia : inb (nI a) 8 := inb_nI (by omega) (by omega)
  have ib : inb (nI b) 8 := inb_nI (by omega) (by omega)
  rw [a0, b0, z_eq (by omega), z_eq (by omega), nI_eq (by omega) (by omega), nI_eq (by omega) (by omega), lg_cmp_eq, lN0]
  refine ⟨ia, fun h0 => an _ ⟨fun _ => rfl, fun z => absurd (Or.inl h0) z⟩, fun h0 => ⟨ib, fun g0 => ⟨ia, fun h2 => an _ ⟨fun z => by omega, fun _ => ⟨fun _ => rfl, fun z => by omega⟩⟩, fun h2 => ⟨ib, fun g2 => ⟨ib, ?_⟩, fun g2 => an _ ⟨fun z => by omega, fun _ => ⟨fun _ => rfl, fun z => by omega⟩⟩⟩⟩, fun g0 => an _ ⟨fun _ => rfl, fun z => absurd (Or.inr g0) z⟩⟩⟩
  rw [a2 (Or.inr h2), b2 (Or.inr g2)]
  exact ⟨fun h => ⟨ia, ib, h, an _ ⟨fun z => by omega, fun _ => ⟨fun z => absurd ⟨h2, g2⟩ z, fun _ => ⟨fun z => absurd z h, fun _ => rfl⟩⟩⟩⟩, fun h => an _ ⟨fun z => by omega, fun _ => ⟨fun z => absurd ⟨h2, g2⟩ z, fun _ => ⟨fun _ => rfl, fun z => absurd h z⟩⟩⟩⟩
def wgtR (H : Shv) (p : Int32) (r : Int64) : Prop := (shl p = false → r = -1) ∧ (shl p = true → (hK H p.toNatClampNeg = 0 → r = -11) ∧ (hK H p.toNatClampNeg = 1 ∨ hK H p.toNatClampNeg = 2 → r = hV H p.toNatClampNeg) ∧ (3 ≤ hK H p.toNatClampNeg → r = -12))
theorem wgt_uniq {p : Int32} {r r' : Int64} (h : wgtR H p r) (h' : wgtR H p r') : r = r' := by
  cases hp : shl p with
  | false => rw [h.1 hp, h'.1 hp]
  | true =>
    have h := h.2 hp
    have h' := h'.2 hp
    rcases Nat.lt_or_ge (hK H p.toNatClampNeg) 3 with q | q
    · by_cases q0 : hK H p.toNatClampNeg = 0
      · rw [h.1 q0, h'.1 q0]
      · rw [h.2.1 (by omega), h'.2.1 (by omega)]
    · rw [h.2.2 q, h'.2.2 q]
theorem c_weight {p : Int32} (hS : SC m H) (hQ : ∀ r, wgtR H p r → Q (some (vL r)) m) : callW2 xs (d + 3) 102 [vR 0 0, vI p] m Q := by
  refine eX11_weight m _ (W2_st (bX11_weight_0 m _ ?_))
  refine c_isShelf p ⟨_, rfl, ?_⟩
  rw [bI_0]
  refine ⟨fun hp => ?_, fun h => hQ _ ⟨fun _ => rfl, fun z => (by rw [h] at z; cases z)⟩⟩
  rw [Bool.not_eq_false] at hp
  obtain ⟨a, ha, e1⟩ := shl_t hp
  subst e1
  have an : ∀ r, ((hK H a = 0 → r = -11) ∧ (hK H a = 1 ∨ hK H a = 2 → r = hV H a) ∧ (3 ≤ hK H a → r = -12)) → Q (some (vL r)) m := fun r h => hQ r ⟨fun z => (by rw [hp] at z; cases z), fun _ => by rw [nI_clamp (by omega)]; exact h⟩
  obtain ⟨a4, a0, a1, a2, _⟩ := hS a ha
  rw [nI_clamp (n := a) (by omega), a0, nI_toInt (by omega)]
  refine ⟨inb_nI (by omega) (by omega), fun h => an _ ⟨fun z => by omega, fun z => by omega, fun _ => rfl⟩, fun h => an _ ⟨fun _ => rfl, fun z => by omega, fun z => by omega⟩, fun h => ?_, fun h => an _ ⟨fun z => by omega, fun _ => a2 (by omega), fun z => by omega⟩, trivial⟩
  obtain ⟨k, c, o, q1, q2, q3, q4, q5, q6, q7⟩ := a1 (by omega)
  exact c_heavy q4 q5 q6 q1 q2 q3 ⟨_, rfl, an _ ⟨fun z => by omega, fun _ => q7.symm, fun z => by omega⟩⟩
theorem r_weight {p : Int32} (hS : SM m H) (h4 : ∀ h, h < 8 → hK H h ≤ 4) (hQ : ∀ r, wgtR H p r → Q (some (vL r)) (mI m 40 0 0 (nI 0))) : callW2 xs (d + 2) 184 [vR 40 0, vI p] m Q := by
  refine eX12_weight m _ (W2_st (bX12_weight_0 m _ ?_))
  have hS := SM_0 (v := nI 0) hS
  generalize mI m 40 0 0 (nI 0) = mo at hS hQ ⊢
  refine r_isShelf p ⟨_, rfl, ?_⟩
  rw [bI_0]
  refine ⟨fun hp => ?_, fun h => hQ _ ⟨fun _ => rfl, fun z => (by rw [h] at z; cases z)⟩⟩
  rw [Bool.not_eq_false] at hp
  obtain ⟨a, ha, e1⟩ := shl_t hp
  subst e1
  have an : ∀ r, ((hK H a = 0 → r = -11) ∧ (hK H a = 1 ∨ hK H a = 2 → r = hV H a) ∧ (3 ≤ hK H a → r = -12)) → Q (some (vL r)) mo := fun r h => hQ r ⟨fun z => (by rw [hp] at z; cases z), fun _ => by rw [nI_clamp (by omega)]; exact h⟩
  obtain ⟨a0, a2, _⟩ := hS a ha
  have a4 := h4 a ha
  have ia : inb (nI a) 8 := inb_nI (by omega) (by omega)
  rw [nI_clamp (n := a) (by omega), a0, z_eq (by omega), nI_leI (by omega) (by omega)]
  exact ⟨ia, fun h0 => ⟨ia, fun h => ⟨ia, an _ ⟨fun z => by omega, fun z => a2 z, fun z => by omega⟩⟩, fun h => an _ ⟨fun z => by omega, fun z => by omega, fun _ => rfl⟩⟩, fun h0 => an _ ⟨fun _ => rfl, fun z => by omega, fun z => by omega⟩⟩
end L99u
