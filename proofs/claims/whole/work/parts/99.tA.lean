/-! CONTRACTS (52): the shelves; weight(), ratio() (wip/whole/src/99.tA.src) -/
abbrev Shv := Nat → Nat × Int64 × Nat × (Nat → Int64)
section L99t
variable {xs : Nat × (Nat → Int32)} {d : Nat} {Q : Option v2 → Mem → Prop} {m : Mem} {S : Sys} {H : Shv}
/-- a shelf: what it holds (0 nothing, 1 an ACT, 2 a number, 3 and 4 rows), the number, how many, the row -/
def hK (H : Shv) (h : Nat) : Nat := (H h).1
def hV (H : Shv) (h : Nat) : Int64 := (H h).2.1
def hL (H : Shv) (h : Nat) : Nat := (H h).2.2.1
def hD (H : Shv) (h : Nat) : Nat → Int64 := (H h).2.2.2
def SC (m : Mem) (H : Shv) : Prop := ∀ h, h < 8 → hK H h ≤ 4 ∧ m.1 31 h 0 = nI (hK H h) ∧ (hK H h = 1 → ∃ k c o, k ≤ 3 ∧ c ≤ 1000 ∧ o ≤ 4 ∧ m.1 4 (40 + h) 0 = nI k ∧ m.1 4 (40 + h) 1 = nI c ∧ m.1 4 (40 + h) 2 = nI o ∧ hV H h = lI (heavy k c o)) ∧ (hK H h = 2 → m.2 31 h 1 = hV H h) ∧ (3 ≤ hK H h → hL H h ≤ 60 ∧ m.1 31 h 2 = nI (hL H h) ∧ ∀ j, j < hL H h → m.2 32 h j = hD H h j)
def SM (m : Mem) (H : Shv) : Prop := ∀ h, h < 8 → m.1 66 0 h = nI (hK H h) ∧ (hK H h = 1 ∨ hK H h = 2 → m.2 68 0 h = hV H h) ∧ (3 ≤ hK H h → hL H h ≤ 60 ∧ m.1 67 0 h = nI (hL H h) ∧ ∀ j, j < hL H h → m.2 69 0 (60 * h + j) = hD H h j)
def shl (p : Int32) : Bool := decide (0 ≤ p.toInt ∧ p.toInt < ((8 : Nat) : Int))
theorem shl_t {p : Int32} (h : shl p = true) : ∃ k, k < 8 ∧ p = nI k := by
  have h2 := of_decide_eq_true h
  exact int_nI p 8 h2.1 h2.2 (by omega)
theorem i_geN {p : Int32} {n : Nat} (hn : n < 2 ^ 31) : nI n ≤ p ↔ (n : Int) ≤ p.toInt := by rw [Int32.le_iff_toInt_le, nI_toInt hn]
theorem c_isShelf (p : Int32) (hQ : Q (some (vI (bI (shl p)))) m) : callW2 xs (d + 1) 107 [vI p] m Q := by
  refine eX11_isShelf m _ (W2_st (bX11_isShelf_0 m _ ?_))
  rw [i_neg, i_geN (by omega)]
  unfold shl at hQ
  refine ⟨fun h => ⟨isB0, ?_⟩, fun h => ⟨fun h2 => ⟨isB0, ?_⟩, fun h2 => ⟨isB1, ?_⟩⟩⟩
  · rw [decide_eq_false (by omega)] at hQ; exact hQ
  · rw [decide_eq_false (by omega)] at hQ; exact hQ
  · rw [decide_eq_true (by omega)] at hQ; exact hQ
theorem r_isShelf (p : Int32) (hQ : Q (some (vI (bI (shl p)))) m) : callW2 xs (d + 1) 177 [vI p] m Q := by
  refine eX12_isShelf m _ (W2_st (bX12_isShelf_0 m _ ?_))
  rw [i_neg, i_geN (by omega)]
  unfold shl at hQ
  refine ⟨fun h => ⟨isB0, ?_⟩, fun h => ⟨fun h2 => ⟨isB0, ?_⟩, fun h2 => ⟨isB1, ?_⟩⟩⟩
  · rw [decide_eq_false (by omega)] at hQ; exact hQ
  · rw [decide_eq_false (by omega)] at hQ; exact hQ
  · rw [decide_eq_true (by omega)] at hQ; exact hQ
def ratR (H : Shv) (p q : Int32) (r : Int64) : Prop := (¬ (shl p = true ∧ shl q = true) → r = -1) ∧ (shl p = true ∧ shl q = true → (hK H p.toNatClampNeg = 0 ∨ hK H q.toNatClampNeg = 0 → r = -11) ∧ (¬ (hK H p.toNatClampNeg = 0 ∨ hK H q.toNatClampNeg = 0) → (¬ (hK H p.toNatClampNeg = 2 ∧ hK H q.toNatClampNeg = 2) → r = -12) ∧ (hK H p.toNatClampNeg = 2 ∧ hK H q.toNatClampNeg = 2 → (hV H q.toNatClampNeg = 0 → r = -15) ∧ (¬ hV H q.toNatClampNeg = 0 → r = hV H p.toNatClampNeg / hV H q.toNatClampNeg))))
theorem rat_uniq {p q : Int32} {r r' : Int64} (h : ratR H p q r) (h' : ratR H p q r') : r = r' := by
  by_cases h1 : shl p = true ∧ shl q = true
  · have h := h.2 h1
    have h' := h'.2 h1
    by_cases h2 : hK H p.toNatClampNeg = 0 ∨ hK H q.toNatClampNeg = 0
    · rw [h.1 h2, h'.1 h2]
    · have h := h.2 h2
      have h' := h'.2 h2
      by_cases h3 : hK H p.toNatClampNeg = 2 ∧ hK H q.toNatClampNeg = 2
      · have h := h.2 h3
        have h' := h'.2 h3
        by_cases h4 : hV H q.toNatClampNeg = 0
        · rw [h.1 h4, h'.1 h4]
        · rw [h.2 h4, h'.2 h4]
      · rw [h.1 h3, h'.1 h3]
  · rw [h.1 h1, h'.1 h1]
theorem ratR_1 {p q : Int32} (h : ¬ (shl p = true ∧ shl q = true)) : ratR H p q (-1) := ⟨fun _ => rfl, fun z => absurd z h⟩
theorem ratR_2 {p q : Int32} {r : Int64} (h : shl p = true ∧ shl q = true) (h2 : (hK H p.toNatClampNeg = 0 ∨ hK H q.toNatClampNeg = 0 → r = -11) ∧ (¬ (hK H p.toNatClampNeg = 0 ∨ hK H q.toNatClampNeg = 0) → (¬ (hK H p.toNatClampNeg = 2 ∧ hK H q.toNatClampNeg = 2) → r = -12) ∧ (hK H p.toNatClampNeg = 2 ∧ hK H q.toNatClampNeg = 2 → (hV H q.toNatClampNeg = 0 → r = -15) ∧ (¬ hV H q.toNatClampNeg = 0 → r = hV H p.toNatClampNeg / hV H q.toNatClampNeg)))) : ratR H p q r := ⟨fun z => absurd h z, fun _ => h2⟩
theorem lN0 : lN 0 = (0 : Int64) := rfl
theorem c_ratio {p q : Int32} (hS : SC m H) (hQ : ∀ r, ratR H p q r → Q (some (vL r)) m) : callW2 xs (d + 2) 103 [vR 0 0, vI p, vI q] m Q := by
  refine eX11_ratio m _ _ (W2_st (bX11_ratio_0 m _ _ ?_))
  refine c_isShelf p ⟨_, rfl, ?_⟩
  rw [bI_0]
  refine ⟨fun h => hQ _ (ratR_1 (fun z => by rw [h] at z; exact absurd z.1 (by decide))), fun hp => ?_⟩
  rw [Bool.not_eq_false] at hp
  refine c_isShelf q ⟨_, rfl, ?_⟩
  rw [bI_0]
  refine ⟨fun hq => ?_, fun h => hQ _ (ratR_1 (fun z => by rw [h] at z; exact absurd z.2 (by decide)))⟩
  rw [Bool.not_eq_false] at hq
  obtain ⟨a, ha, e1⟩ := shl_t hp
  obtain ⟨b, hb, e2⟩ := shl_t hq
  have an : ∀ r, _ → Q (some (vL r)) m := fun r h => hQ r (ratR_2 ⟨hp, hq⟩ h)
  subst e1 e2
  rw [nI_clamp (n := a) (by omega), nI_clamp (n := b) (by omega)] at an
  rw [nI_clamp (n := a) (by omega), nI_clamp (n := b) (by omega)]
  obtain ⟨a4, a0, _, a2, _⟩ := hS a ha
  obtain ⟨b4, b0, _, b2, _⟩ := hS b hb
  rw [a0, b0, z_eq (by omega), z_eq (by omega), nI_eq (by omega) (by omega), nI_eq (by omega) (by omega), lg_cmp_eq, lN0]
  refine ⟨inb_nI (by omega) (by omega), inb_nI (by omega) (by omega), fun h0 => an _ ⟨fun _ => rfl, fun z => absurd (Or.inl h0) z⟩, fun h0 => ⟨fun g0 => ⟨fun h2 => an _ ⟨fun z => by omega, fun _ => ⟨fun _ => rfl, fun z => by omega⟩⟩, fun h2 => ⟨fun g2 => ?_, fun g2 => an _ ⟨fun z => by omega, fun _ => ⟨fun _ => rfl, fun z => by omega⟩⟩⟩⟩, fun g0 => an _ ⟨fun _ => rfl, fun z => absurd (Or.inr g0) z⟩⟩⟩
  rw [a2 h2, b2 g2]
  exact ⟨fun h => ⟨h, an _ ⟨fun z => by omega, fun _ => ⟨fun z => absurd ⟨h2, g2⟩ z, fun _ => ⟨fun z => absurd z h, fun _ => rfl⟩⟩⟩⟩, fun h => an _ ⟨fun z => by omega, fun _ => ⟨fun z => absurd ⟨h2, g2⟩ z, fun _ => ⟨fun _ => rfl, fun z => absurd h z⟩⟩⟩⟩
end L99t
