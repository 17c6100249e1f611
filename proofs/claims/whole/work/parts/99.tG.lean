/-! CONTRACTS (58): element(), the reference (wip/whole/src/99.tG.src) -/
section L99z
variable {xs : Nat × (Nat → Int32)} {d : Nat} {Q : Option v2 → Mem → Prop} {m : Mem} {S : Sys} {H : Shv}
theorem r_isInM (v : Int32) {L : Nat} (hL : L ≤ 60) (hQ : Q (some (vI (bI (decide (0 ≤ v.toInt ∧ v.toInt < (L : Int)))))) m) : callW2 xs (d + 1) 113 [vL v.toInt64, vL (lN 0), vL (nI L - nI 1).toInt64] m Q := by
  refine eX12_isIn m _ _ _ (W2_st (bX12_isIn_0 m _ _ _ ?_))
  have h1 : (nI 1).toInt = 1 := nI_toInt (by omega)
  have h2 := i_subN (n := L) (q := nI 1) hL (by omega)
  rw [lg_cmp_lt, lg_cmp_gt, l_lt, l_lt, lN_toInt (by omega), Int32.toInt_toInt64, Int32.toInt_toInt64, h2, h1]
  refine ⟨fun h => ⟨isB0, ?_⟩, fun h => ret_yQ _ ?_ hQ⟩
  · rw [decide_eq_false (by omega)] at hQ; exact hQ
  · rw [decide_eq_false_iff_not]; omega
def eleG (H : Shv) (p1 p2 : Int32) : Prop := shl p1 = true ∧ 3 ≤ hK H p1.toNatClampNeg ∧ 0 ≤ p2.toInt ∧ p2.toInt < (hL H p1.toNatClampNeg : Int)
/-- what is thrown (0: nothing), what is answered -/
def eleR (H : Shv) (p1 p2 : Int32) (k : Nat) (v : Int64) : Prop := (shl p1 = false → k = 1 ∧ v = 0) ∧ (shl p1 = true → (¬ eleG H p1 p2 → k = 2 ∧ v = 0) ∧ (eleG H p1 p2 → k = 0 ∧ v = hD H p1.toNatClampNeg p2.toNatClampNeg))
theorem ele_uniq {p1 p2 : Int32} {k k' : Nat} {v v' : Int64} (h : eleR H p1 p2 k v) (h' : eleR H p1 p2 k' v') : k = k' ∧ v = v' := by
  cases hp : shl p1 with
  | false => exact ⟨by rw [(h.1 hp).1, (h'.1 hp).1], by rw [(h.1 hp).2, (h'.1 hp).2]⟩
  | true =>
    have h := h.2 hp
    have h' := h'.2 hp
    by_cases g : eleG H p1 p2
    · exact ⟨by rw [(h.2 g).1, (h'.2 g).1], by rw [(h.2 g).2, (h'.2 g).2]⟩
    · exact ⟨by rw [(h.1 g).1, (h'.1 g).1], by rw [(h.1 g).2, (h'.1 g).2]⟩
theorem r_element {p1 p2 : Int32} (hS : SM m H) (h4 : ∀ h, h < 8 → hK H h ≤ 4) (hQ : ∀ k v, eleR H p1 p2 k v → Q (some (vL v)) (mI m 40 0 0 (nI k))) : callW2 xs (d + 2) 181 [vR 40 0, vI p1, vI p2] m Q := by
  refine eX12_element m _ _ (W2_st (bX12_element_0 m _ _ ?_))
  refine r_isShelf p1 ⟨_, rfl, ?_⟩
  rw [bI_0]
  refine ⟨fun hp => ?_, fun hp => ?_⟩
  · refine r_isShelf p1 ⟨_, rfl, ?_⟩
    rw [bI_0]
    refine ⟨fun z => absurd hp z, fun _ => ⟨fun _ => hQ 1 _ ⟨fun _ => ⟨rfl, rfl⟩, fun z => (by rw [hp] at z; cases z)⟩, fun z => absurd rfl z⟩⟩
  rw [Bool.not_eq_false] at hp
  obtain ⟨a, ha, e1⟩ := shl_t hp
  have ca : p1.toNatClampNeg = a := by rw [e1, nI_clamp (by omega)]
  obtain ⟨a0, _, a3⟩ := hS a ha
  have a4 := h4 a ha
  have ia : inb p1 8 := by rw [e1]; exact inb_nI (by omega) (by omega)
  have bad : ¬ eleG H p1 p2 → callW2 xs (d + 1) 177 [vI p1] m (fun r7 m8 => ∃ w9 : Int32, r7 = some (vI w9) ∧ ((¬ w9 = 0 → (((nI 0) = 0 → (((nI 0) = 0 → Q (some (vL (lN 0))) (mI m8 40 0 0 (nI 2))) ∧ (¬ (nI 0) = 0 → inb (((nI 60) * p1) + p2) 480 ∧ Q (some (vL ((mI m8 40 0 0 (nI 2)).2 69 0 (((nI 60) * p1) + p2).toNatClampNeg))) (mI m8 40 0 0 (nI 2))))) ∧ (¬ (nI 0) = 0 → (((nI 0) = 0 → Q (some (vL (lN 0))) (mI m8 40 0 0 (nI 0))) ∧ (¬ (nI 0) = 0 → inb (((nI 60) * p1) + p2) 480 ∧ Q (some (vL ((mI m8 40 0 0 (nI 0)).2 69 0 (((nI 60) * p1) + p2).toNatClampNeg))) (mI m8 40 0 0 (nI 0))))))) ∧ (w9 = 0 → (((nI 0) = 0 → Q (some (vL (lN 0))) (mI m8 40 0 0 (nI 1))) ∧ (¬ (nI 0) = 0 → inb (((nI 60) * p1) + p2) 480 ∧ Q (some (vL ((mI m8 40 0 0 (nI 1)).2 69 0 (((nI 60) * p1) + p2).toNatClampNeg))) (mI m8 40 0 0 (nI 1))))))) := by
    intro hg
    refine r_isShelf p1 ⟨_, rfl, ?_⟩
    rw [bI_0]
    exact ⟨fun _ => ⟨fun _ => ⟨fun _ => hQ 2 _ ⟨fun z => (by rw [hp] at z; cases z), fun _ => ⟨fun _ => ⟨rfl, rfl⟩, fun z => absurd z hg⟩⟩, fun z => absurd rfl z⟩, fun z => absurd rfl z⟩, fun z => (by rw [hp] at z; cases z)⟩
  rw [ca, a0, nI_leI (by omega) (by omega)]
  refine ⟨ia, fun h2 => bad (fun z => by have := z.2.1; rw [ca] at this; omega), fun h2 => ⟨ia, ?_⟩⟩
  obtain ⟨l60, al, ad⟩ := a3 (by omega)
  rw [al]
  refine r_isInM p2 l60 ⟨_, rfl, ?_⟩
  rw [bI_0, decide_eq_false_iff_not]
  refine ⟨fun hn => bad (fun z => hn (by have := z.2.2; rw [ca] at this; exact this)), fun hn => ?_⟩
  rw [Decidable.not_not] at hn
  refine r_isShelf p1 ⟨_, rfl, ?_⟩
  rw [bI_0]
  refine ⟨fun _ => ⟨fun z => absurd z (by decide), fun _ => ⟨fun z => absurd z (by decide), fun _ => ?_⟩⟩, fun z => (by rw [hp] at z; cases z)⟩
  obtain ⟨j, hj, e2⟩ := int_nI p2 (hL H a) hn.1 hn.2 (by omega)
  have hR : eleR H p1 p2 0 (hD H a j) := ⟨fun z => (by rw [hp] at z; cases z), fun _ => ⟨fun z => absurd ⟨hp, by rw [ca]; omega, by rw [ca]; exact hn⟩ z, fun _ => ⟨rfl, by rw [ca, e2, nI_clamp (by omega)]⟩⟩⟩
  have h2 := hQ 0 _ hR
  rw [e1, e2, pk_mul, nI_add, nI_clamp (by omega)]
  refine ⟨inb_nI (by omega) (by omega), ?_⟩
  show Q (some (vL (m.2 69 0 (60 * a + j)))) _
  rw [ad j hj]
  exact h2
end L99z
