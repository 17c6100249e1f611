/-! CONTRACTS (54): make() (wip/whole/src/99.tC.src) -/
section L99v
variable {xs : Nat × (Nat → Int32)} {d : Nat} {Q : Option v2 → Mem → Prop} {m : Mem} {S : Sys} {H : Shv}
abbrev Shl := Nat × Int64 × Nat × (Nat → Int64)
def setH (H : Shv) (h : Nat) (v : Shl) : Shv := fun k => if k = h then v else H k
theorem setH_1 (H : Shv) (h : Nat) (v : Shl) : setH H h v h = v := if_pos rfl
theorem setH_2 {H : Shv} {h a : Nat} {v : Shl} (q : a ≠ h) : setH H h v a = H a := if_neg q
def SCv (m : Mem) (h : Nat) (v : Shl) : Prop := v.1 ≤ 4 ∧ m.1 31 h 0 = nI v.1 ∧ (v.1 = 1 → ∃ k c o, k ≤ 3 ∧ c ≤ 1000 ∧ o ≤ 4 ∧ m.1 4 (40 + h) 0 = nI k ∧ m.1 4 (40 + h) 1 = nI c ∧ m.1 4 (40 + h) 2 = nI o ∧ v.2.1 = lI (heavy k c o)) ∧ (v.1 = 2 → m.2 31 h 1 = v.2.1) ∧ (3 ≤ v.1 → v.2.2.1 ≤ 60 ∧ m.1 31 h 2 = nI v.2.2.1 ∧ ∀ j, j < v.2.2.1 → m.2 32 h j = v.2.2.2 j)
def SMv (m : Mem) (h : Nat) (v : Shl) : Prop := m.1 66 0 h = nI v.1 ∧ (v.1 = 1 ∨ v.1 = 2 → m.2 68 0 h = v.2.1) ∧ (3 ≤ v.1 → v.2.2.1 ≤ 60 ∧ m.1 67 0 h = nI v.2.2.1 ∧ ∀ j, j < v.2.2.1 → m.2 69 0 (60 * h + j) = v.2.2.2 j)
theorem SC_v : SC m H ↔ ∀ h, h < 8 → SCv m h (H h) := Iff.rfl
theorem SM_v : SM m H ↔ ∀ h, h < 8 → SMv m h (H h) := Iff.rfl
/-- the cells of shelf h -/
def tX (h t i : Nat) : Prop := (t = 31 ∨ t = 32) ∧ i = h ∨ (t = 4 ∨ t = 5 ∨ t = 6) ∧ i = 40 + h
theorem SC_set {m' : Mem} {h : Nat} {v : Shl} (hS : SC m H) (ho : off (tX h) m m') (hv : SCv m' h v) : SC m' (setH H h v) := by
  rw [SC_v] at hS ⊢
  intro a ha
  by_cases e : a = h
  · subst e; rw [setH_1]; exact hv
  · rw [setH_2 e]
    have o1 := ho 31 a (by unfold tX; omega)
    have o2 := ho 4 (40 + a) (by unfold tX; omega)
    have o3 := ho 32 a (by unfold tX; omega)
    have h2 := hS a ha
    unfold SCv at h2 ⊢
    rw [o1.1, o1.2, o2.1, o3.2]
    exact h2
theorem SM_set {m' : Mem} {h : Nat} {v : Shl} (hS : SM m H) (h66 : ∀ a, a ≠ h → m'.1 66 0 a = m.1 66 0 a) (h67 : ∀ a, a ≠ h → m'.1 67 0 a = m.1 67 0 a) (h68 : ∀ a, a ≠ h → m'.2 68 0 a = m.2 68 0 a) (h69 : ∀ a j, a ≠ h → j < 60 → m'.2 69 0 (60 * a + j) = m.2 69 0 (60 * a + j)) (hv : SMv m' h v) : SM m' (setH H h v) := by
  rw [SM_v] at hS ⊢
  intro a ha
  by_cases e : a = h
  · subst e; rw [setH_1]; exact hv
  · rw [setH_2 e]
    obtain ⟨q1, q2, q3⟩ := hS a ha
    refine ⟨by rw [h66 a e]; exact q1, fun z => by rw [h68 a e]; exact q2 z, fun z => ⟨(q3 z).1, by rw [h67 a e]; exact (q3 z).2.1, fun j hj => ?_⟩⟩
    rw [h69 a j e (by have := (q3 z).1; omega)]
    exact (q3 z).2.2 j hj
theorem c_beginRow {h : Nat} (p q : Int32) (hQ : ∀ m', off (fun t i => (t = 31 ∨ t = 32) ∧ i = h) m m' → m'.1 31 h 0 = p → m'.1 31 h 2 = q → (∀ j, j < 60 → m'.2 32 h j = lN 0) → Q none m') : callW2 xs (d + 2) 40 [vR 31 h, vI p, vI q] m Q := by
  refine eX6_beginRow m _ _ _ (W2_st (bX6_beginRow_0 m _ _ _ ?_))
  refine c_fill32 _ (fun m' g1 g2 => ⟨rfl, ?_⟩)
  refine hQ m' ?_ ?_ ?_ g2
  · refine off_trans (off_I (off_I (off_rfl _ _) _ _ ⟨Or.inl rfl, rfl⟩) _ _ ⟨Or.inl rfl, rfl⟩) (off_sub g1.1 (fun t i z => ⟨Or.inr z.1, z.2⟩))
  · rw [g1.2, mI_r, if_neg (by omega), mI_r, if_pos ⟨rfl, rfl, rfl⟩]
  · rw [g1.2, mI_r, if_pos ⟨rfl, rfl, rfl⟩]
def makV (p1 p2 p3 : Int32) : Int32 := if shl p1 = false then -1 else if ¬ (p2 = nI 3 ∨ p2 = nI 4) then -1 else if ¬ p3 ≤ nI 60 then -1 else if ¬ 0 ≤ p3 then -14 else 0
def makH (H : Shv) (p1 p2 p3 : Int32) : Shv := if makV p1 p2 p3 = 0 then setH H p1.toNatClampNeg (p2.toNatClampNeg, 0, p3.toNatClampNeg, fun _ => lN 0) else H
theorem i_le60 {p : Int32} (h : p ≤ nI 60) (h0 : 0 ≤ p) : ∃ n, n ≤ 60 ∧ p = nI n := by
  have h2 : p.toInt ≤ (60 : Nat) := by
    rw [Int32.le_iff_toInt_le, nI_toInt (by omega)] at h; exact h
  have h3 : (0 : Int) ≤ p.toInt := by
    rw [Int32.le_iff_toInt_le] at h0; exact h0
  obtain ⟨n, hn, e⟩ := int_nI p 61 h3 (by omega) (by omega)
  exact ⟨n, by omega, e⟩
theorem makV_0 {a k n : Nat} (hp : shl (nI a) = true) (hk : k = 3 ∨ k = 4) (hn : n ≤ 60) : makV (nI a) (nI k) (nI n) = 0 := by
  unfold makV
  rw [if_neg (by rw [hp]; decide), if_neg (fun z => z (by rcases hk with e | e <;> subst e; exact Or.inl rfl; exact Or.inr rfl)), if_neg (fun z => z (by rw [nI_leI (by omega) (by omega)]; exact hn)), if_neg (fun z => z (by rw [z_ge (by omega)]; trivial))]
theorem c_make {p1 p2 p3 : Int32} (hS : SC m H) (hQ : ∀ m', off (tX p1.toNatClampNeg) m m' → SC m' (makH H p1 p2 p3) → Q (some (vI (makV p1 p2 p3))) m') : callW2 xs (d + 3) 99 [vR 0 0, vI p1, vI p2, vI p3] m Q := by
  refine eX11_make m _ _ _ (W2_st (bX11_make_0 m _ _ _ ?_))
  have an : ∀ r, makV p1 p2 p3 = r → r ≠ 0 → Q (some (vI r)) m := fun r e h => by
    have h2 := hQ m (off_rfl _ _) (by unfold makH; rw [if_neg (by rw [e]; exact h)]; exact hS)
    rw [e] at h2; exact h2
  refine c_isShelf p1 ⟨_, rfl, ?_⟩
  rw [bI_0]
  refine ⟨fun h => an _ (by unfold makV; rw [if_pos h]) (by decide), fun hp => ?_⟩
  have hp' := hp
  rw [Bool.not_eq_false] at hp'
  obtain ⟨a, ha, e1⟩ := shl_t hp'
  have go : ∀ k, k = 3 ∨ k = 4 → p2 = nI k → p3 ≤ nI 60 → 0 ≤ p3 → inb p1 8 ∧ callW2 xs (d + 2) 40 [vR 31 p1.toNatClampNeg, vI p2, vI p3] m (fun r4 m5 => r4 = none ∧ Q (some (vI (nI 0))) m5) := by
    intro k hk e2 h60 h0
    obtain ⟨n, hn, e3⟩ := i_le60 h60 h0
    subst e1 e2 e3
    have V0 := makV_0 hp' hk hn
    refine ⟨inb_nI (by omega) (by omega), c_beginRow _ _ (fun m' g1 g2 g3 g4 => ⟨rfl, ?_⟩)⟩
    rw [V0] at hQ
    have ho : off (tX (nI a).toNatClampNeg) m m' := off_sub g1 (fun t i z => Or.inl z)
    refine hQ m' ho ?_
    unfold makH
    rw [if_pos V0]
    refine SC_set hS ho ⟨?_, ?_, ?_, ?_, fun _ => ⟨?_, ?_, fun j hj => g4 j ?_⟩⟩
    · show (nI k).toNatClampNeg ≤ 4
      rw [nI_clamp (by omega)]; omega
    · rw [g2]; show nI k = nI (nI k).toNatClampNeg
      rw [nI_clamp (by omega)]
    · intro z
      have z : (nI k).toNatClampNeg = 1 := z
      rw [nI_clamp (by omega)] at z; omega
    · intro z
      have z : (nI k).toNatClampNeg = 2 := z
      rw [nI_clamp (by omega)] at z; omega
    · show (nI n).toNatClampNeg ≤ 60
      rw [nI_clamp (by omega)]; exact hn
    · rw [g3]; show nI n = nI (nI n).toNatClampNeg
      rw [nI_clamp (by omega)]
    · have hj : j < (nI n).toNatClampNeg := hj
      rw [nI_clamp (by omega)] at hj; omega
  have v3 : (p2 = nI 3 ∨ p2 = nI 4) → ¬ p3 ≤ nI 60 → makV p1 p2 p3 = -1 := fun h h2 => by
    unfold makV; rw [if_neg hp, if_neg (fun z => z h), if_pos h2]
  have v4 : (p2 = nI 3 ∨ p2 = nI 4) → p3 ≤ nI 60 → ¬ 0 ≤ p3 → makV p1 p2 p3 = -14 := fun h h2 h3 => by
    unfold makV; rw [if_neg hp, if_neg (fun z => z h), if_neg (fun z => z h2), if_pos h3]
  refine ⟨fun h3 => ⟨fun h60 => ⟨fun h0 => go 3 (Or.inl rfl) h3 h60 h0, fun h0 => an _ (v4 (Or.inl h3) h60 h0) (by decide)⟩, fun h60 => an _ (v3 (Or.inl h3) h60) (by decide)⟩, fun h3 => ⟨fun h4 => an _ ?_ (by decide), fun h4 => ⟨fun h60 => ⟨fun h0 => go 4 (Or.inr rfl) h4 h60 h0, fun h0 => an _ (v4 (Or.inr h4) h60 h0) (by decide)⟩, fun h60 => an _ (v3 (Or.inr h4) h60) (by decide)⟩⟩⟩
  unfold makV
  rw [if_neg hp, if_pos (fun z => z.elim h3 h4)]
/-- the reference's cells of shelves -/
def tRS (t i : Nat) : Prop := 66 ≤ t ∧ t ≤ 70 ∧ i = 0
theorem r_make {p1 p2 p3 : Int32} (hS : SM m H) (hQ : ∀ m', off tRS (mI m 40 0 0 (nI 0)) m' → SM m' (makH H p1 p2 p3) → Q (some (vI (makV p1 p2 p3))) m') : callW2 xs (d + 2) 180 [vR 40 0, vI p1, vI p2, vI p3] m Q := by
  refine eX12_make m _ _ _ (W2_st (bX12_make_0 m _ _ _ ?_))
  have hS := SM_0 (v := nI 0) hS
  generalize mI m 40 0 0 (nI 0) = mo at hS hQ ⊢
  have an : ∀ r, makV p1 p2 p3 = r → r ≠ 0 → Q (some (vI r)) mo := fun r e h => by
    have h2 := hQ mo (off_rfl _ _) (by unfold makH; rw [if_neg (by rw [e]; exact h)]; exact hS)
    rw [e] at h2; exact h2
  refine r_isShelf p1 ⟨_, rfl, ?_⟩
  rw [bI_0]
  refine ⟨fun h => an _ (by unfold makV; rw [if_pos h]) (by decide), fun hp => ?_⟩
  have hp' := hp
  rw [Bool.not_eq_false] at hp'
  obtain ⟨a, ha, e1⟩ := shl_t hp'
  refine r_isIn _ 3 4 (by omega) (by omega) ⟨_, rfl, ?_⟩
  rw [bI_0]
  have k34 : (((3 : Nat) : Int) ≤ p2.toInt ∧ p2.toInt ≤ ((4 : Nat) : Int)) ↔ (p2 = nI 3 ∨ p2 = nI 4) := by
    constructor
    · intro h
      obtain ⟨k, hk, e⟩ := int_nI p2 5 (by omega) (by omega) (by omega)
      subst e
      rw [nI_toInt (by omega)] at h
      rw [nI_eq (by omega) (by omega), nI_eq (by omega) (by omega)]
      omega
    · intro h
      rcases h with h | h <;> subst h <;> rw [nI_toInt (by omega)] <;> omega
  refine ⟨fun h => an _ ?_ (by decide), fun h => ?_⟩
  · have h := of_decide_eq_false h
    unfold makV
    rw [if_neg hp, if_pos (fun z => h (k34.mpr z))]
  rw [Bool.not_eq_false] at h
  have h34 := k34.mp (of_decide_eq_true h)
  refine ⟨fun h60 => ⟨fun h0 => ?_, fun h0 => an _ ?_ (by decide)⟩, fun h60 => an _ ?_ (by decide)⟩
  rotate_left
  · unfold makV; rw [if_neg hp, if_neg (fun z => z h34), if_neg (fun z => z h60), if_pos h0]
  · unfold makV; rw [if_neg hp, if_neg (fun z => z h34), if_pos h60]
  obtain ⟨n, hn, e3⟩ := i_le60 h60 h0
  obtain ⟨k, hk, e2⟩ : ∃ k, (k = 3 ∨ k = 4) ∧ p2 = nI k := by
    rcases h34 with e | e
    · exact ⟨3, Or.inl rfl, e⟩
    · exact ⟨4, Or.inr rfl, e⟩
  subst e1 e2 e3
  have V0 := makV_0 hp' hk hn
  rw [V0] at hQ
  refine ⟨inb_nI (by omega) (by omega), inb_nI (by omega) (by omega), ?_⟩
  rw [nI_clamp (n := a) (by omega)]
  have key : ∀ j, j ≤ n → ∀ mc, off tRS mo mc → mc.1 66 0 a = nI k → mc.1 67 0 a = nI n → (∀ b, b ≠ a → mc.1 66 0 b = mo.1 66 0 b ∧ mc.1 67 0 b = mo.1 67 0 b) → mc.2 68 0 = mo.2 68 0 → (∀ i, ¬ (60 * a ≤ i ∧ i < 60 * a + n) → mc.2 69 0 i = mo.2 69 0 i) → (∀ i, i < j → mc.2 69 0 (60 * a + i) = lN 0) → (W2 xs (callW2 xs (d + 1)) tX12_make [33] (some .int) Q 33 [some (vR 40 0), some (vI (nI a)), some (vI (nI k)), some (vI (nI n)), some (vI (nI j))] [] (mc)) := by
    refine upto n ?_ ?_
    · intro mc g0 g1 g2 g3 g4 g5 g6
      refine W2_st (bX12_make_33 mc _ _ _ _ ⟨fun _ => ?_, fun z => absurd (by rw [nI_leI (by omega) (by omega)]; exact Nat.le_refl _) z⟩)
      refine hQ mc g0 ?_
      unfold makH
      rw [if_pos V0, nI_clamp (n := a) (by omega), nI_clamp (n := k) (by omega), nI_clamp (n := n) (by omega)]
      refine SM_set hS (fun b hb => (g3 b hb).1) (fun b hb => (g3 b hb).2) (fun b hb => by rw [g4]) (fun b i hb hi => g5 _ (by omega)) ⟨g1, fun z => ?_, fun _ => ⟨hn, g2, fun i hi => g6 i hi⟩⟩
      have z : k = 1 ∨ k = 2 := z
      omega
    · intro j hj ih mc g0 g1 g2 g3 g4 g5 g6
      refine W2_st (bX12_make_33 mc _ _ _ _ ?_)
      rw [nI_leI (by omega) (by omega), pk_mul, nI_add, nI_add, nI_clamp (n := 60 * a + j) (by omega)]
      refine ⟨fun z => by omega, fun _ => ⟨inb_nI (by omega) (by omega), ih _ (off_L g0 _ _ ⟨by omega, by omega, rfl⟩) g1 g2 g3 ?_ (fun i hi => ?_) (fun i hi => ?_)⟩⟩
      · rw [← g4]; funext i; rw [mL_r, if_neg (by omega)]
      · rw [mL_r, if_neg (by omega)]; exact g5 i hi
      · rw [mL_r]
        by_cases e : i = j
        · rw [if_pos ⟨rfl, rfl, by omega⟩]
        · rw [if_neg (by omega)]; exact g6 i (by omega)
  refine key 0 (Nat.zero_le _) (mI (mI mo 66 0 a (nI k)) 67 0 a (nI n)) (off_I (off_I (off_rfl _ _) _ _ ⟨by omega, by omega, rfl⟩) _ _ ⟨by omega, by omega, rfl⟩) ?_ ?_ (fun b hb => ⟨?_, ?_⟩) rfl (fun i _ => rfl) (fun i hi => absurd hi (Nat.not_lt_zero _))
  · rw [mI_r, if_neg (by omega), mI_r, if_pos ⟨rfl, rfl, rfl⟩]
  · rw [mI_r, if_pos ⟨rfl, rfl, rfl⟩]
  · rw [mI_r, if_neg (by omega), mI_r, if_neg (by omega)]
  · rw [mI_r, if_neg (by omega), mI_r, if_neg (by omega)]
end L99v
