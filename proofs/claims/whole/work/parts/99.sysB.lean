/-! CONTRACTS (46): act() (wip/whole/src/99.sysB.src) -/
section L99b
variable {xs : Nat × (Nat → Int32)} {d : Nat} {Q : Option v2 → Mem → Prop} {m : Mem} {S : Sys}
def pto (f : Nat → Nat) (x v : Nat) : Nat → Nat := fun y => if y = x then v else f y
theorem pto_s (f : Nat → Nat) (x v : Nat) : pto f x v x = v := if_pos rfl
theorem pto_n {f : Nat → Nat} {x v y : Nat} (h : y ≠ x) : pto f x v y = f y := if_neg h
def addA (S : Sys) (s k c : Nat) : Sys := ((sN S, sM S), pto (sA S) s (sA S s + 1), pto (sK S) (4 * s + sA S s) k, pto (sC S) (4 * s + sA S s) c, pto (sO S) (4 * s + sA S s) 0, sT S, sP S)
def actOK (S : Sys) (s k : Nat) : Prop := sA S s = 0 ∨ (k = 2 ↔ foeS S s = true)
theorem addA_is {s k c x : Nat} (h4 : sA S s < 4) (h : isA (addA S s k c) x) : x = 4 * s + sA S s ∨ (x ≠ 4 * s + sA S s ∧ isA S x) := by
  have h1 : x / 4 < sN S := h.1
  have h2 : x % 4 < pto (sA S) s (sA S s + 1) (x / 4) := h.2
  by_cases e : x = 4 * s + sA S s
  · exact Or.inl e
  · refine Or.inr ⟨e, h1, ?_⟩
    by_cases e2 : x / 4 = s
    · rw [e2, pto_s] at h2; rw [e2]; omega
    · rw [pto_n e2] at h2; exact h2
theorem wf_addA {s k c : Nat} (hw : wf S) (hs : s < sN S) (h4 : sA S s < 4) (hk : k ≤ 3) (hc : c ≤ 1000) (hok : actOK S s k) : wf (addA S s k c) := by
  refine ⟨show sN S ≤ 10 from wf_n hw, hw.2.1, fun t ht => ?_, fun x hx => ?_⟩
  · show pto (sA S) s (sA S s + 1) t ≤ 4
    by_cases e : t = s
    · rw [e, pto_s]; omega
    · rw [pto_n e]; exact wf_a hw ht
  · have hkk : ∀ y, sK (addA S s k c) y = pto (sK S) (4 * s + sA S s) k y := fun _ => rfl
    have hoo : ∀ y, sO (addA S s k c) y = pto (sO S) (4 * s + sA S s) 0 y := fun _ => rfl
    rcases addA_is h4 hx with e | ⟨e, hxo⟩
    · subst e
      have ek : sK (addA S s k c) (4 * s + sA S s) = k := by rw [hkk, pto_s]
      have eo : sO (addA S s k c) (4 * s + sA S s) = 0 := by rw [hoo, pto_s]
      have ec : sC (addA S s k c) (4 * s + sA S s) = c := pto_s _ _ _
      refine ⟨by rw [ek]; exact hk, by rw [ec]; exact hc, by rw [eo]; exact Nat.zero_le _, fun o ho => by rw [eo] at ho; omega, by unfold partsS; rw [eo]; exact Nat.zero_le _, ?_⟩
      rw [ek, show (4 * s + sA S s) / 4 = s by omega, hkk]
      by_cases h0 : sA S s = 0
      · rw [h0, Nat.add_zero, pto_s]
      · rw [pto_n (by omega)]
        rcases hok with q | q
        · exact absurd q h0
        · rw [q]
          unfold foeS
          rw [Bool.and_eq_true, decide_eq_true_iff, decide_eq_true_iff]
          exact ⟨fun z => z.2, fun z => ⟨by omega, z⟩⟩
    · obtain ⟨w1, w2, w3, w4, w5, w6⟩ := wf_x hw hxo
      have ek : sK (addA S s k c) x = sK S x := by rw [hkk, pto_n e]
      have eo : sO (addA S s k c) x = sO S x := by rw [hoo, pto_n e]
      have ec : sC (addA S s k c) x = sC S x := pto_n e
      have e4 : sK (addA S s k c) (4 * (x / 4)) = sK S (4 * (x / 4)) := by
        rw [hkk]
        refine pto_n (fun z => ?_)
        have h1 : x / 4 = s := by omega
        have h2 := hxo.2
        rw [h1] at h2
        omega
      refine ⟨by rw [ek]; exact w1, by rw [ec]; exact w2, by rw [ek, eo]; exact w3, fun o ho => ?_, ?_, by rw [ek, e4]; exact w6⟩
      · rw [eo] at ho
        rw [ek]
        exact w4 o ho
      · unfold partsS
        rw [eo]
        exact w5
theorem RC_addA {m' : Mem} {s k c : Nat} (hR : RC m S) (hw : wf S) (hs : s < sN S) (h4 : sA S s < 4) (ho : off (fun t j => (t = 1 ∨ t = 2) ∧ j = 0 ∨ t = 4 ∧ j = 4 * s + sA S s) m m') (h0 : m'.1 1 0 0 = nI (sN S)) (h1 : m'.1 1 0 1 = nI (sM S)) (h2 : ∀ t, t < 10 → t ≠ s → m'.1 2 0 t = m.1 2 0 t) (h3 : m'.1 2 0 s = nI (sA S s + 1)) (hx : m'.1 4 (4 * s + sA S s) 0 = nI k ∧ m'.1 4 (4 * s + sA S s) 1 = nI c ∧ m'.1 4 (4 * s + sA S s) 2 = nI 0 ∧ m'.1 4 (4 * s + sA S s) 3 = nI 0 ∧ m'.1 4 (4 * s + sA S s) 4 = nI 0) : RC m' (addA S s k c) := by
  have h10 := wf_n hw
  refine ⟨h0, h1, fun t ht => ?_, fun t ht h => ?_, fun x hxx => ?_⟩
  · have ht' : t < sN S := ht
    show _ = nI (pto (sA S) s (sA S s + 1) t)
    by_cases e : t = s
    · rw [e, pto_s]; exact h3
    · rw [pto_n e, h2 t (by omega) e]; exact rc_a hR ht'
  · have ht' : sN S ≤ t := ht
    rw [h2 t h (by omega)]
    exact rc_a0 hR ht' h
  · have hkk : ∀ y, sK (addA S s k c) y = pto (sK S) (4 * s + sA S s) k y := fun _ => rfl
    have hoo : ∀ y, sO (addA S s k c) y = pto (sO S) (4 * s + sA S s) 0 y := fun _ => rfl
    have hcc : ∀ y, sC (addA S s k c) y = pto (sC S) (4 * s + sA S s) c y := fun _ => rfl
    rcases addA_is h4 hxx with e | ⟨e, hxo⟩
    · subst e
      have eo : sO (addA S s k c) (4 * s + sA S s) = 0 := by rw [hoo, pto_s]
      refine ⟨by rw [hkk, pto_s]; exact hx.1, by rw [hcc, pto_s]; exact hx.2.1, by rw [eo]; exact hx.2.2.1, ?_, ?_, fun o ho => by rw [eo] at ho; omega⟩
      · unfold partsS; rw [eo]; exact hx.2.2.2.1
      · unfold goesS; rw [eo]; exact hx.2.2.2.2
    · have hr := rc_x hR hxo
      have ek : sK (addA S s k c) x = sK S x := by rw [hkk, pto_n e]
      have eo : sO (addA S s k c) x = sO S x := by rw [hoo, pto_n e]
      have ec : sC (addA S s k c) x = sC S x := by rw [hcc, pto_n e]
      have ep : partsS (addA S s k c) x = partsS S x := by unfold partsS; rw [eo]; rfl
      have eg : goesS (addA S s k c) x = goesS S x := by unfold goesS; rw [eo]; rfl
      unfold RCa at hr ⊢
      rw [ek, eo, ec, ep, eg, (ho 4 x (by omega)).1, (ho 5 x (by omega)).1, (ho 6 x (by omega)).1]
      exact hr
theorem RM_addA {m' : Mem} {s k c : Nat} (hR : RM m S) (hw : wf S) (hs : s < sN S) (h4 : sA S s < 4) (ho : off (fun t j => 40 ≤ t ∧ t ≤ 44 ∧ j = 0) m m') (h0 : m'.1 40 0 1 = nI (sN S)) (h1 : m'.1 40 0 2 = nI (sM S)) (h2 : ∀ t, t ≠ s → m'.1 41 0 t = m.1 41 0 t) (h3 : m'.1 41 0 s = nI (sA S s + 1)) (hx : m'.1 42 0 (4 * s + sA S s) = nI k ∧ m'.1 43 0 (4 * s + sA S s) = nI c ∧ m'.1 44 0 (4 * s + sA S s) = nI 0) (hy : ∀ x, x ≠ 4 * s + sA S s → m'.1 42 0 x = m.1 42 0 x ∧ m'.1 43 0 x = m.1 43 0 x ∧ m'.1 44 0 x = m.1 44 0 x) : RM m' (addA S s k c) := by
  have h10 := wf_n hw
  refine ⟨h0, h1, fun t ht => ?_, fun x hxx => ?_⟩
  · have ht' : t < sN S := ht
    show _ = nI (pto (sA S) s (sA S s + 1) t)
    by_cases e : t = s
    · rw [e, pto_s]; exact h3
    · rw [pto_n e, h2 t e]; exact rm_a hR ht'
  · have hkk : ∀ y, sK (addA S s k c) y = pto (sK S) (4 * s + sA S s) k y := fun _ => rfl
    have hoo : ∀ y, sO (addA S s k c) y = pto (sO S) (4 * s + sA S s) 0 y := fun _ => rfl
    have hcc : ∀ y, sC (addA S s k c) y = pto (sC S) (4 * s + sA S s) c y := fun _ => rfl
    rcases addA_is h4 hxx with e | ⟨e, hxo⟩
    · subst e
      have eo : sO (addA S s k c) (4 * s + sA S s) = 0 := by rw [hoo, pto_s]
      exact ⟨by rw [hkk, pto_s]; exact hx.1, by rw [hcc, pto_s]; exact hx.2.1, by rw [eo]; exact hx.2.2, fun o ho => by rw [eo] at ho; omega⟩
    · have hr := rm_x hR hxo
      have ek : sK (addA S s k c) x = sK S x := by rw [hkk, pto_n e]
      have eo : sO (addA S s k c) x = sO S x := by rw [hoo, pto_n e]
      have ec : sC (addA S s k c) x = sC S x := by rw [hcc, pto_n e]
      unfold RMa at hr ⊢
      rw [ek, eo, ec, (hy x e).1, (hy x e).2.1, (hy x e).2.2, (ho 45 0 (by omega)).1, (ho 46 0 (by omega)).1]
      exact hr
end L99b
