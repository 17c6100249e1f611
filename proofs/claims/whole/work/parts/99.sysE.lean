/-! CONTRACTS (49): outcome(), mathematics (wip/whole/src/99.sysE.src) -/
section L99e
variable {xs : Nat × (Nat → Int32)} {d : Nat} {Q : Option v2 → Mem → Prop} {m : Mem} {S : Sys}
def pt2 (f : Nat → Nat → Nat) (x o v : Nat) : Nat → Nat → Nat := fun y q => if y = x ∧ q = o then v else f y q
theorem pt2_s (f : Nat → Nat → Nat) (x o v : Nat) : pt2 f x o v x o = v := if_pos ⟨rfl, rfl⟩
theorem pt2_n {f : Nat → Nat → Nat} {x o v y q : Nat} (h : ¬ (y = x ∧ q = o)) : pt2 f x o v y q = f y q := if_neg h
def addO (S : Sys) (x t p : Nat) : Sys := ((sN S, sM S), sA S, sK S, sC S, pto (sO S) x (sO S x + 1), pt2 (sT S) x (sO S x) t, pt2 (sP S) x (sO S x) p)
def room (S : Sys) (x : Nat) : Nat := if sK S x % 2 = 1 then 1 else 4
theorem addO_is {x t p y : Nat} : isA (addO S x t p) y ↔ isA S y := Iff.rfl
theorem addO_O {x t p : Nat} : sO (addO S x t p) x = sO S x + 1 := pto_s _ _ _
theorem addO_On {x t p y : Nat} (h : y ≠ x) : sO (addO S x t p) y = sO S y := pto_n h
theorem addO_T {x t p : Nat} : sT (addO S x t p) x (sO S x) = t := pt2_s _ _ _ _
theorem addO_P {x t p : Nat} : sP (addO S x t p) x (sO S x) = p := pt2_s _ _ _ _
theorem addO_Tn {x t p y o : Nat} (h : ¬ (y = x ∧ o = sO S x)) : sT (addO S x t p) y o = sT S y o := pt2_n h
theorem addO_Pn {x t p y o : Nat} (h : ¬ (y = x ∧ o = sO S x)) : sP (addO S x t p) y o = sP S y o := pt2_n h
theorem addO_parts {x t p : Nat} : partsS (addO S x t p) x = partsS S x + p := by
  unfold partsS
  rw [addO_O]
  show sumU (sP (addO S x t p) x) (sO S x) + sP (addO S x t p) x (sO S x) = _
  rw [addO_P, sumU_congr (fun o ho => addO_Pn (by omega))]
theorem addO_goes {x t p : Nat} : goesS (addO S x t p) x = goesS S x ||| 2 ^ t := by
  unfold goesS
  rw [addO_O]
  show orU (fun o => 2 ^ sT (addO S x t p) x o) (sO S x) ||| 2 ^ sT (addO S x t p) x (sO S x) = _
  rw [addO_T, orU_congr (g := fun o => 2 ^ sT S x o) (fun o ho => by rw [addO_Tn (by omega)])]
theorem addO_partsn {x t p y : Nat} (h : y ≠ x) : partsS (addO S x t p) y = partsS S y := by
  unfold partsS
  rw [addO_On h]
  exact sumU_congr (fun o _ => addO_Pn (by omega))
theorem addO_goesn {x t p y : Nat} (h : y ≠ x) : goesS (addO S x t p) y = goesS S y := by
  unfold goesS
  rw [addO_On h]
  exact orU_congr (fun o _ => by rw [addO_Tn (by omega)])
theorem wf_addO {x t p : Nat} (hw : wf S) (hx : isA S x) (ht : t < sN S) (hp1 : 1 ≤ p) (hp : partsS S x + p ≤ 12) (hr : sO S x < room S x) (hk : sK S x = 3 → t = x / 4) : wf (addO S x t p) := by
  refine ⟨show sN S ≤ 10 from wf_n hw, hw.2.1, fun s hs => show sA S s ≤ 4 from wf_a hw hs, fun y hy => ?_⟩
  have hy' : isA S y := hy
  obtain ⟨w1, w2, w3, w4, w5, w6⟩ := wf_x hw hy'
  have ek : ∀ z, sK (addO S x t p) z = sK S z := fun _ => rfl
  have ec : sC (addO S x t p) y = sC S y := rfl
  have en : sN (addO S x t p) = sN S := rfl
  by_cases e : y = x
  · subst e
    refine ⟨w1, w2, ?_, fun o ho => ?_, by rw [addO_parts]; exact hp, w6⟩
    · rw [addO_O, ek]; unfold room at hr; omega
    · rw [addO_O] at ho
      rw [ek, en]
      by_cases eo : o = sO S y
      · rw [eo, addO_T, addO_P]
        exact ⟨ht, hp1, by omega, hk⟩
      · rw [addO_Tn (by omega), addO_Pn (by omega)]
        exact w4 o (by omega)
  · refine ⟨w1, w2, by rw [addO_On e]; exact w3, fun o ho => ?_, by rw [addO_partsn e]; exact w5, w6⟩
    rw [addO_On e] at ho
    rw [ek, en, addO_Tn (by omega), addO_Pn (by omega)]
    exact w4 o ho
theorem RC_addO {m' : Mem} {x t p : Nat} (hR : RC m S) (hw : wf S) (hx : isA S x) (ho : off (fun a j => a = 1 ∧ j = 0 ∨ (a = 4 ∨ a = 5 ∨ a = 6) ∧ j = x) m m') (h0 : m'.1 1 0 0 = m.1 1 0 0) (h1 : m'.1 1 0 1 = m.1 1 0 1) (hk : m'.1 4 x 0 = m.1 4 x 0 ∧ m'.1 4 x 1 = m.1 4 x 1 ∧ m'.1 4 x 2 = nI (sO S x + 1) ∧ m'.1 4 x 3 = nI (partsS S x + p) ∧ m'.1 4 x 4 = nI (goesS S x ||| 2 ^ t)) (h5 : ∀ o, o < sO S x → m'.1 5 x o = m.1 5 x o ∧ m'.1 6 x o = m.1 6 x o) (h6 : m'.1 5 x (sO S x) = nI t ∧ m'.1 6 x (sO S x) = nI p) : RC m' (addO S x t p) := by
  refine ⟨h0.trans (show m.1 1 0 0 = nI (sN S) from rc_n hR), h1.trans (show m.1 1 0 1 = nI (sM S) from rc_m hR), fun s hs => by rw [(ho 2 0 (by omega)).1]; exact rc_a hR hs, fun s hs h => by rw [(ho 2 0 (by omega)).1]; exact rc_a0 hR hs h, fun y hy => ?_⟩
  have hy' : isA S y := hy
  have hr := rc_x hR hy'
  by_cases e : y = x
  · subst e
    refine ⟨hk.1.trans hr.1, hk.2.1.trans hr.2.1, by rw [addO_O]; exact hk.2.2.1, by rw [addO_parts]; exact hk.2.2.2.1, by rw [addO_goes]; exact hk.2.2.2.2, fun o ho' => ?_⟩
    rw [addO_O] at ho'
    by_cases eo : o = sO S y
    · rw [eo, addO_T, addO_P]; exact h6
    · rw [addO_Tn (by omega), addO_Pn (by omega), (h5 o (by omega)).1, (h5 o (by omega)).2]
      exact hr.2.2.2.2.2 o (by omega)
  · have h4' := (ho 4 y (by omega)).1
    have h5' := (ho 5 y (by omega)).1
    have h6' := (ho 6 y (by omega)).1
    unfold RCa at hr ⊢
    rw [addO_On e, addO_partsn e, addO_goesn e, h4', h5', h6']
    refine ⟨hr.1, hr.2.1, hr.2.2.1, hr.2.2.2.1, hr.2.2.2.2.1, fun o ho' => ?_⟩
    rw [addO_Tn (by omega), addO_Pn (by omega)]
    exact hr.2.2.2.2.2 o ho'
theorem RM_addO {m' : Mem} {x t p : Nat} (hR : RM m S) (hw : wf S) (hx : isA S x) (hO : sO S x < 4) (h4 : ∀ a, 40 ≤ a → a ≤ 43 → m'.1 a 0 = m.1 a 0) (h44 : ∀ y, y ≠ x → m'.1 44 0 y = m.1 44 0 y) (h44x : m'.1 44 0 x = nI (sO S x + 1)) (h5 : ∀ y, y ≠ 4 * x + sO S x → m'.1 45 0 y = m.1 45 0 y ∧ m'.1 46 0 y = m.1 46 0 y) (h6 : m'.1 45 0 (4 * x + sO S x) = nI t ∧ m'.1 46 0 (4 * x + sO S x) = nI p) : RM m' (addO S x t p) := by
  refine ⟨by rw [h4 40 (by omega) (by omega)]; exact (show m.1 40 0 1 = nI (sN S) from rm_n hR), by rw [h4 40 (by omega) (by omega)]; exact (show m.1 40 0 2 = nI (sM S) from rm_m hR), fun s hs => by rw [h4 41 (by omega) (by omega)]; exact rm_a hR hs, fun y hy => ?_⟩
  have hy' : isA S y := hy
  have hr := rm_x hR hy'
  have ho4 := wf_o hw hy'
  unfold RMa at hr ⊢
  rw [h4 42 (by omega) (by omega), h4 43 (by omega) (by omega)]
  by_cases e : y = x
  · subst e
    refine ⟨hr.1, hr.2.1, by rw [addO_O]; exact h44x, fun o ho' => ?_⟩
    rw [addO_O] at ho'
    by_cases eo : o = sO S y
    · rw [eo, addO_T, addO_P]; exact h6
    · rw [addO_Tn (by omega), addO_Pn (by omega), (h5 (4 * y + o) (by omega)).1, (h5 (4 * y + o) (by omega)).2]
      exact hr.2.2.2 o (by omega)
  · refine ⟨hr.1, hr.2.1, by rw [addO_On e, h44 y e]; exact hr.2.2.1, fun o ho' => ?_⟩
    rw [addO_On e] at ho'
    rw [addO_Tn (by omega), addO_Pn (by omega), (h5 (4 * y + o) (by omega)).1, (h5 (4 * y + o) (by omega)).2]
    exact hr.2.2.2 o ho'
end L99e
