/-! CHANCES UNDER CHOICES, AND THE POINT WHERE NEITHER SIDE GAINS (wip/whole/src/53.saddle.src) -/
section M53
variable {S : Sys}
theorem meanS_congr {x : Nat} {u v : Nat → Int} (h : ∀ o, o < sO S x → u (sT S x o) = v (sT S x o)) : meanS S x u = meanS S x v := sumI_congr (fun o ho => by rw [h o ho])
theorem meanS_add (x : Nat) (u v : Nat → Int) : meanS S x (fun s => u s + v s) = meanS S x u + meanS S x v := by
  unfold meanS
  rw [← sumI_add]
  exact sumI_congr (fun o _ => Int.mul_add _ _ _)
theorem meanS_mul (x : Nat) (a : Int) (u : Nat → Int) : meanS S x (fun s => a * u s) = a * meanS S x u := by
  unfold meanS
  rw [← sumI_mul]
  exact sumI_congr (fun o _ => by grind)
theorem meanS_lin (x : Nat) (a b : Int) (u v : Nat → Int) : meanS S x (fun s => a * u s - b * v s) = a * meanS S x u - b * meanS S x v := by
  rw [show (fun s => a * u s - b * v s) = (fun s => a * u s + (-b) * v s) by funext s; grind, meanS_add (u := fun s => a * u s) (v := fun s => (-b) * v s), meanS_mul, meanS_mul]
  grind
theorem meanS_le {x : Nat} {u v : Nat → Int} (h : ∀ o, o < sO S x → u (sT S x o) ≤ v (sT S x o)) : meanS S x u ≤ meanS S x v := sumI_le (fun o ho => Int.mul_le_mul_of_nonneg_left (h o ho) (Int.natCast_nonneg _))
theorem sumI_nat (f : Nat → Nat) (n : Nat) : sumI (fun o => (f o : Int)) n = (sumU f n : Nat) := by
  induction n with
  | zero => rfl
  | succ n ih => simp only [sumI, sumU]; rw [ih]; omega
theorem meanS_const (x : Nat) (a : Int) : meanS S x (fun _ => a) = a * (partsS S x : Nat) := by
  unfold meanS partsS
  rw [← sumI_nat, ← sumI_mul]
  exact sumI_congr (fun o _ => Int.mul_comm _ _)
theorem meanS_zero {x : Nat} {u : Nat → Int} (h : ∀ o, o < sO S x → u (sT S x o) = 0) : meanS S x u = 0 := sumI_zero (fun o ho => by rw [h o ho, Int.mul_zero])
/-- c chooses an ACT for every STATE of B -/
def pol (S : Sys) (B : Nat) (c : Nat → Nat) : Prop := ∀ s, B.testBit s = true → s < sN S ∧ c s < sA S s
/-- nothing lacks -/
def full (S : Sys) : Prop := ∀ x, isA S x → partsS S x = 12
theorem full_lack (hw : wf S) (h : lackS S = 0) : full S := by
  intro x hx
  have h1 := wf_ps hw hx
  have h2 : ∀ s, s < sN S → sumU (fun a => 12 - partsS S (4 * s + a)) (sA S s) = 0 := by
    intro s hs
    unfold lackS at h
    have := sumU_mono2 (f := fun s' => if s' = s then sumU (fun a => 12 - partsS S (4 * s + a)) (sA S s) else 0) (g := fun s => sumU (fun a => 12 - partsS S (4 * s + a)) (sA S s)) (n := sN S) (fun i _ => by
      split
      · rename_i e; rw [e]; exact Nat.le_refl _
      · exact Nat.zero_le _)
    rw [h] at this
    have h3 : ∀ (N c : Nat), s < N → c ≤ sumU (fun s' => if s' = s then c else 0) N := by
      intro N c
      induction N with
      | zero => intro q; omega
      | succ N ih =>
        intro q
        simp only [sumU]
        rcases Nat.lt_or_ge s N with q2 | q2
        · have := ih q2; omega
        · rw [if_pos (show N = s by omega)]; omega
    have := h3 (sN S) (sumU (fun a => 12 - partsS S (4 * s + a)) (sA S s)) hs
    omega
  have h3 := h2 _ hx.1
  have h4 : ∀ (N : Nat) (f : Nat → Nat), sumU f N = 0 → ∀ a, a < N → f a = 0 := by
    intro N f
    induction N with
    | zero => intro _ a ha; omega
    | succ N ih =>
      intro h a ha
      simp only [sumU] at h
      rcases Nat.lt_or_ge a N with q | q
      · exact ih (by omega) a q
      · rw [show a = N by omega]; omega
  have h5 := h4 _ _ h3 (x % 4) hx.2
  rw [show 4 * (x / 4) + x % 4 = x by omega] at h5
  omega
theorem pol_a {B : Nat} {c : Nat → Nat} (hw : wf S) (h : pol S B c) {s : Nat} (hs : B.testBit s = true) : isA S (4 * s + c s) := isA_mk (h s hs).1 (h s hs).2 (by have := wf_a hw (h s hs).1; have := (h s hs).2; omega)
/-- under c no set of B is stayed in -/
def lkS (S : Sys) (B : Nat) (c : Nat → Nat) : Prop := ∀ C : Nat → Prop, (∃ s, C s) → (∀ s, C s → B.testBit s = true) → ∃ s, C s ∧ ∃ o, o < sO S (4 * s + c s) ∧ ¬ C (sT S (4 * s + c s) o)
theorem maxS {B : Nat} {c : Nat → Nat} (hw : wf S) (hf : full S) (hc : pol S B c) (hL : lkS S B c) {y : Nat → Int} (hout : ∀ s, s < sN S → B.testBit s = false → y s ≤ 0) (hy : ∀ s, B.testBit s = true → 0 < y s → 12 * y s ≤ meanS S (4 * s + c s) y) : ∀ s, s < sN S → y s ≤ 0 := by
  intro s0 hs0
  obtain ⟨k, hk, hmax⟩ := argmax y (sN S) (by omega)
  apply Classical.byContradiction
  intro hpos
  have hM : 0 < y k := by have := hmax s0 hs0; omega
  have hCB : ∀ s, (s < sN S ∧ y s = y k) → B.testBit s = true := by
    intro s hs
    cases hb : B.testBit s with
    | true => rfl
    | false => have := hout s hs.1 hb; omega
  obtain ⟨s, hCs, o, ho, hn⟩ := hL (fun s => s < sN S ∧ y s = y k) ⟨k, hk, rfl⟩ hCB
  have hB := hCB s hCs
  have hx := pol_a hw hc hB
  have h1 := hy s hB (by rw [hCs.2]; exact hM)
  have h2 : meanS S (4 * s + c s) y < meanS S (4 * s + c s) (fun _ => y k) := by
    refine sumI_lt (fun o ho => Int.mul_le_mul_of_nonneg_left (hmax _ (wf_t hw hx ho)) (Int.natCast_nonneg _)) ho ?_
    have h3 := hmax _ (wf_t hw hx ho)
    have h4 : y (sT S (4 * s + c s) o) ≠ y k := fun z => hn ⟨wf_t hw hx ho, z⟩
    have h5 := (wf_p hw hx ho).1
    exact Int.mul_lt_mul_of_pos_left (by show _ < y k; omega) (by omega)
  rw [meanS_const, hf _ hx] at h2
  omega
/-- W over E: the chance of U under c, B being what is open -/
def chance (S : Sys) (B U : Nat) (c : Nat → Nat) (W : Nat → Int) (E : Int) : Prop := 0 < E ∧ ∃ Y, bsub Y B ∧ lkS S Y c ∧ (∀ s, s < sN S → U.testBit s = true → W s = E) ∧ (∀ s, s < sN S → U.testBit s = false → Y.testBit s = false → W s = 0) ∧ (∀ s, s < sN S → 0 ≤ W s) ∧ (∀ s, B.testBit s = true → 12 * W s = meanS S (4 * s + c s) W)
/-- neither side gains: l the side, w the ways, V over D the chances -/
def saddle (S : Sys) (l : Bool) (B U : Nat) (w : Nat → Nat) (V : Nat → Int) (D : Int) : Prop := 0 < D ∧ pol S B w ∧ (∀ s, s < sN S → U.testBit s = true → V s = D) ∧ (∀ s, s < sN S → U.testBit s = false → B.testBit s = false → V s = 0) ∧ (∀ s, s < sN S → 0 ≤ V s) ∧ (∀ s, B.testBit s = true → 12 * V s = meanS S (4 * s + w s) V) ∧ (∀ s, B.testBit s = true → ∀ a, a < sA S s → match wantS S l s with
    | true => meanS S (4 * s + a) V ≤ 12 * V s
    | false => 12 * V s ≤ meanS S (4 * s + a) V) ∧ ∀ c, pol S B c → (∀ s, B.testBit s = true → wantS S l s = true → c s = w s) → lkS S B c
theorem sad_up {l : Bool} {B U : Nat} {w c : Nat → Nat} {V W : Nat → Int} {D E : Int} (hw : wf S) (hf : full S) (hd : ∀ s, U.testBit s = true → B.testBit s = false) (h : saddle S l B U w V D) (hc : pol S B c) (hW : chance S B U c W E) (hag : ∀ s, B.testBit s = true → wantS S l s = false → c s = w s) : ∀ s, s < sN S → W s * D ≤ V s * E := by
  obtain ⟨hE, Y, hYB, hYl, w1, w2, w3, w4⟩ := hW
  obtain ⟨hD, hwp, v1, v2, v3, v4, v5, v6⟩ := h
  have hcY : pol S Y c := fun s hs => hc s (hYB s hs)
  have key := maxS (B := Y) (c := c) (y := fun s => D * W s - E * V s) hw hf hcY hYl (fun s hs hY => by
    cases hU : U.testBit s with
    | true => rw [w1 s hs hU, v1 s hs hU]; grind
    | false =>
      rw [w2 s hs hU hY]
      have := Int.mul_nonneg (Int.le_of_lt hE) (v3 s hs)
      omega) (fun s hs _ => by
    rw [meanS_lin, ← w4 s (hYB s hs)]
    have hsB := hYB s hs
    have hle : meanS S (4 * s + c s) V ≤ 12 * V s := by
      cases hwt : wantS S l s with
      | true =>
        have := v5 s hsB (c s) (hc s hsB).2
        rw [hwt] at this
        exact this
      | false => rw [hag s hsB hwt, ← v4 s hsB]; exact Int.le_refl _
    have := Int.mul_le_mul_of_nonneg_left hle (Int.le_of_lt hE)
    grind)
  intro s hs
  have := key s hs
  rw [Int.mul_comm (W s), Int.mul_comm (V s)]
  omega
theorem sad_dn {l : Bool} {B U : Nat} {w c : Nat → Nat} {V W : Nat → Int} {D E : Int} (hw : wf S) (hf : full S) (hd : ∀ s, U.testBit s = true → B.testBit s = false) (h : saddle S l B U w V D) (hc : pol S B c) (hW : chance S B U c W E) (hag : ∀ s, B.testBit s = true → wantS S l s = true → c s = w s) : ∀ s, s < sN S → V s * E ≤ W s * D := by
  obtain ⟨hE, Y, hYB, hYl, w1, w2, w3, w4⟩ := hW
  obtain ⟨hD, hwp, v1, v2, v3, v4, v5, v6⟩ := h
  have key := maxS (B := B) (c := c) (y := fun s => E * V s - D * W s) hw hf hc (v6 c hc hag) (fun s hs hB => by
    cases hU : U.testBit s with
    | true => rw [w1 s hs hU, v1 s hs hU]; grind
    | false =>
      rw [v2 s hs hU hB]
      have := Int.mul_nonneg (Int.le_of_lt hD) (w3 s hs)
      omega) (fun s hs _ => by
    rw [meanS_lin, ← w4 s hs]
    have hle : 12 * V s ≤ meanS S (4 * s + c s) V := by
      cases hwt : wantS S l s with
      | true => rw [hag s hs hwt, ← v4 s hs]; exact Int.le_refl _
      | false =>
        have := v5 s hs (c s) (hc s hs).2
        rw [hwt] at this
        exact this
    have := Int.mul_le_mul_of_nonneg_left hle (Int.le_of_lt hE)
    grind)
  intro s hs
  have := key s hs
  rw [Int.mul_comm (V s), Int.mul_comm (W s)]
  omega
/-! the changes of the side that seeks keep its chance against all -/
/-- the ways of those who want leave no set of B to stay in, whatever the others do -/
def strong (S : Sys) (l : Bool) (B : Nat) (w : Nat → Nat) : Prop := ∀ c, pol S B c → (∀ s, B.testBit s = true → wantS S l s = true → c s = w s) → lkS S B c
theorem strong_next {l : Bool} {B : Nat} {w w' : Nat → Nat} {V : Nat → Int} (hw : wf S) (hf : full S) (hs : strong S l B w) (hwp : pol S B w) (hge : ∀ s, s < sN S → 0 ≤ V s) (h0 : ∀ s, B.testBit s = true → wantS S l s = false → ∀ a, a < sA S s → 12 * V s ≤ meanS S (4 * s + a) V) (h1 : ∀ s, B.testBit s = true → wantS S l s = true → (w' s = w s ∧ 12 * V s = meanS S (4 * s + w s) V) ∨ 12 * V s < meanS S (4 * s + w' s) V) : strong S l B w' := by
  intro c hc hag C hC hCB
  apply Classical.byContradiction
  intro hno
  have hno2 : ∀ s, C s → ∀ o, o < sO S (4 * s + c s) → C (sT S (4 * s + c s) o) := fun s hs o ho => Classical.byContradiction (fun z => hno ⟨s, hs, o, ho, z⟩)
  -- the greatest of V on C
  obtain ⟨s0, hs0⟩ := hC
  have hn : ∀ s, C s → s < sN S := fun s hs => (hc s (hCB s hs)).1
  have hdec : ∃ f : Nat → Int, (∀ s, C s → f s = V s) ∧ (∀ s, ¬ C s → f s = -1) := by
    refine ⟨fun s => @ite _ (C s) (Classical.propDecidable _) (V s) (-1), fun s hs => if_pos hs, fun s hs => if_neg hs⟩
  obtain ⟨f, f1, f2⟩ := hdec
  obtain ⟨k, hk, hmax⟩ := argmax f (sN S) (by have := hn s0 hs0; omega)
  have hkC : C k := Classical.byContradiction (fun z => by
    have h2 := hmax s0 (hn s0 hs0)
    rw [f2 k z, f1 s0 hs0] at h2
    have := hge s0 (hn s0 hs0)
    omega)
  have hmx : ∀ t, C t → V t ≤ V k := fun t ht => by have := hmax t (hn t ht); rw [f1 t ht, f1 k hkC] at this; exact this
  -- those that are as great: closed, and nothing has changed there
  have hcl : ∀ s, (C s ∧ V s = V k) → (∀ o, o < sO S (4 * s + c s) → V (sT S (4 * s + c s) o) = V k) ∧ (wantS S l s = true → w' s = w s) := by
    intro s hs
    have hsB := hCB s hs.1
    have hx := pol_a hw hc hsB
    have hle : ∀ o, o < sO S (4 * s + c s) → V (sT S (4 * s + c s) o) ≤ V k := fun o ho => hmx _ (hno2 s hs.1 o ho)
    have hm : meanS S (4 * s + c s) V ≤ 12 * V k := by
      have := meanS_le (S := S) (x := 4 * s + c s) (u := V) (v := fun _ => V k) hle
      rw [meanS_const, hf _ hx] at this
      omega
    have hge2 : 12 * V s ≤ meanS S (4 * s + c s) V ∧ (wantS S l s = true → w' s = w s) := by
      cases hwt : wantS S l s with
      | false => exact ⟨h0 s hsB hwt (c s) (hc s hsB).2, fun z => by cases z⟩
      | true =>
        rw [hag s hsB hwt] at hm ⊢
        rcases h1 s hsB hwt with h2 | h2
        · refine ⟨?_, fun _ => h2.1⟩
          rw [h2.1, ← h2.2]; exact Int.le_refl _
        · have := hs.2; omega
    refine ⟨fun o ho => ?_, hge2.2⟩
    apply Classical.byContradiction
    intro hne
    have hlt : meanS S (4 * s + c s) V < meanS S (4 * s + c s) (fun _ => V k) := by
      refine sumI_lt (fun o ho => Int.mul_le_mul_of_nonneg_left (hle o ho) (Int.natCast_nonneg _)) ho ?_
      have h4 := hle o ho
      have h5 := (wf_p hw hx ho).1
      exact Int.mul_lt_mul_of_pos_left (by show _ < V k; omega) (by omega)
    rw [meanS_const, hf _ hx] at hlt
    have := hs.2
    omega
  -- c with the old ways of those who want
  have hlk := hs (fun s => @ite _ (B.testBit s = true ∧ wantS S l s = true) (Classical.propDecidable _) (w s) (c s)) (fun s hsB => by
    refine ⟨(hc s hsB).1, ?_⟩
    dsimp only
    split
    · exact (hwp s hsB).2
    · exact (hc s hsB).2) (fun s hsB hwt => if_pos ⟨hsB, hwt⟩)
  obtain ⟨s, hsD, o, ho, hno3⟩ := hlk (fun s => C s ∧ V s = V k) ⟨k, hkC, rfl⟩ (fun s hs => hCB s hs.1)
  have e : (@ite _ (B.testBit s = true ∧ wantS S l s = true) (Classical.propDecidable _) (w s) (c s)) = c s := by
    split
    · rename_i h2
      rw [← (hcl s hsD).2 h2.2, hag s h2.1 h2.2]
    · rfl
  dsimp only at ho hno3
  rw [e] at ho hno3
  exact hno3 ⟨hno2 s hsD.1 o ho, (hcl s hsD).1 o ho⟩
end M53
