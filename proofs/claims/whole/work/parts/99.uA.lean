/-! THE GUIDE (1): tight ACTS and the way to the MARKED (wip/whole/src/99.uA.src) -/
section L99A
variable {S : Sys} {V V' : Nat → Int} {D D' : Int}
/-- the ACT is as good as the STATE -/
def tig (S : Sys) (V : Nat → Int) (s a : Nat) : Bool := decide (meanS S (4 * s + a) V = 12 * V s)
/-- a MARKED STATE can be come to within r tight ACTS -/
def nt (S : Sys) (V : Nat → Int) : Nat → Nat → Bool
  | 0, s => (sM S).testBit s
  | r + 1, s => nt S V r s || anyU (fun a => tig S V s a && anyU (fun o => nt S V r (sT S (4 * s + a) o)) (sO S (4 * s + a))) (sA S s)
theorem nt_mono {r s : Nat} (h : nt S V r s = true) : nt S V (r + 1) s = true := by
  show (nt S V r s || _) = true
  rw [h]; rfl
theorem nt_le {r r' s : Nat} (hr : r ≤ r') (h : nt S V r s = true) : nt S V r' s = true := by
  obtain ⟨k, rfl⟩ : ∃ k, r' = r + k := ⟨r' - r, by omega⟩
  clear hr
  induction k with
  | zero => exact h
  | succ k ih => exact nt_mono ih
theorem nt_step {r s a o : Nat} (ha : a < sA S s) (ht : tig S V s a = true) (ho : o < sO S (4 * s + a)) (h : nt S V r (sT S (4 * s + a) o) = true) : nt S V (r + 1) s = true := by
  show (nt S V r s || _) = true
  rw [Bool.or_eq_true]
  refine Or.inr (anyU_iff.mpr ⟨a, ha, ?_⟩)
  rw [Bool.and_eq_true]
  exact ⟨ht, anyU_iff.mpr ⟨o, ho, h⟩⟩
theorem nt_inv {r s : Nat} (h : nt S V (r + 1) s = true) : nt S V r s = true ∨ ∃ a o, a < sA S s ∧ tig S V s a = true ∧ o < sO S (4 * s + a) ∧ nt S V r (sT S (4 * s + a) o) = true := by
  have h : (nt S V r s || anyU (fun a => tig S V s a && anyU (fun o => nt S V r (sT S (4 * s + a) o)) (sO S (4 * s + a))) (sA S s)) = true := h
  rw [Bool.or_eq_true] at h
  rcases h with h | h
  · exact Or.inl h
  · obtain ⟨a, ha, h2⟩ := anyU_iff.mp h
    rw [Bool.and_eq_true] at h2
    obtain ⟨o, ho, h3⟩ := anyU_iff.mp h2.2
    exact Or.inr ⟨a, o, ha, h2.1, ho, h3⟩
/-- the fewest tight ACTS -/
def dst (S : Sys) (V : Nat → Int) (s k : Nat) : Prop := nt S V k s = true ∧ ∀ j, j < k → nt S V j s = false
theorem dst_uniq {s k k' : Nat} (h : dst S V s k) (h' : dst S V s k') : k = k' := by
  rcases Nat.lt_trichotomy k k' with q | q | q
  · have := h'.2 k q; rw [h.1] at this; cases this
  · exact q
  · have := h.2 k' q; rw [h'.1] at this; cases this
theorem dst_ex {s : Nat} : ∀ r, nt S V r s = true → ∃ k, k ≤ r ∧ dst S V s k := by
  intro r
  induction r with
  | zero => intro h; exact ⟨0, Nat.le_refl _, h, fun j hj => by omega⟩
  | succ r ih =>
    intro h
    cases h2 : nt S V r s with
    | true => obtain ⟨k, hk, q⟩ := ih h2; exact ⟨k, by omega, q⟩
    | false => exact ⟨r + 1, Nat.le_refl _, h, fun j hj => by
        cases h3 : nt S V j s with
        | false => rfl
        | true => rw [nt_le (show j ≤ r by omega) h3] at h2; cases h2⟩
theorem isA_s {s a : Nat} (hw : wf S) (hs : s < sN S) (ha : a < sA S s) : isA S (4 * s + a) := isA_mk hs ha (by have := wf_a hw hs; omega)
theorem dst_pred {s k : Nat} (hw : wf S) (hs : s < sN S) (h : dst S V s (k + 1)) : ∃ a o, a < sA S s ∧ tig S V s a = true ∧ o < sO S (4 * s + a) ∧ sT S (4 * s + a) o < sN S ∧ dst S V (sT S (4 * s + a) o) k := by
  rcases nt_inv h.1 with q | ⟨a, o, ha, ht, ho, q⟩
  · have := h.2 k (by omega); rw [q] at this; cases this
  · refine ⟨a, o, ha, ht, ho, wf_t hw (isA_s hw hs ha) ho, q, fun j hj => ?_⟩
    cases h3 : nt S V j (sT S (4 * s + a) o) with
    | false => rfl
    | true => have := h.2 (j + 1) (by omega); rw [nt_step ha ht ho h3] at this; cases this
theorem pigeon : ∀ (n : Nat) (f : Nat → Nat) (k : Nat), (∀ i, i ≤ k → f i < n) → (∀ i j, i ≤ k → j ≤ k → f i = f j → i = j) → k < n := by
  intro n
  induction n with
  | zero => intro f k h _; exact absurd (h 0 (Nat.zero_le _)) (Nat.not_lt_zero _)
  | succ n ih =>
    intro f k h1 h2
    cases k with
    | zero => omega
    | succ k =>
      have := ih (fun i => if f i = n then f (k + 1) else f i) k (fun i hi => ?_) (fun i j hi hj e => ?_)
      · omega
      · show (if f i = n then f (k + 1) else f i) < n
        have a1 := h1 i (by omega)
        have a2 := h1 (k + 1) (by omega)
        split
        · rename_i e
          have : f (k + 1) ≠ n := fun z => by have := h2 i (k + 1) (by omega) (by omega) (by rw [e, z]); omega
          omega
        · omega
      · have e : (if f i = n then f (k + 1) else f i) = (if f j = n then f (k + 1) else f j) := e
        split at e <;> split at e
        · exact h2 i j (by omega) (by omega) (by omega)
        · have := h2 (k + 1) j (by omega) (by omega) e; omega
        · have := h2 i (k + 1) (by omega) (by omega) e; omega
        · exact h2 i j (by omega) (by omega) e
theorem dst_all {s : Nat} (hw : wf S) : ∀ k, ∀ s, s < sN S → dst S V s k → ∀ j, j ≤ k → ∃ t, t < sN S ∧ dst S V t j := by
  intro k
  induction k with
  | zero => intro s hs h j hj; exact ⟨s, hs, by rw [show j = 0 by omega]; exact h⟩
  | succ k ih =>
    intro s hs h j hj
    by_cases e : j = k + 1
    · exact ⟨s, hs, by rw [e]; exact h⟩
    · obtain ⟨a, o, _, _, _, ht, q⟩ := dst_pred hw hs h
      exact ih _ ht q j (by omega)
theorem dst_n {s k : Nat} (hw : wf S) (hs : s < sN S) (h : dst S V s k) : k < sN S := by
  have h2 := dst_all (s := s) hw k s hs h
  refine pigeon (sN S) (fun j => if hj : j ≤ k then Classical.choose (h2 j hj) else 0) k (fun i hi => ?_) (fun i j hi hj e => ?_)
  · show (if hj : i ≤ k then Classical.choose (h2 i hj) else 0) < _
    rw [dif_pos hi]
    exact (Classical.choose_spec (h2 i hi)).1
  · have e : (if hj : i ≤ k then Classical.choose (h2 i hj) else 0) = (if hj : j ≤ k then Classical.choose (h2 j hj) else 0) := e
    rw [dif_pos hi, dif_pos hj] at e
    have a1 := (Classical.choose_spec (h2 i hi)).2
    have a2 := (Classical.choose_spec (h2 j hj)).2
    rw [← e] at a2
    exact dst_uniq a1 a2
theorem nt_10 {s r : Nat} (hw : wf S) (hs : s < sN S) (h : nt S V r s = true) : nt S V 9 s = true := by
  obtain ⟨k, _, hk⟩ := dst_ex r h
  have := dst_n hw hs hk
  have := wf_n hw
  exact nt_le (by omega) hk.1
theorem fullB_t {n i : Nat} (h : i < n) : (fullB n).testBit i = true := by rw [fullB_bit, decide_eq_true h]
theorem mean_pos {x o : Nat} (hw : wf S) (hx : isA S x) (hV : ∀ s, s < sN S → 0 ≤ V s) (ho : o < sO S x) (hp : 0 < V (sT S x o)) : 0 < meanS S x V := by
  have h0 : sumI (fun _ => (0 : Int)) (sO S x) = 0 := sumI_zero (fun _ _ => rfl)
  have h1 : sumI (fun _ => (0 : Int)) (sO S x) < sumI (fun o => (sP S x o : Int) * V (sT S x o)) (sO S x) := by
    refine sumI_lt (fun i hi => Int.mul_nonneg (Int.natCast_nonneg _) (hV _ (wf_t hw hx hi))) ho ?_
    have := (wf_p hw hx ho).1
    exact Int.mul_pos (by omega) hp
  rw [h0] at h1
  exact h1
theorem mean_max {x o : Nat} {c : Int} (hw : wf S) (hf : full S) (hx : isA S x) (hV : ∀ o, o < sO S x → V (sT S x o) ≤ c) (hm : meanS S x V = 12 * c) (ho : o < sO S x) : V (sT S x o) = c := by
  apply Classical.byContradiction
  intro hn
  have h2 : meanS S x V < meanS S x (fun _ => c) := by
    refine sumI_lt (fun o ho => Int.mul_le_mul_of_nonneg_left (hV o ho) (Int.natCast_nonneg _)) ho ?_
    have h3 := hV o ho
    have h5 := (wf_p hw hx ho).1
    exact Int.mul_lt_mul_of_pos_left (by show _ < c; omega) (by omega)
  rw [meanS_const, hf _ hx] at h2
  omega
/-- all that is known of the values -/
def vK (S : Sys) (X Y : Nat) (V : Nat → Int) (D : Int) : Prop := isOnes S false X ∧ isG S false (fullB (sN S)) Y ∧ (∃ w, saddle S false (ndiff Y X) X w V D) ∧ ∀ s, (ndiff Y X).testBit s = true → 0 < V s
section
variable {X Y : Nat}
theorem vK_nn (h : vK S X Y V D) : ∀ s, s < sN S → 0 ≤ V s := by
  obtain ⟨_, _, ⟨w, hs⟩, _⟩ := h
  exact hs.2.2.2.2.1
theorem vK_D (h : vK S X Y V D) : 0 < D := by
  obtain ⟨_, _, ⟨w, hs⟩, _⟩ := h
  exact hs.1
theorem vK_X {s : Nat} (h : vK S X Y V D) (hX : X.testBit s = true) : V s = D := by
  obtain ⟨hO, _, ⟨w, hs⟩, _⟩ := h
  exact hs.2.2.1 s (hO.1.1 s hX) hX
theorem vK_Y {s : Nat} (h : vK S X Y V D) (hs : s < sN S) : 0 < V s ↔ Y.testBit s = true := by
  obtain ⟨hO, hG, ⟨w, hsd⟩, hp⟩ := h
  have hD := hsd.1
  have hb : (ndiff Y X).testBit s = (Y.testBit s && !X.testBit s) := ndiff_bit _ _ _
  have hXY : X.testBit s = true → Y.testBit s = true := fun z => isG_mono (fun t ht => by
    have := hO.1.1 t ht
    exact fullB_t this) hO.1 hG s z
  cases hX : X.testBit s with
  | true => rw [hsd.2.2.1 s hs hX, hXY hX]; simp [hD]
  | false =>
    cases hY : Y.testBit s with
    | true => exact ⟨fun _ => rfl, fun _ => hp s (by rw [hb, hX, hY]; rfl)⟩
    | false => rw [hsd.2.2.2.1 s hs hX (by rw [hb, hY]; rfl)]; simp
theorem nt_pos {s : Nat} (hw : wf S) (h : vK S X Y V D) : ∀ r s, s < sN S → nt S V r s = true → 0 < V s := by
  intro r
  induction r with
  | zero =>
    intro s hs hn
    rw [vK_X h (h.1.1.2.1 s hn)]
    exact vK_D h
  | succ r ih =>
    intro s hs hn
    rcases nt_inv hn with q | ⟨a, o, ha, ht, ho, q⟩
    · exact ih s hs q
    · have hx := isA_s hw hs ha
      have := mean_pos hw hx (vK_nn h) ho (ih _ (wf_t hw hx ho) q)
      have := of_decide_eq_true ht
      omega
theorem allIn_X {x s : Nat} (hw : wf S) (hf : full S) (hx : isA S x) (h : vK S X Y V D) (ha : allInS S x X = true) : meanS S x V = 12 * D := by
  have h2 : meanS S x V = meanS S x (fun _ => D) := meanS_congr (fun o ho => vK_X h (allU_iff.mp ha o ho))
  rw [h2, meanS_const, hf _ hx]; omega
/-- every STATE that isn't lost has a way -/
theorem nt_all (hw : wf S) (hf : full S) (h : vK S X Y V D) {s0 : Nat} (hs0 : s0 < sN S) (hp : 0 < V s0) : ∃ k, nt S V k s0 = true := by
  apply Classical.byContradiction
  intro hno
  have hnn := vK_nn h
  haveI inst : ∀ s, Decidable (∃ r, nt S V r s = true) := fun s => Classical.propDecidable _
  obtain ⟨k, hk, hmax⟩ := argmax (fun s => if (∃ r, nt S V r s = true) then 0 else V s) (sN S) (by omega)
  have h0 := hmax s0 hs0
  have h0 : (if (∃ r, nt S V r s0 = true) then 0 else V s0) ≤ (if (∃ r, nt S V r k = true) then 0 else V k) := h0
  rw [if_neg hno] at h0
  have hkn : ¬ ∃ r, nt S V r k = true := fun z => by rw [if_pos z] at h0; omega
  rw [if_neg hkn] at h0
  have hmx : ∀ t, t < sN S → ¬ (∃ r, nt S V r t = true) → V t ≤ V k := fun t ht hn => by
    have h2 := hmax t ht
    have h2 : (if (∃ r, nt S V r t = true) then 0 else V t) ≤ (if (∃ r, nt S V r k = true) then 0 else V k) := h2
    rw [if_neg hn, if_neg hkn] at h2; exact h2
  -- M is closed under tight ACTS
  have cl : ∀ s a o, s < sN S → (¬ ∃ r, nt S V r s = true) → V s = V k → a < sA S s → tig S V s a = true → o < sO S (4 * s + a) → (¬ ∃ r, nt S V r (sT S (4 * s + a) o) = true) ∧ V (sT S (4 * s + a) o) = V k := by
    intro s a o hs hn hv ha ht ho
    have hx := isA_s hw hs ha
    have hout : ∀ o, o < sO S (4 * s + a) → ¬ ∃ r, nt S V r (sT S (4 * s + a) o) = true := fun o ho ⟨r, hr⟩ => hn ⟨r + 1, nt_step ha ht ho hr⟩
    refine ⟨hout o ho, mean_max hw hf hx (fun o ho => hmx _ (wf_t hw hx ho) (hout o ho)) ?_ ho⟩
    rw [of_decide_eq_true ht, hv]
  -- one of M is sure
  have hu : ∃ u, u < sN S ∧ (¬ ∃ r, nt S V r u = true) ∧ V u = V k ∧ X.testBit u = true := by
    obtain ⟨hO, hG, ⟨w, hsd⟩, hpB⟩ := h
    obtain ⟨hBn, hd, hBf⟩ := open_facts hO hG
    have inX : ∀ u, u < sN S → V u = V k → (ndiff Y X).testBit u = false → X.testBit u = true := fun u hu hv hB => by
      cases hX : X.testBit u with
      | true => rfl
      | false => have := hsd.2.2.2.1 u hu hX hB; omega
    by_cases hC : ∃ s, (ndiff Y X).testBit s = true ∧ (¬ ∃ r, nt S V r s = true) ∧ V s = V k
    · obtain ⟨s, q, o, ho, hq⟩ := hsd.2.2.2.2.2.2.2 w hsd.2.1 (fun _ _ _ => rfl) (fun s => (ndiff Y X).testBit s = true ∧ (¬ ∃ r, nt S V r s = true) ∧ V s = V k) hC (fun s z => z.1)
      have hs := hBn s q.1
      have hx := pol_a hw hsd.2.1 q.1
      have hc := cl s (w s) o hs q.2.1 q.2.2 (hsd.2.1 s q.1).2 (decide_eq_true (hsd.2.2.2.2.2.1 s q.1).symm) ho
      refine ⟨_, wf_t hw hx ho, hc.1, hc.2, inX _ (wf_t hw hx ho) hc.2 ?_⟩
      cases hB : (ndiff Y X).testBit (sT S (4 * s + w s) o) with
      | false => rfl
      | true => exact absurd ⟨hB, hc.1, hc.2⟩ hq
    · refine ⟨k, hk, hkn, rfl, inX k hk rfl ?_⟩
      cases hB : (ndiff Y X).testBit k with
      | false => rfl
      | true => exact absurd ⟨k, hB, hkn, rfl⟩ hC
  obtain ⟨u, hu1, hu2, hu3, hu4⟩ := hu
  obtain ⟨z, hz⟩ := bits_ex (fun s => X.testBit s = true ∧ ((∃ r, nt S V r s = true) ∨ V s ≠ V k)) (sN S)
  have hXG := h.1.1
  have hsub := hXG.2.2.2 z (fun t ht => (hz t).mpr ⟨hXG.1 t (hXG.2.1 t ht), hXG.2.1 t ht, Or.inl ⟨0, ht⟩⟩) (fun t ht q => ?_)
  · rcases ((hz u).mp (hsub u hu4)).2.2 with q | q
    · exact hu2 q
    · exact q hu3
  · have htX : X.testBit t = true := hXG.2.2.1 t ht (leadS_mono (bsub_rfl _) (fun i w => ((hz i).mp w).2.1) q)
    refine (hz t).mpr ⟨ht, htX, ?_⟩
    apply Classical.byContradiction
    intro hnn2
    have hM1 : ¬ ∃ r, nt S V r t = true := fun z => hnn2 (Or.inl z)
    have hM2 : V t = V k := Classical.byContradiction (fun z => hnn2 (Or.inr z))
    have one : ∀ a, a < sA S t → leadA S X z (4 * t + a) = true → False := by
      intro a ha hl
      unfold leadA at hl
      rw [Bool.and_eq_true] at hl
      have hx := isA_s hw ht ha
      have hti : tig S V t a = true := decide_eq_true (by rw [allIn_X (s := t) hw hf hx h hl.1, vK_X h htX])
      obtain ⟨o, ho, hq⟩ := anyU_iff.mp hl.2
      have hc := cl t a o ht hM1 hM2 ha hti ho
      rcases ((hz _).mp hq).2.2 with q | q
      · exact hc.1 q
      · exact q hc.2
    unfold leadS at q
    split at q
    · obtain ⟨a, ha, hl⟩ := anyU_iff.mp q
      exact one a ha hl
    · rw [Bool.and_eq_true] at q
      have ha := of_decide_eq_true q.1
      exact one 0 ha (allU_iff.mp q.2 0 ha)
/-- a STATE with ACTS has a tight one -/
theorem tig_ex (hw : wf S) (hf : full S) (h : vK S X Y V D) {s : Nat} (hs : s < sN S) (hm : (sM S).testBit s = false) (hA : 0 < sA S s) : ∃ a, a < sA S s ∧ tig S V s a = true := by
  have hb : (ndiff Y X).testBit s = (Y.testBit s && !X.testBit s) := ndiff_bit _ _ _
  cases hX : X.testBit s with
  | true =>
    have hXG := h.1.1
    obtain ⟨z, hz⟩ := bits_ex (fun t => X.testBit t = true ∧ ((sM S).testBit t = true ∨ leadS S false X X t = true)) (sN S)
    have hsub := hXG.2.2.2 z (fun t ht => (hz t).mpr ⟨hXG.1 t (hXG.2.1 t ht), hXG.2.1 t ht, Or.inl ht⟩) (fun t ht q => by
      have q2 := leadS_mono (bsub_rfl _) (fun i w => ((hz i).mp w).2.1) q
      exact (hz t).mpr ⟨ht, hXG.2.2.1 t ht q2, Or.inr q2⟩)
    rcases ((hz s).mp (hsub s hX)).2.2 with q | q
    · rw [hm] at q; cases q
    · have one : ∀ a, a < sA S s → leadA S X X (4 * s + a) = true → ∃ a, a < sA S s ∧ tig S V s a = true := fun a ha hl => by
        unfold leadA at hl
        rw [Bool.and_eq_true] at hl
        exact ⟨a, ha, decide_eq_true (by rw [allIn_X (s := s) hw hf (isA_s hw hs ha) h hl.1, vK_X h hX])⟩
      unfold leadS at q
      split at q
      · obtain ⟨a, ha, hl⟩ := anyU_iff.mp q
        exact one a ha hl
      · rw [Bool.and_eq_true] at q
        exact one 0 hA (allU_iff.mp q.2 0 hA)
  | false =>
    cases hY : Y.testBit s with
    | true =>
      obtain ⟨_, _, ⟨w, hsd⟩, _⟩ := h
      have hB : (ndiff Y X).testBit s = true := by rw [hb, hX, hY]; rfl
      exact ⟨w s, (hsd.2.1 s hB).2, decide_eq_true (hsd.2.2.2.2.2.1 s hB).symm⟩
    | false =>
      have hV0 : V s = 0 := by
        have h1 := vK_nn h s hs
        have h2 := vK_Y h hs
        have h3 : ¬ 0 < V s := fun z => by rw [h2.mp z] at hY; cases hY
        omega
      have zero : ∀ a, a < sA S s → someInS S (4 * s + a) Y = false → ∃ a, a < sA S s ∧ tig S V s a = true := fun a ha hl => by
        refine ⟨a, ha, decide_eq_true ?_⟩
        have hx := isA_s hw hs ha
        rw [hV0, meanS_zero (fun o ho => ?_), Int.mul_zero]
        have h1 := vK_nn h _ (wf_t hw hx ho)
        have h3 : ¬ 0 < V (sT S (4 * s + a) o) := fun z => by
          have h2 := (vK_Y h (wf_t hw hx ho)).mp z
          have h4 : someInS S (4 * s + a) Y = true := anyU_iff.mpr ⟨o, ho, h2⟩
          rw [h4] at hl; cases hl
        omega
      have al : ∀ a, a < sA S s → allInS S (4 * s + a) (fullB (sN S)) = true := fun a ha => allU_iff.mpr (fun o ho => fullB_t (wf_t hw (isA_s hw hs ha) ho))
      have hld : leadS S false (fullB (sN S)) Y s = false := by
        cases hl : leadS S false (fullB (sN S)) Y s with
        | false => rfl
        | true => rw [h.2.1.2.2.1 s hs hl] at hY; cases hY
      unfold leadS at hld
      split at hld
      · refine zero 0 hA ?_
        cases hso : someInS S (4 * s + 0) Y with
        | false => rfl
        | true =>
          have h5 : anyU (fun a => leadA S (fullB (sN S)) Y (4 * s + a)) (sA S s) = true := anyU_iff.mpr ⟨0, hA, by unfold leadA; rw [al 0 hA, hso]; rfl⟩
          rw [h5] at hld; cases hld
      · rw [decide_eq_true hA, Bool.true_and] at hld
        apply Classical.byContradiction
        intro hno
        have h5 : allU (fun a => leadA S (fullB (sN S)) Y (4 * s + a)) (sA S s) = true := allU_iff.mpr (fun a ha => by
          unfold leadA
          rw [al a ha]
          cases hso : someInS S (4 * s + a) Y with
          | true => rfl
          | false => exact absurd (zero a ha hso) hno)
        rw [h5] at hld; cases hld
/-- two saddles have one value -/
theorem vK_le (hw : wf S) (hf : full S) (h : vK S X Y V D) (h' : vK S X Y V' D') : ∀ s, s < sN S → V' s * D ≤ V s * D' := by
  obtain ⟨hO, hG, ⟨w, hsd⟩, _⟩ := h
  obtain ⟨_, _, ⟨w', hsd'⟩, _⟩ := h'
  obtain ⟨hBn, hd, hBf⟩ := open_facts hO hG
  have hcp : pol S (ndiff Y X) (fun s => if wantS S false s = true then w' s else w s) := fun s hs => ⟨hBn s hs, by
    show (if wantS S false s = true then w' s else w s) < _
    split
    · exact (hsd'.2.1 s hs).2
    · exact (hsd.2.1 s hs).2⟩
  obtain ⟨W, E, hch⟩ := chance_ex hw hf hO.1.1 hd hcp
  have hE := hch.1
  have a1 := sad_up hw hf hd hsd hcp hch (fun s _ hwt => by show (if wantS S false s = true then w' s else w s) = w s; rw [if_neg (by rw [hwt]; simp)])
  have a2 := sad_dn hw hf hd hsd' hcp hch (fun s _ hwt => by show (if wantS S false s = true then w' s else w s) = w' s; rw [if_pos hwt])
  intro s hs
  have b1 := a1 s hs
  have b2 := a2 s hs
  have hD := hsd.1
  have hD' := hsd'.1
  -- V' D E <= W D' D <= V E D'
  have c1 : V' s * E * D ≤ W s * D' * D := Int.mul_le_mul_of_nonneg_right b2 (Int.le_of_lt hD)
  have c2 : W s * D * D' ≤ V s * E * D' := Int.mul_le_mul_of_nonneg_right b1 (Int.le_of_lt hD')
  have c3 : V' s * D * E ≤ V s * D' * E := by
    have e1 : V' s * D * E = V' s * E * D := by rw [Int.mul_assoc, Int.mul_comm D E, ← Int.mul_assoc]
    have e2 : W s * D' * D = W s * D * D' := by rw [Int.mul_assoc, Int.mul_comm D' D, ← Int.mul_assoc]
    have e3 : V s * D' * E = V s * E * D' := by rw [Int.mul_assoc, Int.mul_comm D' E, ← Int.mul_assoc]
    rw [e1, e3]; rw [e2] at c1; exact Int.le_trans c1 c2
  exact Int.le_of_mul_le_mul_right c3 hE
theorem vK_eq (hw : wf S) (hf : full S) (h : vK S X Y V D) (h' : vK S X Y V' D') {s : Nat} (hs : s < sN S) : V' s * D = V s * D' := Int.le_antisymm (vK_le hw hf h h' s hs) (by have := vK_le hw hf h' h s hs; exact this)
theorem tig_eq (hw : wf S) (hf : full S) (h : vK S X Y V D) (h' : vK S X Y V' D') {s a : Nat} (hs : s < sN S) (ha : a < sA S s) : tig S V s a = tig S V' s a := by
  have hx := isA_s hw hs ha
  have e1 : D * meanS S (4 * s + a) V' = D' * meanS S (4 * s + a) V := by
    rw [← meanS_mul, ← meanS_mul]
    exact meanS_congr (fun o ho => by have := vK_eq hw hf h h' (wf_t hw hx ho); rw [Int.mul_comm D, Int.mul_comm D']; exact this)
  have e2 : D * V' s = D' * V s := by have := vK_eq hw hf h h' hs; rw [Int.mul_comm D, Int.mul_comm D']; exact this
  have hD := vK_D h
  have hD' := vK_D h'
  unfold tig
  by_cases q : meanS S (4 * s + a) V = 12 * V s
  · have : meanS S (4 * s + a) V' = 12 * V' s := by
      refine Int.eq_of_mul_eq_mul_left (show D ≠ 0 by omega) ?_
      rw [e1, q, show D * (12 * V' s) = 12 * (D * V' s) by rw [← Int.mul_assoc, Int.mul_comm D 12, Int.mul_assoc], e2, ← Int.mul_assoc, Int.mul_comm D' 12, Int.mul_assoc]
    rw [decide_eq_true q, decide_eq_true this]
  · have : ¬ meanS S (4 * s + a) V' = 12 * V' s := fun z => q (by
      refine Int.eq_of_mul_eq_mul_left (show D' ≠ 0 by omega) ?_
      rw [← e1, z, show D' * (12 * V s) = 12 * (D' * V s) by rw [← Int.mul_assoc, Int.mul_comm D' 12, Int.mul_assoc], ← e2, ← Int.mul_assoc, Int.mul_comm D 12, Int.mul_assoc])
    rw [decide_eq_false q, decide_eq_false this]
theorem nt_eq (hw : wf S) (hf : full S) (h : vK S X Y V D) (h' : vK S X Y V' D') : ∀ r s, s < sN S → nt S V r s = nt S V' r s := by
  have one : ∀ {V V' : Nat → Int}, (∀ s a, s < sN S → a < sA S s → tig S V s a = true → tig S V' s a = true) → ∀ r s, s < sN S → nt S V r s = true → nt S V' r s = true := by
    intro V V' ht r
    induction r with
    | zero => intro s _ q; exact q
    | succ r ih =>
      intro s hs q
      rcases nt_inv q with q | ⟨a, o, ha, q1, ho, q2⟩
      · exact nt_mono (ih s hs q)
      · exact nt_step ha (ht s a hs ha q1) ho (ih _ (wf_t hw (isA_s hw hs ha) ho) q2)
  intro r s hs
  have a1 := one (V := V) (V' := V') (fun s a hs ha q => by rw [← tig_eq hw hf h h' hs ha]; exact q) r s hs
  have a2 := one (V := V') (V' := V) (fun s a hs ha q => by rw [tig_eq hw hf h h' hs ha]; exact q) r s hs
  cases q1 : nt S V r s with
  | true => exact (a1 q1).symm
  | false =>
    cases q2 : nt S V' r s with
    | false => rfl
    | true => rw [a2 q2] at q1; cases q1
theorem dst_eq (hw : wf S) (hf : full S) (h : vK S X Y V D) (h' : vK S X Y V' D') {s k : Nat} (hs : s < sN S) : dst S V s k ↔ dst S V' s k := by
  unfold dst
  rw [nt_eq hw hf h h' k s hs]
  exact ⟨fun z => ⟨z.1, fun j hj => by rw [← nt_eq hw hf h h' j s hs]; exact z.2 j hj⟩, fun z => ⟨z.1, fun j hj => by rw [nt_eq hw hf h h' j s hs]; exact z.2 j hj⟩⟩
end
end L99A
