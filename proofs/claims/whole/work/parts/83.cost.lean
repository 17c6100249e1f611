/-! COSTS (wip/whole/src/83.cost.src) -/
section M83
variable {S : Sys}
def cA (S : Sys) (B : Nat) (w : Nat → Nat) : Nat → Nat → Int := mA (cntB B) (rowP S B w) (fun i => 12 * (sC S (4 * qOf B i + w (qOf B i)) : Int))
def cW (S : Sys) (B : Nat) (w : Nat → Nat) : Nat → Int := fun s => if B.testBit s = true then cr (cA S B w) (cntB B) (cntU B s) (cntB B) else 0
def cD (S : Sys) (B : Nat) (w : Nat → Nat) : Int := det (cntB B) (cA S B w)
theorem cW_out {B : Nat} {w : Nat → Nat} {s : Nat} (h : B.testBit s = false) : cW S B w s = 0 := if_neg (by rw [h]; simp)
theorem csol {B : Nat} {w : Nat → Nat} (hw : wf S) (hf : full S) (hp : pol S B w) (hL : lkS S B w) : 0 < cD S B w ∧ (∀ s, B.testBit s = true → 12 * cW S B w s = meanS S (4 * s + w s) (cW S B w) + cD S B w * (12 * (sC S (4 * s + w s) : Int))) ∧ ∀ s, s < sN S → 0 ≤ cW S B w s := by
  have h10 : ∀ s, B.testBit s = true → s < 10 := fun s hs => Nat.lt_of_lt_of_le (hp s hs).1 (wf_n hw)
  have hlk := lk_leak hw hf hp hL
  have hD : 0 < cD S B w := mA_pos hlk _ (Nat.le_refl _)
  have hE : ∀ s, B.testBit s = true → 12 * cW S B w s = meanS S (4 * s + w s) (cW S B w) + cD S B w * (12 * (sC S (4 * s + w s) : Int)) := by
    intro s hs
    have hi := cntU_B hs (h10 s hs)
    have h1 := mA_sol (b := fun i => 12 * (sC S (4 * qOf B i + w (qOf B i)) : Int)) hlk hi
    have hq := qOf_cnt hs (h10 s hs)
    have e1 : cW S B w s = cr (cA S B w) (cntB B) (cntU B s) (cntB B) := if_pos hs
    have e2 : sumI (fun j => rowP S B w (cntU B s) j * cr (cA S B w) (cntB B) j (cntB B)) (cntB B) = meanS S (4 * s + w s) (fun t => if B.testBit t = true then cW S B w t else 0) := by
      rw [← rowsum h10]
      refine sumI_congr (fun j hj => ?_)
      have hqj := qOf_in hj
      have : cW S B w (qOf B j) = cr (cA S B w) (cntB B) j (cntB B) := by
        unfold cW
        rw [if_pos hqj.1, hqj.2.2]
      rw [this]
      unfold rowP
      rw [hq]
    have e3 : meanS S (4 * s + w s) (fun t => if B.testBit t = true then cW S B w t else 0) = meanS S (4 * s + w s) (cW S B w) := meanS_congr (fun o _ => by
      split
      · rfl
      · rename_i h; exact (cW_out (by simpa using h)).symm)
    rw [e1]
    rw [show mA (cntB B) (rowP S B w) (fun i => 12 * (sC S (4 * qOf B i + w (qOf B i)) : Int)) = cA S B w from rfl, e2, e3, hq] at h1
    exact h1
  refine ⟨hD, hE, ?_⟩
  have := maxS (B := B) (c := w) (y := fun s => 0 * cW S B w s - 1 * cW S B w s) hw hf hp hL (fun s hs hB => by rw [cW_out hB]; omega) (fun s hs _ => by
    rw [meanS_lin]
    have h1 := hE s hs
    have h2 : 0 ≤ cD S B w * (12 * (sC S (4 * s + w s) : Int)) := Int.mul_nonneg (Int.le_of_lt hD) (by omega)
    omega)
  intro s hs
  have := this s hs
  omega
def cgood (S : Sys) (B X : Nat) (w : Nat → Nat) : Prop := pol S B w ∧ lkS S B w ∧ ∀ s, B.testBit s = true → allInS S (4 * s + w s) X = true
def cple (S : Sys) (B : Nat) (w1 w2 : Nat → Nat) : Prop := ∀ s, s < sN S → cW S B w1 s * cD S B w2 ≤ cW S B w2 s * cD S B w1
/-- a change that is cheaper at once keeps the ways sure to end -/
theorem c_next {B X : Nat} {w w' : Nat → Nat} (hw : wf S) (hf : full S) (hg : cgood S B X w) (hp' : pol S B w') (hst : ∀ s, B.testBit s = true → allInS S (4 * s + w' s) X = true) (h : ∀ s, B.testBit s = true → w' s = w s ∨ meanS S (4 * s + w' s) (cW S B w) + cD S B w * (12 * (sC S (4 * s + w' s) : Int)) < 12 * cW S B w s) : cgood S B X w' := by
  obtain ⟨hp, hL, _⟩ := hg
  obtain ⟨hD, hE, hn⟩ := csol hw hf hp hL
  refine ⟨hp', fun C hC hCB => ?_, hst⟩
  apply Classical.byContradiction
  intro hno
  have hno2 : ∀ s, C s → ∀ o, o < sO S (4 * s + w' s) → C (sT S (4 * s + w' s) o) := fun s hs o ho => Classical.byContradiction (fun z => hno ⟨s, hs, o, ho, z⟩)
  obtain ⟨s0, hs0⟩ := hC
  have hnn : ∀ s, C s → s < sN S := fun s hs => (hp s (hCB s hs)).1
  -- the least of W on C
  have hdec : ∃ f : Nat → Int, (∀ s, C s → f s = - cW S B w s) ∧ ∀ s, ¬ C s → f s = - cW S B w s0 - 1 := ⟨fun s => @ite _ (C s) (Classical.propDecidable _) (- cW S B w s) (- cW S B w s0 - 1), fun s hs => if_pos hs, fun s hs => if_neg hs⟩
  obtain ⟨f, f1, f2⟩ := hdec
  obtain ⟨k, hk, hmax⟩ := argmax f (sN S) (by have := hnn s0 hs0; omega)
  have hkC : C k := Classical.byContradiction (fun z => by
    have h2 := hmax s0 (hnn s0 hs0)
    rw [f2 k z, f1 s0 hs0] at h2
    omega)
  have hmn : ∀ t, C t → cW S B w k ≤ cW S B w t := fun t ht => by have := hmax t (hnn t ht); rw [f1 t ht, f1 k hkC] at this; omega
  have hcl : ∀ s, (C s ∧ cW S B w s = cW S B w k) → w' s = w s ∧ ∀ o, o < sO S (4 * s + w' s) → cW S B w (sT S (4 * s + w' s) o) = cW S B w k := by
    intro s hs
    have hsB := hCB s hs.1
    have hx := pol_a hw hp' hsB
    have hle : ∀ o, o < sO S (4 * s + w' s) → cW S B w k ≤ cW S B w (sT S (4 * s + w' s) o) := fun o ho => hmn _ (hno2 s hs.1 o ho)
    have hm : 12 * cW S B w k ≤ meanS S (4 * s + w' s) (cW S B w) := by
      have := meanS_le (S := S) (x := 4 * s + w' s) (u := fun _ => cW S B w k) (v := cW S B w) hle
      rw [meanS_const, hf _ hx] at this
      omega
    have hc0 : 0 ≤ cD S B w * (12 * (sC S (4 * s + w' s) : Int)) := Int.mul_nonneg (Int.le_of_lt hD) (by omega)
    have h2 := hs.2
    rcases h s hsB with q | q
    · refine ⟨q, fun o ho => ?_⟩
      have h3 := hE s hsB
      rw [← q] at h3
      apply Classical.byContradiction
      intro hne
      have hlt : meanS S (4 * s + w' s) (fun _ => cW S B w k) < meanS S (4 * s + w' s) (cW S B w) := by
        refine sumI_lt (fun o ho => Int.mul_le_mul_of_nonneg_left (hle o ho) (Int.natCast_nonneg _)) ho ?_
        have h4 := hle o ho
        have h5 := (wf_p hw hx ho).1
        exact Int.mul_lt_mul_of_pos_left (by show cW S B w k < _; omega) (by omega)
      rw [meanS_const, hf _ hx] at hlt
      omega
    · omega
  obtain ⟨s, hsD, o, ho, hn3⟩ := hL (fun s => C s ∧ cW S B w s = cW S B w k) ⟨k, hkC, rfl⟩ (fun s hs => hCB s hs.1)
  obtain ⟨e1, e2⟩ := hcl s hsD
  rw [← e1] at ho hn3
  exact hn3 ⟨hno2 s hsD.1 o ho, e2 o ho⟩
theorem c_le {B X : Nat} {w w' : Nat → Nat} (hw : wf S) (hf : full S) (hg : cgood S B X w) (hg' : cgood S B X w') (h : ∀ s, B.testBit s = true → meanS S (4 * s + w' s) (cW S B w) + cD S B w * (12 * (sC S (4 * s + w' s) : Int)) ≤ 12 * cW S B w s) : cple S B w' w := by
  obtain ⟨hD, hE, hn⟩ := csol hw hf hg.1 hg.2.1
  obtain ⟨hD', hE', hn'⟩ := csol hw hf hg'.1 hg'.2.1
  have key := maxS (B := B) (c := w') (y := fun s => cD S B w * cW S B w' s - cD S B w' * cW S B w s) hw hf hg'.1 hg'.2.1 (fun s hs hB => by rw [cW_out hB, cW_out hB]; omega) (fun s hs _ => by
    rw [meanS_lin]
    have h1 := hE' s hs
    have h2 := Int.mul_le_mul_of_nonneg_left (h s hs) (Int.le_of_lt hD')
    rw [Int.mul_add] at h2
    have e1 : 12 * (cD S B w * cW S B w' s - cD S B w' * cW S B w s) = cD S B w * (12 * cW S B w' s) - cD S B w' * (12 * cW S B w s) := by grind
    rw [e1, h1, Int.mul_add]
    have e2 : cD S B w * (cD S B w' * (12 * (sC S (4 * s + w' s) : Int))) = cD S B w' * (cD S B w * (12 * (sC S (4 * s + w' s) : Int))) := by grind
    rw [e2]
    omega)
  intro s hs
  have := key s hs
  rw [Int.mul_comm (cW S B w' s), Int.mul_comm (cW S B w s)]
  omega
def crnk (S : Sys) (B X : Nat) (w w' : Nat → Nat) : Prop := cgood S B X w' ∧ cple S B w' w ∧ ¬ cple S B w w'
theorem crnk_step {B X : Nat} {w w' : Nat → Nat} (hw : wf S) (hf : full S) (hg : cgood S B X w) (hp' : pol S B w') (hst : ∀ s, B.testBit s = true → allInS S (4 * s + w' s) X = true) (h : ∀ s, B.testBit s = true → w' s = w s ∨ meanS S (4 * s + w' s) (cW S B w) + cD S B w * (12 * (sC S (4 * s + w' s) : Int)) < 12 * cW S B w s) (hex : ∃ s, B.testBit s = true ∧ meanS S (4 * s + w' s) (cW S B w) + cD S B w * (12 * (sC S (4 * s + w' s) : Int)) < 12 * cW S B w s) : crnk S B X w w' := by
  obtain ⟨hD, hE, hn⟩ := csol hw hf hg.1 hg.2.1
  have hg' := c_next hw hf hg hp' hst h
  obtain ⟨hD', hE', hn'⟩ := csol hw hf hg'.1 hg'.2.1
  have hle : cple S B w' w := c_le hw hf hg hg' (fun s hs => by
    rcases h s hs with q | q
    · rw [q, ← hE s hs]; exact Int.le_refl _
    · exact Int.le_of_lt q)
  refine ⟨hg', hle, fun hup => ?_⟩
  obtain ⟨s, hs, hlt⟩ := hex
  have hx := pol_a hw hp' hs
  have he : ∀ t, t < sN S → cD S B w' * cW S B w t = cD S B w * cW S B w' t := fun t ht => by
    have a := hup t ht
    have b := hle t ht
    rw [Int.mul_comm (cD S B w'), Int.mul_comm (cD S B w)]
    omega
  have h1 := Int.mul_lt_mul_of_pos_left hlt hD'
  have h2 : cD S B w' * meanS S (4 * s + w' s) (cW S B w) = cD S B w * meanS S (4 * s + w' s) (cW S B w') := by
    rw [← meanS_mul, ← meanS_mul]
    exact meanS_congr (fun o ho => he _ (wf_t hw hx ho))
  have h3 := he s (hp' s hs).1
  have h4 := hE' s hs
  rw [Int.mul_add, h2] at h1
  have h5 : cD S B w' * (12 * cW S B w s) = cD S B w * (12 * cW S B w' s) := by grind
  rw [h5, h4, Int.mul_add] at h1
  have h6 : cD S B w' * (cD S B w * (12 * (sC S (4 * s + w' s) : Int))) = cD S B w * (cD S B w' * (12 * (sC S (4 * s + w' s) : Int))) := by grind
  omega
theorem cple_trans {B : Nat} {a b c : Nat → Nat} (ha : 0 ≤ cD S B a) (hb : 0 < cD S B b) (hc : 0 ≤ cD S B c) (h1 : cple S B a b) (h2 : cple S B b c) : cple S B a c := fun s hs => fr_trans ha hb hc (h1 s hs) (h2 s hs)
theorem cW_congr {B : Nat} {w w' : Nat → Nat} (h : ∀ s, B.testBit s = true → w s = w' s) : cW S B w = cW S B w' ∧ cD S B w = cD S B w' := by
  have hA : ∀ r c, r < cntB B → cA S B w r c = cA S B w' r c := by
    intro r c hr
    unfold cA mA rowP
    dsimp only
    rw [h _ (qOf_in hr).1]
  constructor
  · funext s
    unfold cW
    split
    · unfold cr
      exact det_congr (fun r c hr hc => by unfold setC; split; exact hA r _ hr; exact hA r c hr)
    · rfl
  · unfold cD
    exact det_congr (fun r c hr hc => hA r c hr)
theorem cgood_congr {B X : Nat} {w w' : Nat → Nat} (h : ∀ s, B.testBit s = true → w s = w' s) (hg : cgood S B X w) : cgood S B X w' := by
  obtain ⟨h1, h2, h3⟩ := hg
  refine ⟨fun s hs => by rw [← h s hs]; exact h1 s hs, fun C hC hCB => ?_, fun s hs => by rw [← h s hs]; exact h3 s hs⟩
  obtain ⟨s, q1, o, q2, q3⟩ := h2 C hC hCB
  rw [h s (hCB s q1)] at q2 q3
  exact ⟨s, q1, o, q2, q3⟩
noncomputable def cmu (S : Sys) (B X : Nat) (w : Nat → Nat) : Nat := cntP (fun c => crnk S B X w (decP B c)) 1024
theorem cmu_lt {B X : Nat} (hw : wf S) (hf : full S) (h5 : cntB B ≤ 5) {w w' : Nat → Nat} (hg : cgood S B X w) (h : crnk S B X w w') : cmu S B X w' < cmu S B X w := by
  have h4 : ∀ j, j < cntB B → w' (qOf B j) < 4 := fun j hj => by
    have := h.1.1 _ (qOf_in hj).1
    have := wf_a hw this.1
    omega
  have hlt : encP B w' (cntB B) < 1024 := Nat.lt_of_lt_of_le (encP_lt h4) (Nat.le_trans (Nat.pow_le_pow_right (by decide) h5) (by decide))
  have hdec : ∀ s, B.testBit s = true → w' s = decP B (encP B w' (cntB B)) s := by
    intro s hs
    have hs10 : s < 10 := Nat.lt_of_lt_of_le (hg.1 s hs).1 (wf_n hw)
    unfold decP
    rw [encP_dec h4 _ (cntU_B hs hs10), qOf_cnt hs hs10]
  have D0 := (csol hw hf hg.1 hg.2.1).1
  have D1 := (csol hw hf h.1.1 h.1.2.1).1
  obtain ⟨e1, e2⟩ := cW_congr (S := S) hdec
  refine cntP_lt (i := encP B w' (cntB B)) (fun c hc hr => ?_) hlt ⟨cgood_congr hdec h.1, ?_, ?_⟩ (fun hr => ?_)
  · have D2 := (csol hw hf hr.1.1 hr.1.2.1).1
    exact ⟨hr.1, cple_trans (Int.le_of_lt D2) D1 (Int.le_of_lt D0) hr.2.1 h.2.1, fun z => h.2.2 (cple_trans (Int.le_of_lt D0) D2 (Int.le_of_lt D1) z hr.2.1)⟩
  · have := h.2.1; unfold cple at this ⊢; rw [← e1, ← e2]; exact this
  · intro z; refine h.2.2 ?_; unfold cple at z ⊢; rw [e1, e2]; exact z
  · refine hr.2.2 ?_
    unfold cple
    rw [← e1, ← e2]
    exact fun s _ => Int.le_refl _
theorem cmu_le {B X : Nat} (w : Nat → Nat) : cmu S B X w ≤ 1024 := cntP_le _ _
/-- the least costs: nothing is cheaper at once -/
def cbest (S : Sys) (B X : Nat) (w : Nat → Nat) : Prop := cgood S B X w ∧ ∀ s, B.testBit s = true → ∀ a, a < sA S s → allInS S (4 * s + a) X = true → 12 * cW S B w s ≤ meanS S (4 * s + a) (cW S B w) + cD S B w * (12 * (sC S (4 * s + a) : Int))
/-- no choices that are sure to end cost less -/
theorem cbest_le {B X x : Nat} {w c : Nat → Nat} (hw : wf S) (hf : full S) (hb : cbest S B X w) (hxB : bsub x B) (hBX : bsub B X) (hc : pol S B c) (hlk : lkS S x c) (hst : ∀ s, x.testBit s = true → ∀ o, o < sO S (4 * s + c s) → x.testBit (sT S (4 * s + c s) o) = true ∨ (X.testBit (sT S (4 * s + c s) o) = true ∧ B.testBit (sT S (4 * s + c s) o) = false)) : ∀ s, x.testBit s = true → cW S B w s * cD S x c ≤ cW S x c s * cD S B w := by
  obtain ⟨hg, hopt⟩ := hb
  obtain ⟨hD, hE, hn⟩ := csol hw hf hg.1 hg.2.1
  have hcx : pol S x c := fun s hs => hc s (hxB s hs)
  obtain ⟨hD', hE', hn'⟩ := csol hw hf hcx hlk
  have key := maxS (B := x) (c := c) (y := fun s => cD S x c * (if x.testBit s = true then cW S B w s else 0) - cD S B w * cW S x c s) hw hf hcx hlk (fun s hs hx => by rw [if_neg (by rw [hx]; simp), cW_out hx]; omega) (fun s hs _ => by
    rw [meanS_lin, if_pos hs]
    have hA : allInS S (4 * s + c s) X = true := allU_iff.mpr (fun o ho => by
      rcases hst s hs o ho with q | q
      · exact hBX _ (hxB _ q)
      · exact q.1)
    have h1 := hopt s (hxB s hs) (c s) (hc s (hxB s hs)).2 hA
    have e0 : meanS S (4 * s + c s) (fun t => if x.testBit t = true then cW S B w t else 0) = meanS S (4 * s + c s) (cW S B w) := meanS_congr (fun o ho => by
      rcases hst s hs o ho with q | q
      · rw [if_pos q]
      · rw [if_neg (fun z => by have := hxB _ z; rw [q.2] at this; cases this), cW_out q.2])
    rw [e0]
    have h2 := hE' s hs
    have h3 := Int.mul_le_mul_of_nonneg_left h1 (Int.le_of_lt hD')
    rw [Int.mul_add] at h3
    have e1 : 12 * (cD S x c * cW S B w s - cD S B w * cW S x c s) = cD S x c * (12 * cW S B w s) - cD S B w * (12 * cW S x c s) := by grind
    rw [e1, h2, Int.mul_add]
    have e2 : cD S B w * (cD S x c * (12 * (sC S (4 * s + c s) : Int))) = cD S x c * (cD S B w * (12 * (sC S (4 * s + c s) : Int))) := by grind
    rw [e2]
    omega)
  intro s hs
  have := key s (hc s (hxB s hs)).1
  rw [if_pos hs] at this
  rw [Int.mul_comm (cW S B w s), Int.mul_comm (cW S x c s)]
  omega
end M83
