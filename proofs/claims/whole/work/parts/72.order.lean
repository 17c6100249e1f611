/-! NO PAIR OF CHOICES COMES TWICE (wip/whole/src/72.order.src) -/
section M72
variable {S : Sys}
/-- under w1 no chance is above that under w2 -/
def ple (S : Sys) (B X : Nat) (w1 w2 : Nat → Nat) : Prop := ∀ s, s < sN S → solW S B X w1 s * solD S B X w2 ≤ solW S B X w2 s * solD S B X w1
def agW (S : Sys) (l : Bool) (B : Nat) (a b : Nat → Nat) : Prop := ∀ s, B.testBit s = true → wantS S l s = true → a s = b s
def good (S : Sys) (l : Bool) (B : Nat) (w : Nat → Nat) : Prop := pol S B w ∧ strong S l B w
theorem agW_rfl (l : Bool) (B : Nat) (a : Nat → Nat) : agW S l B a a := fun _ _ _ => rfl
theorem agW_symm {l : Bool} {B : Nat} {a b : Nat → Nat} (h : agW S l B a b) : agW S l B b a := fun s h1 h2 => (h s h1 h2).symm
theorem agW_trans {l : Bool} {B : Nat} {a b c : Nat → Nat} (h : agW S l B a b) (h2 : agW S l B b c) : agW S l B a c := fun s q1 q2 => (h s q1 q2).trans (h2 s q1 q2)
theorem strong_ag {l : Bool} {B : Nat} {a b : Nat → Nat} (h : strong S l B a) (h2 : agW S l B b a) : strong S l B b := fun c hc hag => h c hc (fun s q1 q2 => (hag s q1 q2).trans (h2 s q1 q2))
theorem good_lk {l : Bool} {B : Nat} {w : Nat → Nat} (h : good S l B w) : lkS S B w := h.2 w h.1 (fun _ _ _ => rfl)
def dom (S : Sys) (l : Bool) (B X : Nat) (w w' : Nat → Nat) : Prop := ∀ w2, pol S B w2 → agW S l B w2 w' → ∃ w1, pol S B w1 ∧ agW S l B w1 w ∧ ple S B X w1 w2
/-- w' comes behind w -/
def rnk (S : Sys) (l : Bool) (B X : Nat) (w w' : Nat → Nat) : Prop := good S l B w' ∧ ((dom S l B X w w' ∧ ¬ dom S l B X w' w) ∨ (agW S l B w w' ∧ ple S B X w' w ∧ ¬ ple S B X w w'))
theorem ple_rfl (B X : Nat) (w : Nat → Nat) : ple S B X w w := fun _ _ => Int.le_refl _
theorem ple_trans {B X : Nat} {a b c : Nat → Nat} (ha : 0 ≤ solD S B X a) (hb : 0 < solD S B X b) (hc : 0 ≤ solD S B X c) (h1 : ple S B X a b) (h2 : ple S B X b c) : ple S B X a c := fun s hs => fr_trans ha hb hc (h1 s hs) (h2 s hs)
variable {l : Bool} {B X : Nat}
theorem good_D (hw : wf S) (hf : full S) (hd : ∀ s, X.testBit s = true → B.testBit s = false) {w : Nat → Nat} (h : good S l B w) : 0 < solD S B X w := (sol_eq hw hf h.1 (good_lk h) hd).1
theorem dom_trans (hw : wf S) (hf : full S) (hd : ∀ s, X.testBit s = true → B.testBit s = false) {a b c : Nat → Nat} (ga : good S l B a) (gb : good S l B b) (gc : good S l B c) (h1 : dom S l B X a b) (h2 : dom S l B X b c) : dom S l B X a c := by
  intro w2 p2 q2
  obtain ⟨w1, p1, q1, r1⟩ := h2 w2 p2 q2
  obtain ⟨w0, p0, q0, r0⟩ := h1 w1 p1 q1
  exact ⟨w0, p0, q0, ple_trans (Int.le_of_lt (good_D hw hf hd ⟨p0, strong_ag ga.2 q0⟩)) (good_D hw hf hd ⟨p1, strong_ag gb.2 q1⟩) (Int.le_of_lt (good_D hw hf hd ⟨p2, strong_ag gc.2 q2⟩)) r0 r1⟩
theorem dom_l {a a' b : Nat → Nat} (h : agW S l B a a') (h1 : dom S l B X a b) : dom S l B X a' b := fun w2 p2 q2 => by
  obtain ⟨w1, p1, q1, r1⟩ := h1 w2 p2 q2
  exact ⟨w1, p1, agW_trans q1 h, r1⟩
theorem dom_r {a b b' : Nat → Nat} (h : agW S l B b b') (h1 : dom S l B X a b) : dom S l B X a b' := fun w2 p2 q2 => h1 w2 p2 (agW_trans q2 (agW_symm h))
theorem rnk_trans (hw : wf S) (hf : full S) (hd : ∀ s, X.testBit s = true → B.testBit s = false) {a b c : Nat → Nat} (ga : good S l B a) (h1 : rnk S l B X a b) (h2 : rnk S l B X b c) : rnk S l B X a c := by
  have gb := h1.1
  have gc := h2.1
  have Da := Int.le_of_lt (good_D (X := X) hw hf hd ga)
  have Db := good_D (X := X) hw hf hd gb
  have Dc := Int.le_of_lt (good_D (X := X) hw hf hd gc)
  refine ⟨gc, ?_⟩
  rcases h1.2 with ⟨a1, a2⟩ | ⟨a1, a2, a3⟩ <;> rcases h2.2 with ⟨b1, b2⟩ | ⟨b1, b2, b3⟩
  · exact Or.inl ⟨dom_trans hw hf hd ga gb gc a1 b1, fun z => b2 (dom_trans hw hf hd gc ga gb z a1)⟩
  · exact Or.inl ⟨dom_r b1 a1, fun z => a2 (dom_l (agW_symm b1) z)⟩
  · exact Or.inl ⟨dom_l (agW_symm a1) b1, fun z => b2 (dom_r a1 z)⟩
  · refine Or.inr ⟨agW_trans a1 b1, ple_trans Dc Db Da b2 a2, fun z => a3 (ple_trans Da (good_D hw hf hd gc) (Int.le_of_lt Db) z b2)⟩
theorem rnk_irr {a : Nat → Nat} : ¬ rnk S l B X a a := by
  intro h
  rcases h.2 with ⟨a1, a2⟩ | ⟨_, a2, a3⟩
  · exact a2 a1
  · exact a3 a2
/-- what is known of the chances under good choices -/
theorem sol_facts (hw : wf S) (hf : full S) (hd : ∀ s, X.testBit s = true → B.testBit s = false) {w : Nat → Nat} (h : good S l B w) : 0 < solD S B X w ∧ (∀ s, B.testBit s = true → 12 * solW S B X w s = meanS S (4 * s + w s) (solW S B X w)) ∧ (∀ s, s < sN S → X.testBit s = true → solW S B X w s = solD S B X w) ∧ (∀ s, s < sN S → X.testBit s = false → B.testBit s = false → solW S B X w s = 0) ∧ ∀ s, s < sN S → 0 ≤ solW S B X w s := by
  obtain ⟨hD, hE⟩ := sol_eq hw hf h.1 (good_lk h) hd
  have hU : ∀ s, s < sN S → X.testBit s = true → solW S B X w s = solD S B X w := fun s _ hs => by
    unfold solW solD
    rw [if_neg (by rw [hd s hs]; simp), if_pos hs]
  have h0 : ∀ s, s < sN S → X.testBit s = false → B.testBit s = false → solW S B X w s = 0 := fun s _ hg hy => by
    unfold solW
    rw [if_neg (by rw [hy]; simp), if_neg (by rw [hg]; simp)]
  refine ⟨hD, hE, hU, h0, ?_⟩
  have := maxS (B := B) (c := w) (y := fun s => 0 * solW S B X w s - 1 * solW S B X w s) hw hf h.1 (good_lk h) (fun s hs hy => by
    cases hg : X.testBit s with
    | true => rw [hU s hs hg]; omega
    | false => rw [h0 s hs hg hy]; omega) (fun s hs _ => by
    rw [meanS_lin, ← hE s hs]
    omega)
  intro s hs
  have := this s hs
  omega
/-- below: choices under which the means of w's chances are no higher -/
theorem ple_dn (hw : wf S) (hf : full S) (hd : ∀ s, X.testBit s = true → B.testBit s = false) {w w' : Nat → Nat} (hg : good S l B w) (hg' : good S l B w') (h : ∀ s, B.testBit s = true → meanS S (4 * s + w' s) (solW S B X w) ≤ 12 * solW S B X w s) : ple S B X w' w := by
  obtain ⟨D1, e1, u1, o1, n1⟩ := sol_facts hw hf hd hg
  obtain ⟨D2, e2, u2, o2, n2⟩ := sol_facts hw hf hd hg'
  have key := maxS (B := B) (c := w') (y := fun s => solD S B X w * solW S B X w' s - solD S B X w' * solW S B X w s) hw hf hg'.1 (good_lk hg') (fun s hs hB => by
    cases hU : X.testBit s with
    | true => rw [u1 s hs hU, u2 s hs hU]; grind
    | false => rw [o1 s hs hU hB, o2 s hs hU hB]; omega) (fun s hs _ => by
    rw [meanS_lin, ← e2 s hs]
    have := Int.mul_le_mul_of_nonneg_left (h s hs) (Int.le_of_lt D2)
    grind)
  intro s hs
  have := key s hs
  rw [Int.mul_comm (solW S B X w' s), Int.mul_comm (solW S B X w s)]
  omega
theorem ple_up (hw : wf S) (hf : full S) (hd : ∀ s, X.testBit s = true → B.testBit s = false) {w w' : Nat → Nat} (hg : good S l B w) (hg' : good S l B w') (h : ∀ s, B.testBit s = true → 12 * solW S B X w s ≤ meanS S (4 * s + w' s) (solW S B X w)) : ple S B X w w' := by
  obtain ⟨D1, e1, u1, o1, n1⟩ := sol_facts hw hf hd hg
  obtain ⟨D2, e2, u2, o2, n2⟩ := sol_facts hw hf hd hg'
  have key := maxS (B := B) (c := w') (y := fun s => solD S B X w' * solW S B X w s - solD S B X w * solW S B X w' s) hw hf hg'.1 (good_lk hg') (fun s hs hB => by
    cases hU : X.testBit s with
    | true => rw [u1 s hs hU, u2 s hs hU]; grind
    | false => rw [o1 s hs hU hB, o2 s hs hU hB]; omega) (fun s hs _ => by
    rw [meanS_lin, ← e2 s hs]
    have := Int.mul_le_mul_of_nonneg_left (h s hs) (Int.le_of_lt D2)
    grind)
  intro s hs
  have := key s hs
  rw [Int.mul_comm (solW S B X w' s), Int.mul_comm (solW S B X w s)]
  omega
/-- both ways: the means are alike, so a change that is strictly better is none -/
theorem ple_anti (hw : wf S) (hf : full S) (hd : ∀ s, X.testBit s = true → B.testBit s = false) {w w' : Nat → Nat} (hg' : good S l B w') (h1 : ple S B X w w') (h2 : ple S B X w' w) {s : Nat} (hs : B.testBit s = true) : solD S B X w' * (12 * solW S B X w s) = solD S B X w' * meanS S (4 * s + w' s) (solW S B X w) := by
  obtain ⟨D2, e2, u2, o2, n2⟩ := sol_facts hw hf hd hg'
  have hsn := (hg'.1 s hs).1
  have hx := pol_a hw hg'.1 hs
  have he : ∀ t, t < sN S → solD S B X w' * solW S B X w t = solD S B X w * solW S B X w' t := fun t ht => by
    have a := h1 t ht
    have b := h2 t ht
    rw [Int.mul_comm (solD S B X w'), Int.mul_comm (solD S B X w)]
    omega
  rw [← meanS_mul, meanS_congr (v := fun t => solD S B X w * solW S B X w' t) (fun o ho => he _ (wf_t hw hx ho)), meanS_mul, ← e2 s hs]
  have := he s hsn
  grind
/-- a change of those who don't want -/
theorem step_no (hw : wf S) (hf : full S) (hd : ∀ s, X.testBit s = true → B.testBit s = false) {w w' : Nat → Nat} (hg : good S l B w) (hp' : pol S B w') (h1 : ∀ s, B.testBit s = true → wantS S l s = true → w' s = w s) (h2 : ∀ s, B.testBit s = true → wantS S l s = false → w' s = w s ∨ meanS S (4 * s + w' s) (solW S B X w) < 12 * solW S B X w s) (h3 : ∃ s, B.testBit s = true ∧ wantS S l s = false ∧ meanS S (4 * s + w' s) (solW S B X w) < 12 * solW S B X w s) : rnk S l B X w w' := by
  have hag : agW S l B w' w := h1
  have hg' : good S l B w' := ⟨hp', strong_ag hg.2 hag⟩
  obtain ⟨D1, e1, u1, o1, n1⟩ := sol_facts (X := X) hw hf hd hg
  have hdn : ple S B X w' w := ple_dn hw hf hd hg hg' (fun s hs => by
    cases hwt : wantS S l s with
    | true => rw [h1 s hs hwt, ← e1 s hs]; exact Int.le_refl _
    | false =>
      rcases h2 s hs hwt with q | q
      · rw [q, ← e1 s hs]; exact Int.le_refl _
      · exact Int.le_of_lt q)
  refine ⟨hg', Or.inr ⟨agW_symm hag, hdn, fun hup => ?_⟩⟩
  obtain ⟨s, hs, _, hlt⟩ := h3
  have h4 := ple_anti hw hf hd hg' hup hdn hs
  have D2 := good_D (X := X) hw hf hd hg'
  have := Int.mul_lt_mul_of_pos_left hlt D2
  omega
/-- a change of those who want, once the others are content -/
theorem step_yes (hw : wf S) (hf : full S) (hd : ∀ s, X.testBit s = true → B.testBit s = false) {w w' : Nat → Nat} (hg : good S l B w) (hp' : pol S B w') (h0 : ∀ s, B.testBit s = true → wantS S l s = false → ∀ a, a < sA S s → 12 * solW S B X w s ≤ meanS S (4 * s + a) (solW S B X w)) (h1 : ∀ s, B.testBit s = true → wantS S l s = true → w' s = w s ∨ 12 * solW S B X w s < meanS S (4 * s + w' s) (solW S B X w)) (h3 : ∃ s, B.testBit s = true ∧ wantS S l s = true ∧ 12 * solW S B X w s < meanS S (4 * s + w' s) (solW S B X w)) : rnk S l B X w w' := by
  obtain ⟨D1, e1, u1, o1, n1⟩ := sol_facts (X := X) hw hf hd hg
  have hst : strong S l B w' := strong_next hw hf hg.2 hg.1 n1 h0 (fun s hs hwt => by
    rcases h1 s hs hwt with q | q
    · exact Or.inl ⟨q, e1 s hs⟩
    · exact Or.inr q)
  have hg' : good S l B w' := ⟨hp', hst⟩
  have hup : ∀ w2, pol S B w2 → agW S l B w2 w' → ple S B X w w2 := fun w2 p2 q2 => ple_up hw hf hd hg ⟨p2, strong_ag hst q2⟩ (fun s hs => by
    cases hwt : wantS S l s with
    | false => exact h0 s hs hwt _ (p2 s hs).2
    | true =>
      rw [q2 s hs hwt]
      rcases h1 s hs hwt with q | q
      · rw [q, ← e1 s hs]; exact Int.le_refl _
      · exact Int.le_of_lt q)
  refine ⟨hg', Or.inl ⟨fun w2 p2 q2 => ⟨w, hg.1, agW_rfl _ _ _, hup w2 p2 q2⟩, fun hdom => ?_⟩⟩
  obtain ⟨w1, p1, q1, r1⟩ := hdom w hg.1 (agW_rfl _ _ _)
  obtain ⟨s, hs, hwt, hlt⟩ := h3
  have hg1 : good S l B w1 := ⟨p1, strong_ag hst q1⟩
  have h4 := ple_anti hw hf hd hg1 (hup w1 p1 q1) r1 hs
  rw [q1 s hs hwt] at h4
  have D2 := good_D (X := X) hw hf hd hg1
  have := Int.mul_lt_mul_of_pos_left hlt D2
  omega
/-! how many are still to come -/
def decP (B c : Nat) : Nat → Nat := fun s => c / 4 ^ cntU B s % 4
def encP (B : Nat) (w : Nat → Nat) : Nat → Nat
  | 0 => 0
  | j + 1 => encP B w j + w (qOf B j) * 4 ^ j
theorem encP_lt {w : Nat → Nat} {k : Nat} (h : ∀ j, j < k → w (qOf B j) < 4) : encP B w k < 4 ^ k := by
  induction k with
  | zero => show 0 < 1; decide
  | succ k ih =>
    have h1 := ih (fun j hj => h j (by omega))
    have h2 := h k (by omega)
    simp only [encP, Nat.pow_succ]
    have h3 : w (qOf B k) * 4 ^ k ≤ 3 * 4 ^ k := Nat.mul_le_mul_right _ (by omega)
    omega
theorem encP_dec {w : Nat → Nat} {k : Nat} (h : ∀ j, j < k → w (qOf B j) < 4) : ∀ j, j < k → encP B w k / 4 ^ j % 4 = w (qOf B j) := by
  induction k with
  | zero => intro j hj; omega
  | succ k ih =>
    intro j hj
    have hlt := encP_lt (B := B) (w := w) (k := k) (fun j hj => h j (by omega))
    simp only [encP]
    rcases Nat.lt_or_ge j k with q | q
    · have h1 := ih (fun j hj => h j (by omega)) j q
      obtain ⟨e, he⟩ : ∃ e, k = j + 1 + e := ⟨k - j - 1, by omega⟩
      have h2 : w (qOf B k) * 4 ^ k = 4 ^ j * (4 * (w (qOf B k) * 4 ^ e)) := by
        rw [he, Nat.pow_add, Nat.pow_succ]
        grind
      rw [h2, Nat.add_mul_div_left _ _ (Nat.pow_pos (by decide)), Nat.add_mul_mod_self_left]
      exact h1
    · have hjk : j = k := by omega
      subst hjk
      rw [Nat.add_mul_div_right _ _ (Nat.pow_pos (by decide)), Nat.div_eq_of_lt hlt, Nat.zero_add, Nat.mod_eq_of_lt (h j (by omega))]
noncomputable def cntP (p : Nat → Prop) : Nat → Nat
  | 0 => 0
  | n + 1 => cntP p n + @ite _ (p n) (Classical.propDecidable _) 1 0
theorem cntP_le (p : Nat → Prop) (n : Nat) : cntP p n ≤ n := by
  induction n with
  | zero => exact Nat.le_refl _
  | succ n ih => simp only [cntP]; split <;> omega
theorem cntP_mono {p q : Nat → Prop} {n : Nat} (h : ∀ i, i < n → p i → q i) : cntP p n ≤ cntP q n := by
  induction n with
  | zero => exact Nat.le_refl _
  | succ n ih =>
    have h1 := ih (fun i hi => h i (by omega))
    simp only [cntP]
    split
    · rename_i hp
      rw [if_pos (h n (by omega) hp)]
      omega
    · omega
theorem cntP_lt {p q : Nat → Prop} {n i : Nat} (h : ∀ i, i < n → p i → q i) (hi : i < n) (hq : q i) (hp : ¬ p i) : cntP p n < cntP q n := by
  induction n with
  | zero => omega
  | succ n ih =>
    simp only [cntP]
    rcases Nat.lt_or_ge i n with e | e
    · have h1 := ih (fun i hi => h i (by omega)) e
      split
      · rename_i hpn
        rw [if_pos (h n (by omega) hpn)]
        omega
      · omega
    · have hin : i = n := by omega
      subst hin
      have h1 := cntP_mono (p := p) (q := q) (n := i) (fun j hj => h j (by omega))
      rw [if_neg hp, if_pos hq]
      omega
noncomputable def mu (S : Sys) (l : Bool) (B X : Nat) (w : Nat → Nat) : Nat := cntP (fun c => rnk S l B X w (decP B c)) 1024
theorem solW_congr {w w' : Nat → Nat} (h : ∀ s, B.testBit s = true → w s = w' s) : solW S B X w = solW S B X w' ∧ solD S B X w = solD S B X w' := by
  have hA : ∀ r c, r < cntB B → mA (cntB B) (rowP S B w) (fun i => toG S X (4 * qOf B i + w (qOf B i))) r c = mA (cntB B) (rowP S B w') (fun i => toG S X (4 * qOf B i + w' (qOf B i))) r c := by
    intro r c hr
    unfold mA rowP
    dsimp only
    rw [h _ (qOf_in hr).1]
  constructor
  · funext s
    unfold solW
    split
    · unfold cr
      exact det_congr (fun r c hr hc => by unfold setC; split; exact hA r _ hr; exact hA r c hr)
    · split
      · exact det_congr (fun r c hr hc => hA r c hr)
      · rfl
  · unfold solD
    exact det_congr (fun r c hr hc => hA r c hr)
theorem rnk_congr {w a b : Nat → Nat} (h : ∀ s, B.testBit s = true → a s = b s) (hr : rnk S l B X w a) : rnk S l B X w b := by
  obtain ⟨⟨p, st⟩, hr⟩ := hr
  have hag : agW S l B b a := fun s hs _ => (h s hs).symm
  refine ⟨⟨fun s hs => by rw [← h s hs]; exact p s hs, strong_ag st hag⟩, ?_⟩
  obtain ⟨e1, e2⟩ := solW_congr (S := S) (X := X) h
  rcases hr with ⟨h1, h2⟩ | ⟨h1, h2, h3⟩
  · exact Or.inl ⟨dom_r (agW_symm hag) h1, fun z => h2 (dom_l hag z)⟩
  · refine Or.inr ⟨agW_trans h1 (agW_symm hag), ?_, fun z => h3 ?_⟩
    · unfold ple at h2 ⊢; rw [← e1, ← e2]; exact h2
    · unfold ple at z ⊢; rw [e1, e2]; exact z
theorem mu_lt (hw : wf S) (hf : full S) (hd : ∀ s, X.testBit s = true → B.testBit s = false) (h5 : cntB B ≤ 5) {w w' : Nat → Nat} (hg : good S l B w) (h : rnk S l B X w w') : mu S l B X w' < mu S l B X w := by
  have h4 : ∀ j, j < cntB B → w' (qOf B j) < 4 := fun j hj => by
    have := h.1.1 _ (qOf_in hj).1
    have := wf_a hw this.1
    omega
  have hlt : encP B w' (cntB B) < 1024 := Nat.lt_of_lt_of_le (encP_lt h4) (Nat.le_trans (Nat.pow_le_pow_right (by decide) h5) (by decide))
  have hdec : ∀ s, B.testBit s = true → w' s = decP B (encP B w' (cntB B)) s := by
    intro s hs
    have hs10 : s < 10 := Nat.lt_of_lt_of_le (hg.1 s hs).1 (wf_n hw)
    unfold decP
    rw [encP_dec h4 _ (cntU_B hs hs10), qOf_cnt hs hs10]
  refine cntP_lt (i := encP B w' (cntB B)) (fun c hc hr => rnk_trans hw hf hd hg h hr) hlt (rnk_congr hdec h) (fun hr => ?_)
  exact rnk_irr (rnk_congr (fun s hs => (hdec s hs).symm) hr)
theorem mu_le (w : Nat → Nat) : mu S l B X w ≤ 1024 := cntP_le _ _
end M72
