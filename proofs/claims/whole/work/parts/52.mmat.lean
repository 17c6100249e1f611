/-! THE GREATEST STANDS AT THE EDGE (wip/whole/src/52.mmat.src): solutions of 12 y = P y + b where no set keeps all its parts -/
theorem sumI_le {f g : Nat → Int} {n : Nat} (h : ∀ i, i < n → f i ≤ g i) : sumI f n ≤ sumI g n := by
  induction n with
  | zero => exact Int.le_refl _
  | succ n ih =>
    have h1 := ih (fun i hi => h i (by omega))
    have h2 := h n (by omega)
    simp only [sumI]
    omega
theorem sumI_lt {f g : Nat → Int} {n : Nat} (h : ∀ i, i < n → f i ≤ g i) {j : Nat} (hj : j < n) (hl : f j < g j) : sumI f n < sumI g n := by
  induction n with
  | zero => omega
  | succ n ih =>
    simp only [sumI]
    rcases Nat.lt_or_ge j n with h2 | h2
    · have h3 := ih (fun i hi => h i (by omega)) h2
      have h4 := h n (by omega)
      omega
    · have h3 := sumI_le (f := f) (g := g) (n := n) (fun i hi => h i (by omega))
      rw [show j = n by omega] at hl
      omega
theorem sumI_nn {f : Nat → Int} {n : Nat} (h : ∀ i, i < n → 0 ≤ f i) : 0 ≤ sumI f n := by
  have := sumI_le (f := fun _ => 0) (g := f) (n := n) h
  rw [sumI_zero (fun _ _ => rfl)] at this
  exact this
theorem argmax (y : Nat → Int) : ∀ n, 0 < n → ∃ i, i < n ∧ ∀ j, j < n → y j ≤ y i := by
  intro n
  induction n with
  | zero => intro h; omega
  | succ n ih =>
    intro _
    rcases Nat.eq_zero_or_pos n with h | h
    · subst h
      exact ⟨0, by omega, fun j hj => by rw [show j = 0 by omega]; exact Int.le_refl _⟩
    · obtain ⟨i, hi, h1⟩ := ih h
      rcases Int.le_total (y n) (y i) with h2 | h2
      · refine ⟨i, by omega, fun j hj => ?_⟩
        rcases Nat.lt_or_ge j n with h3 | h3
        · exact h1 j h3
        · rw [show j = n by omega]; exact h2
      · refine ⟨n, by omega, fun j hj => ?_⟩
        rcases Nat.lt_or_ge j n with h3 | h3
        · exact Int.le_trans (h1 j h3) h2
        · rw [show j = n by omega]; exact Int.le_refl _
/-- no set of the rows 0 .. n - 1 keeps all of its parts -/
def leak (n : Nat) (P : Nat → Nat → Int) : Prop := (∀ i j, i < n → j < n → 0 ≤ P i j) ∧ (∀ i, i < n → sumI (P i) n ≤ 12) ∧ ∀ C : Nat → Prop, (∃ i, i < n ∧ C i) → ∃ i, i < n ∧ C i ∧ (sumI (P i) n < 12 ∨ ∃ j, j < n ∧ ¬ C j ∧ 0 < P i j)
theorem maxp {n : Nat} {P : Nat → Nat → Int} (hL : leak n P) {y : Nat → Int} (hy : ∀ i, i < n → 0 < y i → 12 * y i ≤ sumI (fun j => P i j * y j) n) : ∀ i, i < n → y i ≤ 0 := by
  intro i0 hi0
  obtain ⟨k, hk, hmax⟩ := argmax y n (by omega)
  apply Classical.byContradiction
  intro hpos
  have hM : 0 < y k := by have := hmax i0 hi0; omega
  obtain ⟨i, hi, hC, hlk⟩ := hL.2.2 (fun i => y i = y k) ⟨k, hk, rfl⟩
  have h1 := hy i hi (by rw [hC]; exact hM)
  rw [hC] at h1
  have hle : ∀ j, j < n → P i j * y j ≤ y k * P i j := fun j hj => by
    have := Int.mul_le_mul_of_nonneg_left (hmax j hj) (hL.1 i j hi hj)
    rw [Int.mul_comm (y k)]
    exact this
  have h2 := hL.2.1 i hi
  rcases hlk with h3 | ⟨j, hj, hnC, hP⟩
  · have h4 := sumI_le hle
    rw [sumI_mul] at h4
    have h5 : y k * sumI (P i) n < y k * 12 := Int.mul_lt_mul_of_pos_left h3 hM
    omega
  · have hlt : y j < y k := by
      have := hmax j hj
      have : y j ≠ y k := hnC
      omega
    have h4 := sumI_lt hle hj (by
      have := Int.mul_lt_mul_of_pos_left hlt hP
      rw [Int.mul_comm (y k)]
      exact this)
    rw [sumI_mul] at h4
    have h5 : y k * sumI (P i) n ≤ y k * 12 := Int.mul_le_mul_of_nonneg_left h2 (by omega)
    omega
theorem sumI_split {f : Nat → Int} {k n : Nat} (h : k ≤ n) (hf : ∀ i, i < n → 0 ≤ f i) : sumI f k ≤ sumI f n := by
  induction n with
  | zero => rw [show k = 0 by omega]; exact Int.le_refl _
  | succ n ih =>
    rcases Nat.lt_or_ge k (n + 1) with h2 | h2
    · have h3 := ih (by omega) (fun i hi => hf i (by omega))
      have h4 := hf n (by omega)
      simp only [sumI]
      omega
    · rw [show k = n + 1 by omega]; exact Int.le_refl _
theorem sumI_splitj {f : Nat → Int} {k n j : Nat} (h : k ≤ j) (hj : j < n) (hf : ∀ i, i < n → 0 ≤ f i) : sumI f k + f j ≤ sumI f n := by
  induction n with
  | zero => omega
  | succ n ih =>
    simp only [sumI]
    rcases Nat.lt_or_ge j n with h2 | h2
    · have h3 := ih h2 (fun i hi => hf i (by omega))
      have h4 := hf n (by omega)
      omega
    · have h3 := sumI_split (f := f) (k := k) (n := n) (by omega) (fun i hi => hf i (by omega))
      rw [show j = n by omega]
      omega
theorem leak_le {n k : Nat} {P : Nat → Nat → Int} (hL : leak n P) (hk : k ≤ n) : leak k P := by
  refine ⟨fun i j hi hj => hL.1 i j (by omega) (by omega), fun i hi => ?_, fun C hC => ?_⟩
  · exact Int.le_trans (sumI_split hk (fun j hj => hL.1 i j (by omega) hj)) (hL.2.1 i (by omega))
  · obtain ⟨i0, hi0, hc⟩ := hC
    obtain ⟨i, hi, hCi, hlk⟩ := hL.2.2 (fun i => i < k ∧ C i) ⟨i0, by omega, hi0, hc⟩
    refine ⟨i, hCi.1, hCi.2, ?_⟩
    have h2 := hL.2.1 i hi
    have hnn : ∀ j, j < n → 0 ≤ P i j := fun j hj => hL.1 i j hi hj
    rcases hlk with h3 | ⟨j, hj, hnC, hP⟩
    · have := sumI_split hk hnn
      exact Or.inl (by omega)
    · rcases Nat.lt_or_ge j k with h4 | h4
      · exact Or.inr ⟨j, h4, fun z => hnC ⟨h4, z⟩, hP⟩
      · have := sumI_splitj h4 hj hnn
        exact Or.inl (by omega)
/-- 12 on the diagonal, less P; column n: the right side -/
def mA (n : Nat) (P : Nat → Nat → Int) (b : Nat → Int) : Nat → Nat → Int := fun i j => if j = n then b i else (if i = j then 12 else 0) - P i j
theorem mA_row {n : Nat} {P : Nat → Nat → Int} {b : Nat → Int} (x : Nat → Int) {i k : Nat} (hk : k ≤ n) (hi : i < k) : sumI (fun j => x j * mA n P b i j) k = 12 * x i - sumI (fun j => P i j * x j) k := by
  have h1 : sumI (fun j => x j * mA n P b i j) k = sumI (fun j => (if i = j then 12 * x j else 0) + - (P i j * x j)) k := by
    refine sumI_congr (fun j hj => ?_)
    unfold mA
    rw [if_neg (by omega)]
    split <;> grind
  rw [h1, sumI_add, sumI_neg, sumI_one (f := fun j => if i = j then 12 * x j else 0) (j := i) hi (fun j hj hji => if_neg (Ne.symm hji)), if_pos rfl]
  omega
/-- all pivots are above 0 -/
theorem mA_pos {n : Nat} {P : Nat → Nat → Int} {b : Nat → Int} (hL : leak n P) : ∀ k, k ≤ n → 0 < det k (mA n P b) := by
  intro k
  induction k with
  | zero => intro _; exact (by decide : (0 : Int) < 1)
  | succ k ih =>
    intro hk
    have hD := ih (by omega)
    have hL1 := leak_le hL (show k ≤ n by omega)
    have hL2 := leak_le hL hk
    generalize hA : mA n P b = A at hD ⊢
    have hDne : det k A ≠ 0 := by omega
    -- H: how often row k is come to
    have hH : ∀ r, r < k → 12 * (- cr A k r k) - sumI (fun j => P r j * (- cr A k j k)) k = det k A * P r k := by
      intro r hr
      have h1 := bm_cr hDne r k
      rw [bm_i0 hr] at h1
      have h2 := mA_row (n := n) (P := P) (b := b) (fun l => - cr A k l k) (i := r) (k := k) (by omega) hr
      rw [← h2, hA]
      have h3 : A r k = - P r k := by rw [← hA]; unfold mA; rw [if_neg (by omega), if_neg (by omega)]; omega
      rw [sumI_congr (g := fun l => - (cr A k l k * A r l)) (fun l _ => by rw [Int.neg_mul]), sumI_neg]
      rw [h3] at h1
      grind
    have hle : ∀ r, r < k → - cr A k r k - det k A ≤ 0 := by
      refine maxp hL1 (fun r hr _ => ?_)
      have h1 := hH r hr
      have h2 : sumI (fun j => P r j * (- cr A k j k - det k A)) k = sumI (fun j => P r j * (- cr A k j k)) k - det k A * sumI (P r) k := by
        rw [sumI_congr (g := fun j => P r j * (- cr A k j k) + - (det k A * P r j)) (fun j _ => by grind), sumI_add, sumI_neg, sumI_mul]
        omega
      have h3 := hL2.2.1 r (by omega)
      simp only [sumI] at h3
      have h4 : det k A * (sumI (P r) k + P r k) ≤ det k A * 12 := Int.mul_le_mul_of_nonneg_left h3 (by omega)
      rw [Int.mul_add] at h4
      omega
    have hbm : det (k + 1) A = det k A * (12 - P k k) - sumI (fun l => P k l * (- cr A k l k)) k := by
      have h1 := bm_cr hDne k k
      rw [bm_kk] at h1
      have h3 : A k k = 12 - P k k := by rw [← hA]; unfold mA; rw [if_neg (by omega), if_pos rfl]
      have h4 : sumI (fun l => cr A k l k * A k l) k = sumI (fun l => P k l * (- cr A k l k)) k := by
        refine sumI_congr (fun l hl => ?_)
        rw [← hA]
        unfold mA
        rw [if_neg (by omega), if_neg (by omega)]
        grind
      rw [h3, h4] at h1
      omega
    have hge : 0 ≤ det (k + 1) A := by
      have h1 : sumI (fun l => P k l * (- cr A k l k)) k ≤ sumI (fun l => det k A * P k l) k := by
        refine sumI_le (fun l hl => ?_)
        rw [Int.mul_comm (det k A)]
        exact Int.mul_le_mul_of_nonneg_left (by have := hle l hl; omega) (hL2.1 k l (by omega) (by omega))
      rw [sumI_mul] at h1
      have h2 := hL2.2.1 k (by omega)
      simp only [sumI] at h2
      have h3 : 0 ≤ det k A * (12 - P k k - sumI (P k) k) := Int.mul_nonneg (by omega) (by omega)
      have h4 : det k A * (12 - P k k - sumI (P k) k) = det k A * (12 - P k k) - det k A * sumI (P k) k := by grind
      omega
    have hne : det (k + 1) A ≠ 0 := by
      intro h0
      -- x: row k counts det k A; a solution of the equations without right side
      have hx : ∀ r, r < k + 1 → 12 * (if r = k then det k A else - cr A k r k) - sumI (fun j => P r j * (if j = k then det k A else - cr A k j k)) (k + 1) = 0 := by
        intro r hr
        rw [sumI_succ, if_pos rfl, sumI_congr (g := fun j => P r j * (- cr A k j k)) (fun j hj => by rw [if_neg (by omega)])]
        rcases Nat.lt_or_ge r k with h1 | h1
        · rw [if_neg (by omega)]
          have := hH r h1
          grind
        · rw [show r = k by omega, if_pos rfl]
          rw [hbm] at h0
          grind
      have := maxp hL2 (y := fun r => if r = k then det k A else - cr A k r k) (fun r hr _ => by have := hx r hr; omega) k (by omega)
      simp only [if_pos] at this
      omega
    omega
/-- the numerators solve the equations -/
theorem mA_sol {n : Nat} {P : Nat → Nat → Int} {b : Nat → Int} (hL : leak n P) {i : Nat} (hi : i < n) : 12 * cr (mA n P b) n i n = sumI (fun j => P i j * cr (mA n P b) n j n) n + det n (mA n P b) * b i := by
  have hD := mA_pos (b := b) hL n (Nat.le_refl _)
  have h1 := bm_cr (A := mA n P b) (k := n) (by omega) i n
  rw [bm_i0 hi] at h1
  have h2 := mA_row (n := n) (P := P) (b := b) (fun l => cr (mA n P b) n l n) (i := i) (k := n) (Nat.le_refl _) hi
  have h3 : mA n P b i n = b i := if_pos rfl
  rw [h2, h3] at h1
  omega
