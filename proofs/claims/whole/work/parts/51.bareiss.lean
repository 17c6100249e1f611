/-! BORDERED MINORS (wip/whole/src/51.bareiss.src): what elimination without fractions holds -/
def bm (A : Nat → Nat → Int) (k i j : Nat) : Int := det (k + 1) (fun r c => A (if r < k then r else i) (if c < k then c else j))
/-- column i is column j -/
def cr (A : Nat → Nat → Int) (k i j : Nat) : Int := det k (setC A i (fun r => A r j))
def cofR (A : Nat → Nat → Int) (k i l : Nat) : Int := sg (k + l) * det k (fun r c => A (if skip l r < k then skip l r else i) c)
theorem bm_row (A : Nat → Nat → Int) (k i j : Nat) : bm A k i j = det k A * A i j + sumI (fun l => cofR A k i l * A l j) k := by
  unfold bm
  simp only [det]
  rw [sumI_succ, Int.add_comm]
  congr 1
  · rw [sg_dbl, Int.one_mul, if_neg (Nat.lt_irrefl k), if_neg (Nat.lt_irrefl k), Int.mul_comm]
    congr 1
    exact det_congr (fun r c hr hc => by rw [show skip k r = r from if_pos hr, if_pos hr, if_pos hc])
  · refine sumI_congr (fun l hl => ?_)
    unfold cofR
    rw [if_pos hl, if_neg (Nat.lt_irrefl k)]
    rw [det_congr (B := fun r c => A (if skip l r < k then skip l r else i) c) (fun r c hr hc => by rw [if_pos hc])]
    grind
theorem bm_j0 {A : Nat → Nat → Int} {k i j : Nat} (h : j < k) : bm A k i j = 0 := by
  unfold bm
  exact det_eqC (p := j) (q := k) h (by omega) (fun r => by rw [if_pos h, if_neg (Nat.lt_irrefl k)])
theorem bm_i0 {A : Nat → Nat → Int} {k i j : Nat} (h : i < k) : bm A k i j = 0 := by
  unfold bm
  exact det_eqR (p := i) (q := k) h (by omega) (fun c => by rw [if_pos h, if_neg (Nat.lt_irrefl k)])
theorem bm_kk (A : Nat → Nat → Int) (k : Nat) : bm A k k k = det (k + 1) A := by
  unfold bm
  refine det_congr (fun r c hr hc => ?_)
  rw [show (if r < k then r else k) = r by split <;> omega, show (if c < k then c else k) = c by split <;> omega]
theorem bm_kj (A : Nat → Nat → Int) (k j : Nat) : bm A k k j = cr A (k + 1) k j := by
  unfold bm cr
  refine det_congr (fun r c hr hc => ?_)
  unfold setC
  rw [show (if r < k then r else k) = r by split <;> omega]
  by_cases h : c = k
  · rw [if_neg (by omega), if_pos h]
  · rw [if_pos (by omega), if_neg h]
theorem bm_T (A : Nat → Nat → Int) (k i j : Nat) : bm (fun r c => A c r) k j i = bm A k i j := by
  unfold bm
  rw [← det_T]
theorem bm_col (A : Nat → Nat → Int) (k i j : Nat) : bm A k i j = det k A * A i j + sumI (fun l => cofR (fun r c => A c r) k j l * A i l) k := by
  rw [← bm_T, bm_row, det_T]
/-- the column's combination is Cramer's -/
theorem cof_cr {A : Nat → Nat → Int} {k j l : Nat} (hD : det k A ≠ 0) (hl : l < k) : cofR (fun r c => A c r) k j l = - cr A k l j := by
  have h : ∀ r, r < k → sumI (fun q => (- cofR (fun r c => A c r) k j q) * A r q) k = det k A * A r j := by
    intro r hr
    have h1 := bm_col A k r j
    rw [bm_i0 hr] at h1
    have h2 := sumI_neg (fun q => cofR (fun r c => A c r) k j q * A r q) k
    rw [sumI_congr (g := fun q => - (cofR (fun r c => A c r) k j q * A r q)) (fun q _ => by rw [Int.neg_mul]), h2]
    omega
  have h3 := cramer (x := fun q => - cofR (fun r c => A c r) k j q) (b := fun r => A r j) h hl
  have h4 : det k A * (cr A k l j + cofR (fun r c => A c r) k j l) = 0 := by
    unfold cr
    rw [Int.mul_add, h3]
    grind
  rcases Int.mul_eq_zero.mp h4 with h5 | h5
  · exact absurd h5 hD
  · omega
theorem bm_cr {A : Nat → Nat → Int} {k : Nat} (hD : det k A ≠ 0) (i j : Nat) : det k A * A i j = bm A k i j + sumI (fun l => cr A k l j * A i l) k := by
  rw [bm_col, sumI_congr (f := fun l => cofR (fun r c => A c r) k j l * A i l) (g := fun l => - (cr A k l j * A i l)) (fun l hl => by rw [cof_cr hD hl, Int.neg_mul]), sumI_neg]
  omega
/-- rows below with multiples of others added -/
theorem det_rowop {n : Nat} {B : Nat → Nat → Int} {k : Nat} (hk : k < n) (D : Int) (x : Nat → Int) : ∀ N, N ≤ k → det n (setR B k (fun c => D * B k c + sumI (fun l => x l * B l c) N)) = D * det n B := by
  intro N
  induction N with
  | zero =>
    intro _
    have h := det_linR (A := B) hk D 0 (B k) (B k)
    rw [setR_self] at h
    simp only [sumI]
    simp only [Int.zero_mul, Int.add_zero] at h ⊢
    exact h
  | succ N ih =>
    intro hN
    have h := det_linR (A := B) hk 1 (x N) (fun c => D * B k c + sumI (fun l => x l * B l c) N) (B N)
    rw [ih (by omega)] at h
    have h0 : det n (setR B k (B N)) = 0 := det_eqR (p := N) (q := k) (by omega) hk (fun c => by unfold setR; rw [if_neg (by omega), if_pos rfl])
    rw [h0] at h
    simp only [sumI]
    rw [show (fun c => D * B k c + (sumI (fun l => x l * B l c) N + x N * B N c)) = (fun c => 1 * (D * B k c + sumI (fun l => x l * B l c) N) + x N * B N c) by funext c; omega]
    omega
/-- SYLVESTER, bordered -/
theorem sylv {A : Nat → Nat → Int} {k : Nat} (hD : det k A ≠ 0) (i j : Nat) : bm A (k + 1) i j * det k A = bm A k i j * bm A k k k - bm A k i k * bm A k k j := by
  let γ : Nat → Nat := fun c => if c < k + 1 then c else j
  let B : Nat → Nat → Int := fun r c => A (if r < k + 1 then r else i) (γ c)
  have hB : bm A (k + 1) i j = det (k + 2) B := rfl
  let B1 := setR B k (fun c => bm A k k (γ c))
  let B2 := setR B1 (k + 1) (fun c => bm A k i (γ c))
  have e1 : det (k + 2) B1 = det k A * det (k + 2) B := by
    rw [← det_rowop (B := B) (k := k) (by omega) (det k A) (cofR A k k) k (Nat.le_refl _)]
    refine det_congr (fun r c hr hc => ?_)
    show setR B k _ r c = setR B k _ r c
    unfold setR
    split
    · dsimp only
      rw [bm_row]
      have : B k c = A k (γ c) := by show A (if k < k + 1 then k else i) (γ c) = _; rw [if_pos (by omega)]
      rw [this]
      congr 1
      exact sumI_congr (fun l hl => by show _ = _ * A (if l < k + 1 then l else i) (γ c); rw [if_pos (by omega)])
    · rfl
  have e2 : det (k + 2) B2 = det k A * det (k + 2) B1 := by
    rw [← det_rowop (B := B1) (k := k + 1) (by omega) (det k A) (cofR A k i) k (by omega)]
    refine det_congr (fun r c hr hc => ?_)
    show setR B1 (k + 1) _ r c = setR B1 (k + 1) _ r c
    unfold setR
    split
    · dsimp only
      rw [bm_row]
      have : B1 (k + 1) c = A i (γ c) := by
        show (if k + 1 = k then _ else A (if k + 1 < k + 1 then k + 1 else i) (γ c)) = _
        rw [if_neg (by omega), if_neg (by omega)]
      rw [this]
      congr 1
      refine sumI_congr (fun l hl => ?_)
      show _ = _ * (if l = k then _ else A (if l < k + 1 then l else i) (γ c))
      rw [if_neg (by omega), if_pos (by omega)]
    · rfl
  have g1 : ∀ c, c < k + 1 → γ c = c := fun c hc => if_pos hc
  have g2 : γ (k + 1) = j := if_neg (by omega)
  have b2l : ∀ c, B2 (k + 1) c = bm A k i (γ c) := fun c => if_pos rfl
  have b2k : ∀ c, B2 k c = bm A k k (γ c) := by
    intro c
    show (if k = k + 1 then _ else (if k = k then _ else _)) = _
    rw [if_neg (by omega), if_pos rfl]
  have b2u : ∀ r c, r < k → B2 r c = A r (γ c) := by
    intro r c hr
    show (if r = k + 1 then _ else (if r = k then _ else A (if r < k + 1 then r else i) (γ c))) = _
    rw [if_neg (by omega), if_neg (by omega), if_pos (by omega)]
  have e3 : det (k + 2) B2 = bm A k i j * (bm A k k k * det k A) - bm A k i k * (bm A k k j * det k A) := by
    rw [det_R]
    show sumI _ (k + 2) = _
    rw [sumI_two (j := k) (k := k + 1) (by omega) (by omega)]
    · rw [b2l, b2l, g1 k (by omega), g2, show k + 1 + k = k + k + 1 by omega, sg_s, sg_dbl, sg_dbl, ← det_R, ← det_R]
      have f1 : det (k + 1) (fun r c => B2 r (skip k c)) = bm A k k j * det k A := by
        rw [det_lastR]
        · rw [b2k, show skip k k = k + 1 from if_neg (by omega), g2]
          congr 1
          exact det_congr (fun r c hr hc => by rw [b2u _ _ hr, show skip k c = c from if_pos hc, g1 c (by omega)])
        · intro c hc
          rw [b2k, show skip k c = c from if_pos hc, g1 c (by omega), bm_j0 hc]
      have f2 : det (k + 1) (fun r c => B2 r (skip (k + 1) c)) = bm A k k k * det k A := by
        rw [det_lastR]
        · rw [b2k, show skip (k + 1) k = k from if_pos (by omega), g1 k (by omega)]
          congr 1
          exact det_congr (fun r c hr hc => by rw [b2u _ _ hr, show skip (k + 1) c = c from if_pos (by omega), g1 c (by omega)])
        · intro c hc
          rw [b2k, show skip (k + 1) c = c from if_pos (by omega), g1 c (by omega), bm_j0 hc]
      rw [f1, f2]
      grind
    · intro c hc h1 h2
      rw [b2l, g1 c (by omega), bm_j0 (by omega)]
      simp
  rw [hB]
  have h5 : det k A * (det (k + 2) B * det k A - (bm A k i j * bm A k k k - bm A k i k * bm A k k j)) = 0 := by
    rw [e3, e1] at e2
    grind
  rcases Int.mul_eq_zero.mp h5 with h6 | h6
  · exact absurd h6 hD
  · omega
/-- the step of a row above the pivot -/
theorem jord {A : Nat → Nat → Int} {k : Nat} (hD : det k A ≠ 0) {i : Nat} (hi : i < k) (j : Nat) : cr A (k + 1) i j * det k A = det (k + 1) A * cr A k i j - cr A k i k * bm A k k j := by
  have h1 : det (k + 1) (setC A i (fun r => det k A * A r j)) = det k A * cr A (k + 1) i j := by
    have := det_linC (n := k + 1) (A := A) (k := i) (by omega) (det k A) 0 (fun r => A r j) (fun r => A r j)
    simp only [Int.zero_mul, Int.add_zero] at this
    exact this
  have h2 : det (k + 1) (setC A i (fun r => det k A * A r j)) = det (k + 1) (setC A i (fun r => bm A k r j)) + sumI (fun l => cr A k l j * det (k + 1) (setC A i (fun r => A r l))) k := by
    rw [← det_sumC (n := k + 1) (A := A) (k := i) (by omega) (fun l => cr A k l j) (fun l r => A r l) k]
    have := det_linC (n := k + 1) (A := A) (k := i) (by omega) 1 1 (fun r => bm A k r j) (fun r => sumI (fun l => cr A k l j * A r l) k)
    simp only [Int.one_mul] at this
    rw [← this]
    exact det_congr (fun r c _ _ => by unfold setC; split; exact bm_cr hD r j; rfl)
  have h3 : sumI (fun l => cr A k l j * det (k + 1) (setC A i (fun r => A r l))) k = cr A k i j * det (k + 1) A := by
    rw [sumI_one (j := i) hi]
    · rw [setC_self]
    · intro l hl hli
      rw [det_eqC' (p := l) (q := i) (by omega) (by omega) hli (fun r => by unfold setC; rw [if_neg hli, if_pos rfl]), Int.mul_zero]
  have h4 : det (k + 1) (setC A i (fun r => bm A k r j)) = - (bm A k k j * cr A k i k) := by
    have := det_swC (n := k + 1) (A := setC A i (fun r => bm A k r j)) (p := i) (q := k) (by omega) (by omega) (by omega)
    rw [det_last] at this
    · have e : swC (setC A i (fun r => bm A k r j)) i k k k = bm A k k j := by
        unfold swC setC
        rw [if_neg (by omega), if_pos rfl, if_pos rfl]
      have e2 : det k (swC (setC A i (fun r => bm A k r j)) i k) = cr A k i k := by
        unfold cr
        refine det_congr (fun r c hr hc => ?_)
        unfold swC setC
        by_cases hci : c = i
        · rw [if_pos hci, if_pos hci, if_neg (by omega)]
        · rw [if_neg hci, if_neg (by omega), if_neg hci, if_neg hci]
      rw [e, e2] at this
      omega
    · intro r hr
      unfold swC setC
      rw [if_neg (by omega), if_pos rfl, if_pos rfl]
      exact bm_i0 hr
  rw [h1, h3, h4] at h2
  grind
/-- all rows of the matrix once k pivots are done -/
def gj (A : Nat → Nat → Int) (k i j : Nat) : Int := if i < k then cr A k i j else bm A k i j
theorem gj_0 (A : Nat → Nat → Int) (i j : Nat) : gj A 0 i j = A i j := by
  unfold gj
  rw [if_neg (by omega), bm_row]
  simp [det, sumI]
theorem gj_kk (A : Nat → Nat → Int) (k : Nat) : gj A k k k = det (k + 1) A := by unfold gj; rw [if_neg (by omega), bm_kk]
theorem gj_row (A : Nat → Nat → Int) (k j : Nat) : gj A (k + 1) k j = gj A k k j := by unfold gj; rw [if_pos (by omega), if_neg (by omega), bm_kj]
theorem gj_step {A : Nat → Nat → Int} {k : Nat} (hD : det k A ≠ 0) {i : Nat} (hi : i ≠ k) (j : Nat) : gj A k k k * gj A k i j - gj A k i k * gj A k k j = gj A (k + 1) i j * det k A := by
  unfold gj
  rw [if_neg (Nat.lt_irrefl k), if_neg (Nat.lt_irrefl k)]
  rcases Nat.lt_or_ge i k with h | h
  · rw [if_pos h, if_pos h, if_pos (by omega), jord hD h, bm_kk]
  · rw [if_neg (by omega), if_neg (by omega), if_neg (by omega), sylv hD]
    grind
/-- a column without pivot -/
theorem det_nopiv {A : Nat → Nat → Int} {n k : Nat} (hk : k < n) (hD : det k A ≠ 0) (h : ∀ i, k ≤ i → i < n → bm A k i k = 0) : det n A = 0 := by
  have h1 : det n (setC A k (fun r => det k A * A r k)) = det k A * det n A := by
    have := det_linC (n := n) (A := A) (k := k) hk (det k A) 0 (fun r => A r k) (fun r => A r k)
    rw [setC_self] at this
    simp only [Int.zero_mul, Int.add_zero] at this
    exact this
  have h2 : det n (setC A k (fun r => det k A * A r k)) = sumI (fun l => cr A k l k * det n (setC A k (fun r => A r l))) k := by
    rw [← det_sumC (n := n) (A := A) (k := k) hk (fun l => cr A k l k) (fun l r => A r l) k]
    refine det_congr (fun r c hr _ => ?_)
    unfold setC
    split
    · dsimp only
      rw [bm_cr hD r k]
      rcases Nat.lt_or_ge r k with q | q
      · rw [bm_i0 q, Int.zero_add]
      · rw [h r q hr, Int.zero_add]
    · rfl
  rw [h1, sumI_zero] at h2
  · rcases Int.mul_eq_zero.mp h2 with h3 | h3
    · exact absurd h3 hD
    · exact h3
  · intro l hl
    rw [det_eqC (p := l) (q := k) hl hk (fun r => by unfold setC; rw [if_neg (by omega), if_pos rfl]), Int.mul_zero]
theorem bm_sw {A : Nat → Nat → Int} {k p i : Nat} (hp : k ≤ p) (hi : k ≤ i) (j : Nat) : bm (swR A k p) k i j = bm A k (if i = k then p else if i = p then k else i) j := by
  unfold bm
  refine det_congr (fun r c hr hc => ?_)
  unfold swR
  by_cases h : r < k
  · rw [if_pos h, if_pos h, if_neg (by omega), if_neg (by omega)]
  · rw [if_neg h, if_neg h]
    split
    · rfl
    · split <;> rfl
theorem det_swlow {A : Nat → Nat → Int} {k p : Nat} (hp : k ≤ p) : det k (swR A k p) = det k A := by
  refine det_congr (fun r c hr hc => ?_)
  unfold swR
  rw [if_neg (by omega), if_neg (by omega)]
/-- bounds -/
theorem prodN_congr {w v : Nat → Nat} {n : Nat} (h : ∀ i, i < n → w i = v i) : prodN w n = prodN v n := by
  induction n with
  | zero => rfl
  | succ n ih => simp only [prodN]; rw [ih (fun i hi => h i (by omega)), h n (by omega)]
theorem prodN_c (c n : Nat) : prodN (fun _ => c) n = c ^ n := by
  induction n with
  | zero => rfl
  | succ n ih => simp only [prodN, Nat.pow_succ]; rw [ih]
