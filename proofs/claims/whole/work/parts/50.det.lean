/-! DETERMINANTS (wip/whole/src/50.det.src): by the last column, and by the last row -/
theorem sumI_congr {f g : Nat → Int} {n : Nat} (h : ∀ i, i < n → f i = g i) : sumI f n = sumI g n := by
  induction n with
  | zero => rfl
  | succ n ih => simp only [sumI]; rw [ih (fun i hi => h i (by omega)), h n (by omega)]
theorem sumI_add (f g : Nat → Int) (n : Nat) : sumI (fun i => f i + g i) n = sumI f n + sumI g n := by
  induction n with
  | zero => rfl
  | succ n ih => simp only [sumI]; rw [ih]; omega
theorem sumI_mul (c : Int) (f : Nat → Int) (n : Nat) : sumI (fun i => c * f i) n = c * sumI f n := by
  induction n with
  | zero => simp [sumI]
  | succ n ih => simp only [sumI]; rw [ih, Int.mul_add]
theorem sumI_neg (f : Nat → Int) (n : Nat) : sumI (fun i => - f i) n = - sumI f n := by
  induction n with
  | zero => rfl
  | succ n ih => simp only [sumI]; rw [ih]; omega
theorem sumI_zero {f : Nat → Int} {n : Nat} (h : ∀ i, i < n → f i = 0) : sumI f n = 0 := by
  induction n with
  | zero => rfl
  | succ n ih => simp only [sumI]; rw [ih (fun i hi => h i (by omega)), h n (by omega)]; rfl
theorem sumI_one {f : Nat → Int} {n j : Nat} (hj : j < n) (h : ∀ i, i < n → i ≠ j → f i = 0) : sumI f n = f j := by
  induction n with
  | zero => omega
  | succ n ih =>
    simp only [sumI]
    rcases Nat.lt_or_ge j n with q | q
    · rw [ih q (fun i hi => h i (by omega)), h n (by omega) (by omega)]; omega
    · rw [sumI_zero (fun i hi => h i (by omega) (by omega)), show j = n by omega]; omega
theorem sumI_two {f : Nat → Int} {n j k : Nat} (hjk : j < k) (hk : k < n) (h : ∀ i, i < n → i ≠ j → i ≠ k → f i = 0) : sumI f n = f j + f k := by
  induction n with
  | zero => omega
  | succ n ih =>
    simp only [sumI]
    rcases Nat.lt_or_ge k n with q | q
    · rw [ih q (fun i hi => h i (by omega)), h n (by omega) (by omega) (by omega)]; omega
    · rw [sumI_one (j := j) (by omega) (fun i hi h2 => h i (by omega) h2 (by omega)), show k = n by omega]
theorem sumI_swap (f : Nat → Nat → Int) (n k : Nat) : sumI (fun i => sumI (fun j => f i j) k) n = sumI (fun j => sumI (fun i => f i j) n) k := by
  induction n with
  | zero => simp only [sumI]; exact (sumI_zero (fun _ _ => rfl)).symm
  | succ n ih => simp only [sumI]; rw [ih, ← sumI_add]
theorem sumI_succ (f : Nat → Int) (n : Nat) : sumI f (n + 1) = sumI f n + f n := rfl
/-- the sign of n -/
def sg (n : Nat) : Int := if n % 2 = 0 then 1 else -1
theorem sg_s (n : Nat) : sg (n + 1) = - sg n := by
  unfold sg
  rcases Nat.mod_two_eq_zero_or_one n with h | h
  · rw [if_pos h, if_neg (by omega)]
  · rw [if_pos (by omega), if_neg (by omega)]; rfl
theorem sg_sq (n : Nat) : sg n * sg n = 1 := by unfold sg; split <;> rfl
theorem sg_dbl (n : Nat) : sg (n + n) = 1 := by unfold sg; rw [if_pos (by omega)]
theorem sg_add (a b : Nat) : sg (a + b) = sg a * sg b := by
  induction b with
  | zero => rw [Nat.add_zero, show sg 0 = 1 from rfl, Int.mul_one]
  | succ b ih => rw [← Nat.add_assoc, sg_s, ih, sg_s, Int.mul_neg]
def skip (i r : Nat) : Nat := if r < i then r else r + 1
def det : Nat → (Nat → Nat → Int) → Int
  | 0, _ => 1
  | n + 1, A => sumI (fun i => sg (n + i) * A i n * det n (fun r c => A (skip i r) c)) (n + 1)
def detR : Nat → (Nat → Nat → Int) → Int
  | 0, _ => 1
  | n + 1, A => sumI (fun j => sg (n + j) * A n j * detR n (fun r c => A r (skip j c))) (n + 1)
theorem skip_lt {i r n : Nat} (h : r < n) : skip i r < n + 1 := by unfold skip; split <;> omega
theorem det_congr {n : Nat} : ∀ {A B : Nat → Nat → Int}, (∀ r c, r < n → c < n → A r c = B r c) → det n A = det n B := by
  induction n with
  | zero => intro A B _; rfl
  | succ n ih =>
    intro A B h
    simp only [det]
    refine sumI_congr (fun i hi => ?_)
    rw [h i n hi (by omega), ih (fun r c hr hc => h _ c (skip_lt hr) (by omega))]
theorem det_tr {n : Nat} : ∀ (A : Nat → Nat → Int), det n A = detR n (fun r c => A c r) := by
  induction n with
  | zero => intro A; rfl
  | succ n ih =>
    intro A
    simp only [det, detR]
    exact sumI_congr (fun i hi => by rw [ih])
theorem detR_congr {n : Nat} {A B : Nat → Nat → Int} (h : ∀ r c, r < n → c < n → A r c = B r c) : detR n A = detR n B := by
  rw [← det_tr (fun r c => A c r), ← det_tr (fun r c => B c r)]
  exact det_congr (fun r c hr hc => h c r hc hr)
/-- the two are one -/
theorem det_R : ∀ (n : Nat) (A : Nat → Nat → Int), det n A = detR n A := by
  intro n
  induction n using Nat.strongRecOn with
  | _ n ih =>
    intro A
    match n, ih with
    | 0, _ => rfl
    | 1, _ => rfl
    | n + 2, ih =>
      have e1 : det (n + 2) A = A (n + 1) (n + 1) * det (n + 1) A + sumI (fun i => sumI (fun j => sg (n + 1 + i) * A i (n + 1) * (sg (n + j) * A (n + 1) j * det n (fun r c => A (skip i r) (skip j c)))) (n + 1)) (n + 1) := by
        show sumI _ (n + 1) + _ = _
        rw [Int.add_comm]
        congr 1
        · dsimp only
          rw [sg_dbl, Int.one_mul]
          congr 1
          exact det_congr (fun r c hr hc => by rw [show skip (n + 1) r = r from if_pos hr])
        · refine sumI_congr (fun i hi => ?_)
          rw [sumI_mul]
          congr 1
          rw [ih (n + 1) (by omega)]
          show sumI _ (n + 1) = _
          refine sumI_congr (fun j hj => ?_)
          dsimp only
          rw [show skip i n = n + 1 from if_neg (by omega), ← ih n (by omega)]
      have e2 : detR (n + 2) A = A (n + 1) (n + 1) * det (n + 1) A + sumI (fun j => sumI (fun i => sg (n + 1 + j) * A (n + 1) j * (sg (n + i) * A i (n + 1) * det n (fun r c => A (skip i r) (skip j c)))) (n + 1)) (n + 1) := by
        show sumI _ (n + 1) + _ = _
        rw [Int.add_comm]
        congr 1
        · dsimp only
          rw [sg_dbl, Int.one_mul, ih (n + 1) (by omega)]
          congr 1
          exact detR_congr (fun r c hr hc => by rw [show skip (n + 1) c = c from if_pos hc])
        · refine sumI_congr (fun j hj => ?_)
          rw [sumI_mul]
          congr 1
          rw [← ih (n + 1) (by omega)]
          show sumI _ (n + 1) = _
          refine sumI_congr (fun i hi => ?_)
          dsimp only
          rw [show skip j n = n + 1 from if_neg (by omega)]
      rw [e1, e2, sumI_swap]
      congr 1
      refine sumI_congr (fun j hj => sumI_congr (fun i hi => ?_))
      rw [show n + 1 + i = n + i + 1 by omega, show n + 1 + j = n + j + 1 by omega, sg_s, sg_s]
      grind
theorem det_T (n : Nat) (A : Nat → Nat → Int) : det n (fun r c => A c r) = det n A := by rw [det_tr, ← det_R]
/-- row k is v -/
def setR (A : Nat → Nat → Int) (k : Nat) (v : Nat → Int) : Nat → Nat → Int := fun r c => if r = k then v c else A r c
def setC (A : Nat → Nat → Int) (k : Nat) (v : Nat → Int) : Nat → Nat → Int := fun r c => if c = k then v r else A r c
theorem setR_self (A : Nat → Nat → Int) (k : Nat) : setR A k (A k) = A := by
  funext r c; unfold setR; split
  · rename_i h; rw [h]
  · rfl
theorem skip_ne (i r : Nat) : skip i r ≠ i := by unfold skip; split <;> omega
theorem skip_inj {i a b : Nat} (h : skip i a = skip i b) : a = b := by unfold skip at h; split at h <;> split at h <;> omega
/-- where k stands once i is gone -/
def unskip (i k : Nat) : Nat := if k < i then k else k - 1
theorem skip_un {i k : Nat} (h : k ≠ i) : skip i (unskip i k) = k := by
  unfold skip unskip
  rcases Nat.lt_or_ge k i with q | q
  · rw [if_pos q, if_pos q]
  · rw [if_neg (show ¬ k < i by omega), if_neg (show ¬ k - 1 < i by omega)]; omega
theorem unskip_lt {i k n : Nat} (h : k ≠ i) (hk : k < n + 1) (hi : i < n + 1) : unskip i k < n := by unfold unskip; split <;> omega
theorem skip_eq {i r k : Nat} (h : k ≠ i) : skip i r = k ↔ r = unskip i k := by
  constructor
  · intro e; exact skip_inj (i := i) (by rw [e, skip_un h])
  · intro e; rw [e, skip_un h]
theorem setR_skip {A : Nat → Nat → Int} {i k : Nat} {v : Nat → Int} (h : k ≠ i) : (fun r c => setR A k v (skip i r) c) = setR (fun r c => A (skip i r) c) (unskip i k) v := by
  funext r c
  unfold setR
  by_cases hr : r = unskip i k
  · rw [if_pos ((skip_eq h).mpr hr), if_pos hr]
  · rw [if_neg (fun z => hr ((skip_eq h).mp z)), if_neg hr]
/-- linear in row k -/
theorem det_linR {n : Nat} : ∀ {A : Nat → Nat → Int} {k : Nat}, k < n → ∀ (a b : Int) (u v : Nat → Int), det n (setR A k (fun c => a * u c + b * v c)) = a * det n (setR A k u) + b * det n (setR A k v) := by
  induction n with
  | zero => intro A k hk; omega
  | succ n ih =>
    intro A k hk a b u v
    simp only [det]
    rw [← sumI_mul, ← sumI_mul, ← sumI_add]
    refine sumI_congr (fun i hi => ?_)
    by_cases h : i = k
    · subst h
      have e : ∀ w : Nat → Int, det n (fun r c => setR A i w (skip i r) c) = det n (fun r c => A (skip i r) c) := fun w => det_congr (fun r c _ _ => if_neg (skip_ne i r))
      rw [e, e, e]
      simp only [setR, if_pos rfl]
      grind
    · have e : ∀ w : Nat → Int, setR A k w i n = A i n := fun w => if_neg h
      rw [e, e, e, setR_skip (Ne.symm h), setR_skip (Ne.symm h), setR_skip (Ne.symm h), ih (unskip_lt (Ne.symm h) hk hi)]
      grind
/-- neighbours alike: nothing -/
theorem det_adj {n : Nat} : ∀ {A : Nat → Nat → Int} {k : Nat}, k + 1 < n → (∀ c, A k c = A (k + 1) c) → det n A = 0 := by
  induction n with
  | zero => intro A k hk; omega
  | succ n ih =>
    intro A k hk h
    simp only [det]
    rw [sumI_two (j := k) (k := k + 1) (by omega) hk]
    · have e : det n (fun r c => A (skip k r) c) = det n (fun r c => A (skip (k + 1) r) c) := by
        refine det_congr (fun r c _ _ => ?_)
        by_cases hr : r = k
        · subst hr
          rw [show skip r r = r + 1 from if_neg (by omega), show skip (r + 1) r = r from if_pos (by omega), h]
        · congr 1
          unfold skip
          split <;> split <;> omega
      rw [e, h, show n + (k + 1) = n + k + 1 by omega, sg_s]
      grind
    · intro i hi h1 h2
      rw [ih (k := unskip i k) (by unfold unskip; split <;> omega)]
      · grind
      · intro c
        rw [skip_un (by omega), show unskip i k + 1 = unskip i (k + 1) by unfold unskip; split <;> split <;> omega, skip_un (by omega)]
        exact h c
def swR (A : Nat → Nat → Int) (p q : Nat) : Nat → Nat → Int := fun r c => if r = p then A q c else if r = q then A p c else A r c
/-- two rows, set -/
theorem det_two {n : Nat} {A : Nat → Nat → Int} {p q : Nat} (hp : p < n) (hq : q < n) (hpq : p ≠ q) (hz : ∀ B : Nat → Nat → Int, (∀ c, B p c = B q c) → det n B = 0) : det n (swR A p q) = - det n A := by
  have hc : ∀ (u v : Nat → Int), setR (setR A p u) q v = setR (setR A q v) p u := by
    intro u v; funext r c; unfold setR
    by_cases h1 : r = p
    · rw [if_neg (by omega), if_pos h1, if_pos h1]
    · rw [if_neg h1, if_neg h1]
  have hD : ∀ u : Nat → Int, det n (setR (setR A p u) q u) = 0 := by
    intro u
    refine hz _ (fun c => ?_)
    unfold setR
    rw [if_neg hpq, if_pos rfl, if_pos rfl]
  have hl : ∀ (u v w : Nat → Int), det n (setR (setR A p (fun c => 1 * u c + 1 * v c)) q w) = det n (setR (setR A p u) q w) + det n (setR (setR A p v) q w) := by
    intro u v w
    rw [hc, det_linR hp, ← hc, ← hc]
    grind
  have hr : ∀ (u v w : Nat → Int), det n (setR (setR A p w) q (fun c => 1 * u c + 1 * v c)) = det n (setR (setR A p w) q u) + det n (setR (setR A p w) q v) := by
    intro u v w
    rw [det_linR hq]
    grind
  have h0 := hD (fun c => 1 * A p c + 1 * A q c)
  rw [hl, hr, hr, hD, hD] at h0
  have e1 : setR (setR A p (A p)) q (A q) = A := by rw [setR_self, setR_self]
  have e2 : setR (setR A p (A q)) q (A p) = swR A p q := by
    funext r c; unfold setR swR
    by_cases h1 : r = p
    · rw [if_neg (by omega), if_pos h1, if_pos h1]
    · rw [if_neg h1, if_neg h1]
  rw [e1, e2] at h0
  omega
/-- two rows alike: nothing -/
theorem det_eqR {n : Nat} {A : Nat → Nat → Int} {p q : Nat} (hpq : p < q) (hq : q < n) (h : ∀ c, A p c = A q c) : det n A = 0 := by
  obtain ⟨k, hk⟩ : ∃ k, q = p + 1 + k := ⟨q - p - 1, by omega⟩
  induction k generalizing q A with
  | zero =>
    rw [show q = p + 1 by omega] at h hq
    exact det_adj hq h
  | succ k ih =>
    have h2 := det_two (A := A) (p := q - 1) (q := q) (by omega) hq (by omega) (fun B hB => det_adj (k := q - 1) (by omega) (fun c => by rw [show q - 1 + 1 = q by omega]; exact hB c))
    have h3 : det n (swR A (q - 1) q) = 0 := by
      refine ih (q := q - 1) (by omega) (by omega) (fun c => ?_) (by omega)
      unfold swR
      rw [if_neg (by omega), if_neg (by omega), if_pos rfl, h]
    omega
theorem det_swR {n : Nat} {A : Nat → Nat → Int} {p q : Nat} (hp : p < n) (hq : q < n) (hpq : p ≠ q) : det n (swR A p q) = - det n A := by
  refine det_two hp hq hpq (fun B hB => ?_)
  rcases Nat.lt_or_ge p q with h | h
  · exact det_eqR h hq hB
  · exact det_eqR (show q < p by omega) hp (fun c => (hB c).symm)
/-- the same of columns -/
theorem setC_T (A : Nat → Nat → Int) (k : Nat) (v : Nat → Int) : (fun r c => setC A k v c r) = setR (fun r c => A c r) k v := rfl
theorem det_linC {n : Nat} {A : Nat → Nat → Int} {k : Nat} (hk : k < n) (a b : Int) (u v : Nat → Int) : det n (setC A k (fun c => a * u c + b * v c)) = a * det n (setC A k u) + b * det n (setC A k v) := by
  rw [← det_T, ← det_T n (setC A k u), ← det_T n (setC A k v)]
  exact det_linR hk a b u v
theorem det_eqC {n : Nat} {A : Nat → Nat → Int} {p q : Nat} (hpq : p < q) (hq : q < n) (h : ∀ r, A r p = A r q) : det n A = 0 := by
  rw [← det_T]
  exact det_eqR hpq hq h
def swC (A : Nat → Nat → Int) (p q : Nat) : Nat → Nat → Int := fun r c => if c = p then A r q else if c = q then A r p else A r c
theorem det_swC {n : Nat} {A : Nat → Nat → Int} {p q : Nat} (hp : p < n) (hq : q < n) (hpq : p ≠ q) : det n (swC A p q) = - det n A := by
  rw [← det_T, ← det_T n A]
  exact det_swR hp hq hpq
theorem setC_self (A : Nat → Nat → Int) (k : Nat) : setC A k (fun r => A r k) = A := by
  funext r c; unfold setC; split
  · rename_i h; rw [h]
  · rfl
theorem det_eqC' {n : Nat} {A : Nat → Nat → Int} {p q : Nat} (hp : p < n) (hq : q < n) (hpq : p ≠ q) (h : ∀ r, A r p = A r q) : det n A = 0 := by
  rcases Nat.lt_or_ge p q with h2 | h2
  · exact det_eqC h2 hq h
  · exact det_eqC (show q < p by omega) hp (fun c => (h c).symm)
/-- a sum of columns -/
theorem det_sumC {n : Nat} {A : Nat → Nat → Int} {k : Nat} (hk : k < n) (x : Nat → Int) (V : Nat → Nat → Int) : ∀ N, det n (setC A k (fun r => sumI (fun j => x j * V j r) N)) = sumI (fun j => x j * det n (setC A k (V j))) N := by
  intro N
  induction N with
  | zero =>
    have h := det_linC (A := A) hk 0 0 (fun _ => 0) (fun _ => 0)
    simp only [Int.zero_mul, Int.add_zero] at h
    exact h
  | succ N ih =>
    have h := det_linC (A := A) hk 1 (x N) (fun r => sumI (fun j => x j * V j r) N) (V N)
    simp only [Int.one_mul] at h
    rw [ih] at h
    exact h
/-- CRAMER: if the columns of A, each times x, make D times b, then D times the determinant with b in column k is x k times that of A -/
theorem cramer {n : Nat} {A : Nat → Nat → Int} {x b : Nat → Int} {D : Int} (h : ∀ r, r < n → sumI (fun j => x j * A r j) n = D * b r) {k : Nat} (hk : k < n) : D * det n (setC A k b) = x k * det n A := by
  have h1 : det n (setC A k (fun r => D * b r)) = D * det n (setC A k b) := by
    have := det_linC (A := A) hk D 0 b b
    simp only [Int.zero_mul, Int.add_zero] at this
    exact this
  rw [← h1, det_congr (B := setC A k (fun r => sumI (fun j => x j * A r j) n)) (fun r c hr hc => by unfold setC; split; exact (h r hr).symm; rfl)]
  rw [det_sumC hk x (fun j r => A r j), sumI_one (j := k) hk]
  · rw [setC_self]
  · intro i hi hik
    rw [det_eqC' hi hk hik (fun r => by unfold setC; rw [if_neg hik, if_pos rfl]), Int.mul_zero]
/-- the last column has nothing above its end -/
theorem det_last {n : Nat} {A : Nat → Nat → Int} (h : ∀ r, r < n → A r n = 0) : det (n + 1) A = A n n * det n A := by
  simp only [det]
  rw [sumI_one (j := n) (by omega) (fun i hi hin => by rw [h i (by omega)]; simp)]
  rw [sg_dbl, Int.one_mul]
  congr 1
  exact det_congr (fun r c hr hc => by rw [show skip n r = r from if_pos hr])
theorem det_lastR {n : Nat} {A : Nat → Nat → Int} (h : ∀ c, c < n → A n c = 0) : det (n + 1) A = A n n * det n A := by
  rw [← det_T, det_last h, det_T]
/-- no larger than the permanent's bound -/
def facN : Nat → Nat
  | 0 => 1
  | n + 1 => (n + 1) * facN n
def prodN (w : Nat → Nat) : Nat → Nat
  | 0 => 1
  | n + 1 => prodN w n * w n
theorem det_le {n : Nat} : ∀ {A : Nat → Nat → Int} {w : Nat → Nat}, (∀ r c, r < n → c < n → (A r c).natAbs ≤ w c) → (det n A).natAbs ≤ facN n * prodN w n := by
  induction n with
  | zero => intro A w _; exact Nat.le_refl _
  | succ n ih =>
    intro A w h
    simp only [det]
    have key : ∀ N, N ≤ n + 1 → (sumI (fun i => sg (n + i) * A i n * det n (fun r c => A (skip i r) c)) N).natAbs ≤ N * (w n * (facN n * prodN w n)) := by
      intro N
      induction N with
      | zero => intro _; simp [sumI]
      | succ N ihN =>
        intro hN
        have h1 := ihN (by omega)
        have h2 := ih (A := fun r c => A (skip N r) c) (w := w) (fun r c hr hc => h _ c (skip_lt hr) (by omega))
        have h3 := h N n (by omega) (by omega)
        have h4 : (sg (n + N) * A N n * det n (fun r c => A (skip N r) c)).natAbs ≤ w n * (facN n * prodN w n) := by
          rw [Int.natAbs_mul, Int.natAbs_mul]
          have : (sg (n + N)).natAbs = 1 := by unfold sg; split <;> rfl
          rw [this, Nat.one_mul]
          exact Nat.mul_le_mul h3 h2
        simp only [sumI, Nat.succ_mul]
        have h5 := Int.natAbs_add_le (sumI (fun i => sg (n + i) * A i n * det n (fun r c => A (skip i r) c)) N) (sg (n + N) * A N n * det n (fun r c => A (skip N r) c))
        omega
    have := key (n + 1) (Nat.le_refl _)
    simp only [facN, prodN]
    have e : (n + 1) * (w n * (facN n * prodN w n)) = (n + 1) * facN n * (prodN w n * w n) := by
      rw [Nat.mul_comm (w n), Nat.mul_assoc, Nat.mul_assoc]
    omega
