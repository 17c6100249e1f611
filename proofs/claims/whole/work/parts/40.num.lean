/-! NUMBERS AND BITS for the contracts (wip/whole/src/40.num.src) -/
theorem upto {P : Nat → Prop} (N : Nat) (hN : P N) (hs : ∀ o, o < N → P (o + 1) → P o) : ∀ o, o ≤ N → P o := by
  intro o ho
  obtain ⟨k, hk⟩ : ∃ k, o + k = N := ⟨N - o, by omega⟩
  clear ho
  induction k generalizing o with
  | zero => rw [show o = N by omega]; exact hN
  | succ k ih => exact hs o (by omega) (ih (o + 1) (by omega))
theorem inb_iff {n N : Nat} (hn : n < 2 ^ 31) : inb (nI n) N ↔ n < N := by
  unfold inb
  rw [nI_clamp hn]
  have := nI_pos hn
  constructor
  · intro h
    rcases Nat.lt_or_ge n N with h2 | h2
    · exact h2
    · exact absurd (Or.inr h2) h
  · intro h h2
    rcases h2 with h2 | h2
    · exact this h2
    · omega
theorem z_le {n : Nat} (h : n < 2 ^ 31) : nI n ≤ 0 ↔ n = 0 := by rw [← nI_0, nI_leI h (by omega)]; omega
theorem z_ge {n : Nat} (h : n < 2 ^ 31) : 0 ≤ nI n ↔ True := by rw [← nI_0, nI_leI (by omega) h]; simp
theorem z_lt {n : Nat} (h : n < 2 ^ 31) : nI n < 0 ↔ False := by rw [← nI_0, nI_ltI h (by omega)]; simp
theorem z_gt {n : Nat} (h : n < 2 ^ 31) : 0 < nI n ↔ 0 < n := by rw [← nI_0, nI_ltI (by omega) h]
theorem z_eq {n : Nat} (h : n < 2 ^ 31) : nI n = 0 ↔ n = 0 := by rw [← nI_0, nI_eq h (by omega)]
theorem z_eq' {n : Nat} (h : n < 2 ^ 31) : 0 = nI n ↔ n = 0 := by rw [eq_comm, z_eq h]
theorem isB_bI (b : Bool) : isB (bI b) ↔ True := by cases b <;> simp [isB, bI] <;> decide
theorem isB0n : isB (nI 0) ↔ True := by simp [isB0]
theorem isB1n : isB (nI 1) ↔ True := by simp [isB1]
theorem bI_0 (b : Bool) : bI b = 0 ↔ b = false := by cases b <;> decide
theorem bI_1 (b : Bool) : bI b = nI 1 ↔ b = true := by cases b <;> decide
theorem bI_eq (b c : Bool) : bI b = bI c ↔ b = c := by cases b <;> cases c <;> decide
theorem bI_t : bI true = nI 1 := rfl
theorem bI_f : bI false = nI 0 := rfl
theorem nI_00 : nI 0 = 0 ↔ True := by decide
theorem nI_10 : nI 1 = 0 ↔ False := by decide
theorem nI_01 : 0 = nI 1 ↔ False := by decide
theorem e01 : nI 0 = nI 1 ↔ False := by decide
theorem e10 : nI 1 = nI 0 ↔ False := by decide
theorem imp_true {p : Prop} : (p → True) ↔ True := by simp
theorem imp_false0 {p : Prop} : (False → p) ↔ True := by simp
theorem true_imp {p : Prop} : (True → p) ↔ p := by simp
theorem false_imp {p : Prop} : (¬ True → p) ↔ True := by simp
/-! bits -/
theorem nI_bit (n i : Nat) (hi : i < 32) : (nI n).toBitVec.getLsbD i = n.testBit i := by
  show (BitVec.ofNat 32 n).getLsbD i = _
  rw [BitVec.getLsbD_ofNat, decide_eq_true hi, Bool.true_and]
theorem i_ext {x y : Int32} (h : ∀ i, i < 32 → x.toBitVec.getLsbD i = y.toBitVec.getLsbD i) : x = y := Int32.toBitVec_inj.mp (BitVec.eq_of_getLsbD_eq (fun i hi => h i hi))
theorem nI_and (a b : Nat) : nI a &&& nI b = nI (a &&& b) := by
  apply i_ext
  intro i hi
  rw [Int32.toBitVec_and, BitVec.getLsbD_and, nI_bit _ _ hi, nI_bit _ _ hi, nI_bit _ _ hi, Nat.testBit_and]
theorem nI_or (a b : Nat) : nI a ||| nI b = nI (a ||| b) := by
  apply i_ext
  intro i hi
  rw [Int32.toBitVec_or, BitVec.getLsbD_or, nI_bit _ _ hi, nI_bit _ _ hi, nI_bit _ _ hi, Nat.testBit_or]
def ndiff (a b : Nat) : Nat := a ^^^ (a &&& b)
theorem ndiff_bit (a b i : Nat) : (ndiff a b).testBit i = (a.testBit i && !b.testBit i) := by
  unfold ndiff
  rw [Nat.testBit_xor, Nat.testBit_and]
  cases a.testBit i <;> cases b.testBit i <;> rfl
theorem m1_bit : ∀ i, i < 32 → (-1 : Int32).toBitVec.getLsbD i = true := by decide +kernel
theorem nI_diff (a b : Nat) : nI a &&& (nI b ^^^ (-1 : Int32)) = nI (ndiff a b) := by
  apply i_ext
  intro i hi
  rw [Int32.toBitVec_and, BitVec.getLsbD_and, Int32.toBitVec_xor, BitVec.getLsbD_xor, nI_bit _ _ hi, nI_bit _ _ hi, nI_bit _ _ hi, m1_bit _ hi, ndiff_bit]
  cases a.testBit i <;> cases b.testBit i <;> rfl
theorem sh_l : ∀ n, n < 32 → ((nI n &&& 31).toBitVec.smod 32).toNat = n := by decide +kernel
theorem one_shl {s : Nat} (h : s < 31) : nI 1 <<< (nI s &&& 31) = nI (2 ^ s) := by
  rw [pk_shlN _ s (sh_l s (by omega)), Nat.one_mul]
  rw [Nat.one_mul]
  exact Nat.pow_lt_pow_right (by decide) (by omega)
theorem shr_n {b s : Nat} (hb : b < 2 ^ 31) (h : s < 32) : nI b >>> (nI s &&& 31) = nI (b / 2 ^ s) := pk_shrN hb _ s (sh_l s h)
theorem shr_bit {b s : Nat} (hb : b < 2 ^ 31) (h : s < 32) : (nI b >>> (nI s &&& 31)) &&& nI 1 = bI (b.testBit s) := by
  rw [shr_n hb h, nI_and, Nat.and_one_is_mod, Nat.testBit_eq_decide_div_mod_eq]
  rcases Nat.mod_two_eq_zero_or_one (b / 2 ^ s) with h2 | h2 <;> rw [h2] <;> rfl
theorem mask_n {n : Nat} (h : n < 31) : nI 1 <<< (nI n &&& 31) - nI 1 = nI (2 ^ n - 1) := by
  rw [one_shl h]
  exact pk_sub (Nat.one_le_two_pow)
/-- the bits of all STATES -/
def fullB (n : Nat) : Nat := 2 ^ n - 1
theorem fullB_bit (n i : Nat) : (fullB n).testBit i = decide (i < n) := Nat.testBit_two_pow_sub_one n i
theorem p10 {n : Nat} (h : n ≤ 10) : 2 ^ n ≤ 1024 := Nat.pow_le_pow_right (by decide) h
theorem p10l {s : Nat} (h : s < 10) : 2 ^ s ≤ 512 := Nat.pow_le_pow_right (n := 2) (by decide) (show s ≤ 9 by omega)
theorem fullB_lt {n : Nat} (h : n ≤ 10) : fullB n < 1024 := by have := p10 h; have := Nat.two_pow_pos n; unfold fullB; omega
theorem and_lt {a b : Nat} (h : a < 1024) : a &&& b < 1024 := Nat.lt_of_le_of_lt Nat.and_le_left h
theorem and_lt' {a b : Nat} (h : b < 1024) : a &&& b < 1024 := Nat.lt_of_le_of_lt Nat.and_le_right h
theorem or_lt {a b : Nat} (h : a < 1024) (h2 : b < 1024) : a ||| b < 1024 := Nat.or_lt_two_pow (n := 10) h h2
theorem diff_lt {a b : Nat} (h : a < 1024) : ndiff a b < 1024 := Nat.xor_lt_two_pow (n := 10) h (and_lt h)
theorem two_bit (s i : Nat) : (2 ^ s).testBit i = decide (s = i) := Nat.testBit_two_pow
/-- bits b are within the STATES 0 .. n - 1 -/
def sub_n (b n : Nat) : Prop := ∀ i, b.testBit i = true → i < n
theorem sub_lt {b n : Nat} (h : sub_n b n) (hn : n ≤ 10) : b < 1024 := by
  apply Nat.lt_pow_two_of_testBit (n := 10)
  intro i hi
  cases hb : b.testBit i with
  | false => rfl
  | true => have := h i hb; omega
/-! folds -/
def allU (f : Nat → Bool) : Nat → Bool
  | 0 => true
  | n + 1 => allU f n && f n
def anyU (f : Nat → Bool) : Nat → Bool
  | 0 => false
  | n + 1 => anyU f n || f n
def sumU (f : Nat → Nat) : Nat → Nat
  | 0 => 0
  | n + 1 => sumU f n + f n
def orU (f : Nat → Nat) : Nat → Nat
  | 0 => 0
  | n + 1 => orU f n ||| f n
theorem allU_iff {f : Nat → Bool} {n : Nat} : allU f n = true ↔ ∀ i, i < n → f i = true := by
  induction n with
  | zero => simp [allU]
  | succ n ih =>
    simp only [allU, Bool.and_eq_true, ih]
    constructor
    · intro h i hi
      rcases Nat.lt_or_ge i n with h2 | h2
      · exact h.1 i h2
      · rw [show i = n by omega]; exact h.2
    · intro h
      exact ⟨fun i hi => h i (by omega), h n (by omega)⟩
theorem anyU_iff {f : Nat → Bool} {n : Nat} : anyU f n = true ↔ ∃ i, i < n ∧ f i = true := by
  induction n with
  | zero => simp [anyU]
  | succ n ih =>
    simp only [anyU, Bool.or_eq_true, ih]
    constructor
    · rintro (⟨i, h1, h2⟩ | h)
      · exact ⟨i, by omega, h2⟩
      · exact ⟨n, by omega, h⟩
    · rintro ⟨i, h1, h2⟩
      rcases Nat.lt_or_ge i n with h3 | h3
      · exact Or.inl ⟨i, h3, h2⟩
      · rw [show i = n by omega] at h2; exact Or.inr h2
theorem allU_congr {f g : Nat → Bool} {n : Nat} (h : ∀ i, i < n → f i = g i) : allU f n = allU g n := by
  induction n with
  | zero => rfl
  | succ n ih => simp only [allU]; rw [ih (fun i hi => h i (by omega)), h n (by omega)]
theorem anyU_congr {f g : Nat → Bool} {n : Nat} (h : ∀ i, i < n → f i = g i) : anyU f n = anyU g n := by
  induction n with
  | zero => rfl
  | succ n ih => simp only [anyU]; rw [ih (fun i hi => h i (by omega)), h n (by omega)]
theorem sumU_congr {f g : Nat → Nat} {n : Nat} (h : ∀ i, i < n → f i = g i) : sumU f n = sumU g n := by
  induction n with
  | zero => rfl
  | succ n ih => simp only [sumU]; rw [ih (fun i hi => h i (by omega)), h n (by omega)]
theorem orU_congr {f g : Nat → Nat} {n : Nat} (h : ∀ i, i < n → f i = g i) : orU f n = orU g n := by
  induction n with
  | zero => rfl
  | succ n ih => simp only [orU]; rw [ih (fun i hi => h i (by omega)), h n (by omega)]
theorem sumU_le {f : Nat → Nat} {n c : Nat} (h : ∀ i, i < n → f i ≤ c) : sumU f n ≤ n * c := by
  induction n with
  | zero => simp [sumU]
  | succ n ih =>
    have h1 := ih (fun i hi => h i (by omega))
    have h2 := h n (by omega)
    simp only [sumU, Nat.succ_mul]
    omega
theorem sumU_mono {f : Nat → Nat} {n k : Nat} (h : k ≤ n) : sumU f k ≤ sumU f n := by
  induction n with
  | zero => rw [show k = 0 by omega]; exact Nat.le_refl _
  | succ n ih =>
    rcases Nat.lt_or_ge k (n + 1) with h2 | h2
    · have := ih (by omega); simp only [sumU]; omega
    · rw [show k = n + 1 by omega]; exact Nat.le_refl _
theorem orU_bit {f : Nat → Nat} {n i : Nat} : (orU f n).testBit i = anyU (fun j => (f j).testBit i) n := by
  induction n with
  | zero => simp [orU, anyU]
  | succ n ih => simp only [orU, anyU, Nat.testBit_or, ih]
theorem orU_lt {f : Nat → Nat} {n : Nat} (h : ∀ i, i < n → f i < 1024) : orU f n < 1024 := by
  induction n with
  | zero => simp [orU]
  | succ n ih => exact or_lt (ih (fun i hi => h i (by omega))) (h n (by omega))
theorem sumU_add (f : Nat → Nat) (n k : Nat) : sumU f (n + k) = sumU f n + sumU (fun i => f (n + i)) k := by
  induction k with
  | zero => rfl
  | succ k ih => rw [← Nat.add_assoc]; simp only [sumU]; rw [ih]; omega
/-! memory: reads over writes -/
theorem mI_r (m : Mem) (t i k : Nat) (v : Int32) (t' i' k' : Nat) : (mI m t i k v).1 t' i' k' = if t' = t ∧ i' = i ∧ k' = k then v else m.1 t' i' k' := rfl
theorem mI_2 (m : Mem) (t i k : Nat) (v : Int32) : (mI m t i k v).2 = m.2 := rfl
theorem mL_r (m : Mem) (t i k : Nat) (v : Int64) (t' i' k' : Nat) : (mL m t i k v).2 t' i' k' = if t' = t ∧ i' = i ∧ k' = k then v else m.2 t' i' k' := rfl
theorem mL_1 (m : Mem) (t i k : Nat) (v : Int64) : (mL m t i k v).1 = m.1 := rfl
/-- nothing has changed but cells (t, i) of T -/
def off (T : Nat → Nat → Prop) (m m' : Mem) : Prop := ∀ t i, ¬ T t i → m'.1 t i = m.1 t i ∧ m'.2 t i = m.2 t i
theorem off_rfl (T : Nat → Nat → Prop) (m : Mem) : off T m m := fun _ _ _ => ⟨rfl, rfl⟩
theorem off_trans {T : Nat → Nat → Prop} {a b c : Mem} (h : off T a b) (h2 : off T b c) : off T a c := fun t i q => ⟨(h2 t i q).1.trans (h t i q).1, (h2 t i q).2.trans (h t i q).2⟩
theorem off_sub {T T' : Nat → Nat → Prop} {a b : Mem} (h : off T a b) (hs : ∀ t i, T t i → T' t i) : off T' a b := fun t i q => h t i (fun z => q (hs t i z))
theorem off_I {T : Nat → Nat → Prop} {a b : Mem} (h : off T a b) {t i : Nat} (k : Nat) (v : Int32) (hT : T t i) : off T a (mI b t i k v) := by
  intro t' i' q
  refine ⟨?_, (h t' i' q).2⟩
  funext k'
  rw [mI_r, if_neg (fun z => q (by rw [z.1, z.2.1]; exact hT)), (h t' i' q).1]
theorem off_L {T : Nat → Nat → Prop} {a b : Mem} (h : off T a b) {t i : Nat} (k : Nat) (v : Int64) (hT : T t i) : off T a (mL b t i k v) := by
  intro t' i' q
  refine ⟨(h t' i' q).1, ?_⟩
  funext k'
  rw [mL_r, if_neg (fun z => q (by rw [z.1, z.2.1]; exact hT)), (h t' i' q).2]
