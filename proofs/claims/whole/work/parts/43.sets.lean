/-! SETS OF STATES AS BITS: closures (wip/whole/src/43.sets.src) -/
def bsub (a b : Nat) : Prop := ∀ i, a.testBit i = true → b.testBit i = true
theorem bsub_rfl (a : Nat) : bsub a a := fun _ h => h
theorem bsub_trans {a b c : Nat} (h : bsub a b) (h2 : bsub b c) : bsub a c := fun i q => h2 i (h i q)
theorem bsub_anti {a b : Nat} (h : bsub a b) (h2 : bsub b a) : a = b := by
  apply Nat.eq_of_testBit_eq
  intro i
  cases ha : a.testBit i with
  | true => exact (h i ha).symm
  | false =>
    cases hb : b.testBit i with
    | true => rw [h2 i hb] at ha; cases ha
    | false => rfl
theorem bsub_or {a b c : Nat} (h : bsub a c) (h2 : bsub b c) : bsub (a ||| b) c := by
  intro i q
  rw [Nat.testBit_or, Bool.or_eq_true] at q
  rcases q with q | q
  · exact h i q
  · exact h2 i q
theorem bsub_l (a b : Nat) : bsub a (a ||| b) := fun i q => by rw [Nat.testBit_or, q]; rfl
theorem bsub_r (a b : Nat) : bsub b (a ||| b) := fun i q => by rw [Nat.testBit_or, q, Bool.or_true]
theorem bsub_le {a b : Nat} (h : bsub a b) : a ≤ b := by
  rw [← bsub_anti (bsub_or h (bsub_rfl b)) (bsub_r a b)]
  exact Nat.left_le_or
theorem bsub_two {s b : Nat} (h : b.testBit s = true) : bsub (2 ^ s) b := by
  intro i q
  rw [two_bit] at q
  rw [← of_decide_eq_true q]
  exact h
theorem two_self (s : Nat) : (2 ^ s).testBit s = true := by rw [two_bit]; simp
theorem bsub_0 (b : Nat) : bsub 0 b := fun i q => by rw [Nat.zero_testBit] at q; cases q
theorem sub_n_full {b n : Nat} : sub_n b n ↔ bsub b (fullB n) := by
  constructor
  · intro h i q
    rw [fullB_bit]
    exact decide_eq_true (h i q)
  · intro h i q
    have := h i q
    rw [fullB_bit] at this
    exact of_decide_eq_true this
theorem sub_n_or {a b n : Nat} (h : sub_n a n) (h2 : sub_n b n) : sub_n (a ||| b) n := sub_n_full.mpr (bsub_or (sub_n_full.mp h) (sub_n_full.mp h2))
theorem sub_n_two {s n : Nat} (h : s < n) : sub_n (2 ^ s) n := fun i q => by rw [two_bit] at q; rw [← of_decide_eq_true q]; exact h
theorem sub_n_fullB (n : Nat) : sub_n (fullB n) n := sub_n_full.mpr (bsub_rfl _)
theorem sub_n_of {a b n : Nat} (h : bsub a b) (hb : sub_n b n) : sub_n a n := fun i q => hb i (h i q)
theorem bsub_and_l (a b : Nat) : bsub (a &&& b) a := fun i q => by rw [Nat.testBit_and, Bool.and_eq_true] at q; exact q.1
theorem bsub_and_r (a b : Nat) : bsub (a &&& b) b := fun i q => by rw [Nat.testBit_and, Bool.and_eq_true] at q; exact q.2
/-- how many bits -/
def cntB (b : Nat) : Nat := sumU (fun i => (b.testBit i).toNat) 10
theorem sumU_mono2 {f g : Nat → Nat} {n : Nat} (h : ∀ i, i < n → f i ≤ g i) : sumU f n ≤ sumU g n := by
  induction n with
  | zero => exact Nat.le_refl _
  | succ n ih =>
    have h1 := ih (fun i hi => h i (by omega))
    have h2 := h n (by omega)
    simp only [sumU]
    omega
theorem sumU_lt {f g : Nat → Nat} {n : Nat} (h : ∀ i, i < n → f i ≤ g i) {j : Nat} (hj : j < n) (hl : f j < g j) : sumU f n < sumU g n := by
  induction n with
  | zero => omega
  | succ n ih =>
    simp only [sumU]
    rcases Nat.lt_or_ge j n with h2 | h2
    · have h3 := ih (fun i hi => h i (by omega)) h2
      have h4 := h n (by omega)
      omega
    · have h3 := sumU_mono2 (f := f) (g := g) (n := n) (fun i hi => h i (by omega))
      rw [show j = n by omega] at hl
      omega
theorem cnt_le {a b : Nat} (h : bsub a b) : cntB a ≤ cntB b := by
  refine sumU_mono2 (fun i _ => ?_)
  cases ha : a.testBit i with
  | false => simp
  | true => rw [h i ha]; exact Nat.le_refl _
theorem cnt_lt {a b : Nat} (h : bsub a b) (hne : a ≠ b) (hb : b < 1024) : cntB a < cntB b := by
  have h1 : ∃ i, ¬ (b.testBit i = true → a.testBit i = true) := by
    apply Classical.byContradiction
    intro z
    exact hne (bsub_anti h (fun i q => Classical.byContradiction (fun y => z ⟨i, fun w => y (w q)⟩)))
  obtain ⟨i, hi⟩ := h1
  have hbi : b.testBit i = true := Classical.byContradiction (fun z => hi (fun w => absurd w z))
  have hai : a.testBit i = false := by
    cases q : a.testBit i with
    | false => rfl
    | true => exact absurd (fun _ => q) hi
  have h10 : i < 10 := by
    rcases Nat.lt_or_ge i 10 with q | q
    · exact q
    · have h2 : b < 2 ^ i := Nat.lt_of_lt_of_le hb (Nat.pow_le_pow_right (n := 2) (by decide) q)
      rw [Nat.testBit_lt_two_pow h2] at hbi
      cases hbi
  refine sumU_lt (fun j _ => ?_) h10 ?_
  · cases ha : a.testBit j with
    | false => simp
    | true => rw [h j ha]; exact Nat.le_refl _
  · simp only [hai, hbi]; decide
theorem cnt_10 (b : Nat) : cntB b ≤ 10 := by
  have := sumU_le (f := fun i => (b.testBit i).toNat) (n := 10) (c := 1) (fun i _ => Bool.toNat_le _)
  unfold cntB
  omega
theorem cnt_full {b : Nat} (h : 10 ≤ cntB b) (i : Nat) (hi : i < 10) : b.testBit i = true := by
  cases hb : b.testBit i with
  | true => rfl
  | false =>
    have h1 := sumU_lt (f := fun i => (b.testBit i).toNat) (g := fun _ => 1) (n := 10) (fun i _ => Bool.toNat_le _) hi (by simp [hb])
    have h2 : sumU (fun _ => 1) 10 = 10 := by decide
    unfold cntB at h
    omega
/-- one pass over the STATES: those that f lets in come in -/
def passU (f : Nat → Nat → Bool) (y : Nat) : Nat → Nat
  | 0 => y
  | k + 1 => match f (passU f y k) k with
    | true => passU f y k ||| 2 ^ k
    | false => passU f y k
theorem passU_succ (f : Nat → Nat → Bool) (y k : Nat) : passU f y (k + 1) = if f (passU f y k) k = true then passU f y k ||| 2 ^ k else passU f y k := by
  cases h : f (passU f y k) k <;> simp [passU, h]
theorem passU_step {f : Nat → Nat → Bool} {y k : Nat} : bsub (passU f y k) (passU f y (k + 1)) := by
  rw [passU_succ]
  split
  · exact bsub_l _ _
  · exact bsub_rfl _
theorem passU_mono {f : Nat → Nat → Bool} {y k n : Nat} (h : k ≤ n) : bsub (passU f y k) (passU f y n) := by
  induction n with
  | zero => rw [show k = 0 by omega]; exact bsub_rfl _
  | succ n ih =>
    rcases Nat.lt_or_ge k (n + 1) with q | q
    · exact bsub_trans (ih (by omega)) passU_step
    · rw [show k = n + 1 by omega]; exact bsub_rfl _
theorem passU_min {f : Nat → Nat → Bool} {y z : Nat} (hy : bsub y z) {n : Nat} (hz : ∀ w k, k < n → bsub w z → f w k = true → z.testBit k = true) : bsub (passU f y n) z := by
  induction n with
  | zero => exact hy
  | succ n ih =>
    have h1 := ih (fun w k hk => hz w k (by omega))
    rw [passU_succ]
    split
    · rename_i h
      exact bsub_or h1 (bsub_two (hz _ n (by omega) h1 h))
    · exact h1
theorem passU_fix {f : Nat → Nat → Bool} {y n : Nat} (h : passU f y n = y) (k : Nat) (hk : k < n) (hf : f y k = true) : y.testBit k = true := by
  have h1 : passU f y k = y := bsub_anti (by have := passU_mono (f := f) (y := y) (show k ≤ n by omega); rw [h] at this; exact this) (passU_mono (f := f) (y := y) (Nat.zero_le k))
  have h2 : bsub (passU f y (k + 1)) y := by have := passU_mono (f := f) (y := y) (show k + 1 ≤ n by omega); rw [h] at this; exact this
  rw [passU_succ, h1, if_pos hf] at h2
  exact h2 k (bsub_r _ _ k (two_self k))
theorem passU_subn {f : Nat → Nat → Bool} {y n N : Nat} (hy : sub_n y N) (hn : n ≤ N) : sub_n (passU f y n) N := by
  rw [sub_n_full] at hy ⊢
  exact passU_min hy (fun w k hk _ _ => by rw [fullB_bit]; exact decide_eq_true (by omega))
/-! leadS grows with both sets -/
section S43
variable {S : Sys}
theorem allIn_mono {x a b : Nat} (h : bsub a b) (ha : allInS S x a = true) : allInS S x b = true := by
  unfold allInS at ha ⊢
  rw [allU_iff] at ha ⊢
  exact fun i hi => h _ (ha i hi)
theorem someIn_mono {x a b : Nat} (h : bsub a b) (ha : someInS S x a = true) : someInS S x b = true := by
  unfold someInS at ha ⊢
  rw [anyU_iff] at ha ⊢
  obtain ⟨i, hi, q⟩ := ha
  exact ⟨i, hi, h _ q⟩
theorem leadA_mono {x a b c e : Nat} (h : bsub a b) (h2 : bsub c e) (ha : leadA S a c x = true) : leadA S b e x = true := by
  unfold leadA at ha ⊢
  rw [Bool.and_eq_true] at ha ⊢
  exact ⟨allIn_mono h ha.1, someIn_mono h2 ha.2⟩
theorem leadS_mono {l : Bool} {s a b c e : Nat} (h : bsub a b) (h2 : bsub c e) (ha : leadS S l a c s = true) : leadS S l b e s = true := by
  unfold leadS at ha ⊢
  cases hw : wantS S l s with
  | true =>
    rw [hw] at ha
    simp only at ha ⊢
    rw [anyU_iff] at ha ⊢
    obtain ⟨i, hi, q⟩ := ha
    exact ⟨i, hi, leadA_mono h h2 q⟩
  | false =>
    rw [hw] at ha
    simp only [Bool.and_eq_true] at ha ⊢
    refine ⟨ha.1, ?_⟩
    rw [allU_iff]
    exact fun i hi => leadA_mono h h2 (allU_iff.mp ha.2 i hi)
/-- y: the least set that holds the MARKED and what leads to it by ACTS that stay in x -/
def isG (S : Sys) (l : Bool) (x y : Nat) : Prop := sub_n y (sN S) ∧ bsub (sM S) y ∧ (∀ s, s < sN S → leadS S l x y s = true → y.testBit s = true) ∧ ∀ z, bsub (sM S) z → (∀ s, s < sN S → leadS S l x z s = true → z.testBit s = true) → bsub y z
theorem isG_uniq {l : Bool} {x y y' : Nat} (h : isG S l x y) (h' : isG S l x y') : y = y' := bsub_anti (h.2.2.2 y' h'.2.1 h'.2.2.1) (h'.2.2.2 y h.2.1 h.2.2.1)
theorem isG_mono {l : Bool} {x x' y y' : Nat} (hx : bsub x x') (h : isG S l x y) (h' : isG S l x' y') : bsub y y' := h.2.2.2 y' h'.2.1 (fun s hs q => h'.2.2.1 s hs (leadS_mono hx (bsub_rfl _) q))
/-- X: the greatest set that is its own isG -/
def isOnes (S : Sys) (l : Bool) (X : Nat) : Prop := isG S l X X ∧ ∀ Z Y, sub_n Z (sN S) → isG S l Z Y → bsub Z Y → bsub Z X
theorem isOnes_uniq {l : Bool} {X X' : Nat} (h : isOnes S l X) (h' : isOnes S l X') : X = X' := bsub_anti (h'.2 X X h.1.1 h.1 (bsub_rfl _)) (h.2 X' X' h'.1.1 h'.1 (bsub_rfl _))
/-- a step of the sequence that comes down to isOnes -/
theorem ones_step {l : Bool} {x y : Nat} (hx : ∀ Z Y, sub_n Z (sN S) → isG S l Z Y → bsub Z Y → bsub Z x) (h : isG S l x y) : ∀ Z Y, sub_n Z (sN S) → isG S l Z Y → bsub Z Y → bsub Z y := fun Z Y h1 h2 h3 => bsub_trans h3 (isG_mono (hx Z Y h1 h2 h3) h2 h)
end S43
