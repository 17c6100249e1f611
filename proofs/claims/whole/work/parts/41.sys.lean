/-! THE SYSTEM: what both sides hold of it (wip/whole/src/41.sys.src) -/
abbrev Sys : Type := (Nat × Nat) × (Nat → Nat) × (Nat → Nat) × (Nat → Nat) × (Nat → Nat) × (Nat → Nat → Nat) × (Nat → Nat → Nat)
/-- STATES, MARKED bits; of a state: how many ACTS; of an act x = 4 s + a: kind, cost, how many OUTCOMES; of an outcome: to, part -/
def sN (S : Sys) : Nat := S.1.1
def sM (S : Sys) : Nat := S.1.2
def sA (S : Sys) : Nat → Nat := S.2.1
def sK (S : Sys) : Nat → Nat := S.2.2.1
def sC (S : Sys) : Nat → Nat := S.2.2.2.1
def sO (S : Sys) : Nat → Nat := S.2.2.2.2.1
def sT (S : Sys) : Nat → Nat → Nat := S.2.2.2.2.2.1
def sP (S : Sys) : Nat → Nat → Nat := S.2.2.2.2.2.2
def isA (S : Sys) (x : Nat) : Prop := x / 4 < sN S ∧ x % 4 < sA S (x / 4)
theorem isA_mk {S : Sys} {s a : Nat} (hs : s < sN S) (ha : a < sA S s) (h4 : a < 4) : isA S (4 * s + a) := by
  unfold isA
  rw [show (4 * s + a) / 4 = s by omega, show (4 * s + a) % 4 = a by omega]
  exact ⟨hs, ha⟩
def partsS (S : Sys) (x : Nat) : Nat := sumU (sP S x) (sO S x)
def goesS (S : Sys) (x : Nat) : Nat := orU (fun o => 2 ^ sT S x o) (sO S x)
def foeS (S : Sys) (s : Nat) : Bool := decide (0 < sA S s) && decide (sK S (4 * s) = 2)
def wantS (S : Sys) (least : Bool) (s : Nat) : Bool := foeS S s == least
def allInS (S : Sys) (x b : Nat) : Bool := allU (fun o => b.testBit (sT S x o)) (sO S x)
def someInS (S : Sys) (x b : Nat) : Bool := anyU (fun o => b.testBit (sT S x o)) (sO S x)
def lackS (S : Sys) : Nat := sumU (fun s => sumU (fun a => 12 - partsS S (4 * s + a)) (sA S s)) (sN S)
/-- ACT x leads: it stays in `stay` and may come to `come` -/
def leadA (S : Sys) (stay come x : Nat) : Bool := allInS S x stay && someInS S x come
def leadS (S : Sys) (least : Bool) (stay come s : Nat) : Bool := match wantS S least s with
  | true => anyU (fun a => leadA S stay come (4 * s + a)) (sA S s)
  | false => decide (0 < sA S s) && allU (fun a => leadA S stay come (4 * s + a)) (sA S s)
def wfA (S : Sys) (x : Nat) : Prop := sK S x ≤ 3 ∧ sC S x ≤ 1000 ∧ sO S x ≤ (if sK S x % 2 = 1 then 1 else 4) ∧ (∀ o, o < sO S x → sT S x o < sN S ∧ 1 ≤ sP S x o ∧ sP S x o ≤ 12 ∧ (sK S x = 3 → sT S x o = x / 4)) ∧ partsS S x ≤ 12 ∧ (sK S x = 2 ↔ sK S (4 * (x / 4)) = 2)
def wf (S : Sys) : Prop := sN S ≤ 10 ∧ sub_n (sM S) (sN S) ∧ (∀ s, s < sN S → sA S s ≤ 4) ∧ (∀ x, isA S x → wfA S x)
theorem wf_n {S : Sys} (h : wf S) : sN S ≤ 10 := h.1
theorem wf_m {S : Sys} (h : wf S) : sM S < 1024 := sub_lt h.2.1 h.1
theorem wf_a {S : Sys} (h : wf S) {s : Nat} (hs : s < sN S) : sA S s ≤ 4 := h.2.2.1 s hs
theorem wf_x {S : Sys} (h : wf S) {x : Nat} (hx : isA S x) : wfA S x := h.2.2.2 x hx
theorem wf_40 {S : Sys} (h : wf S) {x : Nat} (hx : isA S x) : x < 40 := by have := hx.1; have := wf_n h; omega
theorem wf_k {S : Sys} (h : wf S) {x : Nat} (hx : isA S x) : sK S x ≤ 3 := (wf_x h hx).1
theorem wf_c {S : Sys} (h : wf S) {x : Nat} (hx : isA S x) : sC S x ≤ 1000 := (wf_x h hx).2.1
theorem wf_o {S : Sys} (h : wf S) {x : Nat} (hx : isA S x) : sO S x ≤ 4 := by
  have := (wf_x h hx).2.2.1
  split at this <;> omega
theorem wf_t {S : Sys} (h : wf S) {x o : Nat} (hx : isA S x) (ho : o < sO S x) : sT S x o < sN S := ((wf_x h hx).2.2.2.1 o ho).1
theorem wf_t10 {S : Sys} (h : wf S) {x o : Nat} (hx : isA S x) (ho : o < sO S x) : sT S x o < 10 := by have := wf_t h hx ho; have := wf_n h; omega
theorem wf_p {S : Sys} (h : wf S) {x o : Nat} (hx : isA S x) (ho : o < sO S x) : 1 ≤ sP S x o ∧ sP S x o ≤ 12 := ⟨((wf_x h hx).2.2.2.1 o ho).2.1, ((wf_x h hx).2.2.2.1 o ho).2.2.1⟩
theorem wf_ps {S : Sys} (h : wf S) {x : Nat} (hx : isA S x) : partsS S x ≤ 12 := (wf_x h hx).2.2.2.2.1
theorem goes_lt {S : Sys} (h : wf S) {x : Nat} (hx : isA S x) : goesS S x < 1024 := by
  unfold goesS
  refine orU_lt (fun o ho => ?_)
  have := p10l (wf_t10 h hx ho)
  omega
theorem goes_bit (S : Sys) (x t : Nat) : (goesS S x).testBit t = anyU (fun o => decide (sT S x o = t)) (sO S x) := by
  unfold goesS
  rw [orU_bit]
  exact anyU_congr (fun i _ => two_bit _ _)
theorem goes_all (S : Sys) (x b : Nat) : ndiff (goesS S x) b = 0 ↔ allInS S x b = true := by
  unfold allInS
  rw [allU_iff]
  constructor
  · intro h o ho
    have h2 := ndiff_bit (goesS S x) b (sT S x o)
    rw [h, Nat.zero_testBit, goes_bit] at h2
    have h3 : anyU (fun o' => decide (sT S x o' = sT S x o)) (sO S x) = true := anyU_iff.mpr ⟨o, ho, by simp⟩
    rw [h3] at h2
    cases hb : b.testBit (sT S x o) with
    | true => rfl
    | false => rw [hb] at h2; cases h2
  · intro h
    apply Nat.eq_of_testBit_eq
    intro t
    rw [ndiff_bit, Nat.zero_testBit, goes_bit]
    cases hg : anyU (fun o' => decide (sT S x o' = t)) (sO S x) with
    | false => rfl
    | true =>
      obtain ⟨o, ho, e⟩ := anyU_iff.mp hg
      have := h o ho
      rw [of_decide_eq_true e] at this
      rw [this]
      rfl
theorem goes_some (S : Sys) (x b : Nat) : goesS S x &&& b = 0 ↔ someInS S x b = false := by
  unfold someInS
  constructor
  · intro h
    cases hs : anyU (fun o => b.testBit (sT S x o)) (sO S x) with
    | false => rfl
    | true =>
      obtain ⟨o, ho, e⟩ := anyU_iff.mp hs
      have h2 := congrArg (fun z => z.testBit (sT S x o)) h
      simp only [Nat.testBit_and, Nat.zero_testBit, goes_bit, e, Bool.and_true] at h2
      rw [anyU_iff.mpr ⟨o, ho, by simp⟩] at h2
      cases h2
  · intro h
    apply Nat.eq_of_testBit_eq
    intro t
    rw [Nat.testBit_and, Nat.zero_testBit, goes_bit]
    cases hg : anyU (fun o' => decide (sT S x o' = t)) (sO S x) with
    | false => rfl
    | true =>
      cases hb : b.testBit t with
      | false => rfl
      | true =>
        obtain ⟨o, ho, e⟩ := anyU_iff.mp hg
        rw [anyU_iff.mpr ⟨o, ho, by simp only [of_decide_eq_true e, hb]⟩] at h
        cases h
/-! the class's cells hold S -/
def RCa (m : Mem) (S : Sys) (x : Nat) : Prop := m.1 4 x 0 = nI (sK S x) ∧ m.1 4 x 1 = nI (sC S x) ∧ m.1 4 x 2 = nI (sO S x) ∧ m.1 4 x 3 = nI (partsS S x) ∧ m.1 4 x 4 = nI (goesS S x) ∧ ∀ o, o < sO S x → m.1 5 x o = nI (sT S x o) ∧ m.1 6 x o = nI (sP S x o)
def RC (m : Mem) (S : Sys) : Prop := m.1 1 0 0 = nI (sN S) ∧ m.1 1 0 1 = nI (sM S) ∧ (∀ s, s < sN S → m.1 2 0 s = nI (sA S s)) ∧ (∀ s, sN S ≤ s → s < 10 → m.1 2 0 s = nI 0) ∧ ∀ x, isA S x → RCa m S x
section RC0
variable {m : Mem} {S : Sys}
theorem rc_n (h : RC m S) : m.1 1 0 0 = nI (sN S) := h.1
theorem rc_m (h : RC m S) : m.1 1 0 1 = nI (sM S) := h.2.1
theorem rc_a (h : RC m S) {s : Nat} (hs : s < sN S) : m.1 2 0 s = nI (sA S s) := h.2.2.1 s hs
theorem rc_a0 (h : RC m S) {s : Nat} (hs : sN S ≤ s) (h10 : s < 10) : m.1 2 0 s = nI 0 := h.2.2.2.1 s hs h10
theorem rc_x (h : RC m S) {x : Nat} (hx : isA S x) : RCa m S x := h.2.2.2.2 x hx
theorem rc_k (h : RC m S) {x : Nat} (hx : isA S x) : m.1 4 x 0 = nI (sK S x) := (rc_x h hx).1
theorem rc_c (h : RC m S) {x : Nat} (hx : isA S x) : m.1 4 x 1 = nI (sC S x) := (rc_x h hx).2.1
theorem rc_o (h : RC m S) {x : Nat} (hx : isA S x) : m.1 4 x 2 = nI (sO S x) := (rc_x h hx).2.2.1
theorem rc_ps (h : RC m S) {x : Nat} (hx : isA S x) : m.1 4 x 3 = nI (partsS S x) := (rc_x h hx).2.2.2.1
theorem rc_g (h : RC m S) {x : Nat} (hx : isA S x) : m.1 4 x 4 = nI (goesS S x) := (rc_x h hx).2.2.2.2.1
theorem rc_t (h : RC m S) {x o : Nat} (hx : isA S x) (ho : o < sO S x) : m.1 5 x o = nI (sT S x o) := ((rc_x h hx).2.2.2.2.2 o ho).1
theorem rc_p (h : RC m S) {x o : Nat} (hx : isA S x) (ho : o < sO S x) : m.1 6 x o = nI (sP S x o) := ((rc_x h hx).2.2.2.2.2 o ho).2
end RC0
/-! the reference's cells hold S -/
def RMa (m : Mem) (S : Sys) (x : Nat) : Prop := m.1 42 0 x = nI (sK S x) ∧ m.1 43 0 x = nI (sC S x) ∧ m.1 44 0 x = nI (sO S x) ∧ ∀ o, o < sO S x → m.1 45 0 (4 * x + o) = nI (sT S x o) ∧ m.1 46 0 (4 * x + o) = nI (sP S x o)
def RM (m : Mem) (S : Sys) : Prop := m.1 40 0 1 = nI (sN S) ∧ m.1 40 0 2 = nI (sM S) ∧ (∀ s, s < sN S → m.1 41 0 s = nI (sA S s)) ∧ ∀ x, isA S x → RMa m S x
section RM0
variable {m : Mem} {S : Sys}
theorem rm_n (h : RM m S) : m.1 40 0 1 = nI (sN S) := h.1
theorem rm_m (h : RM m S) : m.1 40 0 2 = nI (sM S) := h.2.1
theorem rm_a (h : RM m S) {s : Nat} (hs : s < sN S) : m.1 41 0 s = nI (sA S s) := h.2.2.1 s hs
theorem rm_x (h : RM m S) {x : Nat} (hx : isA S x) : RMa m S x := h.2.2.2 x hx
theorem rm_k (h : RM m S) {x : Nat} (hx : isA S x) : m.1 42 0 x = nI (sK S x) := (rm_x h hx).1
theorem rm_c (h : RM m S) {x : Nat} (hx : isA S x) : m.1 43 0 x = nI (sC S x) := (rm_x h hx).2.1
theorem rm_o (h : RM m S) {x : Nat} (hx : isA S x) : m.1 44 0 x = nI (sO S x) := (rm_x h hx).2.2.1
theorem rm_t (h : RM m S) {x o : Nat} (hx : isA S x) (ho : o < sO S x) : m.1 45 0 (4 * x + o) = nI (sT S x o) := ((rm_x h hx).2.2.2 o ho).1
theorem rm_p (h : RM m S) {x o : Nat} (hx : isA S x) (ho : o < sO S x) : m.1 46 0 (4 * x + o) = nI (sP S x o) := ((rm_x h hx).2.2.2 o ho).2
end RM0
