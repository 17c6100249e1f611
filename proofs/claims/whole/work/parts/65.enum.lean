/-! ALL CHOICES, ONE AFTER ANOTHER (wip/whole/src/65.enum.src) -/
def bef (n : Nat) (F : Nat → Bool) (x c : Nat → Nat) : Prop := ∃ s, s < n ∧ F s = true ∧ x s < c s ∧ ∀ t, s < t → t < n → F t = true → x t = c t
def sam (n : Nat) (F : Nat → Bool) (x c : Nat → Nat) : Prop := ∀ t, t < n → F t = true → x t = c t
theorem bef_le {n : Nat} {F : Nat → Bool} {x c : Nat → Nat} : ∀ k, k ≤ n → (∀ t, t < k → F t = true → x t ≤ c t) → (∀ t, k ≤ t → t < n → F t = true → x t = c t) → bef n F x c ∨ sam n F x c := by
  intro k
  induction k with
  | zero => intro _ _ h; exact Or.inr (fun t ht hF => h t (Nat.zero_le _) ht hF)
  | succ k ih =>
    intro hk h1 h2
    by_cases hF : F k = true
    · rcases Nat.lt_or_ge (x k) (c k) with q | q
      · exact Or.inl ⟨k, by omega, hF, q, fun t ht => h2 t (by omega)⟩
      · have := h1 k (by omega) hF
        refine ih (by omega) (fun t ht => h1 t (by omega)) (fun t ht1 ht2 hFt => ?_)
        by_cases htk : t = k
        · rw [htk]; omega
        · exact h2 t (by omega) ht2 hFt
    · refine ih (by omega) (fun t ht => h1 t (by omega)) (fun t ht1 ht2 hFt => ?_)
      by_cases htk : t = k
      · rw [htk] at hFt; exact absurd hFt hF
      · exact h2 t (by omega) ht2 hFt
/-- the next of all choices of F; b: there is one -/
def nxt (n : Nat) (A : Nat → Nat) (F : Nat → Bool) (c c' : Nat → Nat) (b : Bool) : Prop := match b with
  | true => ∃ s0, s0 < n ∧ F s0 = true ∧ c' s0 = c s0 + 1 ∧ c s0 + 1 < A s0 ∧ (∀ t, t < s0 → F t = true → c t + 1 = A t ∧ c' t = 0) ∧ (∀ t, (F t = false ∨ s0 < t) → c' t = c t)
  | false => (∀ t, t < n → F t = true → c t + 1 = A t ∧ c' t = 0) ∧ ∀ t, F t = false → c' t = c t
theorem nxt_t {n : Nat} {A : Nat → Nat} {F : Nat → Bool} {c c' x : Nat → Nat} (h : nxt n A F c c' true) (hx : ∀ t, t < n → F t = true → x t < A t) (hb : bef n F x c') : bef n F x c ∨ sam n F x c := by
  obtain ⟨s0, h1, h2, h3, h4, h5, h6⟩ := h
  obtain ⟨s, q1, q2, q3, q4⟩ := hb
  rcases Nat.lt_or_ge s0 s with e | e
  · refine Or.inl ⟨s, q1, q2, ?_, fun t ht1 ht2 hF => ?_⟩
    · rw [h6 s (Or.inr e)] at q3; exact q3
    · rw [q4 t ht1 ht2 hF, h6 t (Or.inr (by omega))]
  · rcases Nat.lt_or_ge s s0 with e2 | e2
    · have := (h5 s e2 q2).2
      omega
    · have hss : s = s0 := by omega
      subst hss
      refine bef_le (s + 1) (by omega) (fun t ht hF => ?_) (fun t ht1 ht2 hF => ?_)
      · rcases Nat.lt_or_ge t s with e3 | e3
        · have := (h5 t e3 hF).1
          have := hx t (by omega) hF
          omega
        · rw [show t = s by omega]; omega
      · rw [q4 t (by omega) ht2 hF, h6 t (Or.inr (by omega))]
theorem nxt_f {n : Nat} {A : Nat → Nat} {F : Nat → Bool} {c c' x : Nat → Nat} (h : nxt n A F c c' false) (hx : ∀ t, t < n → F t = true → x t < A t) : bef n F x c ∨ sam n F x c := by
  refine bef_le n (Nat.le_refl _) (fun t ht hF => ?_) (fun t h1 h2 => by omega)
  have := (h.1 t ht hF).1
  have := hx t ht hF
  omega
/-- what is left: falls with each next -/
def wsum (A : Nat → Nat) (F : Nat → Bool) (c : Nat → Nat) : Nat → Nat
  | 0 => 0
  | t + 1 => wsum A F c t + (if F t = true then (A t - 1 - c t) * 5 ^ t else 0)
theorem wsum_lt {n : Nat} {A : Nat → Nat} {F : Nat → Bool} {c : Nat → Nat} (hA : ∀ t, t < n → F t = true → A t ≤ 4) : ∀ s, s ≤ n → wsum A F c s < 5 ^ s := by
  intro s
  induction s with
  | zero => intro _; show 0 < 1; decide
  | succ s ih =>
    intro hs
    have h1 := ih (by omega)
    simp only [wsum, Nat.pow_succ]
    split
    · rename_i hF
      have h2 := hA s (by omega) hF
      have h3 : (A s - 1 - c s) * 5 ^ s ≤ 3 * 5 ^ s := Nat.mul_le_mul_right _ (by omega)
      omega
    · omega
theorem wsum_nxt {n : Nat} {A : Nat → Nat} {F : Nat → Bool} {c c' : Nat → Nat} (hA : ∀ t, t < n → F t = true → A t ≤ 4) (h : nxt n A F c c' true) : wsum A F c' n < wsum A F c n := by
  obtain ⟨s0, h1, h2, h3, h4, h5, h6⟩ := h
  have key : ∀ k, s0 + 1 + k ≤ n → wsum A F c' (s0 + 1 + k) < wsum A F c (s0 + 1 + k) := by
    intro k
    induction k with
    | zero =>
      intro hk
      have h7 := wsum_lt (c := c') hA s0 (by omega)
      simp only [Nat.add_zero, wsum]
      rw [if_pos h2, if_pos h2, h3]
      have h8 : (A s0 - 1 - c s0) * 5 ^ s0 = (A s0 - 1 - (c s0 + 1)) * 5 ^ s0 + 5 ^ s0 := by
        rw [show A s0 - 1 - c s0 = A s0 - 1 - (c s0 + 1) + 1 by omega, Nat.add_mul, Nat.one_mul]
      omega
    | succ k ih =>
      intro hk
      have h7 := ih (by omega)
      rw [show s0 + 1 + (k + 1) = s0 + 1 + k + 1 by omega]
      simp only [wsum]
      rw [h6 (s0 + 1 + k) (Or.inr (by omega))]
      omega
  have := key (n - s0 - 1) (by omega)
  rw [show s0 + 1 + (n - s0 - 1) = n by omega] at this
  exact this
/-! fractions -/
theorem fr_trans {a b c d e f : Int} (hb : 0 ≤ b) (hd : 0 < d) (hf : 0 ≤ f) (h1 : a * d ≤ c * b) (h2 : c * f ≤ e * d) : a * f ≤ e * b := by
  have h3 := Int.mul_le_mul_of_nonneg_right h1 hf
  have h4 := Int.mul_le_mul_of_nonneg_right h2 hb
  have h5 : (a * f) * d ≤ (e * b) * d := by grind
  exact Int.le_of_mul_le_mul_right h5 hd
def cmpl (l : Bool) (a b : Int) : Prop := match l with
  | false => a ≤ b
  | true => b ≤ a
section M65
variable {S : Sys}
def agr (S : Sys) (B : Nat) (f : Bool) (x c : Nat → Nat) : Prop := ∀ s, B.testBit s = true → foeS S s = f → x s = c s
/-- u over v: the worst that the FOE can do to STATE s while our choices are those of c0 -/
def wor (S : Sys) (B G : Nat) (l : Bool) (c0 : Nat → Nat) (s : Nat) (u v : Int) : Prop := 0 < v ∧ Nat.gcd u.natAbs v.natAbs = 1 ∧ (∃ c W E, pol S B c ∧ agr S B false c c0 ∧ chance S B G c W E ∧ u * E = W s * v) ∧ ∀ x W E, pol S B x → agr S B false x c0 → chance S B G x W E → cmpl l (u * E) (W s * v)
/-- u over v: the best of all those worsts -/
def mmv (S : Sys) (B G : Nat) (l : Bool) (s : Nat) (u v : Int) : Prop := 0 < v ∧ Nat.gcd u.natAbs v.natAbs = 1 ∧ (∃ c, pol S B c ∧ wor S B G l c s u v) ∧ ∀ x, pol S B x → ∃ u' v', wor S B G l x s u' v' ∧ cmpl l (u' * v) (u * v')
theorem isCr_ex {B G : Nat} {c : Nat → Nat} (hG : sub_n G (sN S)) (hc : pol S B c) : ∃ y, isCr S B G c y := by
  obtain ⟨y, hy⟩ := bits_ex (fun s => ∀ z, bsub G z → (∀ s, s < sN S → B.testBit s = true → someInS S (4 * s + c s) z = true → z.testBit s = true) → z.testBit s = true) (sN S)
  refine ⟨y, fun s hs => (hy s).mpr ⟨hG s hs, fun z hz _ => hz s hs⟩, fun s hs => ?_, fun s hs hB hsome => (hy s).mpr ⟨hs, fun z h1 h2 => h2 s hs hB (someIn_mono (fun i q => ((hy i).mp q).2 z h1 h2) hsome)⟩, fun z h1 h2 s hs => ((hy s).mp hs).2 z h1 h2⟩
  exact ((hy s).mp hs).2 (B ||| G) (bsub_r _ _) (fun t _ hB _ => bsub_l _ _ t hB)
theorem chance_ex {B G : Nat} {c : Nat → Nat} (hw : wf S) (hf : full S) (hG : sub_n G (sN S)) (hd : ∀ s, G.testBit s = true → B.testBit s = false) (hc : pol S B c) : ∃ W E, chance S B G c W E := by
  obtain ⟨y, hy⟩ := isCr_ex hG hc
  exact ⟨_, _, isCr_chance hw hf hc hG hd hy⟩
theorem want_foe (S : Sys) (l : Bool) (s : Nat) : wantS S l s = true ↔ foeS S s = l := by unfold wantS; simp
/-- THE VALUE: what the reference finds by all choices is what the two sides end at -/
theorem sad_mm {l : Bool} {B G : Nat} {w : Nat → Nat} {V : Nat → Int} {D u v : Int} {s : Nat} (hw : wf S) (hf : full S) (hG : sub_n G (sN S)) (hd : ∀ s, G.testBit s = true → B.testBit s = false) (h : saddle S l B G w V D) (hs : s < sN S) (hm : mmv S B G l s u v) : u * D = V s * v := by
  obtain ⟨hv, _, ⟨c, hc, hwc⟩, hall⟩ := hm
  have hD := h.1
  have hwp := h.2.1
  obtain ⟨u', v', hww, hcmp⟩ := hall w hwp
  obtain ⟨hv', _, ⟨c2, W2', E2, hc2, ha2, hch2, he2⟩, _⟩ := hww
  have hE2 := hch2.1
  -- our choices of c, the FOE's of w
  have hxp : pol S B (fun t => if foeS S t = true then w t else c t) := fun t ht => ⟨(hc t ht).1, by
    show (if foeS S t = true then w t else c t) < _
    split
    · exact (hwp t ht).2
    · exact (hc t ht).2⟩
  obtain ⟨W, E, hch⟩ := chance_ex hw hf hG hd hxp
  have hE := hch.1
  have hb := hwc.2.2.2 _ W E hxp (fun t _ hft => by show (if foeS S t = true then w t else c t) = c t; rw [if_neg (by rw [hft]; simp)]) hch
  have nE : (0 : Int) ≤ E := Int.le_of_lt hE
  have nE2 : (0 : Int) ≤ E2 := Int.le_of_lt hE2
  have nD : (0 : Int) ≤ D := Int.le_of_lt hD
  have nv : (0 : Int) ≤ v := Int.le_of_lt hv
  have nv' : (0 : Int) ≤ v' := Int.le_of_lt hv'
  cases l with
  | false =>
    have h1 := sad_up hw hf hd h hxp hch (fun t _ hwt => by
      show (if foeS S t = true then w t else c t) = w t
      rw [if_pos]
      cases hft : foeS S t with
      | true => rfl
      | false => rw [(want_foe S false t).mpr hft] at hwt; cases hwt) s hs
    have h2 := sad_dn hw hf hd h hc2 hch2 (fun t ht hwt => ha2 t ht ((want_foe S false t).mp hwt)) s hs
    have h3 : u * D ≤ V s * v := fr_trans nv hE nD hb h1
    have h4 : V s * v' ≤ u' * D := fr_trans nD hE2 nv' h2 (by rw [he2]; exact Int.le_refl _)
    have h5 : V s * v ≤ u * D := fr_trans nD hv' nv h4 hcmp
    omega
  | true =>
    have h1 := sad_dn hw hf hd h hxp hch (fun t _ hwt => by
      show (if foeS S t = true then w t else c t) = w t
      rw [if_pos ((want_foe S true t).mp hwt)]) s hs
    have h2 := sad_up hw hf hd h hc2 hch2 (fun t ht hwt => ha2 t ht (by
      cases hft : foeS S t with
      | false => rfl
      | true => rw [(want_foe S true t).mpr hft] at hwt; cases hwt)) s hs
    have h3 : V s * v ≤ u * D := fr_trans nD hE nv h1 hb
    have h4 : u' * D ≤ V s * v' := fr_trans nv' hE2 nD (by rw [he2]; exact Int.le_refl _) h2
    have h5 : u * D ≤ V s * v := fr_trans nv hv' nD hcmp h4
    omega
end M65
