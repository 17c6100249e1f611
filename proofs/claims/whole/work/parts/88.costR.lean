/-! CONTRACTS (34): the reference's cost() (wip/whole/src/88.costR.src) -/
section L88
variable {xs : Nat × (Nat → Int32)} {d : Nat} {Q : Option v2 → Mem → Prop} {m : Mem} {S : Sys}
def mx (S : Sys) (B : Nat) (c : Nat → Nat) (x : Nat) : Prop := bsub x B ∧ shut S c x ∧ ∀ z, bsub z B → shut S c z → bsub z x
theorem shut_congr {B z : Nat} {c c' : Nat → Nat} (hz : bsub z B) (h : ∀ s, B.testBit s = true → c' s = c s) (hs : shut S c z) : shut S c' z := by
  refine ⟨fun C hC hCz => ?_, fun s hs' => by rw [h s (hz s hs')]; exact hs.2 s hs'⟩
  obtain ⟨s, q1, o, q2, q3⟩ := hs.1 C hC hCz
  rw [← h s (hz s (hCz s q1))] at q2 q3
  exact ⟨s, q1, o, q2, q3⟩
theorem mx_congr {B x : Nat} {c c' : Nat → Nat} (h : ∀ s, B.testBit s = true → c' s = c s) (hm : mx S B c x) : mx S B c' x := ⟨hm.1, shut_congr hm.1 h hm.2.1, fun z hz hs => hm.2.2 z hz (shut_congr hz (fun s hs => (h s hs).symm) hs)⟩
theorem mx_uniq {B x x' : Nat} {c : Nat → Nat} (h : mx S B c x) (h' : mx S B c x') : x = x' := bsub_anti (h'.2.2 x h.1 h.2.1) (h.2.2 x' h'.1 h'.2.1)
def cosC (S : Sys) (B s : Nat) (u v : Int) (cov : (Nat → Nat) → Prop) : Prop := 0 ≤ u ∧ 0 < v ∧ Nat.gcd u.natAbs v.natAbs = 1 ∧ u.natAbs ≤ 2 ^ 35 ∧ v.natAbs ≤ 2 ^ 25 ∧ (∃ c x, pol S B c ∧ mx S B c x ∧ x.testBit s = true ∧ u * cD S x c = cW S x c s * v) ∧ ∀ c x, pol S B c → cov c → mx S B c x → x.testBit s = true → u * cD S x c ≤ cW S x c s * v
def cosN (S : Sys) (B s : Nat) (cov : (Nat → Nat) → Prop) : Prop := ∀ c x, pol S B c → cov c → mx S B c x → x.testBit s = false
def cosS (S : Sys) (B s : Nat) (a b : Int64) (cov : (Nat → Nat) → Prop) : Prop := (a = -1 ∧ b = lI 1 ∧ cosN S B s cov) ∨ ∃ u v, a = lI u ∧ b = lI v ∧ cosC S B s u v cov
theorem cos_skip {B s x : Nat} {c : Nat → Nat} {a b : Int64} {cov cov' : (Nat → Nat) → Prop} (hm : mx S B c x) (hx : x.testBit s = false) (hcov : ∀ c', pol S B c' → cov' c' → cov c' ∨ ∀ t, B.testBit t = true → c' t = c t) (h : cosS S B s a b cov) : cosS S B s a b cov' := by
  rcases h with ⟨h1, h2, h3⟩ | ⟨u, v, h1, h2, h3, h4, h5, h6, h7, h8, h9⟩
  · refine Or.inl ⟨h1, h2, fun c' x' hp hc hm' => ?_⟩
    rcases hcov c' hp hc with q | q
    · exact h3 c' x' hp q hm'
    · rw [mx_uniq hm' (mx_congr q hm)]; exact hx
  · refine Or.inr ⟨u, v, h1, h2, h3, h4, h5, h6, h7, h8, fun c' x' hp hc hm' hs' => ?_⟩
    rcases hcov c' hp hc with q | q
    · exact h9 c' x' hp q hm' hs'
    · rw [mx_uniq hm' (mx_congr q hm), hx] at hs'; cases hs'
theorem cos_new {B s x : Nat} {c : Nat → Nat} {u v : Int} {cov cov' : (Nat → Nat) → Prop} (hw : wf S) (hf : full S) (hc : pol S B c) (hm : mx S B c x) (hx : x.testBit s = true) (hl : low u v (cW S x c s) (cD S x c)) (hu : u.natAbs ≤ 2 ^ 35) (hv : v.natAbs ≤ 2 ^ 25) (hcov : ∀ c', pol S B c' → cov' c' → cov c' ∨ ∀ t, B.testBit t = true → c' t = c t) (hold : ∀ c' x', pol S B c' → cov c' → mx S B c' x' → x'.testBit s = true → u * cD S x' c' ≤ cW S x' c' s * v) : cosC S B s u v cov' := by
  have hcx : pol S x c := fun t ht => hc t (hm.1 t ht)
  obtain ⟨hD, hE, hn⟩ := csol hw hf hcx hm.2.1.1
  obtain ⟨h1, h2, h3⟩ := hl
  have hu0 : 0 ≤ u := by
    have h4 := Int.mul_nonneg (hn s (hcx s hx).1) (Int.le_of_lt h1)
    rw [← h3] at h4
    apply Classical.byContradiction
    intro z
    have := Int.mul_neg_of_neg_of_pos (show u < 0 by omega) hD
    omega
  refine ⟨hu0, h1, h2, hu, hv, ⟨c, x, hc, hm, hx, h3⟩, fun c' x' hp hc' hm' hs' => ?_⟩
  rcases hcov c' hp hc' with q | q
  · exact hold c' x' hp q hm' hs'
  · have e := mx_uniq hm' (mx_congr q hm)
    subst e
    obtain ⟨e1, e2⟩ := cW_congr (S := S) (B := x') (fun t ht => q t (hm.1 t ht))
    rw [e1, e2, h3]
    exact Int.le_refl _
theorem cos_keep {B s x : Nat} {c : Nat → Nat} {u v wu wv : Int} {cov cov' : (Nat → Nat) → Prop} (hw : wf S) (hf : full S) (hc : pol S B c) (hm : mx S B c x) (hl : low u v (cW S x c s) (cD S x c)) (hcov : ∀ c', pol S B c' → cov' c' → cov c' ∨ ∀ t, B.testBit t = true → c' t = c t) (h : cosC S B s wu wv cov) (hle : wu * v ≤ u * wv) : cosC S B s wu wv cov' := by
  have hcx : pol S x c := fun t ht => hc t (hm.1 t ht)
  have hD := (csol hw hf hcx hm.2.1.1).1
  obtain ⟨h3, h4, h5, h6, h7, h8, h9⟩ := h
  refine ⟨h3, h4, h5, h6, h7, h8, fun c' x' hp hc' hm' hs' => ?_⟩
  rcases hcov c' hp hc' with q | q
  · exact h9 c' x' hp q hm' hs'
  · have e := mx_uniq hm' (mx_congr q hm)
    subst e
    obtain ⟨e1, e2⟩ := cW_congr (S := S) (B := x') (fun t ht => q t (hm.1 t ht))
    rw [e1, e2]
    exact fr_trans (Int.le_of_lt h4) hl.1 (Int.le_of_lt hD) hle (by rw [hl.2.2]; exact Int.le_refl _)
theorem cos_mono {B s : Nat} {a b : Int64} {cov cov' : (Nat → Nat) → Prop} (h : cosS S B s a b cov) (hc : ∀ x, pol S B x → cov' x → cov x) : cosS S B s a b cov' := by
  rcases h with ⟨h1, h2, h3⟩ | ⟨u, v, h1, h2, h3, h4, h5, h6, h7, h8, h9⟩
  · exact Or.inl ⟨h1, h2, fun c x q1 q2 => h3 c x q1 (hc c q1 q2)⟩
  · exact Or.inr ⟨u, v, h1, h2, h3, h4, h5, h6, h7, h8, fun c x q1 q2 => h9 c x q1 (hc c q1 q2)⟩
/-- all choices are seen: this is the least cost -/
theorem cos_end {B X s : Nat} {w : Nat → Nat} {a b : Int64} (hw : wf S) (hf : full S) (hX : bsub (sM S) X) (hB : ∀ t, B.testBit t = true ↔ X.testBit t = true ∧ (sM S).testBit t = false) (hs : B.testBit s = true) (hb : cbest S B X w) (h : cosS S B s a b (fun _ => True)) : ∃ u v, low u v (cW S B w s) (cD S B w) ∧ a = lI u ∧ b = lI v := by
  have hsh : shut S w B := ⟨hb.1.2.1, fun t ht => allIn_mono (fun i hi => by
    rw [Nat.testBit_or, Bool.or_eq_true]
    cases q : (sM S).testBit i with
    | true => exact Or.inr rfl
    | false => exact Or.inl ((hB i).mpr ⟨hi, q⟩)) (hb.1.2.2 t ht)⟩
  have hmx : mx S B w B := ⟨bsub_rfl _, hsh, fun z hz _ => hz⟩
  have hD := (csol hw hf hb.1.1 hb.1.2.1).1
  rcases h with ⟨_, _, h3⟩ | ⟨u, v, h1, h2, h3, h4, h5, h6, h7, ⟨c, x, q1, q2, q3, q4⟩, h9⟩
  · have := h3 w B hb.1.1 trivial hmx
    rw [hs] at this
    cases this
  · refine ⟨u, v, ⟨h4, h5, ?_⟩, h1, h2⟩
    have l1 := h9 w B hb.1.1 trivial hmx hs
    have hcx : pol S x c := fun t ht => q1 t (q2.1 t ht)
    have hDx := (csol hw hf hcx q2.2.1.1).1
    have l2 := cbest_le hw hf hb q2.1 (fun t ht => ((hB t).mp ht).1) q1 q2.2.1.1 (fun t ht o ho => by
      have h10 := allU_iff.mp (q2.2.1.2 t ht) o ho
      rw [Nat.testBit_or, Bool.or_eq_true] at h10
      refine h10.imp id (fun hM => ⟨hX _ hM, ?_⟩)
      cases q : B.testBit (sT S (4 * t + c t) o) with
      | false => rfl
      | true => have := ((hB _).mp q).2; rw [hM] at this; cases this) s q3
    have l3 : cW S B w s * v ≤ u * cD S B w := fr_trans (Int.le_of_lt hD) hDx (Int.le_of_lt h4) l2 (by rw [q4]; exact Int.le_refl _)
    omega
def in01 (p : Int32) : Prop := ((0 : Nat) : Int) ≤ p.toInt ∧ p.toInt ≤ ((1 : Nat) : Int)
def costR (S : Sys) (X : Nat) (p1 p2 : Int32) (r : Int64) : Prop := (isSt S p1 = false → r = -1) ∧ (isSt S p1 = true → (¬ in01 p2 → r = -1) ∧ (in01 p2 → (¬ lackS S = 0 → r = -2) ∧ (lackS S = 0 → (¬ (foeN S = 0 ∧ cntB (ndiff X (sM S)) ≤ 5) → r = -3) ∧ (foeN S = 0 ∧ cntB (ndiff X (sM S)) ≤ 5 → (X.testBit p1.toNatClampNeg = false → r = -4) ∧ (X.testBit p1.toNatClampNeg = true → ((sM S).testBit p1.toNatClampNeg = true → r = p2.toInt64) ∧ ((sM S).testBit p1.toNatClampNeg = false → ∀ w, cbest S (ndiff X (sM S)) X w → ∃ u v, low u v (cW S (ndiff X (sM S)) w p1.toNatClampNeg) (cD S (ndiff X (sM S)) w) ∧ r = if p2 = 0 then lI u else lI v))))))
theorem RM_0 {v : Int32} (hR : RM m S) : RM (mI m 40 0 0 v) S := by
  have h : ∀ t, t ≠ 40 → (mI m 40 0 0 v).1 t 0 = m.1 t 0 := fun t ht => by funext k; rw [mI_r, if_neg (by omega)]
  have h2 : ∀ k, k ≠ 0 → (mI m 40 0 0 v).1 40 0 k = m.1 40 0 k := fun k hk => by rw [mI_r, if_neg (by omega)]
  unfold RM RMa at hR ⊢
  rw [h2 1 (by omega), h2 2 (by omega), h 41 (by omega), h 42 (by omega), h 43 (by omega), h 44 (by omega), h 45 (by omega), h 46 (by omega)]
  exact hR
end L88
