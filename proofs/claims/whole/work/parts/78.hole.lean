/-! HOLES (wip/whole/src/78.hole.src): sets that can be stayed in; the reference's -/
section M78
variable {S : Sys}
def cl (S : Sys) (f : Nat → Nat) (z : Nat) : Prop := ∀ u, u < sN S → z.testBit u = true → bsub (nextS S u (f u)) z
def conn (S : Sys) (f : Nat → Nat) (s t : Nat) : Prop := ∀ z, z.testBit s = true → cl S f z → z.testBit t = true
theorem conn_rfl (f : Nat → Nat) (s : Nat) : conn S f s s := fun _ h _ => h
theorem conn_trans {f : Nat → Nat} {a b c : Nat} (h : conn S f a b) (h2 : conn S f b c) : conn S f a c := fun z hz hc => h2 z (h z hz hc) hc
theorem conn_mono {f g : Nat → Nat} (h : ∀ u, u < sN S → bsub (f u) (g u)) {s t : Nat} (hc : conn S f s t) : conn S g s t := fun z hz hcl => hc z hz (fun u hu hzu => bsub_trans (next_mono (h u hu)) (hcl u hu hzu))
/-- a set that can be stayed in for ever -/
def ec (S : Sys) (H : Nat) : Prop := sub_n H (sN S) ∧ (∃ s, H.testBit s = true) ∧ (∀ s, H.testBit s = true → ∃ a, a < sA S s ∧ allInS S (4 * s + a) H = true) ∧ ∀ s t, H.testBit s = true → H.testBit t = true → conn S (fun _ => H) s t
def isMec (S : Sys) (s H : Nat) : Prop := (H = 0 ∧ ∀ H', ec S H' → H'.testBit s = false) ∨ (ec S H ∧ H.testBit s = true ∧ ∀ H', ec S H' → H'.testBit s = true → bsub H' H)
theorem isMec_uniq {s H H' : Nat} (h : isMec S s H) (h' : isMec S s H') : H = H' := by
  rcases h with ⟨h1, h2⟩ | ⟨h1, h2, h3⟩ <;> rcases h' with ⟨k1, k2⟩ | ⟨k1, k2, k3⟩
  · rw [h1, k1]
  · have := h2 H' k1; rw [k2] at this; cases this
  · have := k2 H h1; rw [h2] at this; cases this
  · exact bsub_anti (k3 H h1 h2) (h3 H' k1 k2)
theorem ec_union {H H' t : Nat} (h : ec S H) (h' : ec S H') (ht : H.testBit t = true) (ht' : H'.testBit t = true) : ec S (H ||| H') := by
  have m1 : ∀ u, u < sN S → bsub ((fun _ => H) u) ((fun _ => H ||| H') u) := fun _ _ => bsub_l _ _
  have m2 : ∀ u, u < sN S → bsub ((fun _ => H') u) ((fun _ => H ||| H') u) := fun _ _ => bsub_r _ _
  have hor : ∀ s, (H ||| H').testBit s = true → H.testBit s = true ∨ H'.testBit s = true := fun s hs => by rw [Nat.testBit_or, Bool.or_eq_true] at hs; exact hs
  refine ⟨sub_n_or h.1 h'.1, ⟨t, bsub_l _ _ _ ht⟩, fun s hs => ?_, fun a b ha hb => ?_⟩
  · rcases hor s hs with q | q
    · obtain ⟨a, ha, e⟩ := h.2.2.1 s q
      exact ⟨a, ha, allIn_mono (bsub_l _ _) e⟩
    · obtain ⟨a, ha, e⟩ := h'.2.2.1 s q
      exact ⟨a, ha, allIn_mono (bsub_r _ _) e⟩
  · have h1 : conn S (fun _ => H ||| H') a t := by
      rcases hor a ha with q | q
      · exact conn_mono m1 (h.2.2.2 a t q ht)
      · exact conn_mono m2 (h'.2.2.2 a t q ht')
    have h2 : conn S (fun _ => H ||| H') t b := by
      rcases hor b hb with q | q
      · exact conn_mono m1 (h.2.2.2 t b ht q)
      · exact conn_mono m2 (h'.2.2.2 t b ht' q)
    exact conn_trans h1 h2
theorem isMec_sym {s t H : Nat} (h : isMec S s H) (ht : H.testBit t = true) : isMec S t H := by
  rcases h with ⟨h1, h2⟩ | ⟨h1, h2, h3⟩
  · rw [h1, Nat.zero_testBit] at ht; cases ht
  · refine Or.inr ⟨h1, ht, fun H' k1 k2 => ?_⟩
    have := h3 _ (ec_union h1 k1 ht k2) (bsub_l _ _ _ h2)
    exact bsub_trans (bsub_r _ _) this
theorem rch_conn {b s y t : Nat} (h : isRch S b s y) : y.testBit t = true ↔ conn S (fun _ => b) s t := by
  constructor
  · intro ht z hz hc; exact h.2.2.2 z hz hc t ht
  · intro hc; exact hc y h.2.1 h.2.2.1
/-- the list of holes: which STATES name one, and its place -/
def gcond (f : Nat → Nat) (s : Nat) : Bool := decide (f s ≠ 0) && allU (fun t => ! (f s).testBit t) s
def gcnt (f : Nat → Nat) (k : Nat) : Nat := sumU (fun s => (gcond f s).toNat) k
theorem gcnt_s (f : Nat → Nat) (k : Nat) : gcnt f (k + 1) = gcnt f k + (gcond f k).toNat := rfl
theorem gcnt_le (f : Nat → Nat) (k : Nat) : gcnt f k ≤ k := by
  have := sumU_le (f := fun s => (gcond f s).toNat) (n := k) (c := 1) (fun i _ => Bool.toNat_le _)
  unfold gcnt
  omega
theorem gcnt_lt {f : Nat → Nat} {s t : Nat} (h : s < t) (hs : gcond f s = true) : gcnt f s < gcnt f t := by
  have h1 := sumU_mono (f := fun i => (gcond f i).toNat) (k := s + 1) (n := t) (by omega)
  have h2 := gcnt_s f s
  rw [hs] at h2
  have h3 : (true : Bool).toNat = 1 := rfl
  unfold gcnt at *
  omega
theorem gcnt_ex {f : Nat → Nat} {j : Nat} : ∀ N, j < gcnt f N → ∃ s, s < N ∧ gcond f s = true ∧ gcnt f s = j := by
  intro N
  induction N with
  | zero => intro h; exact absurd h (Nat.not_lt_zero _)
  | succ N ih =>
    intro h
    rw [gcnt_s] at h
    by_cases hj : j < gcnt f N
    · obtain ⟨s, h1, h2⟩ := ih hj
      exact ⟨s, by omega, h2⟩
    · cases hb : gcond f N with
      | false => rw [hb] at h; simp at h; omega
      | true =>
        rw [hb] at h
        have h3 : (true : Bool).toNat = 1 := rfl
        exact ⟨N, by omega, hb, by omega⟩
/-- how many ACTS stay in H -/
def stN (S : Sys) (H : Nat) : Nat := sumU (fun s => if H.testBit s = true then sumU (fun a => (allInS S (4 * s + a) H).toNat) (sA S s) else 0) (sN S)
theorem flat {A : Nat → Nat} {g : Nat → Nat → Nat} : ∀ n, (∀ s, s < n → A s ≤ 4) → sumU (fun x => if x % 4 < A (x / 4) then g (x / 4) (x % 4) else 0) (4 * n) = sumU (fun s => sumU (g s) (A s)) n := by
  intro n
  induction n with
  | zero => intro _; rfl
  | succ n ih =>
    intro hA
    have h1 := ih (fun s hs => hA s (by omega))
    have h4 := hA n (by omega)
    rw [show 4 * (n + 1) = 4 * n + 4 by omega, sumU_add, h1]
    simp only [sumU]
    congr 1
    rw [show (4 * n + 0) % 4 = 0 by omega, show (4 * n + 0) / 4 = n by omega, show (4 * n + 1) % 4 = 1 by omega, show (4 * n + 1) / 4 = n by omega, show (4 * n + 2) % 4 = 2 by omega, show (4 * n + 2) / 4 = n by omega, show (4 * n + 3) % 4 = 3 by omega, show (4 * n + 3) / 4 = n by omega]
    have hA4 : A n = 0 ∨ A n = 1 ∨ A n = 2 ∨ A n = 3 ∨ A n = 4 := by omega
    rcases hA4 with e | e | e | e | e <;> rw [e] <;> simp [sumU]
end M78
section L78
variable {xs : Nat × (Nat → Int32)} {d : Nat} {Q : Option v2 → Mem → Prop} {m : Mem} {S : Sys}
theorem r_together {s b : Nat} (hR : RM m S) (hw : wf S) (hs : s < sN S) (hb : b < 1024) (hQ : ∀ y, sub_n y (sN S) → (∀ t, y.testBit t = true ↔ t < sN S ∧ b.testBit t = true ∧ conn S (fun _ => b) s t ∧ conn S (fun _ => b) t s) → Q (some (vI (nI y))) m) : callW2 xs (d + 3) 165 [vR 40 0, vI (nI s), vI (nI b)] m Q := by
  have h3 := wf_n hw
  refine eX12_together m _ _ (W2_st (bX12_together_0 m _ _ ?_))
  refine r_reachedFrom hR hw hs hb (fun r hr => ⟨_, rfl, ?_⟩)
  rw [nI_and]
  have hr10 := sub_lt hr.1 h3
  have hrb10 : r &&& b < 1024 := and_lt hr10
  have key : ∀ k, k ≤ sN S → ∀ y o6, sub_n y k → (∀ t, y.testBit t = true ↔ t < k ∧ b.testBit t = true ∧ conn S (fun _ => b) s t ∧ conn S (fun _ => b) t s) → (W2 xs (callW2 xs (d + 2)) tX12_together [11] (some .int) Q 11 [some (vR 40 0), some (vI (nI s)), some (vI (nI b)), some (vI (nI (r &&& b))), some (vI (nI y)), some (vI (nI k)), (o6)] [] (m)) := by
    refine upto (sN S) ?_ ?_
    · intro y o6 h1 h2
      refine W2_st (bX12_together_11 m _ _ _ _ _ _ ?_)
      rw [rm_n hR, nI_leI (by omega) (by omega)]
      exact ⟨fun _ => hQ y h1 h2, fun z => absurd (Nat.le_refl _) z⟩
    · intro k hk ih y o6 h1 h2
      refine W2_st (bX12_together_11 m _ _ _ _ _ _ ?_)
      rw [rm_n hR, nI_leI (by omega) (by omega), shr_bit (by omega) (by omega), bI_1]
      simp only [nI_add, nI_00, nI_10, not_true_eq_false, not_false_eq_true, imp_false0, true_imp, false_imp, and_true, true_and]
      simp (disch := omega) only [one_shl, nI_or, Nat.or_zero]
      have no : ¬ (b.testBit k = true ∧ conn S (fun _ => b) s k ∧ conn S (fun _ => b) k s) → ∀ o6, (W2 xs (callW2 xs (d + 2)) tX12_together [11] (some .int) Q 11 [some (vR 40 0), some (vI (nI s)), some (vI (nI b)), some (vI (nI (r &&& b))), some (vI (nI y)), some (vI (nI (k + 1))), (o6)] [] (m)) := by
        intro hn o6
        refine ih y o6 (fun t ht => by have := h1 t ht; omega) (fun t => ?_)
        rw [h2]
        constructor
        · intro q; exact ⟨by omega, q.2⟩
        · intro q
          refine ⟨?_, q.2⟩
          by_cases htk : t = k
          · rw [htk] at q; exact absurd q.2 hn
          · omega
      have yes : (b.testBit k = true ∧ conn S (fun _ => b) s k ∧ conn S (fun _ => b) k s) → ∀ o6, (W2 xs (callW2 xs (d + 2)) tX12_together [11] (some .int) Q 11 [some (vR 40 0), some (vI (nI s)), some (vI (nI b)), some (vI (nI (r &&& b))), some (vI (nI (y ||| 2 ^ k))), some (vI (nI (k + 1))), (o6)] [] (m)) := by
        intro hy o6
        refine ih _ o6 (sub_n_or (fun t ht => by have := h1 t ht; omega) (sub_n_two (by omega))) (fun t => ?_)
        rw [Nat.testBit_or, Bool.or_eq_true, h2, two_bit, decide_eq_true_iff]
        constructor
        · rintro (q | q)
          · exact ⟨by omega, q.2⟩
          · rw [← q]; exact ⟨by omega, hy⟩
        · intro q
          by_cases htk : t = k
          · exact Or.inr htk.symm
          · exact Or.inl ⟨by omega, q.2⟩
      refine ⟨fun z => by omega, fun _ => ⟨fun h => no (fun z => h ?_) _, fun h => ?_⟩⟩
      · rw [Nat.testBit_and, z.1, (rch_conn hr).mpr z.2.1]; rfl
      · rw [Nat.testBit_and, Bool.and_eq_true] at h
        refine r_reachedFrom hR hw hk hb (fun r2 hr2 => ⟨_, rfl, ?_⟩)
        have h210 := sub_lt hr2.1 h3
        rw [shr_bit (by omega) (by omega), bI_1]
        exact ⟨fun h5 => no (fun z => h5 ((rch_conn hr2).mpr z.2.2)) _, fun h5 => yes ⟨h.2, (rch_conn hr).mp h.1, (rch_conn hr2).mp h5⟩ _⟩
  exact key 0 (Nat.zero_le _) 0 none (fun t ht => by rw [Nat.zero_testBit] at ht; cases ht) (fun t => by rw [Nat.zero_testBit]; constructor; intro z; cases z; intro z; omega)
theorem r_staying {b : Nat} (hR : RM m S) (hw : wf S) (hb : b < 1024) (hQ : ∀ y, sub_n y (sN S) → (∀ t, y.testBit t = true ↔ t < sN S ∧ b.testBit t = true ∧ ∃ a, a < sA S t ∧ allInS S (4 * t + a) b = true) → Q (some (vI (nI y))) m) : callW2 xs (d + 2) 166 [vR 40 0, vI (nI b)] m Q := by
  have h3 := wf_n hw
  refine eX12_staying m _ (W2_st (bX12_staying_0 m _ ?_))
  have key : ∀ x, x ≤ 4 * sN S → ∀ y o4, sub_n y (sN S) → (∀ t, y.testBit t = true ↔ b.testBit t = true ∧ ∃ a, a < sA S t ∧ a < 4 ∧ 4 * t + a < x ∧ allInS S (4 * t + a) b = true) → (W2 xs (callW2 xs (d + 1)) tX12_staying [4] (some .int) Q 4 [some (vR 40 0), some (vI (nI b)), some (vI (nI y)), some (vI (nI x)), (o4)] [] (m)) := by
    refine upto (4 * sN S) ?_ ?_
    · intro y o4 h1 h2
      refine W2_st (bX12_staying_4 m _ _ _ _ ?_)
      rw [rm_n hR, pk_mul, nI_leI (by omega) (by omega)]
      refine ⟨fun _ => hQ y h1 (fun t => ?_), fun z => absurd (Nat.le_refl _) z⟩
      rw [h2]
      constructor
      · rintro ⟨q1, a, q2, q3, q4, q5⟩; exact ⟨by omega, q1, a, q2, q5⟩
      · rintro ⟨q0, q1, a, q2, q5⟩
        have := wf_a hw q0
        exact ⟨q1, a, q2, by omega, by omega, q5⟩
    · intro x hx ih y o4 h1 h2
      have h4 := wf_a hw (show x / 4 < sN S by omega)
      refine W2_st (bX12_staying_4 m _ _ _ _ ?_)
      rw [rm_n hR, pk_mul, nI_leI (by omega) (by omega), pk_rem (by omega) (by omega) (by omega), pk_div (by omega) (by omega) (by omega), shr_bit (by omega) (by omega), bI_1, nI_clamp (by omega), rm_a hR (show x / 4 < sN S by omega), nI_leI (by omega) (by omega)]
      simp only [nI_add, nI_00, nI_10, not_true_eq_false, not_false_eq_true, imp_false0, true_imp, false_imp, and_true, true_and]
      simp (disch := omega) only [one_shl, nI_or, Nat.or_zero]
      have no : ¬ (x % 4 < sA S (x / 4) ∧ b.testBit (x / 4) = true ∧ allInS S x b = true) → ∀ o4, (W2 xs (callW2 xs (d + 1)) tX12_staying [4] (some .int) Q 4 [some (vR 40 0), some (vI (nI b)), some (vI (nI y)), some (vI (nI (x + 1))), (o4)] [] (m)) := by
        intro hn o4
        refine ih y o4 h1 (fun t => ?_)
        rw [h2]
        constructor
        · rintro ⟨q1, a, q2, q3, q4, q5⟩; exact ⟨q1, a, q2, q3, by omega, q5⟩
        · rintro ⟨q1, a, q2, q3, q4, q5⟩
          refine ⟨q1, a, q2, q3, ?_, q5⟩
          by_cases he : 4 * t + a = x
          · exfalso
            refine hn ?_
            rw [show x / 4 = t by omega, show x % 4 = a by omega, ← he]
            exact ⟨q2, q1, q5⟩
          · omega
      have yes : (x % 4 < sA S (x / 4) ∧ b.testBit (x / 4) = true ∧ allInS S x b = true) → ∀ o4, (W2 xs (callW2 xs (d + 1)) tX12_staying [4] (some .int) Q 4 [some (vR 40 0), some (vI (nI b)), some (vI (nI (y ||| 2 ^ (x / 4)))), some (vI (nI (x + 1))), (o4)] [] (m)) := by
        intro hy o4
        refine ih _ o4 (sub_n_or h1 (sub_n_two (by omega))) (fun t => ?_)
        rw [Nat.testBit_or, Bool.or_eq_true, h2, two_bit, decide_eq_true_iff]
        constructor
        · rintro (⟨q1, a, q2, q3, q4, q5⟩ | q)
          · exact ⟨q1, a, q2, q3, by omega, q5⟩
          · rw [← q]
            exact ⟨hy.2.1, x % 4, hy.1, by omega, by omega, by rw [show 4 * (x / 4) + x % 4 = x by omega]; exact hy.2.2⟩
        · rintro ⟨q1, a, q2, q3, q4, q5⟩
          by_cases he : 4 * t + a = x
          · exact Or.inr (by omega)
          · exact Or.inl ⟨q1, a, q2, q3, by omega, q5⟩
      have n4 : ¬ nI 4 = 0 := by decide
      refine ⟨fun z => by omega, fun _ => ⟨n4, n4, inb_nI (by omega) (by omega), fun h6 => no (fun z => by omega) _, fun h6 => ⟨n4, fun h => no (fun z => h z.2.1) _, fun h => ?_⟩⟩⟩
      have hA : isA S x := ⟨by omega, by omega⟩
      refine r_allIn hR hw hA (by omega) ⟨_, rfl, fun h7 => ?_, fun h7 => ⟨n4, ?_⟩⟩
      · rw [bI_0] at h7
        exact no (fun z => by rw [z.2.2] at h7; cases h7) _
      · rw [bI_0, Bool.not_eq_false] at h7
        exact yes ⟨by omega, h, h7⟩ _
  exact key 0 (Nat.zero_le _) 0 none (fun t ht => by rw [Nat.zero_testBit] at ht; cases ht) (fun t => by
    rw [Nat.zero_testBit]
    constructor
    · intro z; cases z
    · rintro ⟨_, a, _, _, q, _⟩; omega)
theorem r_holeOf {s : Nat} (hR : RM m S) (hw : wf S) (hs : s < sN S) (hQ : ∀ H, H < 1024 → isMec S s H → Q (some (vI (nI H))) m) : callW2 xs (d + 4) 167 [vR 40 0, vI (nI s)] m Q := by
  have h3 := wf_n hw
  refine eX12_holeOf m _ (W2_st (bX12_holeOf_0 m _ (r_all hR hw ⟨_, rfl, ?_⟩)))
  have key : ∀ x (b : Bool) o4, sub_n x (sN S) → (∀ H, ec S H → H.testBit s = true → bsub H x) → (b = false → x.testBit s = true → ec S x) → (W2 xs (callW2 xs (d + 3)) tX12_holeOf [5] (some .int) Q 5 [some (vR 40 0), some (vI (nI s)), some (vI (nI x)), some (vI (bI b)), (o4)] [] (m)) := by
    intro x
    induction x using Nat.strongRecOn with
    | _ x ihx =>
      intro b o4 h1 h2 hb
      have hx10 := sub_lt h1 h3
      refine W2_st (bX12_holeOf_5 m _ _ _ _ ?_)
      rw [shr_bit (by omega) (by omega), bI_1, bI_0]
      have none0 : ¬ x.testBit s = true → Q (some (vI (nI 0))) m := fun h => hQ 0 (by omega) (Or.inl ⟨rfl, fun H' k1 => by
        cases q : H'.testBit s with
        | false => rfl
        | true => exact absurd (h2 H' k1 q s q) h⟩)
      refine ⟨fun hbf => ⟨none0, fun h => hQ x hx10 (Or.inr ⟨hb hbf h, h, h2⟩)⟩, fun hbt => ⟨fun h => ⟨none0, fun h' => absurd h' h⟩, fun h => ?_⟩⟩
      refine r_together hR hw hs hx10 (fun y1 e1 e2 => ⟨_, rfl, ?_⟩)
      have hy10 := sub_lt e1 h3
      refine r_staying hR hw hy10 (fun y2 e3 e4 => ⟨_, rfl, ?_⟩)
      have hz10 := sub_lt e3 h3
      rw [nI_eq (by omega) (by omega)]
      have s12 : bsub y2 y1 := fun t ht => ((e4 t).mp ht).2.1
      have s1x : bsub y1 x := fun t ht => ((e2 t).mp ht).2.1
      have hec : ∀ H, ec S H → H.testBit s = true → bsub H y2 := by
        intro H k1 k2
        have hHx := h2 H k1 k2
        have hH1 : bsub H y1 := fun t ht => (e2 t).mpr ⟨k1.1 t ht, hHx t ht, conn_mono (fun _ _ => hHx) (k1.2.2.2 s t k2 ht), conn_mono (fun _ _ => hHx) (k1.2.2.2 t s ht k2)⟩
        intro t ht
        obtain ⟨a, ha, ea⟩ := k1.2.2.1 t ht
        exact (e4 t).mpr ⟨k1.1 t ht, hH1 t ht, a, ha, allIn_mono hH1 ea⟩
      refine ⟨fun he => ?_, fun hne => ?_⟩
      · have hb2 : false = false → y2.testBit s = true → ec S y2 := by
          intro _ hy2s
          have e21 : y1 = y2 := by rw [he] at s12 ⊢; exact bsub_anti s1x s12
          refine ⟨e3, ⟨s, hy2s⟩, fun t ht => ?_, fun t u ht hu => ?_⟩
          · obtain ⟨a, ha, ea⟩ := ((e4 t).mp ht).2.2
            rw [e21] at ea
            exact ⟨a, ha, ea⟩
          · have c1 := ((e2 t).mp (s12 t ht)).2.2.2
            have c2 := ((e2 u).mp (s12 u hu)).2.2.1
            rw [he]
            exact conn_trans c1 c2
        rw [← he] at ihx
        -- one step more: nothing more is sought
        refine W2_st (bX12_holeOf_5 m _ _ _ _ ?_)
        rw [shr_bit (by omega) (by omega), bI_1]
        refine ⟨fun _ => ⟨fun h' => hQ 0 (by omega) (Or.inl ⟨rfl, fun H' k1 => ?_⟩), fun h' => hQ y2 hz10 (Or.inr ⟨hb2 rfl h', h', hec⟩)⟩, fun z => absurd (by decide) z⟩
        cases q : H'.testBit s with
        | false => rfl
        | true => exact absurd (hec H' k1 q s q) h'
      · exact ihx y2 (Nat.lt_of_le_of_ne (bsub_le (bsub_trans s12 s1x)) hne) true _ e3 hec (fun z => by cases z)
  exact key _ true none (sub_n_fullB _) (fun H k1 _ => sub_n_full.mp k1.1) (fun z => by cases z)
/-- findHoles() -/
theorem r_findHoles (hR : RM m S) (hw : wf S) (hQ : ∀ (f : Nat → Nat) m', offI (fun t j => (t = 40 ∨ t = 63) ∧ j = 0) m m' → (∀ k, k ≠ 30 → m'.1 40 0 k = m.1 40 0 k) → (∀ s, s < sN S → isMec S s (f s) ∧ f s < 1024) → m'.1 40 0 30 = nI (gcnt f (sN S)) → (∀ s, s < sN S → gcond f s = true → m'.1 63 0 (gcnt f s) = nI (f s)) → Q none m') : callW2 xs (d + 5) 168 [vR 40 0] m Q := by
  have h3 := wf_n hw
  refine eX12_findHoles m (W2_st (bX12_findHoles_0 m ?_))
  have key : ∀ k, k ≤ sN S → ∀ (f : Nat → Nat) sn mc o3, offI (fun t j => (t = 40 ∨ t = 63) ∧ j = 0) m mc → (∀ j, j ≠ 30 → mc.1 40 0 j = m.1 40 0 j) → (∀ s, s < k → isMec S s (f s) ∧ f s < 1024) → mc.1 40 0 30 = nI (gcnt f k) → (∀ s, s < k → gcond f s = true → mc.1 63 0 (gcnt f s) = nI (f s)) → sn < 1024 → (∀ t, sn.testBit t = true ↔ ∃ s, s < k ∧ gcond f s = true ∧ (f s).testBit t = true) → (W2 xs (callW2 xs (d + 4)) tX12_findHoles [7] none Q 7 [some (vR 40 0), some (vI (nI sn)), some (vI (nI k)), (o3)] [] (mc)) := by
    refine upto (sN S) ?_ ?_
    · intro f sn mc o3 g1 g2 g3 g4 g5 g6 g7
      refine W2_st (bX12_findHoles_7 mc _ _ _ ?_)
      rw [g2 1 (by omega), rm_n hR, nI_leI (by omega) (by omega)]
      exact ⟨fun _ => hQ f mc g1 g2 g3 g4 g5, fun z => absurd (Nat.le_refl _) z⟩
    · intro k hk ih f sn mc o3 g1 g2 g3 g4 g5 g6 g7
      have hRc : RM mc S := by
        unfold RM RMa at hR ⊢
        rw [g2 1 (by omega), g2 2 (by omega), (g1.1 41 0 (by omega)).1, (g1.1 42 0 (by omega)).1, (g1.1 43 0 (by omega)).1, (g1.1 44 0 (by omega)).1, (g1.1 45 0 (by omega)).1, (g1.1 46 0 (by omega)).1]
        exact hR
      have hgk := gcnt_le f k
      refine W2_st (bX12_findHoles_7 mc _ _ _ ?_)
      rw [rm_n hRc, nI_leI (by omega) (by omega), shr_bit (by omega) (by omega), bI_1]
      simp only [nI_add, nI_00, not_true_eq_false, not_false_eq_true, imp_false0, true_imp, false_imp, and_true, true_and]
      -- the next value of f at k
      have ext : ∀ H, isMec S k H → H < 1024 → ∃ f' : Nat → Nat, (∀ s, s < k → f' s = f s) ∧ f' k = H := fun H _ _ => ⟨fun s => if s = k then H else f s, fun s hs => if_neg (by omega), if_pos rfl⟩
      have gc : ∀ f' : Nat → Nat, (∀ s, s < k → f' s = f s) → (∀ s, s < k → gcond f' s = gcond f s) ∧ (∀ s, s ≤ k → gcnt f' s = gcnt f s) := by
        intro f' hf'
        have h1 : ∀ s, s < k → gcond f' s = gcond f s := fun s hs => by unfold gcond; rw [hf' s hs]
        exact ⟨h1, fun s hs => sumU_congr (fun i hi => by rw [h1 i (by omega)])⟩
      have notseen : ¬ sn.testBit k = true → ∀ H, isMec S k H → H ≠ 0 → ∀ t, t < k → H.testBit t = false := by
        intro hns H hH hne t ht
        cases q : H.testBit t with
        | false => rfl
        | true =>
          exfalso
          -- the least of H has been listed
          have hHt := isMec_sym hH q
          have hft : f t = H := isMec_uniq (g3 t ht).1 hHt
          have hex : ∃ u, u < k ∧ H.testBit u = true ∧ ∀ v, v < u → H.testBit v = false := by
            have : ∀ n, n ≤ t → (∃ u, u ≤ t ∧ H.testBit u = true ∧ ∀ v, v < u → H.testBit v = false) ∨ ∀ v, v < n → H.testBit v = false := by
              intro n
              induction n with
              | zero => intro _; exact Or.inr (fun v hv => by omega)
              | succ n ihn =>
                intro hn
                rcases ihn (by omega) with q2 | q2
                · exact Or.inl q2
                · cases q3 : H.testBit n with
                  | true => exact Or.inl ⟨n, by omega, q3, q2⟩
                  | false =>
                    refine Or.inr (fun v hv => ?_)
                    rcases Nat.lt_or_ge v n with q4 | q4
                    · exact q2 v q4
                    · rw [show v = n by omega]; exact q3
            rcases this t (Nat.le_refl _) with ⟨u, u1, u2⟩ | q2
            · exact ⟨u, by omega, u2⟩
            · exact ⟨t, ht, q, q2⟩
          obtain ⟨u, u1, u2, u3⟩ := hex
          have hfu : f u = H := isMec_uniq (g3 u u1).1 (isMec_sym hH u2)
          have hHk : H.testBit k = true := by
            rcases hH with ⟨z, _⟩ | ⟨_, z, _⟩
            · exact absurd z hne
            · exact z
          refine hns ((g7 k).mpr ⟨u, u1, ?_, by rw [hfu]; exact hHk⟩)
          unfold gcond
          rw [hfu, decide_eq_true hne, Bool.true_and, allU_iff]
          exact fun v hv => by rw [u3 v hv]; rfl
      refine ⟨fun z => by omega, fun _ => ⟨fun hns => ?_, fun hseen => ?_⟩⟩
      · refine r_holeOf hRc hw hk (fun H hH10 hH => ⟨_, rfl, ?_⟩)
        obtain ⟨f', hf1, hf2⟩ := ext H hH hH10
        obtain ⟨c1, c2⟩ := gc f' hf1
        have hm' : ∀ s, s < k + 1 → isMec S s (f' s) ∧ f' s < 1024 := fun s hs => by
          by_cases hsk : s = k
          · rw [hsk, hf2]; exact ⟨hH, hH10⟩
          · rw [hf1 s (by omega)]; exact g3 s (by omega)
        rw [z_eq (by omega)]
        refine ⟨fun h0 => ?_, fun h0 => ?_⟩
        · have ck : gcond f' k = false := by unfold gcond; rw [hf2, h0]; rfl
          refine ih f' sn mc _ g1 g2 hm' (by rw [gcnt_s, ck, c2 k (Nat.le_refl _)]; exact g4) (fun s hs hc => ?_) g6 (fun t => ?_)
          · by_cases hsk : s = k
            · rw [hsk, ck] at hc; cases hc
            · rw [c2 s (by omega), hf1 s (by omega)]; exact g5 s (by omega) (by rw [← c1 s (by omega)]; exact hc)
          · rw [g7]
            constructor
            · rintro ⟨s, q1, q2, q3⟩; exact ⟨s, by omega, by rw [c1 s q1]; exact q2, by rw [hf1 s q1]; exact q3⟩
            · rintro ⟨s, q1, q2, q3⟩
              have hsk : s ≠ k := fun e => by rw [e, ck] at q2; cases q2
              exact ⟨s, by omega, by rw [← c1 s (by omega)]; exact q2, by rw [← hf1 s (by omega)]; exact q3⟩
        · have ck : gcond f' k = true := by
            unfold gcond
            rw [hf2, decide_eq_true h0, Bool.true_and, allU_iff]
            exact fun v hv => by rw [notseen hns H hH h0 v hv]; rfl
          rw [g4, nI_clamp (by omega)]
          have e30 : (mI mc 63 0 (gcnt f k) (nI H)).1 40 0 30 = nI (gcnt f k) := by rw [mI_r, if_neg (by omega)]; exact g4
          rw [e30, nI_or, nI_add]
          refine ⟨inb_nI (by omega) (by omega), ih f' (sn ||| H) _ _ (offI_I (offI_I g1 _ _ ⟨Or.inr rfl, rfl⟩) _ _ ⟨Or.inl rfl, rfl⟩) (fun j hj => by rw [mI_r, if_neg (by omega), mI_r, if_neg (by omega)]; exact g2 j hj) hm' (by rw [mI_r, if_pos ⟨rfl, rfl, rfl⟩, gcnt_s, ck, c2 k (Nat.le_refl _)]; rfl) (fun s hs hc => ?_) (or_lt g6 hH10) (fun t => ?_)⟩
          · rw [mI_r, if_neg (by omega), mI_r]
            by_cases hsk : s = k
            · rw [hsk, c2 k (Nat.le_refl _), if_pos ⟨rfl, rfl, rfl⟩, hf2]
            · have hcs : gcond f s = true := by rw [← c1 s (by omega)]; exact hc
              have := gcnt_lt (f := f) (show s < k by omega) hcs
              rw [c2 s (by omega), if_neg (by omega), hf1 s (by omega)]
              exact g5 s (by omega) hcs
          · rw [Nat.testBit_or, Bool.or_eq_true, g7]
            constructor
            · rintro (⟨s, q1, q2, q3⟩ | q)
              · exact ⟨s, by omega, by rw [c1 s q1]; exact q2, by rw [hf1 s q1]; exact q3⟩
              · exact ⟨k, by omega, ck, by rw [hf2]; exact q⟩
            · rintro ⟨s, q1, q2, q3⟩
              by_cases hsk : s = k
              · rw [hsk, hf2] at q3; exact Or.inr q3
              · exact Or.inl ⟨s, by omega, by rw [← c1 s (by omega)]; exact q2, by rw [← hf1 s (by omega)]; exact q3⟩
      · -- it is in a hole that has been listed
        obtain ⟨s, q1, q2, q3⟩ := (g7 k).mp hseen
        have hmk : isMec S k (f s) := isMec_sym (g3 s q1).1 q3
        obtain ⟨f', hf1, hf2⟩ := ext (f s) hmk (g3 s q1).2
        obtain ⟨c1, c2⟩ := gc f' hf1
        have hfs : (f s).testBit s = true := by
          rcases (g3 s q1).1 with ⟨z, _⟩ | ⟨_, z, _⟩
          · unfold gcond at q2; rw [z] at q2; cases q2
          · exact z
        have ck : gcond f' k = false := by
          cases hc : gcond f' k with
          | false => rfl
          | true =>
            exfalso
            unfold gcond at hc
            rw [Bool.and_eq_true] at hc
            have := allU_iff.mp hc.2 s q1
            rw [hf2, hfs] at this
            cases this
        refine ih f' sn mc _ g1 g2 (fun u hu => ?_) (by rw [gcnt_s, ck, c2 k (Nat.le_refl _)]; exact g4) (fun u hu hc => ?_) g6 (fun t => ?_)
        · by_cases huk : u = k
          · rw [huk, hf2]; exact ⟨hmk, (g3 s q1).2⟩
          · rw [hf1 u (by omega)]; exact g3 u (by omega)
        · by_cases huk : u = k
          · rw [huk, ck] at hc; cases hc
          · rw [c2 u (by omega), hf1 u (by omega)]; exact g5 u (by omega) (by rw [← c1 u (by omega)]; exact hc)
        · rw [g7]
          constructor
          · rintro ⟨u, p1, p2, p3⟩; exact ⟨u, by omega, by rw [c1 u p1]; exact p2, by rw [hf1 u p1]; exact p3⟩
          · rintro ⟨u, p1, p2, p3⟩
            have huk : u ≠ k := fun e => by rw [e, ck] at p2; cases p2
            exact ⟨u, by omega, by rw [← c1 u (by omega)]; exact p2, by rw [← hf1 u (by omega)]; exact p3⟩
  refine key 0 (Nat.zero_le _) (fun _ => 0) 0 _ none (offI_I (offI_rfl _ _) _ _ ⟨Or.inl rfl, rfl⟩) (fun j hj => by rw [mI_r, if_neg (by omega)]) (fun s hs => by omega) (by rw [mI_r, if_pos ⟨rfl, rfl, rfl⟩]; rfl) (fun s hs => by omega) (by omega) (fun t => ?_)
  rw [Nat.zero_testBit]
  constructor
  · intro z; cases z
  · rintro ⟨s, q, _⟩; omega
end L78
