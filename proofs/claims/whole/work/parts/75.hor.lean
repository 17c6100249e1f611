/-! CONTRACTS (24): chances within steps (wip/whole/src/75.hor.src) -/
def btb (sk : Bool) (a b : Int) : Bool := match sk with
  | true => decide (b < a)
  | false => decide (a < b)
/-- the best of f 0 .. f (n - 1) -/
def bestU (sk : Bool) (f : Nat → Int) : Nat → Int
  | 0 => 0
  | a + 1 => if a = 0 ∨ btb sk (f a) (bestU sk f a) = true then f a else bestU sk f a
def hor (S : Sys) (l : Bool) : Nat → Nat → Int
  | 0, s => if (sM S).testBit s = true then 1 else 0
  | k + 1, s => if (sM S).testBit s = true then 12 ^ (k + 1) else bestU (wantS S l s) (fun a => meanS S (4 * s + a) (hor S l k)) (sA S s)
theorem bestU_in {sk : Bool} {f : Nat → Int} {n : Nat} {lo hi : Int} (h0 : lo ≤ 0) (h1 : 0 ≤ hi) (h : ∀ a, a < n → lo ≤ f a ∧ f a ≤ hi) : lo ≤ bestU sk f n ∧ bestU sk f n ≤ hi := by
  induction n with
  | zero => exact ⟨h0, h1⟩
  | succ n ih =>
    simp only [bestU]
    split
    · exact h n (by omega)
    · exact ih (fun a ha => h a (by omega))
section L75
variable {xs : Nat × (Nat → Int32)} {d : Nat} {Q : Option v2 → Mem → Prop} {m : Mem} {S : Sys}
theorem mean_in {x : Nat} {u : Nat → Int} {hi : Int} (hw : wf S) (hx : isA S x) (h0 : 0 ≤ hi) (h : ∀ o, o < sO S x → 0 ≤ u (sT S x o) ∧ u (sT S x o) ≤ hi) : 0 ≤ meanS S x u ∧ meanS S x u ≤ 12 * hi := by
  constructor
  · exact sumI_nn (fun o ho => Int.mul_nonneg (Int.natCast_nonneg _) (h o ho).1)
  · have h1 := meanS_le (S := S) (x := x) (u := u) (v := fun _ => hi) (fun o ho => (h o ho).2)
    rw [meanS_const] at h1
    have h2 := wf_ps hw hx
    have h3 : hi * (partsS S x : Nat) ≤ hi * 12 := Int.mul_le_mul_of_nonneg_left (by omega) h0
    omega
theorem hor_in (hw : wf S) (l : Bool) : ∀ k s, s < sN S → 0 ≤ hor S l k s ∧ hor S l k s ≤ 12 ^ k := by
  intro k
  induction k with
  | zero => intro s _; simp only [hor]; split <;> decide
  | succ k ih =>
    intro s hs
    have hp : (0 : Int) ≤ 12 ^ k := Int.pow_nonneg (by decide)
    have e : (12 : Int) ^ (k + 1) = 12 * 12 ^ k := by rw [Int.pow_succ]; omega
    simp only [hor]
    split
    · omega
    · refine bestU_in (Int.le_refl _) (by omega) (fun a ha => ?_)
      have hx := isA_mk hs ha (by have := wf_a hw hs; omega)
      rw [e]
      exact mean_in hw hx hp (fun o ho => ih _ (wf_t hw hx ho))
theorem p12 : ∀ k, k < 11 → (12 : Int) ^ k < 2 ^ 37 := by decide
theorem hor_lt (hw : wf S) (l : Bool) {k s : Nat} (hk : k < 11) (hs : s < sN S) : 0 ≤ hor S l k s ∧ hor S l k s < 2 ^ 37 := by
  have h1 := hor_in hw l k s hs
  have h2 := p12 k hk
  omega
theorem btb_f {a b : Int} : btb false a b = decide (a < b) := rfl
theorem btb_t {a b : Int} : btb true a b = decide (b < a) := rfl
/-- Horizon.best(s, later) -/
theorem c_best {i j s : Nat} {u : Nat → Int} {l : Bool} (hR : RC m S) (hw : wf S) (hs : s < sN S) (hl : m.1 18 i 1 = bI l) (hu : ∀ t, t < sN S → m.2 15 j t = lI (u t)) (hb : ∀ t, t < sN S → 0 ≤ u t ∧ u t < 2 ^ 37) (hQ : Q (some (vL (lI (bestU (wantS S l s) (fun a => meanS S (4 * s + a) u) (sA S s))))) m) : callW2 xs (d + 3) 28 [vR 18 i, vI (nI s), vR 15 j] m Q := by
  have h3 := wf_n hw
  have h4 := wf_a hw hs
  have hma : ∀ a, a < sA S s → 0 ≤ meanS S (4 * s + a) u ∧ meanS S (4 * s + a) u ≤ 12 * 2 ^ 37 := fun a ha => by
    have hx := isA_mk hs ha (by omega)
    exact mean_in hw hx (by decide) (fun o ho => by have := hb _ (wf_t hw hx ho); omega)
  refine eX4_best m _ _ _ (W2_st (bX4_best_0 m _ _ _ ?_))
  rw [hl]
  refine c_seeks hR hw hs l ⟨_, rfl, ?_⟩
  have key : ∀ a, a ≤ sA S s → ∀ o7, (W2 xs (callW2 xs (d + 2)) tX4_best [11] (some .long) Q 11 [some (vR 18 (i)), some (vI (nI s)), some (vR 15 (j)), some (vI (bI (wantS S l s))), some (vL (lI (bestU (wantS S l s) (fun a => meanS S (4 * s + a) u) a))), none, some (vI (nI a)), (o7), none] [] (m)) := by
    refine upto (sA S s) ?_ ?_
    · intro o7
      refine W2_st (bX4_best_11 m _ _ _ _ _ _ _ ?_)
      rw [nI_clamp (by omega), rc_a hR hs, nI_leI (by omega) (by omega)]
      exact ⟨inb_nI (by omega) (by omega), fun _ => hQ, fun z => absurd (Nat.le_refl _) z⟩
    · intro a ha ih o7
      have hx := isA_mk hs ha (by omega)
      have hbb := bestU_in (sk := wantS S l s) (f := fun a => meanS S (4 * s + a) u) (n := a) (lo := 0) (hi := 12 * 2 ^ 37) (Int.le_refl _) (by decide) (fun a' ha' => hma a' (by omega))
      have hm1 := hma a ha
      refine W2_st (bX4_best_11 m _ _ _ _ _ _ _ ?_)
      rw [nI_clamp (by omega), rc_a hR hs, nI_leI (by omega) (by omega)]
      simp only [nI_add]
      refine ⟨inb_nI (by omega) (by omega), fun z => by omega, fun _ => c_actS hw hs ha ⟨_, rfl, c_meanS hR hw hx hu ⟨_, rfl, ?_⟩⟩⟩
      rw [lg_cmp_ge, lg_cmp_le, lI_le (by omega) (by omega) (by omega) (by omega), lI_le (by omega) (by omega) (by omega) (by omega), bI_0, z_eq (by omega)]
      simp only [bestU] at ih
      refine ⟨fun h0 => ?_, fun h0 => ⟨fun hq => ⟨fun hle => ?_, fun hlt => ?_⟩, fun hq => ⟨fun hle => ?_, fun hlt => ?_⟩⟩⟩
      · rw [if_pos (Or.inl h0)] at ih; exact ih _
      · rw [if_neg (by rw [hq, btb_f]; simp only [decide_eq_true_iff]; rw [hq] at hle; omega)] at ih; exact ih _
      · rw [if_pos (Or.inr (by rw [hq, btb_f, decide_eq_true_iff]; rw [hq] at hlt; omega))] at ih; exact ih _
      · rw [Bool.not_eq_false] at hq
        rw [if_neg (by rw [hq, btb_t]; simp only [decide_eq_true_iff]; rw [hq] at hle; omega)] at ih; exact ih _
      · rw [Bool.not_eq_false] at hq
        rw [if_pos (Or.inr (by rw [hq, btb_t, decide_eq_true_iff]; rw [hq] at hlt; omega))] at ih; exact ih _
  have := key 0 (Nat.zero_le _) none
  rw [lI_N]
  exact this
/-- the horizon's cache is right -/
def horOK (m : Mem) (S : Sys) (l : Bool) (i : Nat) : Prop := ∀ k, k < 11 → m.2 20 i k = lI (12 ^ k) ∧ ∀ s, s < sN S → m.2 15 (3 + 11 * i + k) s = lI (hor S l k s)
def tH (i : Nat) : Nat → Nat → Prop := fun t j => (t = 18 ∨ t = 20) ∧ j = i ∨ t = 15 ∧ 3 + 11 * i ≤ j ∧ j < 14 + 11 * i
theorem RC_H {m' : Mem} {i : Nat} (h : off (tH i) m m') (hw : wf S) (hR : RC m S) : RC m' S := RC_off h (by unfold tH; omega) (by unfold tH; omega) (fun x _ => by unfold tH; omega) (fun x _ => by unfold tH; omega) (fun x _ => by unfold tH; omega) hw hR
theorem c_horN {i : Nat} {l : Bool} (hR : RC m S) (hw : wf S) (hl : m.1 18 i 1 = bI l) (hv : m.1 18 i 2 ≠ m.1 1 0 2) (hQ : ∀ m', off (tH i) m m' → m'.1 18 i 2 = m.1 1 0 2 → m'.1 18 i 1 = bI l → horOK m' S l i → Q none m') : callW2 xs (d + 4) 27 [vR 18 i] m Q := by
  have h3 := wf_n hw
  have hM := wf_m hw
  refine eX4_settle m _ (W2_st (bX4_settle_0 m _ ⟨fun _ => ⟨inb_nI (by omega) (by omega), ?_⟩, fun z => absurd z hv⟩))
  have c0 : (nI 0).toNatClampNeg = 0 := rfl
  rw [c0]
  -- facts of a state in work: ints are those behind the first write
  have T0 : off (tH i) m (mI m 18 i 2 (m.1 1 0 2)) := off_I (off_rfl _ _) _ _ (Or.inl ⟨Or.inl rfl, rfl⟩)
  have i1 : ∀ mc : Mem, mc.1 = (mI m 18 i 2 (m.1 1 0 2)).1 → mc.1 18 i 2 = m.1 1 0 2 ∧ mc.1 18 i 1 = bI l ∧ RC mc S := by
    intro mc h
    refine ⟨?_, ?_, RC_L h (RC_H T0 hw hR)⟩
    · rw [h, mI_r, if_pos ⟨rfl, rfl, rfl⟩]
    · rw [h, mI_r, if_neg (by omega)]; exact hl
  have up : ∀ k, k ≤ 11 → ∀ mc o2, 1 ≤ k → off (tH i) m mc → mc.1 = (mI m 18 i 2 (m.1 1 0 2)).1 → (∀ k', k' < k → mc.2 20 i k' = lI (12 ^ k') ∧ ∀ s, s < sN S → mc.2 15 (3 + 11 * i + k') s = lI (hor S l k' s)) → (W2 xs (callW2 xs (d + 3)) tX4_settle [19, 43, 60] none Q 43 [some (vR 18 (i)), some (vI (nI k)), (o2)] [] (mc)) := by
    refine upto 11 ?_ ?_
    · intro mc o2 _ g1 g2 g3
      refine W2_st (bX4_settle_43 mc _ _ _ ⟨fun _ => ?_, fun z => absurd (by decide) z⟩)
      exact hQ mc g1 (i1 mc g2).1 (i1 mc g2).2.1 g3
    · intro k hk ih mc o2 hk1 g1 g2 g3
      refine W2_st (bX4_settle_43 mc _ _ _ ?_)
      rw [nI_ltI (by omega) (by omega), pk_sub (by omega), nI_clamp (by omega), nI_clamp (by omega), (g3 (k - 1) (by omega)).1, lI_N, lI_mul]
      refine ⟨fun z => by omega, fun _ => ⟨inb_nI (by omega) (by omega), inb_nI (by omega) (by omega), ?_⟩⟩
      have e12 : (12 : Nat) * (12 : Int) ^ (k - 1) = 12 ^ k := by
        obtain ⟨k', rfl⟩ : ∃ k', k = k' + 1 := ⟨k - 1, by omega⟩
        rw [Nat.add_sub_cancel, Int.pow_succ]
        exact Int.mul_comm _ _
      rw [e12]
      have inner : ∀ s, s ≤ sN S → ∀ mc, off (tH i) m mc → mc.1 = (mI m 18 i 2 (m.1 1 0 2)).1 → mc.2 20 i k = lI (12 ^ k) → (∀ k', k' < k → mc.2 20 i k' = lI (12 ^ k') ∧ ∀ s, s < sN S → mc.2 15 (3 + 11 * i + k') s = lI (hor S l k' s)) → (∀ t, t < s → mc.2 15 (3 + 11 * i + k) t = lI (hor S l k t)) → (W2 xs (callW2 xs (d + 3)) tX4_settle [19, 43, 60] none Q 60 [some (vR 18 (i)), some (vI (nI k)), some (vI (nI s))] [] (mc)) := by
        refine upto (sN S) ?_ ?_
        · intro mc g1 g2 g4 g3 g5
          refine W2_st (bX4_settle_60 mc _ _ _ ?_)
          rw [rc_n (i1 mc g2).2.2, nI_leI (by omega) (by omega), nI_add]
          refine ⟨fun _ => ih mc _ (by omega) g1 g2 (fun k' hk' => ?_), fun z => absurd (Nat.le_refl _) z⟩
          by_cases hkk : k' = k
          · rw [hkk]; exact ⟨g4, g5⟩
          · exact g3 k' (by omega)
        · intro s hs ihs mc g1 g2 g4 g3 g5
          obtain ⟨a1, a2, a3⟩ := i1 mc g2
          refine W2_st (bX4_settle_60 mc _ _ _ ?_)
          rw [rc_n a3, nI_leI (by omega) (by omega), rc_m a3, pk_sub (by omega), nI_clamp (n := k) (by omega), nI_clamp (n := s) (by omega), nI_clamp (n := k - 1) (by omega)]
          simp only [nI_add]
          refine ⟨fun z => by omega, fun _ => ⟨inb_nI (by omega) (by omega), c_has (by omega) (by omega) ⟨_, rfl, ?_⟩⟩⟩
          rw [bI_0]
          have nxt : ∀ v, v = lI (hor S l k s) → (W2 xs (callW2 xs (d + 3)) tX4_settle [19, 43, 60] none Q 60 [some (vR 18 (i)), some (vI (nI k)), some (vI (nI (s + 1)))] [] (mL mc 15 (3 + 11 * i + k) s v)) := by
            intro v hv
            refine ihs _ (off_L g1 _ _ (Or.inr ⟨rfl, by omega, by omega⟩)) g2 (by rw [mL_r, if_neg (by omega)]; exact g4) (fun k' hk' => ⟨by rw [mL_r, if_neg (by omega)]; exact (g3 k' hk').1, fun t ht => by rw [mL_r, if_neg (by omega)]; exact (g3 k' hk').2 t ht⟩) (fun t ht => ?_)
            rw [mL_r]
            by_cases hts : t = s
            · rw [if_pos ⟨rfl, rfl, hts⟩, hv, hts]
            · rw [if_neg (fun z => hts z.2.2)]; exact g5 t (by omega)
          obtain ⟨k', rfl⟩ : ∃ k', k = k' + 1 := ⟨k - 1, by omega⟩
          refine ⟨fun hb => ⟨inb_nI (by omega) (by omega), ?_⟩, fun hb => ⟨inb_nI (by omega) (by omega), inb_nI (by omega) (by omega), nxt _ ?_⟩⟩
          · refine c_best (u := hor S l k') a3 hw hs a2 (g3 k' (by omega)).2 (fun t ht => hor_lt hw l (by omega) ht) ⟨_, rfl, inb_nI (by omega) (by omega), nxt _ ?_⟩
            simp only [hor]
            rw [if_neg (by rw [hb]; simp)]
          · rw [Bool.not_eq_false] at hb
            simp only [hor]
            rw [if_pos hb, g4]
      refine inner 0 (Nat.zero_le _) _ (off_L g1 _ _ (Or.inl ⟨Or.inr rfl, rfl⟩)) g2 (by rw [mL_r, if_pos ⟨rfl, rfl, rfl⟩]) (fun k' hk' => ⟨by rw [mL_r, if_neg (by omega)]; exact (g3 k' hk').1, fun t ht => by rw [mL_r, if_neg (by omega)]; exact (g3 k' hk').2 t ht⟩) (fun t ht => by omega)
  have bot : ∀ s, s ≤ sN S → ∀ mc, off (tH i) m mc → mc.1 = (mI m 18 i 2 (m.1 1 0 2)).1 → mc.2 20 i 0 = lI 1 → (∀ t, t < s → mc.2 15 (3 + 11 * i + 0) t = lI (hor S l 0 t)) → (W2 xs (callW2 xs (d + 3)) tX4_settle [19, 43, 60] none Q 19 [some (vR 18 (i)), some (vI (nI s)), none] [] (mc)) := by
    refine upto (sN S) ?_ ?_
    · intro mc g1 g2 g3 g4
      refine W2_st (bX4_settle_19 mc _ _ ?_)
      rw [rc_n (i1 mc g2).2.2, nI_leI (by omega) (by omega)]
      refine ⟨fun _ => up 1 (by omega) mc none (Nat.le_refl _) g1 g2 (fun k' hk' => ?_), fun z => absurd (Nat.le_refl _) z⟩
      rw [show k' = 0 by omega]
      exact ⟨g3, g4⟩
    · intro s hs ih mc g1 g2 g3 g4
      obtain ⟨a1, a2, a3⟩ := i1 mc g2
      refine W2_st (bX4_settle_19 mc _ _ ?_)
      rw [rc_n a3, nI_leI (by omega) (by omega), rc_m a3, nI_clamp (n := s) (by omega), nI_add, c0]
      refine ⟨fun z => by omega, fun _ => ⟨inb_nI (by omega) (by omega), c_has (by omega) (by omega) ⟨_, rfl, ?_⟩⟩⟩
      rw [bI_0]
      have nxt : ∀ v, v = lI (hor S l 0 s) → (W2 xs (callW2 xs (d + 3)) tX4_settle [19, 43, 60] none Q 19 [some (vR 18 (i)), some (vI (nI (s + 1))), none] [] (mL mc 15 (3 + 11 * i + 0) s v)) := by
        intro v hv
        refine ih _ (off_L g1 _ _ (Or.inr ⟨rfl, by omega, by omega⟩)) g2 (by rw [mL_r, if_neg (by omega)]; exact g3) (fun t ht => ?_)
        rw [mL_r]
        by_cases hts : t = s
        · rw [if_pos ⟨rfl, rfl, hts⟩, hv, hts]
        · rw [if_neg (fun z => hts z.2.2)]; exact g4 t (by omega)
      refine ⟨fun hb => ⟨inb_nI (by omega) (by omega), nxt _ ?_⟩, fun hb => ⟨inb_nI (by omega) (by omega), nxt _ ?_⟩⟩
      · simp only [hor]; rw [if_neg (by rw [hb]; simp), lI_N]; rfl
      · rw [Bool.not_eq_false] at hb; simp only [hor]; rw [if_pos hb, lI_N]; rfl
  refine bot 0 (Nat.zero_le _) _ (off_L T0 _ _ (Or.inl ⟨Or.inr rfl, rfl⟩)) rfl (by rw [mL_r, if_pos ⟨rfl, rfl, rfl⟩]; exact lI_N 1) (fun t ht => by omega)
/-! the reference -/
def tO : Nat → Nat → Prop := fun t j => (t = 40 ∨ t = 59 ∨ t = 60) ∧ j = 0
/-- start() -/
theorem r_start (hR : RM m S) (hw : wf S) (l : Bool) (hQ : ∀ m', offL tO m m' → m'.2 40 0 26 = lI 1 → (∀ s, s < sN S → m'.2 59 0 s = lI (hor S l 0 s)) → Q none m') : callW2 xs (d + 2) 155 [vR 40 0] m Q := by
  have h3 := wf_n hw
  refine eX12_start m (W2_st (bX12_start_0 m ?_))
  have key : ∀ s, s ≤ 10 → ∀ mc, offL tO m mc → mc.2 40 0 26 = lI 1 → (∀ t, t < s → mc.2 59 0 t = lI (hor S l 0 t)) → (W2 xs (callW2 xs (d + 1)) tX12_start [5] none Q 5 [some (vR 40 0), some (vI (nI s))] [] (mc)) := by
    refine upto 10 ?_ ?_
    · intro mc g1 g2 g3
      exact W2_st (bX12_start_5 mc _ ⟨fun _ => hQ mc g1 g2 (fun s hs => g3 s (by omega)), fun z => absurd (by decide) z⟩)
    · intro s hs ih mc g1 g2 g3
      refine W2_st (bX12_start_5 mc _ ?_)
      rw [nI_leI (by omega) (by omega), nI_clamp (by omega), nI_add]
      refine ⟨fun z => by omega, fun _ => r_isMarked (RM_L g1.2 hR) hw (by omega) ⟨_, rfl, ?_⟩⟩
      rw [bI_0]
      have nxt : ∀ v, v = lI (hor S l 0 s) → (W2 xs (callW2 xs (d + 1)) tX12_start [5] none Q 5 [some (vR 40 0), some (vI (nI (s + 1)))] [] (mL mc 59 0 s v)) := by
        intro v hv
        refine ih _ (offL_L g1 _ _ ⟨Or.inr (Or.inl rfl), rfl⟩) (by rw [mL_r, if_neg (by omega)]; exact g2) (fun t ht => ?_)
        rw [mL_r]
        by_cases hts : t = s
        · rw [if_pos ⟨rfl, rfl, hts⟩, hv, hts]
        · rw [if_neg (fun z => hts z.2.2)]; exact g3 t (by omega)
      refine ⟨fun hb => ⟨inb_nI (by omega) (by omega), nxt _ ?_⟩, fun hb => ⟨inb_nI (by omega) (by omega), nxt _ ?_⟩⟩
      · simp only [hor]; rw [if_neg (by rw [hb]; simp), lI_N]; rfl
      · rw [Bool.not_eq_false] at hb; simp only [hor]; rw [if_pos hb, lI_N]; rfl
  exact key 0 (Nat.zero_le _) _ (offL_L (offL_rfl _ _) _ _ ⟨Or.inl rfl, rfl⟩) (by rw [mL_r, if_pos ⟨rfl, rfl, rfl⟩]; exact lI_N 1) (fun t ht => by omega)
end L75
