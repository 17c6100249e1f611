/-! CONTRACTS (11): the reference's gcd and equations (wip/whole/src/61.solveM.src) -/
theorem lI_nat (n : Nat) : lI (n : Int) = lN n := (lI_N n).symm
theorem lI_rem {x y : Nat} (hy : 0 < y) (hx : x < 2 ^ 63) (hy2 : y < 2 ^ 63) : lI x - lI x / lI y * lI y = lI ((x % y : Nat) : Int) := by
  have h1 : lI x / lI y = lI ((x / y : Nat) : Int) := by
    have hle := Nat.div_le_self x y
    have e : (x : Int).tdiv (y : Int) = ((x / y : Nat) : Int) := rfl
    generalize x / y = z at hle e ⊢
    apply Int64.toInt_inj.mp
    rw [Int64.toInt_div, lI_toInt (a := (x : Int)) (by omega) (by omega), lI_toInt (a := (y : Int)) (by omega) (by omega), e, lI_toInt (by omega) (by omega)]
    exact Int.bmod_eq_of_le (by omega) (by omega)
  rw [h1, lI_mul, lI_sub]
  congr 1
  have h2 := Nat.div_add_mod x y
  have h3 : ((x / y : Nat) : Int) * (y : Int) = ((y * (x / y) : Nat) : Int) := by rw [Nat.mul_comm]; rfl
  rw [h3]
  omega
theorem lI_0 : lI 0 = 0 := rfl
theorem lI_z {n : Nat} (h : n < 2 ^ 63) : lI n = 0 ↔ n = 0 := by
  rw [← lI_0, lI_eq (by omega) (by omega) (by omega) (by omega)]
  omega
section L61
variable {xs : Nat × (Nat → Int32)} {d : Nat} {Q : Option v2 → Mem → Prop} {m : Mem}
theorem r_gcd {a : Int} {b : Nat} (ha : a.natAbs < 2 ^ 63) (hb : b < 2 ^ 63) (hQ : Q (some (vL (lI ((Nat.gcd a.natAbs b : Nat) : Int)))) m) : callW2 xs (d + 1) 134 [vR 40 0, vL (lI a), vL (lI b)] m Q := by
  refine eX12_gcd m _ _ (W2_st (bX12_gcd_0 m _ _ ?_))
  have key : ∀ y x : Nat, x < 2 ^ 63 → y < 2 ^ 63 → Nat.gcd x y = Nat.gcd a.natAbs b → ∀ o9, (W2 xs (callW2 xs d) tX12_gcd [11] (some .long) Q 11 [some (vR 40 0), some (vL (lI a)), none, some (vL (lI b)), none, some (vL (lI x)), none, some (vL (lI y)), none, (o9), none] [] (m)) := by
    intro y
    induction y using Nat.strongRecOn with
    | _ y ih =>
      intro x hx hy hg o9
      refine W2_st (bX12_gcd_11 m _ _ _ _ _ ?_)
      rw [lg_cmp_eq, lI_N, lI_eq (by omega) (by omega) (by omega) (by omega), lI_z hy]
      refine ⟨fun h => ?_, fun h => ⟨by omega, ?_⟩⟩
      · rw [show y = 0 by omega, Nat.gcd_zero_right] at hg
        rw [hg]
        exact hQ
      · rw [lI_rem (by omega) hx hy]
        have h2 := Nat.mod_lt x (show 0 < y by omega)
        refine ih (x % y) h2 y hy (by omega) ?_ _
        rw [← hg, Nat.gcd_comm y, ← Nat.gcd_rec, Nat.gcd_comm]
  rw [lg_cmp_ge, lI_N, lI_le (by omega) (by omega) (by omega) (by omega), lI_neg]
  refine ⟨fun h => ?_, fun h => ?_⟩
  · have := key b a.natAbs ha hb rfl none
    rw [show ((a.natAbs : Nat) : Int) = a by omega] at this
    exact this
  · have := key b a.natAbs ha hb rfl none
    rw [show ((a.natAbs : Nat) : Int) = -a by omega] at this
    exact this
/-- asked: q 0 .. q (k - 1) -/
def askd (m : Mem) (k : Nat) (q : Nat → Nat) : Prop := m.1 40 0 12 = nI k ∧ k ≤ 5 ∧ (∀ i, i < k → m.1 49 0 i = nI (q i) ∧ q i < 10) ∧ ∀ i j, i < k → j < k → q i = q j → i = j
theorem r_placeOf {k s : Nat} {q : Nat → Nat} (ha : askd m k q) (hs : s < 10) (hQ : ∀ r, ((∃ i, i < k ∧ q i = s ∧ r = nI i) ∨ ((∀ i, i < k → q i ≠ s) ∧ r = -1)) → Q (some (vI r)) m) : callW2 xs (d + 1) 136 [vR 40 0, vI (nI s)] m Q := by
  obtain ⟨h1, h2, h3, h4⟩ := ha
  refine eX12_placeOf m _ (W2_st (bX12_placeOf_0 m _ ?_))
  have key : ∀ i, i ≤ k → ∀ r, ((∃ j, j < i ∧ q j = s ∧ r = nI j) ∨ ((∀ j, j < i → q j ≠ s) ∧ r = -1)) → (W2 xs (callW2 xs d) tX12_placeOf [4] (some .int) Q 4 [some (vR 40 0), some (vI (nI s)), some (vI (r)), some (vI (nI i))] [] (m)) := by
    refine upto k ?_ ?_
    · intro r hr
      refine W2_st (bX12_placeOf_4 m _ _ _ ?_)
      rw [h1, nI_leI (by omega) (by omega)]
      exact ⟨fun _ => hQ r hr, fun z => absurd (Nat.le_refl _) z⟩
    · intro i hi ih r hr
      refine W2_st (bX12_placeOf_4 m _ _ _ ?_)
      have h5 := h3 i hi
      simp (disch := omega) only [h1, nI_leI, nI_clamp, inb_iff, h5.1, nI_eq, nI_add]
      refine ⟨fun z => by omega, fun _ => ⟨by omega, fun hne => ih r ?_, fun he => ih (nI i) (Or.inl ⟨i, by omega, he, rfl⟩)⟩⟩
      rcases hr with ⟨j, q1, q2, q3⟩ | ⟨q1, q2⟩
      · exact Or.inl ⟨j, by omega, q2, q3⟩
      · refine Or.inr ⟨fun j hj => ?_, q2⟩
        rcases Nat.lt_or_ge j i with h6 | h6
        · exact q1 j h6
        · rw [show j = i by omega]; exact hne
  exact key 0 (Nat.zero_le _) _ (Or.inr ⟨fun j hj => by omega, rfl⟩)
/-- parts of ACT x that come to STATE s -/
def PU (S : Sys) (x s : Nat) : Nat → Int := fun n => sumI (fun o => if sT S x o = s then (sP S x o : Int) else 0) n
theorem PU_succ (S : Sys) (x s o : Nat) : PU S x s (o + 1) = PU S x s o + (if sT S x o = s then (sP S x o : Int) else 0) := rfl
def pU (S : Sys) (x s : Nat) : Int := PU S x s (sO S x)
theorem m1_lt (r : Int32) (h : r = -1) : r < 0 := by subst h; decide
theorem askd_off {m m' : Mem} {k : Nat} {q : Nat → Nat} (h : m'.1 = m.1) (ha : askd m k q) : askd m' k q := by unfold askd at ha ⊢; rw [h]; exact ha
theorem RM_L {m m' : Mem} {S : Sys} (h : m'.1 = m.1) (hR : RM m S) : RM m' S := by unfold RM RMa at hR ⊢; rw [h]; exact hR
theorem r_layRow {S : Sys} {k i s : Nat} {q c : Nat → Nat} (hR : RM m S) (hw : wf S) (ha : askd m k q) (hi : i < k) (hs : s < sN S) (hc : m.1 48 0 s = nI (c s)) (hcs : c s < sA S s) (hQ : ∀ m', offL (tM 50) m m' → (∀ j, j < k → m'.2 50 0 (5 * i + j) = lI ((if i = j then 12 else 0) - pU S (4 * s + c s) (q j))) → (∀ r j, r ≠ i → j < 5 → m'.2 50 0 (5 * r + j) = m.2 50 0 (5 * r + j)) → Q none m') : callW2 xs (d + 2) 138 [vR 40 0, vI (nI i), vI (nI s)] m Q := by
  have hn := wf_n hw
  have h4 := wf_a hw hs
  have hx := isA_mk hs hcs (by omega)
  have hx4 := wf_40 hw hx
  have ho4 := wf_o hw hx
  have hk5 := ha.2.1
  refine eX12_layRow m _ _ (W2_st (bX12_layRow_0 m _ _ ?_))
  simp (disch := omega) only [nI_clamp, inb_iff, hc, pk_mul, nI_add]
  refine ⟨by omega, ?_⟩
  generalize hxe : 4 * s + c s = x at hx hx4 ho4 hQ ⊢
  -- the second loop
  have outc : ∀ o, o ≤ sO S x → ∀ mc o5, offL (tM 50) m mc → (∀ j, j < k → mc.2 50 0 (5 * i + j) = lI ((if i = j then 12 else 0) - PU S x (q j) o)) → (∀ r j, r ≠ i → j < 5 → mc.2 50 0 (5 * r + j) = m.2 50 0 (5 * r + j)) → (W2 xs (callW2 xs (d + 1)) tX12_layRow [11, 33] none Q 33 [some (vR 40 0), some (vI (nI i)), some (vI (nI s)), some (vI (nI x)), some (vI (nI o)), (o5)] [] (mc)) := by
    refine upto (sO S x) ?_ ?_
    · intro mc o5 g1 g2 g3
      have hR' := RM_L g1.2 hR
      refine W2_st (bX12_layRow_33 mc _ _ _ _ _ ?_)
      simp (disch := omega) only [nI_clamp, inb_iff, rm_o hR' hx, nI_leI]
      exact ⟨by omega, fun _ => hQ mc g1 g2 g3, fun z => absurd (Nat.le_refl _) z⟩
    · intro o ho ih mc o5 g1 g2 g3
      have hR' := RM_L g1.2 hR
      have ht := wf_t10 hw hx ho
      have hp := (wf_p hw hx ho).2
      refine W2_st (bX12_layRow_33 mc _ _ _ _ _ ?_)
      simp (disch := omega) only [nI_clamp, inb_iff, rm_o hR' hx, nI_leI, pk_mul, nI_add, rm_t hR' hx ho]
      refine ⟨by omega, fun z => by omega, fun _ => ⟨by omega, r_placeOf (askd_off g1.2 ha) ht (fun r hr => ⟨_, rfl, fun hr0 => ?_, fun hr0 => ?_⟩)⟩⟩
      · have hno : ∀ j, j < k → q j ≠ sT S x o := by
          rcases hr with ⟨j, q1, q2, q3⟩ | ⟨q1, _⟩
          · rw [q3] at hr0; exact absurd hr0 (nI_pos (by omega))
          · exact q1
        refine ih mc _ g1 (fun j hj => ?_) g3
        rw [g2 j hj]
        congr 2
        rw [PU_succ]
        rw [if_neg (fun e => hno j hj (Eq.symm e)), Int.add_zero]
      · rcases hr with ⟨j0, q1, q2, q3⟩ | ⟨_, q3⟩
        · subst q3
          simp (disch := omega) only [nI_clamp, inb_iff, pk_mul, nI_add, rm_p hR' hx ho, lI_i, g2 j0 q1, lI_sub]
          refine ⟨by omega, by omega, by omega, ?_⟩
          refine ih _ _ (offL_L g1 _ _ ⟨rfl, rfl⟩) (fun j hj => ?_) (fun r j hr hj => ?_)
          · rw [mL_r]
            rw [PU_succ]
            by_cases hjj : j = j0
            · rw [if_pos ⟨rfl, rfl, by omega⟩, hjj, if_pos q2.symm]
              congr 1
              omega
            · rw [if_neg (by omega), if_neg (fun e => hjj (ha.2.2.2 j j0 hj q1 (Eq.trans (Eq.symm e) (Eq.symm q2)))), g2 j hj, Int.add_zero]
          · rw [mL_r, if_neg (by omega)]
            exact g3 r j hr hj
        · exact absurd (m1_lt r q3) hr0
  -- the first
  have first : ∀ j, j ≤ k → ∀ mc, offL (tM 50) m mc → (∀ j', j' < j → mc.2 50 0 (5 * i + j') = lI (if i = j' then 12 else 0)) → (∀ r j, r ≠ i → j < 5 → mc.2 50 0 (5 * r + j) = m.2 50 0 (5 * r + j)) → (W2 xs (callW2 xs (d + 1)) tX12_layRow [11, 33] none Q 11 [some (vR 40 0), some (vI (nI i)), some (vI (nI s)), some (vI (nI x)), some (vI (nI j)), none] [] (mc)) := by
    refine upto k ?_ ?_
    · intro mc g1 g2 g3
      have ha' := askd_off g1.2 ha
      refine W2_st (bX12_layRow_11 mc _ _ _ _ ?_)
      simp (disch := omega) only [ha'.1, nI_leI]
      refine ⟨fun _ => outc 0 (Nat.zero_le _) mc none g1 (fun j hj => ?_) g3, fun z => absurd (Nat.le_refl _) z⟩
      rw [g2 j hj]
      congr 1
      show _ = _ - (0 : Int)
      omega
    · intro j hj ih mc g1 g2 g3
      have ha' := askd_off g1.2 ha
      refine W2_st (bX12_layRow_11 mc _ _ _ _ ?_)
      simp (disch := omega) only [ha'.1, nI_leI, nI_eq, pk_mul, nI_add, nI_clamp, inb_iff]
      refine ⟨fun z => by omega, fun _ => ⟨fun hne => ⟨by omega, ?_⟩, fun he => ⟨by omega, ?_⟩⟩⟩
      · refine ih _ (offL_L g1 _ _ ⟨rfl, rfl⟩) (fun j' hj' => ?_) (fun r j2 hr hj2 => ?_)
        · rw [mL_r]
          by_cases hjj : j' = j
          · rw [if_pos ⟨rfl, rfl, by omega⟩, hjj, if_neg hne]; exact lI_N 0
          · rw [if_neg (by omega)]; exact g2 j' (by omega)
        · rw [mL_r, if_neg (by omega)]
          exact g3 r j2 hr hj2
      · refine ih _ (offL_L g1 _ _ ⟨rfl, rfl⟩) (fun j' hj' => ?_) (fun r j2 hr hj2 => ?_)
        · rw [mL_r]
          by_cases hjj : j' = j
          · rw [if_pos ⟨rfl, rfl, by omega⟩, hjj, if_pos he]; exact lI_N 12
          · rw [if_neg (by omega)]; exact g2 j' (by omega)
        · rw [mL_r, if_neg (by omega)]
          exact g3 r j2 hr hj2
  exact first 0 (Nat.zero_le _) m (offL_rfl _ _) (fun j hj => by omega) (fun _ _ _ _ => rfl)
/-- u over v is N over D, in lowest terms -/
def low (u v N D : Int) : Prop := 0 < v ∧ Nat.gcd u.natAbs v.natAbs = 1 ∧ u * D = N * v
theorem low_of (N : Int) (D : Nat) (hD : 0 < D) : ∃ u v : Int, low u v N D ∧ N = u * ((Nat.gcd N.natAbs D : Nat) : Int) ∧ (D : Int) = v * ((Nat.gcd N.natAbs D : Nat) : Int) := by
  have hg : 0 < Nat.gcd N.natAbs D := Nat.gcd_pos_of_pos_right _ hD
  obtain ⟨a, ha⟩ := Nat.gcd_dvd_left N.natAbs D
  obtain ⟨b, hb⟩ := Nat.gcd_dvd_right N.natAbs D
  have hcop : Nat.gcd a b = 1 := by
    have h1 := Nat.gcd_mul_left (Nat.gcd N.natAbs D) a b
    rw [← ha, ← hb] at h1
    have h2 : Nat.gcd N.natAbs D * 1 = Nat.gcd N.natAbs D * Nat.gcd a b := by rw [← h1, Nat.mul_one]
    exact (Nat.eq_of_mul_eq_mul_left hg h2).symm
  have hbp : 0 < b := by
    rcases Nat.eq_zero_or_pos b with h | h
    · rw [h, Nat.mul_zero] at hb; omega
    · exact h
  generalize Nat.gcd N.natAbs D = g at ha hb hg
  have hbI : (D : Int) = (b : Int) * (g : Int) := by rw [hb, Nat.mul_comm]; rfl
  rcases Int.le_total 0 N with hN | hN
  · have hNI : N = (a : Int) * (g : Int) := by
      have : (N.natAbs : Int) = ((g * a : Nat) : Int) := by rw [← ha]
      rw [Nat.mul_comm] at this
      rw [show (a : Int) * (g : Int) = ((a * g : Nat) : Int) from rfl]
      omega
    refine ⟨a, b, ⟨by omega, hcop, ?_⟩, hNI, hbI⟩
    rw [hbI, hNI]
    grind
  · have hNI : N = (-(a : Int)) * (g : Int) := by
      have : (N.natAbs : Int) = ((g * a : Nat) : Int) := by rw [← ha]
      rw [Nat.mul_comm] at this
      have e : (-(a : Int)) * (g : Int) = - ((a * g : Nat) : Int) := by rw [Int.neg_mul]; rfl
      rw [e]
      omega
    refine ⟨-(a : Int), b, ⟨by omega, by rw [Int.natAbs_neg]; exact hcop, ?_⟩, hNI, hbI⟩
    rw [hbI, hNI]
    grind
end L61
