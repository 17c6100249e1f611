/-! THE GUIDE (5): the reference's sum of an ACT (wip/whole/src/99.uE.src) -/
section L99E
variable {xs : Nat × (Nat → Int32)} {d : Nat} {Q : Option v2 → Mem → Prop} {m : Mem} {S : Sys}
theorem fs_step {a b M D u v W p : Nat} (hD : 0 < D) (hb : 0 < b) (hab : Nat.gcd a b = 1) (h : a * (12 * D) = M * b) (hv : 0 < v) (hu : u * D = W * v) (hle : M + p * W ≤ 12 * D) : ∃ g up lo bo b1 l1 h a' b', Nat.gcd (p * u) (12 * v) = g ∧ 0 < g ∧ p * u = up * g ∧ 12 * v = lo * g ∧ 0 < lo ∧ Nat.gcd b lo = bo ∧ 0 < bo ∧ b = b1 * bo ∧ lo = l1 * bo ∧ a * l1 + up * b1 ≤ 12 * D ∧ b1 * lo ≤ 12 * D ∧ Nat.gcd (a * l1 + up * b1) (b1 * lo) = h ∧ 0 < h ∧ a * l1 + up * b1 = a' * h ∧ b1 * lo = b' * h ∧ 0 < b' ∧ Nat.gcd a' b' = 1 ∧ a' * (12 * D) = (M + p * W) * b' := by
  have cop : ∀ {x y g : Nat}, 0 < g → Nat.gcd (x * g) (y * g) = g → Nat.gcd x y = 1 := fun {x y g} hg e => by
    rw [Nat.gcd_mul_right] at e
    exact Nat.eq_of_mul_eq_mul_right hg (by rw [e, Nat.one_mul])
  obtain ⟨g, hg⟩ : ∃ g, Nat.gcd (p * u) (12 * v) = g := ⟨_, rfl⟩
  have gp : 0 < g := by rw [← hg]; exact Nat.gcd_pos_of_pos_right _ (by omega)
  obtain ⟨up, hup⟩ : g ∣ p * u := by rw [← hg]; exact Nat.gcd_dvd_left _ _
  obtain ⟨lo, hlo⟩ : g ∣ 12 * v := by rw [← hg]; exact Nat.gcd_dvd_right _ _
  have hup' : p * u = up * g := by rw [hup, Nat.mul_comm]
  have hlo' : 12 * v = lo * g := by rw [hlo, Nat.mul_comm]
  have lp : 0 < lo := by
    rcases Nat.eq_zero_or_pos lo with z | z
    · rw [z, Nat.zero_mul] at hlo'; omega
    · exact z
  have c1 : Nat.gcd up lo = 1 := cop gp (by rw [← hup', ← hlo']; exact hg)
  have e1 : up * (12 * D) = p * W * lo := by
    refine Nat.eq_of_mul_eq_mul_right gp ?_
    calc up * (12 * D) * g = (up * g) * (12 * D) := by ac_rfl
      _ = p * u * (12 * D) := by rw [← hup']
      _ = p * 12 * (u * D) := by ac_rfl
      _ = p * 12 * (W * v) := by rw [hu]
      _ = p * W * (12 * v) := by ac_rfl
      _ = p * W * (lo * g) := by rw [hlo']
      _ = p * W * lo * g := by ac_rfl
  have d1 : lo ∣ 12 * D := Nat.Coprime.dvd_of_dvd_mul_left (Nat.Coprime.symm c1) ⟨p * W, by rw [e1, Nat.mul_comm]⟩
  have d2 : b ∣ 12 * D := Nat.Coprime.dvd_of_dvd_mul_left (Nat.Coprime.symm hab) ⟨M, by rw [h, Nat.mul_comm]⟩
  obtain ⟨bo, hbo⟩ : ∃ bo, Nat.gcd b lo = bo := ⟨_, rfl⟩
  have bp : 0 < bo := by rw [← hbo]; exact Nat.gcd_pos_of_pos_right _ lp
  obtain ⟨b1, hb1⟩ : bo ∣ b := by rw [← hbo]; exact Nat.gcd_dvd_left _ _
  obtain ⟨l1, hl1⟩ : bo ∣ lo := by rw [← hbo]; exact Nat.gcd_dvd_right _ _
  rw [Nat.mul_comm] at hb1 hl1
  have b1p : 0 < b1 := by
    rcases Nat.eq_zero_or_pos b1 with z | z
    · rw [z, Nat.zero_mul] at hb1; omega
    · exact z
  have slp : 0 < b1 * lo := Nat.mul_pos b1p lp
  have hlcm : b1 * lo = Nat.lcm b lo := by
    refine Nat.eq_of_mul_eq_mul_right bp ?_
    have := Nat.gcd_mul_lcm b lo
    rw [hbo] at this
    calc b1 * lo * bo = (b1 * bo) * lo := by ac_rfl
      _ = b * lo := by rw [← hb1]
      _ = bo * Nat.lcm b lo := this.symm
      _ = Nat.lcm b lo * bo := Nat.mul_comm _ _
  have d3 : b1 * lo ∣ 12 * D := by rw [hlcm]; exact Nat.lcm_dvd d2 d1
  have e2 : (a * l1 + up * b1) * (12 * D) = (M + p * W) * (b1 * lo) := by
    have f1 : a * l1 * (12 * D) = M * (b1 * lo) := by
      calc a * l1 * (12 * D) = (a * (12 * D)) * l1 := by ac_rfl
        _ = M * b * l1 := by rw [h]
        _ = M * (b1 * bo) * l1 := by rw [← hb1]
        _ = M * (b1 * (l1 * bo)) := by ac_rfl
        _ = M * (b1 * lo) := by rw [← hl1]
    have f2 : up * b1 * (12 * D) = p * W * (b1 * lo) := by
      calc up * b1 * (12 * D) = (up * (12 * D)) * b1 := by ac_rfl
        _ = p * W * lo * b1 := by rw [e1]
        _ = p * W * (b1 * lo) := by ac_rfl
    rw [Nat.add_mul, Nat.add_mul, f1, f2]
  have l3 : b1 * lo ≤ 12 * D := Nat.le_of_dvd (by omega) d3
  have l4 : a * l1 + up * b1 ≤ b1 * lo := by
    refine Nat.le_of_mul_le_mul_right (c := 12 * D) ?_ (by omega)
    rw [e2, Nat.mul_comm (b1 * lo)]
    exact Nat.mul_le_mul_right _ hle
  obtain ⟨k, hk⟩ : ∃ k, Nat.gcd (a * l1 + up * b1) (b1 * lo) = k := ⟨_, rfl⟩
  have kp : 0 < k := by rw [← hk]; exact Nat.gcd_pos_of_pos_right _ slp
  obtain ⟨a', ha'⟩ : k ∣ a * l1 + up * b1 := by rw [← hk]; exact Nat.gcd_dvd_left _ _
  obtain ⟨b', hb'⟩ : k ∣ b1 * lo := by rw [← hk]; exact Nat.gcd_dvd_right _ _
  rw [Nat.mul_comm k] at ha' hb'
  have b'p : 0 < b' := by
    rcases Nat.eq_zero_or_pos b' with z | z
    · rw [z, Nat.zero_mul] at hb'; omega
    · exact z
  refine ⟨g, up, lo, bo, b1, l1, k, a', b', hg, gp, hup', hlo', lp, hbo, bp, hb1, hl1, Nat.le_trans l4 l3, l3, hk, kp, ha', hb', b'p, cop kp (by rw [← ha', ← hb']; exact hk), ?_⟩
  refine Nat.eq_of_mul_eq_mul_right kp ?_
  calc a' * (12 * D) * k = (a' * k) * (12 * D) := by ac_rfl
    _ = (M + p * W) * (b1 * lo) := by rw [← ha', e2]
    _ = (M + p * W) * (b' * k) := by rw [hb']
    _ = (M + p * W) * b' * k := by ac_rfl
theorem lI_dN {q b : Nat} (hb : 0 < b) (h : q * b < 2 ^ 63) : lI ((q * b : Nat) : Int) / lI (b : Int) = lI (q : Int) := by
  rcases Nat.eq_zero_or_pos q with z | z
  · subst z
    rw [Nat.zero_mul]
    have := lI_div (q := 0) (b := (1 : Int)) (by omega) (by omega) (by omega) (by omega) (by omega)
    apply Int64.toInt_inj.mp
    show (lI 0 / lI (b : Int)).toInt = _
    rw [lI_0, Int64.zero_div]; rfl
  · have hb2 : b ≤ q * b := Nat.le_mul_of_pos_left _ z
    have := lI_div (q := (q : Int)) (b := (b : Int)) (by omega) (by rw [← Int.natCast_mul]; omega) (by rw [← Int.natCast_mul]; omega) (by omega) (by omega)
    rw [← Int.natCast_mul] at this
    exact this
/-- the reference's values, as natural numbers -/
def valN (m : Mem) (S : Sys) (W : Nat → Nat) (D : Nat) : Prop := 0 < D ∧ D ≤ 2 ^ 25 ∧ ∀ t, t < sN S → W t ≤ D ∧ ∃ u v : Nat, m.2 54 0 t = lI (u : Int) ∧ m.2 55 0 t = lI (v : Int) ∧ 0 < v ∧ Nat.gcd u v = 1 ∧ u * D = W t * v ∧ u ≤ 2 ^ 25 ∧ v ≤ 2 ^ 25
def meanN (S : Sys) (W : Nat → Nat) (x o : Nat) : Nat := sumU (fun i => sP S x i * W (sT S x i)) o
theorem meanN_le {W : Nat → Nat} {D x : Nat} (hw : wf S) (hx : isA S x) (hW : ∀ t, t < sN S → W t ≤ D) : ∀ o, o ≤ sO S x → meanN S W x o ≤ sumU (sP S x) o * D := by
  intro o
  induction o with
  | zero => intro _; show (0 : Nat) ≤ _; omega
  | succ o ih =>
    intro ho
    show meanN S W x o + sP S x o * W (sT S x o) ≤ (sumU (sP S x) o + sP S x o) * D
    rw [Nat.add_mul]
    exact Nat.add_le_add (ih (by omega)) (Nat.mul_le_mul_left _ (hW _ (wf_t hw hx (by omega))))
theorem sumU_le2 {f : Nat → Nat} : ∀ {n k : Nat}, k ≤ n → sumU f k ≤ sumU f n := by
  intro n
  induction n with
  | zero => intro k hk; rw [show k = 0 by omega]; exact Nat.le_refl _
  | succ n ih =>
    intro k hk
    by_cases e : k = n + 1
    · rw [e]; exact Nat.le_refl _
    · exact Nat.le_trans (ih (show k ≤ n by omega)) (Nat.le_add_right _ _)
theorem meanN_12 {W : Nat → Nat} {D x o : Nat} (hw : wf S) (hx : isA S x) (hW : ∀ t, t < sN S → W t ≤ D) (ho : o ≤ sO S x) : meanN S W x o ≤ 12 * D := by
  have h1 := meanN_le hw hx hW o ho
  have h2 : sumU (sP S x) o ≤ sumU (sP S x) (sO S x) := sumU_le2 ho
  have h3 : sumU (sP S x) (sO S x) ≤ 12 := wf_ps hw hx
  exact Nat.le_trans h1 (Nat.mul_le_mul_right _ (by omega))
theorem r_findSum {x D : Nat} {W : Nat → Nat} (hR : RM m S) (hw : wf S) (hx : isA S x) (hV : valN m S W D) (hQ : ∀ m' u v, offL (tM 40) m m' → m'.2 40 0 21 = lI ((u : Nat) : Int) → m'.2 40 0 22 = lI ((v : Nat) : Int) → 0 < v → Nat.gcd u v = 1 → u * (12 * D) = meanN S W x (sO S x) * v → u ≤ 2 ^ 30 → v ≤ 2 ^ 30 → Q none m') : callW2 xs (d + 2) 147 [vR 40 0, vI (nI x)] m Q := by
  have h3 := wf_n hw
  have h40 := wf_40 hw hx
  have ho4 := wf_o hw hx
  obtain ⟨hD, hD2, hW⟩ := hV
  have rm : ∀ mc, offL (tM 40) m mc → RM mc S := fun mc h => RM_L h.2 hR
  refine eX12_findSum m _ (W2_st (bX12_findSum_0 m _ ?_))
  have key : ∀ o, o ≤ sO S x → ∀ a b mc o3 o4 o6 o8 o10 o12, offL (tM 40) m mc → mc.2 40 0 21 = lI ((a : Nat) : Int) → mc.2 40 0 22 = lI ((b : Nat) : Int) → 0 < b → Nat.gcd a b = 1 → a * (12 * D) = meanN S W x o * b → a ≤ 12 * D → b ≤ 12 * D → (W2 xs (callW2 xs (d + 1)) tX12_findSum [8, 50, 64, 79, 87, 94, 100] none Q 8 [some (vR 40 0), some (vI (nI x)), some (vI (nI o)), (o3), (o4), none, (o6), none, (o8), none, (o10), none, (o12), none] [] (mc)) := by
    refine upto (sO S x) ?_ ?_
    · intro a b mc o3 o4 o6 o8 o10 o12 g1 g2 g3 g4 g5 g6 g7 g8
      refine W2_st (bX12_findSum_8 mc _ _ _ _ _ _ _ _ ?_)
      rw [nI_clamp (n := x) (by omega), rm_o (rm mc g1) hx, nI_leI (by omega) (by omega)]
      exact ⟨inb_nI (by omega) (by omega), fun _ => hQ mc a b g1 g2 g3 g4 g5 g6 (by omega) (by omega), fun z => absurd (Nat.le_refl _) z⟩
    · intro o ho ih a b mc o3 o4 o6 o8 o10 o12 g1 g2 g3 g4 g5 g6 g7 g8
      have ht := wf_t hw hx ho
      obtain ⟨hWt, u, v, v1, v2, v3, v4, v5, v6, v7⟩ := hW _ ht
      have hp := wf_p hw hx ho
      have e54 : mc.2 54 0 (sT S x o) = lI (u : Int) := by rw [(g1.1 54 0 (by unfold tM; omega)).2]; exact v1
      have e55 : mc.2 55 0 (sT S x o) = lI (v : Int) := by rw [(g1.1 55 0 (by unfold tM; omega)).2]; exact v2
      have hle : meanN S W x o + sP S x o * W (sT S x o) ≤ 12 * D := meanN_12 hw hx (fun t ht => (hW t ht).1) (show o + 1 ≤ sO S x by omega)
      obtain ⟨g, up, lo, bo, b1, l1, k, a', b', f1, f2, f3, f4, f5, f6, f7, f8, f9, f10, f11, f12, f13, f14, f15, f16, f17, f18⟩ := fs_step (p := sP S x o) hD g4 g5 g6 v3 v5 hle
      have pu : sP S x o * u ≤ 12 * 2 ^ 25 := Nat.mul_le_mul hp.2 v6
      refine W2_st (bX12_findSum_8 mc _ _ _ _ _ _ _ _ ?_)
      rw [nI_clamp (n := x) (by omega), rm_o (rm mc g1) hx, nI_leI (by omega) (by omega), pk_mul, nI_add, nI_clamp (n := 4 * x + o) (by omega), rm_t (rm mc g1) hx ho, rm_p (rm mc g1) hx ho, nI_clamp (n := sT S x o) (by omega), e54, e55, lI_i (by omega), lI_N, lI_mul, lI_mul, show ((sP S x o : Nat) : Int) * (u : Int) = ((sP S x o * u : Nat) : Int) from (Int.natCast_mul _ _).symm, show ((12 : Nat) : Int) * (v : Int) = ((12 * v : Nat) : Int) from (Int.natCast_mul _ _).symm]
      refine ⟨inb_nI (by omega) (by omega), fun z => by omega, fun _ => ⟨inb_nI (by omega) (by omega), inb_nI (by omega) (by omega), inb_nI (by omega) (by omega), inb_nI (by omega) (by omega), r_gcd (by omega) (by omega) ⟨_, rfl, ?_⟩⟩⟩
      rw [show ((sP S x o * u : Nat) : Int).natAbs = sP S x o * u from Int.natAbs_natCast _, f1]
      have ne : ∀ {n : Nat}, 0 < n → n < 2 ^ 40 → ¬ lI (n : Int) = 0 := fun hn hn2 z => by rw [lI_z (by omega)] at z; omega
      have gle : g ≤ 12 * v := by rw [f4]; exact Nat.le_mul_of_pos_left _ f5
      have lole : lo ≤ 12 * v := by rw [f4]; exact Nat.le_mul_of_pos_right _ f2
      have uple : up ≤ sP S x o * u := by rw [f3]; exact Nat.le_mul_of_pos_right _ f2
      have bole : bo ≤ b := by
        rw [f8]
        refine Nat.le_mul_of_pos_left _ ?_
        rcases Nat.eq_zero_or_pos b1 with z | z
        · rw [z, Nat.zero_mul] at f8; omega
        · exact z
      have kle : k ≤ b1 * lo := by rw [f15]; exact Nat.le_mul_of_pos_left _ f16
      -- 50
      refine W2_st (bX12_findSum_50 mc _ _ _ _ _ _ _ _ ⟨ne f2 (by omega), ne f2 (by omega), ?_⟩)
      rw [f3, f4, lI_dN (q := up) f2 (by rw [← f3]; omega), lI_dN (q := lo) f2 (by rw [← f4]; omega), g3]
      refine r_gcd (by omega) (by omega) ⟨_, rfl, ?_⟩
      rw [show ((b : Nat) : Int).natAbs = b from Int.natAbs_natCast _, f6]
      -- 64
      have d1 : lI (lo : Int) / lI (bo : Int) = lI (l1 : Int) := by
        have := lI_dN (q := l1) f7 (by rw [← f9]; omega)
        rw [← f9] at this; exact this
      have d2 : lI (b : Int) / lI (bo : Int) = lI (b1 : Int) := by
        have := lI_dN (q := b1) f7 (by rw [← f8]; omega)
        rw [← f8] at this; exact this
      refine W2_st (bX12_findSum_64 mc _ _ _ _ _ _ _ _ ⟨ne f7 (by omega), ne f7 (by omega), ?_⟩)
      rw [g2, g3, d1, d2, lI_mul, lI_mul, lI_add, show (a : Int) * (l1 : Int) + (up : Int) * (b1 : Int) = ((a * l1 + up * b1 : Nat) : Int) by rw [Int.natCast_add, Int.natCast_mul, Int.natCast_mul]]
      generalize hm1 : mL mc 40 0 21 (lI ((a * l1 + up * b1 : Nat) : Int)) = m1
      have r1 : m1.2 40 0 21 = lI ((a * l1 + up * b1 : Nat) : Int) := by rw [← hm1, mL_r, if_pos ⟨rfl, rfl, rfl⟩]
      have r2 : m1.2 40 0 22 = lI (b : Int) := by rw [← hm1, mL_r, if_neg (by omega)]; exact g3
      have r3 : offL (tM 40) m m1 := by rw [← hm1]; exact offL_L g1 _ _ ⟨rfl, rfl⟩
      -- 79
      refine W2_st (bX12_findSum_79 m1 _ _ _ _ _ _ _ _ ⟨ne f7 (by omega), ?_⟩)
      rw [r2, d2, lI_mul, ← Int.natCast_mul]
      generalize hm2 : mL m1 40 0 22 (lI ((b1 * lo : Nat) : Int)) = m2
      have s1 : m2.2 40 0 21 = lI ((a * l1 + up * b1 : Nat) : Int) := by rw [← hm2, mL_r, if_neg (by omega)]; exact r1
      have s2 : m2.2 40 0 22 = lI ((b1 * lo : Nat) : Int) := by rw [← hm2, mL_r, if_pos ⟨rfl, rfl, rfl⟩]
      have s3 : offL (tM 40) m m2 := by rw [← hm2]; exact offL_L r3 _ _ ⟨rfl, rfl⟩
      -- 87
      refine W2_st (bX12_findSum_87 m2 _ _ _ _ _ _ _ _ ?_)
      rw [s1, s2]
      refine r_gcd (by omega) (by omega) ⟨_, rfl, ?_⟩
      rw [show ((a * l1 + up * b1 : Nat) : Int).natAbs = a * l1 + up * b1 from Int.natAbs_natCast _, f12]
      -- 94
      refine W2_st (bX12_findSum_94 m2 _ _ _ _ _ _ _ _ ⟨ne f13 (by omega), ?_⟩)
      rw [s1, f14, lI_dN f13 (by rw [← f14]; omega)]
      generalize hm3 : mL m2 40 0 21 (lI (a' : Int)) = m3
      have t1 : m3.2 40 0 21 = lI (a' : Int) := by rw [← hm3, mL_r, if_pos ⟨rfl, rfl, rfl⟩]
      have t2 : m3.2 40 0 22 = lI ((b1 * lo : Nat) : Int) := by rw [← hm3, mL_r, if_neg (by omega)]; exact s2
      have t3 : offL (tM 40) m m3 := by rw [← hm3]; exact offL_L s3 _ _ ⟨rfl, rfl⟩
      -- 100
      refine W2_st (bX12_findSum_100 m3 _ _ _ _ _ _ _ _ ⟨ne f13 (by omega), ?_⟩)
      rw [t2, f15, lI_dN f13 (by rw [← f15]; omega), nI_add]
      have a'le : a' ≤ a * l1 + up * b1 := by rw [f14]; exact Nat.le_mul_of_pos_right _ f13
      have b'le : b' ≤ b1 * lo := by rw [f15]; exact Nat.le_mul_of_pos_right _ f13
      refine ih a' b' _ _ _ _ _ _ _ (offL_L t3 _ _ ⟨rfl, rfl⟩) ?_ ?_ f16 f17 f18 (by omega) (by omega)
      · rw [mL_r, if_neg (by omega)]; exact t1
      · rw [mL_r, if_pos ⟨rfl, rfl, rfl⟩]
  refine key 0 (Nat.zero_le _) 0 1 (mL (mL m 40 0 21 (lN 0)) 40 0 22 (lN 1)) _ _ _ _ _ _ (offL_L (offL_L (offL_rfl _ _) _ _ ⟨rfl, rfl⟩) _ _ ⟨rfl, rfl⟩) ?_ ?_ (by omega) (by decide) ?_ (by omega) (by omega)
  · rw [mL_r, if_neg (by omega), mL_r, if_pos ⟨rfl, rfl, rfl⟩, lI_N]
  · rw [mL_r, if_pos ⟨rfl, rfl, rfl⟩, lI_N]
  · rw [Nat.zero_mul]; show 0 = 0 * 1; rfl
end L99E
