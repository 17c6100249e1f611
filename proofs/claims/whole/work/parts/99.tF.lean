/-! CONTRACTS (57): keep(), the reference (wip/whole/src/99.tF.src) -/
section L99y
variable {xs : Nat × (Nat → Int32)} {d : Nat} {Q : Option v2 → Mem → Prop} {m : Mem} {S : Sys} {H : Shv}
theorem r_refusal (hR : RM m S) (hw : wf S) (hQ2 : ¬ lackS S = 0 → Q (some (vL (-2 : Int64))) m) (hQ3 : ∀ X Y, lackS S = 0 → isOnes S false X → isG S false (fullB (sN S)) Y → 5 < cntB (ndiff Y X) → Q (some (vL (-3 : Int64))) m) (hQ1 : ∀ m' X Y, lackS S = 0 → isOnes S false X → isG S false (fullB (sN S)) Y → cntB (ndiff Y X) ≤ 5 → fvM m m' → (∀ s, s < sN S → ∃ u v, m'.2 54 0 s = lI u ∧ m'.2 55 0 s = lI v ∧ mmv S (ndiff Y X) X false s u v ∧ u.natAbs ≤ 2 ^ 25 ∧ v.natAbs ≤ 2 ^ 25) → Q (some (vL (lN 0))) m') : callW2 xs (d + 7) 151 [vR 40 0] m Q := by
  have h3 := wf_n hw
  refine eX12_refusal m (W2_st (bX12_refusal_0 m ?_))
  have hlk := lack_le hw (sN S) (Nat.le_refl _)
  rw [show sumU _ (sN S) = lackS S from rfl] at hlk
  refine r_lacking hR hw ⟨_, rfl, ?_⟩
  rw [z_le (by omega)]
  refine ⟨fun hl => ?_, fun hl => hQ2 hl⟩
  refine r_findValues (l := false) hR hw (full_lack hw hl) (fun X Y hX hY h6 => ⟨_, rfl, fun z => absurd rfl z, fun _ => hQ3 X Y hl hX hY h6⟩) (fun m2 X Y hX hY h5 e1 e2 => ⟨_, rfl, fun _ => hQ1 m2 X Y hl hX hY h5 e1 (fun s hs => ?_), fun z => absurd z (by decide)⟩)
  obtain ⟨u, v, q1, q2, q3⟩ := e2 s hs
  rw [if_neg (by decide), Nat.zero_add] at q1 q2
  exact ⟨u, v, q1, q2, q3⟩
theorem r_weightOf {x : Nat} (hR : RM m S) (hw : wf S) (hx : isA S x) (hQ : Q (some (vI (nI (heavy (sK S x) (sC S x) (sO S x))))) m) : callW2 xs (d + 1) 178 [vR 40 0, vI (nI x)] m Q := by
  have h40 := wf_40 hw hx
  have hk := wf_k hw hx
  refine eX12_weightOf m _ (W2_st (bX12_weightOf_0 m _ ?_))
  have ib : inb (nI x) 40 := inb_nI (by omega) (by omega)
  rw [nI_clamp (n := x) (by omega), rm_k hR hx, rm_c hR hx, rm_o hR hx, z_eq (by omega), nI_eq (by omega) (by omega), nI_eq (by omega) (by omega)]
  simp only [pk_mul, nI_add]
  unfold heavy at hQ
  refine ⟨ib, ib, ib, fun h0 => ⟨ib, fun h1 => ⟨ib, fun h2 => ?_, fun h2 => ?_⟩, fun h1 => ?_⟩, fun h0 => ?_⟩
  · rw [if_neg h2, if_pos (by omega), if_pos (by omega)] at hQ; exact hQ
  · rw [if_pos h2] at hQ; exact hQ
  · rw [if_neg (by omega), if_pos (by omega), if_neg (by omega)] at hQ; exact hQ
  · rw [if_neg (by omega), if_neg (by omega)] at hQ; exact hQ
theorem r_keepRow {a k L : Nat} {p3 p4 x5 x6 : Int32} {E : Nat → Int64} (ha : a < 8) (hk : k ≤ 4) (hL : L ≤ 60) (h67 : m.1 67 0 a = nI L) (h3 : k = 3 → ∀ j, j < L → ∃ y, y < 160 ∧ nI 16 * p3 + nI 4 * p4 + nI j = nI y ∧ (m.1 46 0 y).toInt64 = E j) (h4 : k ≠ 3 → ∀ j, j < L → j / 2 < 20 ∧ (if j % 2 = 0 then m.2 54 0 (j / 2) else m.2 55 0 (j / 2)) = E j) (hQ : ∀ m', offL tRS m m' → m'.2 68 0 = m.2 68 0 → (∀ i, ¬ (60 * a ≤ i ∧ i < 60 * a + L) → m'.2 69 0 i = m.2 69 0 i) → (∀ j, j < L → m'.2 69 0 (60 * a + j) = E j) → Q (some (vI (nI 0))) m') : (W2 xs (callW2 xs (d + 7)) tX12_keep [18, 23, 30, 32, 33, 44, 49, 83, 90, 109, 110, 112, 159] (some .int) Q 110 [some (vR 40 0), some (vI (nI a)), some (vI (nI k)), some (vI (p3)), some (vI (p4)), some (vI (x5)), some (vI (x6)), none] [] (m)) := by
  have ia : inb (nI a) 8 := inb_nI (by omega) (by omega)
  have key : ∀ j, j ≤ L → ∀ mc, offL tRS m mc → mc.2 68 0 = m.2 68 0 → (∀ i, ¬ (60 * a ≤ i ∧ i < 60 * a + L) → mc.2 69 0 i = m.2 69 0 i) → (∀ i, i < j → mc.2 69 0 (60 * a + i) = E i) → (W2 xs (callW2 xs (d + 7)) tX12_keep [18, 23, 30, 32, 33, 44, 49, 83, 90, 109, 110, 112, 159] (some .int) Q 112 [some (vR 40 0), some (vI (nI a)), some (vI (nI k)), some (vI (p3)), some (vI (p4)), some (vI (x5)), some (vI (x6)), some (vI (nI j))] [] (mc)) := by
    refine upto L ?_ ?_
    · intro mc g1 g2 g3 g4
      refine W2_st (bX12_keep_112 mc _ _ _ _ _ _ _ ?_)
      rw [nI_clamp (n := a) (by omega), g1.2, h67, nI_leI (by omega) (by omega)]
      exact ⟨ia, fun _ => hQ mc g1 g2 g3 g4, fun z => absurd (Nat.le_refl _) z⟩
    · intro j hj ih mc g1 g2 g3 g4
      have lay : ∀ v, v = E j → (W2 xs (callW2 xs (d + 7)) tX12_keep [18, 23, 30, 32, 33, 44, 49, 83, 90, 109, 110, 112, 159] (some .int) Q 159 [some (vR 40 0), some (vI (nI a)), some (vI (nI k)), some (vI (p3)), some (vI (p4)), some (vI (x5)), some (vI (x6)), some (vI (nI j))] [vL (v), vI (nI (60 * a + j)), vR 69 0] (mc)) := by
        intro v hv
        refine W2_st (bX12_keep_159 mc _ _ _ _ _ _ _ _ _ ?_)
        rw [nI_add, nI_clamp (n := 60 * a + j) (by omega)]
        refine ⟨inb_nI (by omega) (by omega), ih _ (offL_L g1 _ _ ⟨by omega, by omega, rfl⟩) ?_ (fun i hi => ?_) (fun i hi => ?_)⟩
        · rw [← g2]; funext i; rw [mL_r, if_neg (by omega)]
        · rw [mL_r, if_neg (by omega)]; exact g3 i hi
        · rw [mL_r]
          by_cases e : i = j
          · rw [if_pos ⟨rfl, rfl, by omega⟩, e, hv]
          · rw [if_neg (by omega)]; exact g4 i (by omega)
      refine W2_st (bX12_keep_112 mc _ _ _ _ _ _ _ ?_)
      have e54 : mc.2 54 0 = m.2 54 0 := (g1.1 54 0 (by unfold tRS; omega)).2
      have e55 : mc.2 55 0 = m.2 55 0 := (g1.1 55 0 (by unfold tRS; omega)).2
      rw [nI_clamp (n := a) (by omega), g1.2, h67, nI_leI (by omega) (by omega), pk_rem (by omega) (by omega) (by omega), pk_div (by omega) (by omega) (by omega), pk_mul, nI_add, z_eq (n := j % 2) (by omega), nI_clamp (n := j / 2) (by omega), e54, e55, nI_eq (by omega) (by omega)]
      refine ⟨ia, fun z => by omega, fun _ => ⟨fun k3 => ⟨by decide, fun o => ⟨by decide, inb_nI ?_ (by omega), lay _ ?_⟩, fun o => ⟨by decide, inb_nI ?_ (by omega), lay _ ?_⟩⟩, fun k3 => ?_⟩⟩
      · exact (h4 k3 j hj).1
      · have h := (h4 k3 j hj).2
        rw [if_neg o] at h; exact h
      · exact (h4 k3 j hj).1
      · have h := (h4 k3 j hj).2
        rw [if_pos o] at h; exact h
      · obtain ⟨y, hy, e, ev⟩ := h3 k3 j hj
        rw [e, nI_clamp (n := y) (by omega)]
        exact ⟨inb_nI (by omega) (by omega), lay _ ev⟩
  exact W2_st (bX12_keep_110 m _ _ _ _ _ _ (key 0 (Nat.zero_le _) m (offL_rfl _ _) rfl (fun _ _ => rfl) (fun i hi => absurd hi (Nat.not_lt_zero _))))
theorem r_keep49 {a k : Nat} {p3 p4 x5 : Int32} {VAL : Nat → Int → Int → Prop} (hR : RM m S) (hw : wf S) (hS : SM m H) (ha : a < 8) (hk : k ≤ 4) (hA : k = 1 ∨ k = 3 → isAc S p3 p4 = true) (h2 : k = 2 → isSt S p3 = true) (hV : k = 2 ∨ k = 4 → ∀ s, s < sN S → ∃ u v, m.2 54 0 s = lI u ∧ m.2 55 0 s = lI v ∧ VAL s u v) (hQ : ∀ m' v, off tRS m m' → SM m' (setH H a v) → kepG S k p3.toNatClampNeg p4.toNatClampNeg v VAL → Q (some (vI (nI 0))) m') : (W2 xs (callW2 xs (d + 7)) tX12_keep [18, 23, 30, 32, 33, 44, 49, 83, 90, 109, 110, 112, 159] (some .int) Q 49 [some (vR 40 0), some (vI (nI a)), some (vI (nI k)), some (vI (p3)), some (vI (p4)), some (vI (x5)), none, none] [vI (nI 0)] (m)) := by
  have h3n := wf_n hw
  have ia : inb (nI a) 8 := inb_nI (by omega) (by omega)
  -- from the row on
  have fin : ∀ (L : Nat) (E : Nat → Int64) (Wt : Int64), L ≤ 60 → (k = 3 → ∀ j, j < L → ∃ y, y < 160 ∧ nI 16 * p3 + nI 4 * p4 + nI j = nI y ∧ (m.1 46 0 y).toInt64 = E j) → (k ≠ 3 → ∀ j, j < L → j / 2 < 20 ∧ (if j % 2 = 0 then m.2 54 0 (j / 2) else m.2 55 0 (j / 2)) = E j) → kepG S k p3.toNatClampNeg p4.toNatClampNeg (k, Wt, L, E) VAL → ∀ mB, off tRS m mB → mB.1 66 0 a = nI k → mB.1 67 0 a = nI L → (∀ b, b ≠ a → mB.1 66 0 b = m.1 66 0 b ∧ mB.1 67 0 b = m.1 67 0 b ∧ mB.2 68 0 b = m.2 68 0 b) → (k = 1 ∨ k = 2 → mB.2 68 0 a = Wt) → mB.2 69 0 = m.2 69 0 → (W2 xs (callW2 xs (d + 7)) tX12_keep [18, 23, 30, 32, 33, 44, 49, 83, 90, 109, 110, 112, 159] (some .int) Q 110 [some (vR 40 0), some (vI (nI a)), some (vI (nI k)), some (vI (p3)), some (vI (p4)), some (vI (x5)), some (vI (nI 0)), none] [] (mB)) := by
    intro L E Wt hL e3 e4 hG mB b0 b1 b2 b3 b4 b5
    refine r_keepRow (E := E) ha hk hL b2 (fun z j hj => ?_) (fun z j hj => ?_) (fun m' g1 g2 g3 g4 => ?_)
    · rw [(b0 46 0 (by unfold tRS; omega)).1]; exact e3 z j hj
    · rw [(b0 54 0 (by unfold tRS; omega)).2, (b0 55 0 (by unfold tRS; omega)).2]; exact e4 z j hj
    · refine hQ m' (k, Wt, L, E) (off_trans b0 g1.1) ?_ hG
      refine SM_set hS (fun b hb => by rw [g1.2]; exact (b3 b hb).1) (fun b hb => by rw [g1.2]; exact (b3 b hb).2.1) (fun b hb => by rw [g2]; exact (b3 b hb).2.2) (fun b j hb hj => by rw [g3 _ (by omega), b5]) ⟨by rw [g1.2]; exact b1, fun z => by rw [g2]; exact b4 z, fun _ => ⟨hL, by rw [g1.2]; exact b2, g4⟩⟩
  refine W2_st (bX12_keep_49 m _ _ _ _ _ _ ?_)
  refine ⟨fun _ => ⟨ia, ?_⟩, fun z => absurd (by decide) z⟩
  rw [nI_clamp (n := a) (by omega), nI_eq (by omega) (by omega), nI_eq (by omega) (by omega)]
  generalize hm1 : mI m 66 0 a (nI k) = m1
  have o1 : off tRS m m1 := by rw [← hm1]; exact off_I (off_rfl _ _) _ _ ⟨by omega, by omega, rfl⟩
  have s1 : m1.1 66 0 a = nI k := by rw [← hm1, mI_r, if_pos ⟨rfl, rfl, rfl⟩]
  have s2 : ∀ b, b ≠ a → m1.1 66 0 b = m.1 66 0 b := fun b hb => by rw [← hm1, mI_r, if_neg (by omega)]
  have s3 : m1.2 = m.2 := by rw [← hm1]; rfl
  have s4 : ∀ t, t ≠ 66 → m1.1 t 0 = m.1 t 0 := fun t ht => by funext i; rw [← hm1, mI_r, if_neg (by omega)]
  have R1 : RM m1 S := RM_off o1 (by unfold tRS; omega) (by unfold tRS; omega) (by unfold tRS; omega) (by unfold tRS; omega) (by unfold tRS; omega) (by unfold tRS; omega) (by unfold tRS; omega) hR
  -- at 83
  have at83 : ∀ (L : Nat) (E : Nat → Int64) (Wt : Int64), (k = 2 → m.2 54 0 p3.toNatClampNeg = Wt) → L ≤ 60 → (k = 3 → ∀ j, j < L → ∃ y, y < 160 ∧ nI 16 * p3 + nI 4 * p4 + nI j = nI y ∧ (m.1 46 0 y).toInt64 = E j) → (k ≠ 3 → ∀ j, j < L → j / 2 < 20 ∧ (if j % 2 = 0 then m.2 54 0 (j / 2) else m.2 55 0 (j / 2)) = E j) → kepG S k p3.toNatClampNeg p4.toNatClampNeg (k, Wt, L, E) VAL → (W2 xs (callW2 xs (d + 7)) tX12_keep [18, 23, 30, 32, 33, 44, 49, 83, 90, 109, 110, 112, 159] (some .int) Q 83 [some (vR 40 0), some (vI (nI a)), some (vI (nI k)), some (vI (p3)), some (vI (p4)), some (vI (x5)), some (vI (nI 0)), none] [vI (nI L), vI (nI a), vR 67 0] (m1)) := by
    intro L E Wt hW2 hL e3 e4 hG
    have fin := fin L E Wt hL e3 e4 hG
    refine W2_st (bX12_keep_83 m1 _ _ _ _ _ _ _ _ ?_)
    rw [nI_clamp (n := a) (by omega), nI_eq (by omega) (by omega), nI_eq (by omega) (by omega)]
    refine ⟨ia, ?_⟩
    generalize hm2 : mI m1 67 0 a (nI L) = m2
    have o2 : off tRS m m2 := by rw [← hm2]; exact off_I o1 _ _ ⟨by omega, by omega, rfl⟩
    have t1 : m2.1 66 0 a = nI k := by rw [← hm2, mI_r, if_neg (by omega)]; exact s1
    have t2 : m2.1 67 0 a = nI L := by rw [← hm2, mI_r, if_pos ⟨rfl, rfl, rfl⟩]
    have t4 : m2.2 = m.2 := by rw [← hm2]; exact s3
    have t3 : ∀ b, b ≠ a → m2.1 66 0 b = m.1 66 0 b ∧ m2.1 67 0 b = m.1 67 0 b := fun b hb => ⟨by rw [← hm2, mI_r, if_neg (by omega)]; exact s2 b hb, by rw [← hm2, mI_r, if_neg (by omega), s4 67 (by omega)]⟩
    have R2 : RM m2 S := RM_off o2 (by unfold tRS; omega) (by unfold tRS; omega) (by unfold tRS; omega) (by unfold tRS; omega) (by unfold tRS; omega) (by unfold tRS; omega) (by unfold tRS; omega) hR
    have at90 : k = 1 ∨ k = 2 → (W2 xs (callW2 xs (d + 7)) tX12_keep [18, 23, 30, 32, 33, 44, 49, 83, 90, 109, 110, 112, 159] (some .int) Q 90 [some (vR 40 0), some (vI (nI a)), some (vI (nI k)), some (vI (p3)), some (vI (p4)), some (vI (x5)), some (vI (nI 0)), none] [] (m2)) := by
      intro k12
      have at109 : ∀ v, v = Wt → (W2 xs (callW2 xs (d + 7)) tX12_keep [18, 23, 30, 32, 33, 44, 49, 83, 90, 109, 110, 112, 159] (some .int) Q 109 [some (vR 40 0), some (vI (nI a)), some (vI (nI k)), some (vI (p3)), some (vI (p4)), some (vI (x5)), some (vI (nI 0)), none] [vL (v), vI (nI a), vR 68 0] (m2)) := by
        intro v hv
        refine W2_st (bX12_keep_109 m2 _ _ _ _ _ _ _ _ ?_)
        rw [nI_clamp (n := a) (by omega)]
        refine ⟨ia, fin _ (off_L o2 _ _ ⟨by omega, by omega, rfl⟩) t1 t2 (fun b hb => ⟨(t3 b hb).1, (t3 b hb).2, ?_⟩) (fun _ => ?_) ?_⟩
        · rw [mL_r, if_neg (by omega), t4]
        · rw [mL_r, if_pos ⟨rfl, rfl, rfl⟩, hv]
        · funext i; rw [mL_r, if_neg (by omega), t4]
      refine W2_st (bX12_keep_90 m2 _ _ _ _ _ _ ?_)
      rw [nI_eq (by omega) (by omega)]
      refine ⟨fun h1 => ?_, fun h1 => ?_⟩
      · obtain ⟨s, hs, e⟩ := isSt_t hw (h2 (by omega))
        refine ⟨by rw [e]; exact inb_nI (by omega) (by omega), at109 _ ?_⟩
        rw [t4]
        exact hW2 (by omega)
      · obtain ⟨s, b, hs, hb, hb4, e3, e4⟩ := isAc_t hw (hA (Or.inl h1))
        have hx := isA_mk hs hb hb4
        have q := hG.2.1 h1
        have q : Wt = _ := q
        rw [e3, e4, nI_clamp (by omega), nI_clamp (by omega)] at q
        rw [e3, e4, pk_mul, nI_add]
        refine r_weightOf R2 hw hx ⟨_, rfl, ?_⟩
        rw [← e3, ← e4]
        refine at109 _ ?_
        rw [q, lI_i ?_]
        have := wf_k hw hx
        have := wf_c hw hx
        have := wf_o hw hx
        unfold heavy
        split
        · omega
        · split
          · split <;> omega
          · omega
    refine ⟨fun h1 => at90 (Or.inl h1), fun h1 => ⟨fun h2' => fin m2 o2 t1 t2 (fun b hb => ⟨(t3 b hb).1, (t3 b hb).2, by rw [t4]⟩) (fun z => by omega) (by rw [t4]), fun h2' => at90 (Or.inr h2')⟩⟩
  refine ⟨fun k3 => ⟨fun k4 => ?_, fun k4 => ?_⟩, fun k3 => ?_⟩
  · rcases (show k = 0 ∨ k = 1 ∨ k = 2 by omega) with e | e | e
    · exact at83 0 (fun _ => 0) 0 (fun z => by omega) (by omega) (fun z => absurd z k3) (fun _ j hj => absurd hj (Nat.not_lt_zero _)) ⟨rfl, fun z => by omega, fun z => by omega, fun z => by omega, fun z => by omega⟩
    · exact at83 0 (fun _ => 0) _ (fun z => by omega) (by omega) (fun z => absurd z k3) (fun _ j hj => absurd hj (Nat.not_lt_zero _)) ⟨rfl, fun z => rfl, fun z => by omega, fun z => by omega, fun z => by omega⟩
    · obtain ⟨s, hs, e3⟩ := isSt_t hw (h2 e)
      obtain ⟨u, w, q1, q2, q3⟩ := hV (Or.inl e) s hs
      have hc : p3.toNatClampNeg = s := by rw [e3, nI_clamp (by omega)]
      exact at83 0 (fun _ => 0) _ (fun z => rfl) (by omega) (fun z => absurd z k3) (fun _ j hj => absurd hj (Nat.not_lt_zero _)) ⟨rfl, fun z => by omega, fun z => ⟨u, w, by rw [hc]; exact q3, by rw [hc]; exact q1⟩, fun z => by omega, fun z => by omega⟩
  · rw [rm_n R1, pk_mul]
    refine at83 (2 * sN S) (fun j => if j % 2 = 0 then m.2 54 0 (j / 2) else m.2 55 0 (j / 2)) 0 (fun z => by omega) (by omega) (fun z => absurd z k3) (fun _ j hj => ⟨by omega, rfl⟩) ⟨rfl, fun z => by omega, fun z => by omega, fun z => by omega, fun _ => ⟨rfl, fun t ht => ?_⟩⟩
    obtain ⟨u, w, q1, q2, q3⟩ := hV (Or.inr k4) t ht
    refine ⟨u, w, q3, ?_, ?_⟩
    · show (if 2 * t % 2 = 0 then m.2 54 0 (2 * t / 2) else m.2 55 0 (2 * t / 2)) = lI u
      rw [if_pos (by omega), show 2 * t / 2 = t by omega]; exact q1
    · show (if (2 * t + 1) % 2 = 0 then m.2 54 0 ((2 * t + 1) / 2) else m.2 55 0 ((2 * t + 1) / 2)) = lI w
      rw [if_neg (by omega), show (2 * t + 1) / 2 = t by omega]; exact q2
  · obtain ⟨s, b, hs, hb, hb4, e3, e4⟩ := isAc_t hw (hA (Or.inr k3))
    have hx := isA_mk hs hb hb4
    have hx40 := wf_40 hw hx
    have ho := wf_o hw hx
    subst e3 e4
    rw [pk_mul, nI_add, nI_clamp (n := 4 * s + b) (by omega), rm_o R1 hx]
    refine ⟨inb_nI (by omega) (by omega), at83 (sO S (4 * s + b)) (fun j => lI (sP S (4 * s + b) j)) 0 (fun z => by omega) (by omega) (fun _ j hj => ⟨4 * (4 * s + b) + j, by omega, ?_, ?_⟩) (fun z => absurd k3 z) ⟨rfl, fun z => by omega, fun z => by omega, fun _ => ?_, fun z => by omega⟩⟩
    · simp only [pk_mul, nI_add]
      rw [show 16 * s + 4 * b + j = 4 * (4 * s + b) + j by omega]
    · rw [rm_p hR hx hj]
      exact lI_i (by have := wf_p hw hx hj; omega)
    · rw [nI_clamp (n := s) (by omega), nI_clamp (n := b) (by omega)]
      exact ⟨rfl, fun j _ => rfl⟩
theorem SM_fv {m' : Mem} (h : fvM m m') (hS : SM m H) : SM m' H := by
  unfold SM at hS ⊢
  rw [(h.1 66 0 (by unfold tF; omega)).1, (h.1 67 0 (by unfold tF; omega)).1, (h.1 68 0 (by unfold tF; omega)).2, (h.1 69 0 (by unfold tF; omega)).2]
  exact hS
theorem r_keep {p1 p2 p3 p4 : Int32} (hR : RM m S) (hw : wf S) (hS : SM m H) (hQ : ∀ m1 m' r v, fvM (mI m 40 0 0 (nI 0)) m1 → off tRS m1 m' → kepR S p1 p2 p3 p4 r v (VALm S) → SM m' (kepH H p1 r v) → Q (some (vI r)) m') : callW2 xs (d + 8) 179 [vR 40 0, vI p1, vI p2, vI p3, vI p4] m Q := by
  have hRo := RM_0 (v := nI 0) hR
  have hSo := SM_0 (v := nI 0) hS
  refine eX12_keep m _ _ _ _ (W2_st (bX12_keep_0 m _ _ _ _ ?_))
  generalize mI m 40 0 0 (nI 0) = mo at hRo hSo hQ ⊢
  have no : ¬ kepC S p1 p2 p3 p4 → Q (some (vI (-1 : Int32))) mo := fun h => hQ mo mo (-1) (0, 0, 0, fun _ => 0) (fvM_rfl _) (off_rfl _ _) (kepR_1 h) (by unfold kepH; rw [if_neg (by decide)]; exact hSo)
  have k32 : ¬ kepC S p1 p2 p3 p4 → (W2 xs (callW2 xs (d + 7)) tX12_keep [18, 23, 30, 32, 33, 44, 49, 83, 90, 109, 110, 112, 159] (some .int) Q 32 [some (vR 40 0), some (vI (p1)), some (vI (p2)), some (vI (p3)), some (vI (p4)), none, none, none] [] (mo)) := fun h => W2_st (bX12_keep_32 mo _ _ _ _ (W2_st (bX12_keep_33 mo _ _ _ _ _ ⟨fun z => absurd rfl z, fun _ => no h⟩)))
  have k30 : kepC S p1 p2 p3 p4 → (W2 xs (callW2 xs (d + 7)) tX12_keep [18, 23, 30, 32, 33, 44, 49, 83, 90, 109, 110, 112, 159] (some .int) Q 30 [some (vR 40 0), some (vI (p1)), some (vI (p2)), some (vI (p3)), some (vI (p4)), none, none, none] [] (mo)) := by
    intro hg
    obtain ⟨a, ha, e1⟩ := shl_t hg.1
    obtain ⟨k, hk, e2⟩ := inN_t hg.2.1 (by omega)
    subst e1 e2
    have ek : ∀ n, n ≤ 4 → (nI k = nI n ↔ k = n) := fun n hn => nI_eq (by omega) (by omega)
    have ck : (nI k).toNatClampNeg = k := nI_clamp (by omega)
    have ca : (nI a).toNatClampNeg = a := nI_clamp (by omega)
    have hA : k = 1 ∨ k = 3 → isAc S p3 p4 = true := fun z => hg.2.2.1 (by rw [ek 1 (by omega), ek 3 (by omega)]; exact z)
    have h2 : k = 2 → isSt S p3 = true := fun z => hg.2.2.2 ((ek 2 (by omega)).mpr z)
    have k44 : nI k = nI 2 ∨ nI k = nI 4 → (W2 xs (callW2 xs (d + 7)) tX12_keep [18, 23, 30, 32, 33, 44, 49, 83, 90, 109, 110, 112, 159] (some .int) Q 44 [some (vR 40 0), some (vI (nI a)), some (vI (nI k)), some (vI (p3)), some (vI (p4)), some (vI (nI 1)), none, none] [] (mo)) := by
      intro h24
      refine W2_st (bX12_keep_44 mo _ _ _ _ _ ?_)
      refine r_refusal hRo hw (fun hl => ⟨_, rfl, ?_⟩) (fun X Y hl hX hY h6 => ⟨_, rfl, ?_⟩) (fun m1 X Y hl hX hY h5 g1 g2 => ⟨_, rfl, ?_⟩)
      · rw [show (-2 : Int64).toInt32 = (-2 : Int32) by decide]
        refine W2_st (bX12_keep_49 mo _ _ _ _ _ _ ⟨fun z => absurd z (by decide), fun _ => ?_⟩)
        exact hQ mo mo (-2) (0, 0, 0, fun _ => 0) (fvM_rfl _) (off_rfl _ _) ⟨fun z => absurd hg z, fun _ => ⟨fun z => absurd h24 z, fun _ => ⟨fun _ => rfl, fun z => absurd z hl⟩⟩⟩ (by unfold kepH; rw [if_neg (by decide)]; exact hSo)
      · rw [show (-3 : Int64).toInt32 = (-3 : Int32) by decide]
        refine W2_st (bX12_keep_49 mo _ _ _ _ _ _ ⟨fun z => absurd z (by decide), fun _ => ?_⟩)
        exact hQ mo mo (-3) (0, 0, 0, fun _ => 0) (fvM_rfl _) (off_rfl _ _) ⟨fun z => absurd hg z, fun _ => ⟨fun z => absurd h24 z, fun _ => ⟨fun z => absurd hl z, fun _ => ⟨X, Y, hX, hY, fun _ => rfl, fun z => by omega⟩⟩⟩⟩ (by unfold kepH; rw [if_neg (by decide)]; exact hSo)
      · rw [show (lN 0).toInt32 = nI 0 by decide]
        refine r_keep49 (VAL := VALm S X Y) (RM_fv g1 hRo) hw (SM_fv g1 hSo) ha hk hA h2 (fun _ s hs => ?_) (fun m' v y1 y2 y3 => ?_)
        · obtain ⟨u, w, q1, q2, q3, _⟩ := g2 s hs
          exact ⟨u, w, q1, q2, q3⟩
        · exact hQ m1 m' (nI 0) v g1 y1 ⟨fun z => absurd hg z, fun _ => ⟨fun z => absurd h24 z, fun _ => ⟨fun z => absurd hl z, fun _ => ⟨X, Y, hX, hY, fun z => by omega, fun _ => ⟨rfl, by rw [ck]; exact y3⟩⟩⟩⟩⟩ (by unfold kepH; rw [if_pos rfl, ca]; exact y2)
    refine W2_st (bX12_keep_30 mo _ _ _ _ (W2_st (bX12_keep_33 mo _ _ _ _ _ ⟨fun _ => ⟨fun q2 => k44 (Or.inl q2), fun q2 => ⟨fun q4 => ?_, fun q4 => k44 (Or.inr q4)⟩⟩, fun z => absurd z (by decide)⟩)))
    have h24 : ¬ (nI k = nI 2 ∨ nI k = nI 4) := fun z => z.elim q2 q4
    refine r_keep49 (VAL := fun _ _ _ => False) hRo hw hSo ha hk hA h2 (fun z => absurd (by rw [ek 2 (by omega), ek 4 (by omega)]; exact z) h24) (fun m' v y1 y2 y3 => ?_)
    exact hQ mo m' (nI 0) v (fvM_rfl _) y1 ⟨fun z => absurd hg z, fun _ => ⟨fun _ => ⟨rfl, by rw [ck]; exact y3⟩, fun z => absurd z h24⟩⟩ (by unfold kepH; rw [if_pos rfl, ca]; exact y2)
  have k23 : shl p1 = true → inN 4 p2 → (p2 = nI 1 ∨ p2 = nI 3 → isAc S p3 p4 = true) → (W2 xs (callW2 xs (d + 7)) tX12_keep [18, 23, 30, 32, 33, 44, 49, 83, 90, 109, 110, 112, 159] (some .int) Q 23 [some (vR 40 0), some (vI (p1)), some (vI (p2)), some (vI (p3)), some (vI (p4)), none, none, none] [] (mo)) := by
    intro h1 h2 h3
    refine W2_st (bX12_keep_23 mo _ _ _ _ ⟨fun q => k30 ⟨h1, h2, h3, fun z => absurd z q⟩, fun q => ?_⟩)
    refine r_isState hRo hw p3 ⟨_, rfl, ?_⟩
    rw [bI_0]
    refine ⟨fun hst => k32 (fun z => by rw [z.2.2.2 q] at hst; cases hst), fun hst => k30 ⟨h1, h2, h3, fun _ => ?_⟩⟩
    rw [Bool.not_eq_false] at hst; exact hst
  have k18 : shl p1 = true → inN 4 p2 → (p2 = nI 1 ∨ p2 = nI 3) → (W2 xs (callW2 xs (d + 7)) tX12_keep [18, 23, 30, 32, 33, 44, 49, 83, 90, 109, 110, 112, 159] (some .int) Q 18 [some (vR 40 0), some (vI (p1)), some (vI (p2)), some (vI (p3)), some (vI (p4)), none, none, none] [] (mo)) := by
    intro h1 h2 h3
    refine W2_st (bX12_keep_18 mo _ _ _ _ ?_)
    refine r_isAct hRo hw p3 p4 ⟨_, rfl, ?_⟩
    rw [bI_0]
    refine ⟨fun hac => k32 (fun z => by rw [z.2.2.1 h3] at hac; cases hac), fun hac => k23 h1 h2 (fun _ => ?_)⟩
    rw [Bool.not_eq_false] at hac; exact hac
  refine r_isShelf p1 ⟨_, rfl, ?_⟩
  rw [bI_0]
  refine ⟨fun h => k32 (fun z => by rw [z.1] at h; cases h), fun h1 => ?_⟩
  rw [Bool.not_eq_false] at h1
  refine r_isIn p2 0 4 (by omega) (by omega) ⟨_, rfl, ?_⟩
  rw [bI_0, decide_eq_false_iff_not]
  refine ⟨fun h => k32 (fun z => h z.2.1), fun h => ?_⟩
  rw [Decidable.not_not] at h
  exact ⟨fun q1 => k18 h1 h (Or.inl q1), fun q1 => ⟨fun q3 => k23 h1 h (fun z => z.elim (fun z => absurd z q1) (fun z => absurd z q3)), fun q3 => k18 h1 h (Or.inr q3)⟩⟩
end L99y
