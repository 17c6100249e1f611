/-! CONTRACTS (56): keep(), the class (wip/whole/src/99.tE.src) -/
section L99x
variable {xs : Nat × (Nat → Int32)} {d : Nat} {Q : Option v2 → Mem → Prop} {m : Mem} {S : Sys} {H : Shv}
def kepC (S : Sys) (p1 p2 p3 p4 : Int32) : Prop := shl p1 = true ∧ inN 4 p2 ∧ (p2 = nI 1 ∨ p2 = nI 3 → isAc S p3 p4 = true) ∧ (p2 = nI 2 → isSt S p3 = true)
/-- what is laid on the shelf -/
def kepG (S : Sys) (k s a : Nat) (v : Shl) (VAL : Nat → Int → Int → Prop) : Prop := v.1 = k ∧ (k = 1 → v.2.1 = lI (heavy (sK S (4 * s + a)) (sC S (4 * s + a)) (sO S (4 * s + a)))) ∧ (k = 2 → ∃ u w, VAL s u w ∧ v.2.1 = lI u) ∧ (k = 3 → v.2.2.1 = sO S (4 * s + a) ∧ ∀ j, j < sO S (4 * s + a) → v.2.2.2 j = lI (sP S (4 * s + a) j)) ∧ (k = 4 → v.2.2.1 = 2 * sN S ∧ ∀ t, t < sN S → ∃ u w, VAL t u w ∧ v.2.2.2 (2 * t) = lI u ∧ v.2.2.2 (2 * t + 1) = lI w)
def kepR (S : Sys) (p1 p2 p3 p4 r : Int32) (v : Shl) (VAL : Nat → Nat → Nat → Int → Int → Prop) : Prop := (¬ kepC S p1 p2 p3 p4 → r = -1) ∧ (kepC S p1 p2 p3 p4 → (¬ (p2 = nI 2 ∨ p2 = nI 4) → r = nI 0 ∧ kepG S p2.toNatClampNeg p3.toNatClampNeg p4.toNatClampNeg v (fun _ _ _ => False)) ∧ (p2 = nI 2 ∨ p2 = nI 4 → (¬ lackS S = 0 → r = -2) ∧ (lackS S = 0 → ∃ X Y, isOnes S false X ∧ isG S false (fullB (sN S)) Y ∧ (5 < cntB (ndiff Y X) → r = -3) ∧ (cntB (ndiff Y X) ≤ 5 → r = nI 0 ∧ kepG S p2.toNatClampNeg p3.toNatClampNeg p4.toNatClampNeg v (VAL X Y)))))
def kepH (H : Shv) (p1 r : Int32) (v : Shl) : Shv := if r = nI 0 then setH H p1.toNatClampNeg v else H
def VALc (S : Sys) (X Y s : Nat) (u w : Int) : Prop := ∃ f V D, saddle S false (ndiff Y X) X f V D ∧ low u w (V s) D
def VALm (S : Sys) (X Y s : Nat) (u w : Int) : Prop := mmv S (ndiff Y X) X false s u w
/-- two shelves that answer alike -/
def shEq (v v' : Shl) : Prop := v.1 = v'.1 ∧ (v.1 = 1 ∨ v.1 = 2 → v.2.1 = v'.2.1) ∧ (3 ≤ v.1 → v.2.2.1 = v'.2.2.1 ∧ ∀ j, j < v.2.2.1 → v.2.2.2 j = v'.2.2.2 j)
theorem VAL_uniq {X Y s : Nat} {u w u' w' : Int} (hw : wf S) (hl : lackS S = 0) (hX : isOnes S false X) (hY : isG S false (fullB (sN S)) Y) (hs : s < sN S) (h : VALc S X Y s u w) (h' : VALm S X Y s u' w') : u = u' ∧ w = w' := by
  obtain ⟨f, V, D, c1, c2⟩ := h
  have d1 : mmv S (ndiff Y X) X false s u' w' := h'
  obtain ⟨hBn, hd, hBf⟩ := open_facts hX hY
  have h5 := sad_mm hw (full_lack hw hl) hX.1.1 hd c1 hs d1
  exact low_uniq c1.1 c2 (show low u' w' (V s) D from ⟨d1.1, d1.2.1, h5⟩)
theorem kepG_uniq {k s a : Nat} {v v' : Shl} {A B : Nat → Int → Int → Prop} (hAB : ∀ t u w u' w', t < sN S → A t u w → B t u' w' → u = u' ∧ w = w') (h2 : k = 2 → s < sN S) (hk : k ≤ 4) (h : kepG S k s a v A) (h' : kepG S k s a v' B) : shEq v v' := by
  obtain ⟨a0, a1, a2, a3, a4⟩ := h
  obtain ⟨b0, b1, b2, b3, b4⟩ := h'
  refine ⟨by rw [a0, b0], fun z => ?_, fun z => ?_⟩
  · rw [a0] at z
    rcases z with z | z
    · rw [a1 z, b1 z]
    · obtain ⟨u, w, q1, q2⟩ := a2 z
      obtain ⟨u', w', q3, q4⟩ := b2 z
      rw [q2, q4, (hAB s u w u' w' (h2 z) q1 q3).1]
  · rw [a0] at z
    by_cases z3 : k = 3
    · exact ⟨by rw [(a3 z3).1, (b3 z3).1], fun j hj => by rw [(a3 z3).1] at hj; rw [(a3 z3).2 j hj, (b3 z3).2 j hj]⟩
    · have z4 : k = 4 := by omega
      refine ⟨by rw [(a4 z4).1, (b4 z4).1], fun j hj => ?_⟩
      rw [(a4 z4).1] at hj
      obtain ⟨u, w, q1, q2, q3⟩ := (a4 z4).2 (j / 2) (by omega)
      obtain ⟨u', w', r1, r2, r3⟩ := (b4 z4).2 (j / 2) (by omega)
      obtain ⟨e1, e2⟩ := hAB (j / 2) u w u' w' (by omega) q1 r1
      rcases Nat.mod_two_eq_zero_or_one j with e | e
      · rw [show j = 2 * (j / 2) by omega, q2, r2, e1]
      · rw [show j = 2 * (j / 2) + 1 by omega, q3, r3, e2]
theorem kep_uniq {p1 p2 p3 p4 r r' : Int32} {v v' : Shl} (hw : wf S) (h : kepR S p1 p2 p3 p4 r v (VALc S)) (h' : kepR S p1 p2 p3 p4 r' v' (VALm S)) : r = r' ∧ (r = nI 0 → shEq v v') := by
  by_cases hg : kepC S p1 p2 p3 p4
  · have h := h.2 hg
    have h' := h'.2 hg
    have h3 := wf_n hw
    obtain ⟨k, hk, e⟩ := inN_t hg.2.1 (by omega)
    have hk4 : p2.toNatClampNeg ≤ 4 := by rw [e, nI_clamp (by omega)]; exact hk
    have hs2 : p2.toNatClampNeg = 2 → p3.toNatClampNeg < sN S := fun z => by
      rw [e, nI_clamp (by omega)] at z
      obtain ⟨s, hs, e3⟩ := isSt_t hw (hg.2.2.2 (by rw [e, z]))
      rw [e3, nI_clamp (by omega)]; exact hs
    by_cases hp : p2 = nI 2 ∨ p2 = nI 4
    · have h := h.2 hp
      have h' := h'.2 hp
      by_cases hl : lackS S = 0
      · obtain ⟨X, Y, a1, a2, a3, a4⟩ := h.2 hl
        obtain ⟨X', Y', b1, b2, b3, b4⟩ := h'.2 hl
        have e1 := isOnes_uniq b1 a1
        have e2 := isG_uniq b2 a2
        subst e1 e2
        rcases Nat.lt_or_ge 5 (cntB (ndiff Y' X')) with q | q
        · exact ⟨by rw [a3 q, b3 q], fun z => by rw [a3 q] at z; exact absurd z (by decide)⟩
        · exact ⟨by rw [(a4 q).1, (b4 q).1], fun _ => kepG_uniq (fun t u w u' w' ht z1 z2 => VAL_uniq hw hl b1 b2 ht z1 z2) hs2 hk4 (a4 q).2 (b4 q).2⟩
      · exact ⟨by rw [h.1 hl, h'.1 hl], fun z => by rw [h.1 hl] at z; exact absurd z (by decide)⟩
    · exact ⟨by rw [(h.1 hp).1, (h'.1 hp).1], fun _ => kepG_uniq (fun t u w u' w' ht z1 z2 => z1.elim) hs2 hk4 (h.1 hp).2 (h'.1 hp).2⟩
  · exact ⟨by rw [h.1 hg, h'.1 hg], fun z => by rw [h.1 hg] at z; exact absurd z (by decide)⟩
theorem SM_eq {h : Nat} {v v' : Shl} (he : shEq v v') (hS : SM m (setH H h v')) : SM m (setH H h v) := by
  rw [SM_v] at hS ⊢
  intro a ha
  have h2 := hS a ha
  by_cases e : a = h
  · subst e
    rw [setH_1] at h2 ⊢
    obtain ⟨q1, q2, q3⟩ := h2
    obtain ⟨e1, e2, e3⟩ := he
    refine ⟨by rw [e1]; exact q1, fun z => by rw [e2 z]; exact q2 (by rw [← e1]; exact z), fun z => ?_⟩
    obtain ⟨f1, f2⟩ := e3 z
    obtain ⟨g1, g2, g3⟩ := q3 (by rw [← e1]; exact z)
    exact ⟨by rw [f1]; exact g1, by rw [f1]; exact g2, fun j hj => by rw [f2 j hj]; exact g3 j (by rw [← f1]; exact hj)⟩
  · rw [setH_2 e] at h2 ⊢; exact h2
theorem c_addO1 {x n : Nat} {p q : Int32} (h2 : m.1 4 x 2 = nI n) (hn : n < 4) (hQ : ∀ m', off (fun t i => (t = 4 ∨ t = 5 ∨ t = 6) ∧ i = x) m m' → m'.1 4 x 0 = m.1 4 x 0 → m'.1 4 x 1 = m.1 4 x 1 → m'.1 4 x 2 = nI (n + 1) → Q none m') : callW2 xs (d + 1) 2 [vR 4 x, vI p, vI q] m Q := by
  refine eX0_addOutcome m _ _ _ (W2_st (bX0_addOutcome_0 m _ _ _ ?_))
  rw [h2, nI_clamp (n := n) (by omega)]
  have a1 : (mI m 5 x n p).1 4 x 2 = nI n := by rw [mI_r, if_neg (by omega)]; exact h2
  rw [a1, nI_clamp (n := n) (by omega)]
  have ib : inb (nI n) 4 := inb_nI (by omega) (by omega)
  refine ⟨ib, ib, hQ _ ?_ ?_ ?_ ?_⟩
  · exact off_I (off_I (off_I (off_I (off_I (off_rfl _ _) _ _ ⟨by omega, rfl⟩) _ _ ⟨by omega, rfl⟩) _ _ ⟨by omega, rfl⟩) _ _ ⟨by omega, rfl⟩) _ _ ⟨by omega, rfl⟩
  · rw [mI_r, if_neg (by omega), mI_r, if_neg (by omega), mI_r, if_neg (by omega), mI_r, if_neg (by omega), mI_r, if_neg (by omega)]
  · rw [mI_r, if_neg (by omega), mI_r, if_neg (by omega), mI_r, if_neg (by omega), mI_r, if_neg (by omega), mI_r, if_neg (by omega)]
  · rw [mI_r, if_neg (by omega), mI_r, if_neg (by omega), mI_r, if_pos ⟨rfl, rfl, rfl⟩, mI_r, if_neg (by omega), a1, nI_add]
theorem c_become {h x k c o : Nat} (hx : x < 40) (h0 : m.1 4 x 0 = nI k) (h1 : m.1 4 x 1 = nI c) (h2 : m.1 4 x 2 = nI o) (ho : o ≤ 4) (hQ : ∀ m', off (fun t i => (t = 4 ∨ t = 5 ∨ t = 6) ∧ i = 40 + h) m m' → m'.1 4 (40 + h) 0 = nI k → m'.1 4 (40 + h) 1 = nI c → m'.1 4 (40 + h) 2 = nI o → Q none m') : callW2 xs (d + 2) 3 [vR 4 (40 + h), vR 4 x] m Q := by
  refine eX0_become m _ _ (W2_st (bX0_become_0 m _ _ ?_))
  rw [h0, h1]
  refine eX0_begin m _ _ _ (W2_st (bX0_begin_0 m _ _ _ ⟨rfl, ?_⟩))
  have key : ∀ j, j ≤ o → ∀ mc, off (fun t i => (t = 4 ∨ t = 5 ∨ t = 6) ∧ i = 40 + h) m mc → mc.1 4 (40 + h) 0 = nI k → mc.1 4 (40 + h) 1 = nI c → mc.1 4 (40 + h) 2 = nI j → (W2 xs (callW2 xs (d + 1)) tX0_become [8] none Q 8 [some (vR 4 ((40 + h))), some (vR 4 (x)), some (vI (nI j))] [] (mc)) := by
    refine upto o ?_ ?_
    · intro mc g1 g2 g3 g4
      refine W2_st (bX0_become_8 mc _ _ _ ?_)
      rw [(g1 4 x (by omega)).1, h2, nI_leI (by omega) (by omega)]
      exact ⟨fun _ => hQ mc g1 g2 g3 g4, fun z => absurd (Nat.le_refl _) z⟩
    · intro j hj ih mc g1 g2 g3 g4
      refine W2_st (bX0_become_8 mc _ _ _ ?_)
      rw [(g1 4 x (by omega)).1, h2, nI_leI (by omega) (by omega), nI_add]
      refine ⟨fun z => by omega, fun _ => ⟨inb_nI (by omega) (by omega), inb_nI (by omega) (by omega), c_addO1 g4 (by omega) (fun m' f1 f2 f3 f4 => ⟨rfl, ?_⟩)⟩⟩
      exact ih m' (off_trans g1 f1) (f2.trans g2) (f3.trans g3) f4
  refine key 0 (Nat.zero_le _) _ (off_I (off_I (off_I (off_I (off_I (off_rfl _ _) _ _ ⟨by omega, rfl⟩) _ _ ⟨by omega, rfl⟩) _ _ ⟨by omega, rfl⟩) _ _ ⟨by omega, rfl⟩) _ _ ⟨by omega, rfl⟩) ?_ ?_ ?_
  · rw [mI_r, if_neg (by omega), mI_r, if_neg (by omega), mI_r, if_neg (by omega), mI_r, if_neg (by omega), mI_r, if_pos ⟨rfl, rfl, rfl⟩]
  · rw [mI_r, if_neg (by omega), mI_r, if_neg (by omega), mI_r, if_neg (by omega), mI_r, if_pos ⟨rfl, rfl, rfl⟩]
  · rw [mI_r, if_neg (by omega), mI_r, if_neg (by omega), mI_r, if_pos ⟨rfl, rfl, rfl⟩]
theorem c_holdParts {h x o : Nat} (h2 : m.1 4 x 2 = nI o) (ho : o ≤ 4) {p : Nat → Nat} (hp : ∀ j, j < o → m.1 6 x j = nI (p j) ∧ p j < 2 ^ 31) (hQ : ∀ m', off (tX h) m m' → SCv m' h (3, 0, o, fun j => lI (p j)) → Q none m') : callW2 xs (d + 3) 39 [vR 31 h, vR 4 x] m Q := by
  refine eX6_holdParts m _ _ (W2_st (bX6_holdParts_0 m _ _ ?_))
  refine c_beginRow _ _ (fun m' g1 g2 g3 g4 => ⟨rfl, ?_⟩)
  rw [h2] at g3
  have key : ∀ j, j ≤ o → ∀ mc, off (fun t i => (t = 31 ∨ t = 32) ∧ i = h) m mc → mc.1 31 h 0 = nI 3 → mc.1 31 h 2 = nI o → (∀ i, i < j → mc.2 32 h i = lI (p i)) → (W2 xs (callW2 xs (d + 2)) tX6_holdParts [7] none Q 7 [some (vR 31 (h)), some (vR 4 (x)), some (vI (nI j))] [] (mc)) := by
    refine upto o ?_ ?_
    · intro mc f1 f2 f3 f4
      refine W2_st (bX6_holdParts_7 mc _ _ _ ?_)
      rw [(f1 4 x (by omega)).1, h2, nI_leI (by omega) (by omega)]
      refine ⟨fun _ => hQ mc (off_sub f1 (fun t i z => Or.inl z)) ⟨by show 3 ≤ 4; omega, f2, fun z => absurd z (show ¬ 3 = 1 by decide), fun z => absurd z (show ¬ 3 = 2 by decide), fun _ => ⟨show o ≤ 60 by omega, f3, f4⟩⟩, fun z => absurd (Nat.le_refl _) z⟩
    · intro j hj ih mc f1 f2 f3 f4
      refine W2_st (bX6_holdParts_7 mc _ _ _ ?_)
      rw [(f1 4 x (by omega)).1, h2, nI_leI (by omega) (by omega), nI_add, nI_clamp (n := j) (by omega), (f1 6 x (by omega)).1, (hp j hj).1, lI_i (hp j hj).2]
      refine ⟨fun z => by omega, fun _ => ⟨inb_nI (by omega) (by omega), inb_nI (by omega) (by omega), ih _ (off_L f1 _ _ ⟨Or.inr rfl, rfl⟩) f2 f3 (fun i hi => ?_)⟩⟩
      rw [mL_r]
      by_cases e : i = j
      · rw [if_pos ⟨rfl, rfl, e⟩, e]
      · rw [if_neg (by omega)]; exact f4 i (by omega)
  exact key 0 (Nat.zero_le _) m' g1 g2 g3 (fun i hi => absurd hi (Nat.not_lt_zero _))
theorem c_fillShelf {h k : Nat} {p3 p4 : Int32} {VAL : Nat → Int → Int → Prop} (hR : RC m S) (hw : wf S) (hk : k ≤ 4) (hA : k = 1 ∨ k = 3 → isAc S p3 p4 = true) (h2 : k = 2 → isSt S p3 = true) (hV : k = 2 ∨ k = 4 → ∃ (V : Nat → Int) (D : Int), 0 < D ∧ D.natAbs ≤ 2 ^ 25 ∧ m.2 7 0 7 = lI D ∧ ∀ t, t < sN S → m.2 15 0 t = lI (V t) ∧ 0 ≤ V t ∧ (V t).natAbs ≤ 2 ^ 25 ∧ ∀ u w, low u w (V t) D → VAL t u w) (hQ : ∀ m' v, off (tX h) m m' → SCv m' h v → kepG S k p3.toNatClampNeg p4.toNatClampNeg v VAL → Q none m') : callW2 xs (d + 4) 105 [vR 0 0, vR 31 h, vI (nI k), vI p3, vI p4] m Q := by
  have h3 := wf_n hw
  refine eX11_fillShelf m _ _ _ _ (W2_st (bX11_fillShelf_0 m _ _ _ _ ?_))
  rw [nI_toInt (by omega)]
  refine ⟨fun z => ?_, fun z => ?_, fun z => ?_, fun z => ?_, fun z => ?_, trivial⟩
  · have k0 : k = 0 := by omega
    subst k0
    refine hQ _ (0, 0, 0, fun _ => 0) (off_I (off_rfl _ _) _ _ (Or.inl ⟨Or.inl rfl, rfl⟩)) ⟨by show 0 ≤ 4; omega, by rw [mI_r, if_pos ⟨rfl, rfl, rfl⟩], fun z => absurd z (show ¬ 0 = 1 by decide), fun z => absurd z (show ¬ 0 = 2 by decide), fun z => absurd z (show ¬ 3 ≤ 0 by decide)⟩ ⟨rfl, fun z => by omega, fun z => by omega, fun z => by omega, fun z => by omega⟩
  · have k1 : k = 1 := by omega
    obtain ⟨s, a, hs, ha, ha4, e3, e4⟩ := isAc_t hw (hA (Or.inl k1))
    have hx := isA_mk hs ha ha4
    subst k1 e3 e4
    rw [nI_clamp (n := s) (by omega), nI_clamp (n := a) (by omega)] at hQ
    refine c_actS hw hs ha ⟨_, rfl, ?_⟩
    refine eX6_holdAct m _ _ (W2_st (bX6_holdAct_0 m _ _ ?_))
    have r1 : ∀ i, (mI m 31 h 0 (nI 1)).1 4 (4 * s + a) i = m.1 4 (4 * s + a) i := fun i => by rw [mI_r, if_neg (by omega)]
    refine c_become (wf_40 hw hx) ((r1 0).trans (rc_k hR hx)) ((r1 1).trans (rc_c hR hx)) ((r1 2).trans (rc_o hR hx)) (wf_o hw hx) (fun m' g1 g2 g3 g4 => ⟨rfl, rfl, ?_⟩)
    refine hQ m' (1, lI (heavy (sK S (4 * s + a)) (sC S (4 * s + a)) (sO S (4 * s + a))), 0, fun _ => 0) (off_trans (off_I (off_rfl _ _) _ _ (Or.inl ⟨Or.inl rfl, rfl⟩)) (off_sub g1 (fun t i z => Or.inr z))) ⟨by show 1 ≤ 4; omega, ?_, fun _ => ⟨_, _, _, wf_k hw hx, wf_c hw hx, wf_o hw hx, g2, g3, g4, rfl⟩, fun z => absurd z (show ¬ 1 = 2 by decide), fun z => absurd z (show ¬ 3 ≤ 1 by decide)⟩ ⟨rfl, fun _ => rfl, fun z => by omega, fun z => by omega, fun z => by omega⟩
    rw [(g1 31 h (by omega)).1, mI_r, if_pos ⟨rfl, rfl, rfl⟩]
  · have k1 : k = 2 := by omega
    obtain ⟨s, hs, e3⟩ := isSt_t hw (h2 k1)
    obtain ⟨V, D, q1, q2, q3, q4⟩ := hV (Or.inl k1)
    obtain ⟨q5, q6, q7, q8⟩ := q4 s hs
    subst k1 e3
    rw [nI_clamp (n := s) (by omega)] at hQ
    rw [nI_clamp (n := s) (by omega), q5, q3]
    have b1 : V s < 2 ^ 62 := by clear hV q4; omega
    have b2 : D < 2 ^ 62 := by clear hV q4; omega
    refine ⟨inb_nI (by omega) (by omega), c_lowest q6 b1 q1 b2 (fun u w hlow => ⟨_, rfl, ?_⟩)⟩
    refine eX6_holdNumber m _ _ (W2_st (bX6_holdNumber_0 m _ _ ⟨rfl, ?_⟩))
    refine hQ _ (2, lI u, 0, fun _ => 0) (off_L (off_I (off_rfl _ _) _ _ (Or.inl ⟨Or.inl rfl, rfl⟩)) _ _ (Or.inl ⟨Or.inl rfl, rfl⟩)) ⟨by show 2 ≤ 4; omega, ?_, fun z => absurd z (show ¬ 2 = 1 by decide), fun _ => ?_, fun z => absurd z (show ¬ 3 ≤ 2 by decide)⟩ ⟨rfl, fun z => by omega, fun _ => ⟨u, w, q8 u w hlow, rfl⟩, fun z => by omega, fun z => by omega⟩
    · show (mI m 31 h 0 (nI 2)).1 31 h 0 = nI 2
      rw [mI_r, if_pos ⟨rfl, rfl, rfl⟩]
    · rw [mL_r, if_pos ⟨rfl, rfl, rfl⟩, if_pos (nI_00.mpr trivial)]
  · have k1 : k = 3 := by omega
    obtain ⟨s, a, hs, ha, ha4, e3, e4⟩ := isAc_t hw (hA (Or.inr k1))
    have hx := isA_mk hs ha ha4
    subst k1 e3 e4
    rw [nI_clamp (n := s) (by omega), nI_clamp (n := a) (by omega)] at hQ
    refine c_actS hw hs ha ⟨_, rfl, ?_⟩
    refine c_holdParts (rc_o hR hx) (wf_o hw hx) (fun j hj => ⟨rc_p hR hx hj, by have := wf_p hw hx hj; omega⟩) (fun m' g1 g2 => ⟨rfl, ?_⟩)
    exact hQ m' _ g1 g2 ⟨rfl, fun z => by omega, fun z => by omega, fun _ => ⟨rfl, fun j hj => rfl⟩, fun z => by omega⟩
  · have k1 : k = 4 := by omega
    obtain ⟨V, D, q1, q2, q3, q4⟩ := hV (Or.inr k1)
    subst k1
    rw [rc_n hR, pk_mul]
    refine c_beginRow _ _ (fun m' g1 g2 g3 g4 => ⟨rfl, ?_⟩)
    have key : ∀ t, t ≤ sN S → ∀ mc, off (fun t i => (t = 31 ∨ t = 32) ∧ i = h) m mc → mc.1 31 h 0 = nI 4 → mc.1 31 h 2 = nI (2 * sN S) → (∀ i, i < t → ∃ u w, VAL i u w ∧ mc.2 32 h (2 * i) = lI u ∧ mc.2 32 h (2 * i + 1) = lI w) → (W2 xs (callW2 xs (d + 3)) tX11_fillShelf [41] none Q 41 [some (vR 0 0), some (vR 31 (h)), some (vI (nI 4)), some (vI (p3)), some (vI (p4)), some (vI (nI t))] [] (mc)) := by
      refine upto (sN S) ?_ ?_
      · intro mc f1 f2 f3 f4
        refine W2_st (bX11_fillShelf_41 mc _ _ _ _ _ ?_)
        rw [(f1 1 0 (by omega)).1, rc_n hR, nI_leI (by omega) (by omega)]
        refine ⟨fun _ => hQ mc (4, 0, 2 * sN S, mc.2 32 h) (off_sub f1 (fun t i z => Or.inl z)) ⟨by show 4 ≤ 4; omega, f2, fun z => absurd z (show ¬ 4 = 1 by decide), fun z => absurd z (show ¬ 4 = 2 by decide), fun _ => ⟨show 2 * sN S ≤ 60 by omega, f3, fun j _ => rfl⟩⟩ ⟨rfl, fun z => by omega, fun z => by omega, fun z => by omega, fun _ => ⟨rfl, f4⟩⟩, fun z => absurd (Nat.le_refl _) z⟩
      · intro t ht ih mc f1 f2 f3 f4
        obtain ⟨q5, q6, q7, q8⟩ := q4 t ht
        refine W2_st (bX11_fillShelf_41 mc _ _ _ _ _ ?_)
        have z15 : mc.2 15 0 t = lI (V t) := by rw [(f1 15 0 (by omega)).2]; exact q5
        have z7 : mc.2 7 0 7 = lI D := by rw [(f1 7 0 (by omega)).2]; exact q3
        simp only [pk_mul, nI_add]
        rw [(f1 1 0 (by omega)).1, rc_n hR, nI_leI (by omega) (by omega), nI_clamp (n := t) (by omega), nI_clamp (n := 2 * t) (by omega), nI_clamp (n := 2 * t + 1) (by omega), z15, z7]
        refine ⟨fun z => by omega, fun _ => ⟨inb_nI (by omega) (by omega), c_lowest q6 (by omega) q1 (by omega) (fun u w hlow => ⟨_, rfl, inb_nI (by omega) (by omega), inb_nI (by omega) (by omega), ?_⟩)⟩⟩
        rw [if_pos (nI_00.mpr trivial)]
        have y15 : (mL mc 32 h (2 * t) (lI u)).2 15 0 t = lI (V t) := by rw [mL_r, if_neg (by omega)]; exact z15
        have y7 : (mL mc 32 h (2 * t) (lI u)).2 7 0 7 = lI D := by rw [mL_r, if_neg (by omega)]; exact z7
        rw [y15, y7]
        refine c_lowest q6 (by omega) q1 (by omega) (fun u' w' hlow' => ⟨_, rfl, inb_nI (by omega) (by omega), ?_⟩)
        rw [if_neg (by decide)]
        obtain ⟨eu, ew⟩ := low_uniq q1 hlow hlow'
        refine ih _ (off_L (off_L f1 _ _ ⟨Or.inr rfl, rfl⟩) _ _ ⟨Or.inr rfl, rfl⟩) f2 f3 (fun i hi => ?_)
        by_cases e : i = t
        · subst e
          refine ⟨u, w, q8 u w hlow, ?_, ?_⟩
          · rw [mL_r, if_neg (by omega), mL_r, if_pos ⟨rfl, rfl, rfl⟩]
          · rw [mL_r, if_pos ⟨rfl, rfl, rfl⟩, ew]
        · obtain ⟨u0, w0, y1, y2, y3⟩ := f4 i (by omega)
          refine ⟨u0, w0, y1, ?_, ?_⟩
          · rw [mL_r, if_neg (by omega), mL_r, if_neg (by omega)]; exact y2
          · rw [mL_r, if_neg (by omega), mL_r, if_neg (by omega)]; exact y3
    exact key 0 (Nat.zero_le _) m' g1 g2 g3 (fun i hi => absurd hi (Nat.not_lt_zero _))
theorem SC_eq {m' : Mem} {T : Nat → Nat → Prop} (hS : SC m H) (ho : off T m m') (hT : ∀ t i, T t i → t ≠ 31 ∧ t ≠ 32 ∧ (t = 4 → i < 40)) : SC m' H := by
  rw [SC_v] at hS ⊢
  intro a ha
  have o1 := ho 31 a (fun z => (hT _ _ z).1 rfl)
  have o2 := ho 4 (40 + a) (fun z => by have := (hT _ _ z).2.2 rfl; omega)
  have o3 := ho 32 a (fun z => (hT _ _ z).2.1 rfl)
  have h2 := hS a ha
  unfold SCv at h2 ⊢
  rw [o1.1, o1.2, o2.1, o3.2]
  exact h2
theorem kepR_1 {p1 p2 p3 p4 : Int32} {v : Shl} {VAL : Nat → Nat → Nat → Int → Int → Prop} (h : ¬ kepC S p1 p2 p3 p4) : kepR S p1 p2 p3 p4 (-1) v VAL := ⟨fun _ => rfl, fun z => absurd z h⟩
theorem c_keep {ver : Nat} {p1 p2 p3 p4 : Int32} (hR : RC m S) (hw : wf S) (hver : m.1 1 0 2 = nI ver) (hv : ver < 2 ^ 31) (hC : CV m S ver false 0) (hS : SC m H) (hQ : ∀ m1 m' r v, off (tSe 0) m m1 → CV m1 S ver false 0 → (m1 = m ∨ ∃ X Y, sorted m1 S false 0 X Y) → off (tX p1.toNatClampNeg) m1 m' → kepR S p1 p2 p3 p4 r v (VALc S) → SC m' (kepH H p1 r v) → Q (some (vI r)) m') : callW2 xs (d + 7) 98 [vR 0 0, vI p1, vI p2, vI p3, vI p4] m Q := by
  have h3 := wf_n hw
  refine eX11_keep m _ _ _ _ (W2_st (bX11_keep_0 m _ _ _ _ ?_))
  have no : ¬ kepC S p1 p2 p3 p4 → Q (some (vI (-1 : Int32))) m := fun h => hQ m m (-1) (0, 0, 0, fun _ => 0) (off_rfl _ _) hC (Or.inl rfl) (off_rfl _ _) (kepR_1 h) (by unfold kepH; rw [if_neg (by decide)]; exact hS)
  refine c_isShelf p1 ⟨_, rfl, ?_⟩
  rw [bI_0]
  refine ⟨fun h => no (fun z => by have z := z.1; rw [h] at z; cases z), fun hp => ?_⟩
  rw [Bool.not_eq_false] at hp
  obtain ⟨a, ha, e1⟩ := shl_t hp
  rw [i_neg, i_leN (by omega)]
  refine ⟨fun h => no (fun z => by have := z.2.1.1; omega), fun h0 => ⟨fun h4 => ?_, fun h => no (fun z => by have := z.2.1.2; omega)⟩⟩
  have hin : inN 4 p2 := ⟨by omega, by omega⟩
  obtain ⟨k, hk, e2⟩ := inN_t hin (by omega)
  have i8 : inb p1 8 := by rw [e1]; exact inb_nI (by omega) (by omega)
  have ek : ∀ n, n ≤ 4 → (p2 = nI n ↔ k = n) := fun n hn => by rw [e2, nI_eq (by omega) (by omega)]
  have ck : p2.toNatClampNeg = k := by rw [e2, nI_clamp (by omega)]
  have F : kepC S p1 p2 p3 p4 → ¬ (p2 = nI 2 ∨ p2 = nI 4) → inb p1 8 ∧ callW2 xs (d + 6) 105 [vR 0 0, vR 31 p1.toNatClampNeg, vI p2, vI p3, vI p4] m (fun r10 m11 => r10 = none ∧ Q (some (vI (nI 0))) m11) := by
    intro hg h24
    rw [ek 2 (by omega), ek 4 (by omega)] at h24
    refine ⟨i8, ?_⟩
    rw [show vI p2 = vI (nI k) by rw [e2]]
    refine c_fillShelf (VAL := fun _ _ _ => False) hR hw hk (fun z => hg.2.2.1 (by rw [ek 1 (by omega), ek 3 (by omega)]; exact z)) (fun z => by omega) (fun z => absurd z h24) (fun m' v g1 g2 g3 => ⟨rfl, ?_⟩)
    refine hQ m m' (nI 0) v (off_rfl _ _) hC (Or.inl rfl) g1 ⟨fun z => absurd hg z, fun _ => ⟨fun _ => ⟨rfl, by rw [ck]; exact g3⟩, fun z => absurd z (by rw [ek 2 (by omega), ek 4 (by omega)]; exact h24)⟩⟩ ?_
    unfold kepH
    rw [if_pos rfl]
    exact SC_set hS g1 g2
  have T : kepC S p1 p2 p3 p4 → (p2 = nI 2 ∨ p2 = nI 4) → callW2 xs (d + 6) 104 [vR 0 0, vR 7 0] m (fun r7 m8 => ∃ w9 : Int32, r7 = some (vI w9) ∧ ((w9 = 0 → inb p1 8 ∧ callW2 xs (d + 6) 105 [vR 0 0, vR 31 p1.toNatClampNeg, vI p2, vI p3, vI p4] m8 (fun r10 m11 => r10 = none ∧ Q (some (vI (nI 0))) m11)) ∧ (¬ w9 = 0 → Q (some (vI w9)) m8))) := by
    intro hg h24
    have h24' : k = 2 ∨ k = 4 := by rw [ek 2 (by omega), ek 4 (by omega)] at h24; exact h24
    refine c_refusal hR hw hver hv hC (fun hl => ⟨_, rfl, fun z => absurd z (by decide), fun _ => ?_⟩) (fun X Y m2 hl g1 g2 g3 g4 => ⟨fun h6 => ⟨_, rfl, fun z => absurd z (by decide), fun _ => ?_⟩, fun h5 => ⟨_, rfl, fun _ => ⟨i8, ?_⟩, fun z => absurd rfl z⟩⟩)
    · exact hQ m m (-2) (0, 0, 0, fun _ => 0) (off_rfl _ _) hC (Or.inl rfl) (off_rfl _ _) ⟨fun z => absurd hg z, fun _ => ⟨fun z => absurd h24 z, fun _ => ⟨fun _ => rfl, fun z => absurd z hl⟩⟩⟩ (by unfold kepH; rw [if_neg (by decide)]; exact hS)
    · refine hQ m2 m2 (-3) (0, 0, 0, fun _ => 0) g1 g2 (Or.inr ⟨X, Y, g3⟩) (off_rfl _ _) ⟨fun z => absurd hg z, fun _ => ⟨fun z => absurd h24 z, fun _ => ⟨fun z => absurd hl z, fun _ => ⟨X, Y, g3.2.2.1, g3.2.2.2, fun _ => rfl, fun z => by omega⟩⟩⟩⟩ ?_
      unfold kepH
      rw [if_neg (by decide)]
      exact SC_eq hS g1 (fun t i z => by unfold tSe at z; omega)
    · obtain ⟨w, V, D, f1, f2, f3, f4, f5, f6⟩ := g4.2 h5
      rw [show vI p2 = vI (nI k) by rw [e2]]
      refine c_fillShelf (VAL := VALc S X Y) (RC_S g1 hw hR) hw hk (fun z => by omega) (fun z => hg.2.2.2 ((ek 2 (by omega)).mpr z)) (fun _ => ⟨V, D, f1.1, f5, f3, fun t ht => ⟨f2 t ht, sad_nn f1 f6 ht, f4 t, fun u w' hlow => ⟨w, V, D, f1, hlow⟩⟩⟩) (fun m' v y1 y2 y3 => ⟨rfl, ?_⟩)
      refine hQ m2 m' (nI 0) v g1 g2 (Or.inr ⟨X, Y, g3⟩) y1 ⟨fun z => absurd hg z, fun _ => ⟨fun z => absurd h24 z, fun _ => ⟨fun z => absurd hl z, fun _ => ⟨X, Y, g3.2.2.1, g3.2.2.2, fun z => by omega, fun _ => ⟨rfl, by rw [ck]; exact y3⟩⟩⟩⟩⟩ ?_
      unfold kepH
      rw [if_pos rfl]
      exact SC_set (SC_eq hS g1 (fun t i z => by unfold tSe at z; omega)) y1 y2
  have tl : kepC S p1 p2 p3 p4 → _ := fun hg => And.intro (fun h => T hg (Or.inl h)) (fun h2 => And.intro (fun h4 => F hg (fun z => z.elim h2 h4)) (fun h4 => T hg (Or.inr h4)))
  refine ⟨fun q1 => ?_, fun q1 => ⟨fun q3 => ⟨fun q2 => ?_, fun q2 => ?_⟩, fun q3 => ?_⟩⟩
  · refine c_hasA hR hw p3 p4 ⟨_, rfl, ?_⟩
    rw [bI_0]
    refine ⟨fun hac => ⟨fun q2 => ?_, fun q2 => absurd (q1.symm.trans q2) (by decide)⟩, fun hac => no (fun z => by rw [z.2.2.1 (Or.inl q1)] at hac; cases hac)⟩
    rw [Bool.not_eq_false] at hac
    exact tl ⟨hp, hin, fun _ => hac, fun z => absurd z q2⟩
  · exact tl ⟨hp, hin, fun z => z.elim (fun z => absurd z q1) (fun z => absurd z q3), fun z => absurd z q2⟩
  · refine c_hasS hR hw p3 ⟨_, rfl, ?_⟩
    rw [bI_0]
    refine ⟨fun hst => ?_, fun hst => no (fun z => by rw [z.2.2.2 q2] at hst; cases hst)⟩
    rw [Bool.not_eq_false] at hst
    exact tl ⟨hp, hin, fun z => z.elim (fun z => absurd z q1) (fun z => absurd z q3), fun _ => hst⟩
  · refine c_hasA hR hw p3 p4 ⟨_, rfl, ?_⟩
    rw [bI_0]
    refine ⟨fun hac => ⟨fun q2 => ?_, fun q2 => absurd (q3.symm.trans q2) (by decide)⟩, fun hac => no (fun z => by rw [z.2.2.1 (Or.inr q3)] at hac; cases hac)⟩
    rw [Bool.not_eq_false] at hac
    exact tl ⟨hp, hin, fun _ => hac, fun z => absurd z q2⟩
end L99x
