/-! THE GUIDE (3): choice(), distance(), sum(), the class (wip/whole/src/99.uC.src) -/
section L99C
variable {xs : Nat × (Nat → Int32)} {d : Nat} {Q : Option v2 → Mem → Prop} {m : Mem} {S : Sys} {V : Nat → Int} {D : Int} {X Y : Nat}
def vKb (S : Sys) (X Y : Nat) (V : Nat → Int) (D : Int) : Prop := vK S X Y V D ∧ (∀ s, (V s).natAbs ≤ 2 ^ 25) ∧ D.natAbs ≤ 2 ^ 25
def choP (S : Sys) (V : Nat → Int) (s a : Nat) : Prop := tig S V s a = true ∧ (0 < V s → foeS S s = false → ∃ o k k', o < sO S (4 * s + a) ∧ dst S V (sT S (4 * s + a) o) k ∧ dst S V s k' ∧ k < k')
def choA (S : Sys) (V : Nat → Int) (s : Nat) (r : Int32) : Prop := ((sM S).testBit s = true → r = nI 0) ∧ ((sM S).testBit s = false → ∃ a, a < sA S s ∧ choP S V s a ∧ (∀ b, b < a → ¬ choP S V s b) ∧ r = nI a)
def rfR (S : Sys) (e2 e3 : Prop) (F : Nat → Nat → Prop) : Prop := (¬ lackS S = 0 → e2) ∧ (lackS S = 0 → ∃ X Y, isOnes S false X ∧ isG S false (fullB (sN S)) Y ∧ (5 < cntB (ndiff Y X) → e3) ∧ (cntB (ndiff Y X) ≤ 5 → F X Y))
def choR (S : Sys) (p r : Int32) : Prop := (isAc S p (nI 0) = false → r = -1) ∧ (isAc S p (nI 0) = true → rfR S (r = -2) (r = -3) (fun X Y => ∃ V D, vKb S X Y V D ∧ choA S V p.toNatClampNeg r))
def disR (S : Sys) (p r : Int32) : Prop := (isSt S p = false → r = -1) ∧ (isSt S p = true → rfR S (r = -2) (r = -3) (fun X Y => ∃ V D, vKb S X Y V D ∧ (V p.toNatClampNeg = 0 → r = -4) ∧ (0 < V p.toNatClampNeg → ∃ k, dst S V p.toNatClampNeg k ∧ r = nI k)))
def sumR (S : Sys) (p q p3 : Int32) (r : Int64) : Prop := (¬ (isAc S p q = true ∧ in01 p3) → r = -1) ∧ (isAc S p q = true ∧ in01 p3 → rfR S (r = -2) (r = -3) (fun X Y => ∃ V D u v, vKb S X Y V D ∧ low u v (meanS S (4 * p.toNatClampNeg + q.toNatClampNeg) V) (12 * D) ∧ r = lI (if p3 = 0 then u else v)))
/-- the answers are one -/
theorem rfR_uniq {α : Type} {r r' : α} {a2 a3 : α} {F F' : Nat → Nat → Prop} (h : rfR S (r = a2) (r = a3) F) (h' : rfR S (r' = a2) (r' = a3) F') (hF : ∀ X Y, lackS S = 0 → isOnes S false X → isG S false (fullB (sN S)) Y → F X Y → F' X Y → r = r') : r = r' := by
  by_cases hl : lackS S = 0
  · obtain ⟨X, Y, a1, a2, a3, a4⟩ := h.2 hl
    obtain ⟨X', Y', b1, b2, b3, b4⟩ := h'.2 hl
    have e1 := isOnes_uniq b1 a1
    have e2 := isG_uniq b2 a2
    subst e1 e2
    rcases Nat.lt_or_ge 5 (cntB (ndiff Y' X')) with q | q
    · rw [a3 q, b3 q]
    · exact hF X' Y' hl b1 b2 (a4 q) (b4 q)
  · rw [h.1 hl, h'.1 hl]
theorem choP_eq {V' : Nat → Int} {D' : Int} (hw : wf S) (hf : full S) (h : vK S X Y V D) (h' : vK S X Y V' D') {s a : Nat} (hs : s < sN S) (ha : a < sA S s) (hc : choP S V s a) : choP S V' s a := by
  have hx := isA_s hw hs ha
  refine ⟨by rw [← tig_eq hw hf h h' hs ha]; exact hc.1, fun hp hfo => ?_⟩
  obtain ⟨o, k, k', q1, q2, q3, q4⟩ := hc.2 ((vK_Y h hs).mpr ((vK_Y h' hs).mp hp)) hfo
  exact ⟨o, k, k', q1, (dst_eq hw hf h h' (wf_t hw hx q1)).mp q2, (dst_eq hw hf h h' hs).mp q3, q4⟩
theorem cho_uniq {p r r' : Int32} (hw : wf S) (h : choR S p r) (h' : choR S p r') : r = r' := by
  cases hp : isAc S p (nI 0) with
  | false => rw [h.1 hp, h'.1 hp]
  | true =>
    obtain ⟨s, a, hs, ha, ha4, e3, e4⟩ := isAc_t hw hp
    have h3 := wf_n hw
    have hcl : p.toNatClampNeg = s := by rw [e3, nI_clamp (by omega)]
    refine rfR_uniq (h.2 hp) (h'.2 hp) (fun X Y hl hX hY ⟨V, D, c1, c2⟩ ⟨V', D', d1, d2⟩ => ?_)
    rw [hcl] at c2 d2
    have hf := full_lack hw hl
    cases hm : (sM S).testBit s with
    | true => rw [c2.1 hm, d2.1 hm]
    | false =>
      obtain ⟨a, q1, q2, q3, q4⟩ := c2.2 hm
      obtain ⟨b, r1, r2, r3, r4⟩ := d2.2 hm
      rcases Nat.lt_trichotomy a b with z | z | z
      · exact absurd (choP_eq hw hf c1.1 d1.1 hs q1 q2) (r3 a z)
      · rw [q4, r4, z]
      · exact absurd (choP_eq hw hf d1.1 c1.1 hs r1 r2) (q3 b z)
theorem dis_uniq {p r r' : Int32} (hw : wf S) (h : disR S p r) (h' : disR S p r') : r = r' := by
  cases hp : isSt S p with
  | false => rw [h.1 hp, h'.1 hp]
  | true =>
    obtain ⟨s, hs, e3⟩ := isSt_t hw hp
    have h3 := wf_n hw
    have hcl : p.toNatClampNeg = s := by rw [e3, nI_clamp (by omega)]
    refine rfR_uniq (h.2 hp) (h'.2 hp) (fun X Y hl hX hY ⟨V, D, c1, c2, c3⟩ ⟨V', D', d1, d2, d3⟩ => ?_)
    rw [hcl] at c2 d2 c3 d3
    have hf := full_lack hw hl
    by_cases q : 0 < V s
    · obtain ⟨k, k1, k2⟩ := c3 q
      obtain ⟨k', k3, k4⟩ := d3 ((vK_Y d1.1 hs).mpr ((vK_Y c1.1 hs).mp q))
      rw [k2, k4, dst_uniq k1 ((dst_eq hw hf d1.1 c1.1 hs).mp k3)]
    · have q' : ¬ 0 < V' s := fun z => q ((vK_Y c1.1 hs).mpr ((vK_Y d1.1 hs).mp z))
      have := vK_nn c1.1 s hs
      have := vK_nn d1.1 s hs
      rw [c2 (by omega), d2 (by omega)]
theorem low_tr {u v N D N' D' : Int} (hD : 0 < D) (h : low u v N D) (he : N * D' = N' * D) : low u v N' D' := by
  refine ⟨h.1, h.2.1, ?_⟩
  refine Int.eq_of_mul_eq_mul_right (show D ≠ 0 by omega) ?_
  rw [Int.mul_assoc, Int.mul_comm D' D, ← Int.mul_assoc, h.2.2, Int.mul_assoc, Int.mul_comm v D', ← Int.mul_assoc, he, Int.mul_assoc, Int.mul_comm D v, ← Int.mul_assoc]
theorem mean_eq {V' : Nat → Int} {D' : Int} (hw : wf S) (hf : full S) (h : vK S X Y V D) (h' : vK S X Y V' D') {x : Nat} (hx : isA S x) : meanS S x V * D' = meanS S x V' * D := by
  rw [Int.mul_comm, Int.mul_comm _ D, ← meanS_mul, ← meanS_mul]
  exact meanS_congr (fun o ho => by have := vK_eq hw hf h h' (wf_t hw hx ho); rw [Int.mul_comm D', Int.mul_comm D]; exact this.symm)
theorem sum_uniq {p q p3 : Int32} {r r' : Int64} (hw : wf S) (h : sumR S p q p3 r) (h' : sumR S p q p3 r') : r = r' := by
  by_cases hp : isAc S p q = true ∧ in01 p3
  · obtain ⟨s, a, hs, ha, ha4, e3, e4⟩ := isAc_t hw hp.1
    have h3 := wf_n hw
    have hcl : p.toNatClampNeg = s := by rw [e3, nI_clamp (by omega)]
    have hcl2 : q.toNatClampNeg = a := by rw [e4, nI_clamp (by omega)]
    refine rfR_uniq (h.2 hp) (h'.2 hp) (fun X Y hl hX hY ⟨V, D, u, v, c1, c2, c3⟩ ⟨V', D', u', v', d1, d2, d3⟩ => ?_)
    rw [hcl, hcl2] at c2 d2
    have hf := full_lack hw hl
    have hD := vK_D c1.1
    have hD' := vK_D d1.1
    have he := mean_eq hw hf c1.1 d1.1 (isA_s hw hs ha)
    have h4 : low u v (meanS S (4 * s + a) V') (12 * D') := low_tr (show 0 < 12 * D by omega) c2 (by
      rw [← Int.mul_assoc, Int.mul_comm _ 12, Int.mul_assoc, he, ← Int.mul_assoc, Int.mul_comm 12, Int.mul_assoc])
    obtain ⟨f1, f2⟩ := low_uniq (show 0 < 12 * D' by omega) h4 d2
    rw [c3, d3, f1, f2]
  · rw [h.1 hp, h'.1 hp]
/-- the guide's cache -/
def GC (m : Mem) (S : Sys) (ver : Nat) : Prop := ∃ a, m.1 16 0 2 = nI a ∧ a ≤ ver ∧ (a = ver → ∃ X Y V D, vK S X Y V D ∧ stepsOK m S V)
theorem GC_eq {m' : Mem} {ver : Nat} (h16 : m'.1 16 0 = m.1 16 0) (h17 : m'.1 17 0 = m.1 17 0) (h : GC m S ver) : GC m' S ver := by
  unfold GC stepsOK at h ⊢
  rw [h16, h17]; exact h
theorem c_guide {ver : Nat} (hR : RC m S) (hw : wf S) (hf : full S) (hver : m.1 1 0 2 = nI ver) (hv : ver < 2 ^ 31) (hG : GC m S ver) (hK : vK S X Y V D) (hV : ∀ t, t < sN S → m.2 15 0 t = lI (V t)) (hVb : ∀ t, (V t).natAbs ≤ 2 ^ 25) (hQ : ∀ m', offI tGu m m' → GC m' S ver → stepsOK m' S V → Q none m') : callW2 xs (d + 4) 16 [vR 16 0] m Q := by
  obtain ⟨a, h1, h2, h3⟩ := hG
  by_cases e : a = ver
  · obtain ⟨X0, Y0, V0, D0, k1, k2⟩ := h3 e
    have e1 := isOnes_uniq k1.1 hK.1
    have e2 := isG_uniq k1.2.1 hK.2.1
    subst e1 e2
    refine eX2_settle m (W2_st (bX2_settle_0 m ⟨fun z => absurd (by rw [h1, hver, e]) z, fun _ => hQ m (offI_rfl _ _) ⟨a, h1, h2, h3⟩ (fun s hs => ?_)⟩))
    rcases k2 s hs with ⟨k, q1, q2, q3⟩ | ⟨q1, q2⟩
    · exact Or.inl ⟨k, q1, (dst_eq hw hf k1 hK hs).mp q2, q3⟩
    · exact Or.inr ⟨fun r => by rw [← nt_eq hw hf k1 hK r s hs]; exact q1 r, q2⟩
  · refine c_guideN hR hw hV hVb (by rw [h1, hver, ne_eq, nI_eq (by omega) (by omega)]; exact e) (fun m' f1 f2 f3 => hQ m' f1 ⟨ver, by rw [f2, hver], Nat.le_refl _, fun _ => ⟨X, Y, V, D, hK, f3⟩⟩ f3)
theorem c_nearer {s : Nat} (hR : RC m S) (hw : wf S) (hs : s < sN S) (hY : sub_n Y (sN S)) (h9 : m.1 7 0 9 = nI (ndiff (fullB (sN S)) Y)) (h17 : ∀ t, t < sN S → ∃ k, k ≤ 9 ∧ m.1 17 0 t = nI k) (hQ : ∀ Z, Z < 1024 → (∀ t, Z.testBit t = true ↔ t < sN S ∧ Y.testBit t = true ∧ (m.1 17 0 t).toNatClampNeg < (m.1 17 0 s).toNatClampNeg) → Q (some (vI (nI Z))) m) : callW2 xs (d + 2) 19 [vR 16 0, vI (nI s)] m Q := by
  have h3 := wf_n hw
  refine eX2_nearerThan m _ (W2_st (bX2_nearerThan_0 m _ ?_))
  have hlo : ndiff (fullB (sN S)) Y < 1024 := sub_lt (fun i hi => by
    rw [ndiff_bit, Bool.and_eq_true, fullB_bit] at hi
    exact of_decide_eq_true hi.1) h3
  have key : ∀ t, t ≤ sN S → ∀ Z, (∀ i, Z.testBit i = true ↔ i < t ∧ Y.testBit i = true ∧ (m.1 17 0 i).toNatClampNeg < (m.1 17 0 s).toNatClampNeg) → (W2 xs (callW2 xs (d + 1)) tX2_nearerThan [4] (some .int) Q 4 [some (vR 16 0), some (vI (nI s)), some (vI (nI Z)), some (vI (nI t))] [] (m)) := by
    refine upto (sN S) ?_ ?_
    · intro Z hZ
      refine W2_st (bX2_nearerThan_4 m _ _ _ ?_)
      rw [rc_n hR, nI_leI (by omega) (by omega)]
      exact ⟨fun _ => hQ Z (sub_lt (fun i hi => ((hZ i).mp hi).1) h3) hZ, fun z => absurd (Nat.le_refl _) z⟩
    · intro t ht ih Z hZ
      obtain ⟨k, hk, ek⟩ := h17 t ht
      obtain ⟨k', hk', ek'⟩ := h17 s hs
      refine W2_st (bX2_nearerThan_4 m _ _ _ ?_)
      simp only [nI_add]
      rw [rc_n hR, nI_leI (by omega) (by omega), h9, nI_clamp (n := t) (by omega), nI_clamp (n := s) (by omega)]
      rw [ek'] at hZ ih
      rw [nI_clamp (n := k') (by omega)] at hZ ih
      have same : ¬ (Y.testBit t = true ∧ k < k') → (W2 xs (callW2 xs (d + 1)) tX2_nearerThan [4] (some .int) Q 4 [some (vR 16 0), some (vI (nI s)), some (vI (nI Z)), some (vI (nI (t + 1)))] [] (m)) := fun hn => ih Z (fun i => by
        rw [hZ i]
        by_cases e : i = t
        · subst e
          rw [ek, nI_clamp (n := k) (by omega)]
          exact ⟨fun z => by omega, fun z => absurd z.2 hn⟩
        · exact ⟨fun z => ⟨by omega, z.2⟩, fun z => ⟨by omega, z.2⟩⟩)
      refine ⟨fun z => by omega, fun _ => c_has (by omega) (by omega) ⟨_, rfl, ?_⟩⟩
      rw [bI_0, ndiff_bit, fullB_bit, decide_eq_true ht, Bool.true_and, ek, ek', nI_leI (by omega) (by omega), nI_or, one_shl (by omega), nI_or, Nat.or_zero]
      refine ⟨fun hy => same (fun z => by rw [z.1] at hy; exact hy rfl), fun hy => ⟨inb_nI (by omega) (by omega), inb_nI (by omega) (by omega), fun hl => same (fun z => by omega), fun hl => ih _ (fun i => ?_)⟩⟩
      have hy : Y.testBit t = true := by
        cases q : Y.testBit t with
        | true => rfl
        | false => rw [q] at hy; cases hy
      rw [Nat.testBit_or, two_bit, Bool.or_eq_true, hZ i, decide_eq_true_iff]
      by_cases e : i = t
      · subst e
        rw [ek, nI_clamp (n := k) (by omega)]
        exact ⟨fun _ => ⟨by omega, hy, by omega⟩, fun _ => Or.inr rfl⟩
      · constructor
        · intro z
          rcases z with z | z
          · exact ⟨by omega, z.2⟩
          · exact absurd z.symm e
        · intro z; exact Or.inl ⟨by omega, z.2⟩
  exact key 0 (Nat.zero_le _) 0 (fun i => by rw [Nat.zero_testBit]; exact ⟨fun z => (by cases z), fun z => by omega⟩)
theorem c_pick {s : Nat} (hR : RC m S) (hw : wf S) (hf : full S) (hs : s < sN S) (hA : 0 < sA S s) (hK : vK S X Y V D) (hV : ∀ t, t < sN S → m.2 15 0 t = lI (V t)) (hVb : ∀ t, (V t).natAbs ≤ 2 ^ 25) (h9 : m.1 7 0 9 = nI (ndiff (fullB (sN S)) Y)) (hst : stepsOK m S V) (hQ : ∀ r, choA S V s r → Q (some (vI r)) m) : callW2 xs (d + 4) 18 [vR 16 0, vI (nI s)] m Q := by
  have h3 := wf_n hw
  have hM := wf_m hw
  have hY := hK.2.1.1
  have hlo : ndiff (fullB (sN S)) Y < 1024 := sub_lt (fun i hi => by
    rw [ndiff_bit, Bool.and_eq_true, fullB_bit] at hi
    exact of_decide_eq_true hi.1) h3
  refine eX2_pick m _ (W2_st (bX2_pick_0 m _ ?_))
  rw [rc_m hR]
  refine c_has (by omega) (by omega) ⟨_, rfl, ?_⟩
  rw [bI_0, h9]
  refine ⟨fun hm => ?_, fun hm => hQ _ ⟨fun _ => rfl, fun z => absurd z hm⟩⟩
  have fin : ∀ N, N < 2 ^ 31 → (∀ a, a < sA S s → (someInS S (4 * s + a) N = true ∧ tig S V s a = true ↔ choP S V s a)) → (∃ a, a < sA S s ∧ choP S V s a) → callW2 xs (d + 3) 17 [vR 16 0, vI (nI s), vI (nI N)] m (fun r10 m11 => ∃ w12 : Int32, r10 = some (vI w12) ∧ Q (some (vI w12)) m11) := by
    intro N hN hiff hex
    refine c_tightInto hR hw hs hN hV hVb (fun hno => ?_) (fun a ha q1 q2 q3 => ⟨_, rfl, hQ _ ⟨fun z => (by rw [hm] at z; cases z), fun _ => ⟨a, ha, (hiff a ha).mp ⟨q1, q2⟩, fun b hb z => q3 b hb ((hiff b (by omega)).mpr z), rfl⟩⟩⟩)
    obtain ⟨a, ha, hc⟩ := hex
    exact absurd ((hiff a ha).mpr hc) (hno a ha)
  have any : ¬ (0 < V s ∧ foeS S s = false) → callW2 xs (d + 3) 65 [vR 1 0] m (fun r13 m14 => ∃ w15 : Int32, r13 = some (vI w15) ∧ callW2 xs (d + 3) 17 [vR 16 0, vI (nI s), vI w15] m14 (fun r16 m17 => ∃ w18 : Int32, r16 = some (vI w18) ∧ Q (some (vI w18)) m17)) := by
    intro hn
    refine c_everyone hR hw ⟨_, rfl, ?_⟩
    have hfl : fullB (sN S) < 1024 := sub_lt (fun i hi => by rw [fullB_bit] at hi; exact of_decide_eq_true hi) h3
    obtain ⟨a, ha, hc⟩ := tig_ex hw hf hK hs hm hA
    refine fin _ (by omega) (fun a ha => ⟨fun z => ⟨z.2, fun z1 z2 => absurd ⟨z1, z2⟩ hn⟩, fun z => ⟨?_, z.1⟩⟩) ⟨a, ha, hc, fun z1 z2 => absurd ⟨z1, z2⟩ hn⟩
    have hx := isA_s hw hs ha
    have hp := hf _ hx
    have ho : 0 < sO S (4 * s + a) := by
      rcases Nat.eq_zero_or_pos (sO S (4 * s + a)) with z | z
      · unfold partsS at hp; rw [z] at hp; have hp : (0 : Nat) = 12 := hp; omega
      · exact z
    exact anyU_iff.mpr ⟨0, ho, fullB_t (wf_t hw hx ho)⟩
  have near : 0 < V s → foeS S s = false → callW2 xs (d + 3) 19 [vR 16 0, vI (nI s)] m (fun r22 m23 => ∃ w24 : Int32, r22 = some (vI w24) ∧ callW2 xs (d + 3) 17 [vR 16 0, vI (nI s), vI w24] m23 (fun r25 m26 => ∃ w27 : Int32, r25 = some (vI w27) ∧ Q (some (vI w27)) m26)) := by
    intro hp hfo
    refine c_nearer hR hw hs hY h9 (fun t ht => ?_) (fun Z hZ hZb => ⟨_, rfl, ?_⟩)
    · rcases hst t ht with ⟨k, q1, q2, q3⟩ | ⟨q1, q2⟩
      · exact ⟨k, q1, q3⟩
      · exact ⟨0, by omega, q2⟩
    have get : ∀ t, t < sN S → 0 < V t → ∃ k, dst S V t k ∧ (m.1 17 0 t).toNatClampNeg = k := by
      intro t ht hpt
      rcases hst t ht with ⟨k, q1, q2, q3⟩ | ⟨q1, q2⟩
      · exact ⟨k, q2, by rw [q3, nI_clamp (by omega)]⟩
      · obtain ⟨k, hk⟩ := nt_all hw hf hK ht hpt
        rw [q1 k] at hk; cases hk
    obtain ⟨k', e1, e2⟩ := get s hs hp
    rw [e2] at hZb
    refine fin Z (by omega) (fun a ha => ?_) ?_
    · have hx := isA_s hw hs ha
      constructor
      · intro ⟨z1, z2⟩
        refine ⟨z2, fun _ _ => ?_⟩
        obtain ⟨o, ho, q⟩ := anyU_iff.mp z1
        obtain ⟨q1, q2, q3⟩ := (hZb _).mp q
        obtain ⟨k, f1, f2⟩ := get _ q1 ((vK_Y hK q1).mpr q2)
        exact ⟨o, k, k', ho, f1, e1, by omega⟩
      · intro z
        refine ⟨?_, z.1⟩
        obtain ⟨o, k, k2, ho, f1, f2, f3⟩ := z.2 hp hfo
        have ht := wf_t hw hx ho
        have hpt := nt_pos (s := s) hw hK k _ ht f1.1
        obtain ⟨k3, g1, g2⟩ := get _ ht hpt
        have := dst_uniq g1 f1
        have := dst_uniq e1 f2
        exact anyU_iff.mpr ⟨o, ho, (hZb _).mpr ⟨ht, (vK_Y hK ht).mp hpt, by omega⟩⟩
    · cases k' with
      | zero =>
        have := e1.1
        have this : (sM S).testBit s = true := this
        rw [hm] at this; cases this
      | succ k =>
        obtain ⟨a, o, ha, ht, ho, _, hd⟩ := dst_pred hw hs e1
        exact ⟨a, ha, ht, fun _ _ => ⟨o, k, k + 1, ho, hd, e1, by omega⟩⟩
  refine c_has (by omega) (by omega) ⟨_, rfl, ?_⟩
  rw [bI_0, ndiff_bit, fullB_bit, decide_eq_true hs, Bool.true_and]
  have hYs := vK_Y hK hs
  refine ⟨fun hy => ⟨fun z => absurd z (by decide), fun _ => any (fun z => hy (by rw [hYs.mp z.1]; rfl))⟩, fun hy => ?_⟩
  have hy : Y.testBit s = true := by
    cases q : Y.testBit s with
    | true => rfl
    | false => rw [q] at hy; cases hy
  refine c_isFoes hR hw hs ⟨_, rfl, ?_⟩
  rw [bI_0]
  exact ⟨fun hfo => ⟨fun _ => near (hYs.mpr hy) hfo, fun z => absurd rfl z⟩, fun hfo => ⟨fun z => absurd z (by decide), fun _ => any (fun z => hfo z.2)⟩⟩
end L99C
