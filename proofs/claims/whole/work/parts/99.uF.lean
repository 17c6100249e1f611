/-! THE GUIDE (6): the reference's distances (wip/whole/src/99.uF.src) -/
section L99F
variable {xs : Nat × (Nat → Int32)} {d : Nat} {Q : Option v2 → Mem → Prop} {m : Mem} {S : Sys} {V : Nat → Int} {D : Int} {X Y : Nat}
theorem vK_le1 (hw : wf S) (hf : full S) (h : vK S X Y V D) : ∀ s, s < sN S → V s ≤ D := by
  obtain ⟨hO, hG, ⟨w, hsd⟩, hp⟩ := h
  have hD := hsd.1
  have h1 := maxS (B := ndiff Y X) (c := w) hw hf hsd.2.1 (hsd.2.2.2.2.2.2.2 w hsd.2.1 (fun _ _ _ => rfl)) (y := fun s => 1 * V s - D * 1) (fun s hs hB => ?_) (fun s hB _ => ?_)
  · intro s hs
    have := h1 s hs
    have this : 1 * V s - D * 1 ≤ 0 := this
    omega
  · show 1 * V s - D * 1 ≤ 0
    cases hX : X.testBit s with
    | true => rw [hsd.2.2.1 s hs hX]; omega
    | false => rw [hsd.2.2.2.1 s hs hX hB]; omega
  · have hx := pol_a hw hsd.2.1 hB
    have e := meanS_lin (S := S) (4 * s + w s) 1 D V (fun _ => 1)
    have e2 : meanS S (4 * s + w s) (fun s => 1 * V s - D * 1) = 1 * meanS S (4 * s + w s) V - D * meanS S (4 * s + w s) (fun _ => 1) := e
    rw [e2, meanS_const, hf _ hx, ← hsd.2.2.2.2.2.1 s hB]
    show 12 * (1 * V s - D * 1) ≤ _
    omega
theorem valN_of (hw : wf S) (hf : full S) (h : vKb S X Y V D) (hm : ∀ s, s < sN S → ∃ u v, m.2 54 0 s = lI u ∧ m.2 55 0 s = lI v ∧ mmv S (ndiff Y X) X false s u v ∧ u.natAbs ≤ 2 ^ 25 ∧ v.natAbs ≤ 2 ^ 25) : valN m S (fun t => (V t).toNat) D.toNat := by
  have hD := vK_D h.1
  have hDb := h.2.2
  refine ⟨by omega, by omega, fun t ht => ?_⟩
  obtain ⟨u, v, q1, q2, q3, q4, q5⟩ := hm t ht
  have hnn := vK_nn h.1 t ht
  have hle := vK_le1 hw hf h.1 t ht
  obtain ⟨hO, hG, ⟨w, hsd⟩, hp⟩ := h.1
  obtain ⟨hBn, hd, hBf⟩ := open_facts hO hG
  have h5 := sad_mm hw hf hO.1.1 hd hsd ht q3
  have hv := q3.1
  have hg := q3.2.1
  have hu : 0 ≤ u := by
    rcases Int.lt_or_le u 0 with z | z
    · have z1 : u * D < 0 := Int.mul_neg_of_neg_of_pos z hD
      have z2 : 0 ≤ V t * v := Int.mul_nonneg hnn (Int.le_of_lt hv)
      omega
    · exact z
  refine ⟨by show (V t).toNat ≤ D.toNat; omega, u.toNat, v.toNat, by rw [q1, Int.toNat_of_nonneg hu], by rw [q2, Int.toNat_of_nonneg (by omega)], by omega, ?_, ?_, by omega, by omega⟩
  · rw [show u.toNat = u.natAbs by omega, show v.toNat = v.natAbs by omega]; exact hg
  · have : ((u.toNat * D.toNat : Nat) : Int) = (((V t).toNat * v.toNat : Nat) : Int) := by
      rw [Int.natCast_mul, Int.natCast_mul, Int.toNat_of_nonneg hu, Int.toNat_of_nonneg (by omega), Int.toNat_of_nonneg hnn, Int.toNat_of_nonneg (by omega)]
      exact h5
    exact Int.ofNat_inj.mp this
theorem meanS_N {W : Nat → Nat} {x : Nat} (hw : wf S) (hx : isA S x) (h : ∀ t, t < sN S → V t = (W t : Int)) : meanS S x V = ((meanN S W x (sO S x) : Nat) : Int) := by
  unfold meanS meanN
  rw [← sumI_nat]
  exact sumI_congr (fun o ho => by rw [h _ (wf_t hw hx ho), Int.natCast_mul])
theorem r_isJust {s a : Nat} (hR : RM m S) (hw : wf S) (hs : s < sN S) (ha : a < sA S s) (hnn : ∀ t, t < sN S → 0 ≤ V t) (hV : valN m S (fun t => (V t).toNat) D.toNat) (hQ : ∀ m', offL (tM 40) m m' → Q (some (vI (bI (tig S V s a)))) m') : callW2 xs (d + 3) 148 [vR 40 0, vI (nI s), vI (nI a)] m Q := by
  have h3 := wf_n hw
  have h4 := wf_a hw hs
  have hx := isA_s hw hs ha
  refine eX12_isJust m _ _ (W2_st (bX12_isJust_0 m _ _ ?_))
  rw [pk_mul, nI_add]
  refine r_findSum hR hw hx hV (fun m' u v g1 g2 g3 g4 g5 g6 g7 g8 => ⟨rfl, ?_⟩)
  obtain ⟨hD, hD2, hW⟩ := hV
  obtain ⟨_, u', v', v1, v2, v3, v4, v5, v6, v7⟩ := hW s hs
  have e54 : m'.2 54 0 s = lI (u' : Int) := by rw [(g1.1 54 0 (by unfold tM; omega)).2]; exact v1
  have e55 : m'.2 55 0 s = lI (v' : Int) := by rw [(g1.1 55 0 (by unfold tM; omega)).2]; exact v2
  rw [nI_clamp (n := s) (by omega), g2, g3, e54, e55, lg_cmp_eq, lg_cmp_eq, lI_eq (by omega) (by omega) (by omega) (by omega), lI_eq (by omega) (by omega) (by omega) (by omega)]
  have em := meanS_N (V := V) (W := fun t => (V t).toNat) hw hx (fun t ht => (Int.toNat_of_nonneg (hnn t ht)).symm)
  have iff : (u = u' ∧ v = v') ↔ tig S V s a = true := by
    unfold tig
    rw [decide_eq_true_iff, em, show (12 : Int) * V s = ((12 * (V s).toNat : Nat) : Int) by rw [Int.natCast_mul, Int.toNat_of_nonneg (hnn s hs)]; rfl, Int.ofNat_inj]
    generalize meanN S (fun t => (V t).toNat) (4 * s + a) (sO S (4 * s + a)) = M at g6 ⊢
    have v5 : u' * D.toNat = (V s).toNat * v' := v5
    constructor
    · intro ⟨z1, z2⟩
      subst z1 z2
      refine Nat.eq_of_mul_eq_mul_right g4 ?_
      rw [← g6, Nat.mul_assoc, ← v5]
      ac_rfl
    · intro z
      have l1 : low (u : Int) (v : Int) (M : Int) ((12 * D.toNat : Nat) : Int) := ⟨by omega, by rw [Int.natAbs_natCast, Int.natAbs_natCast]; exact g5, by rw [← Int.natCast_mul, ← Int.natCast_mul, g6]⟩
      have l2 : low (u' : Int) (v' : Int) (M : Int) ((12 * D.toNat : Nat) : Int) := ⟨by omega, by rw [Int.natAbs_natCast, Int.natAbs_natCast]; exact v4, by
        rw [← Int.natCast_mul, ← Int.natCast_mul, z]
        refine congrArg _ ?_
        calc u' * (12 * D.toNat) = 12 * (u' * D.toNat) := by ac_rfl
          _ = 12 * ((V s).toNat * v') := by rw [v5]
          _ = 12 * (V s).toNat * v' := by ac_rfl⟩
      obtain ⟨z1, z2⟩ := low_uniq (by omega) l1 l2
      exact ⟨by omega, by omega⟩
  have fin := hQ m' g1
  have is20 : inb (nI s) 20 := inb_nI (by omega) (by omega)
  have no : ¬ (u = u' ∧ v = v') → isB (nI 0) ∧ Q (some (vI (nI 0))) m' := fun z => ⟨isB0, by
    have e : tig S V s a = false := by
      cases q : tig S V s a with
      | false => rfl
      | true => exact absurd (iff.mpr q) z
    rw [e] at fin; exact fin⟩
  refine ⟨is20, fun z => no (fun y => z (by rw [y.1])), fun z => ⟨is20, fun y => no (fun q => y (by rw [q.2])), fun y => ⟨isB1, ?_⟩⟩⟩
  rw [iff.mp ⟨by omega, by omega⟩] at fin
  exact fin
theorem r_nearest {x : Nat} {F : Nat → Nat} (hR : RM m S) (hw : wf S) (hx : isA S x) (hF : ∀ t, t < sN S → m.1 58 0 t = nI (F t) ∧ F t ≤ 100) (hQ : ∀ k, k ≤ 100 → (∀ o, o < sO S x → k ≤ F (sT S x o)) → (k = 100 ∨ ∃ o, o < sO S x ∧ k = F (sT S x o)) → Q (some (vI (nI k))) m) : callW2 xs (d + 1) 149 [vR 40 0, vI (nI x)] m Q := by
  have h3 := wf_n hw
  have h40 := wf_40 hw hx
  have ho4 := wf_o hw hx
  refine eX12_nearest m _ (W2_st (bX12_nearest_0 m _ ?_))
  have key : ∀ o, o ≤ sO S x → ∀ k, k ≤ 100 → (∀ i, i < o → k ≤ F (sT S x i)) → (k = 100 ∨ ∃ i, i < sO S x ∧ k = F (sT S x i)) → (W2 xs (callW2 xs d) tX12_nearest [4] (some .int) Q 4 [some (vR 40 0), some (vI (nI x)), some (vI (nI k)), some (vI (nI o))] [] (m)) := by
    refine upto (sO S x) ?_ ?_
    · intro k g1 g2 g3
      refine W2_st (bX12_nearest_4 m _ _ _ ?_)
      rw [nI_clamp (n := x) (by omega), rm_o hR hx, nI_leI (by omega) (by omega)]
      exact ⟨inb_nI (by omega) (by omega), fun _ => hQ k g1 g2 g3, fun z => absurd (Nat.le_refl _) z⟩
    · intro o ho ih k g1 g2 g3
      have ht := wf_t hw hx ho
      obtain ⟨f1, f2⟩ := hF _ ht
      refine W2_st (bX12_nearest_4 m _ _ _ ?_)
      simp only [pk_mul, nI_add]
      rw [nI_clamp (n := x) (by omega), rm_o hR hx, nI_leI (by omega) (by omega), nI_clamp (n := 4 * x + o) (by omega), rm_t hR hx ho, nI_clamp (n := sT S x o) (by omega), f1, nI_leI (by omega) (by omega)]
      have i1 : inb (nI (4 * x + o)) 160 := inb_nI (by omega) (by omega)
      have i2 : inb (nI (sT S x o)) 10 := inb_nI (by omega) (by omega)
      refine ⟨inb_nI (by omega) (by omega), fun z => by omega, fun _ => ⟨i1, i2, fun hl => ih k g1 (fun i hi => ?_) g3, fun hl => ⟨i1, i2, ih (F (sT S x o)) f2 (fun i hi => ?_) (Or.inr ⟨o, ho, rfl⟩)⟩⟩⟩
      · by_cases e : i = o
        · rw [e]; exact hl
        · exact g2 i (by omega)
      · by_cases e : i = o
        · rw [e]; exact Nat.le_refl _
        · have := g2 i (by omega); omega
  exact key 0 (Nat.zero_le _) 100 (by omega) (fun i hi => absurd hi (Nat.not_lt_zero _)) (Or.inl rfl)
def tFD : Nat → Nat → Prop := fun t j => (t = 40 ∨ t = 58) ∧ j = 0
def fdM (m mc : Mem) : Prop := off tFD m mc ∧ mc.1 40 0 = m.1 40 0
theorem fdM_rfl (m : Mem) : fdM m m := ⟨off_rfl _ _, rfl⟩
theorem fdM_trans {a b c : Mem} (h : fdM a b) (h2 : fdM b c) : fdM a c := ⟨off_trans h.1 h2.1, h2.2.trans h.2⟩
theorem fdM_40 {a b : Mem} (h : offL (tM 40) a b) : fdM a b := ⟨off_sub h.1 (fun t j z => ⟨Or.inl z.1, z.2⟩), by rw [h.2]⟩
theorem fdM_58 {a b : Mem} (h : fdM a b) (k : Nat) (v : Int32) : fdM a (mI b 58 0 k v) := ⟨off_I h.1 _ _ ⟨Or.inr rfl, rfl⟩, by rw [← h.2]; funext i; rw [mI_r, if_neg (by omega)]⟩
theorem RM_fd {m' : Mem} (h : fdM m m') (hR : RM m S) : RM m' S := by
  unfold RM RMa at hR ⊢
  rw [h.2, (h.1 41 0 (by unfold tFD; omega)).1, (h.1 42 0 (by unfold tFD; omega)).1, (h.1 43 0 (by unfold tFD; omega)).1, (h.1 44 0 (by unfold tFD; omega)).1, (h.1 45 0 (by unfold tFD; omega)).1, (h.1 46 0 (by unfold tFD; omega)).1]
  exact hR
theorem valN_fd {m' : Mem} {W : Nat → Nat} {D : Nat} (h : fdM m m') (hV : valN m S W D) : valN m' S W D := by
  unfold valN at hV ⊢
  rw [(h.1 54 0 (by unfold tFD; omega)).2, (h.1 55 0 (by unfold tFD; omega)).2]
  exact hV
def farOK (m : Mem) (S : Sys) (V : Nat → Int) : Prop := ∀ s, s < sN S → (∃ k, k ≤ 9 ∧ dst S V s k ∧ m.1 58 0 s = nI k) ∨ ((∀ r, nt S V r s = false) ∧ m.1 58 0 s = nI 100)
/-- what is known of far[] all the while -/
def farI (mc : Mem) (S : Sys) (V : Nat → Int) (F : Nat → Nat) (r : Nat) : Prop := ∀ t, t < sN S → mc.1 58 0 t = nI (F t) ∧ F t ≤ 100 ∧ (F t = 100 ∨ nt S V (F t) t = true) ∧ ∀ k, k ≤ r → nt S V k t = true → F t ≤ k
theorem r_findDistances (hR : RM m S) (hw : wf S) (hK : vK S X Y V D) (hV : valN m S (fun t => (V t).toNat) D.toNat) (hQ : ∀ m', fdM m m' → farOK m' S V → Q none m') : callW2 xs (d + 4) 150 [vR 40 0] m Q := by
  have h3 := wf_n hw
  have hnn := vK_nn hK
  have rm : ∀ mc, fdM m mc → RM mc S := fun mc h => RM_fd h hR
  refine eX12_findDistances m (W2_st (bX12_findDistances_0 m ?_))
  have key21 : ∀ r, r ≤ 11 → ∀ F mc o2 o3 o4, fdM m mc → farI mc S V F r → (W2 xs (callW2 xs (d + 3)) tX12_findDistances [2, 21, 26, 32] none Q 21 [some (vR 40 0), some (vI (nI r)), (o2), (o3), (o4)] [] (mc)) := by
    refine upto 11 ?_ ?_
    · intro F mc o2 o3 o4 g1 g2
      refine W2_st (bX12_findDistances_21 mc _ _ _ _ ⟨fun _ => hQ mc g1 (fun s hs => ?_), fun z => absurd (by decide) z⟩)
      obtain ⟨q1, q2, q3, q4⟩ := g2 s hs
      by_cases hn : ∃ r, nt S V r s = true
      · obtain ⟨r, hr⟩ := hn
        obtain ⟨k, _, hk⟩ := dst_ex r hr
        have k9 := dst_n hw hs hk
        have l1 := q4 k (by omega) hk.1
        have e : F s = k := by
          rcases q3 with q3 | q3
          · omega
          · rcases Nat.lt_or_ge (F s) k with z | z
            · have := hk.2 _ z; rw [q3] at this; cases this
            · omega
        exact Or.inl ⟨k, by omega, hk, by rw [q1, e]⟩
      · refine Or.inr ⟨fun r => ?_, ?_⟩
        · cases q : nt S V r s with
          | false => rfl
          | true => exact absurd ⟨r, q⟩ hn
        · rcases q3 with q3 | q3
          · rw [q1, q3]
          · exact absurd ⟨_, q3⟩ hn
    · intro r hr ih F mc o2 o3 o4 g1 g2
      have key26 : ∀ s, s ≤ sN S → ∀ F mc o3 o4, fdM m mc → farI mc S V F r → (∀ t, t < s → ∀ k, k ≤ r + 1 → nt S V k t = true → F t ≤ k) → (W2 xs (callW2 xs (d + 3)) tX12_findDistances [2, 21, 26, 32] none Q 26 [some (vR 40 0), some (vI (nI r)), some (vI (nI s)), (o3), (o4)] [] (mc)) := by
        refine upto (sN S) ?_ ?_
        · intro F mc o3 o4 e1 e2 e3
          refine W2_st (bX12_findDistances_26 mc _ _ _ _ ?_)
          rw [rm_n (rm mc e1), nI_leI (by omega) (by omega), nI_add]
          exact ⟨fun _ => ih F mc _ _ _ e1 (fun t ht => ⟨(e2 t ht).1, (e2 t ht).2.1, (e2 t ht).2.2.1, e3 t ht⟩), fun z => absurd (Nat.le_refl _) z⟩
        · intro s hs ih2 F mc o3 o4 e1 e2 e3
          have h4 := wf_a hw hs
          have done : ∀ F mc o3 o4, fdM m mc → farI mc S V F r → (∀ t, t < s → ∀ k, k ≤ r + 1 → nt S V k t = true → F t ≤ k) → (∀ k, k ≤ r + 1 → nt S V k s = true → F s ≤ k) → (W2 xs (callW2 xs (d + 3)) tX12_findDistances [2, 21, 26, 32] none Q 26 [some (vR 40 0), some (vI (nI r)), some (vI (nI (s + 1))), (o3), (o4)] [] (mc)) := fun F mc o3 o4 e1 e2 e3 e4 => ih2 F mc o3 o4 e1 e2 (fun t ht => by
            by_cases e : t = s
            · rw [e]; exact e4
            · exact e3 t (by omega))
          have key32 : ∀ a, a ≤ sA S s → ∀ F mc o4, fdM m mc → farI mc S V F r → (∀ t, t < s → ∀ k, k ≤ r + 1 → nt S V k t = true → F t ≤ k) → (∀ b, b < a → tig S V s b = true → ∀ o k, o < sO S (4 * s + b) → k ≤ r → nt S V k (sT S (4 * s + b) o) = true → F s ≤ k + 1) → (W2 xs (callW2 xs (d + 3)) tX12_findDistances [2, 21, 26, 32] none Q 32 [some (vR 40 0), some (vI (nI r)), some (vI (nI s)), some (vI (nI a)), (o4)] [] (mc)) := by
            refine upto (sA S s) ?_ ?_
            · intro F mc o4 f1 f2 f3 f4
              refine W2_st (bX12_findDistances_32 mc _ _ _ _ ?_)
              simp only [nI_add]
              rw [nI_clamp (n := s) (by omega), rm_a (rm mc f1) hs, nI_leI (by omega) (by omega)]
              refine ⟨inb_nI (by omega) (by omega), fun _ => done F mc _ _ f1 f2 f3 (fun k hk hn => ?_), fun z => absurd (Nat.le_refl _) z⟩
              by_cases e : k ≤ r
              · exact (f2 s hs).2.2.2 k e hn
              · obtain ⟨k', rfl⟩ : ∃ k', k = k' + 1 := ⟨k - 1, by omega⟩
                rcases nt_inv hn with q | ⟨b, o, hb, q1, ho, q2⟩
                · have := (f2 s hs).2.2.2 k' (by omega) q; omega
                · exact f4 b hb q1 o k' ho (by omega) q2
            · intro a ha ih3 F mc o4 f1 f2 f3 f4
              have hx := isA_s hw hs ha
              obtain ⟨p1, p2, p3, p4⟩ := f2 s hs
              have hV1 := valN_fd f1 hV
              obtain ⟨hD, hD2, hW⟩ := hV1
              obtain ⟨_, u, v, v1, v2, v3, v4, v5, v6, v7⟩ := hW s hs
              have v5 : u * D.toNat = (V s).toNat * v := v5
              refine W2_st (bX12_findDistances_32 mc _ _ _ _ ?_)
              simp only [nI_add, pk_mul]
              rw [nI_clamp (n := s) (by omega), rm_a (rm mc f1) hs, nI_leI (by omega) (by omega), v1, lI_N, lg_cmp_le, lI_le (by omega) (by omega) (by omega) (by omega)]
              have i10 : inb (nI s) 10 := inb_nI (by omega) (by omega)
              refine ⟨i10, fun z => by omega, fun _ => ⟨inb_nI (by omega) (by omega), fun hu => ?_, fun hu => ?_⟩⟩
              · refine done F mc _ _ f1 f2 f3 (fun k hk hn => ?_)
                have hp := nt_pos (s := s) hw hK k s hs hn
                have u0 : u = 0 := by omega
                rw [u0, Nat.zero_mul] at v5
                have : 0 < (V s).toNat * v := Nat.mul_pos (by omega) v3
                omega
              refine r_isJust (rm mc f1) hw hs ha hnn ⟨hD, hD2, hW⟩ (fun m2 y1 => ⟨_, rfl, ?_⟩)
              have x1 : fdM m m2 := fdM_trans f1 (fdM_40 y1)
              have e58 : m2.1 58 0 = mc.1 58 0 := by rw [y1.2]
              have x2 : farI m2 S V F r := by unfold farI at f2 ⊢; rw [e58]; exact f2
              rw [bI_0, e58, p1, nI_leI (by omega) (by omega)]
              -- the cell written anew with what it holds
              have keep : ∀ m3, fdM m m3 → farI m3 S V F r → fdM m (mI m3 58 0 s (nI (F s))) ∧ farI (mI m3 58 0 s (nI (F s))) S V F r := fun m3 w1 w2 => ⟨fdM_58 w1 _ _, fun t ht => ⟨by
                rw [mI_r]
                by_cases e : t = s
                · rw [if_pos ⟨rfl, rfl, e⟩, e]
                · rw [if_neg (by omega)]; exact (w2 t ht).1, (w2 t ht).2⟩⟩
              refine ⟨fun hj => ⟨i10, fun _ => ⟨i10, i10, ?_⟩, fun z => absurd p2 z⟩, fun hj => ?_⟩
              · obtain ⟨w1, w2⟩ := keep m2 x1 x2
                refine ih3 F _ _ w1 w2 f3 (fun b hb q1 o k ho hk q2 => ?_)
                by_cases e : b = a
                · rw [e, hj] at q1; cases q1
                · exact f4 b (by omega) q1 o k ho hk q2
              · rw [Bool.not_eq_false] at hj
                refine r_nearest (rm m2 x1) hw hx (fun t ht => ⟨(x2 t ht).1, (x2 t ht).2.1⟩) (fun k0 z1 z2 z3 => ⟨_, rfl, i10, ?_⟩)
                rw [e58, p1, nI_add, nI_leI (by omega) (by omega)]
                have up : ∀ o k, o < sO S (4 * s + a) → k ≤ r → nt S V k (sT S (4 * s + a) o) = true → 1 + k0 ≤ k + 1 := fun o k ho hk q => by
                  have a1 := z2 o ho
                  have a2 := (f2 _ (wf_t hw hx ho)).2.2.2 k hk q
                  omega
                refine ⟨fun hl => ⟨i10, i10, ?_⟩, fun hl => ⟨i10, ?_⟩⟩
                · obtain ⟨w1, w2⟩ := keep m2 x1 x2
                  refine ih3 F _ _ w1 w2 f3 (fun b hb q1 o k ho hk q2 => ?_)
                  by_cases e : b = a
                  · subst e
                    have := up o k ho hk q2; omega
                  · exact f4 b (by omega) q1 o k ho hk q2
                · -- better
                  have hnew : nt S V (1 + k0) s = true := by
                    rcases z3 with z3 | ⟨o, ho, z3⟩
                    · omega
                    · rcases (f2 _ (wf_t hw hx ho)).2.2.1 with q | q
                      · omega
                      · rw [Nat.add_comm, z3]; exact nt_step ha hj ho q
                  refine ih3 (fun t => if t = s then 1 + k0 else F t) _ _ (fdM_58 x1 _ _) (fun t ht => ?_) (fun t ht k hk hn => ?_) (fun b hb q1 o k ho hk q2 => ?_)
                  · show (mI m2 58 0 s (nI (1 + k0))).1 58 0 t = nI (if t = s then 1 + k0 else F t) ∧ (if t = s then 1 + k0 else F t) ≤ 100 ∧ ((if t = s then 1 + k0 else F t) = 100 ∨ nt S V (if t = s then 1 + k0 else F t) t = true) ∧ ∀ k, k ≤ r → nt S V k t = true → (if t = s then 1 + k0 else F t) ≤ k
                    rw [mI_r]
                    by_cases e : t = s
                    · rw [if_pos ⟨rfl, rfl, e⟩, if_pos e, e]
                      exact ⟨rfl, by omega, Or.inr hnew, fun k hk hn => by have := p4 k hk hn; omega⟩
                    · rw [if_neg (by omega), if_neg e]
                      exact x2 t ht
                  · show (if t = s then 1 + k0 else F t) ≤ k
                    rw [if_neg (by omega)]; exact f3 t ht k hk hn
                  · show (if s = s then 1 + k0 else F s) ≤ k + 1
                    rw [if_pos rfl]
                    by_cases e : b = a
                    · subst e
                      exact up o k ho hk q2
                    · have := f4 b (by omega) q1 o k ho hk q2; omega
          refine W2_st (bX12_findDistances_26 mc _ _ _ _ ?_)
          rw [rm_n (rm mc e1), nI_leI (by omega) (by omega)]
          exact ⟨fun z => by omega, fun _ => key32 0 (Nat.zero_le _) F mc _ e1 e2 e3 (fun b hb => absurd hb (Nat.not_lt_zero _))⟩
      refine W2_st (bX12_findDistances_21 mc _ _ _ _ ?_)
      rw [nI_leI (by omega) (by omega)]
      exact ⟨fun z => by omega, fun _ => key26 0 (Nat.zero_le _) F mc _ _ g1 g2 (fun t ht => absurd ht (Nat.not_lt_zero _))⟩
  have key2 : ∀ s, s ≤ sN S → ∀ mc, fdM m mc → (∀ t, t < s → mc.1 58 0 t = nI (if (sM S).testBit t = true then 0 else 100)) → (W2 xs (callW2 xs (d + 3)) tX12_findDistances [2, 21, 26, 32] none Q 2 [some (vR 40 0), some (vI (nI s)), none, none, none] [] (mc)) := by
    refine upto (sN S) ?_ ?_
    · intro mc e1 e2
      refine W2_st (bX12_findDistances_2 mc _ ?_)
      rw [rm_n (rm mc e1), nI_leI (by omega) (by omega)]
      refine ⟨fun _ => key21 0 (by omega) (fun t => if (sM S).testBit t = true then 0 else 100) mc _ _ _ e1 (fun t ht => ⟨e2 t ht, ?_⟩), fun z => absurd (Nat.le_refl _) z⟩
      show (if (sM S).testBit t = true then 0 else 100) ≤ 100 ∧ ((if (sM S).testBit t = true then 0 else 100) = 100 ∨ nt S V (if (sM S).testBit t = true then 0 else 100) t = true) ∧ ∀ k, k ≤ 0 → nt S V k t = true → (if (sM S).testBit t = true then 0 else 100) ≤ k
      cases q : (sM S).testBit t with
      | true => exact ⟨by decide, Or.inr q, fun k _ _ => Nat.zero_le _⟩
      | false => exact ⟨by decide, Or.inl rfl, fun k hk hn => by
          rw [show k = 0 by omega] at hn
          have hn : (sM S).testBit t = true := hn
          rw [q] at hn; cases hn⟩
    · intro s hs ih mc e1 e2
      refine W2_st (bX12_findDistances_2 mc _ ?_)
      rw [rm_n (rm mc e1), nI_leI (by omega) (by omega), nI_add, nI_clamp (n := s) (by omega)]
      refine ⟨fun z => by omega, fun _ => r_isMarked (rm mc e1) hw (by omega) ⟨_, rfl, ?_⟩⟩
      rw [bI_0]
      have i10 : inb (nI s) 10 := inb_nI (by omega) (by omega)
      refine ⟨fun hm => ⟨i10, ih _ (fdM_58 e1 _ _) (fun t ht => ?_)⟩, fun hm => ⟨i10, ih _ (fdM_58 e1 _ _) (fun t ht => ?_)⟩⟩
      · rw [mI_r]
        by_cases e : t = s
        · rw [if_pos ⟨rfl, rfl, e⟩, e, if_neg (by rw [hm]; decide)]
        · rw [if_neg (by omega)]; exact e2 t (by omega)
      · rw [Bool.not_eq_false] at hm
        rw [mI_r]
        by_cases e : t = s
        · rw [if_pos ⟨rfl, rfl, e⟩, e, if_pos hm]
        · rw [if_neg (by omega)]; exact e2 t (by omega)
  exact key2 0 (Nat.zero_le _) m (fdM_rfl _) (fun t ht => absurd ht (Nat.not_lt_zero _))
end L99F
