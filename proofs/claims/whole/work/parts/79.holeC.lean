/-! CONTRACTS (27): the class's holes (wip/whole/src/79.holeC.src) -/
section L79
variable {xs : Nat × (Nat → Int32)} {d : Nat} {Q : Option v2 → Mem → Prop} {m : Mem} {S : Sys}
theorem RC_t {m' : Mem} {t0 : Nat} (h : offI (tM t0) m m') (ht : 6 < t0) (hw : wf S) (hR : RC m S) : RC m' S := RC_off h.1 (by unfold tM; omega) (by unfold tM; omega) (fun x _ => by unfold tM; omega) (fun x _ => by unfold tM; omega) (fun x _ => by unfold tM; omega) hw hR
/-- the first paths -/
def p0 (S : Sys) (f : Nat → Nat) (s : Nat) : Nat := if nextS S s (f s) = 0 then 0 else nextS S s (f s) ||| 2 ^ s
/-- paths once `by` has gone through 0 .. k - 1 -/
def wsh (S : Sys) (f : Nat → Nat) : Nat → Nat → Nat
  | 0, s => p0 S f s
  | k + 1, s => if (wsh S f k s).testBit k = true then wsh S f k s ||| wsh S f k k else wsh S f k s
theorem wsh_mono {f : Nat → Nat} {k : Nat} (s : Nat) : bsub (wsh S f k s) (wsh S f (k + 1) s) := by
  simp only [wsh]
  split
  · exact bsub_l _ _
  · exact bsub_rfl _
theorem wsh_p0 {f : Nat → Nat} : ∀ k s, bsub (p0 S f s) (wsh S f k s) := by
  intro k
  induction k with
  | zero => intro s; exact bsub_rfl _
  | succ k ih => intro s; exact bsub_trans (ih s) (wsh_mono s)
theorem wsh_row {f : Nat → Nat} (k : Nat) : wsh S f (k + 1) k = wsh S f k k := by
  simp only [wsh]
  split
  · exact bsub_anti (bsub_or (bsub_rfl _) (bsub_rfl _)) (bsub_l _ _)
  · rfl
theorem wsh_subn (hw : wf S) {f : Nat → Nat} : ∀ k s, k ≤ sN S → s < sN S → sub_n (wsh S f k s) (sN S) := by
  intro k
  induction k with
  | zero =>
    intro s _ hs
    simp only [wsh, p0]
    split
    · exact fun t ht => by rw [Nat.zero_testBit] at ht; cases ht
    · exact sub_n_or (next_sub hw hs _) (sub_n_two hs)
  | succ k ih =>
    intro s hk hs
    simp only [wsh]
    split
    · exact sub_n_or (ih s (by omega) hs) (ih k (by omega) (by omega))
    · exact ih s (by omega) hs
theorem wsh_sound (hw : wf S) {f : Nat → Nat} : ∀ k s t, k ≤ sN S → s < sN S → (wsh S f k s).testBit t = true → nextS S s (f s) ≠ 0 ∧ conn S f s t := by
  intro k
  induction k with
  | zero =>
    intro s t _ hs h
    simp only [wsh, p0] at h
    split at h
    · rw [Nat.zero_testBit] at h; cases h
    · rename_i hne
      refine ⟨hne, fun z hz hc => ?_⟩
      rw [Nat.testBit_or, Bool.or_eq_true, two_bit, decide_eq_true_iff] at h
      rcases h with q | q
      · exact hc s hs hz t q
      · rw [← q]; exact hz
  | succ k ih =>
    intro s t hk hs h
    simp only [wsh] at h
    split at h
    · rename_i hb
      have h1 := ih s k (by omega) hs hb
      rw [Nat.testBit_or, Bool.or_eq_true] at h
      rcases h with q | q
      · exact ih s t (by omega) hs q
      · exact ⟨h1.1, conn_trans h1.2 (ih k t (by omega) (by omega) q).2⟩
    · exact ih s t (by omega) hs h
theorem wsh_closed {f : Nat → Nat} : ∀ k s u, u < k → (wsh S f k s).testBit u = true → bsub (wsh S f k u) (wsh S f k s) := by
  intro k
  induction k with
  | zero => intro s u hu; omega
  | succ k ih =>
    intro s u hu h
    -- what row k has is in row s if row s has k
    have hk : (wsh S f k s).testBit k = true → bsub (wsh S f k k) (wsh S f (k + 1) s) := by
      intro hb
      simp only [wsh]
      rw [if_pos hb]
      exact bsub_r _ _
    have hup : ∀ u, (wsh S f k s).testBit u = true → u < k → bsub (wsh S f (k + 1) u) (wsh S f (k + 1) s) := by
      intro u h1 h2
      have h3 := ih s u h2 h1
      simp only [wsh]
      split
      · rename_i hb
        rw [if_pos (h3 k hb)]
        exact bsub_or (bsub_trans h3 (bsub_l _ _)) (bsub_r _ _)
      · exact bsub_trans h3 (wsh_mono s)
    have h' := h
    simp only [wsh] at h'
    by_cases hb : (wsh S f k s).testBit k = true
    · rw [if_pos hb, Nat.testBit_or, Bool.or_eq_true] at h'
      by_cases huk : u = k
      · subst huk
        rw [wsh_row]
        exact hk hb
      · rcases h' with q | q
        · exact hup u q (by omega)
        · have h3 := ih k u (by omega) q
          have h4 : bsub (wsh S f (k + 1) u) (wsh S f k k) := by
            simp only [wsh]
            split
            · exact bsub_or h3 (bsub_rfl _)
            · exact h3
          exact bsub_trans h4 (hk hb)
    · rw [if_neg hb] at h'
      by_cases huk : u = k
      · subst huk; exact absurd h' hb
      · exact hup u h' (by omega)
/-- all that is connected -/
theorem wsh_iff (hw : wf S) {f : Nat → Nat} {s t : Nat} (hs : s < sN S) : (wsh S f (sN S) s).testBit t = true ↔ nextS S s (f s) ≠ 0 ∧ conn S f s t := by
  constructor
  · exact wsh_sound hw (sN S) s t (Nat.le_refl _) hs
  · rintro ⟨hne, hc⟩
    have hss : (wsh S f (sN S) s).testBit s = true := by
      refine wsh_p0 _ _ s ?_
      unfold p0
      rw [if_neg hne]
      exact bsub_r _ _ s (two_self s)
    refine hc _ hss (fun u hu hz => ?_)
    have h1 := wsh_closed (S := S) (f := f) (sN S) s u hu hz
    refine bsub_trans (fun i hi => wsh_p0 (S := S) (f := f) (sN S) u i ?_) h1
    unfold p0
    split
    · rename_i h0; rw [h0, Nat.zero_testBit] at hi; cases hi
    · exact bsub_l _ _ i hi
theorem c_findPaths {f : Nat → Nat} (hR : RC m S) (hw : wf S) (hf : ∀ s, s < sN S → m.1 23 0 s = nI (f s)) (hQ : ∀ m', offI (tM 24) m m' → (∀ s, s < sN S → m'.1 24 0 s = nI (wsh S f (sN S) s)) → Q none m') : callW2 xs (d + 3) 22 [vR 22 0] m Q := by
  have h3 := wf_n hw
  refine eX3_findPaths m (W2_st (bX3_findPaths_0 m ?_))
  have war : ∀ k, k ≤ sN S → ∀ mc o2, offI (tM 24) m mc → (∀ s, s < sN S → mc.1 24 0 s = nI (wsh S f k s)) → (W2 xs (callW2 xs (d + 2)) tX3_findPaths [2, 33, 40] none Q 33 [some (vR 22 0), some (vI (nI k)), (o2)] [] (mc)) := by
    refine upto (sN S) ?_ ?_
    · intro mc o2 g1 g2
      refine W2_st (bX3_findPaths_33 mc _ _ ?_)
      rw [rc_n (RC_t g1 (by omega) hw hR), nI_leI (by omega) (by omega)]
      exact ⟨fun _ => hQ mc g1 g2, fun z => absurd (Nat.le_refl _) z⟩
    · intro k hk ih mc o2 g1 g2
      refine W2_st (bX3_findPaths_33 mc _ _ ?_)
      rw [rc_n (RC_t g1 (by omega) hw hR), nI_leI (by omega) (by omega)]
      refine ⟨fun z => by omega, fun _ => ?_⟩
      have inner : ∀ s, s ≤ sN S → ∀ mc, offI (tM 24) m mc → (∀ t, t < sN S → mc.1 24 0 t = nI (if t < s then wsh S f (k + 1) t else wsh S f k t)) → (W2 xs (callW2 xs (d + 2)) tX3_findPaths [2, 33, 40] none Q 40 [some (vR 22 0), some (vI (nI k)), some (vI (nI s))] [] (mc)) := by
        refine upto (sN S) ?_ ?_
        · intro mc g1 g2
          refine W2_st (bX3_findPaths_40 mc _ _ ?_)
          rw [rc_n (RC_t g1 (by omega) hw hR), nI_leI (by omega) (by omega), nI_add]
          exact ⟨fun _ => ih mc _ g1 (fun s hs => by rw [g2 s hs, if_pos hs]), fun z => absurd (Nat.le_refl _) z⟩
        · intro s hs ihs mc g1 g2
          have hs10 := sub_lt (wsh_subn hw (f := f) k s (by omega) hs) h3
          have es : mc.1 24 0 s = nI (wsh S f k s) := by rw [g2 s hs, if_neg (by omega)]
          have ek : mc.1 24 0 k = nI (wsh S f k k) := by
            rw [g2 k hk]
            split
            · rw [wsh_row]
            · rfl
          refine W2_st (bX3_findPaths_40 mc _ _ ?_)
          rw [rc_n (RC_t g1 (by omega) hw hR), nI_leI (by omega) (by omega), nI_clamp (n := s) (by omega), nI_clamp (n := k) (by omega), es]
          simp only [nI_add]
          refine ⟨fun z => by omega, fun _ => ⟨inb_nI (by omega) (by omega), inb_nI (by omega) (by omega), c_has (by omega) (by omega) ⟨_, rfl, ?_⟩⟩⟩
          rw [bI_0, ek, nI_or, nI_or, Nat.or_zero]
          have nxt : ∀ v, v = wsh S f (k + 1) s → (W2 xs (callW2 xs (d + 2)) tX3_findPaths [2, 33, 40] none Q 40 [some (vR 22 0), some (vI (nI k)), some (vI (nI (s + 1)))] [] (mI mc 24 0 s (nI v))) := by
            intro v hv
            refine ihs _ (offI_I g1 _ _ ⟨rfl, rfl⟩) (fun t ht => ?_)
            rw [mI_r]
            by_cases hts : t = s
            · rw [if_pos ⟨rfl, rfl, hts⟩, if_pos (by omega), hts, hv]
            · rw [if_neg (fun z => hts z.2.2), g2 t ht]
              congr 1
              by_cases hlt : t < s
              · rw [if_pos hlt, if_pos (by omega)]
              · rw [if_neg hlt, if_neg (by omega)]
          refine ⟨fun hb => ⟨inb_nI (by omega) (by omega), nxt _ ?_⟩, fun hb => ⟨inb_nI (by omega) (by omega), inb_nI (by omega) (by omega), nxt _ ?_⟩⟩
          · simp only [wsh]; rw [if_neg (by rw [hb]; simp)]
          · rw [Bool.not_eq_false] at hb; simp only [wsh]; rw [if_pos hb]
      exact inner 0 (Nat.zero_le _) mc g1 (fun t ht => by rw [if_neg (by omega)]; exact g2 t ht)
  have fst : ∀ s, s ≤ sN S → ∀ mc o2, offI (tM 24) m mc → (∀ t, t < s → mc.1 24 0 t = nI (p0 S f t)) → (W2 xs (callW2 xs (d + 2)) tX3_findPaths [2, 33, 40] none Q 2 [some (vR 22 0), some (vI (nI s)), (o2)] [] (mc)) := by
    refine upto (sN S) ?_ ?_
    · intro mc o2 g1 g2
      refine W2_st (bX3_findPaths_2 mc _ _ ?_)
      rw [rc_n (RC_t g1 (by omega) hw hR), nI_leI (by omega) (by omega)]
      exact ⟨fun _ => war 0 (Nat.zero_le _) mc _ g1 g2, fun z => absurd (Nat.le_refl _) z⟩
    · intro s hs ih mc o2 g1 g2
      have hR' := RC_t g1 (by omega) hw hR
      have e23 : mc.1 23 0 s = nI (f s) := by rw [(g1.1 23 0 (by unfold tM; omega)).1]; exact hf s hs
      have hn10 := sub_lt (next_sub hw hs (f s)) h3
      refine W2_st (bX3_findPaths_2 mc _ _ ?_)
      rw [rc_n hR', nI_leI (by omega) (by omega), nI_clamp (by omega), e23]
      simp only [nI_add]
      refine ⟨fun z => by omega, fun _ => ⟨inb_nI (by omega) (by omega), c_nextOf hR' hw hs ⟨_, rfl, ?_⟩⟩⟩
      rw [z_eq (by omega), one_shl (by omega), nI_or]
      have nxt : ∀ v o2, v = p0 S f s → (W2 xs (callW2 xs (d + 2)) tX3_findPaths [2, 33, 40] none Q 2 [some (vR 22 0), some (vI (nI (s + 1))), (o2)] [] (mI mc 24 0 s (nI v))) := by
        intro v o2 hv
        refine ih _ _ (offI_I g1 _ _ ⟨rfl, rfl⟩) (fun t ht => ?_)
        rw [mI_r]
        by_cases hts : t = s
        · rw [if_pos ⟨rfl, rfl, hts⟩, hts, hv]
        · rw [if_neg (fun z => hts z.2.2)]; exact g2 t (by omega)
      refine ⟨fun hne => ⟨inb_nI (by omega) (by omega), nxt _ _ ?_⟩, fun h0 => ⟨inb_nI (by omega) (by omega), nxt _ _ ?_⟩⟩
      · unfold p0; rw [if_neg hne]
      · unfold p0; rw [if_pos h0]
  exact fst 0 (Nat.zero_le _) m none (offI_rfl _ _) (fun t ht => by omega)
/-- home, narrowed -/
def nrw (S : Sys) (f p : Nat → Nat) (s : Nat) : Nat → Nat
  | 0 => f s &&& p s
  | t + 1 => if (p t).testBit s = true then nrw S f p s t else ndiff (nrw S f p s t) (2 ^ t)
theorem nrw_bit {f p : Nat → Nat} {s : Nat} : ∀ k u, (nrw S f p s k).testBit u = true ↔ (f s).testBit u = true ∧ (p s).testBit u = true ∧ (u < k → (p u).testBit s = true) := by
  intro k
  induction k with
  | zero =>
    intro u
    simp only [nrw]
    rw [Nat.testBit_and, Bool.and_eq_true]
    exact ⟨fun h => ⟨h.1, h.2, fun z => by omega⟩, fun h => ⟨h.1, h.2.1⟩⟩
  | succ k ih =>
    intro u
    simp only [nrw]
    split
    · rename_i hb
      rw [ih]
      refine ⟨fun h => ⟨h.1, h.2.1, fun z => ?_⟩, fun h => ⟨h.1, h.2.1, fun z => h.2.2 (by omega)⟩⟩
      by_cases huk : u = k
      · rw [huk]; exact hb
      · exact h.2.2 (by omega)
    · rename_i hb
      rw [ndiff_bit, Bool.and_eq_true, ih, two_bit, Bool.not_eq_true', decide_eq_false_iff_not]
      refine ⟨fun h => ⟨h.1.1, h.1.2.1, fun z => ?_⟩, fun h => ⟨⟨h.1, h.2.1, fun z => h.2.2 (by omega)⟩, fun e => ?_⟩⟩
      · have : u ≠ k := fun e => h.2 e.symm
        exact h.1.2.2 (by omega)
      · rw [← e] at h; exact hb (h.2.2 (by omega))
theorem nI_m1 (x : Int32) : x &&& (-1 : Int32) = x := by
  apply i_ext
  intro i hi
  rw [Int32.toBitVec_and, BitVec.getLsbD_and, m1_bit _ hi, Bool.and_true]
theorem c_narrow {f p : Nat → Nat} (hR : RC m S) (hw : wf S) (hf : ∀ s, s < sN S → m.1 23 0 s = nI (f s) ∧ f s < 1024) (hp : ∀ s, s < sN S → m.1 24 0 s = nI (p s) ∧ p s < 1024) (hQ : ∀ b m', offI (tM 23) m m' → (∀ s, s < sN S → m'.1 23 0 s = nI (nrw S f p s (sN S))) → (b = true ↔ ∃ s, s < sN S ∧ nrw S f p s (sN S) ≠ f s) → Q (some (vI (bI b))) m') : callW2 xs (d + 2) 23 [vR 22 0] m Q := by
  have h3 := wf_n hw
  have n10 : ∀ s k, s < sN S → nrw S f p s k < 1024 := by
    intro s k hs
    refine Nat.lt_of_le_of_lt (bsub_le (b := f s) (fun u hu => ((nrw_bit k u).mp hu).1)) (hf s hs).2
  refine eX3_narrow m (W2_st (bX3_narrow_0 m ?_))
  have key : ∀ s, s ≤ sN S → ∀ (b : Bool) mc o3 o4, offI (tM 23) m mc → (∀ t, t < sN S → mc.1 23 0 t = nI (if t < s then nrw S f p t (sN S) else f t)) → (b = true ↔ ∃ t, t < s ∧ nrw S f p t (sN S) ≠ f t) → (W2 xs (callW2 xs (d + 1)) tX3_narrow [4, 21] (some .boolean) Q 4 [some (vR 22 0), some (vI (bI b)), some (vI (nI s)), (o3), (o4)] [] (mc)) := by
    refine upto (sN S) ?_ ?_
    · intro b mc o3 o4 g1 g2 g3
      refine W2_st (bX3_narrow_4 mc _ _ _ _ ?_)
      rw [rc_n (RC_t g1 (by omega) hw hR), nI_leI (by omega) (by omega)]
      exact ⟨fun _ => ⟨(isB_bI _).mpr trivial, hQ b mc g1 (fun s hs => by rw [g2 s hs, if_pos hs]) g3⟩, fun z => absurd (Nat.le_refl _) z⟩
    · intro s hs ih b mc o3 o4 g1 g2 g3
      have hR' := RC_t g1 (by omega) hw hR
      have e23 : mc.1 23 0 s = nI (f s) := by rw [g2 s hs, if_neg (by omega)]
      have e24 : ∀ t, t < sN S → mc.1 24 0 t = nI (p t) := fun t ht => by rw [(g1.1 24 0 (by unfold tM; omega)).1]; exact (hp t ht).1
      refine W2_st (bX3_narrow_4 mc _ _ _ _ ?_)
      rw [rc_n hR', nI_leI (by omega) (by omega), nI_clamp (by omega), e23, e24 s hs, nI_and]
      refine ⟨fun z => by omega, fun _ => ⟨inb_nI (by omega) (by omega), inb_nI (by omega) (by omega), ?_⟩⟩
      refine upto (P := fun t => (W2 xs (callW2 xs (d + 1)) tX3_narrow [4, 21] (some .boolean) Q 21 [some (vR 22 0), some (vI (bI b)), some (vI (nI s)), some (vI (nI (nrw S f p s t))), some (vI (nI t))] [] (mc))) (sN S) ?_ ?_ 0 (Nat.zero_le _)
      · have hk10 := n10 s (sN S) hs
        have hf10 := (hf s hs).2
        refine W2_st (bX3_narrow_21 mc _ _ _ _ ?_)
        rw [rc_n hR', nI_leI (by omega) (by omega), nI_clamp (by omega), e23, nI_eq (by omega) (by omega), show nI 0 = bI false from rfl, show nI 1 = bI true from rfl, bI_or, bI_or]
        rw [show bI true = nI 1 from rfl, nI_add]
        have nxt : ∀ b' : Bool, (b' = true ↔ b = true ∨ nrw S f p s (sN S) ≠ f s) → ∀ o3 o4, (W2 xs (callW2 xs (d + 1)) tX3_narrow [4, 21] (some .boolean) Q 4 [some (vR 22 0), some (vI (bI b')), some (vI (nI (s + 1))), (o3), (o4)] [] (mI mc 23 0 s (nI (nrw S f p s (sN S))))) := by
          intro b' hb' o3 o4
          refine ih b' _ _ _ (offI_I g1 _ _ ⟨rfl, rfl⟩) (fun t ht => ?_) ?_
          · rw [mI_r]
            by_cases hts : t = s
            · rw [if_pos ⟨rfl, rfl, hts⟩, if_pos (by omega), hts]
            · rw [if_neg (fun z => hts z.2.2), g2 t ht]
              congr 1
              by_cases hlt : t < s
              · rw [if_pos hlt, if_pos (by omega)]
              · rw [if_neg hlt, if_neg (by omega)]
          · rw [hb', g3]
            constructor
            · rintro (⟨t, q1, q2⟩ | q)
              · exact ⟨t, by omega, q2⟩
              · exact ⟨s, by omega, q⟩
            · rintro ⟨t, q1, q2⟩
              by_cases hts : t = s
              · rw [hts] at q2; exact Or.inr q2
              · exact Or.inl ⟨t, by omega, q2⟩
        refine ⟨fun _ => ⟨inb_nI (by omega) (by omega), fun he => ⟨inb_nI (by omega) (by omega), nxt _ ?_ _ _⟩, fun hne => ⟨inb_nI (by omega) (by omega), nxt _ ?_ _ _⟩⟩, fun z => absurd (Nat.le_refl _) z⟩
        · rw [Bool.or_false]
          exact ⟨fun z => Or.inl z, fun z => z.resolve_right (fun y => y he)⟩
        · rw [Bool.or_true]
          exact ⟨fun _ => Or.inr hne, fun _ => rfl⟩
      · intro t ht iht
        have ht10 := (hp t ht).2
        refine W2_st (bX3_narrow_21 mc _ _ _ _ ?_)
        rw [rc_n hR', nI_leI (by omega) (by omega), nI_clamp (n := t) (by omega), e24 t ht, nI_m1, one_shl (by omega), nI_diff]
        simp only [nI_add]
        refine ⟨fun z => by omega, fun _ => ⟨inb_nI (by omega) (by omega), c_has (by omega) (by omega) ⟨_, rfl, ?_⟩⟩⟩
        rw [bI_0]
        simp only [nrw] at iht
        refine ⟨fun hb => ?_, fun hb => ?_⟩
        · rw [if_neg (by rw [hb]; simp)] at iht; exact iht
        · rw [Bool.not_eq_false] at hb; rw [if_pos hb] at iht; exact iht
  exact key 0 (Nat.zero_le _) false m none none (offI_rfl _ _) (fun t ht => by rw [if_neg (by omega)]; exact (hf t ht).1) ⟨fun z => (by cases z), fun ⟨t, q, _⟩ => (by omega)⟩
theorem gcond_iff {f : Nat → Nat} {s : Nat} : f s &&& (2 ^ s - 1) = 0 ↔ allU (fun t => ! (f s).testBit t) s = true := by
  rw [allU_iff]
  constructor
  · intro h t ht
    have := congrArg (fun z => z.testBit t) h
    simp only [Nat.testBit_and, Nat.zero_testBit, Nat.testBit_two_pow_sub_one, decide_eq_true ht, Bool.and_true] at this
    rw [this]; rfl
  · intro h
    apply Nat.eq_of_testBit_eq
    intro t
    rw [Nat.testBit_and, Nat.zero_testBit, Nat.testBit_two_pow_sub_one]
    by_cases ht : t < s
    · have := h t ht
      rw [Bool.not_eq_true'] at this
      rw [this]; rfl
    · rw [decide_eq_false ht, Bool.and_false]
theorem c_gather {f : Nat → Nat} (hR : RC m S) (hw : wf S) (hf : ∀ s, s < sN S → m.1 23 0 s = nI (f s) ∧ f s < 1024) (hQ : ∀ m', offI (fun t j => (t = 22 ∨ t = 25) ∧ j = 0) m m' → (∀ k, k ≠ 5 → m'.1 22 0 k = m.1 22 0 k) → m'.1 22 0 5 = nI (gcnt f (sN S)) → (∀ s, s < sN S → gcond f s = true → m'.1 25 0 (gcnt f s) = nI (f s)) → Q none m') : callW2 xs (d + 1) 24 [vR 22 0] m Q := by
  have h3 := wf_n hw
  refine eX3_gather m (W2_st (bX3_gather_0 m ?_))
  have key : ∀ s, s ≤ sN S → ∀ mc o2, offI (fun t j => (t = 22 ∨ t = 25) ∧ j = 0) m mc → (∀ k, k ≠ 5 → mc.1 22 0 k = m.1 22 0 k) → mc.1 22 0 5 = nI (gcnt f s) → (∀ t, t < s → gcond f t = true → mc.1 25 0 (gcnt f t) = nI (f t)) → (W2 xs (callW2 xs d) tX3_gather [5] none Q 5 [some (vR 22 0), some (vI (nI s)), (o2)] [] (mc)) := by
    refine upto (sN S) ?_ ?_
    · intro mc o2 g1 g2 g3 g4
      have hR' : RC mc S := RC_off g1.1 (by omega) (by omega) (fun x _ => by omega) (fun x _ => by omega) (fun x _ => by omega) hw hR
      refine W2_st (bX3_gather_5 mc _ _ ?_)
      rw [rc_n hR', nI_leI (by omega) (by omega)]
      exact ⟨fun _ => hQ mc g1 g2 g3 g4, fun z => absurd (Nat.le_refl _) z⟩
    · intro s hs ih mc o2 g1 g2 g3 g4
      have hR' : RC mc S := RC_off g1.1 (by omega) (by omega) (fun x _ => by omega) (fun x _ => by omega) (fun x _ => by omega) hw hR
      have e23 : mc.1 23 0 s = nI (f s) := by rw [(g1.1 23 0 (by omega)).1]; exact (hf s hs).1
      have hf10 := (hf s hs).2
      have hgk := gcnt_le f s
      have ha10 : f s &&& (2 ^ s - 1) < 1024 := and_lt hf10
      refine W2_st (bX3_gather_5 mc _ _ ?_)
      rw [rc_n hR', nI_leI (by omega) (by omega), nI_clamp (by omega), e23, mask_n (by omega), nI_and, z_eq (by omega), z_eq (by omega), gcond_iff, g3, nI_clamp (by omega)]
      have e5 : (mI mc 25 0 (gcnt f s) (nI (f s))).1 22 0 5 = nI (gcnt f s) := by rw [mI_r, if_neg (by omega)]; exact g3
      rw [e5]
      simp only [nI_add, nI_00, nI_10, not_true_eq_false, not_false_eq_true, imp_false0, true_imp, false_imp, and_true, true_and]
      have no : gcond f s = false → ∀ o2, (W2 xs (callW2 xs d) tX3_gather [5] none Q 5 [some (vR 22 0), some (vI (nI (s + 1))), (o2)] [] (mc)) := by
        intro hc o2
        refine ih mc o2 g1 g2 (by rw [gcnt_s, hc]; exact g3) (fun t ht hct => ?_)
        by_cases hts : t = s
        · rw [hts, hc] at hct; cases hct
        · exact g4 t (by omega) hct
      have ib : inb (nI s) 10 := inb_nI (by omega) (by omega)
      refine ⟨fun z => by omega, fun _ => ⟨ib, fun hl => ⟨ib, fun h0 => no ?_ _, fun h0 => no ?_ _⟩, fun hl => ⟨ib, fun h0 => no ?_ _, fun h0 => ⟨ib, inb_nI (by omega) (by omega), ?_⟩⟩⟩⟩
      · unfold gcond; rw [h0]; rfl
      · unfold gcond; rw [Bool.not_eq_true] at hl; rw [hl, Bool.and_false]
      · unfold gcond; rw [h0]; rfl
      · have hc : gcond f s = true := by unfold gcond; rw [hl, decide_eq_true h0]; rfl
        refine ih _ _ (offI_I (offI_I g1 _ _ ⟨Or.inr rfl, rfl⟩) _ _ ⟨Or.inl rfl, rfl⟩) (fun k hk => by rw [mI_r, if_neg (by omega), mI_r, if_neg (by omega)]; exact g2 k hk) (by rw [mI_r, if_pos ⟨rfl, rfl, rfl⟩, gcnt_s, hc]; rfl) (fun t ht hct => ?_)
        rw [mI_r, if_neg (by omega), mI_r]
        by_cases hts : t = s
        · rw [hts, if_pos ⟨rfl, rfl, rfl⟩]
        · have := gcnt_lt (f := f) (show t < s by omega) hct
          rw [if_neg (by omega)]
          exact g4 t (by omega) hct
  exact key 0 (Nat.zero_le _) _ none (offI_I (offI_rfl _ _) _ _ ⟨Or.inl rfl, rfl⟩) (fun k hk => by rw [mI_r, if_neg (by omega)]) (by rw [mI_r, if_pos ⟨rfl, rfl, rfl⟩]; rfl) (fun t ht => by omega)
def tHo : Nat → Nat → Prop := fun t j => (t = 22 ∨ t = 23 ∨ t = 24 ∨ t = 25) ∧ j = 0
/-- what Holes has found -/
def holesOK (m : Mem) (S : Sys) : Prop := ∃ f : Nat → Nat, (∀ s, s < sN S → isMec S s (f s) ∧ f s < 1024) ∧ m.1 22 0 5 = nI (gcnt f (sN S)) ∧ ∀ s, s < sN S → gcond f s = true → m.1 25 0 (gcnt f s) = nI (f s)
theorem next_ne (hw : wf S) (hfl : full S) {s b : Nat} (hs : s < sN S) : nextS S s b ≠ 0 ↔ ∃ a, a < sA S s ∧ allInS S (4 * s + a) b = true := by
  constructor
  · intro h
    apply Classical.byContradiction
    intro hn
    refine h (bsub_anti (orU_sub.mpr (fun a ha => ?_)) (bsub_0 _))
    rw [if_neg (fun z => hn ⟨a, ha, z⟩)]
    exact bsub_0 _
  · rintro ⟨a, ha, e⟩ h0
    have hx := isA_mk hs ha (by have := wf_a hw hs; omega)
    have hp := hfl _ hx
    have ho : 0 < sO S (4 * s + a) := by
      rcases Nat.eq_zero_or_pos (sO S (4 * s + a)) with q | q
      · unfold partsS at hp; rw [q] at hp; simp [sumU] at hp
      · exact q
    have h1 := orU_sub.mp (bsub_rfl (nextS S s b)) a ha
    rw [if_pos e, h0] at h1
    have h2 := h1 (sT S (4 * s + a) 0) (by rw [goes_bit]; exact anyU_iff.mpr ⟨0, ho, by simp⟩)
    rw [Nat.zero_testBit] at h2
    cases h2
theorem c_holesN (hR : RC m S) (hw : wf S) (hfl : full S) (hv : m.1 22 0 3 ≠ m.1 1 0 2) (hQ : ∀ m', offI tHo m m' → m'.1 22 0 3 = m.1 1 0 2 → holesOK m' S → Q none m') : callW2 xs (d + 4) 21 [vR 22 0] m Q := by
  have h3 := wf_n hw
  have hF := fullB_lt h3
  refine eX3_settle m (W2_st (bX3_settle_0 m ⟨fun _ => ?_, fun z => absurd z hv⟩))
  have rc : ∀ mc, offI tHo m mc → RC mc S := fun mc h => RC_off h.1 (by unfold tHo; omega) (by unfold tHo; omega) (fun x _ => by unfold tHo; omega) (fun x _ => by unfold tHo; omega) (fun x _ => by unfold tHo; omega) hw hR
  have T0 : offI tHo m (mI m 22 0 3 (m.1 1 0 2)) := offI_I (offI_rfl _ _) _ _ ⟨Or.inl rfl, rfl⟩
  refine c_everyone (rc _ T0) hw ⟨_, rfl, c_fill23 _ (fun m5 f1 f2 => ⟨rfl, ?_⟩)⟩
  have last : ∀ (f : Nat → Nat) mc, offI tHo m mc → mc.1 22 0 3 = m.1 1 0 2 → (∀ s, s < sN S → mc.1 23 0 s = nI (f s) ∧ f s < 1024) → (∀ s, s < sN S → isMec S s (f s)) → callW2 xs (d + 3) 24 [vR 22 0] mc (fun r1 m2 => r1 = none ∧ Q none m2) := by
    intro f mc g1 g2 g3 g4
    refine c_gather (rc mc g1) hw g3 (fun m' e1 e2 e3 e4 => ⟨rfl, hQ m' (offI_trans g1 (offI_sub e1 (fun t j z => ⟨by have := z.1; omega, z.2⟩))) ((e2 3 (by omega)).trans g2) ⟨f, fun s hs => ⟨g4 s hs, (g3 s hs).2⟩, e3, e4⟩⟩)
  have key : ∀ N (f : Nat → Nat) r mc, sumU f (sN S) ≤ N → r + N < 20000 → offI tHo m mc → mc.1 22 0 3 = m.1 1 0 2 → (∀ s, s < sN S → mc.1 23 0 s = nI (f s) ∧ f s < 1024) → (∀ s, s < sN S → sub_n (f s) (sN S)) → (∀ H s, ec S H → H.testBit s = true → bsub H (f s)) → (∀ s t, s < sN S → (f s).testBit t = true → f t = f s ∧ (f s).testBit s = true) → (W2 xs (callW2 xs (d + 3)) tX3_settle [22] none Q 22 [some (vR 22 0), some (vI (nI 1)), some (vI (nI r))] [] (mc)) := by
    intro N
    induction N using Nat.strongRecOn with
    | _ N ihN =>
      intro f r mc hN hr g1 g2 g3 g4 g5 g6
      refine W2_st (bX3_settle_22 mc _ _ ?_)
      rw [nI_leI (by omega) (by omega)]
      simp only [nI_add]
      refine ⟨fun z => by omega, fun _ => ⟨fun z => absurd z (by decide), fun _ => ?_⟩⟩
      refine c_findPaths (rc mc g1) hw (fun s hs => (g3 s hs).1) (fun m6 e1 e2 => ⟨rfl, ?_⟩)
      have T6 : offI tHo m m6 := offI_trans g1 (offI_sub e1 (fun t j z => ⟨by have := z.1; omega, z.2⟩))
      have p10 : ∀ s, s < sN S → wsh S f (sN S) s < 1024 := fun s hs => sub_lt (wsh_subn hw (sN S) s (Nat.le_refl _) hs) h3
      refine c_narrow (f := f) (p := fun s => wsh S f (sN S) s) (rc m6 T6) hw (fun s hs => by rw [(e1.1 23 0 (by unfold tM; omega)).1]; exact g3 s hs) (fun s hs => ⟨e2 s hs, p10 s hs⟩) (fun b m8 e3 e4 e5 => ⟨_, rfl, ?_⟩)
      have T8 : offI tHo m m8 := offI_trans T6 (offI_sub e3 (fun t j z => ⟨by have := z.1; omega, z.2⟩))
      have v8 : m8.1 22 0 3 = m.1 1 0 2 := by rw [(e3.1 22 0 (by unfold tM; omega)).1, (e1.1 22 0 (by unfold tM; omega)).1]; exact g2
      -- the new homes
      have hb : ∀ s u, s < sN S → ((nrw S f (fun s => wsh S f (sN S) s) s (sN S)).testBit u = true ↔ (f s).testBit u = true ∧ nextS S s (f s) ≠ 0 ∧ conn S f s u ∧ nextS S u (f u) ≠ 0 ∧ conn S f u s) := by
        intro s u hs
        rw [nrw_bit, wsh_iff hw hs]
        constructor
        · rintro ⟨q1, q2, q3⟩
          have hu := g4 s hs u q1
          have := (wsh_iff hw hu).mp (q3 hu)
          exact ⟨q1, q2.1, q2.2, this.1, this.2⟩
        · rintro ⟨q1, q2, q3, q4, q5⟩
          exact ⟨q1, ⟨q2, q3⟩, fun hu => (wsh_iff hw hu).mpr ⟨q4, q5⟩⟩
      have hsub : ∀ s, s < sN S → bsub (nrw S f (fun s => wsh S f (sN S) s) s (sN S)) (f s) := fun s hs u hu => ((hb s u hs).mp hu).1
      cases b with
      | true =>
        obtain ⟨s1, hs1, hne1⟩ := e5.mp rfl
        have hlt : sumU (fun s => nrw S f (fun s => wsh S f (sN S) s) s (sN S)) (sN S) < sumU f (sN S) := sumU_lt (fun s hs => bsub_le (hsub s hs)) hs1 (Nat.lt_of_le_of_ne (bsub_le (hsub s1 hs1)) hne1)
        refine ihN (sumU (fun s => nrw S f (fun s => wsh S f (sN S) s) s (sN S)) (sN S)) (by omega) (fun s => nrw S f (fun s => wsh S f (sN S) s) s (sN S)) (r + 1) m8 (Nat.le_refl _) (by omega) T8 v8 (fun s hs => ⟨e4 s hs, Nat.lt_of_le_of_lt (bsub_le (hsub s hs)) (g3 s hs).2⟩) (fun s hs => sub_n_of (hsub s hs) (g4 s hs)) (fun H s hH hHs => ?_) (fun s t hs ht => ?_)
        · intro u hu
          have hsn := hH.1 s hHs
          have hun := hH.1 u hu
          have mono : ∀ v, v < sN S → H.testBit v = true → bsub H (f v) := fun v _ hv => g5 H v hH hv
          -- connections in H are connections by homes
          have cc : ∀ a b, H.testBit a = true → H.testBit b = true → conn S f a b := by
            intro a b ha hb2 z hz hcl
            obtain ⟨z2, hz2⟩ := bits_ex (fun v => z.testBit v = true ∧ H.testBit v = true) (sN S)
            have h9 := hH.2.2.2 a b ha hb2 z2 ((hz2 a).mpr ⟨hH.1 a ha, hz, ha⟩) (fun v hv hzv => ?_)
            · exact ((hz2 b).mp h9).2.1
            · have hv2 := ((hz2 v).mp hzv).2
              intro q hq
              have hq1 : bsub (nextS S v H) (nextS S v (f v)) := next_mono (mono v hv hv2.2)
              have hqH : H.testBit q = true := by
                have : bsub (nextS S v H) H := orU_sub.mpr (fun a ha => by
                  split
                  · rename_i hA
                    intro i hi
                    rw [goes_bit] at hi
                    obtain ⟨o, ho, e⟩ := anyU_iff.mp hi
                    have := allU_iff.mp hA o ho
                    rw [of_decide_eq_true e] at this
                    exact this
                  · exact bsub_0 _)
                exact this q hq
              exact (hz2 q).mpr ⟨hH.1 q hqH, hcl v hv hv2.1 q (hq1 q hq), hqH⟩
          have live : ∀ v, H.testBit v = true → nextS S v (f v) ≠ 0 := by
            intro v hv
            obtain ⟨a, ha, e⟩ := hH.2.2.1 v hv
            exact (next_ne hw hfl (hH.1 v hv)).mpr ⟨a, ha, allIn_mono (g5 H v hH hv) e⟩
          exact (hb s u hsn).mpr ⟨g5 H s hH hHs u hu, live s hHs, cc s u hHs hu, live u hu, cc u s hu hHs⟩
        · have h1 := (hb s t hs).mp ht
          have htn := g4 s hs t h1.1
          have h6 := g6 s t hs h1.1
          have hss : (nrw S f (fun s => wsh S f (sN S) s) s (sN S)).testBit s = true := (hb s s hs).mpr ⟨h6.2, h1.2.1, conn_rfl _ _, h1.2.1, conn_rfl _ _⟩
          refine ⟨?_, hss⟩
          apply bsub_anti
          · intro u hu
            have h2 := (hb t u htn).mp hu
            rw [h6.1] at h2
            exact (hb s u hs).mpr ⟨h2.1, h1.2.1, conn_trans h1.2.2.1 h2.2.2.1, h2.2.2.2.1, conn_trans h2.2.2.2.2 h1.2.2.2.2⟩
          · intro u hu
            have h2 := (hb s u hs).mp hu
            refine (hb t u htn).mpr ⟨by rw [h6.1]; exact h2.1, h1.2.2.2.1, conn_trans h1.2.2.2.2 h2.2.2.1, h2.2.2.2.1, conn_trans h2.2.2.2.2 h1.2.2.1⟩
      | false =>
        have hfix : ∀ s, s < sN S → nrw S f (fun s => wsh S f (sN S) s) s (sN S) = f s := fun s hs => Classical.byContradiction (fun z => by have := e5.mpr ⟨s, hs, z⟩; cases this)
        refine W2_st (bX3_settle_22 m8 _ _ ?_)
        rw [nI_leI (by omega) (by omega)]
        refine ⟨fun z => by omega, fun _ => ⟨fun _ => ?_, fun z => absurd rfl z⟩⟩
        refine last f m8 T8 v8 (fun s hs => ⟨by rw [e4 s hs, hfix s hs], (g3 s hs).2⟩) (fun s hs => ?_)
        by_cases h0 : f s = 0
        · refine Or.inl ⟨h0, fun H' k1 => ?_⟩
          cases q : H'.testBit s with
          | false => rfl
          | true =>
            have := g5 H' s k1 q s q
            rw [h0, Nat.zero_testBit] at this
            cases this
        · -- some state is in it, so s is
          have hss : (f s).testBit s = true := by
            apply Classical.byContradiction
            intro hn
            refine h0 (bsub_anti (fun u hu => absurd (g6 s u hs hu).2 hn) (bsub_0 _))
          have hm : ∀ u, (f s).testBit u = true → u < sN S ∧ f u = f s ∧ nextS S u (f u) ≠ 0 := by
            intro u hu
            have hun := g4 s hs u hu
            have h6 := g6 s u hs hu
            have h7 : (f u).testBit u = true := by rw [h6.1]; exact hu
            rw [← hfix u hun] at h7
            exact ⟨hun, h6.1, ((hb u u hun).mp h7).2.1⟩
          refine Or.inr ⟨⟨g4 s hs, ⟨s, hss⟩, fun u hu => ?_, fun a b ha hb2 => ?_⟩, hss, fun H' k1 k2 => g5 H' s k1 k2⟩
          · obtain ⟨hun, hfu, hl⟩ := hm u hu
            rw [hfu] at hl
            exact (next_ne hw hfl hun).mp hl
          · obtain ⟨han, hfa, _⟩ := hm a ha
            have h8 : (f a).testBit b = true := by rw [hfa]; exact hb2
            rw [← hfix a han] at h8
            have hc := ((hb a b han).mp h8).2.2.1
            intro z hz hcl
            obtain ⟨z2, hz2⟩ := bits_ex (fun v => z.testBit v = true ∧ (f s).testBit v = true) (sN S)
            have h9 := hc z2 ((hz2 a).mpr ⟨han, hz, ha⟩) (fun v hv hzv => ?_)
            · exact ((hz2 b).mp h9).2.1
            · have hv2 := ((hz2 v).mp hzv).2
              obtain ⟨_, hfv, _⟩ := hm v hv2.2
              rw [hfv]
              intro q hq
              have hqH : (f s).testBit q = true := by
                have : bsub (nextS S v (f s)) (f s) := orU_sub.mpr (fun a ha => by
                  split
                  · rename_i hA
                    intro i hi
                    rw [goes_bit] at hi
                    obtain ⟨o, ho, e⟩ := anyU_iff.mp hi
                    have := allU_iff.mp hA o ho
                    rw [of_decide_eq_true e] at this
                    exact this
                  · exact bsub_0 _)
                exact this q hq
              exact (hz2 q).mpr ⟨g4 s hs q hqH, hcl v hv hv2.1 q hq, hqH⟩
  have T5 : offI tHo m m5 := offI_trans T0 (offI_sub f1 (fun t j z => ⟨by have := z.1; omega, z.2⟩))
  have hsum := sumU_le (f := fun _ => fullB (sN S)) (n := sN S) (c := 1024) (fun _ _ => by omega)
  refine key (sumU (fun _ => fullB (sN S)) (sN S)) (fun _ => fullB (sN S)) 0 m5 (Nat.le_refl _) (by omega) T5 (by rw [(f1.1 22 0 (by unfold tM; omega)).1, mI_r, if_pos ⟨rfl, rfl, rfl⟩]) (fun s hs => ⟨f2 s (by omega), hF⟩) (fun s hs => sub_n_fullB _) (fun H s hH _ => sub_n_full.mp hH.1) (fun s t hs _ => ⟨rfl, by rw [fullB_bit]; exact decide_eq_true hs⟩)
/-- Holes.stayingActs(set) -/
theorem c_stayingActs {H : Nat} (hR : RC m S) (hw : wf S) (hH : H < 1024) (hQ : Q (some (vI (nI (stN S H)))) m) : callW2 xs (d + 2) 25 [vR 22 0, vI (nI H)] m Q := by
  have h3 := wf_n hw
  refine eX3_stayingActs m _ (W2_st (bX3_stayingActs_0 m _ ?_))
  have key : ∀ s, s ≤ sN S → ∀ o4, (W2 xs (callW2 xs (d + 1)) tX3_stayingActs [4, 11] (some .int) Q 4 [some (vR 22 0), some (vI (nI H)), some (vI (nI (sumU (fun s => if H.testBit s = true then sumU (fun a => (allInS S (4 * s + a) H).toNat) (sA S s) else 0) s))), some (vI (nI s)), (o4)] [] (m)) := by
    refine upto (sN S) ?_ ?_
    · intro o4
      refine W2_st (bX3_stayingActs_4 m _ _ _ _ ?_)
      rw [rc_n hR, nI_leI (by omega) (by omega)]
      exact ⟨fun _ => hQ, fun z => absurd (Nat.le_refl _) z⟩
    · intro s hs ih o4
      have h4 := wf_a hw hs
      refine W2_st (bX3_stayingActs_4 m _ _ _ _ ?_)
      rw [rc_n hR, nI_leI (by omega) (by omega)]
      refine ⟨fun z => by omega, fun _ => ?_⟩
      simp only [sumU] at ih
      cases hb : H.testBit s with
      | false =>
        rw [if_neg (by rw [hb]; simp), Nat.add_zero] at ih
        refine W2_st (bX3_stayingActs_11 m _ _ _ _ (c_has (by omega) (by omega) ⟨_, rfl, ?_⟩))
        rw [bI_0, hb]
        simp only [nI_add]
        exact ⟨fun _ => ih _, fun z => absurd trivial z⟩
      | true =>
        rw [if_pos hb] at ih
        refine upto (P := fun a => (W2 xs (callW2 xs (d + 1)) tX3_stayingActs [4, 11] (some .int) Q 11 [some (vR 22 0), some (vI (nI H)), some (vI (nI (sumU (fun s => if H.testBit s = true then sumU (fun a => (allInS S (4 * s + a) H).toNat) (sA S s) else 0) s + sumU (fun a => (allInS S (4 * s + a) H).toNat) a))), some (vI (nI s)), some (vI (nI a))] [] (m))) (sA S s) ?_ ?_ 0 (Nat.zero_le _)
        · refine W2_st (bX3_stayingActs_11 m _ _ _ _ (c_has (by omega) (by omega) ⟨_, rfl, ?_⟩))
          rw [bI_0, hb, nI_clamp (by omega), rc_a hR hs, nI_leI (by omega) (by omega)]
          simp only [nI_add]
          exact ⟨fun z => (by cases z), fun _ => ⟨inb_nI (by omega) (by omega), fun _ => ih _, fun z => absurd (Nat.le_refl _) z⟩⟩
        · intro a ha iha
          have hx := isA_mk hs ha (by omega)
          refine W2_st (bX3_stayingActs_11 m _ _ _ _ (c_has (by omega) (by omega) ⟨_, rfl, ?_⟩))
          rw [bI_0, hb, nI_clamp (by omega), rc_a hR hs, nI_leI (by omega) (by omega)]
          simp only [nI_add]
          refine ⟨fun z => (by cases z), fun _ => ⟨inb_nI (by omega) (by omega), fun z => by omega, fun _ => c_actS hw hs ha ⟨_, rfl, c_staysIn hR hx hw ⟨_, rfl, ?_⟩⟩⟩⟩
          rw [bI_0]
          simp only [sumU] at iha
          refine ⟨fun h => ?_, fun h => ?_⟩
          · rw [h] at iha; exact iha
          · rw [Bool.not_eq_false] at h; rw [h] at iha; exact iha
  exact key 0 (Nat.zero_le _) none
end L79
