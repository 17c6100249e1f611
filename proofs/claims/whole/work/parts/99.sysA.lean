/-! CONTRACTS (45): state(), drop(), mark() (wip/whole/src/99.sysA.src) -/
section L99
variable {xs : Nat × (Nat → Int32)} {d : Nat} {Q : Option v2 → Mem → Prop} {m : Mem} {S : Sys}
def tU : Nat → Nat → Prop := fun t j => (t = 1 ∨ t = 2) ∧ j = 0 ∨ (t = 4 ∨ t = 5 ∨ t = 6) ∧ j < 40
def tUM : Nat → Nat → Prop := fun t j => 40 ≤ t ∧ t ≤ 46 ∧ j = 0
theorem nI_sub1 (n : Nat) : nI (n + 1) - nI 1 = nI n := by rw [← nI_add]; exact Int32.add_sub_cancel _ _
def setA (S : Sys) (n M : Nat) (A : Nat → Nat) : Sys := ((n, M), A, sK S, sC S, sO S, sT S, sP S)
def addS (S : Sys) : Sys := setA S (sN S + 1) (sM S) (fun s => if s = sN S then 0 else sA S s)
def dropS (S : Sys) (s : Nat) : Sys := setA S (sN S) (sM S) (fun t => if t = s then sA S s - 1 else sA S t)
def markS (S : Sys) (b : Nat) : Sys := setA S (sN S) b (sA S)
theorem wfA_set {n M x : Nat} {A : Nat → Nat} (hn : sN S ≤ n) (h : wfA S x) : wfA (setA S n M A) x := by
  obtain ⟨h1, h2, h3, h4, h5, h6⟩ := h
  exact ⟨h1, h2, h3, fun o ho => ⟨Nat.lt_of_lt_of_le (h4 o ho).1 hn, (h4 o ho).2⟩, h5, h6⟩
theorem wf_set {n M : Nat} {A : Nat → Nat} (hw : wf S) (hn : sN S ≤ n) (h10 : n ≤ 10) (hM : sub_n M n) (hA : ∀ s, s < n → 0 < A s → s < sN S ∧ A s ≤ sA S s) : wf (setA S n M A) := by
  refine ⟨h10, hM, fun s hs => ?_, fun x hx => ?_⟩
  · show A s ≤ 4
    rcases Nat.eq_zero_or_pos (A s) with q | q
    · omega
    · have := hA s hs q
      have := wf_a hw this.1
      omega
  · have h1 : x / 4 < n := hx.1
    have h2 : x % 4 < A (x / 4) := hx.2
    have := hA _ h1 (by omega)
    exact wfA_set hn (wf_x hw ⟨this.1, by omega⟩)
theorem wf_addS (hw : wf S) (h : sN S < 10) : wf (addS S) := wf_set hw (by omega) (by omega) (fun i q => by have := hw.2.1 i q; omega) (fun s hs hp => by
  by_cases e : s = sN S
  · rw [if_pos e] at hp; omega
  · rw [if_neg e] at hp ⊢; exact ⟨by omega, Nat.le_refl _⟩)
theorem wf_dropS (hw : wf S) {s : Nat} : wf (dropS S s) := wf_set hw (Nat.le_refl _) (wf_n hw) hw.2.1 (fun t ht hp => by
  refine ⟨ht, ?_⟩
  by_cases e : t = s
  · rw [if_pos e, e]; omega
  · rw [if_neg e]; exact Nat.le_refl _)
theorem wf_markS (hw : wf S) {b : Nat} (hb : sub_n b (sN S)) : wf (markS S b) := wf_set hw (Nat.le_refl _) (wf_n hw) hb (fun t ht _ => ⟨ht, Nat.le_refl _⟩)
theorem isA_set {n M x : Nat} {A : Nat → Nat} (hA : ∀ s, s < n → 0 < A s → s < sN S ∧ A s ≤ sA S s) (h : isA (setA S n M A) x) : isA S x := by
  have h1 : x / 4 < n := h.1
  have h2 : x % 4 < A (x / 4) := h.2
  have := hA _ h1 (by omega)
  exact ⟨this.1, by omega⟩
theorem RC_set {m' : Mem} {n M : Nat} {A : Nat → Nat} (hR : RC m S) (hA : ∀ s, s < n → 0 < A s → s < sN S ∧ A s ≤ sA S s) (ho : off (fun t j => (t = 1 ∨ t = 2) ∧ j = 0) m m') (h0 : m'.1 1 0 0 = nI n) (h1 : m'.1 1 0 1 = nI M) (h2 : ∀ s, s < n → m'.1 2 0 s = nI (A s)) (h3 : ∀ s, n ≤ s → s < 10 → m'.1 2 0 s = nI 0) : RC m' (setA S n M A) := by
  refine ⟨h0, h1, h2, h3, fun x hx => ?_⟩
  have := rc_x hR (isA_set hA hx)
  unfold RCa at this ⊢
  rw [(ho 4 x (by omega)).1, (ho 5 x (by omega)).1, (ho 6 x (by omega)).1]
  exact this
theorem RM_set {m' : Mem} {n M : Nat} {A : Nat → Nat} (hR : RM m S) (hA : ∀ s, s < n → 0 < A s → s < sN S ∧ A s ≤ sA S s) (ho : off (fun t j => (t = 40 ∨ t = 41) ∧ j = 0) m m') (h0 : m'.1 40 0 1 = nI n) (h1 : m'.1 40 0 2 = nI M) (h2 : ∀ s, s < n → m'.1 41 0 s = nI (A s)) : RM m' (setA S n M A) := by
  refine ⟨h0, h1, h2, fun x hx => ?_⟩
  have := rm_x hR (isA_set hA hx)
  unfold RMa at this ⊢
  rw [(ho 42 0 (by omega)).1, (ho 43 0 (by omega)).1, (ho 44 0 (by omega)).1, (ho 45 0 (by omega)).1, (ho 46 0 (by omega)).1]
  exact this
theorem addS_A : ∀ s, s < sN S + 1 → 0 < (if s = sN S then 0 else sA S s) → s < sN S ∧ (if s = sN S then 0 else sA S s) ≤ sA S s := fun s hs hp => by
  by_cases e : s = sN S
  · rw [if_pos e] at hp; omega
  · rw [if_neg e] at hp ⊢; exact ⟨by omega, Nat.le_refl _⟩
theorem c_state {ver : Nat} (hR : RC m S) (hw : wf S) (hver : m.1 1 0 2 = nI ver) (hQ0 : sN S = 10 → Q (some (vI (-2))) m) (hQ1 : ∀ m', sN S < 10 → off tU m m' → RC m' (addS S) → m'.1 1 0 2 = nI (ver + 1) → Q (some (vI (nI (sN S)))) m') : callW2 xs (d + 2) 79 [vR 0 0] m Q := by
  have h3 := wf_n hw
  refine eX11_state m (W2_st (bX11_state_0 m ?_))
  rw [rc_n hR, i_lt2 (by omega), nI_toInt (by omega)]
  refine ⟨fun h => ?_, fun h => hQ0 (by omega)⟩
  refine eX10_addState m (W2_st (bX10_addState_0 m ⟨_, rfl, ?_⟩))
  have e0 : (mI m 1 0 2 (m.1 1 0 2 + nI 1)).1 1 0 0 = nI (sN S) := by rw [mI_r, if_neg (by omega)]; exact rc_n hR
  rw [e0, hver, nI_add, nI_add]
  have e1 : (mI (mI m 1 0 2 (nI (ver + 1))) 1 0 0 (nI (sN S + 1))).1 1 0 0 = nI (sN S + 1) := by rw [mI_r, if_pos ⟨rfl, rfl, rfl⟩]
  rw [e1, nI_sub1]
  refine hQ1 _ (by omega) (off_I (off_I (off_rfl _ _) _ _ (by unfold tU; omega)) _ _ (by unfold tU; omega)) (RC_set hR addS_A (off_I (off_I (off_rfl _ _) _ _ (by omega)) _ _ (by omega)) e1 ?_ (fun s hs => ?_) (fun s hs h10 => ?_)) ?_
  · rw [mI_r, if_neg (by omega), mI_r, if_neg (by omega)]; exact rc_m hR
  · rw [mI_r, if_neg (by omega), mI_r, if_neg (by omega)]
    by_cases e : s = sN S
    · rw [if_pos e]; exact rc_a0 hR (by omega) (by omega)
    · rw [if_neg e]; exact rc_a hR (by omega)
  · rw [mI_r, if_neg (by omega), mI_r, if_neg (by omega)]; exact rc_a0 hR (by omega) h10
  · rw [mI_r, if_neg (by omega), mI_r, if_pos ⟨rfl, rfl, rfl⟩]
theorem r_state (hR : RM m S) (hw : wf S) (hQ0 : sN S = 10 → Q (some (vI (-2))) (mI m 40 0 0 (nI 0))) (hQ1 : ∀ m', sN S < 10 → off tUM m m' → m'.1 40 0 0 = nI 0 → RM m' (addS S) → Q (some (vI (nI (sN S)))) m') : callW2 xs (d + 1) 118 [vR 40 0] m Q := by
  have h3 := wf_n hw
  refine eX12_state m (W2_st (bX12_state_0 m ?_))
  have hRo := RM_0 (v := nI 0) hR
  have o1 : off tUM m (mI m 40 0 0 (nI 0)) := off_I (off_rfl _ _) _ _ (by unfold tUM; omega)
  have z0 : (mI m 40 0 0 (nI 0)).1 40 0 0 = nI 0 := by rw [mI_r, if_pos ⟨rfl, rfl, rfl⟩]
  generalize mI m 40 0 0 (nI 0) = mo at hRo hQ0 o1 z0 ⊢
  rw [rm_n hRo, nI_eq (by omega) (by omega), nI_clamp (by omega)]
  refine ⟨fun h => ⟨inb_nI (by omega) (by omega), ?_⟩, hQ0⟩
  have e0 : (mI mo 41 0 (sN S) (nI 0)).1 40 0 1 = nI (sN S) := by rw [mI_r, if_neg (by omega)]; exact rm_n hRo
  rw [e0, nI_add]
  have e1 : (mI (mI mo 41 0 (sN S) (nI 0)) 40 0 1 (nI (sN S + 1))).1 40 0 1 = nI (sN S + 1) := by rw [mI_r, if_pos ⟨rfl, rfl, rfl⟩]
  rw [e1, nI_sub1]
  refine hQ1 _ (by omega) (off_I (off_I o1 _ _ (by unfold tUM; omega)) _ _ (by unfold tUM; omega)) ?_ (RM_set hRo addS_A (off_I (off_I (off_rfl _ _) _ _ (by omega)) _ _ (by omega)) e1 ?_ (fun s hs => ?_))
  · rw [mI_r, if_neg (by omega), mI_r, if_neg (by omega)]; exact z0
  · rw [mI_r, if_neg (by omega), mI_r, if_neg (by omega)]; exact rm_m hRo
  · rw [mI_r, if_neg (by omega), mI_r]
    by_cases e : s = sN S
    · rw [if_pos ⟨rfl, rfl, e⟩, if_pos e]
    · rw [if_neg (by omega), if_neg e]; exact rm_a hRo (by omega)
theorem dropS_A {s : Nat} : ∀ t, t < sN S → 0 < (if t = s then sA S s - 1 else sA S t) → t < sN S ∧ (if t = s then sA S s - 1 else sA S t) ≤ sA S t := fun t ht _ => by
  refine ⟨ht, ?_⟩
  by_cases e : t = s
  · rw [if_pos e, e]; omega
  · rw [if_neg e]; exact Nat.le_refl _
theorem c_drop {ver : Nat} {p : Int32} (hR : RC m S) (hw : wf S) (hver : m.1 1 0 2 = nI ver) (hQ1 : isSt S p = false → Q (some (vI (-1))) m) (hQ2 : isSt S p = true → sA S p.toNatClampNeg = 0 → Q (some (vI (-2))) m) (hQ : ∀ m', isSt S p = true → ¬ sA S p.toNatClampNeg = 0 → off tU m m' → RC m' (dropS S p.toNatClampNeg) → m'.1 1 0 2 = nI (ver + 1) → Q (some (vI (nI (sA S p.toNatClampNeg - 1)))) m') : callW2 xs (d + 2) 82 [vR 0 0, vI p] m Q := by
  have h3 := wf_n hw
  refine eX11_drop m _ (W2_st (bX11_drop_0 m _ ?_))
  refine c_hasS hR hw p ⟨_, rfl, ?_⟩
  rw [bI_0]
  refine ⟨fun hst => ?_, hQ1⟩
  rw [Bool.not_eq_false] at hst
  obtain ⟨s, hs, e⟩ := isSt_t hw hst
  subst e
  have h4 := wf_a hw hs
  have ib : inb (nI s) 10 := inb_nI (by omega) (by omega)
  rw [nI_clamp (by omega)] at hQ2 hQ
  rw [nI_clamp (by omega), rc_a hR hs, z_eq (by omega)]
  refine ⟨ib, fun h => ?_, hQ2 hst⟩
  refine eX10_removeAct m _ (W2_st (bX10_removeAct_0 m _ ⟨ib, ib, ib, _, rfl, ?_⟩))
  obtain ⟨a, ha⟩ : ∃ a, sA S s = a + 1 := ⟨sA S s - 1, by omega⟩
  have e0 : (mI m 1 0 2 (m.1 1 0 2 + nI 1)).1 2 0 s = nI (a + 1) := by rw [mI_r, if_neg (by omega), ← ha]; exact rc_a hR hs
  rw [nI_clamp (by omega), e0, hver, nI_add, nI_sub1]
  have e1 : (mI (mI m 1 0 2 (nI (ver + 1))) 2 0 s (nI a)).1 2 0 s = nI a := by rw [mI_r, if_pos ⟨rfl, rfl, rfl⟩]
  rw [e1]
  have hh := hQ (mI (mI m 1 0 2 (nI (ver + 1))) 2 0 s (nI a)) hst h (off_I (off_I (off_rfl _ _) _ _ (by unfold tU; omega)) _ _ (by unfold tU; omega)) (RC_set hR dropS_A (off_I (off_I (off_rfl _ _) _ _ (by omega)) _ _ (by omega)) ?_ ?_ (fun t ht => ?_) (fun t ht h10 => ?_)) ?_
  · rw [ha, show a + 1 - 1 = a by omega] at hh; exact hh
  · rw [mI_r, if_neg (by omega), mI_r, if_neg (by omega)]; exact rc_n hR
  · rw [mI_r, if_neg (by omega), mI_r, if_neg (by omega)]; exact rc_m hR
  · rw [mI_r]
    by_cases e : t = s
    · rw [if_pos ⟨rfl, rfl, e⟩, if_pos e, ha]; rfl
    · rw [if_neg (by omega), if_neg e, mI_r, if_neg (by omega)]; exact rc_a hR ht
  · rw [mI_r, if_neg (by omega), mI_r, if_neg (by omega)]; exact rc_a0 hR ht h10
  · rw [mI_r, if_neg (by omega), mI_r, if_pos ⟨rfl, rfl, rfl⟩]
theorem r_drop {p : Int32} (hR : RM m S) (hw : wf S) (hQ1 : isSt S p = false → Q (some (vI (-1))) (mI m 40 0 0 (nI 0))) (hQ2 : isSt S p = true → sA S p.toNatClampNeg = 0 → Q (some (vI (-2))) (mI m 40 0 0 (nI 0))) (hQ : ∀ m', isSt S p = true → ¬ sA S p.toNatClampNeg = 0 → off tUM m m' → m'.1 40 0 0 = nI 0 → RM m' (dropS S p.toNatClampNeg) → Q (some (vI (nI (sA S p.toNatClampNeg - 1)))) m') : callW2 xs (d + 2) 122 [vR 40 0, vI p] m Q := by
  have h3 := wf_n hw
  refine eX12_drop m _ (W2_st (bX12_drop_0 m _ ?_))
  have hRo := RM_0 (v := nI 0) hR
  have o1 : off tUM m (mI m 40 0 0 (nI 0)) := off_I (off_rfl _ _) _ _ (by unfold tUM; omega)
  have z0 : (mI m 40 0 0 (nI 0)).1 40 0 0 = nI 0 := by rw [mI_r, if_pos ⟨rfl, rfl, rfl⟩]
  generalize mI m 40 0 0 (nI 0) = mo at hRo hQ1 hQ2 o1 z0 ⊢
  refine r_isState hRo hw p ⟨_, rfl, ?_⟩
  rw [bI_0]
  refine ⟨fun hst => ?_, hQ1⟩
  rw [Bool.not_eq_false] at hst
  obtain ⟨s, hs, e⟩ := isSt_t hw hst
  subst e
  have h4 := wf_a hw hs
  have ib : inb (nI s) 10 := inb_nI (by omega) (by omega)
  rw [nI_clamp (by omega)] at hQ2 hQ
  rw [nI_clamp (by omega), rm_a hRo hs, z_eq (by omega)]
  refine ⟨ib, fun h => ⟨ib, ib, ib, ?_⟩, hQ2 hst⟩
  obtain ⟨a, ha⟩ : ∃ a, sA S s = a + 1 := ⟨sA S s - 1, by omega⟩
  rw [ha, nI_sub1]
  have e1 : (mI mo 41 0 s (nI a)).1 41 0 s = nI a := by rw [mI_r, if_pos ⟨rfl, rfl, rfl⟩]
  rw [e1]
  have hh := hQ (mI mo 41 0 s (nI a)) hst h (off_I o1 _ _ (by unfold tUM; omega)) (by rw [mI_r, if_neg (by omega)]; exact z0) (RM_set hRo dropS_A (off_I (off_rfl _ _) _ _ (by omega)) ?_ ?_ (fun t ht => ?_))
  · rw [ha, show a + 1 - 1 = a by omega] at hh; exact hh
  · rw [mI_r, if_neg (by omega)]; exact rm_n hRo
  · rw [mI_r, if_neg (by omega)]; exact rm_m hRo
  · rw [mI_r]
    by_cases e : t = s
    · rw [if_pos ⟨rfl, rfl, e⟩, if_pos e, ha]; rfl
    · rw [if_neg (by omega), if_neg e]; exact rm_a hRo ht
end L99
