/-! CONTRACTS (36): the class's cost() (wip/whole/src/90.costU.src) -/
section L90
variable {xs : Nat × (Nat → Int32)} {d : Nat} {Q : Option v2 → Mem → Prop} {m : Mem} {S : Sys}
/-- the prices' cache -/
def PR (m : Mem) (S : Sys) (ver : Nat) : Prop := ∃ a, a ≤ ver ∧ m.1 21 0 4 = nI a ∧ (a = ver → ∃ X, isOnes S false X ∧ m.1 7 0 8 = nI X ∧ pricesOK m S X)
theorem c_prices {ver : Nat} (hR : RC m S) (hw : wf S) (hf : full S) (hver : m.1 1 0 2 = nI ver) (hv : ver < 2 ^ 31) (hC : CV m S ver false 0) (h8 : m.1 8 2 1 = bI false) (hP : PR m S ver) (hQ : ∀ X m', off tPS m m' → CV m' S ver false 0 → PR m' S ver → isOnes S false X → m'.1 7 0 8 = nI X → pricesOK m' S X → Q none m') : callW2 xs (d + 6) 30 [vR 21 0] m Q := by
  obtain ⟨a, ha, e1, e2⟩ := id hP
  by_cases hav : a = ver
  · obtain ⟨X, q1, q2, q3⟩ := e2 hav
    refine eX5_settle m (W2_st (bX5_settle_0 m ⟨fun z => absurd ?_ z, fun _ => hQ X m (off_rfl _ _) hC hP q1 q2 q3⟩))
    rw [e1, hver, hav]
  · refine c_pricesN hR hw hf hver hv hC h8 (by rw [e1, hver, ne_eq, nI_eq (by omega) (by omega)]; exact hav) (fun X Y m' f1 f2 f3 f4 f5 f6 => ?_)
    exact hQ X m' f1 f2 ⟨ver, Nat.le_refl _, f5, fun _ => ⟨X, f4.2.2.1, f4.1, f6⟩⟩ f4.2.2.1 f4.1 f6
theorem isG_ex (hw : wf S) (l : Bool) (x : Nat) : ∃ y, isG S l x y := by
  obtain ⟨y, hy⟩ := bits_ex (fun s => ∀ z, bsub (sM S) z → (∀ s, s < sN S → leadS S l x z s = true → z.testBit s = true) → z.testBit s = true) (sN S)
  exact ⟨y, fun s hs => ((hy s).mp hs).1, fun s hs => (hy s).mpr ⟨hw.2.1 s hs, fun z hz _ => hz s hs⟩, fun s hs h => (hy s).mpr ⟨hs, fun z h1 h2 => h2 s hs (leadS_mono (bsub_rfl _) (fun i q => ((hy i).mp q).2 z h1 h2) h)⟩, fun z h1 h2 s hs => ((hy s).mp hs).2 z h1 h2⟩
theorem isOnes_ex (hw : wf S) (l : Bool) : ∃ X, isOnes S l X := by
  obtain ⟨X, hX⟩ := bits_ex (fun s => ∃ Z Y, sub_n Z (sN S) ∧ isG S l Z Y ∧ bsub Z Y ∧ Z.testBit s = true) (sN S)
  have hin : ∀ Z Y, sub_n Z (sN S) → isG S l Z Y → bsub Z Y → bsub Z X := fun Z Y h1 h2 h3 s hs => (hX s).mpr ⟨h1 s hs, Z, Y, h1, h2, h3, hs⟩
  obtain ⟨Y, hY⟩ := isG_ex hw l X
  have hXY : bsub X Y := fun s hs => by
    obtain ⟨_, Z, Y', h1, h2, h3, h4⟩ := (hX s).mp hs
    exact isG_mono (hin Z Y' h1 h2 h3) h2 hY s (h3 s h4)
  obtain ⟨Y2, hY2⟩ := isG_ex hw l Y
  have e : Y = X := bsub_anti (hin Y Y2 hY.1 hY2 (isG_mono hXY hY hY2)) hXY
  rw [e] at hY
  exact ⟨X, hY, hin⟩
theorem in01_iff {p : Int32} : in01 p ↔ p = 0 ∨ p = nI 1 := by
  unfold in01
  constructor
  · intro h
    obtain ⟨k, hk, e⟩ := int_nI p 2 (by omega) (by omega) (by omega)
    have : k = 0 ∨ k = 1 := by omega
    rcases this with q | q
    · rw [q] at e; exact Or.inl e
    · rw [q] at e; exact Or.inr e
  · rintro (q | q)
    · rw [q]; decide
    · rw [q]; decide
theorem c_cost {ver : Nat} {p1 p2 : Int32} (hR : RC m S) (hw : wf S) (hver : m.1 1 0 2 = nI ver) (hv : ver < 2 ^ 31) (hC : CV m S ver false 0) (h8 : m.1 8 2 1 = bI false) (hP : PR m S ver) (hQ : ∀ m' r, off tPS m m' → CV m' S ver false 0 → PR m' S ver → (∀ X, isOnes S false X → costR S X p1 p2 r ∧ (isSt S p1 = true → in01 p2 → lackS S = 0 → foeN S = 0 ∧ cntB (ndiff X (sM S)) ≤ 5 → ∃ w, cbest S (ndiff X (sM S)) X w)) → Q (some (vL r)) m') : callW2 xs (d + 7) 93 [vR 0 0, vI p1, vI p2] m Q := by
  have h3 := wf_n hw
  refine eX11_cost m _ _ (W2_st (bX11_cost_0 m _ _ ?_))
  have ans : ∀ m' r, off tPS m m' → CV m' S ver false 0 → PR m' S ver → (∀ X, isOnes S false X → costR S X p1 p2 r ∧ (isSt S p1 = true → in01 p2 → lackS S = 0 → foeN S = 0 ∧ cntB (ndiff X (sM S)) ≤ 5 → ∃ w, cbest S (ndiff X (sM S)) X w)) → Q (some (vL r)) m' := hQ
  refine c_hasS hR hw p1 ⟨_, rfl, ?_⟩
  rw [bI_0]
  refine ⟨fun hst => ans m _ (off_rfl _ _) hC hP (fun X _ => ⟨by unfold costR; simp [hst], fun z => (by rw [hst] at z; cases z)⟩), fun hst => ?_⟩
  rw [Bool.not_eq_false] at hst
  refine c_isHalf p2 ⟨_, rfl, ?_⟩
  rw [bI_0, decide_eq_false_iff_not]
  refine ⟨fun hin => ?_, fun hin => ans m _ (off_rfl _ _) hC hP (fun X _ => by
    have : ¬ in01 p2 := fun z => hin (in01_iff.mp z)
    exact ⟨by unfold costR; simp [hst, this], fun _ z => absurd z this⟩)⟩
  rw [Decidable.not_not] at hin
  have hin' : in01 p2 := in01_iff.mpr hin
  refine c_isWhole hR hw ⟨_, rfl, ?_⟩
  rw [bI_0, decide_eq_false_iff_not]
  refine ⟨fun hl => ?_, fun hl => ans m _ (off_rfl _ _) hC hP (fun X _ => ⟨by unfold costR; simp [hst, hin', hl], fun _ _ z => absurd z hl⟩)⟩
  rw [Decidable.not_not] at hl
  have hf := full_lack hw hl
  obtain ⟨s, hs, hp1⟩ := isSt_t hw hst
  have hcl : p1.toNatClampNeg = s := by rw [hp1, nI_clamp (by omega)]
  refine c_prices hR hw hf hver hv hC h8 hP (fun X m2 e1 e2 e3 hX e5 e6 => ⟨rfl, ?_⟩)
  obtain ⟨hBn, hBi, hBp⟩ := sureB hX
  have hX10 := sub_lt hX.1.1 h3
  have ans2 : ∀ r, costR S X p1 p2 r → Q (some (vL r)) m2 := fun r h => ans m2 r e1 e2 e3 (fun X' hX' => by
    rw [isOnes_uniq hX' hX]
    refine ⟨h, fun _ _ _ h9 => ?_⟩
    obtain ⟨w, h10, _⟩ := e6.2 h9.1 h9.2
    exact ⟨w, h10⟩)
  rw [e6.1, bI_0, decide_eq_false_iff_not, e5]
  refine ⟨fun ht => ?_, fun ht => ans2 _ (by unfold costR; simp only [hst, hin', hl]; simp [ht])⟩
  rw [Decidable.not_not] at ht
  obtain ⟨w, w1, w2, w3, w4, w5⟩ := e6.2 ht.1 ht.2
  rw [hp1]
  refine c_has (by omega) (by omega) ⟨_, rfl, ?_⟩
  rw [bI_0]
  refine ⟨fun hXs => ⟨inb_nI (by omega) (by omega), ?_⟩, fun hXs => ans2 _ (by unfold costR; rw [hcl]; simp [hst, hin', hl, ht, hXs])⟩
  rw [Bool.not_eq_false] at hXs
  obtain ⟨hD, hE, hn⟩ := csol hw hf w1.1.1 w1.1.2.1
  rw [nI_clamp (by omega), w2 s hs, w3]
  have hns := hn s hs
  have hW4 := w4 s
  refine c_lowest hns (by omega) hD (by omega) (fun u v hlow => ⟨_, rfl, ans2 _ ?_⟩)
  unfold costR
  rw [hcl]
  refine ⟨fun z => (by rw [hst] at z; cases z), fun _ => ⟨fun z => absurd hin' z, fun _ => ⟨fun z => absurd hl z, fun _ => ⟨fun z => absurd ht z, fun _ => ⟨fun z => (by rw [hXs] at z; cases z), fun _ => ⟨fun hms => ?_, fun hms w' hw' => ?_⟩⟩⟩⟩⟩⟩
  · -- MARKED: nothing is to be paid
    have e0 : cW S (ndiff X (sM S)) w s = 0 := cW_out (by
      cases q : (ndiff X (sM S)).testBit s with
      | false => rfl
      | true => have := ((hBi s).mp q).2; rw [hms] at this; cases this)
    rw [e0] at hlow
    have h01 : low 0 1 0 (cD S (ndiff X (sM S)) w) := ⟨by omega, by decide, by omega⟩
    obtain ⟨q1, q2⟩ := low_uniq hD hlow h01
    rw [q1, q2]
    rcases hin with q | q
    · rw [if_pos q, q]; rfl
    · rw [if_neg (by rw [q]; decide), q]; rfl
  · -- one least cost
    have hsB : (ndiff X (sM S)).testBit s = true := (hBi s).mpr ⟨hXs, hms⟩
    have hlast : ∀ a b, cbest S (ndiff X (sM S)) X a → cbest S (ndiff X (sM S)) X b → cW S (ndiff X (sM S)) a s * cD S (ndiff X (sM S)) b ≤ cW S (ndiff X (sM S)) b s * cD S (ndiff X (sM S)) a := by
      intro a b ha hb
      refine cbest_le hw hf ha (bsub_rfl _) (fun t ht => ((hBi t).mp ht).1) hb.1.1 hb.1.2.1 (fun t ht o ho => ?_) s hsB
      have h10 := allU_iff.mp (hb.1.2.2 t ht) o ho
      cases q : (ndiff X (sM S)).testBit (sT S (4 * t + b t) o) with
      | true => exact Or.inl rfl
      | false => exact Or.inr ⟨h10, rfl⟩
    have l1 := hlast w w' w1 hw'
    have l2 := hlast w' w hw' w1
    have hD' := (csol hw hf hw'.1.1 hw'.1.2.1).1
    refine ⟨u, v, ⟨hlow.1, hlow.2.1, ?_⟩, by split <;> rfl⟩
    have z1 : u * cD S (ndiff X (sM S)) w' ≤ cW S (ndiff X (sM S)) w' s * v := fr_trans (Int.le_of_lt hlow.1) hD (Int.le_of_lt hD') (by rw [hlow.2.2]; exact Int.le_refl _) l1
    have z2 : cW S (ndiff X (sM S)) w' s * v ≤ u * cD S (ndiff X (sM S)) w' := fr_trans (Int.le_of_lt hD') hD (Int.le_of_lt hlow.1) l2 (by rw [hlow.2.2]; exact Int.le_refl _)
    omega
theorem cost_uniq {X : Nat} {p1 p2 : Int32} {r r' : Int64} (hw : wf S) (h : costR S X p1 p2 r) (h' : costR S X p1 p2 r') (hb : isSt S p1 = true → in01 p2 → lackS S = 0 → foeN S = 0 ∧ cntB (ndiff X (sM S)) ≤ 5 → ∃ w, cbest S (ndiff X (sM S)) X w) : r = r' := by
  unfold costR at h h'
  cases hst : isSt S p1 with
  | false => rw [h.1 hst, h'.1 hst]
  | true =>
    have h := h.2 hst
    have h' := h'.2 hst
    by_cases hin : in01 p2
    · have h := h.2 hin
      have h' := h'.2 hin
      by_cases hl : lackS S = 0
      · have h := h.2 hl
        have h' := h'.2 hl
        by_cases ht : foeN S = 0 ∧ cntB (ndiff X (sM S)) ≤ 5
        · obtain ⟨w, hbw⟩ := hb hst hin hl ht
          have h := h.2 ht
          have h' := h'.2 ht
          cases hX : X.testBit p1.toNatClampNeg with
          | false => rw [h.1 hX, h'.1 hX]
          | true =>
            have h := h.2 hX
            have h' := h'.2 hX
            cases hm : (sM S).testBit p1.toNatClampNeg with
            | true => rw [h.1 hm, h'.1 hm]
            | false =>
              obtain ⟨u, v, q1, q2⟩ := h.2 hm w hbw
              obtain ⟨u', v', q1', q2'⟩ := h'.2 hm w hbw
              have hD := (csol hw (full_lack hw hl) hbw.1.1 hbw.1.2.1).1
              obtain ⟨e1, e2⟩ := low_uniq hD q1 q1'
              rw [q2, q2', e1, e2]
        · rw [h.1 ht, h'.1 ht]
      · rw [h.1 hl, h'.1 hl]
    · rw [h.1 hin, h'.1 hin]
end L90
