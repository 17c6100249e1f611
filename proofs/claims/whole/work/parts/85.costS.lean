/-! CONTRACTS (31): the class's prices settle (wip/whole/src/85.costS.src) -/
section L85
variable {xs : Nat × (Nat → Int32)} {d : Nat} {Q : Option v2 → Mem → Prop} {m : Mem} {S : Sys}
def tPS : Nat → Nat → Prop := fun t j => (t = 7 ∨ t = 9) ∧ j = 0 ∨ (t = 9 ∨ t = 10 ∨ t = 13 ∨ t = 14 ∨ t = 15) ∧ j = 2 ∨ t = 12 ∧ j / 5 = 2 ∨ t = 21 ∧ j = 0
theorem RC_PS {m' : Mem} (h : off tPS m m') (hw : wf S) (hR : RC m S) : RC m' S := RC_off h (by unfold tPS; omega) (by unfold tPS; omega) (fun x _ => by unfold tPS; omega) (fun x _ => by unfold tPS; omega) (fun x _ => by unfold tPS; omega) hw hR
def pricesOK (m : Mem) (S : Sys) (X : Nat) : Prop := m.1 21 0 7 = bI (decide (foeN S = 0 ∧ cntB (ndiff X (sM S)) ≤ 5)) ∧ (foeN S = 0 → cntB (ndiff X (sM S)) ≤ 5 → ∃ w, cbest S (ndiff X (sM S)) X w ∧ (∀ s, s < sN S → m.2 15 2 s = lI (cW S (ndiff X (sM S)) w s)) ∧ m.2 21 0 6 = lI (cD S (ndiff X (sM S)) w) ∧ (∀ s, (cW S (ndiff X (sM S)) w s).natAbs ≤ 2 ^ 35) ∧ (cD S (ndiff X (sM S)) w).natAbs ≤ 2 ^ 25)
theorem want_all (h : foeN S = 0) {s : Nat} (hs : s < sN S) : wantS S false s = true := by unfold wantS; rw [foeN_0.mp h s hs]; rfl
/-- what is sure but not MARKED -/
theorem sureB {X : Nat} (hX : isOnes S false X) : sub_n (ndiff X (sM S)) (sN S) ∧ (∀ s, (ndiff X (sM S)).testBit s = true ↔ X.testBit s = true ∧ (sM S).testBit s = false) ∧ ∀ s, (ndiff X (sM S)).testBit s = true → 0 < sA S s := by
  have hb : ∀ s, (ndiff X (sM S)).testBit s = true ↔ X.testBit s = true ∧ (sM S).testBit s = false := by
    intro s
    rw [ndiff_bit, Bool.and_eq_true]
    simp
  exact ⟨fun s hs => hX.1.1 s ((hb s).mp hs).1, hb, fun s hs => isG_pos hX.1 ((hb s).mp hs).1 ((hb s).mp hs).2⟩
theorem c_pricesN {ver : Nat} (hR : RC m S) (hw : wf S) (hf : full S) (hver : m.1 1 0 2 = nI ver) (hv : ver < 2 ^ 31) (hC : CV m S ver false 0) (h8 : m.1 8 2 1 = bI false) (hne : m.1 21 0 4 ≠ m.1 1 0 2) (hQ : ∀ X Y m', off tPS m m' → CV m' S ver false 0 → m'.1 7 0 4 = nI ver → sorted m' S false 0 X Y → m'.1 21 0 4 = nI ver → pricesOK m' S X → Q none m') : callW2 xs (d + 6) 30 [vR 21 0] m Q := by
  have h3 := wf_n hw
  have hM := wf_m hw
  refine eX5_settle m (W2_st (bX5_settle_0 m ⟨fun _ => ?_, fun z => absurd z hne⟩))
  have o1 : off tPS m (mI m 21 0 4 (m.1 1 0 2)) := off_I (off_rfl _ _) _ _ (by unfold tPS; omega)
  have C1 : CV (mI m 21 0 4 (m.1 1 0 2)) S ver false 0 := CV_eq (by funext k; rw [mI_r, if_neg (by omega)]) (by funext k; rw [mI_r, if_neg (by omega)]) (by funext k; rw [mI_r, if_neg (by omega)]) rfl rfl hC
  refine c_sort (RC_PS o1 hw hR) hw (by rw [mI_r, if_neg (by omega)]; exact hver) hv C1 (fun X Y m2 e1 e2 e3 e4 => ⟨rfl, ?_⟩)
  have o2 : off tPS m m2 := off_trans o1 (off_sub e1.1 (fun t j z => by unfold tV at z; unfold tPS; omega))
  have x21 : m2.1 21 0 4 = nI ver := by rw [(e1.1 21 0 (by unfold tV; omega)).1, mI_r, if_pos ⟨rfl, rfl, rfl⟩]; exact hver
  have hR2 := RC_PS o2 hw hR
  have hX := e4.2.2.1
  obtain ⟨hBn, hBi, hBp⟩ := sureB hX
  have hX10 := sub_lt hX.1.1 h3
  refine c_foeActs hR2 hw ⟨_, rfl, ?_⟩
  have hfo := foeN_le hw (sN S) (Nat.le_refl _)
  rw [show sumU _ (sN S) = foeN S from rfl] at hfo
  rw [z_eq (by omega)]
  -- nothing is told
  have noT : ∀ mc, off tPS m mc → CV mc S ver false 0 → mc.1 7 0 4 = nI ver → sorted mc S false 0 X Y → mc.1 21 0 4 = nI ver → ¬ (foeN S = 0 ∧ cntB (ndiff X (sM S)) ≤ 5) → Q none (mI mc 21 0 7 (nI 0)) := by
    intro mc q1 q2 q3 q4 q5 q6
    refine hQ X Y _ (off_I q1 _ _ (by unfold tPS; omega)) (CV_eq (by funext k; rw [mI_r, if_neg (by omega)]) (by funext k; rw [mI_r, if_neg (by omega)]) (by funext k; rw [mI_r, if_neg (by omega)]) rfl rfl q2) (by rw [mI_r, if_neg (by omega)]; exact q3) ?_ (by rw [mI_r, if_neg (by omega)]; exact q5) ⟨by rw [mI_r, if_pos ⟨rfl, rfl, rfl⟩, decide_eq_false q6]; rfl, fun z1 z2 => absurd ⟨z1, z2⟩ q6⟩
    exact ⟨by rw [mI_r, if_neg (by omega)]; exact q4.1, by rw [mI_r, if_neg (by omega)]; exact q4.2.1, q4.2.2⟩
  refine ⟨fun hfoe => ⟨isB0, fun z => ?_, fun _ => noT m2 o2 e2 e3 e4 x21 (fun z => hfoe z.1)⟩, fun hfoe => ?_⟩
  · exfalso
    rw [mI_r, if_pos ⟨rfl, rfl, rfl⟩] at z
    exact z (by decide)
  rw [e4.1, rc_m hR2, nI_diff]
  generalize hBe : ndiff X (sM S) = B at hBn hBi hBp noT
  have hB10 := sub_lt hBn h3
  refine c_open hB10 (fun h6 => ⟨_, rfl, fun _ => ⟨isB0, fun z => ?_, fun _ => noT m2 o2 e2 e3 e4 x21 (fun z => by omega)⟩, fun z => absurd (by decide) z⟩) (fun m10 h5 f1 f2 => ⟨_, rfl, fun z => absurd z (by decide), fun _ => ⟨isB1, fun _ => ?_, fun z => ?_⟩⟩)
  · exfalso
    rw [mI_r, if_pos ⟨rfl, rfl, rfl⟩] at z
    exact z (by decide)
  · -- told: the ways to begin with
    have o10 : off tPS m (mI m10 21 0 7 (nI 1)) := off_I (off_trans o2 (off_sub f1.1 (fun t j z => by unfold tE at z; unfold tPS; omega))) _ _ (by unfold tPS; omega)
    have x7 : (mI m10 21 0 7 (nI 1)).1 7 0 = m2.1 7 0 := by funext k; rw [mI_r, if_neg (by omega), (f1.1 7 0 (by unfold tE; omega)).1]
    have x8 : ∀ i, (mI m10 21 0 7 (nI 1)).1 8 i = m2.1 8 i := fun i => by funext k; rw [mI_r, if_neg (by omega), (f1.1 8 i (by unfold tE; omega)).1]
    have x9 : (mI m10 21 0 7 (nI 1)).1 9 0 = m2.1 9 0 := by funext k; rw [mI_r, if_neg (by omega), (f1.1 9 0 (by unfold tE; omega)).1]
    have l15 : (mI m10 21 0 7 (nI 1)).2 = m2.2 := f1.2
    have y21 : (mI m10 21 0 7 (nI 1)).1 21 0 4 = nI ver ∧ (mI m10 21 0 7 (nI 1)).1 21 0 7 = nI 1 := ⟨by rw [mI_r, if_neg (by omega), (f1.1 21 0 (by unfold tE; omega)).1]; exact x21, by rw [mI_r, if_pos ⟨rfl, rfl, rfl⟩]⟩
    have op10 : opened (mI m10 21 0 7 (nI 1)) 2 B := by
      unfold opened at f2 ⊢
      exact ⟨by rw [mI_r, if_neg (by omega)]; exact f2.1, fun s hs => by rw [mI_r, if_neg (by omega)]; exact f2.2.1 s hs, fun j hj => by rw [mI_r, if_neg (by omega)]; exact f2.2.2 j hj⟩
    rw [x7, e4.1]
    have h82 : (mI m10 21 0 7 (nI 1)).1 8 2 1 = bI false := by rw [x8, (e1.1 8 2 (by unfold tV; omega)).1, mI_r, if_neg (by omega)]; exact h8
    generalize mI m10 21 0 7 (nI 1) = m11 at o10 x7 x8 x9 l15 y21 op10 h82
    refine c_grow (RC_PS o10 hw hR) hw false h82 (fun y w0 m16 g1 g2 g3 g4 => ⟨_, rfl, ?_⟩)
    have hyX : y = X := isG_uniq g3 hX.1
    rw [hyX] at g4
    have cg0 : cgood S B X w0 := by
      refine ⟨fun s hs => ?_, fun C hC hCB => ?_, fun s hs => ?_⟩
      · have := g4.1 s ((hBi s).mp hs).1 ((hBi s).mp hs).2
        exact ⟨this.1, this.2.1⟩
      · obtain ⟨s, q1, q2, _⟩ := g4.2 C hC (fun s hs => (hBi s).mp (hCB s hs))
        obtain ⟨o, p1, _, p3⟩ := q2 (want_all hfoe (hBn s (hCB s q1)))
        exact ⟨s, q1, o, p1, p3⟩
      · exact (g4.1 s ((hBi s).mp hs).1 ((hBi s).mp hs).2).2.2 (want_all hfoe (hBn s hs))
    have key : ∀ N w mc r, cmu S B X w ≤ N → r + N ≤ 2000 → cgood S B X w → off tPS m mc → mc.1 7 0 = m2.1 7 0 → mc.1 8 0 = m2.1 8 0 → mc.1 9 0 = m2.1 9 0 → mc.2 15 0 = m2.2 15 0 → mc.2 7 0 = m2.2 7 0 → (mc.1 21 0 4 = nI ver ∧ mc.1 21 0 7 = nI 1) → opened mc 2 B → (∀ s, B.testBit s = true → mc.1 9 2 s = nI (w s)) → (W2 xs (callW2 xs (d + 5)) tX5_settle [52] none Q 52 [some (vR 21 0), some (vI (nI 1)), some (vI (nI r))] [] (mc)) := by
      intro N
      induction N using Nat.strongRecOn with
      | _ N ihN =>
        intro w mc r hN hr hg q1 q2 q3 q4 q5 q6 q7 q8 q9
        have hRc := RC_PS q1 hw hR
        obtain ⟨hD, hE, hn⟩ := csol hw hf hg.1 hg.2.1
        refine W2_st (bX5_settle_52 mc _ _ ?_)
        rw [nI_leI (by omega) (by omega)]
        simp only [nI_add]
        refine ⟨fun z => by omega, fun _ => ⟨fun z => absurd z (by decide), fun _ => ?_⟩⟩
        refine c_pEval hRc hw hf q8 h5 hg.1 hg.2.1 q9 (fun m3 r1 r2 r3 => ⟨rfl, ?_⟩)
        have hVb : ∀ t, (cW S B w t).natAbs ≤ 2 ^ 35 := fun t => (cW_bd hw hf hg.1 hg.2.1 h5 t).1
        have hDb := (cW_bd hw hf hg.1 hg.2.1 h5 0).2
        have o3 : off tPS m m3 := off_trans q1 (off_sub r1.1 (fun t j z => by unfold tPr at z; unfold tPS; omega))
        have hold : ∀ s, B.testBit s = true → pri S (cW S B w) (cD S B w) (4 * s + w s) = 12 * cW S B w s := fun s hs => (hE s hs).symm
        refine c_pImp (X := X) (RC_L r1.2 hRc) hw (op_L r1.2 q8) h5 r2 r3 hVb hDb (by rw [r1.2, q2]; exact e4.1) hg.1 (fun s hs => by rw [r1.2]; exact q9 s hs) hold (fun b w' m4 s1 s2 s3 s4 => ⟨_, rfl, ?_⟩)
        have o4 : off tPS m m4 := off_trans o3 (off_sub s1.1 (fun t j z => by unfold tW at z; unfold tPS; omega))
        have z7 : m4.1 7 0 = m2.1 7 0 := by rw [(s1.1 7 0 (by unfold tW; omega)).1, r1.2]; exact q2
        have z8 : m4.1 8 0 = m2.1 8 0 := by rw [(s1.1 8 0 (by unfold tW; omega)).1, r1.2]; exact q3
        have z9 : m4.1 9 0 = m2.1 9 0 := by rw [(s1.1 9 0 (by unfold tW; omega)).1, r1.2]; exact q4
        have z15 : m4.2 15 0 = m2.2 15 0 := by rw [s1.2, (r1.1 15 0 (by unfold tPr; omega)).2]; exact q5
        have z7l : m4.2 7 0 = m2.2 7 0 := by rw [s1.2, (r1.1 7 0 (by unfold tPr; omega)).2]; exact q6
        have z21 : m4.1 21 0 4 = nI ver ∧ m4.1 21 0 7 = nI 1 := by rw [(s1.1 21 0 (by unfold tW; omega)).1, r1.2]; exact q7
        have op4 : opened m4 2 B := op_W s1 (op_L r1.2 q8)
        cases b with
        | true =>
          have hrn : crnk S B X w w' := crnk_step hw hf hg (fun s hs => ⟨hBn s hs, by
            rcases s3 s hs with p | p
            · rw [p.1]; exact (hg.1 s hs).2
            · exact p.1⟩) (fun s hs => by
            rcases s3 s hs with p | p
            · rw [p.1]; exact hg.2.2 s hs
            · exact p.2.1) (fun s hs => by
            rcases s3 s hs with p | p
            · exact Or.inl p.1
            · exact Or.inr p.2.2) (by obtain ⟨s, p1, p2⟩ := s4.mp rfl; exact ⟨s, p1, p2⟩)
          have hmu := cmu_lt hw hf h5 hg hrn
          exact ihN (cmu S B X w') (by omega) w' m4 (r + 1) (Nat.le_refl _) (by omega) hrn.1 o4 z7 z8 z9 z15 z7l z21 op4 s2
        | false =>
          have hww : ∀ s, B.testBit s = true → ∀ a, a < sA S s → allInS S (4 * s + a) X = true → 12 * cW S B w s ≤ pri S (cW S B w) (cD S B w) (4 * s + a) := by
            intro s hs
            rcases s3 s hs with p | p
            · exact p.2
            · have := s4.mpr ⟨s, hs, p.2.2⟩; cases this
          refine W2_st (bX5_settle_52 m4 _ _ ?_)
          rw [nI_leI (by omega) (by omega)]
          refine ⟨fun z => by omega, fun _ => ⟨fun _ => ?_, fun z => absurd rfl z⟩⟩
          have hso : sorted m4 S false 0 X Y := by unfold sorted at e4 ⊢; rw [z7]; exact e4
          refine hQ X Y m4 o4 (CV_eq z7 z8 z9 z15 z7l e2) (by rw [z7]; exact e3) hso z21.1 ⟨?_, fun _ _ => ⟨w, ?_, fun s hs => ?_, ?_, ?_, ?_⟩⟩
          · rw [z21.2, hBe, decide_eq_true ⟨hfoe, h5⟩]; rfl
          · rw [hBe]; exact ⟨hg, hww⟩
          · rw [hBe, s1.2]; exact r2 s hs
          · rw [hBe, s1.2]; exact r3
          · rw [hBe]; exact hVb
          · rw [hBe]; exact hDb
    have o16 : off tPS m m16 := off_trans o10 (off_sub g1.1 (fun t j z => by unfold tW at z; unfold tPS; omega))
    have hm := cmu_le (S := S) (B := B) (X := X) w0
    refine key 1024 w0 m16 0 hm (by omega) cg0 o16 (by rw [(g1.1 7 0 (by unfold tW; omega)).1]; exact x7) (by rw [(g1.1 8 0 (by unfold tW; omega)).1]; exact x8 0) (by rw [(g1.1 9 0 (by unfold tW; omega)).1]; exact x9) (by rw [g1.2, l15]) (by rw [g1.2, l15]) (by rw [(g1.1 21 0 (by unfold tW; omega)).1]; exact y21) (op_W g1 op10) (fun s hs => g2 s (hBn s hs))
  · exfalso
    rw [mI_r, if_pos ⟨rfl, rfl, rfl⟩] at z
    exact absurd z (by decide)
end L85
