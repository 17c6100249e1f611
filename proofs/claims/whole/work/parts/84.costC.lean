/-! CONTRACTS (30): the class's prices (wip/whole/src/84.costC.src) -/
section L84
variable {xs : Nat × (Nat → Int32)} {d : Nat} {Q : Option v2 → Mem → Prop} {m : Mem} {S : Sys}
def foeN (S : Sys) : Nat := sumU (fun s => if foeS S s = true then sA S s else 0) (sN S)
theorem foeN_le (hw : wf S) (k : Nat) (hk : k ≤ sN S) : sumU (fun s => if foeS S s = true then sA S s else 0) k ≤ 40 := by
  have h3 := wf_n hw
  have := sumU_le (f := fun s => if foeS S s = true then sA S s else 0) (n := k) (c := 4) (fun s hs => by
    have := wf_a hw (show s < sN S by omega)
    split <;> omega)
  omega
theorem foeN_0 : foeN S = 0 ↔ ∀ s, s < sN S → foeS S s = false := by
  constructor
  · intro h s hs
    cases hf : foeS S s with
    | false => rfl
    | true =>
      exfalso
      have hp : 0 < sA S s := by unfold foeS at hf; rw [Bool.and_eq_true] at hf; exact of_decide_eq_true hf.1
      have := sumU_lt (f := fun _ => 0) (g := fun s => if foeS S s = true then sA S s else 0) (n := sN S) (fun _ _ => Nat.zero_le _) hs (by rw [if_pos hf]; exact hp)
      unfold foeN at h
      omega
  · intro h
    unfold foeN
    rw [sumU_congr (g := fun _ => 0) (fun s hs => if_neg (by rw [h s hs]; simp))]
    have : ∀ n, sumU (fun _ => 0) n = 0 := fun n => by induction n with
      | zero => rfl
      | succ n ih => simp only [sumU]; rw [ih]
    exact this _
theorem c_foeActs (hR : RC m S) (hw : wf S) (hQ : Q (some (vI (nI (foeN S)))) m) : callW2 xs (d + 2) 75 [vR 1 0] m Q := by
  have h3 := wf_n hw
  refine eX10_foeActs m (W2_st (bX10_foeActs_0 m ?_))
  refine upto (P := fun s => (W2 xs (callW2 xs (d + 1)) tX10_foeActs [4] (some .int) Q 4 [some (vR 1 0), some (vI (nI (sumU (fun s => if foeS S s = true then sA S s else 0) s))), some (vI (nI s))] [] (m))) (sN S) ?_ ?_ 0 (Nat.zero_le _)
  · refine W2_st (bX10_foeActs_4 m _ _ ?_)
    rw [rc_n hR, nI_leI (by omega) (by omega)]
    exact ⟨fun _ => hQ, fun z => absurd (Nat.le_refl _) z⟩
  · intro s hs ih
    refine W2_st (bX10_foeActs_4 m _ _ ?_)
    rw [rc_n hR, nI_leI (by omega) (by omega), nI_clamp (by omega)]
    simp only [nI_add]
    refine ⟨fun z => by omega, fun _ => c_isFoes hR hw hs ⟨_, rfl, ?_⟩⟩
    rw [bI_0, rc_a hR hs]
    simp only [sumU] at ih
    refine ⟨fun h => ?_, fun h => ⟨inb_nI (by omega) (by omega), ?_⟩⟩
    · rw [if_neg (by rw [h]; simp)] at ih; exact ih
    · rw [Bool.not_eq_false] at h
      rw [if_pos h] at ih
      rw [nI_add]; exact ih
def tPr : Nat → Nat → Prop := fun t j => t = 15 ∧ j = 2 ∨ t = 12 ∧ j / 5 = 2 ∨ t = 10 ∧ j = 2 ∨ t = 21 ∧ j = 0
theorem cA_facts {B : Nat} {w : Nat → Nat} (hw : wf S) (hf : full S) (hp : pol S B w) (hL : lkS S B w) : (∀ r j, r < cntB B → j < cntB B → (cA S B w r j).natAbs ≤ 12) ∧ (∀ r, r < cntB B → (cA S B w r (cntB B)).natAbs ≤ 12000) ∧ ∀ k, k ≤ cntB B → 0 < det k (cA S B w) := by
  have hlk := lk_leak hw hf hp hL
  refine ⟨fun r j hr hj => ?_, fun r hr => ?_, fun k hk => mA_pos hlk k hk⟩
  · have hle := hlk.2.1 r hr
    have hnn : ∀ j, j < cntB B → 0 ≤ rowP S B w r j := fun j hj => pU_nn _ _
    have h1 := hnn j hj
    have h2 := sumI_splitj (f := rowP S B w r) (k := 0) (n := cntB B) (j := j) (Nat.zero_le _) hj hnn
    simp only [sumI] at h2
    unfold cA mA
    rw [if_neg (by omega)]
    split <;> omega
  · unfold cA mA
    rw [if_pos rfl]
    have := wf_c hw (pol_a hw hp (qOf_in hr).1)
    show (12 * (sC S _ : Int)).natAbs ≤ 12000
    omega
theorem cW_bd {B : Nat} {w : Nat → Nat} (hw : wf S) (hf : full S) (hp : pol S B w) (hL : lkS S B w) (h5 : cntB B ≤ 5) (s : Nat) : (cW S B w s).natAbs ≤ 2 ^ 35 ∧ (cD S B w).natAbs ≤ 2 ^ 25 := by
  obtain ⟨h1, h2, h3⟩ := cA_facts hw hf hp hL
  refine ⟨?_, Nat.le_trans (det_le (w := fun _ => 12) (fun r j hr hj => h1 r j hr hj)) (wb4 _ (by omega))⟩
  unfold cW
  split
  · rename_i hs
    have hi := cntU_B hs (Nat.lt_of_lt_of_le (hp s hs).1 (wf_n hw))
    unfold cr
    refine Nat.le_trans (det_le (w := fun c => if c = cntU B s then 12000 else 12) (fun r c hr hc => ?_)) (wb5 _ (by omega) _ (by omega))
    unfold setC
    by_cases hci : c = cntU B s
    · rw [if_pos hci, if_pos hci]; exact h2 r hr
    · rw [if_neg hci, if_neg hci]; exact h1 r c hr hc
  · decide
/-- Prices.evaluate() -/
theorem c_pEval {B : Nat} {w : Nat → Nat} (hR : RC m S) (hw : wf S) (hf : full S) (ho : opened m 2 B) (h5 : cntB B ≤ 5) (hp : pol S B w) (hL : lkS S B w) (hway : ∀ s, B.testBit s = true → m.1 9 2 s = nI (w s)) (hQ : ∀ m', offL tPr m m' → (∀ s, s < sN S → m'.2 15 2 s = lI (cW S B w s)) → m'.2 21 0 6 = lI (cD S B w) → Q none m') : callW2 xs (d + 3) 31 [vR 21 0] m Q := by
  have h3 := wf_n hw
  obtain ⟨a1, a2, a3⟩ := cA_facts hw hf hp hL
  refine eX5_evaluate m (W2_st (bX5_evaluate_0 m ?_))
  have back : ∀ r, r ≤ cntB B → ∀ mc o2 o3, offL tPr m mc → mc.2 21 0 6 = lI (cD S B w) → (∀ r, r < cntB B → mc.2 12 (5 * 2 + r) (cntB B) = lI (cr (cA S B w) (cntB B) r (cntB B))) → (∀ s, s < sN S → (B.testBit s = false ∨ cntU B s < r) → mc.2 15 2 s = lI (cW S B w s)) → (W2 xs (callW2 xs (d + 2)) tX5_evaluate [2, 49] none Q 49 [some (vR 21 0), some (vI (nI r)), (o2), (o3)] [] (mc)) := by
    refine upto (cntB B) ?_ ?_
    · intro mc o2 o3 g1 g2 g3 g4
      refine W2_st (bX5_evaluate_49 mc _ _ _ ?_)
      rw [(op_L g1.2 ho).1, nI_leI (by omega) (by omega)]
      refine ⟨fun _ => hQ mc g1 (fun s hs => g4 s hs ?_) g2, fun z => absurd (Nat.le_refl _) z⟩
      cases hb : B.testBit s with
      | false => exact Or.inl rfl
      | true => exact Or.inr (cntU_B hb (by omega))
    · intro r hr ih mc o2 o3 g1 g2 g3 g4
      have ho' := op_L g1.2 ho
      have hq := qOf_in hr
      have hqn := (hp _ hq.1).1
      refine W2_st (bX5_evaluate_49 mc _ _ _ ?_)
      rw [ho'.1, nI_leI (by omega) (by omega), nI_clamp (n := r) (by omega), ho'.2.2 r hr, nI_clamp (n := qOf B r) (by omega)]
      simp only [nI_add]
      refine ⟨fun z => by omega, fun _ => ⟨inb_nI (by omega) (by omega), c_upperOf ho'.1 h5 (by omega) (g3 r hr) ⟨_, rfl, inb_nI (by omega) (by omega), ?_⟩⟩⟩
      refine ih _ _ _ (offL_L g1 _ _ (Or.inl ⟨rfl, rfl⟩)) (by rw [mL_r, if_neg (by omega)]; exact g2) (fun r' hr' => by rw [mL_r, if_neg (by omega)]; exact g3 r' hr') (fun s hs hc => ?_)
      rw [mL_r]
      by_cases hsq : s = qOf B r
      · rw [if_pos ⟨rfl, rfl, hsq⟩, hsq]
        unfold cW
        rw [if_pos hq.1, hq.2.2]
      · rw [if_neg (fun z => hsq z.2.2)]
        refine g4 s hs ?_
        rcases hc with q | q
        · exact Or.inl q
        · cases hb : B.testBit s with
          | false => exact Or.inl rfl
          | true =>
            refine Or.inr ?_
            have : cntU B s ≠ r := fun e => hsq (by rw [← e, qOf_cnt hb (by omega)])
            omega
  have rows : ∀ r, r ≤ cntB B → ∀ mc o2 o3, offL tPr m mc → (∀ r' j, r' < r → j ≤ cntB B → mc.2 12 (5 * 2 + r') j = lI (cA S B w r' j)) → (W2 xs (callW2 xs (d + 2)) tX5_evaluate [2, 49] none Q 2 [some (vR 21 0), some (vI (nI r)), (o2), (o3)] [] (mc)) := by
    refine upto (cntB B) ?_ ?_
    · intro mc o2 o3 g1 g3
      have ho' := op_L g1.2 ho
      refine W2_st (bX5_evaluate_2 mc _ _ _ ?_)
      rw [ho'.1, nI_leI (by omega) (by omega)]
      refine ⟨fun _ => ?_, fun z => absurd (Nat.le_refl _) z⟩
      refine c_solve h5 ho'.1 a1 a2 a3 g3 (fun m3 e1 e2 e3 => ⟨rfl, ?_⟩)
      have T3 : offL tPr m m3 := offL_trans g1 (offL_sub e1 (fun t j z => by
        rcases z with z | z
        · exact Or.inr (Or.inl z)
        · exact Or.inr (Or.inr (Or.inl z))))
      have T4 : offL tPr m (mL m3 21 0 6 (m3.2 10 2 4)) := offL_L T3 _ _ (Or.inr (Or.inr (Or.inr ⟨rfl, rfl⟩)))
      refine c_fill15 _ (fun m5 f3 f4 => ⟨rfl, ?_⟩)
      refine back 0 (Nat.zero_le _) m5 _ _ (offL_trans T4 (offL_sub f3 (fun t j z => Or.inl z))) (by rw [(f3.1 21 0 (by omega)).2, mL_r, if_pos ⟨rfl, rfl, rfl⟩, e2]; rfl) (fun r hr => by rw [(f3.1 12 (5 * 2 + r) (by omega)).2, mL_r, if_neg (by omega)]; exact e3 r hr) (fun s hs hc => ?_)
      rw [f4 s (by omega), lI_N]
      rcases hc with q | q
      · rw [cW_out q]; rfl
      · omega
    · intro r hr ih mc o2 o3 g1 g3
      have ho' := op_L g1.2 ho
      have hq := qOf_in hr
      have hqn := (hp _ hq.1).1
      have hqa := (hp _ hq.1).2
      have hx := pol_a hw hp hq.1
      have hc1 := wf_c hw hx
      have hR' := RC_L g1.2 hR
      refine W2_st (bX5_evaluate_2 mc _ _ _ ?_)
      rw [ho'.1, nI_leI (by omega) (by omega), nI_clamp (n := r) (by omega), ho'.2.2 r hr, nI_clamp (n := qOf B r) (by omega), g1.2, hway _ hq.1]
      simp only [nI_add]
      refine ⟨fun z => by omega, fun _ => ⟨inb_nI (by omega) (by omega), inb_nI (by omega) (by omega), c_actS hw hqn hqa ⟨_, rfl, ?_⟩⟩⟩
      rw [rc_c hR' hx, pk_mul, lI_i (by omega)]
      refine c_write _ hR' hw ho' h5 hr hx (fun m6 e1 e2 e3 => ⟨rfl, ?_⟩)
      refine ih m6 _ _ (offL_trans g1 (offL_sub e1 (fun t j z => Or.inr (Or.inl ⟨z.1, by have := z.2; omega⟩)))) (fun r' j hr' hj => ?_)
      by_cases hrr : r' = r
      · subst hrr
        unfold cA mA
        by_cases hjk : j = cntB B
        · rw [if_pos hjk, hjk, e3]
          congr 1
        · rw [if_neg hjk, e2 j (by omega)]; rfl
      · rw [(e1.1 12 (5 * 2 + r') (by omega)).2]
        exact g3 r' j (by omega) hj
  exact rows 0 (Nat.zero_le _) m none none (offL_rfl _ _) (fun r' j hr' _ => by omega)
/-- what it costs at once to take ACT x -/
def pri (S : Sys) (V : Nat → Int) (D : Int) (x : Nat) : Int := meanS S x V + D * (12 * (sC S x : Int))
theorem c_pImpS {s X : Nat} {V : Nat → Int} {D : Int} {w : Nat → Nat} (hR : RC m S) (hw : wf S) (hs : s < sN S) (hV : ∀ t, t < sN S → m.2 15 2 t = lI (V t)) (hD : m.2 21 0 6 = lI D) (hVb : ∀ t, (V t).natAbs ≤ 2 ^ 35) (hDb : D.natAbs ≤ 2 ^ 25) (hX : m.1 7 0 8 = nI X) (hws : m.1 9 2 s = nI (w s)) (hwa : w s < sA S s) (hold : pri S V D (4 * s + w s) = 12 * V s) (hQ : ∀ b v m', offI (tW 2) m m' → (∀ t, t ≠ s → m'.1 9 2 t = m.1 9 2 t) → m'.1 9 2 s = nI v → (match b with
    | true => v < sA S s ∧ allInS S (4 * s + v) X = true ∧ pri S V D (4 * s + v) < 12 * V s
    | false => v = w s ∧ ∀ a, a < sA S s → allInS S (4 * s + a) X = true → 12 * V s ≤ pri S V D (4 * s + a)) → Q (some (vI (bI b))) m') : callW2 xs (d + 2) 33 [vR 21 0, vI (nI s)] m Q := by
  have h3 := wf_n hw
  have h4 := wf_a hw hs
  have hmb : ∀ a, a < sA S s → (meanS S (4 * s + a) V).natAbs ≤ 2 ^ 40 ∧ (D * (12 * (sC S (4 * s + a) : Int))).natAbs ≤ 2 ^ 40 := by
    intro a ha
    have hx := isA_mk hs ha (by omega)
    have hu : meanS S (4 * s + a) V ≤ meanS S (4 * s + a) (fun _ => 2 ^ 35) := meanS_le (fun o _ => by have := hVb (sT S (4 * s + a) o); show _ ≤ (2 : Int) ^ 35; omega)
    have hl : meanS S (4 * s + a) (fun _ => - 2 ^ 35) ≤ meanS S (4 * s + a) V := meanS_le (fun o _ => by have := hVb (sT S (4 * s + a) o); show (- (2 : Int) ^ 35) ≤ _; omega)
    rw [meanS_const] at hu hl
    have := wf_ps hw hx
    have hc1 := wf_c hw hx
    refine ⟨by omega, ?_⟩
    rw [Int.natAbs_mul]
    exact Nat.le_trans (Nat.mul_le_mul hDb (show (12 * (sC S (4 * s + a) : Int)).natAbs ≤ 12000 by omega)) (by decide)
  have hpb : ∀ a, a < sA S s → (pri S V D (4 * s + a)).natAbs ≤ 2 ^ 41 := fun a ha => by
    have := hmb a ha
    unfold pri
    omega
  have hVs := hVb s
  refine eX5_improveState m _ (W2_st (bX5_improveState_0 m _ ?_))
  rw [nI_clamp (by omega), hws, hV s hs, lI_N, lI_mul]
  refine ⟨inb_nI (by omega) (by omega), inb_nI (by omega) (by omega), ?_⟩
  have key : ∀ a, a ≤ sA S s → ∀ (best : Int) v mc o6 o7, offI (tW 2) m mc → (∀ t, t ≠ s → mc.1 9 2 t = m.1 9 2 t) → mc.1 9 2 s = nI v → (v = w s ∧ best = 12 * V s ∨ v < sA S s ∧ allInS S (4 * s + v) X = true ∧ best = pri S V D (4 * s + v) ∧ best < 12 * V s) → (∀ a', a' < a → allInS S (4 * s + a') X = true → best ≤ pri S V D (4 * s + a')) → (W2 xs (callW2 xs (d + 1)) tX5_improveState [15] (some .boolean) Q 15 [some (vR 21 0), some (vI (nI s)), some (vI (nI (w s))), some (vL (lI best)), none, some (vI (nI a)), (o6), (o7), none] [] (mc)) := by
    refine upto (sA S s) ?_ ?_
    · intro best v mc o6 o7 g1 g2 g3 g4 g5
      have hR' := RC_W g1 hw hR
      refine W2_st (bX5_improveState_15 mc _ _ _ _ _ _ ?_)
      rw [nI_clamp (by omega), rc_a hR' hs, nI_leI (by omega) (by omega), g3]
      have hv4 : v < 4 := by rcases g4 with q | q <;> omega
      rw [nI_eq (by omega) (by omega)]
      refine ⟨inb_nI (by omega) (by omega), fun _ => ⟨inb_nI (by omega) (by omega), fun he => ⟨isB0, ?_⟩, fun hne => ⟨isB1, ?_⟩⟩, fun z => absurd (Nat.le_refl _) z⟩
      · refine hQ false v mc g1 g2 g3 ⟨he, fun a ha hA => ?_⟩
        rcases g4 with ⟨_, q⟩ | ⟨_, _, q1, q2⟩
        · rw [← q]; exact g5 a ha hA
        · rw [he, hold] at q1; omega
      · rcases g4 with ⟨q, _⟩ | ⟨q0, qa, q1, q2⟩
        · exact absurd q hne
        · rw [q1] at q2
          exact hQ true v mc g1 g2 g3 ⟨q0, qa, q2⟩
    · intro a ha ih best v mc o6 o7 g1 g2 g3 g4 g5
      have hR' := RC_W g1 hw hR
      have hx := isA_mk hs ha (by omega)
      have hc1 := wf_c hw hx
      have hma := hmb a ha
      have hpa := hpb a ha
      have hbb : best.natAbs ≤ 2 ^ 41 := by
        rcases g4 with ⟨_, q⟩ | ⟨q0, _, q1, _⟩
        · omega
        · rw [q1]; exact hpb v q0
      have hX' : mc.1 7 0 8 = nI X := by rw [(g1.1 7 0 (by unfold tW; omega)).1]; exact hX
      have hD' : mc.2 21 0 6 = lI D := by rw [g1.2]; exact hD
      refine W2_st (bX5_improveState_15 mc _ _ _ _ _ _ ?_)
      rw [nI_clamp (by omega), rc_a hR' hs, nI_leI (by omega) (by omega)]
      simp only [nI_add]
      refine ⟨inb_nI (by omega) (by omega), fun z => by omega, fun _ => c_actS hw hs ha ⟨_, rfl, c_meanS hR' hw hx (fun t ht => by rw [g1.2]; exact hV t ht) ⟨_, rfl, ?_⟩⟩⟩
      rw [hX', rc_c hR' hx, pk_mul, lI_i (by omega), hD', lI_mul, lI_add]
      have ep : ((12 * sC S (4 * s + a) : Nat) : Int) * D + meanS S (4 * s + a) V = pri S V D (4 * s + a) := by
        unfold pri
        rw [Int.natCast_mul, Int.add_comm, Int.mul_comm]
        rfl
      rw [ep]
      refine c_staysIn hR' hx hw ⟨_, rfl, ?_⟩
      rw [lg_cmp_ge, lI_le (by omega) (by omega) (by omega) (by omega), bI_0]
      have keep : (allInS S (4 * s + a) X = true → best ≤ pri S V D (4 * s + a)) → ∀ o6 o7, (W2 xs (callW2 xs (d + 1)) tX5_improveState [15] (some .boolean) Q 15 [some (vR 21 0), some (vI (nI s)), some (vI (nI (w s))), some (vL (lI best)), none, some (vI (nI (a + 1))), (o6), (o7), none] [] (mc)) := by
        intro hn o6 o7
        refine ih best v mc o6 o7 g1 g2 g3 g4 (fun a' ha' hA => ?_)
        rcases Nat.lt_or_ge a' a with q | q
        · exact g5 a' q hA
        · have e : a' = a := by omega
          rw [e] at hA ⊢; exact hn hA
      refine ⟨fun hn => keep (fun z => by rw [hn] at z; cases z) _ _, fun hy => ⟨fun hle => keep (fun _ => hle) _ _, fun hlt => ⟨inb_nI (by omega) (by omega), ?_⟩⟩⟩
      rw [Bool.not_eq_false] at hy
      refine ih (pri S V D (4 * s + a)) a _ _ _ (offI_I g1 _ _ ⟨rfl, rfl⟩) (fun t ht => by rw [mI_r, if_neg (fun z => ht z.2.2)]; exact g2 t ht) (by rw [mI_r, if_pos ⟨rfl, rfl, rfl⟩]) (Or.inr ⟨ha, hy, rfl, ?_⟩) (fun a' ha' hA => ?_)
      · rcases g4 with ⟨_, q⟩ | ⟨_, _, _, q⟩ <;> omega
      · rcases Nat.lt_or_ge a' a with q | q
        · have := g5 a' q hA; omega
        · have e : a' = a := by omega
          rw [e]; exact Int.le_refl _
  exact key 0 (Nat.zero_le _) (12 * V s) (w s) m none none (offI_rfl _ _) (fun _ _ => rfl) hws (Or.inl ⟨rfl, rfl⟩) (fun a' ha' => by omega)
theorem c_pImp {B X : Nat} {V : Nat → Int} {D : Int} {w : Nat → Nat} (hR : RC m S) (hw : wf S) (ho : opened m 2 B) (h5 : cntB B ≤ 5) (hV : ∀ t, t < sN S → m.2 15 2 t = lI (V t)) (hD : m.2 21 0 6 = lI D) (hVb : ∀ t, (V t).natAbs ≤ 2 ^ 35) (hDb : D.natAbs ≤ 2 ^ 25) (hX : m.1 7 0 8 = nI X) (hp : pol S B w) (hway : ∀ s, B.testBit s = true → m.1 9 2 s = nI (w s)) (hold : ∀ s, B.testBit s = true → pri S V D (4 * s + w s) = 12 * V s) (hQ : ∀ (b : Bool) (w' : Nat → Nat) m', offI (tW 2) m m' → (∀ s, B.testBit s = true → m'.1 9 2 s = nI (w' s)) → (∀ s, B.testBit s = true → (w' s = w s ∧ ∀ a, a < sA S s → allInS S (4 * s + a) X = true → 12 * V s ≤ pri S V D (4 * s + a)) ∨ (w' s < sA S s ∧ allInS S (4 * s + w' s) X = true ∧ pri S V D (4 * s + w' s) < 12 * V s)) → (b = true ↔ ∃ s, B.testBit s = true ∧ pri S V D (4 * s + w' s) < 12 * V s) → Q (some (vI (bI b))) m') : callW2 xs (d + 3) 32 [vR 21 0] m Q := by
  have h3 := wf_n hw
  refine eX5_improve m (W2_st (bX5_improve_0 m ?_))
  have key : ∀ r, r ≤ cntB B → ∀ (b : Bool) (wc : Nat → Nat) mc, offI (tW 2) m mc → (∀ s, B.testBit s = true → mc.1 9 2 s = nI (wc s)) → (∀ s, B.testBit s = true → r ≤ cntU B s → wc s = w s) → (∀ s, B.testBit s = true → cntU B s < r → (wc s = w s ∧ ∀ a, a < sA S s → allInS S (4 * s + a) X = true → 12 * V s ≤ pri S V D (4 * s + a)) ∨ (wc s < sA S s ∧ allInS S (4 * s + wc s) X = true ∧ pri S V D (4 * s + wc s) < 12 * V s)) → (b = true ↔ ∃ s, B.testBit s = true ∧ cntU B s < r ∧ pri S V D (4 * s + wc s) < 12 * V s) → (W2 xs (callW2 xs (d + 2)) tX5_improve [4] (some .boolean) Q 4 [some (vR 21 0), some (vI (bI b)), some (vI (nI r))] [] (mc)) := by
    refine upto (cntB B) ?_ ?_
    · intro b wc mc g1 g2 g3 g4 g5
      refine W2_st (bX5_improve_4 mc _ _ ?_)
      rw [(op_W g1 ho).1, nI_leI (by omega) (by omega)]
      refine ⟨fun _ => ⟨(isB_bI _).mpr trivial, hQ b wc mc g1 g2 (fun s hs => g4 s hs (cntU_B hs (Nat.lt_of_lt_of_le (hp s hs).1 h3))) ?_⟩, fun z => absurd (Nat.le_refl _) z⟩
      rw [g5]
      constructor
      · rintro ⟨s, q1, _, q4⟩; exact ⟨s, q1, q4⟩
      · rintro ⟨s, q1, q4⟩; exact ⟨s, q1, cntU_B q1 (Nat.lt_of_lt_of_le (hp s q1).1 h3), q4⟩
    · intro r hr ih b wc mc g1 g2 g3 g4 g5
      have ho' := op_W g1 ho
      have hq := qOf_in hr
      have hqn := (hp _ hq.1).1
      have hR' := RC_W g1 hw hR
      have hcnt : ∀ s, B.testBit s = true → s ≠ qOf B r → cntU B s ≠ r := fun s hs hne e => hne (by rw [← e, qOf_cnt hs (Nat.lt_of_lt_of_le (hp s hs).1 h3)])
      have hwq : wc (qOf B r) = w (qOf B r) := g3 _ hq.1 (by rw [hq.2.2]; exact Nat.le_refl _)
      refine W2_st (bX5_improve_4 mc _ _ ?_)
      rw [ho'.1, nI_leI (by omega) (by omega), nI_clamp (n := r) (by omega), ho'.2.2 r hr]
      simp only [nI_add]
      refine ⟨fun z => by omega, fun _ => ⟨inb_nI (by omega) (by omega), ?_⟩⟩
      refine c_pImpS (w := wc) (X := X) (V := V) (D := D) hR' hw hqn (fun t ht => by rw [g1.2]; exact hV t ht) (by rw [g1.2]; exact hD) hVb hDb (by rw [(g1.1 7 0 (by unfold tW; omega)).1]; exact hX) (g2 _ hq.1) (by rw [hwq]; exact (hp _ hq.1).2) (by rw [hwq]; exact hold _ hq.1) (fun b' v m5 f1 f2 f3 f4 => ⟨_, rfl, ?_⟩)
      rw [bI_or]
      refine ih (b || b') (fun s => if s = qOf B r then v else wc s) m5 (offI_trans g1 f1) (fun s hs => ?_) (fun s hs hc => ?_) (fun s hs hc => ?_) ?_
      · by_cases hsq : s = qOf B r
        · rw [if_pos hsq, hsq]; exact f3
        · rw [if_neg hsq, f2 s hsq]; exact g2 s hs
      · have hsq : s ≠ qOf B r := fun e => by rw [e, hq.2.2] at hc; omega
        show (if s = qOf B r then v else wc s) = w s
        rw [if_neg hsq]
        exact g3 s hs (by omega)
      · by_cases hsq : s = qOf B r
        · subst hsq
          rw [if_pos rfl]
          cases b' with
          | true => exact Or.inr f4
          | false => exact Or.inl ⟨f4.1.trans hwq, f4.2⟩
        · rw [if_neg hsq]
          exact g4 s hs (by have := hcnt s hs hsq; omega)
      · rw [Bool.or_eq_true, g5]
        constructor
        · rintro (⟨s, q1, q2, q4⟩ | hb')
          · have hsq : s ≠ qOf B r := fun e => by rw [e, hq.2.2] at q2; omega
            exact ⟨s, q1, by omega, by rw [if_neg hsq]; exact q4⟩
          · subst hb'
            exact ⟨qOf B r, hq.1, by rw [hq.2.2]; omega, by rw [if_pos rfl]; exact f4.2.2⟩
        · rintro ⟨s, q1, q2, q4⟩
          by_cases hsq : s = qOf B r
          · refine Or.inr ?_
            cases b' with
            | true => rfl
            | false =>
              rw [if_pos hsq, hsq, f4.1, hwq, hold _ hq.1] at q4
              omega
          · rw [if_neg hsq] at q4
            exact Or.inl ⟨s, q1, by have := hcnt s q1 hsq; omega, q4⟩
  exact key 0 (Nat.zero_le _) false w m (offI_rfl _ _) hway (fun _ _ _ => rfl) (fun s hs hc => by omega) ⟨fun z => (by cases z), fun ⟨s, _, q, _⟩ => (by omega)⟩
end L84
