/-! CONTRACTS (21): the class's verdict: evaluate, improve (wip/whole/src/71.evalC.src) -/
section L71
variable {xs : Nat × (Nat → Int32)} {d : Nat} {Q : Option v2 → Mem → Prop} {m : Mem} {S : Sys}
theorem RC_L {m m' : Mem} (h : m'.1 = m.1) (hR : RC m S) : RC m' S := by unfold RC RCa at hR ⊢; rw [h]; exact hR
theorem op_L {m m' : Mem} {e U : Nat} (h : m'.1 = m.1) (ho : opened m e U) : opened m' e U := by unfold opened at ho ⊢; rw [h]; exact ho
theorem c_setSure {i X : Nat} (v : Int64) (hR : RC m S) (hw : wf S) (hX : m.1 7 i 8 = nI X) (hX10 : X < 1024) (hQ : ∀ m', offL (fun t j => t = 15 ∧ j = i) m m' → (∀ s, s < sN S → m'.2 15 i s = if X.testBit s = true then v else lI 0) → Q none m') : callW2 xs (d + 2) 52 [vR 7 i, vL v] m Q := by
  have h3 := wf_n hw
  refine eX8_setSureTo m _ _ (W2_st (bX8_setSureTo_0 m _ _ ?_))
  have key : ∀ s, s ≤ sN S → ∀ mc, offL (fun t j => t = 15 ∧ j = i) m mc → (∀ t, t < s → mc.2 15 i t = if X.testBit t = true then v else lI 0) → (W2 xs (callW2 xs (d + 1)) tX8_setSureTo [2] none Q 2 [some (vR 7 (i)), some (vL (v)), none, some (vI (nI s))] [] (mc)) := by
    refine upto (sN S) ?_ ?_
    · intro mc g1 g2
      refine W2_st (bX8_setSureTo_2 mc _ _ _ ?_)
      rw [rc_n (RC_L g1.2 hR), nI_leI (by omega) (by omega)]
      exact ⟨fun _ => hQ mc g1 g2, fun z => absurd (Nat.le_refl _) z⟩
    · intro s hs ih mc g1 g2
      refine W2_st (bX8_setSureTo_2 mc _ _ _ ?_)
      have hX' : mc.1 7 i 8 = nI X := by rw [g1.2]; exact hX
      rw [rc_n (RC_L g1.2 hR), nI_leI (by omega) (by omega), hX', nI_clamp (by omega), nI_add]
      refine ⟨fun z => by omega, fun _ => c_has (by omega) (by omega) ⟨_, rfl, ?_⟩⟩
      rw [bI_0]
      have nxt : ∀ v', v' = (if X.testBit s = true then v else lI 0) → (W2 xs (callW2 xs (d + 1)) tX8_setSureTo [2] none Q 2 [some (vR 7 (i)), some (vL (v)), none, some (vI (nI (s + 1)))] [] (mL mc 15 i s v')) := by
        intro v' hv
        refine ih _ (offL_L g1 _ _ ⟨rfl, rfl⟩) (fun t ht => ?_)
        rw [mL_r]
        by_cases hts : t = s
        · rw [if_pos ⟨rfl, rfl, hts⟩, hv, hts]
        · rw [if_neg (fun z => hts z.2.2)]; exact g2 t (by omega)
      refine ⟨fun hb => ⟨inb_nI (by omega) (by omega), nxt _ ?_⟩, fun hb => ⟨inb_nI (by omega) (by omega), nxt _ ?_⟩⟩
      · rw [if_neg (by rw [hb]; simp), lI_N]; rfl
      · rw [Bool.not_eq_false] at hb; rw [if_pos hb]
  exact key 0 (Nat.zero_le _) m (offL_rfl _ _) (fun t ht => by omega)
def tEv (i : Nat) : Nat → Nat → Prop := fun t j => t = 15 ∧ j = i ∨ t = 12 ∧ j / 5 = i ∨ t = 10 ∧ j = i ∨ t = 7 ∧ j = i
/-- the matrix of the open STATES -/
def sysA (S : Sys) (B X : Nat) (w : Nat → Nat) : Nat → Nat → Int := mA (cntB B) (rowP S B w) (fun r => toG S X (4 * qOf B r + w (qOf B r)))
theorem sysA_facts {B X : Nat} {w : Nat → Nat} (hw : wf S) (hf : full S) (hp : pol S B w) (hL : lkS S B w) : (∀ r j, r < cntB B → j < cntB B → (sysA S B X w r j).natAbs ≤ 12) ∧ (∀ r, r < cntB B → (sysA S B X w r (cntB B)).natAbs ≤ 12) ∧ ∀ k, k ≤ cntB B → 0 < det k (sysA S B X w) := by
  have hlk := lk_leak hw hf hp hL
  refine ⟨fun r j hr hj => ?_, fun r hr => ?_, fun k hk => mA_pos hlk k hk⟩
  · have hle := hlk.2.1 r hr
    have hnn : ∀ j, j < cntB B → 0 ≤ rowP S B w r j := fun j hj => pU_nn _ _
    have h1 := hnn j hj
    have h2 := sumI_splitj (f := rowP S B w r) (k := 0) (n := cntB B) (j := j) (Nat.zero_le _) hj hnn
    simp only [sumI] at h2
    unfold sysA mA
    rw [if_neg (by omega)]
    split <;> omega
  · unfold sysA mA
    rw [if_pos rfl]
    have := toG_le (G := X) hw (pol_a hw hp (qOf_in hr).1)
    show (toG S X _).natAbs ≤ 12
    omega
theorem solW_le {B X : Nat} {w : Nat → Nat} (hw : wf S) (hf : full S) (hp : pol S B w) (hL : lkS S B w) (h5 : cntB B ≤ 5) (s : Nat) : (solW S B X w s).natAbs ≤ 2 ^ 25 ∧ (solD S B X w).natAbs ≤ 2 ^ 25 := by
  obtain ⟨h1, h2, h3⟩ := sysA_facts (X := X) hw hf hp hL
  have hD : (solD S B X w).natAbs ≤ 2 ^ 25 := Nat.le_trans (det_le (w := fun _ => 12) (fun r j hr hj => h1 r j hr hj)) (wb4 _ (by omega))
  refine ⟨?_, hD⟩
  unfold solW
  split
  · show (det _ (setC (sysA S B X w) _ (fun r => sysA S B X w r (cntB B)))).natAbs ≤ _
    refine Nat.le_trans (det_le (w := fun _ => 12) (fun r j hr hj => ?_)) (wb4 _ (by omega))
    unfold setC
    split
    · exact h2 r hr
    · exact h1 r j hr hj
  · split
    · exact hD
    · decide
/-- Verdict.evaluate() -/
theorem c_evaluate {i B X : Nat} {w : Nat → Nat} (hR : RC m S) (hw : wf S) (hf : full S) (ho : opened m i B) (h5 : cntB B ≤ 5) (hp : pol S B w) (hL : lkS S B w) (hway : ∀ s, B.testBit s = true → m.1 9 i s = nI (w s)) (hX : m.1 7 i 8 = nI X) (hX10 : X < 1024) (hd : ∀ s, X.testBit s = true → B.testBit s = false) (hQ : ∀ m', offL (tEv i) m m' → (∀ s, s < sN S → m'.2 15 i s = lI (solW S B X w s)) → m'.2 7 i 7 = lI (solD S B X w) → Q none m') : callW2 xs (d + 3) 51 [vR 7 i] m Q := by
  have h3 := wf_n hw
  obtain ⟨a1, a2, a3⟩ := sysA_facts (X := X) hw hf hp hL
  refine eX8_evaluate m _ (W2_st (bX8_evaluate_0 m _ ?_))
  refine c_setSure _ hR hw hX hX10 (fun m2 f1 f2 => ⟨rfl, ?_⟩)
  have T1 : offL (tEv i) m m2 := offL_sub f1 (fun t j z => Or.inl z)
  -- the answers come back
  have back : ∀ r, r ≤ cntB B → ∀ mc o2 o3, offL (tEv i) m mc → mc.2 7 i 7 = lI (solD S B X w) → (∀ r, r < cntB B → mc.2 12 (5 * i + r) (cntB B) = lI (cr (sysA S B X w) (cntB B) r (cntB B))) → (∀ s, s < sN S → (B.testBit s = false ∨ cntU B s < r) → mc.2 15 i s = lI (solW S B X w s)) → (W2 xs (callW2 xs (d + 2)) tX8_evaluate [5, 51] none Q 51 [some (vR 7 (i)), some (vI (nI r)), (o2), (o3)] [] (mc)) := by
    refine upto (cntB B) ?_ ?_
    · intro mc o2 o3 g1 g2 g3 g4
      refine W2_st (bX8_evaluate_51 mc _ _ _ _ ?_)
      rw [(op_L g1.2 ho).1, nI_leI (by omega) (by omega)]
      refine ⟨fun _ => hQ mc g1 (fun s hs => g4 s hs ?_) g2, fun z => absurd (Nat.le_refl _) z⟩
      cases hb : B.testBit s with
      | false => exact Or.inl rfl
      | true => exact Or.inr (cntU_B hb (by omega))
    · intro r hr ih mc o2 o3 g1 g2 g3 g4
      have ho' := op_L g1.2 ho
      have hq := qOf_in hr
      have hqn := (hp _ hq.1).1
      refine W2_st (bX8_evaluate_51 mc _ _ _ _ ?_)
      rw [ho'.1, nI_leI (by omega) (by omega), nI_clamp (by omega), ho'.2.2 r hr, nI_clamp (by omega), nI_add]
      refine ⟨fun z => by omega, fun _ => ⟨inb_nI (by omega) (by omega), c_upperOf ho'.1 h5 (by omega) (g3 r hr) ⟨_, rfl, inb_nI (by omega) (by omega), ?_⟩⟩⟩
      refine ih _ _ _ (offL_L g1 _ _ (Or.inl ⟨rfl, rfl⟩)) (by rw [mL_r, if_neg (by omega)]; exact g2) (fun r' hr' => by rw [mL_r, if_neg (by omega)]; exact g3 r' hr') (fun s hs hc => ?_)
      rw [mL_r]
      by_cases hsq : s = qOf B r
      · rw [if_pos ⟨rfl, rfl, hsq⟩, hsq]
        unfold solW
        rw [if_pos hq.1, hq.2.2]
        rfl
      · rw [if_neg (fun z => hsq z.2.2)]
        refine g4 s hs ?_
        rcases hc with q | q
        · exact Or.inl q
        · cases hb : B.testBit s with
          | false => exact Or.inl rfl
          | true =>
            refine Or.inr ?_
            have : cntU B s ≠ r := fun e => hsq (by rw [← e, qOf_cnt hb (by omega)])
            omega
  -- the rows
  have rows : ∀ r, r ≤ cntB B → ∀ mc o2 o3, offL (tEv i) m mc → mc.2 15 i = m2.2 15 i → (∀ r' j, r' < r → j ≤ cntB B → mc.2 12 (5 * i + r') j = lI (sysA S B X w r' j)) → (W2 xs (callW2 xs (d + 2)) tX8_evaluate [5, 51] none Q 5 [some (vR 7 (i)), some (vI (nI r)), (o2), (o3)] [] (mc)) := by
    refine upto (cntB B) ?_ ?_
    · intro mc o2 o3 g1 g2 g3
      have ho' := op_L g1.2 ho
      refine W2_st (bX8_evaluate_5 mc _ _ _ _ ?_)
      rw [ho'.1, nI_leI (by omega) (by omega)]
      refine ⟨fun _ => ?_, fun z => absurd (Nat.le_refl _) z⟩
      refine c_solve h5 ho'.1 a1 (fun r hr => Nat.le_trans (a2 r hr) (by omega)) a3 g3 (fun m3 e1 e2 e3 => ⟨rfl, ?_⟩)
      have T3 : offL (tEv i) m m3 := offL_trans g1 (offL_sub e1 (fun t j z => by
        rcases z with z | z
        · exact Or.inr (Or.inl z)
        · exact Or.inr (Or.inr (Or.inl z))))
      have e7 : (mL m3 7 i 7 (m3.2 10 i 4)).2 7 i 7 = lI (solD S B X w) := by rw [mL_r, if_pos ⟨rfl, rfl, rfl⟩, e2]; rfl
      have T4 : offL (tEv i) m (mL m3 7 i 7 (m3.2 10 i 4)) := offL_L T3 _ _ (Or.inr (Or.inr (Or.inr ⟨rfl, rfl⟩)))
      rw [e7]
      refine c_setSure (X := X) _ (RC_L T4.2 hR) hw (by rw [T4.2]; exact hX) hX10 (fun m5 f3 f4 => ⟨rfl, ?_⟩)
      refine back 0 (Nat.zero_le _) m5 _ _ (offL_trans T4 (offL_sub f3 (fun t j z => Or.inl z))) (by rw [(f3.1 7 i (by omega)).2]; exact e7) (fun r hr => by rw [(f3.1 12 (5 * i + r) (by omega)).2, mL_r, if_neg (by omega)]; exact e3 r hr) (fun s hs hc => ?_)
      rw [f4 s hs]
      rcases hc with q | q
      · unfold solW solD
        rw [if_neg (show ¬ B.testBit s = true by rw [q]; simp)]
        split <;> rfl
      · omega
    · intro r hr ih mc o2 o3 g1 g2 g3
      have ho' := op_L g1.2 ho
      have hq := qOf_in hr
      have hqn := (hp _ hq.1).1
      have hqa := (hp _ hq.1).2
      have hx := pol_a hw hp hq.1
      have hR' := RC_L g1.2 hR
      refine W2_st (bX8_evaluate_5 mc _ _ _ _ ?_)
      rw [ho'.1, nI_leI (by omega) (by omega), nI_clamp (n := r) (by omega), ho'.2.2 r hr, nI_clamp (n := qOf B r) (by omega), g1.2, hway _ hq.1]
      simp only [nI_add]
      refine ⟨fun z => by omega, fun _ => ⟨inb_nI (by omega) (by omega), inb_nI (by omega) (by omega), c_actS hw hqn hqa ⟨_, rfl, ?_⟩⟩⟩
      refine c_meanS (u := fun t => if X.testBit t = true then 1 else 0) hR' hw hx (fun t ht => by rw [g2, f2 t ht, lI_N]; split <;> rfl) ⟨_, rfl, ?_⟩
      refine c_write _ hR' hw ho' h5 hr hx (fun m6 e1 e2 e3 => ⟨rfl, ?_⟩)
      refine ih m6 _ _ (offL_trans g1 (offL_sub e1 (fun t j z => Or.inr (Or.inl ⟨z.1, by have := z.2; omega⟩)))) (by rw [(e1.1 15 i (by omega)).2]; exact g2) (fun r' j hr' hj => ?_)
      by_cases hrr : r' = r
      · subst hrr
        unfold sysA mA
        by_cases hjk : j = cntB B
        · rw [if_pos hjk, hjk, e3]; rfl
        · rw [if_neg hjk, e2 j (by omega)]; rfl
      · rw [(e1.1 12 (5 * i + r') (by omega)).2]
        exact g3 r' j (by omega) hj
  exact rows 0 (Nat.zero_le _) m2 none none T1 rfl (fun r' j hr' _ => by omega)
/-- one number is better than another to this side -/
def btr (seeks : Bool) (a b : Int) : Prop := match seeks with
  | true => b < a
  | false => a < b
/-- Verdict.improveState(s, seeks) -/
theorem c_improveState {i s : Nat} {V : Nat → Int} {w : Nat → Nat} (seeks : Bool) (hR : RC m S) (hw : wf S) (hs : s < sN S) (hV : ∀ t, t < sN S → m.2 15 i t = lI (V t)) (hVb : ∀ t, (V t).natAbs ≤ 2 ^ 25) (hws : m.1 9 i s = nI (w s)) (hwa : w s < sA S s) (hold : meanS S (4 * s + w s) V = 12 * V s) (hQ : ∀ b v m', offI (tW i) m m' → (∀ t, t ≠ s → m'.1 9 i t = m.1 9 i t) → m'.1 9 i s = nI v → (match b with
    | true => v < sA S s ∧ btr seeks (meanS S (4 * s + v) V) (12 * V s)
    | false => v = w s ∧ ∀ a, a < sA S s → ¬ btr seeks (meanS S (4 * s + a) V) (12 * V s)) → Q (some (vI (bI b))) m') : callW2 xs (d + 2) 54 [vR 7 i, vI (nI s), vI (bI seeks)] m Q := by
  have h3 := wf_n hw
  have h4 := wf_a hw hs
  have hmb : ∀ a, a < sA S s → (meanS S (4 * s + a) V).natAbs ≤ 2 ^ 30 := by
    intro a ha
    have hx := isA_mk hs ha (by omega)
    have hu : meanS S (4 * s + a) V ≤ meanS S (4 * s + a) (fun _ => 2 ^ 25) := meanS_le (fun o _ => by have := hVb (sT S (4 * s + a) o); show _ ≤ (2 : Int) ^ 25; omega)
    have hl : meanS S (4 * s + a) (fun _ => - 2 ^ 25) ≤ meanS S (4 * s + a) V := meanS_le (fun o _ => by have := hVb (sT S (4 * s + a) o); show (- (2 : Int) ^ 25) ≤ _; omega)
    rw [meanS_const] at hu hl
    have := wf_ps hw hx
    omega
  have hVs := hVb s
  refine eX8_improveState m _ _ _ (W2_st (bX8_improveState_0 m _ _ _ ?_))
  rw [nI_clamp (by omega), hws, hV s hs, lI_N, lI_mul]
  refine ⟨inb_nI (by omega) (by omega), inb_nI (by omega) (by omega), ?_⟩
  have key : ∀ a, a ≤ sA S s → ∀ (best : Int) v mc o7, offI (tW i) m mc → (∀ t, t ≠ s → mc.1 9 i t = m.1 9 i t) → mc.1 9 i s = nI v → (v = w s ∧ best = 12 * V s ∨ v < sA S s ∧ best = meanS S (4 * s + v) V ∧ btr seeks best (12 * V s)) → (∀ a', a' < a → ¬ btr seeks (meanS S (4 * s + a') V) best) → (W2 xs (callW2 xs (d + 1)) tX8_improveState [15] (some .boolean) Q 15 [some (vR 7 (i)), some (vI (nI s)), some (vI (bI seeks)), some (vI (nI (w s))), some (vL (lI best)), none, some (vI (nI a)), (o7), none] [] (mc)) := by
    refine upto (sA S s) ?_ ?_
    · intro best v mc o7 g1 g2 g3 g4 g5
      have hR' := RC_W g1 hw hR
      refine W2_st (bX8_improveState_15 mc _ _ _ _ _ _ _ ?_)
      rw [nI_clamp (by omega), rc_a hR' hs, nI_leI (by omega) (by omega), g3]
      have hv4 : v < 4 := by rcases g4 with q | q <;> omega
      rw [nI_eq (by omega) (by omega)]
      refine ⟨inb_nI (by omega) (by omega), fun _ => ⟨inb_nI (by omega) (by omega), fun he => ⟨isB0, ?_⟩, fun hne => ⟨isB1, ?_⟩⟩, fun z => absurd (Nat.le_refl _) z⟩
      · refine hQ false v mc g1 g2 g3 ⟨he, fun a ha => ?_⟩
        rcases g4 with ⟨_, q⟩ | ⟨_, q1, q2⟩
        · rw [← q]; exact g5 a ha
        · rw [he, hold] at q1
          rw [q1] at q2
          cases seeks <;> exact absurd q2 (Int.lt_irrefl _)
      · rcases g4 with ⟨q, _⟩ | ⟨q0, q1, q2⟩
        · exact absurd q hne
        · rw [q1] at q2
          exact hQ true v mc g1 g2 g3 ⟨q0, q2⟩
    · intro a ha ih best v mc o7 g1 g2 g3 g4 g5
      have hR' := RC_W g1 hw hR
      have hx := isA_mk hs ha (by omega)
      have hma := hmb a ha
      have hbb : best.natAbs ≤ 2 ^ 30 := by
        rcases g4 with ⟨_, q⟩ | ⟨q0, q1, _⟩
        · omega
        · rw [q1]; exact hmb v q0
      refine W2_st (bX8_improveState_15 mc _ _ _ _ _ _ _ ?_)
      rw [nI_clamp (by omega), rc_a hR' hs, nI_leI (by omega) (by omega)]
      simp only [nI_add]
      refine ⟨inb_nI (by omega) (by omega), fun z => by omega, fun _ => c_actS hw hs ha ⟨_, rfl, c_meanS hR' hw hx (fun t ht => by rw [g1.2]; exact hV t ht) ⟨_, rfl, ?_⟩⟩⟩
      rw [lg_cmp_ge, lg_cmp_le, lI_le (by omega) (by omega) (by omega) (by omega), lI_le (by omega) (by omega) (by omega) (by omega), bI_0]
      have keep : ¬ btr seeks (meanS S (4 * s + a) V) best → ∀ o7, (W2 xs (callW2 xs (d + 1)) tX8_improveState [15] (some .boolean) Q 15 [some (vR 7 (i)), some (vI (nI s)), some (vI (bI seeks)), some (vI (nI (w s))), some (vL (lI best)), none, some (vI (nI (a + 1))), (o7), none] [] (mc)) := by
        intro hn o7
        refine ih best v mc o7 g1 g2 g3 g4 (fun a' ha' => ?_)
        rcases Nat.lt_or_ge a' a with q | q
        · exact g5 a' q
        · rw [show a' = a by omega]; exact hn
      have take : btr seeks (meanS S (4 * s + a) V) best → ∀ o7, (W2 xs (callW2 xs (d + 1)) tX8_improveState [15] (some .boolean) Q 15 [some (vR 7 (i)), some (vI (nI s)), some (vI (bI seeks)), some (vI (nI (w s))), some (vL (lI (meanS S (4 * s + a) V))), none, some (vI (nI (a + 1))), (o7), none] [] (mI mc 9 i s (nI a))) := by
        intro hy o7
        refine ih (meanS S (4 * s + a) V) a _ o7 (offI_I g1 _ _ ⟨rfl, rfl⟩) (fun t ht => by rw [mI_r, if_neg (fun z => ht z.2.2)]; exact g2 t ht) (by rw [mI_r, if_pos ⟨rfl, rfl, rfl⟩]) (Or.inr ⟨ha, rfl, ?_⟩) (fun a' ha' => ?_)
        · rcases g4 with ⟨_, q⟩ | ⟨_, _, q⟩
          · rw [← q]; exact hy
          · cases seeks
            · have h1 : meanS S (4 * s + a) V < best := hy
              have h2 : best < 12 * V s := q
              exact (show meanS S (4 * s + a) V < 12 * V s by omega)
            · have h1 : best < meanS S (4 * s + a) V := hy
              have h2 : 12 * V s < best := q
              exact (show 12 * V s < meanS S (4 * s + a) V by omega)
        · rcases Nat.lt_or_ge a' a with q | q
          · intro hb
            have h5 := g5 a' q
            cases seeks
            · have h1 : meanS S (4 * s + a) V < best := hy
              have h2 : meanS S (4 * s + a') V < meanS S (4 * s + a) V := hb
              exact h5 (show meanS S (4 * s + a') V < best by omega)
            · have h1 : best < meanS S (4 * s + a) V := hy
              have h2 : meanS S (4 * s + a) V < meanS S (4 * s + a') V := hb
              exact h5 (show best < meanS S (4 * s + a') V by omega)
          · rw [show a' = a by omega]
            intro hb
            cases seeks <;> exact absurd hb (Int.lt_irrefl _)
      refine ⟨fun hq => ⟨fun hle => ?_, fun hlt => ⟨inb_nI (by omega) (by omega), ?_⟩⟩, fun hq => ⟨fun hle => ?_, fun hlt => ⟨inb_nI (by omega) (by omega), ?_⟩⟩⟩
      · subst hq; exact keep (show ¬ meanS S (4 * s + a) V < best by omega) _
      · subst hq; exact take (show meanS S (4 * s + a) V < best by omega) _
      · rw [Bool.not_eq_false] at hq; subst hq; exact keep (show ¬ best < meanS S (4 * s + a) V by omega) _
      · rw [Bool.not_eq_false] at hq; subst hq; exact take (show best < meanS S (4 * s + a) V by omega) _
  exact key 0 (Nat.zero_le _) (12 * V s) (w s) m none (offI_rfl _ _) (fun _ _ => rfl) hws (Or.inl ⟨rfl, rfl⟩) (fun a' ha' => by omega)
end L71
