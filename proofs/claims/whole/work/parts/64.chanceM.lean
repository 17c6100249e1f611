/-! CONTRACTS (13): the reference's chances (wip/whole/src/64.chanceM.src) -/
def tCh : Nat → Nat → Prop := fun t j => (t = 40 ∨ t = 47 ∨ t = 49 ∨ t = 50 ∨ t = 51 ∨ t = 52 ∨ t = 53) ∧ j = 0
/-- what chances() may change -/
def chM (m mc : Mem) : Prop := off tCh m mc ∧ ∀ k, k ≠ 12 → mc.1 40 0 k = m.1 40 0 k
theorem chM_rfl (m : Mem) : chM m m := ⟨off_rfl _ _, fun _ _ => rfl⟩
theorem chM_trans {a b c : Mem} (h : chM a b) (h2 : chM b c) : chM a c := ⟨off_trans h.1 h2.1, fun k hk => (h2.2 k hk).trans (h.2 k hk)⟩
theorem chM_L {a b : Mem} (h : chM a b) (t k : Nat) (v : Int64) (ht : t = 47 ∨ t = 50 ∨ t = 51 ∨ t = 52 ∨ t = 53) : chM a (mL b t 0 k v) := ⟨off_L h.1 _ _ ⟨by omega, rfl⟩, h.2⟩
theorem chM_49 {a b : Mem} (h : chM a b) (k : Nat) (v : Int32) : chM a (mI b 49 0 k v) := ⟨off_I h.1 _ _ ⟨by omega, rfl⟩, fun k' hk' => by rw [mI_r, if_neg (by omega)]; exact h.2 k' hk'⟩
theorem chM_12 {a b : Mem} (h : chM a b) (v : Int32) : chM a (mI b 40 0 12 v) := ⟨off_I h.1 _ _ ⟨by omega, rfl⟩, fun k' hk' => by rw [mI_r, if_neg (by omega)]; exact h.2 k' hk'⟩
theorem chM_offL {a b c : Mem} (h : chM a b) {T : Nat → Nat → Prop} (h2 : offL T b c) (hT : ∀ t j, T t j → (t = 47 ∨ t = 50 ∨ t = 51 ∨ t = 52 ∨ t = 53) ∧ j = 0) : chM a c := ⟨off_trans h.1 (off_sub h2.1 (fun t j z => ⟨by have := (hT t j z).1; omega, (hT t j z).2⟩)), fun k hk => by rw [h2.2]; exact h.2 k hk⟩
theorem RM_ch {m mc : Mem} {S : Sys} (h : chM m mc) (hR : RM m S) : RM mc S := by
  unfold RM RMa at hR ⊢
  rw [h.2 1 (by omega), h.2 2 (by omega), (h.1 41 0 (by unfold tCh; omega)).1, (h.1 42 0 (by unfold tCh; omega)).1, (h.1 43 0 (by unfold tCh; omega)).1, (h.1 44 0 (by unfold tCh; omega)).1, (h.1 45 0 (by unfold tCh; omega)).1, (h.1 46 0 (by unfold tCh; omega)).1]
  exact hR
theorem ch_48 {m mc : Mem} (h : chM m mc) : mc.1 48 0 = m.1 48 0 := (h.1 48 0 (by unfold tCh; omega)).1
theorem low_le {u v N D : Int} (h : low u v N D) (hD : 0 < D) : v.natAbs ≤ D.natAbs ∧ u.natAbs ≤ N.natAbs := by
  obtain ⟨h1, h2, h3⟩ := h
  have h4 : u.natAbs * D.natAbs = N.natAbs * v.natAbs := by rw [← Int.natAbs_mul, ← Int.natAbs_mul, h3]
  constructor
  · have : v.natAbs ∣ u.natAbs * D.natAbs := ⟨N.natAbs, by rw [h4, Nat.mul_comm]⟩
    have h5 : v.natAbs ∣ D.natAbs := Nat.Coprime.dvd_of_dvd_mul_left (Nat.Coprime.symm h2) this
    exact Nat.le_of_dvd (by omega) h5
  · have : u.natAbs ∣ N.natAbs * v.natAbs := ⟨D.natAbs, by rw [← h4]⟩
    have h5 : u.natAbs ∣ N.natAbs := Nat.Coprime.dvd_of_dvd_mul_right h2 this
    rcases Nat.eq_zero_or_pos N.natAbs with h6 | h6
    · rw [h6, Nat.zero_mul] at h4
      rcases Nat.mul_eq_zero.mp h4 with h7 | h7
      · omega
      · omega
    · exact Nat.le_of_dvd h6 h5
theorem wb4 : ∀ k, k < 6 → facN k * prodN (fun _ => 12) k ≤ 2 ^ 25 := by decide +kernel
section L64
variable {xs : Nat × (Nat → Int32)} {d : Nat} {Q : Option v2 → Mem → Prop} {m : Mem} {S : Sys}
theorem r_comesChosen {B G : Nat} {c : Nat → Nat} (hR : RM m S) (hw : wf S) (hch : ∀ s, s < sN S → m.1 48 0 s = nI (c s)) (hc : pol S B c) (hG : sub_n G (sN S)) (hQ : ∀ y, isCr S B G c y → sub_n y (sN S) → Q (some (vI (nI (y &&& B)))) m) : callW2 xs (d + 2) 139 [vR 40 0, vI (nI B), vI (nI G)] m Q := by
  have h3 := wf_n hw
  have hBn : sub_n B (sN S) := fun s hs => (hc s hs).1
  have hB10 := sub_lt hBn h3
  refine eX12_comesChosen m _ _ (W2_st (bX12_comesChosen_0 m _ _ ?_))
  let g : Nat → Nat → Bool := fun z k => B.testBit k && someInS S (4 * k + c k) z
  have hg : ∀ z z' k, bsub z z' → g z k = true → g z' k = true := by
    intro z z' k hz h
    show (B.testBit k && someInS S (4 * k + c k) z') = true
    rw [show g z k = (B.testBit k && someInS S (4 * k + c k) z) from rfl, Bool.and_eq_true] at h
    rw [h.1, someIn_mono hz h.2]
    rfl
  have key : ∀ N y o5 o6, y + N = 1024 → bsub G y → bsub y (B ||| G) → sub_n y (sN S) → (∀ z, bsub G z → (∀ s, s < sN S → B.testBit s = true → someInS S (4 * s + c s) z = true → z.testBit s = true) → bsub y z) → (W2 xs (callW2 xs (d + 1)) tX12_comesChosen [4, 10] (some .int) Q 4 [some (vR 40 0), some (vI (nI B)), some (vI (nI G)), some (vI (nI y)), some (vI (nI 1)), (o5), (o6)] [] (m)) := by
    intro N
    induction N using Nat.strongRecOn with
    | _ N ihN =>
      intro y o5 o6 hyN hGy hyB hyn hymin
      refine W2_st (bX12_comesChosen_4 m _ _ _ _ _ _ ?_)
      refine ⟨fun z => absurd z (by decide), fun _ => ?_⟩
      have hy10 := sub_lt hyn h3
      refine upto (P := fun k => (W2 xs (callW2 xs (d + 1)) tX12_comesChosen [4, 10] (some .int) Q 10 [some (vR 40 0), some (vI (nI B)), some (vI (nI G)), some (vI (nI (passU g y k))), some (vI (nI 1)), some (vI (nI y)), some (vI (nI k))] [] (m))) (sN S) ?_ ?_ 0 (Nat.zero_le _)
      · have hpn : sub_n (passU g y (sN S)) (sN S) := passU_subn hyn (Nat.le_refl _)
        have hp10 := sub_lt hpn h3
        refine W2_st (bX12_comesChosen_10 m _ _ _ _ _ _ ?_)
        rw [rm_n hR, nI_leI (by omega) (by omega), nI_eq (by omega) (by omega)]
        refine ⟨fun _ => ⟨fun he => ?_, fun hne => ?_⟩, fun z => absurd (Nat.le_refl _) z⟩
        · rw [he]
          refine W2_st (bX12_comesChosen_4 m _ _ _ _ _ _ ⟨fun _ => ?_, fun z => absurd (by decide) z⟩)
          rw [nI_and]
          refine hQ y ⟨hGy, hyB, fun s hs h1 h2 => ?_, hymin⟩ hyn
          exact passU_fix he s hs (by show (B.testBit s && someInS S (4 * s + c s) y) = true; rw [h1, h2]; rfl)
        · have hsub : bsub y (passU g y (sN S)) := passU_mono (k := 0) (Nat.zero_le _)
          have hlt : y < passU g y (sN S) := Nat.lt_of_le_of_ne (bsub_le hsub) (Ne.symm hne)
          refine ihN (1024 - passU g y (sN S)) (by omega) _ _ _ (by omega) (bsub_trans hGy hsub) ?_ hpn (fun z h1 h2 => ?_)
          · refine passU_min hyB (fun w k _ _ h => ?_)
            rw [show g w k = (B.testBit k && someInS S (4 * k + c k) w) from rfl, Bool.and_eq_true] at h
            exact bsub_l _ _ _ h.1
          · refine passU_min (hymin z h1 h2) (fun w k hk hwz h => ?_)
            have h5 := hg w z k hwz h
            rw [show g z k = (B.testBit k && someInS S (4 * k + c k) z) from rfl, Bool.and_eq_true] at h5
            exact h2 k hk h5.1 h5.2
      · intro k hk ih
        have hpn : sub_n (passU g y k) (sN S) := passU_subn hyn (by omega)
        have hp10 := sub_lt hpn h3
        refine W2_st (bX12_comesChosen_10 m _ _ _ _ _ _ ?_)
        simp (disch := omega) only [rm_n hR, nI_leI, shr_bit, bI_1, nI_clamp, hch k hk, pk_mul, nI_add, one_shl, nI_or, inb_iff]
        rw [passU_succ] at ih
        refine ⟨fun z => by omega, fun _ => ⟨fun hb => ?_, fun hb => ⟨by omega, ?_⟩⟩⟩
        · rw [if_neg (by show ¬ (B.testBit k && someInS S (4 * k + c k) (passU g y k)) = true; rw [Bool.and_eq_true]; exact fun z => hb z.1)] at ih
          exact ih
        · refine r_someIn hR hw (pol_a hw hc hb) (by omega) ⟨_, rfl, ?_⟩
          rw [bI_0]
          refine ⟨fun hl => ?_, fun hl => ?_⟩
          · rw [if_neg (by show ¬ (B.testBit k && someInS S (4 * k + c k) (passU g y k)) = true; rw [hl]; simp)] at ih
            exact ih
          · rw [if_pos (by show (B.testBit k && someInS S (4 * k + c k) (passU g y k)) = true; rw [Bool.not_eq_false] at hl; rw [hl, hb]; rfl)] at ih
            exact ih
  have hlt := sub_lt hG h3
  exact key (1024 - G) _ _ _ (by omega) (bsub_rfl _) (bsub_r _ _) hG (fun z h1 _ => h1)
theorem toNat_cnt (b : Bool) : bI b = nI b.toNat := by cases b <;> rfl
/-- chances(between, sure) -/
theorem r_chances {B G : Nat} {c : Nat → Nat} (hR : RM m S) (hw : wf S) (hf : full S) (hch : ∀ s, s < sN S → m.1 48 0 s = nI (c s)) (hc : pol S B c) (hB5 : cntB B ≤ 5) (hG : sub_n G (sN S)) (hd : ∀ s, G.testBit s = true → B.testBit s = false) (hQ : ∀ m' W E, chM m m' → chance S B G c W E → (∀ s, s < sN S → ∃ u v : Int, m'.2 52 0 s = lI u ∧ m'.2 53 0 s = lI v ∧ low u v (W s) E ∧ u.natAbs ≤ 2 ^ 25 ∧ v.natAbs ≤ 2 ^ 25) → Q none m') : callW2 xs (d + 3) 140 [vR 40 0, vI (nI B), vI (nI G)] m Q := by
  have h3 := wf_n hw
  have hG10 := sub_lt hG h3
  refine eX12_chances m _ _ (W2_st (bX12_chances_0 m _ _ ?_))
  refine r_comesChosen hR hw hch hc hG (fun y hy hyn => ⟨_, rfl, ?_⟩)
  have hchan := isCr_chance hw hf hc hG hd hy
  have hlk := isCr_lk hc hG hd hy
  generalize hY : y &&& B = Y at hchan hlk ⊢
  have hYB : bsub Y B := by rw [← hY]; exact bsub_and_r _ _
  have hpY : pol S Y c := fun s hs => hc s (hYB s hs)
  have hY10 : Y < 1024 := sub_lt (fun s hs => (hpY s hs).1) h3
  have hk5 : cntB Y ≤ 5 := Nat.le_trans (cnt_le hYB) hB5
  have hdY : ∀ s, G.testBit s = true → Y.testBit s = false := fun s hs => by
    cases q : Y.testBit s with
    | false => rfl
    | true => have := hYB s q; rw [hd s hs] at this; cases this
  -- the rows
  let A : Nat → Nat → Int := mA (cntB Y) (rowP S Y c) (fun i => toG S G (4 * qOf Y i + c (qOf Y i)))
  let b : Nat → Int := fun i => toG S G (4 * qOf Y i + c (qOf Y i))
  have hxi : ∀ i, i < cntB Y → isA S (4 * qOf Y i + c (qOf Y i)) := fun i hi => pol_a hw hpY (qOf_in hi).1
  have hD : 0 < det (cntB Y) A := (sol_eq hw hf hpY hlk hdY).1
  have hA12 : ∀ r j, r < cntB Y → j < cntB Y → (A r j).natAbs ≤ 12 := by
    intro r j hr hj
    have hle := (lk_leak hw hf hpY hlk).2.1 r hr
    have hnn : ∀ j, j < cntB Y → 0 ≤ rowP S Y c r j := fun j hj => pU_nn _ _
    have h1 := hnn j hj
    have h2 := sumI_splitj (f := rowP S Y c r) (k := 0) (n := cntB Y) (j := j) (Nat.zero_le _) hj hnn
    simp only [sumI] at h2
    show (mA _ _ _ r j).natAbs ≤ 12
    unfold mA
    rw [if_neg (by omega)]
    split <;> omega
  have hb12 : ∀ r, r < cntB Y → (b r).natAbs ≤ 12 := fun r hr => by have := toG_le (G := G) hw (hxi r hr); show (toG _ _ _).natAbs ≤ 12; omega
  have fin : ∀ mc, chM m mc → askd mc (cntB Y) (qOf Y) → (∀ r j, r < cntB Y → j < cntB Y → mc.2 50 0 (5 * r + j) = lI (A r j)) → (∀ r, r < cntB Y → mc.2 51 0 r = lI (b r)) → (∀ t, t < sN S → mc.2 52 0 t = lI (if G.testBit t = true then 1 else 0) ∧ mc.2 53 0 t = lI 1) → callW2 xs (d + 2) 137 [vR 40 0] mc (fun r1 m2 => r1 = none ∧ Q none m2) := by
    intro mc g1 g2 g3 g4 g5
    refine r_solve g2 g3 g4 hA12 (fun r hr => Nat.le_trans (hb12 r hr) (by omega)) hD (fun m' e1 e2 e3 => ⟨rfl, ?_⟩)
    refine hQ m' _ _ (chM_offL g1 e1 (fun t j z => ⟨by have := z.1; omega, z.2⟩)) hchan (fun s hs => ?_)
    have bE : (solD S Y G c).natAbs ≤ 2 ^ 25 := Nat.le_trans (det_le (w := fun _ => 12) (fun r j hr hj => hA12 r j hr hj)) (wb4 _ (by omega))
    cases hys : Y.testBit s with
    | true =>
      have hi := cntU_B hys (show s < 10 by omega)
      obtain ⟨u, v, p1, p2, p3⟩ := e2 _ hi
      rw [qOf_cnt hys (by omega)] at p1 p2
      have eW : solW S Y G c s = det (cntB Y) (setC A (cntU Y s) b) := by
        unfold solW
        rw [if_pos hys]
        show det _ (setC A _ (fun r => mA _ _ _ r (cntB Y))) = _
        congr 2
        funext r
        exact if_pos rfl
      have bW : (solW S Y G c s).natAbs ≤ 2 ^ 25 := by
        rw [eW]
        refine Nat.le_trans (det_le (w := fun _ => 12) (fun r j hr hj => ?_)) (wb4 _ (by omega))
        unfold setC
        split
        · exact hb12 r hr
        · exact hA12 r j hr hj
      have p4 : low u v (solW S Y G c s) (solD S Y G c) := by rw [eW]; exact p3
      have := low_le p4 hD
      exact ⟨u, v, p1, p2, p4, by omega, by omega⟩
    | false =>
      have h7 := e3 s (fun i hi e => by have := (qOf_in hi).1; rw [e, hys] at this; cases this)
      have h8 := g5 s hs
      rw [h8.1, h8.2] at h7
      refine ⟨if G.testBit s = true then 1 else 0, 1, h7.1, h7.2, ⟨by omega, ?_, ?_⟩, ?_, by decide⟩
      · split <;> rfl
      · unfold solW solD
        rw [if_neg (show ¬ Y.testBit s = true by rw [hys]; simp)]
        by_cases hg : G.testBit s = true
        · rw [if_pos hg, if_pos hg]; omega
        · rw [if_neg hg, if_neg hg]; omega
      · split <;> decide
  -- the rows are laid
  have rows : ∀ i, i ≤ cntB Y → ∀ mc o5 o6 o7, chM m mc → askd mc (cntB Y) (qOf Y) → (∀ r j, r < i → j < cntB Y → mc.2 50 0 (5 * r + j) = lI (A r j)) → (∀ r, r < i → mc.2 51 0 r = lI (b r)) → (∀ t, t < sN S → mc.2 52 0 t = lI (if G.testBit t = true then 1 else 0) ∧ mc.2 53 0 t = lI 1) → (W2 xs (callW2 xs (d + 2)) tX12_chances [10, 52, 81] none Q 52 [some (vR 40 0), some (vI (nI B)), some (vI (nI G)), some (vI (nI Y)), some (vI (nI i)), (o5), (o6), (o7)] [] (mc)) := by
    refine upto (cntB Y) ?_ ?_
    · intro mc o5 o6 o7 g1 g2 g3 g4 g5
      refine W2_st (bX12_chances_52 mc _ _ _ _ _ _ _ ?_)
      rw [g2.1, nI_leI (by omega) (by omega)]
      exact ⟨fun _ => fin mc g1 g2 g3 g4 g5, fun z => absurd (Nat.le_refl _) z⟩
    · intro i hi ih mc o5 o6 o7 g1 g2 g3 g4 g5
      have hqi := g2.2.2.1 i hi
      have hq10 := hqi.2
      have hqY := (qOf_in hi).1
      have hqn := (hpY _ hqY).1
      have hR' := RM_ch g1 hR
      have hch' : ∀ s, s < sN S → mc.1 48 0 s = nI (c s) := fun s hs => by rw [ch_48 g1]; exact hch s hs
      have hx := hxi i hi
      have hx40 := wf_40 hw hx
      have hc4 := wf_a hw hqn
      have hcc := (hpY _ hqY).2
      refine W2_st (bX12_chances_52 mc _ _ _ _ _ _ _ ?_)
      simp (disch := omega) only [g2.1, nI_leI, nI_clamp, inb_iff, hqi.1, hch' _ hqn, pk_mul, nI_add]
      refine ⟨fun z => by omega, fun _ => ⟨by omega, by omega, r_layRow hR' hw g2 hi hqn (hch' _ hqn) hcc (fun m4 f1 f2 f3 => ⟨rfl, by omega, ?_⟩)⟩⟩
      have e1 : m4.1 = mc.1 := f1.2
      have k1 : chM m m4 := chM_offL g1 f1 (fun t j z => ⟨by have := z.1; omega, z.2⟩)
      have s51 : m4.2 51 0 = mc.2 51 0 := (f1.1 51 0 (by unfold tM; omega)).2
      have s52 : m4.2 52 0 = mc.2 52 0 := (f1.1 52 0 (by unfold tM; omega)).2
      have s53 : m4.2 53 0 = mc.2 53 0 := (f1.1 53 0 (by unfold tM; omega)).2
      have rA : ∀ r j, r < i + 1 → j < cntB Y → m4.2 50 0 (5 * r + j) = lI (A r j) := by
        intro r j hr hj
        by_cases hri : r = i
        · rw [hri, f2 j hj]
          congr 1
          show _ = mA _ _ _ i j
          unfold mA
          rw [if_neg (show ¬ j = cntB Y by omega)]
          rfl
        · rw [f3 r j hri (by omega)]
          exact g3 r j (by omega) hj
      have acc : ∀ o, o ≤ sO S (4 * qOf Y i + c (qOf Y i)) → ∀ m5, chM m m5 → m5.1 = m4.1 → m5.2 50 0 = m4.2 50 0 → m5.2 52 0 = m4.2 52 0 → m5.2 53 0 = m4.2 53 0 → (∀ r, r ≠ i → m5.2 51 0 r = m4.2 51 0 r) → m5.2 51 0 i = lI (sumI (fun o => (sP S (4 * qOf Y i + c (qOf Y i)) o : Int) * (if G.testBit (sT S (4 * qOf Y i + c (qOf Y i)) o) = true then 1 else 0)) o) → (W2 xs (callW2 xs (d + 2)) tX12_chances [10, 52, 81] none Q 81 [some (vR 40 0), some (vI (nI B)), some (vI (nI G)), some (vI (nI Y)), some (vI (nI i)), some (vI (nI (qOf Y i))), some (vI (nI (4 * qOf Y i + c (qOf Y i)))), some (vI (nI o))] [] (m5)) := by
        refine upto (sO S (4 * qOf Y i + c (qOf Y i))) ?_ ?_
        · intro m5 q1 q2 q3 q4 q5 q6 q7
          have hR5 := RM_ch q1 hR
          refine W2_st (bX12_chances_81 m5 _ _ _ _ _ _ _ ?_)
          have ho4 := wf_o hw hx
          simp (disch := omega) only [nI_clamp, inb_iff, rm_o hR5 hx, nI_leI, nI_add]
          refine ⟨by omega, fun _ => ih m5 _ _ _ q1 (askd_off (q2.trans e1) g2) (fun r j hr hj => by rw [q3]; exact rA r j hr hj) (fun r hr => ?_) (fun t ht => by rw [q4, q5, s52, s53]; exact g5 t ht), fun z => absurd (Nat.le_refl _) z⟩
          by_cases hri : r = i
          · rw [hri, q7]; rfl
          · rw [q6 r hri, s51]; exact g4 r (by omega)
        · intro o ho iho m5 q1 q2 q3 q4 q5 q6 q7
          have hR5 := RM_ch q1 hR
          have ho4 := wf_o hw hx
          have ht := wf_t10 hw hx ho
          have hp := (wf_p hw hx ho).2
          refine W2_st (bX12_chances_81 m5 _ _ _ _ _ _ _ ?_)
          simp (disch := omega) only [nI_clamp, inb_iff, rm_o hR5 hx, nI_leI, pk_mul, nI_add, rm_t hR5 hx ho, rm_p hR5 hx ho, shr_bit, bI_1, q7, lI_i, lI_add, lI_N]
          have nxt : ∀ v : Int, v = (sP S (4 * qOf Y i + c (qOf Y i)) o : Int) * (if G.testBit (sT S (4 * qOf Y i + c (qOf Y i)) o) = true then 1 else 0) → (W2 xs (callW2 xs (d + 2)) tX12_chances [10, 52, 81] none Q 81 [some (vR 40 0), some (vI (nI B)), some (vI (nI G)), some (vI (nI Y)), some (vI (nI i)), some (vI (nI (qOf Y i))), some (vI (nI (4 * qOf Y i + c (qOf Y i)))), some (vI (nI (o + 1)))] [] (mL m5 51 0 i (lI (sumI (fun o => (sP S (4 * qOf Y i + c (qOf Y i)) o : Int) * (if G.testBit (sT S (4 * qOf Y i + c (qOf Y i)) o) = true then 1 else 0)) o + v)))) := by
            intro v hv
            refine iho _ (chM_L q1 51 _ _ (by omega)) q2 (by funext t; rw [mL_r, if_neg (by omega), q3]) (by funext t; rw [mL_r, if_neg (by omega), q4]) (by funext t; rw [mL_r, if_neg (by omega), q5]) (fun r hr => by rw [mL_r, if_neg (by omega), q6 r hr]) ?_
            rw [mL_r, if_pos ⟨rfl, rfl, rfl⟩, hv]
            rfl
          refine ⟨by omega, fun z => by omega, fun _ => ⟨by omega, by omega, fun hb => ⟨by omega, nxt _ ?_⟩, fun hb => ⟨by omega, by omega, nxt _ ?_⟩⟩⟩
          · rw [if_neg hb]; simp
          · rw [if_pos hb]; simp
      refine acc 0 (Nat.zero_le _) _ (chM_L k1 51 _ _ (by omega)) rfl (by funext t; rw [mL_r, if_neg (by omega)]) (by funext t; rw [mL_r, if_neg (by omega)]) (by funext t; rw [mL_r, if_neg (by omega)]) (fun r hr => by rw [mL_r, if_neg (by omega)]) ?_
      rw [mL_r, if_pos ⟨rfl, rfl, rfl⟩]
      exact lI_N 0
  -- the list
  have list : ∀ s, s ≤ sN S → ∀ mc, chM m mc → mc.1 40 0 12 = nI (cntU Y s) → (∀ j, j < cntU Y s → mc.1 49 0 j = nI (qOf Y j)) → (∀ t, t < s → mc.2 52 0 t = lI (if G.testBit t = true then 1 else 0) ∧ mc.2 53 0 t = lI 1) → (W2 xs (callW2 xs (d + 2)) tX12_chances [10, 52, 81] none Q 10 [some (vR 40 0), some (vI (nI B)), some (vI (nI G)), some (vI (nI Y)), some (vI (nI s)), none, none, none] [] (mc)) := by
    refine upto (sN S) ?_ ?_
    · intro mc g1 g2 g3 g4
      have hR' := RM_ch g1 hR
      have ek : cntU Y (sN S) = cntB Y := by
        have h1 := sumU_mono (f := fun i => (Y.testBit i).toNat) (k := sN S) (n := 10) h3
        have h2 : ¬ cntU Y (sN S) < cntU Y 10 := by
          intro z
          obtain ⟨s, q1, q2, q3⟩ := cntU_ex 10 z
          have q4 := (hpY s q2).1
          have q5 := cntU_lt q4 q2
          omega
        unfold cntB cntU at *
        omega
      rw [ek] at g2 g3
      refine W2_st (bX12_chances_10 mc _ _ _ _ ?_)
      rw [rm_n hR', nI_leI (by omega) (by omega)]
      refine ⟨fun _ => rows 0 (Nat.zero_le _) mc none none none g1 ⟨g2, hk5, fun i hi => ⟨g3 i hi, (qOf_in hi).2.1⟩, fun i j hi hj e => qOf_inj hi hj e⟩ (fun r j hr _ => by omega) (fun r hr => by omega) g4, fun z => absurd (Nat.le_refl _) z⟩
    · intro s hs ih mc g1 g2 g3 g4
      have hR' := RM_ch g1 hR
      have hc9 : cntU Y s ≤ s := by
        have := sumU_le (f := fun i => (Y.testBit i).toNat) (n := s) (c := 1) (fun i _ => Bool.toNat_le _)
        unfold cntU
        omega
      refine W2_st (bX12_chances_10 mc _ _ _ _ ?_)
      have hGb : bI (G.testBit s) = nI (if G.testBit s = true then 1 else 0) := by cases G.testBit s <;> rfl
      have hGl : (nI (if G.testBit s = true then 1 else 0)).toInt64 = lI (if G.testBit s = true then 1 else 0) := by
        rw [lI_i (by split <;> omega)]
        congr 1
        split <;> rfl
      have s52 : ∀ t, t < s + 1 → ∀ v, (mL (mL mc 52 0 s (lI (if G.testBit s = true then 1 else 0))) 53 0 s v).2 52 0 t = lI (if G.testBit t = true then 1 else 0) := by
        intro t ht v
        rw [mL_r, if_neg (by omega), mL_r]
        by_cases hts : t = s
        · rw [if_pos ⟨rfl, rfl, hts⟩, hts]
        · rw [if_neg (by omega)]; exact (g4 t (by omega)).1
      have s53 : ∀ t, t < s + 1 → (mL (mL mc 52 0 s (lI (if G.testBit s = true then 1 else 0))) 53 0 s (lI 1)).2 53 0 t = lI 1 := by
        intro t ht
        rw [mL_r]
        by_cases hts : t = s
        · rw [if_pos ⟨rfl, rfl, hts⟩]
        · rw [if_neg (by omega), mL_r, if_neg (by omega)]; exact (g4 t (by omega)).2
      have e1 : lN 1 = lI 1 := lI_N 1
      rw [rm_n hR', nI_leI (by omega) (by omega), shr_bit (b := Y) (by omega) (by omega), shr_bit (b := G) (by omega) (by omega), bI_1, hGb, hGl, e1, nI_clamp (by omega), nI_add]
      simp only [mL_1]
      rw [g2, nI_clamp (by omega)]
      refine ⟨fun z => by omega, fun _ => ⟨inb_nI (by omega) (by omega), inb_nI (by omega) (by omega), fun hb => ?_, fun hb => ⟨inb_nI (by omega) (by omega), ?_⟩⟩⟩
      · rw [Bool.not_eq_true] at hb
        have ec : cntU Y (s + 1) = cntU Y s := by rw [cntU_s, hb]; rfl
        refine ih _ (chM_L (chM_L g1 52 _ _ (by omega)) 53 _ _ (by omega)) (by rw [ec]; exact g2) (fun j hj => g3 j (by omega)) (fun t ht => ⟨s52 t ht (lI 1), s53 t ht⟩)
      · have ec : cntU Y (s + 1) = cntU Y s + 1 := by rw [cntU_s, hb]; rfl
        rw [show (mI (mL (mL mc 52 0 s (lI (if G.testBit s = true then 1 else 0))) 53 0 s (lI 1)) 49 0 (cntU Y s) (nI s)).1 40 0 12 = nI (cntU Y s) by rw [mI_r, if_neg (by omega)]; exact g2, nI_add]
        refine ih _ (chM_12 (chM_49 (chM_L (chM_L g1 52 _ _ (by omega)) 53 _ _ (by omega)) _ _) _) (by rw [mI_r, if_pos ⟨rfl, rfl, rfl⟩, ec]) (fun j hj => ?_) (fun t ht => ⟨s52 t ht (lI 1), s53 t ht⟩)
        rw [mI_r, if_neg (by omega), mI_r]
        by_cases hj2 : j = cntU Y s
        · rw [if_pos ⟨rfl, rfl, hj2⟩, hj2, qOf_cnt hb (by omega)]
        · rw [if_neg (by omega)]
          exact g3 j (by omega)
  refine list 0 (Nat.zero_le _) _ (chM_12 (chM_rfl m) _) ?_ (fun j hj => absurd hj (Nat.not_lt_zero _)) (fun t ht => by omega)
  rw [mI_r, if_pos ⟨rfl, rfl, rfl⟩]
  rfl
end L64
