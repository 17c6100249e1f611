/-! CONTRACTS (20): the class's equations (wip/whole/src/70.solveC.src) -/
section L70
variable {xs : Nat × (Nat → Int32)} {d : Nat} {Q : Option v2 → Mem → Prop} {m : Mem} {S : Sys}
def bitc (p0 : Int32) : Int32 := ((((((((p0 - (((p0.toUInt32 >>> ((nI 1).toUInt32 &&& Int32.toUInt32 31)).toInt32) &&& (nI 1431655765))) &&& (nI 858993459)) + ((((p0 - (((p0.toUInt32 >>> ((nI 1).toUInt32 &&& Int32.toUInt32 31)).toInt32) &&& (nI 1431655765))).toUInt32 >>> ((nI 2).toUInt32 &&& Int32.toUInt32 31)).toInt32) &&& (nI 858993459))) + (((((p0 - (((p0.toUInt32 >>> ((nI 1).toUInt32 &&& Int32.toUInt32 31)).toInt32) &&& (nI 1431655765))) &&& (nI 858993459)) + ((((p0 - (((p0.toUInt32 >>> ((nI 1).toUInt32 &&& Int32.toUInt32 31)).toInt32) &&& (nI 1431655765))).toUInt32 >>> ((nI 2).toUInt32 &&& Int32.toUInt32 31)).toInt32) &&& (nI 858993459))).toUInt32 >>> ((nI 4).toUInt32 &&& Int32.toUInt32 31)).toInt32)) &&& (nI 252645135)) + (((((((p0 - (((p0.toUInt32 >>> ((nI 1).toUInt32 &&& Int32.toUInt32 31)).toInt32) &&& (nI 1431655765))) &&& (nI 858993459)) + ((((p0 - (((p0.toUInt32 >>> ((nI 1).toUInt32 &&& Int32.toUInt32 31)).toInt32) &&& (nI 1431655765))).toUInt32 >>> ((nI 2).toUInt32 &&& Int32.toUInt32 31)).toInt32) &&& (nI 858993459))) + (((((p0 - (((p0.toUInt32 >>> ((nI 1).toUInt32 &&& Int32.toUInt32 31)).toInt32) &&& (nI 1431655765))) &&& (nI 858993459)) + ((((p0 - (((p0.toUInt32 >>> ((nI 1).toUInt32 &&& Int32.toUInt32 31)).toInt32) &&& (nI 1431655765))).toUInt32 >>> ((nI 2).toUInt32 &&& Int32.toUInt32 31)).toInt32) &&& (nI 858993459))).toUInt32 >>> ((nI 4).toUInt32 &&& Int32.toUInt32 31)).toInt32)) &&& (nI 252645135)).toUInt32 >>> ((nI 8).toUInt32 &&& Int32.toUInt32 31)).toInt32)) + ((((((((p0 - (((p0.toUInt32 >>> ((nI 1).toUInt32 &&& Int32.toUInt32 31)).toInt32) &&& (nI 1431655765))) &&& (nI 858993459)) + ((((p0 - (((p0.toUInt32 >>> ((nI 1).toUInt32 &&& Int32.toUInt32 31)).toInt32) &&& (nI 1431655765))).toUInt32 >>> ((nI 2).toUInt32 &&& Int32.toUInt32 31)).toInt32) &&& (nI 858993459))) + (((((p0 - (((p0.toUInt32 >>> ((nI 1).toUInt32 &&& Int32.toUInt32 31)).toInt32) &&& (nI 1431655765))) &&& (nI 858993459)) + ((((p0 - (((p0.toUInt32 >>> ((nI 1).toUInt32 &&& Int32.toUInt32 31)).toInt32) &&& (nI 1431655765))).toUInt32 >>> ((nI 2).toUInt32 &&& Int32.toUInt32 31)).toInt32) &&& (nI 858993459))).toUInt32 >>> ((nI 4).toUInt32 &&& Int32.toUInt32 31)).toInt32)) &&& (nI 252645135)) + (((((((p0 - (((p0.toUInt32 >>> ((nI 1).toUInt32 &&& Int32.toUInt32 31)).toInt32) &&& (nI 1431655765))) &&& (nI 858993459)) + ((((p0 - (((p0.toUInt32 >>> ((nI 1).toUInt32 &&& Int32.toUInt32 31)).toInt32) &&& (nI 1431655765))).toUInt32 >>> ((nI 2).toUInt32 &&& Int32.toUInt32 31)).toInt32) &&& (nI 858993459))) + (((((p0 - (((p0.toUInt32 >>> ((nI 1).toUInt32 &&& Int32.toUInt32 31)).toInt32) &&& (nI 1431655765))) &&& (nI 858993459)) + ((((p0 - (((p0.toUInt32 >>> ((nI 1).toUInt32 &&& Int32.toUInt32 31)).toInt32) &&& (nI 1431655765))).toUInt32 >>> ((nI 2).toUInt32 &&& Int32.toUInt32 31)).toInt32) &&& (nI 858993459))).toUInt32 >>> ((nI 4).toUInt32 &&& Int32.toUInt32 31)).toInt32)) &&& (nI 252645135)).toUInt32 >>> ((nI 8).toUInt32 &&& Int32.toUInt32 31)).toInt32)).toUInt32 >>> ((nI 16).toUInt32 &&& Int32.toUInt32 31)).toInt32)) &&& (nI 63))
theorem bitc_cnt : ∀ b, b < 1024 → bitc (nI b) = nI (cntB b) := by decide +kernel
theorem c_bitCount {b : Nat} (hb : b < 1024) (hQ : Q (some (vI (nI (cntB b)))) m) : callW2 xs (d + 1) 186 [vI (nI b)] m Q := by
  refine eJ6_bitCount_0f7a4 m _ (W2_st (bJ6_bitCount_0f7a4_0 m _ ?_))
  show Q (some (vI (bitc (nI b)))) m
  rw [bitc_cnt b hb]
  exact hQ
/-- the list of unknowns of equations e is that of U -/
def opened (m : Mem) (e U : Nat) : Prop := m.1 10 e 3 = nI (cntB U) ∧ (∀ s, s < 10 → m.1 13 e s = if U.testBit s = true then nI (cntU U s) else (-1 : Int32)) ∧ ∀ j, j < cntB U → m.1 14 e j = nI (qOf U j)
def tE (e : Nat) : Nat → Nat → Prop := fun t j => (t = 10 ∨ t = 13 ∨ t = 14) ∧ j = e
theorem c_open {e U : Nat} (hU : U < 1024) (hQ0 : 5 < cntB U → Q (some (vI (bI false))) m) (hQ1 : ∀ m', cntB U ≤ 5 → offI (tE e) m m' → opened m' e U → Q (some (vI (bI true))) m') : callW2 xs (d + 2) 10 [vR 10 e, vI (nI U)] m Q := by
  refine eX1_open m _ _ (W2_st (bX1_open_0 m _ _ ?_))
  refine c_bitCount hU ⟨_, rfl, ?_⟩
  have hc := cnt_10 U
  rw [nI_leI (by omega) (by omega)]
  refine ⟨fun h5 => ?_, fun h5 => ⟨isB0, hQ0 (by omega)⟩⟩
  have key : ∀ s, s ≤ 10 → ∀ mc, offI (tE e) m mc → mc.1 10 e 3 = nI (cntU U s) → (∀ t, t < s → mc.1 13 e t = if U.testBit t = true then nI (cntU U t) else (-1 : Int32)) → (∀ j, j < cntU U s → mc.1 14 e j = nI (qOf U j)) → (W2 xs (callW2 xs (d + 1)) tX1_open [11] (some .boolean) Q 11 [some (vR 10 (e)), some (vI (nI U)), some (vI (nI s))] [] (mc)) := by
    refine upto 10 ?_ ?_
    · intro mc g1 g2 g3 g4
      exact W2_st (bX1_open_11 mc _ _ _ ⟨fun _ => ⟨isB1, hQ1 mc h5 g1 ⟨g2, g3, g4⟩⟩, fun z => absurd (by decide) z⟩)
    · intro s hs ih mc g1 g2 g3 g4
      have hcs : cntU U s ≤ cntB U := sumU_mono (by omega)
      refine W2_st (bX1_open_11 mc _ _ _ ?_)
      rw [nI_leI (by omega) (by omega), nI_clamp (by omega), nI_add]
      refine ⟨fun z => by omega, fun _ => ⟨inb_nI (by omega) (by omega), c_has (by omega) (by omega) ⟨_, rfl, ?_⟩⟩⟩
      rw [bI_0]
      have e1 : (mI mc 13 e s (-1 : Int32)).1 10 e 3 = nI (cntU U s) := by rw [mI_r, if_neg (by omega)]; exact g2
      refine ⟨fun hb => ?_, fun hb => ⟨inb_nI (by omega) (by omega), ?_⟩⟩
      · have ec : cntU U (s + 1) = cntU U s := by rw [cntU_s, hb]; rfl
        refine ih _ (offI_I g1 _ _ ⟨Or.inr (Or.inl rfl), rfl⟩) (by rw [ec]; exact e1) (fun t ht => ?_) (fun j hj => ?_)
        · rw [mI_r]
          by_cases hts : t = s
          · rw [if_pos ⟨rfl, rfl, hts⟩, hts, hb]; rfl
          · rw [if_neg (by omega)]; exact g3 t (by omega)
        · rw [mI_r, if_neg (by omega)]; exact g4 j (by omega)
      · rw [Bool.not_eq_false] at hb
        have ec : cntU U (s + 1) = cntU U s + 1 := by rw [cntU_s, hb]; rfl
        have hlt := cntU_B hb (show s < 10 by omega)
        have e2 : (mI (mI mc 13 e s (-1 : Int32)) 13 e s (nI (cntU U s))).1 10 e 3 = nI (cntU U s) := by rw [mI_r, if_neg (by omega)]; exact e1
        have e3 : (mI (mI (mI mc 13 e s (-1 : Int32)) 13 e s (nI (cntU U s))) 14 e (cntU U s) (nI s)).1 10 e 3 = nI (cntU U s) := by rw [mI_r, if_neg (by omega)]; exact e2
        rw [e1, e2, nI_clamp (by omega), e3, nI_add]
        refine ⟨inb_nI (by omega) (by omega), ih _ (offI_I (offI_I (offI_I (offI_I g1 _ _ ⟨Or.inr (Or.inl rfl), rfl⟩) _ _ ⟨Or.inr (Or.inl rfl), rfl⟩) _ _ ⟨Or.inr (Or.inr rfl), rfl⟩) _ _ ⟨Or.inl rfl, rfl⟩) (by rw [mI_r, if_pos ⟨rfl, rfl, rfl⟩, ec]) (fun t ht => ?_) (fun j hj => ?_)⟩
        · rw [mI_r, if_neg (by omega), mI_r, if_neg (by omega), mI_r]
          by_cases hts : t = s
          · rw [if_pos ⟨rfl, rfl, hts⟩, hts, if_pos hb]
          · rw [if_neg (by omega), mI_r, if_neg (by omega)]; exact g3 t (by omega)
        · rw [mI_r, if_neg (by omega), mI_r]
          by_cases hj2 : j = cntU U s
          · rw [if_pos ⟨rfl, rfl, hj2⟩, hj2, qOf_cnt hb (by omega)]
          · rw [if_neg (by omega), mI_r, if_neg (by omega), mI_r, if_neg (by omega)]
            exact g4 j (by omega)
  refine key 0 (Nat.zero_le _) _ (offI_I (offI_rfl _ _) _ _ ⟨Or.inl rfl, rfl⟩) (by rw [mI_r, if_pos ⟨rfl, rfl, rfl⟩]; rfl) (fun t ht => by omega) (fun j hj => absurd hj (Nat.not_lt_zero _))
theorem c_fill12 {r : Nat} (v : Int64) (hQ : ∀ m', offL (fun t j => t = 12 ∧ j = r) m m' → (∀ j, j < 6 → m'.2 12 r j = v) → Q none m') : callW2 xs (d + 1) 187 [vR 12 r, vL v] m Q := by
  refine eJ7_fill_d0a16_t12 m _ _ (W2_st (bJ7_fill_d0a16_0_t12 m _ _ ?_))
  have key : ∀ k, k ≤ 6 → ∀ mc, offL (fun t j => t = 12 ∧ j = r) m mc → (∀ j, j < k → mc.2 12 r j = v) → (W2 xs (callW2 xs d) tJ7_fill_d0a16 [5] none Q 5 [some (vR 12 (r)), some (vL (v)), none, some (vI (nI k)), some (vI (nI 6))] [] (mc)) := by
    refine upto 6 ?_ ?_
    · intro mc g1 g2
      exact W2_st (bJ7_fill_d0a16_5_t12 mc _ _ _ _ ⟨fun _ => hQ mc g1 g2, fun z => absurd (by decide) z⟩)
    · intro k hk ih mc g1 g2
      refine W2_st (bJ7_fill_d0a16_5_t12 mc _ _ _ _ ?_)
      rw [nI_leI (by omega) (by omega), nI_clamp (by omega), nI_add]
      refine ⟨fun z => by omega, fun _ => ⟨inb_nI (by omega) (by omega), ih _ (offL_L g1 _ _ ⟨rfl, rfl⟩) (fun j hj => ?_)⟩⟩
      rw [mL_r]
      by_cases hjk : j = k
      · rw [if_pos ⟨rfl, rfl, hjk⟩]
      · rw [if_neg (by omega)]; exact g2 j (by omega)
  exact key 0 (Nat.zero_le _) m (offL_rfl _ _) (fun j hj => by omega)
theorem c_fill15 {r : Nat} (v : Int64) (hQ : ∀ m', offL (fun t j => t = 15 ∧ j = r) m m' → (∀ j, j < 10 → m'.2 15 r j = v) → Q none m') : callW2 xs (d + 1) 187 [vR 15 r, vL v] m Q := by
  refine eJ7_fill_d0a16_t15 m _ _ (W2_st (bJ7_fill_d0a16_0_t15 m _ _ ?_))
  have key : ∀ k, k ≤ 10 → ∀ mc, offL (fun t j => t = 15 ∧ j = r) m mc → (∀ j, j < k → mc.2 15 r j = v) → (W2 xs (callW2 xs d) tJ7_fill_d0a16 [5] none Q 5 [some (vR 15 (r)), some (vL (v)), none, some (vI (nI k)), some (vI (nI 10))] [] (mc)) := by
    refine upto 10 ?_ ?_
    · intro mc g1 g2
      exact W2_st (bJ7_fill_d0a16_5_t15 mc _ _ _ _ ⟨fun _ => hQ mc g1 g2, fun z => absurd (by decide) z⟩)
    · intro k hk ih mc g1 g2
      refine W2_st (bJ7_fill_d0a16_5_t15 mc _ _ _ _ ?_)
      rw [nI_leI (by omega) (by omega), nI_clamp (by omega), nI_add]
      refine ⟨fun z => by omega, fun _ => ⟨inb_nI (by omega) (by omega), ih _ (offL_L g1 _ _ ⟨rfl, rfl⟩) (fun j hj => ?_)⟩⟩
      rw [mL_r]
      by_cases hjk : j = k
      · rw [if_pos ⟨rfl, rfl, hjk⟩]
      · rw [if_neg (by omega)]; exact g2 j (by omega)
  exact key 0 (Nat.zero_le _) m (offL_rfl _ _) (fun j hj => by omega)
theorem c_fill32 {r : Nat} (v : Int64) (hQ : ∀ m', offL (fun t j => t = 32 ∧ j = r) m m' → (∀ j, j < 60 → m'.2 32 r j = v) → Q none m') : callW2 xs (d + 1) 187 [vR 32 r, vL v] m Q := by
  refine eJ7_fill_d0a16_t32 m _ _ (W2_st (bJ7_fill_d0a16_0_t32 m _ _ ?_))
  have key : ∀ k, k ≤ 60 → ∀ mc, offL (fun t j => t = 32 ∧ j = r) m mc → (∀ j, j < k → mc.2 32 r j = v) → (W2 xs (callW2 xs d) tJ7_fill_d0a16 [5] none Q 5 [some (vR 32 (r)), some (vL (v)), none, some (vI (nI k)), some (vI (nI 60))] [] (mc)) := by
    refine upto 60 ?_ ?_
    · intro mc g1 g2
      exact W2_st (bJ7_fill_d0a16_5_t32 mc _ _ _ _ ⟨fun _ => hQ mc g1 g2, fun z => absurd (by decide) z⟩)
    · intro k hk ih mc g1 g2
      refine W2_st (bJ7_fill_d0a16_5_t32 mc _ _ _ _ ?_)
      rw [nI_leI (by omega) (by omega), nI_clamp (by omega), nI_add]
      refine ⟨fun z => by omega, fun _ => ⟨inb_nI (by omega) (by omega), ih _ (offL_L g1 _ _ ⟨rfl, rfl⟩) (fun j hj => ?_)⟩⟩
      rw [mL_r]
      by_cases hjk : j = k
      · rw [if_pos ⟨rfl, rfl, hjk⟩]
      · rw [if_neg (by omega)]; exact g2 j (by omega)
  exact key 0 (Nat.zero_le _) m (offL_rfl _ _) (fun j hj => by omega)
theorem c_fill17 (v : Int32) (hQ : ∀ m', offI (tM 17) m m' → (∀ j, j < 10 → m'.1 17 0 j = v) → Q none m') : callW2 xs (d + 1) 188 [vR 17 0, vI v] m Q := by
  refine eJ7_fill_53178_t17 m _ (W2_st (bJ7_fill_53178_0_t17 m _ ?_))
  have key : ∀ k, k ≤ 10 → ∀ mc, offI (tM 17) m mc → (∀ j, j < k → mc.1 17 0 j = v) → (W2 xs (callW2 xs d) tJ7_fill_53178 [5] none Q 5 [some (vR 17 0), some (vI (v)), some (vI (nI k)), some (vI (nI 10))] [] (mc)) := by
    refine upto 10 ?_ ?_
    · intro mc g1 g2
      exact W2_st (bJ7_fill_53178_5_t17 mc _ _ _ ⟨fun _ => hQ mc g1 g2, fun z => absurd (by decide) z⟩)
    · intro k hk ih mc g1 g2
      refine W2_st (bJ7_fill_53178_5_t17 mc _ _ _ ?_)
      rw [nI_leI (by omega) (by omega), nI_clamp (by omega), nI_add]
      refine ⟨fun z => by omega, fun _ => ⟨inb_nI (by omega) (by omega), ih _ (offI_I g1 _ _ ⟨rfl, rfl⟩) (fun j hj => ?_)⟩⟩
      rw [mI_r]
      by_cases hjk : j = k
      · rw [if_pos ⟨rfl, rfl, hjk⟩]
      · rw [if_neg (by omega)]; exact g2 j (by omega)
  exact key 0 (Nat.zero_le _) m (offI_rfl _ _) (fun j hj => by omega)
theorem c_fill23 (v : Int32) (hQ : ∀ m', offI (tM 23) m m' → (∀ j, j < 10 → m'.1 23 0 j = v) → Q none m') : callW2 xs (d + 1) 188 [vR 23 0, vI v] m Q := by
  refine eJ7_fill_53178_t23 m _ (W2_st (bJ7_fill_53178_0_t23 m _ ?_))
  have key : ∀ k, k ≤ 10 → ∀ mc, offI (tM 23) m mc → (∀ j, j < k → mc.1 23 0 j = v) → (W2 xs (callW2 xs d) tJ7_fill_53178 [5] none Q 5 [some (vR 23 0), some (vI (v)), some (vI (nI k)), some (vI (nI 10))] [] (mc)) := by
    refine upto 10 ?_ ?_
    · intro mc g1 g2
      exact W2_st (bJ7_fill_53178_5_t23 mc _ _ _ ⟨fun _ => hQ mc g1 g2, fun z => absurd (by decide) z⟩)
    · intro k hk ih mc g1 g2
      refine W2_st (bJ7_fill_53178_5_t23 mc _ _ _ ?_)
      rw [nI_leI (by omega) (by omega), nI_clamp (by omega), nI_add]
      refine ⟨fun z => by omega, fun _ => ⟨inb_nI (by omega) (by omega), ih _ (offI_I g1 _ _ ⟨rfl, rfl⟩) (fun j hj => ?_)⟩⟩
      rw [mI_r]
      by_cases hjk : j = k
      · rw [if_pos ⟨rfl, rfl, hjk⟩]
      · rw [if_neg (by omega)]; exact g2 j (by omega)
  exact key 0 (Nat.zero_le _) m (offI_rfl _ _) (fun j hj => by omega)
/-- Equations.write(row, act, right) -/
theorem c_write {e U r x : Nat} (right : Int64) (hR : RC m S) (hw : wf S) (ho : opened m e U) (hk5 : cntB U ≤ 5) (hr : r < cntB U) (hx : isA S x) (hQ : ∀ m', offL (fun t j => t = 12 ∧ j = 5 * e + r) m m' → (∀ j, j < cntB U → m'.2 12 (5 * e + r) j = lI ((if r = j then 12 else 0) - pU S x (qOf U j))) → m'.2 12 (5 * e + r) (cntB U) = right → Q none m') : callW2 xs (d + 2) 11 [vR 10 e, vI (nI r), vR 4 x, vL right] m Q := by
  have h3 := wf_n hw
  refine eX1_write m _ _ _ _ (W2_st (bX1_write_0 m _ _ _ _ ?_))
  rw [nI_clamp (by omega)]
  refine ⟨inb_nI (by omega) (by omega), c_fill12 _ (fun m2 f1 f2 => ⟨rfl, inb_nI (by omega) (by omega), inb_nI (by omega) (by omega), ?_⟩)⟩
  have key : ∀ o, o ≤ sO S x → ∀ mc o6, offL (fun t j => t = 12 ∧ j = 5 * e + r) m mc → (∀ j, j < cntB U → mc.2 12 (5 * e + r) j = lI ((if r = j then 12 else 0) - PU S x (qOf U j) o)) → (W2 xs (callW2 xs (d + 1)) tX1_write [15] none Q 15 [some (vR 10 (e)), some (vI (nI r)), some (vR 4 (x)), some (vL (right)), none, some (vI (nI o)), (o6)] [] (mc)) := by
    refine upto (sO S x) ?_ ?_
    · intro mc o6 g1 g2
      have hR' : RC mc S := by unfold RC RCa at hR ⊢; rw [g1.2]; exact hR
      have ho' : mc.1 10 e 3 = nI (cntB U) := by rw [g1.2]; exact ho.1
      have ho4 := wf_o hw hx
      refine W2_st (bX1_write_15 mc _ _ _ _ _ _ ?_)
      simp (disch := omega) only [rc_o hR' hx, nI_leI, ho', nI_clamp, inb_iff]
      refine ⟨fun _ => ⟨by omega, by omega, hQ _ (offL_L g1 _ _ ⟨rfl, rfl⟩) (fun j hj => ?_) ?_⟩, fun z => absurd (Nat.le_refl _) z⟩
      · rw [mL_r, if_neg (by omega)]; exact g2 j hj
      · rw [mL_r, if_pos ⟨rfl, rfl, rfl⟩]
    · intro o ho6 ih mc o6 g1 g2
      have hR' : RC mc S := by unfold RC RCa at hR ⊢; rw [g1.2]; exact hR
      have ho4 := wf_o hw hx
      have ht := wf_t10 hw hx ho6
      have hp := (wf_p hw hx ho6).2
      have h13 := ho.2.1 _ ht
      rw [← g1.2] at h13
      refine W2_st (bX1_write_15 mc _ _ _ _ _ _ ?_)
      simp (disch := omega) only [rc_o hR' hx, nI_leI, rc_t hR' hx ho6, rc_p hR' hx ho6, nI_clamp, inb_iff, nI_add, lI_i]
      rw [h13]
      refine ⟨fun z => by omega, fun _ => ⟨by omega, by omega, ?_⟩⟩
      cases hb : U.testBit (sT S x o) with
      | false =>
        rw [if_neg (by simp)]
        refine ⟨fun _ => ih mc _ g1 (fun j hj => ?_), fun z => absurd (by decide) z⟩
        have hne : ¬ sT S x o = qOf U j := fun e2 => by have := (qOf_in hj).1; rw [← e2, hb] at this; cases this
        rw [g2 j hj, PU_succ, if_neg hne, Int.add_zero]
      | true =>
        rw [if_pos rfl]
        have hlt := cntU_B hb ht
        simp (disch := omega) only [z_lt, inb_iff, nI_clamp, not_false_eq_true]
        refine ⟨fun z => z.elim, fun _ => ⟨by omega, by omega, by omega, by omega, ?_⟩⟩
        rw [g2 _ hlt, lI_sub]
        refine ih _ _ (offL_L g1 _ _ ⟨rfl, rfl⟩) (fun j hj => ?_)
        rw [mL_r, PU_succ]
        by_cases hjj : j = cntU U (sT S x o)
        · rw [if_pos ⟨rfl, rfl, hjj⟩, hjj, qOf_cnt hb ht, if_pos rfl]
          congr 1
          omega
        · have hne : ¬ sT S x o = qOf U j := fun e2 => hjj (by rw [e2]; exact ((qOf_in hj).2.2).symm)
          rw [if_neg (fun z => hjj z.2.2), g2 j hj, if_neg hne, Int.add_zero]
  refine key 0 (Nat.zero_le _) _ none (offL_L f1 _ _ ⟨rfl, rfl⟩) (fun j hj => ?_)
  rw [mL_r]
  show _ = lI (_ - 0)
  by_cases hrj : r = j
  · rw [if_pos ⟨rfl, rfl, hrj.symm⟩, if_pos hrj, lI_N]; rfl
  · rw [if_neg (fun z => hrj z.2.2.symm), if_neg hrj, f2 j (by omega), lI_N]; rfl
/-! the bounds of elimination -/
theorem wb5 : ∀ i, i < 5 → ∀ k, k < 6 → facN k * prodN (fun c => if c = i then 12000 else 12) k ≤ 2 ^ 35 := by decide +kernel
theorem wb6 : ∀ k, k < 5 → facN (k + 1) * (prodN (fun _ => 12) k * 12000) ≤ 2 ^ 35 := by decide +kernel
theorem wb7 : ∀ k, k < 5 → facN (k + 1) * (prodN (fun _ => 12) k * 12) ≤ 2 ^ 25 := by decide +kernel
theorem gj_le {n : Nat} {A : Nat → Nat → Int} (hn : n ≤ 5) (hA : ∀ r j, r < n → j < n → (A r j).natAbs ≤ 12) (hb : ∀ r, r < n → (A r n).natAbs ≤ 12000) {k i j : Nat} (hk : k < n) (hi : i < n) (hj : j ≤ n) : (gj A k i j).natAbs ≤ 2 ^ 35 := by
  have hAj : ∀ r, r < n → (A r j).natAbs ≤ 12000 := fun r hr => by
    by_cases h : j = n
    · rw [h]; exact hb r hr
    · exact Nat.le_trans (hA r j hr (by omega)) (by omega)
  unfold gj
  split
  · unfold cr
    refine Nat.le_trans (det_le (w := fun c => if c = i then 12000 else 12) (fun r c hr hc => ?_)) (wb5 i (by omega) k (by omega))
    unfold setC
    by_cases hci : c = i
    · rw [if_pos hci, if_pos hci]; exact hAj r (by omega)
    · rw [if_neg hci, if_neg hci]; exact hA r c (by omega) (by omega)
  · unfold bm
    have h := det_le (n := k + 1) (A := fun r c => A (if r < k then r else i) (if c < k then c else j)) (w := fun c => if c < k then 12 else 12000) (fun r c hr hc => by
      have h1 : (if r < k then r else i) < n := by split <;> omega
      by_cases hc2 : c < k
      · rw [if_pos hc2, if_pos hc2]; exact hA _ c h1 (by omega)
      · rw [if_neg hc2, if_neg hc2]; exact hAj _ h1)
    have e : prodN (fun c => if c < k then 12 else 12000) (k + 1) = prodN (fun _ => 12) k * 12000 := by
      simp only [prodN]
      rw [if_neg (Nat.lt_irrefl k), prodN_congr (v := fun _ => 12) (fun i hi => if_pos hi)]
    rw [e] at h
    exact Nat.le_trans h (wb6 k (by omega))
theorem gj_le2 {n : Nat} {A : Nat → Nat → Int} (hn : n ≤ 5) (hA : ∀ r j, r < n → j < n → (A r j).natAbs ≤ 12) {k i j : Nat} (hk : k < n) (hi : i < n) (hj : j < n) : (gj A k i j).natAbs ≤ 2 ^ 25 := by
  unfold gj
  split
  · unfold cr
    refine Nat.le_trans (det_le (w := fun _ => 12) (fun r c hr hc => ?_)) (wb4 k (by omega))
    unfold setC
    split
    · exact hA r j (by omega) hj
    · exact hA r c (by omega) (by omega)
  · have h := bm_le (P := A) (w := fun _ => 12) hA hk hi hj
    exact Nat.le_trans h (wb7 k (by omega))
/-- Equations.clear(i, k, pivot) -/
theorem c_clear {e n k i : Nat} {A : Nat → Nat → Int} (hn5 : n ≤ 5) (hn : m.1 10 e 3 = nI n) (hA12 : ∀ r j, r < n → j < n → (A r j).natAbs ≤ 12) (hb12 : ∀ r, r < n → (A r n).natAbs ≤ 12000) (hk : k < n) (hi : i < n) (hik : i ≠ k) (hD : det k A ≠ 0) (hl : m.2 10 e 4 = lI (det k A)) (hri : ∀ j, j ≤ n → m.2 12 (5 * e + i) j = lI (gj A k i j)) (hrk : ∀ j, j ≤ n → m.2 12 (5 * e + k) j = lI (gj A k k j)) (hQ : ∀ m', offL (fun t j => t = 12 ∧ j = 5 * e + i) m m' → (∀ j, j ≤ n → m'.2 12 (5 * e + i) j = lI (gj A (k + 1) i j)) → Q none m') : callW2 xs (d + 1) 13 [vR 10 e, vI (nI i), vI (nI k), vL (lI (gj A k k k))] m Q := by
  have bD : (det k A).natAbs ≤ 2 ^ 25 := Nat.le_trans (det_le (w := fun _ => 12) (fun r c hr hc => hA12 r c (by omega) (by omega))) (wb4 k (by omega))
  refine eX1_clear m _ _ _ _ (W2_st (bX1_clear_0 m _ _ _ _ ?_))
  rw [lg_cmp_eq, hl, lI_N, lI_eq (by omega) (by omega) (by omega) (by omega), nI_clamp (by omega), nI_clamp (by omega), hri k (by omega)]
  refine ⟨fun _ => ⟨inb_nI (by omega) (by omega), inb_nI (by omega) (by omega), ?_⟩, fun z => absurd z hD⟩
  have key : ∀ j, j ≤ n + 1 → ∀ mc, offL (fun t j => t = 12 ∧ j = 5 * e + i) m mc → (∀ j', j' ≤ n → mc.2 12 (5 * e + i) j' = lI (if j' < j then gj A (k + 1) i j' else gj A k i j')) → (W2 xs (callW2 xs d) tX1_clear [15] none Q 15 [some (vR 10 (e)), some (vI (nI i)), some (vI (nI k)), some (vL (lI (gj A k k k))), none, some (vL (lI (gj A k i k))), none, some (vI (nI j))] [] (mc)) := by
    refine upto (n + 1) ?_ ?_
    · intro mc g1 g2
      have hn' : mc.1 10 e 3 = nI n := by rw [g1.2]; exact hn
      refine W2_st (bX1_clear_15 mc _ _ _ _ _ _ ?_)
      rw [hn', nI_ltI (by omega) (by omega)]
      refine ⟨fun _ => hQ mc g1 (fun j hj => ?_), fun z => by omega⟩
      rw [g2 j hj, if_pos (by omega)]
    · intro j hj ih mc g1 g2
      have hn' : mc.1 10 e 3 = nI n := by rw [g1.2]; exact hn
      have hl' : mc.2 10 e 4 = lI (det k A) := by rw [(g1.1 10 e (by omega)).2]; exact hl
      have hrk' : mc.2 12 (5 * e + k) j = lI (gj A k k j) := by rw [(g1.1 12 (5 * e + k) (by omega)).2]; exact hrk j (by omega)
      refine W2_st (bX1_clear_15 mc _ _ _ _ _ _ ?_)
      simp (disch := omega) only [nI_clamp, nI_add, inb_iff]
      rw [hn', nI_ltI (by omega) (by omega), hl', hrk', g2 j (by omega), if_neg (by omega), lI_mul, lI_mul, lI_sub]
      have b1 := gj_le2 hn5 hA12 hk hk hk (k := k) (i := k) (j := k)
      have b2 := gj_le hn5 hA12 hb12 hk hi (j := j) (by omega) (k := k) (i := i)
      have b3 := gj_le2 hn5 hA12 hk hi hk (k := k) (i := i) (j := k)
      have b4 := gj_le hn5 hA12 hb12 hk hk (j := j) (by omega) (k := k) (i := k)
      have m1 : (gj A k k k * gj A k i j).natAbs ≤ 2 ^ 60 := by rw [Int.natAbs_mul]; exact Nat.le_trans (Nat.mul_le_mul b1 b2) (by decide)
      have m2 : (gj A k i k * gj A k k j).natAbs ≤ 2 ^ 60 := by rw [Int.natAbs_mul]; exact Nat.le_trans (Nat.mul_le_mul b3 b4) (by decide)
      have hs := gj_step hD hik j
      rw [hs, lI_div hD (by omega) (by omega) (by omega) (by omega)]
      refine ⟨fun z => by omega, fun _ => ⟨by omega, by omega, by omega, by omega, by omega, ?_, by omega, ?_⟩⟩
      · intro z
        have := congrArg Int64.toInt z
        rw [lI_toInt (by omega) (by omega)] at this
        exact hD this
      · refine ih _ (offL_L g1 _ _ ⟨rfl, rfl⟩) (fun j' hj' => ?_)
        rw [mL_r]
        by_cases hjj : j' = j
        · rw [if_pos ⟨rfl, rfl, hjj⟩, if_pos (by omega), hjj]
        · rw [if_neg (fun z => hjj z.2.2), g2 j' hj']
          congr 1
          by_cases hlt : j' < j
          · rw [if_pos hlt, if_pos (by omega)]
          · rw [if_neg hlt, if_neg (by omega)]
  exact key 0 (Nat.zero_le _) m (offL_rfl _ _) (fun j' hj' => by rw [if_neg (by omega)]; exact hri j' hj')
def tQ (e : Nat) : Nat → Nat → Prop := fun t j => t = 12 ∧ j / 5 = e ∨ t = 10 ∧ j = e
/-- Equations.solve() -/
theorem c_solve {e n : Nat} {A : Nat → Nat → Int} (hn5 : n ≤ 5) (hn : m.1 10 e 3 = nI n) (hA12 : ∀ r j, r < n → j < n → (A r j).natAbs ≤ 12) (hb12 : ∀ r, r < n → (A r n).natAbs ≤ 12000) (hD : ∀ k, k ≤ n → 0 < det k A) (hr : ∀ i j, i < n → j ≤ n → m.2 12 (5 * e + i) j = lI (A i j)) (hQ : ∀ m', offL (tQ e) m m' → m'.2 10 e 4 = lI (det n A) → (∀ i, i < n → m'.2 12 (5 * e + i) n = lI (cr A n i n)) → Q none m') : callW2 xs (d + 2) 12 [vR 10 e] m Q := by
  refine eX1_solve m _ (W2_st (bX1_solve_0 m _ ?_))
  have key : ∀ k, k ≤ n → ∀ mc o2 o4, offL (tQ e) m mc → mc.2 10 e 4 = lI (det k A) → (∀ i j, i < n → j ≤ n → mc.2 12 (5 * e + i) j = lI (gj A k i j)) → (W2 xs (callW2 xs (d + 1)) tX1_solve [5, 18] none Q 5 [some (vR 10 (e)), some (vI (nI k)), (o2), none, (o4)] [] (mc)) := by
    refine upto n ?_ ?_
    · intro mc o2 o4 g1 g2 g3
      have hn' : mc.1 10 e 3 = nI n := by rw [g1.2]; exact hn
      refine W2_st (bX1_solve_5 mc _ _ _ _ ?_)
      rw [hn', nI_leI (by omega) (by omega)]
      refine ⟨fun _ => hQ mc g1 g2 (fun i hi => ?_), fun z => absurd (Nat.le_refl _) z⟩
      rw [g3 i n hi (Nat.le_refl _)]
      unfold gj
      rw [if_pos hi]
    · intro k hk ih mc o2 o4 g1 g2 g3
      have hn' : mc.1 10 e 3 = nI n := by rw [g1.2]; exact hn
      have hDk := hD k (by omega)
      refine W2_st (bX1_solve_5 mc _ _ _ _ ?_)
      rw [hn', nI_leI (by omega) (by omega), nI_clamp (by omega), g3 k k hk (by omega)]
      refine ⟨fun z => by omega, fun _ => ⟨inb_nI (by omega) (by omega), inb_nI (by omega) (by omega), ?_⟩⟩
      have inner : ∀ i, i ≤ n → ∀ mc, offL (tQ e) m mc → mc.2 10 e 4 = lI (det k A) → (∀ i' j, i' < n → j ≤ n → mc.2 12 (5 * e + i') j = lI (if i' < i then gj A (k + 1) i' j else gj A k i' j)) → (W2 xs (callW2 xs (d + 1)) tX1_solve [5, 18] none Q 18 [some (vR 10 (e)), some (vI (nI k)), some (vL (lI (gj A k k k))), none, some (vI (nI i))] [] (mc)) := by
        refine upto n ?_ ?_
        · intro mc g1 g2 g3
          have hn' : mc.1 10 e 3 = nI n := by rw [g1.2]; exact hn
          refine W2_st (bX1_solve_18 mc _ _ _ _ ?_)
          rw [hn', nI_leI (by omega) (by omega), nI_add]
          refine ⟨fun _ => ih _ _ _ (offL_L g1 _ _ (Or.inr ⟨rfl, rfl⟩)) (by rw [mL_r, if_pos ⟨rfl, rfl, rfl⟩, gj_kk]) (fun i j hi hj => ?_), fun z => absurd (Nat.le_refl _) z⟩
          rw [mL_r, if_neg (by omega), g3 i j hi hj, if_pos hi]
        · intro i hi ihi mc g1 g2 g3
          have hn' : mc.1 10 e 3 = nI n := by rw [g1.2]; exact hn
          refine W2_st (bX1_solve_18 mc _ _ _ _ ?_)
          simp (disch := omega) only [hn', nI_leI, nI_add, nI_eq]
          refine ⟨fun z => by omega, fun _ => ⟨fun he => ihi mc g1 g2 (fun i' j hi' hj => ?_), fun hne => ?_⟩⟩
          · rw [g3 i' j hi' hj]
            congr 1
            by_cases h1 : i' < i
            · rw [if_pos h1, if_pos (by omega)]
            · rw [if_neg h1]
              by_cases h2 : i' = i
              · rw [if_pos (by omega), h2, he, gj_row]
              · rw [if_neg (by omega)]
          · have ekk : gj A k k = (fun j => gj A k k j) := rfl
            refine c_clear hn5 hn' hA12 hb12 hk hi hne (by omega) g2 (fun j hj => by rw [g3 i j hi hj, if_neg (by omega)]) (fun j hj => ?_) (fun m2 f1 f2 => ⟨rfl, ?_⟩)
            · rw [g3 k j hk hj]
              congr 1
              split
              · exact gj_row A k j
              · rfl
            · refine ihi m2 (offL_trans g1 (offL_sub f1 (fun t j z => Or.inl ⟨z.1, by have := z.2; omega⟩))) (by rw [(f1.1 10 e (by omega)).2]; exact g2) (fun i' j hi' hj => ?_)
              by_cases h2 : i' = i
              · rw [h2, f2 j hj, if_pos (by omega)]
              · rw [(f1.1 12 (5 * e + i') (by omega)).2, g3 i' j hi' hj]
                congr 1
                by_cases h1 : i' < i
                · rw [if_pos h1, if_pos (by omega)]
                · rw [if_neg h1, if_neg (by omega)]
      exact inner 0 (Nat.zero_le _) mc g1 g2 (fun i' j hi' hj => by rw [if_neg (by omega)]; exact g3 i' j hi' hj)
  refine key 0 (Nat.zero_le _) _ none none (offL_L (offL_rfl _ _) _ _ (Or.inr ⟨rfl, rfl⟩)) (by rw [mL_r, if_pos ⟨rfl, rfl, rfl⟩]; exact lI_N 1) (fun i j hi hj => ?_)
  rw [mL_r, if_neg (by omega), hr i j hi hj, gj_0]
theorem c_upperOf {e r n : Nat} {v : Int64} (hn : m.1 10 e 3 = nI n) (hn5 : n ≤ 5) (hr : r < 5) (hv : m.2 12 (5 * e + r) n = v) (hQ : Q (some (vL v)) m) : callW2 xs (d + 1) 14 [vR 10 e, vI (nI r)] m Q := by
  refine eX1_upperOf m _ _ (W2_st (bX1_upperOf_0 m _ _ ?_))
  rw [hn, nI_clamp (by omega), nI_clamp (by omega), hv]
  exact ⟨inb_nI (by omega) (by omega), inb_nI (by omega) (by omega), hQ⟩
end L70
