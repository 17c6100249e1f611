/-! CONTRACTS (55): copy() (wip/whole/src/99.tD.src) -/
section L99w
variable {xs : Nat × (Nat → Int32)} {d : Nat} {Q : Option v2 → Mem → Prop} {m : Mem} {S : Sys} {H : Shv}
def plc (n : Nat) (p q : Int32) : Bool := decide (0 ≤ p.toInt ∧ 0 ≤ q.toInt ∧ p.toInt + q.toInt ≤ (n : Int))
theorem plc_t {n : Nat} {p q : Int32} (hn : n ≤ 60) (h : plc n p q = true) : ∃ a b, p = nI a ∧ q = nI b ∧ a + b ≤ n := by
  have h := of_decide_eq_true h
  obtain ⟨a, ha, e1⟩ := int_nI p 61 h.1 (by omega) (by omega)
  obtain ⟨b, hb, e2⟩ := int_nI q 61 h.2.1 (by omega) (by omega)
  refine ⟨a, b, e1, e2, ?_⟩
  rw [e1, e2, nI_toInt (by omega), nI_toInt (by omega)] at h
  omega
theorem i_subN {n : Nat} {q : Int32} (hn : n ≤ 60) (hq : 0 ≤ q.toInt) : (nI n - q).toInt = (n : Int) - q.toInt := by
  have h2 := Int32.toInt_lt q
  rw [Int32.toInt_sub, nI_toInt (by omega)]
  rw [Int.bmod_eq_of_le (by omega) (by omega)]
theorem c_hasPlaces {h n : Nat} (p q : Int32) (h2 : m.1 31 h 2 = nI n) (hn : n ≤ 60) (hQ : Q (some (vI (bI (plc n p q)))) m) : callW2 xs (d + 1) 36 [vR 31 h, vI p, vI q] m Q := by
  refine eX6_hasPlaces m _ _ _ (W2_st (bX6_hasPlaces_0 m _ _ _ ?_))
  rw [h2, i_neg, i_neg]
  unfold plc at hQ
  refine ⟨fun z => ⟨isB0, ?_⟩, fun z => ⟨fun z2 => ⟨isB0, ?_⟩, fun z2 => ⟨fun z3 => ⟨isB0, ?_⟩, fun z3 => ⟨isB1, ?_⟩⟩⟩⟩
  · rw [decide_eq_false (by omega)] at hQ; exact hQ
  · rw [decide_eq_false (by omega)] at hQ; exact hQ
  · rw [i_lt, i_subN hn (by omega)] at z3
    rw [decide_eq_false (by omega)] at hQ; exact hQ
  · rw [i_lt, i_subN hn (by omega)] at z3
    rw [decide_eq_true (by omega)] at hQ; exact hQ
theorem r_hasPlaces {h n : Nat} (p q : Int32) (hh : h < 8) (h2 : m.1 67 0 h = nI n) (hn : n ≤ 60) (hQ : Q (some (vI (bI (plc n p q)))) m) : callW2 xs (d + 1) 182 [vR 40 0, vI (nI h), vI p, vI q] m Q := by
  refine eX12_hasPlaces m _ _ _ (W2_st (bX12_hasPlaces_0 m _ _ _ ?_))
  rw [nI_clamp (n := h) (by omega), h2, i_neg, i_neg]
  have ih : inb (nI h) 8 := inb_nI (by omega) (by omega)
  unfold plc at hQ
  refine ⟨fun z => ⟨isB0, ?_⟩, fun z => ⟨fun z2 => ⟨isB0, ?_⟩, fun z2 => ⟨ih, fun z4 => ⟨isB0, ?_⟩, fun z4 => ⟨ih, fun z3 => ⟨isB0, ?_⟩, fun z3 => ⟨isB1, ?_⟩⟩⟩⟩⟩
  · rw [decide_eq_false (by omega)] at hQ; exact hQ
  · rw [decide_eq_false (by omega)] at hQ; exact hQ
  · rw [i_lt, nI_toInt (by omega)] at z4
    rw [decide_eq_false (by omega)] at hQ; exact hQ
  · rw [i_lt, i_subN hn (by omega)] at z3
    rw [decide_eq_false (by omega)] at hQ; exact hQ
  · rw [i_lt, i_subN hn (by omega)] at z3
    rw [decide_eq_true (by omega)] at hQ; exact hQ
theorem c_isRow {h k : Nat} (h0 : m.1 31 h 0 = nI k) (hk : k ≤ 4) (hQ : Q (some (vI (bI (decide (3 ≤ k))))) m) : callW2 xs (d + 1) 35 [vR 31 h] m Q := by
  refine eX6_isRow m _ (W2_st (bX6_isRow_0 m _ ?_))
  rw [h0, nI_eq (by omega) (by omega), nI_eq (by omega) (by omega)]
  refine ⟨fun z => ⟨isB1, ?_⟩, fun z => ⟨fun z2 => ⟨isB0, ?_⟩, fun z2 => ⟨isB1, ?_⟩⟩⟩
  · rw [decide_eq_true (by omega)] at hQ; exact hQ
  · rw [decide_eq_false (by omega)] at hQ; exact hQ
  · rw [decide_eq_true (by omega)] at hQ; exact hQ
def copV (H : Shv) (p1 p2 p3 p4 p5 : Int32) : Int32 := if ¬ (shl p1 = true ∧ shl p3 = true) then -1 else if hK H p1.toNatClampNeg = 0 ∨ hK H p3.toNatClampNeg = 0 then -11 else if ¬ (3 ≤ hK H p1.toNatClampNeg ∧ hK H p1.toNatClampNeg = hK H p3.toNatClampNeg) then -12 else if ¬ (plc (hL H p1.toNatClampNeg) p2 p5 = true ∧ plc (hL H p3.toNatClampNeg) p4 p5 = true) then -13 else p5
def copO (H : Shv) (p1 p2 p3 p4 p5 : Int32) : Bool := shl p1 && shl p3 && decide (3 ≤ hK H p1.toNatClampNeg ∧ hK H p1.toNatClampNeg = hK H p3.toNatClampNeg) && plc (hL H p1.toNatClampNeg) p2 p5 && plc (hL H p3.toNatClampNeg) p4 p5
def copH (H : Shv) (p1 p2 p3 p4 p5 : Int32) : Shv := if copO H p1 p2 p3 p4 p5 = true then setH H p3.toNatClampNeg (hK H p3.toNatClampNeg, hV H p3.toNatClampNeg, hL H p3.toNatClampNeg, va_cpy (hD H p1.toNatClampNeg) (hD H p3.toNatClampNeg) p2.toNatClampNeg p4.toNatClampNeg p5.toNatClampNeg) else H
theorem cpy_r {α : Type} (f g : Nat → α) (a b n j : Nat) : va_cpy f g a b n j = if b ≤ j ∧ j < b + n then f (a + (j - b)) else g j := rfl
section
variable {p1 p2 p3 p4 p5 : Int32}
theorem cop_1 (h : ¬ (shl p1 = true ∧ shl p3 = true)) : copV H p1 p2 p3 p4 p5 = -1 ∧ copO H p1 p2 p3 p4 p5 = false := by
  refine ⟨by unfold copV; rw [if_pos h], ?_⟩
  unfold copO
  cases h1 : shl p1 with
  | false => simp
  | true => cases h3 : shl p3 with
    | false => simp
    | true => exact absurd ⟨h1, h3⟩ h
theorem cop_2 (h : shl p1 = true ∧ shl p3 = true) (h2 : hK H p1.toNatClampNeg = 0 ∨ hK H p3.toNatClampNeg = 0) : copV H p1 p2 p3 p4 p5 = -11 ∧ copO H p1 p2 p3 p4 p5 = false := by
  refine ⟨by unfold copV; rw [if_neg (fun z => z h), if_pos h2], ?_⟩
  unfold copO
  rw [decide_eq_false (by omega)]; simp
theorem cop_3 (h : shl p1 = true ∧ shl p3 = true) (h2 : ¬ (hK H p1.toNatClampNeg = 0 ∨ hK H p3.toNatClampNeg = 0)) (h3 : ¬ (3 ≤ hK H p1.toNatClampNeg ∧ hK H p1.toNatClampNeg = hK H p3.toNatClampNeg)) : copV H p1 p2 p3 p4 p5 = -12 ∧ copO H p1 p2 p3 p4 p5 = false := by
  refine ⟨by unfold copV; rw [if_neg (fun z => z h), if_neg h2, if_pos h3], ?_⟩
  unfold copO
  rw [decide_eq_false h3]; simp
theorem cop_4 (h : shl p1 = true ∧ shl p3 = true) (h2 : ¬ (hK H p1.toNatClampNeg = 0 ∨ hK H p3.toNatClampNeg = 0)) (h3 : 3 ≤ hK H p1.toNatClampNeg ∧ hK H p1.toNatClampNeg = hK H p3.toNatClampNeg) (h4 : ¬ (plc (hL H p1.toNatClampNeg) p2 p5 = true ∧ plc (hL H p3.toNatClampNeg) p4 p5 = true)) : copV H p1 p2 p3 p4 p5 = -13 ∧ copO H p1 p2 p3 p4 p5 = false := by
  refine ⟨by unfold copV; rw [if_neg (fun z => z h), if_neg h2, if_neg (fun z => z h3), if_pos h4], ?_⟩
  unfold copO
  cases q1 : plc (hL H p1.toNatClampNeg) p2 p5 with
  | false => simp
  | true => cases q2 : plc (hL H p3.toNatClampNeg) p4 p5 with
    | false => simp
    | true => exact absurd ⟨q1, q2⟩ h4
theorem cop_5 (h : shl p1 = true ∧ shl p3 = true) (h2 : ¬ (hK H p1.toNatClampNeg = 0 ∨ hK H p3.toNatClampNeg = 0)) (h3 : 3 ≤ hK H p1.toNatClampNeg ∧ hK H p1.toNatClampNeg = hK H p3.toNatClampNeg) (h4 : plc (hL H p1.toNatClampNeg) p2 p5 = true ∧ plc (hL H p3.toNatClampNeg) p4 p5 = true) : copV H p1 p2 p3 p4 p5 = p5 ∧ copO H p1 p2 p3 p4 p5 = true := by
  refine ⟨by unfold copV; rw [if_neg (fun z => z h), if_neg h2, if_neg (fun z => z h3), if_neg (fun z => z h4)], ?_⟩
  unfold copO
  rw [h.1, h.2, decide_eq_true h3, h4.1, h4.2]; rfl
end
theorem c_copy {p1 p2 p3 p4 p5 : Int32} (hS : SC m H) (hQ : ∀ m', off (tX p3.toNatClampNeg) m m' → SC m' (copH H p1 p2 p3 p4 p5) → Q (some (vI (copV H p1 p2 p3 p4 p5))) m') : callW2 xs (d + 2) 101 [vR 0 0, vI p1, vI p2, vI p3, vI p4, vI p5] m Q := by
  refine eX11_copy m _ _ _ _ _ (W2_st (bX11_copy_0 m _ _ _ _ _ ?_))
  have an : ∀ r, (copV H p1 p2 p3 p4 p5 = r ∧ copO H p1 p2 p3 p4 p5 = false) → Q (some (vI r)) m := fun r h => by
    have h2 := hQ m (off_rfl _ _) (by unfold copH; rw [if_neg (by rw [h.2]; decide)]; exact hS)
    rw [h.1] at h2; exact h2
  refine c_isShelf p1 ⟨_, rfl, ?_⟩
  rw [bI_0]
  refine ⟨fun h => an _ (cop_1 (fun z => by rw [h] at z; exact absurd z.1 (by decide))), fun hp => ?_⟩
  rw [Bool.not_eq_false] at hp
  refine c_isShelf p3 ⟨_, rfl, ?_⟩
  rw [bI_0]
  refine ⟨fun hq => ?_, fun h => an _ (cop_1 (fun z => by rw [h] at z; exact absurd z.2 (by decide)))⟩
  rw [Bool.not_eq_false] at hq
  obtain ⟨a, ha, e1⟩ := shl_t hp
  obtain ⟨b, hb, e2⟩ := shl_t hq
  have ca : p1.toNatClampNeg = a := by rw [e1, nI_clamp (by omega)]
  have cb : p3.toNatClampNeg = b := by rw [e2, nI_clamp (by omega)]
  have HH : shl p1 = true ∧ shl p3 = true := ⟨hp, hq⟩
  obtain ⟨a4, a0, _, _, a3⟩ := hS a ha
  obtain ⟨b4, b0, _, _, b3⟩ := hS b hb
  have k2 := @cop_2 H p1 p2 p3 p4 p5 HH
  have k3 := @cop_3 H p1 p2 p3 p4 p5 HH
  have k4 := @cop_4 H p1 p2 p3 p4 p5 HH
  have k5 := @cop_5 H p1 p2 p3 p4 p5 HH
  rw [ca, cb] at k2 k3 k4 k5
  rw [ca, cb, a0, b0, z_eq (by omega), z_eq (by omega)]
  refine ⟨by rw [e1]; exact inb_nI (by omega) (by omega), by rw [e2]; exact inb_nI (by omega) (by omega), fun h0 => an _ (k2 (Or.inl h0)), fun h0 => ⟨fun g0 => ?_, fun g0 => an _ (k2 (Or.inr g0))⟩⟩
  have n0 : ¬ (hK H a = 0 ∨ hK H b = 0) := by omega
  refine c_isRow a0 a4 ⟨_, rfl, ?_⟩
  rw [bI_0, a0, b0, nI_eq (by omega) (by omega)]
  refine ⟨fun h => an _ (k3 n0 (fun z => of_decide_eq_false h z.1)), fun h => ⟨fun he => ?_, fun he => an _ (k3 n0 (fun z => he z.2))⟩⟩
  rw [Bool.not_eq_false] at h
  have h3 : 3 ≤ hK H a ∧ hK H a = hK H b := ⟨of_decide_eq_true h, he⟩
  obtain ⟨a60, al, ad⟩ := a3 h3.1
  obtain ⟨b60, bl, bd⟩ := b3 (by omega)
  refine c_hasPlaces p2 p5 al a60 ⟨_, rfl, ?_⟩
  rw [bI_0]
  refine ⟨fun h => an _ (k4 n0 h3 (fun z => by rw [h] at z; exact absurd z.1 (by decide))), fun h => ?_⟩
  rw [Bool.not_eq_false] at h
  refine c_hasPlaces p4 p5 bl b60 ⟨_, rfl, ?_⟩
  rw [bI_0]
  refine ⟨fun h' => ?_, fun h' => an _ (k4 n0 h3 (fun z => by rw [h'] at z; exact absurd z.2 (by decide)))⟩
  rw [Bool.not_eq_false] at h'
  have k5 := k5 n0 h3 ⟨h, h'⟩
  obtain ⟨x, n, ex, en, hx⟩ := plc_t a60 h
  obtain ⟨y, n', ey, en', hy⟩ := plc_t b60 h'
  have c2 : p2.toNatClampNeg = x := by rw [ex, nI_clamp (by omega)]
  have c4 : p4.toNatClampNeg = y := by rw [ey, nI_clamp (by omega)]
  have c5 : p5.toNatClampNeg = n := by rw [en, nI_clamp (by omega)]
  have c5' : p5.toNatClampNeg = n' := by rw [en', nI_clamp (by omega)]
  have hnn : n' = n := by omega
  subst hnn
  refine ⟨⟨?_, ?_, ?_, by omega, by omega⟩, ?_⟩
  · rw [ex, z_lt (by omega)]; exact not_false
  · rw [ey, z_lt (by omega)]; exact not_false
  · rw [en, z_lt (by omega)]; exact not_false
  rw [k5.1] at hQ
  have ho : off (tX p3.toNatClampNeg) m (m.1, fun a_1 b_1 => if a_1 = 32 ∧ b_1 = b then va_cpy (m.2 32 a) (m.2 32 b) p2.toNatClampNeg p4.toNatClampNeg p5.toNatClampNeg else m.2 a_1 b_1) := by
    intro t i hT
    refine ⟨rfl, ?_⟩
    show (if t = 32 ∧ i = b then _ else m.2 t i) = _
    rw [if_neg (fun z => hT (Or.inl ⟨Or.inr z.1, z.2.trans cb.symm⟩))]
  refine hQ _ ho ?_
  unfold copH
  rw [if_pos k5.2]
  refine SC_set hS ho ?_
  rw [ca, cb, c2, c4, c5]
  refine ⟨b4, b0, fun z => ?_, fun z => ?_, fun _ => ⟨b60, bl, fun j hj => ?_⟩⟩
  · have z : hK H b = 1 := z
    omega
  · have z : hK H b = 2 := z
    omega
  · have hj : j < hL H b := hj
    show (if 32 = 32 ∧ b = b then va_cpy (m.2 32 a) (m.2 32 b) x y n' else m.2 32 b) j = va_cpy (hD H a) (hD H b) x y n' j
    rw [if_pos ⟨rfl, rfl⟩, cpy_r, cpy_r]
    by_cases q : y ≤ j ∧ j < y + n'
    · rw [if_pos q, if_pos q]; exact ad _ (by omega)
    · rw [if_neg q, if_neg q]; exact bd _ hj
theorem r_copy {p1 p2 p3 p4 p5 : Int32} (hS : SM m H) (hk4 : ∀ h, h < 8 → hK H h ≤ 4) (hQ : ∀ m', off tRS (mI m 40 0 0 (nI 0)) m' → SM m' (copH H p1 p2 p3 p4 p5) → Q (some (vI (copV H p1 p2 p3 p4 p5))) m') : callW2 xs (d + 2) 183 [vR 40 0, vI p1, vI p2, vI p3, vI p4, vI p5] m Q := by
  refine eX12_copy m _ _ _ _ _ (W2_st (bX12_copy_0 m _ _ _ _ _ ?_))
  have hS := SM_0 (v := nI 0) hS
  generalize mI m 40 0 0 (nI 0) = mo at hS hQ ⊢
  have an : ∀ r, (copV H p1 p2 p3 p4 p5 = r ∧ copO H p1 p2 p3 p4 p5 = false) → Q (some (vI r)) mo := fun r h => by
    have h2 := hQ mo (off_rfl _ _) (by unfold copH; rw [if_neg (by rw [h.2]; decide)]; exact hS)
    rw [h.1] at h2; exact h2
  refine r_isShelf p1 ⟨_, rfl, ?_⟩
  rw [bI_0]
  refine ⟨fun h => an _ (cop_1 (fun z => by rw [h] at z; exact absurd z.1 (by decide))), fun hp => ?_⟩
  rw [Bool.not_eq_false] at hp
  refine r_isShelf p3 ⟨_, rfl, ?_⟩
  rw [bI_0]
  refine ⟨fun hq => ?_, fun h => an _ (cop_1 (fun z => by rw [h] at z; exact absurd z.2 (by decide)))⟩
  rw [Bool.not_eq_false] at hq
  obtain ⟨a, ha, e1⟩ := shl_t hp
  obtain ⟨b, hb, e2⟩ := shl_t hq
  have ca : p1.toNatClampNeg = a := by rw [e1, nI_clamp (by omega)]
  have cb : p3.toNatClampNeg = b := by rw [e2, nI_clamp (by omega)]
  have HH : shl p1 = true ∧ shl p3 = true := ⟨hp, hq⟩
  obtain ⟨a0, _, a3⟩ := hS a ha
  obtain ⟨b0, _, b3⟩ := hS b hb
  have a4 := hk4 a ha
  have b4 := hk4 b hb
  have k2 := @cop_2 H p1 p2 p3 p4 p5 HH
  have k3 := @cop_3 H p1 p2 p3 p4 p5 HH
  have k4 := @cop_4 H p1 p2 p3 p4 p5 HH
  have k5 := @cop_5 H p1 p2 p3 p4 p5 HH
  rw [ca, cb] at k2 k3 k4 k5
  have ia : inb p1 8 := by rw [e1]; exact inb_nI (by omega) (by omega)
  have ib : inb p3 8 := by rw [e2]; exact inb_nI (by omega) (by omega)
  rw [ca, cb, a0, b0, z_eq (by omega), z_eq (by omega), nI_ltI (by omega) (by omega), nI_eq (by omega) (by omega)]
  refine ⟨ia, fun h0 => an _ (k2 (Or.inl h0)), fun h0 => ⟨ib, fun g0 => ?_, fun g0 => an _ (k2 (Or.inr g0))⟩⟩
  have n0 : ¬ (hK H a = 0 ∨ hK H b = 0) := by omega
  refine ⟨ia, fun h => an _ (k3 n0 (by omega)), fun h => ⟨ia, ib, fun he => ?_, fun he => an _ (k3 n0 (fun z => he z.2))⟩⟩
  have h3 : 3 ≤ hK H a ∧ hK H a = hK H b := ⟨by omega, he⟩
  obtain ⟨a60, al, ad⟩ := a3 h3.1
  obtain ⟨b60, bl, bd⟩ := b3 (by omega)
  rw [e1, e2]
  refine r_hasPlaces p2 p5 ha al a60 ⟨_, rfl, ?_⟩
  rw [bI_0]
  refine ⟨fun h => an _ (k4 n0 h3 (fun z => by rw [h] at z; exact absurd z.1 (by decide))), fun h => ?_⟩
  rw [Bool.not_eq_false] at h
  refine r_hasPlaces p4 p5 hb bl b60 ⟨_, rfl, ?_⟩
  rw [bI_0]
  refine ⟨fun h' => ?_, fun h' => an _ (k4 n0 h3 (fun z => by rw [h'] at z; exact absurd z.2 (by decide)))⟩
  rw [Bool.not_eq_false] at h'
  have k5 := k5 n0 h3 ⟨h, h'⟩
  obtain ⟨x, n, ex, en, hx⟩ := plc_t a60 h
  obtain ⟨y, n', ey, en', hy⟩ := plc_t b60 h'
  have c2 : p2.toNatClampNeg = x := by rw [ex, nI_clamp (by omega)]
  have c4 : p4.toNatClampNeg = y := by rw [ey, nI_clamp (by omega)]
  have c5 : p5.toNatClampNeg = n := by rw [en, nI_clamp (by omega)]
  have c5' : p5.toNatClampNeg = n' := by rw [en', nI_clamp (by omega)]
  have hnn : n' = n := by omega
  subst hnn
  rw [k5.1] at hQ
  have fin : ∀ mc, off tRS mo mc → mc.1 = mo.1 → mc.2 68 0 = mo.2 68 0 → (∀ i, mc.2 69 0 i = if 60 * b + y ≤ i ∧ i < 60 * b + y + n' then mo.2 69 0 (60 * a + x + (i - (60 * b + y))) else mo.2 69 0 i) → Q (some (vI p5)) mc := by
    intro mc g0 g1 g2 g3
    refine hQ mc g0 ?_
    unfold copH
    rw [if_pos k5.2]
    rw [ca, cb, c2, c4, c5]
    refine SM_set hS (fun _ _ => by rw [g1]) (fun _ _ => by rw [g1]) (fun _ _ => by rw [g2]) (fun i j hi hj => ?_) ⟨by rw [g1]; exact b0, fun z => ?_, fun _ => ⟨b60, by rw [g1]; exact bl, fun j hj => ?_⟩⟩
    · rw [g3, if_neg (by omega)]
    · have z : hK H b = 1 ∨ hK H b = 2 := z
      omega
    · have hj : j < hL H b := hj
      show mc.2 69 0 (60 * b + j) = va_cpy (hD H a) (hD H b) x y n' j
      rw [g3, cpy_r]
      by_cases q : y ≤ j ∧ j < y + n'
      · rw [if_pos (by omega), if_pos q, ← ad (x + (j - y)) (by omega), show 60 * a + x + (60 * b + j - (60 * b + y)) = 60 * a + (x + (j - y)) by omega]
      · rw [if_neg (by omega), if_neg q]; exact bd _ hj
  rw [ex, ey, en]
  rw [en] at fin
  have key2 : ∀ j, j ≤ n' → ∀ mc, off tRS mo mc → mc.1 = mo.1 → mc.2 68 0 = mo.2 68 0 → (∀ i, i < n' → mc.2 70 0 i = mo.2 69 0 (60 * a + x + i)) → (∀ i, mc.2 69 0 i = if 60 * b + y ≤ i ∧ i < 60 * b + y + j then mo.2 69 0 (60 * a + x + (i - (60 * b + y))) else mo.2 69 0 i) → (W2 xs (callW2 xs (d + 1)) tX12_copy [56, 77] (some .int) Q 77 [some (vR 40 0), some (vI (nI a)), some (vI (nI x)), some (vI (nI b)), some (vI (nI y)), some (vI (nI n')), some (vI (nI j))] [] (mc)) := by
    refine upto n' ?_ ?_
    · intro mc g0 g1 g2 g3 g4
      exact W2_st (bX12_copy_77 mc _ _ _ _ _ _ ⟨fun _ => fin mc g0 g1 g2 g4, fun z => absurd (by rw [nI_leI (by omega) (by omega)]; exact Nat.le_refl _) z⟩)
    · intro j hj ih mc g0 g1 g2 g3 g4
      refine W2_st (bX12_copy_77 mc _ _ _ _ _ _ ?_)
      rw [nI_leI (by omega) (by omega)]
      simp only [pk_mul, nI_add]
      rw [nI_clamp (n := 60 * b + y + j) (by omega), nI_clamp (n := j) (by omega)]
      refine ⟨fun z => by omega, fun _ => ⟨inb_nI (by omega) (by omega), inb_nI (by omega) (by omega), ih _ (off_L g0 _ _ ⟨by omega, by omega, rfl⟩) g1 ?_ (fun i hi => ?_) (fun i => ?_)⟩⟩
      · rw [← g2]; funext i; rw [mL_r, if_neg (by omega)]
      · rw [mL_r, if_neg (by omega)]; exact g3 i hi
      · rw [mL_r]
        by_cases e : i = 60 * b + y + j
        · rw [if_pos ⟨rfl, rfl, e⟩, if_pos (by omega), g3 j hj, show i - (60 * b + y) = j by omega]
        · rw [if_neg (by omega), g4]
          by_cases q : 60 * b + y ≤ i ∧ i < 60 * b + y + j
          · rw [if_pos q, if_pos (by omega)]
          · rw [if_neg q, if_neg (by omega)]
  have key : ∀ j, j ≤ n' → ∀ mc, off tRS mo mc → mc.1 = mo.1 → mc.2 68 0 = mo.2 68 0 → mc.2 69 0 = mo.2 69 0 → (∀ i, i < j → mc.2 70 0 i = mo.2 69 0 (60 * a + x + i)) → (W2 xs (callW2 xs (d + 1)) tX12_copy [56, 77] (some .int) Q 56 [some (vR 40 0), some (vI (nI a)), some (vI (nI x)), some (vI (nI b)), some (vI (nI y)), some (vI (nI n')), some (vI (nI j))] [] (mc)) := by
    refine upto n' ?_ ?_
    · intro mc g0 g1 g2 g3 g4
      refine W2_st (bX12_copy_56 mc _ _ _ _ _ _ ⟨fun _ => ?_, fun z => absurd (by rw [nI_leI (by omega) (by omega)]; exact Nat.le_refl _) z⟩)
      exact key2 0 (Nat.zero_le _) mc g0 g1 g2 g4 (fun i => by rw [if_neg (by omega), g3])
    · intro j hj ih mc g0 g1 g2 g3 g4
      refine W2_st (bX12_copy_56 mc _ _ _ _ _ _ ?_)
      rw [nI_leI (by omega) (by omega)]
      simp only [pk_mul, nI_add]
      rw [nI_clamp (n := 60 * a + x + j) (by omega), nI_clamp (n := j) (by omega)]
      refine ⟨fun z => by omega, fun _ => ⟨inb_nI (by omega) (by omega), inb_nI (by omega) (by omega), ih _ (off_L g0 _ _ ⟨by omega, by omega, rfl⟩) g1 ?_ ?_ (fun i hi => ?_)⟩⟩
      · rw [← g2]; funext i; rw [mL_r, if_neg (by omega)]
      · rw [← g3]; funext i; rw [mL_r, if_neg (by omega)]
      · rw [mL_r]
        by_cases e : i = j
        · rw [if_pos ⟨rfl, rfl, e⟩, e, g3]
        · rw [if_neg (by omega)]; exact g4 i (by omega)
  exact key 0 (Nat.zero_le _) mo (off_rfl _ _) rfl rfl rfl (fun i hi => absurd hi (Nat.not_lt_zero _))
end L99w
