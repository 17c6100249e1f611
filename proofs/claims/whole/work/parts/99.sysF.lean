/-! CONTRACTS (50): outcome(), the class (wip/whole/src/99.sysF.src) -/
section L99f
variable {xs : Nat × (Nat → Int32)} {d : Nat} {Q : Option v2 → Mem → Prop} {m : Mem} {S : Sys}
def in112 (n : Int32) : Prop := ((1 : Nat) : Int) ≤ n.toInt ∧ n.toInt ≤ ((12 : Nat) : Int)
theorem in112_t {n : Int32} (h : in112 n) : ∃ k, 1 ≤ k ∧ k ≤ 12 ∧ n = nI k := by
  obtain ⟨k, h1, h2⟩ := int_nI n 13 (by have := h.1; omega) (by have := h.2; omega) (by omega)
  have h3 := h.1
  rw [h2, nI_toInt (by omega)] at h3
  exact ⟨k, by omega, by omega, h2⟩
def xOf (p q : Int32) : Nat := 4 * p.toNatClampNeg + q.toNatClampNeg
def outIn (S : Sys) (p q t n : Int32) : Prop := isAc S p q = true ∧ isSt S t = true ∧ in112 n ∧ (sK S (xOf p q) = 3 → t = p)
def outFit (S : Sys) (x b k : Nat) : Prop := partsS S x + k ≤ 12 ∧ (goesS S x).testBit b = false
/-- why an OUTCOME is refused -/
def outN (S : Sys) (p q t n r : Int32) : Prop := (¬ outIn S p q t n ∧ r = -1) ∨ (outIn S p q t n ∧ ¬ sO S (xOf p q) < room S (xOf p q) ∧ r = -2) ∨ (outIn S p q t n ∧ sO S (xOf p q) < room S (xOf p q) ∧ ¬ outFit S (xOf p q) t.toNatClampNeg n.toNatClampNeg ∧ r = -3)
def outY (S : Sys) (p q t n : Int32) : Prop := outIn S p q t n ∧ sO S (xOf p q) < room S (xOf p q) ∧ outFit S (xOf p q) t.toNatClampNeg n.toNatClampNeg
theorem outN_uniq {p q t n r r' : Int32} (h : outN S p q t n r) (h' : outN S p q t n r') : r = r' := by
  rcases h with ⟨a, b⟩ | ⟨a, a2, b⟩ | ⟨a, a2, a3, b⟩ <;> rcases h' with ⟨e, f⟩ | ⟨e, e2, f⟩ | ⟨e, e2, e3, f⟩
  · rw [b, f]
  · exact absurd e a
  · exact absurd e a
  · exact absurd a e
  · rw [b, f]
  · exact absurd e2 a2
  · exact absurd a e
  · exact absurd a2 e2
  · rw [b, f]
theorem outN_Y {p q t n r : Int32} (h : outN S p q t n r) (h' : outY S p q t n) : False := by
  rcases h with ⟨a, b⟩ | ⟨a, a2, b⟩ | ⟨a, a2, a3, b⟩
  · exact a h'.1
  · exact a2 h'.2.1
  · exact a3 h'.2.2
theorem c_roomS {x : Nat} (hR : RC m S) (hw : wf S) (hx : isA S x) (hQ : Q (some (vI (nI (room S x)))) m) : callW2 xs (d + 2) 4 [vR 4 x] m Q := by
  have hk := wf_k hw hx
  have h4 : sK S x = 0 ∨ sK S x = 1 ∨ sK S x = 2 ∨ sK S x = 3 := by omega
  refine eX0_room m _ (W2_st (bX0_room_0 m _ ?_))
  refine eX0_isSingle m _ (W2_st (bX0_isSingle_0 m _ ?_))
  rw [rc_k hR hx, nI_eq (by omega) (by omega), nI_eq (by omega) (by omega)]
  unfold room at hQ
  have y1 : sK S x % 2 = 1 → ∃ w3 : Int32, some (vI (nI 1)) = some (vI w3) ∧ ((w3 = 0 → Q (some (vI (nI 4))) m) ∧ (¬ w3 = 0 → Q (some (vI (nI 1))) m)) := fun h => ⟨_, rfl, fun z => absurd z (by decide), fun _ => by rw [if_pos h] at hQ; exact hQ⟩
  have y0 : ¬ sK S x % 2 = 1 → ∃ w3 : Int32, some (vI (nI 0)) = some (vI w3) ∧ ((w3 = 0 → Q (some (vI (nI 4))) m) ∧ (¬ w3 = 0 → Q (some (vI (nI 1))) m)) := fun h => ⟨_, rfl, fun _ => by rw [if_neg h] at hQ; exact hQ, fun z => absurd rfl z⟩
  exact ⟨fun h => ⟨isB1, y1 (by omega)⟩, fun h1 => ⟨fun h => ⟨isB0, y0 (by omega)⟩, fun h => ⟨isB1, y1 (by omega)⟩⟩⟩
theorem c_addOutcome {ver x b k : Nat} (hR : RC m S) (hw : wf S) (hver : m.1 1 0 2 = nI ver) (hx : isA S x) (hO : sO S x < 4) (hb : b < 10) (hQ : ∀ m', off tU m m' → RC m' (addO S x b k) → m'.1 1 0 2 = nI (ver + 1) → Q (some (vI (nI (partsS S x + k)))) m') : callW2 xs (d + 2) 68 [vR 1 0, vR 4 x, vI (nI b), vI (nI k)] m Q := by
  have hx40 := wf_40 hw hx
  refine eX10_addOutcome m _ _ _ (W2_st (bX10_addOutcome_0 m _ _ _ ?_))
  rw [hver, nI_add]
  generalize hm1 : mI m 1 0 2 (nI (ver + 1)) = m1
  have r1 : ∀ t i j, ¬ (t = 1 ∧ i = 0 ∧ j = 2) → m1.1 t i j = m.1 t i j := fun t i j h => by rw [← hm1, mI_r, if_neg h]
  have o1 : ∀ T : Nat → Nat → Prop, T 1 0 → off T m m1 := fun T h => by rw [← hm1]; exact off_I (off_rfl _ _) _ _ h
  have v1 : m1.1 1 0 2 = nI (ver + 1) := by rw [← hm1, mI_r, if_pos ⟨rfl, rfl, rfl⟩]
  refine eX0_addOutcome m1 _ _ _ (W2_st (bX0_addOutcome_0 m1 _ _ _ ?_))
  have a0 : m1.1 4 x 2 = nI (sO S x) := by rw [r1 4 x 2 (by omega)]; exact rc_o hR hx
  rw [a0, nI_clamp (n := sO S x) (by omega)]
  have a1 : (mI m1 5 x (sO S x) (nI b)).1 4 x 2 = nI (sO S x) := by rw [mI_r, if_neg (by omega)]; exact a0
  rw [a1, nI_clamp (n := sO S x) (by omega)]
  have ib : inb (nI (sO S x)) 4 := inb_nI (by omega) (by omega)
  refine ⟨ib, ib, rfl, ?_⟩
  generalize hm2 : mI (mI m1 5 x (sO S x) (nI b)) 6 x (sO S x) (nI k) = m2
  have r2 : ∀ t i j, t ≠ 5 → t ≠ 6 → m2.1 t i j = m1.1 t i j := fun t i j h h' => by rw [← hm2, mI_r, if_neg (by omega), mI_r, if_neg (by omega)]
  have x2 : m2.1 5 x (sO S x) = nI b ∧ m2.1 6 x (sO S x) = nI k := by
    rw [← hm2]
    exact ⟨by rw [mI_r, if_neg (by omega), mI_r, if_pos ⟨rfl, rfl, rfl⟩], by rw [mI_r, if_pos ⟨rfl, rfl, rfl⟩]⟩
  have y2 : ∀ o, o ≠ sO S x → m2.1 5 x o = m.1 5 x o ∧ m2.1 6 x o = m.1 6 x o := fun o h => by
    rw [← r1 5 x o (by omega), ← r1 6 x o (by omega), ← hm2]
    exact ⟨by rw [mI_r, if_neg (by omega), mI_r, if_neg (by omega)], by rw [mI_r, if_neg (by omega), mI_r, if_neg (by omega)]⟩
  have o2 : ∀ T : Nat → Nat → Prop, T 1 0 → T 5 x → T 6 x → off T m m2 := fun T h h5 h6 => by rw [← hm2]; exact off_I (off_I (o1 T h) _ _ h5) _ _ h6
  have c2 : m2.1 4 x 2 = nI (sO S x) := by rw [r2 4 x 2 (by omega) (by omega)]; exact a0
  rw [c2, nI_add]
  have c3 : (mI m2 4 x 2 (nI (sO S x + 1))).1 4 x 3 = nI (partsS S x) := by rw [mI_r, if_neg (by omega), r2 4 x 3 (by omega) (by omega), r1 4 x 3 (by omega)]; exact rc_ps hR hx
  rw [c3, nI_add]
  have c4 : (mI (mI m2 4 x 2 (nI (sO S x + 1))) 4 x 3 (nI (partsS S x + k))).1 4 x 4 = nI (goesS S x) := by rw [mI_r, if_neg (by omega), mI_r, if_neg (by omega), r2 4 x 4 (by omega) (by omega), r1 4 x 4 (by omega)]; exact rc_g hR hx
  rw [c4, one_shl (by omega), nI_or]
  generalize hm5 : mI (mI (mI m2 4 x 2 (nI (sO S x + 1))) 4 x 3 (nI (partsS S x + k))) 4 x 4 (nI (goesS S x ||| 2 ^ b)) = m5
  have r5 : ∀ t i j, t ≠ 4 → m5.1 t i j = m2.1 t i j := fun t i j h => by rw [← hm5, mI_r, if_neg (by omega), mI_r, if_neg (by omega), mI_r, if_neg (by omega)]
  have x5 : m5.1 4 x 0 = m.1 4 x 0 ∧ m5.1 4 x 1 = m.1 4 x 1 ∧ m5.1 4 x 2 = nI (sO S x + 1) ∧ m5.1 4 x 3 = nI (partsS S x + k) ∧ m5.1 4 x 4 = nI (goesS S x ||| 2 ^ b) := by
    rw [← r1 4 x 0 (by omega), ← r1 4 x 1 (by omega), ← r2 4 x 0 (by omega) (by omega), ← r2 4 x 1 (by omega) (by omega), ← hm5]
    refine ⟨?_, ?_, ?_, ?_, ?_⟩
    · rw [mI_r, if_neg (by omega), mI_r, if_neg (by omega), mI_r, if_neg (by omega)]
    · rw [mI_r, if_neg (by omega), mI_r, if_neg (by omega), mI_r, if_neg (by omega)]
    · rw [mI_r, if_neg (by omega), mI_r, if_neg (by omega), mI_r, if_pos ⟨rfl, rfl, rfl⟩]
    · rw [mI_r, if_neg (by omega), mI_r, if_pos ⟨rfl, rfl, rfl⟩]
    · rw [mI_r, if_pos ⟨rfl, rfl, rfl⟩]
  have o5 : ∀ T : Nat → Nat → Prop, T 1 0 → T 4 x → T 5 x → T 6 x → off T m m5 := fun T h h4 h5 h6 => by rw [← hm5]; exact off_I (off_I (off_I (o2 T h h5 h6) _ _ h4) _ _ h4) _ _ h4
  rw [x5.2.2.2.1]
  refine hQ m5 (o5 tU (by unfold tU; omega) (by unfold tU; omega) (by unfold tU; omega) (by unfold tU; omega)) (RC_addO hR hw hx (o5 _ (by omega) (by omega) (by omega) (by omega)) ?_ ?_ x5 (fun o ho => ?_) ?_) ?_
  · rw [r5 1 0 0 (by omega), r2 1 0 0 (by omega) (by omega), r1 1 0 0 (by omega)]
  · rw [r5 1 0 1 (by omega), r2 1 0 1 (by omega) (by omega), r1 1 0 1 (by omega)]
  · rw [r5 5 x o (by omega), r5 6 x o (by omega)]; exact y2 o (by omega)
  · rw [r5 5 x _ (by omega), r5 6 x _ (by omega)]; exact x2
  · rw [r5 1 0 2 (by omega), r2 1 0 2 (by omega) (by omega)]; exact v1
theorem c_outcome {ver : Nat} {p q t n : Int32} (hR : RC m S) (hw : wf S) (hver : m.1 1 0 2 = nI ver) (hN : ∀ r, outN S p q t n r → Q (some (vI r)) m) (hQ : ∀ m', outY S p q t n → off tU m m' → RC m' (addO S (xOf p q) t.toNatClampNeg n.toNatClampNeg) → m'.1 1 0 2 = nI (ver + 1) → Q (some (vI (nI (partsS S (xOf p q) + n.toNatClampNeg)))) m') : callW2 xs (d + 3) 81 [vR 0 0, vI p, vI q, vI t, vI n] m Q := by
  have h3 := wf_n hw
  refine eX11_outcome m _ _ _ _ (W2_st (bX11_outcome_0 m _ _ _ _ ?_))
  have no : ¬ outIn S p q t n → Q (some (vI (-1))) m := fun h => hN _ (Or.inl ⟨h, rfl⟩)
  refine c_hasA hR hw p q ⟨_, rfl, ?_⟩
  rw [bI_0]
  refine ⟨fun h => no (fun z => by have := z.1; rw [h] at this; cases this), fun hac => ?_⟩
  rw [Bool.not_eq_false] at hac
  refine c_hasS hR hw t ⟨_, rfl, ?_⟩
  rw [bI_0]
  refine ⟨fun h => no (fun z => by have := z.2.1; rw [h] at this; cases this), fun hst => ?_⟩
  rw [Bool.not_eq_false] at hst
  rw [i_lt2 (by omega), i_leN (by omega)]
  refine ⟨fun h => no (fun z => by have := z.2.2.1.1; omega), fun g1 => ⟨fun g2 => ?_, fun h => no (fun z => h z.2.2.1.2)⟩⟩
  have hin : in112 n := ⟨by omega, g2⟩
  obtain ⟨s, a, hs, ha, ha4, e1, e2⟩ := isAc_t hw hac
  obtain ⟨b, hb, e3⟩ := isSt_t hw hst
  obtain ⟨k, hk1, hk, e4⟩ := in112_t hin
  subst e1 e2 e3 e4
  have hxo : xOf (nI s) (nI a) = 4 * s + a := by unfold xOf; rw [nI_clamp (by omega), nI_clamp (by omega)]
  unfold outN outY outIn at *
  rw [hxo, nI_clamp (n := b) (by omega), nI_clamp (n := k) (by omega)] at hN hQ
  rw [hxo] at no
  have hx : isA S (4 * s + a) := ⟨by omega, by rw [show (4 * s + a) / 4 = s by omega, show (4 * s + a) % 4 = a by omega]; exact ha⟩
  refine c_actS hw hs ha ⟨_, rfl, ?_⟩
  generalize 4 * s + a = x at *
  have hkk := wf_k hw hx
  have ho4 := wf_o hw hx
  have hps := wf_ps hw hx
  have hg := goes_lt hw hx
  have hr : room S x ≤ 4 := by unfold room; split <;> omega
  rw [rc_k hR hx, nI_eq (by omega) (by omega), rc_o hR hx]
  have cont : (sK S x = 3 → nI b = nI s) → callW2 xs (d + 2) 4 [vR 4 x] m (fun r10 m11 => ∃ w12 : Int32, r10 = some (vI w12) ∧ ((nI (sO S x) < w12 → (((nI 12) < ((m11.1 4 x 3) + nI k) → Q (some (vI (-3 : Int32))) m11) ∧ (¬ (nI 12) < ((m11.1 4 x 3) + nI k) → callW2 xs (d + 2) 108 [vI (m11.1 4 x 4), vI (nI b)] m11 (fun r13 m14 => ∃ w15 : Int32, r13 = some (vI w15) ∧ ((w15 = 0 → callW2 xs (d + 2) 68 [vR 1 0, vR 4 x, vI (nI b), vI (nI k)] m14 (fun r16 m17 => ∃ w18 : Int32, r16 = some (vI w18) ∧ Q (some (vI w18)) m17)) ∧ (¬ w15 = 0 → Q (some (vI (-3 : Int32))) m14)))))) ∧ (¬ nI (sO S x) < w12 → Q (some (vI (-2 : Int32))) m11))) := by
    intro hk3
    have hI : isAc S (nI s) (nI a) = true ∧ isSt S (nI b) = true ∧ in112 (nI k) ∧ (sK S x = 3 → nI b = nI s) := ⟨hac, hst, hin, hk3⟩
    refine c_roomS hR hw hx ⟨_, rfl, ?_⟩
    rw [i_lt2 (by omega), nI_toInt (by omega), rc_ps hR hx, rc_g hR hx, nI_add, i_ltN (by omega), nI_toInt (by omega)]
    refine ⟨fun hlt => ⟨fun h12 => hN _ (Or.inr (Or.inr ⟨hI, by omega, fun z => by have := z.1; omega, rfl⟩)), fun h12 => ?_⟩, fun hlt => hN _ (Or.inr (Or.inl ⟨hI, by omega, rfl⟩))⟩
    refine c_has (by omega) (by omega) ⟨_, rfl, ?_⟩
    rw [bI_0]
    refine ⟨fun hg0 => ?_, fun hg1 => hN _ (Or.inr (Or.inr ⟨hI, by omega, fun z => hg1 z.2, rfl⟩))⟩
    refine c_addOutcome hR hw hver hx (by omega) (by omega) (fun m' q1 q2 q3 => ⟨_, rfl, hQ m' ⟨hI, by omega, by omega, hg0⟩ q1 q2 q3⟩)
  refine ⟨fun h => cont (fun z => absurd z h), fun h => ⟨fun he => cont (fun _ => he), fun he => no (fun z => he (z.2.2.2 h))⟩⟩
end L99f
