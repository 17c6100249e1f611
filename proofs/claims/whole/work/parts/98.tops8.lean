/-! CONTRACTS (44): look() (wip/whole/src/98.tops8.src) -/
section L98
variable {xs : Nat × (Nat → Int32)} {d : Nat} {Q : Option v2 → Mem → Prop} {m : Mem} {S : Sys}
def lokN (S : Sys) (x k : Nat) : Int32 := if k = 0 then nI (sK S x) else if k = 1 then nI (sC S x) else if k = 2 then nI (sO S x) else if (k - 3) % 4 < sO S x then (if 7 ≤ k then nI (sP S x ((k - 3) % 4)) else nI (sT S x ((k - 3) % 4))) else -2
def lokR (S : Sys) (p q k r : Int32) : Prop := (isAc S p q = false → r = -1) ∧ (isAc S p q = true → (¬ inN 10 k → r = -1) ∧ (inN 10 k → r = lokN S (4 * p.toNatClampNeg + q.toNatClampNeg) k.toNatClampNeg))
theorem lok_uniq {p q k r r' : Int32} (h : lokR S p q k r) (h' : lokR S p q k r') : r = r' := by
  cases ha : isAc S p q with
  | false => rw [h.1 ha, h'.1 ha]
  | true =>
    by_cases hk : inN 10 k
    · rw [(h.2 ha).2 hk, (h'.2 ha).2 hk]
    · rw [(h.2 ha).1 hk, (h'.2 ha).1 hk]
theorem k3 : ∀ k, k < 11 → 3 ≤ k → (nI k - nI 3) - (nI k - nI 3) / nI 4 * nI 4 = nI ((k - 3) % 4) ∧ (nI 4 ≤ nI k - nI 3 ↔ 7 ≤ k) := by decide +kernel
theorem c_look {p1 p2 p3 : Int32} (hR : RC m S) (hw : wf S) (hQ : ∀ r, lokR S p1 p2 p3 r → Q (some (vI r)) m) : callW2 xs (d + 3) 97 [vR 0 0, vI p1, vI p2, vI p3] m Q := by
  have h3 := wf_n hw
  refine eX11_look m _ _ _ (W2_st (bX11_look_0 m _ _ _ ?_))
  refine c_hasA hR hw p1 p2 ⟨_, rfl, ?_⟩
  rw [bI_0]
  refine ⟨fun h => hQ _ ⟨fun _ => rfl, fun z => (by rw [h] at z; cases z)⟩, fun h => ?_⟩
  rw [Bool.not_eq_false] at h
  have no : ¬ inN 10 p3 → Q (some (vI (-1))) m := fun hn => hQ _ ⟨fun _ => rfl, fun _ => ⟨fun _ => rfl, fun z => absurd z hn⟩⟩
  rw [i_neg, i_leN (by omega)]
  refine ⟨fun hn => no (fun z => by have := z.1; omega), fun h1 => ⟨fun h2 => ?_, fun hn => no (fun z => hn z.2)⟩⟩
  have hin : inN 10 p3 := ⟨by omega, h2⟩
  obtain ⟨s, a, hs, ha, ha4, e1, e2⟩ := isAc_t hw h
  obtain ⟨k, hk, e3⟩ := inN_t hin (by omega)
  subst e1 e2 e3
  have an : ∀ r, r = lokN S (4 * s + a) k → Q (some (vI r)) m := fun r hr => hQ r ⟨fun z => (by rw [h] at z; cases z), fun _ => ⟨fun z => absurd hin z, fun _ => by rw [nI_clamp (by omega), nI_clamp (by omega), nI_clamp (by omega)]; exact hr⟩⟩
  have hx : isA S (4 * s + a) := ⟨by omega, by rw [show (4 * s + a) / 4 = s by omega, show (4 * s + a) % 4 = a by omega]; exact ha⟩
  refine c_actS hw hs ha ⟨_, rfl, ?_⟩
  have ho4 := wf_o hw hx
  rw [nI_toInt (by omega)]
  unfold lokN at an
  refine ⟨fun hk3 => ⟨by decide, ?_⟩, fun h0 => an _ ?_, fun h0 => an _ ?_, fun h0 => an _ ?_, trivial⟩
  · have hk3' : 3 ≤ k := by omega
    obtain ⟨q1, q2⟩ := k3 k (by omega) hk3'
    rw [if_neg (by omega), if_neg (by omega), if_neg (by omega)] at an
    rw [q1, q2, rc_o hR hx, i_lt2 (by omega), nI_toInt (by omega), nI_clamp (by omega)]
    have ib : inb (nI ((k - 3) % 4)) 4 := inb_nI (by omega) (by omega)
    refine ⟨fun hlt => ⟨fun h7 => ⟨ib, an _ ?_⟩, fun h7 => ⟨ib, an _ ?_⟩⟩, fun hlt => an _ ?_⟩
    · rw [if_pos (by omega), if_pos h7]; exact rc_p hR hx (by omega)
    · rw [if_pos (by omega), if_neg h7]; exact rc_t hR hx (by omega)
    · rw [if_neg (by omega)]
  · rw [if_pos (by omega)]; exact rc_k hR hx
  · rw [if_neg (by omega), if_pos (by omega)]; exact rc_c hR hx
  · rw [if_neg (by omega), if_neg (by omega), if_pos (by omega)]; exact rc_o hR hx
theorem r_look {p1 p2 p3 : Int32} (hR : RM m S) (hw : wf S) (hQ : ∀ r, lokR S p1 p2 p3 r → Q (some (vI r)) (mI m 40 0 0 (nI 0))) : callW2 xs (d + 3) 176 [vR 40 0, vI p1, vI p2, vI p3] m Q := by
  have h3 := wf_n hw
  have hRo := RM_0 (v := nI 0) hR
  refine eX12_look m _ _ _ (W2_st (bX12_look_0 m _ _ _ ?_))
  generalize mI m 40 0 0 (nI 0) = mo at hRo hQ ⊢
  refine r_isAct hRo hw p1 p2 ⟨_, rfl, ?_⟩
  rw [bI_0]
  refine ⟨fun h => hQ _ ⟨fun _ => rfl, fun z => (by rw [h] at z; cases z)⟩, fun h => ?_⟩
  rw [Bool.not_eq_false] at h
  refine r_isIn p3 0 10 (by omega) (by omega) ⟨_, rfl, ?_⟩
  rw [bI_0, decide_eq_false_iff_not]
  refine ⟨fun hin => ?_, fun hin => hQ _ ⟨fun _ => rfl, fun _ => ⟨fun _ => rfl, fun z => absurd z hin⟩⟩⟩
  rw [Decidable.not_not] at hin
  have hin' : inN 10 p3 := hin
  obtain ⟨s, a, hs, ha, ha4, e1, e2⟩ := isAc_t hw h
  obtain ⟨k, hk, e3⟩ := inN_t hin' (by omega)
  subst e1 e2 e3
  have an : ∀ r, r = lokN S (4 * s + a) k → Q (some (vI r)) mo := fun r hr => hQ r ⟨fun z => (by rw [h] at z; cases z), fun _ => ⟨fun z => absurd hin' z, fun _ => by rw [nI_clamp (by omega), nI_clamp (by omega), nI_clamp (by omega)]; exact hr⟩⟩
  have hx : isA S (4 * s + a) := ⟨by omega, by rw [show (4 * s + a) / 4 = s by omega, show (4 * s + a) % 4 = a by omega]; exact ha⟩
  have ho4 := wf_o hw hx
  unfold lokN at an
  have ib : inb (nI (4 * s + a)) 40 := inb_nI (by omega) (by omega)
  simp only [pk_mul, nI_add]
  rw [nI_clamp (n := 4 * s + a) (by omega), nI_leI (by omega) (by omega), nI_leI (by omega) (by omega)]
  refine ⟨fun hk3 => ⟨by decide, ib, ?_⟩, fun hk3 => ⟨fun h0 => ⟨fun h1 => ⟨ib, an _ ?_⟩, fun h1 => ⟨ib, an _ ?_⟩⟩, fun h0 => ⟨ib, an _ ?_⟩⟩⟩
  · obtain ⟨q1, q2⟩ := k3 k (by omega) hk3
    rw [if_neg (by omega), if_neg (by omega), if_neg (by omega)] at an
    rw [q1, rm_o hRo hx, i_lt2 (by omega), nI_toInt (by omega)]
    simp only [nI_add]
    have ib2 : inb (nI (4 * (4 * s + a) + (k - 3) % 4)) 160 := inb_nI (by omega) (by omega)
    rw [nI_clamp (by omega)]
    refine ⟨fun hlt => ⟨fun h7 => ⟨ib2, an _ ?_⟩, fun h7 => ⟨ib2, an _ ?_⟩⟩, fun hlt => an _ ?_⟩
    · rw [if_pos (by omega), if_pos h7]; exact rm_p hRo hx (by omega)
    · rw [if_pos (by omega), if_neg h7]; exact rm_t hRo hx (by omega)
    · rw [if_neg (by omega)]
  · rw [z_eq (by omega)] at h0
    rw [nI_eq (by omega) (by omega)] at h1
    rw [if_neg h0, if_neg h1, if_pos (by omega)]; exact rm_o hRo hx
  · rw [z_eq (by omega)] at h0
    rw [nI_eq (by omega) (by omega)] at h1
    rw [if_neg h0, if_pos h1]; exact rm_c hRo hx
  · rw [z_eq (by omega)] at h0
    rw [if_pos h0]; exact rm_k hRo hx
end L98
