/-! CONTRACTS (41): twin(), hole() (wip/whole/src/95.tops5.src) -/
section L95
variable {xs : Nat × (Nat → Int32)} {d : Nat} {Q : Option v2 → Mem → Prop} {m : Mem} {S : Sys}
/-- the twins' cache, the holes' cache -/
def TW (m : Mem) (S : Sys) (ver : Nat) : Prop := ∃ a, a ≤ ver ∧ m.1 26 0 3 = nI a ∧ (a = ver → twinsOK m S)
def HL (m : Mem) (S : Sys) (ver : Nat) : Prop := ∃ a, a ≤ ver ∧ m.1 22 0 3 = nI a ∧ (a = ver → holesOK m S)
theorem c_twins {ver : Nat} (hR : RC m S) (hw : wf S) (hver : m.1 1 0 2 = nI ver) (hv : ver < 2 ^ 31) (hT : TW m S ver) (hQ : ∀ m', off tTw m m' → TW m' S ver → twinsOK m' S → Q none m') : callW2 xs (d + 4) 42 [vR 26 0] m Q := by
  obtain ⟨a, a1, a2, a4⟩ := id hT
  by_cases hav : a = ver
  · refine eX7_settle m (W2_st (bX7_settle_0 m ⟨fun z => absurd ?_ z, fun _ => hQ m (off_rfl _ _) hT (a4 hav)⟩))
    rw [a2, hver, hav]
  · refine c_twinsN hR hw (by rw [a2, hver, ne_eq, nI_eq (by omega) (by omega)]; exact hav) (fun m' e1 e2 e4 => hQ m' e1 ⟨ver, Nat.le_refl _, by rw [e2, hver], fun _ => e4⟩ e4)
theorem c_holes {ver : Nat} (hR : RC m S) (hw : wf S) (hf : full S) (hver : m.1 1 0 2 = nI ver) (hv : ver < 2 ^ 31) (hT : HL m S ver) (hQ : ∀ m', offI tHo m m' → HL m' S ver → holesOK m' S → Q none m') : callW2 xs (d + 4) 21 [vR 22 0] m Q := by
  obtain ⟨a, a1, a2, a4⟩ := id hT
  by_cases hav : a = ver
  · refine eX3_settle m (W2_st (bX3_settle_0 m ⟨fun z => absurd ?_ z, fun _ => hQ m (offI_rfl _ _) hT (a4 hav)⟩))
    rw [a2, hver, hav]
  · refine c_holesN hR hw hf (by rw [a2, hver, ne_eq, nI_eq (by omega) (by omega)]; exact hav) (fun m' e1 e2 e4 => hQ m' e1 ⟨ver, Nat.le_refl _, by rw [e2, hver], fun _ => e4⟩ e4)
theorem c_twin {ver : Nat} {p : Int32} (hR : RC m S) (hw : wf S) (hver : m.1 1 0 2 = nI ver) (hv : ver < 2 ^ 31) (hT : TW m S ver) (hQ : ∀ m' r, off tTw m m' → TW m' S ver → askI S p True r (r = nI (clsR S 12 p.toNatClampNeg)) → Q (some (vI r)) m') : callW2 xs (d + 5) 95 [vR 0 0, vI p] m Q := by
  have h3 := wf_n hw
  refine eX11_twin m _ (W2_st (bX11_twin_0 m _ ?_))
  refine c_hasS hR hw p ⟨_, rfl, ?_⟩
  rw [bI_0]
  refine ⟨fun hst => ?_, fun hst => hQ m _ (off_rfl _ _) hT (askI_st hst)⟩
  rw [Bool.not_eq_false] at hst
  refine c_isWhole hR hw ⟨_, rfl, ?_⟩
  rw [bI_0, decide_eq_false_iff_not]
  refine ⟨fun hl => ?_, fun hl => hQ m _ (off_rfl _ _) hT (askI_lk hst trivial hl)⟩
  rw [Decidable.not_not] at hl
  obtain ⟨s, hs, e⟩ := isSt_t hw hst
  subst e
  refine c_twins hR hw hver hv hT (fun m2 e1 e2 e3 => ⟨rfl, inb_nI (by omega) (by omega), hQ m2 _ e1 e2 (askI_F hst trivial hl ?_)⟩)
  rw [nI_clamp (by omega)]
  exact e3.1 s hs
theorem r_twin {p : Int32} (hR : RM m S) (hw : wf S) (hQ : ∀ m' r, offI (fun t j => (t = 64 ∨ t = 65) ∧ j = 0) (mI m 40 0 0 (nI 0)) m' → askI S p True r (r = nI (clsR S 12 p.toNatClampNeg)) → Q (some (vI r)) m') : callW2 xs (d + 5) 174 [vR 40 0, vI p] m Q := by
  have h3 := wf_n hw
  have hRo := RM_0 (v := nI 0) hR
  refine eX12_twin m _ (W2_st (bX12_twin_0 m _ ?_))
  generalize mI m 40 0 0 (nI 0) = mo at hRo hQ ⊢
  have hlk := lack_le hw (sN S) (Nat.le_refl _)
  rw [show sumU _ (sN S) = lackS S from rfl] at hlk
  refine r_isState hRo hw p ⟨_, rfl, ?_⟩
  rw [bI_0]
  refine ⟨fun hst => ?_, fun hst => hQ mo _ (offI_rfl _ _) (askI_st hst)⟩
  rw [Bool.not_eq_false] at hst
  refine r_lacking hRo hw ⟨_, rfl, ?_⟩
  rw [z_le (by omega)]
  refine ⟨fun hl => ?_, fun hl => hQ mo _ (offI_rfl _ _) (askI_lk hst trivial hl)⟩
  obtain ⟨s, hs, e⟩ := isSt_t hw hst
  subst e
  refine r_findClasses hRo hw (fun m2 e1 e2 => ⟨_, rfl, inb_nI (by omega) (by omega), hQ m2 _ e1 (askI_F hst trivial hl ?_)⟩)
  rw [nI_clamp (by omega)]
  exact e2 s hs
theorem twin_uniq {p r r' : Int32} (h : askI S p True r (r = nI (clsR S 12 p.toNatClampNeg))) (h' : askI S p True r' (r' = nI (clsR S 12 p.toNatClampNeg))) : r = r' := askI_uniq h h' (fun _ _ _ a b => by rw [a, b])
/-! holes -/
def holF (S : Sys) (p1 p2 r : Int32) (f : Nat → Nat) : Prop := (p2 = 0 → r = nI (gcnt f (sN S))) ∧ (p2 ≠ 0 → (¬ (0 ≤ p1.toInt ∧ p1.toInt < (gcnt f (sN S) : Int)) → r = -1) ∧ (0 ≤ p1.toInt ∧ p1.toInt < (gcnt f (sN S) : Int) → ∃ s, s < sN S ∧ gcond f s = true ∧ p1 = nI (gcnt f s) ∧ r = if p2 = nI 1 then nI (f s) else nI (stN S (f s))))
def holR (S : Sys) (p1 p2 r : Int32) : Prop := (¬ inN 2 p2 → r = -1) ∧ (inN 2 p2 → (¬ lackS S = 0 → r = -2) ∧ (lackS S = 0 → ∃ f, (∀ s, s < sN S → isMec S s (f s)) ∧ holF S p1 p2 r f))
theorem gcond_congr {f f' : Nat → Nat} {s : Nat} (h : f s = f' s) : gcond f s = gcond f' s := by unfold gcond; rw [h]
theorem gcnt_congr {f f' : Nat → Nat} {n k : Nat} (h : ∀ s, s < n → f s = f' s) (hk : k ≤ n) : gcnt f k = gcnt f' k := by
  unfold gcnt
  exact sumU_congr (fun i hi => by rw [gcond_congr (h i (by omega))])
theorem hol_uniq {p1 p2 r r' : Int32} (hw : wf S) (h : holR S p1 p2 r) (h' : holR S p1 p2 r') : r = r' := by
  by_cases hp : inN 2 p2
  · by_cases hl : lackS S = 0
    · obtain ⟨f, a1, a2, a3⟩ := (h.2 hp).2 hl
      obtain ⟨f', b1, b2, b3⟩ := (h'.2 hp).2 hl
      have hff : ∀ s, s < sN S → f s = f' s := fun s hs => isMec_uniq (a1 s hs) (b1 s hs)
      have hg : ∀ k, k ≤ sN S → gcnt f k = gcnt f' k := fun k hk => gcnt_congr hff hk
      have h3 := wf_n hw
      by_cases h0 : p2 = 0
      · rw [a2 h0, b2 h0, hg _ (Nat.le_refl _)]
      · have a3 := a3 h0
        have b3 := b3 h0
        rw [← hg _ (Nat.le_refl _)] at b3
        by_cases hr : 0 ≤ p1.toInt ∧ p1.toInt < (gcnt f (sN S) : Int)
        · obtain ⟨s, c1, c2, c3, c4⟩ := a3.2 hr
          obtain ⟨t, d1, d2, d3, d4⟩ := b3.2 hr
          have k1 := gcnt_le f s
          have k2 := gcnt_le f t
          have e : s = t := by
            rw [c3, ← hg t (by omega), nI_eq (by omega) (by omega)] at d3
            rw [← gcond_congr (hff t d1)] at d2
            rcases Nat.lt_trichotomy s t with q | q | q
            · have := gcnt_lt q c2; omega
            · exact q
            · have := gcnt_lt q d2; omega
          subst e
          rw [c4, d4, hff s c1]
        · rw [a3.1 hr, b3.1 hr]
    · rw [(h.2 hp).1 hl, (h'.2 hp).1 hl]
  · rw [h.1 hp, h'.1 hp]
theorem i_lt2 {p : Int32} {n : Nat} (hn : n < 2 ^ 31) : p < nI n ↔ p.toInt < (n : Int) := by rw [Int32.lt_iff_toInt_lt, nI_toInt hn]
theorem c_hole {ver : Nat} {p1 p2 : Int32} (hR : RC m S) (hw : wf S) (hver : m.1 1 0 2 = nI ver) (hv : ver < 2 ^ 31) (hT : HL m S ver) (hQ : ∀ m' r, offI tHo m m' → HL m' S ver → holR S p1 p2 r → Q (some (vI r)) m') : callW2 xs (d + 5) 94 [vR 0 0, vI p1, vI p2] m Q := by
  have h3 := wf_n hw
  refine eX11_hole m _ _ (W2_st (bX11_hole_0 m _ _ ?_))
  have no : ¬ inN 2 p2 → Q (some (vI (-1))) m := fun h => hQ m _ (offI_rfl _ _) hT ⟨fun _ => rfl, fun z => absurd z h⟩
  rw [i_neg, i_neg, i_leN (by omega)]
  refine ⟨fun h => no (fun z => by have := z.1; omega), fun h1 => ⟨fun h2 => ?_, fun h => no (fun z => h z.2)⟩⟩
  have hok : inN 2 p2 := ⟨by omega, h2⟩
  refine c_isWhole hR hw ⟨_, rfl, ?_⟩
  rw [bI_0, decide_eq_false_iff_not]
  refine ⟨fun hl => ?_, fun hl => hQ m _ (offI_rfl _ _) hT ⟨fun z => absurd hok z, fun _ => ⟨fun _ => rfl, fun z => absurd z hl⟩⟩⟩
  rw [Decidable.not_not] at hl
  refine c_holes hR hw (full_lack hw hl) hver hv hT (fun m2 e1 e2 ⟨f, e3, e4, e5⟩ => ⟨rfl, ?_⟩)
  have fin : ∀ r, holF S p1 p2 r f → Q (some (vI r)) m2 := fun r h => hQ m2 r e1 e2 ⟨fun z => absurd hok z, fun _ => ⟨fun z => absurd hl z, fun _ => ⟨f, fun s hs => (e3 s hs).1, h⟩⟩⟩
  have hR2 : RC m2 S := RC_off e1.1 (by unfold tHo; omega) (by unfold tHo; omega) (fun x _ => by unfold tHo; omega) (fun x _ => by unfold tHo; omega) (fun x _ => by unfold tHo; omega) hw hR
  have hgn := gcnt_le f (sN S)
  rw [e4, i_lt2 (by omega)]
  refine ⟨fun h0 => ⟨fun h => fin _ ⟨fun z => absurd z h0, fun _ => ⟨fun _ => rfl, fun z => by omega⟩⟩, fun ha => ⟨fun hb => ?_, fun h => fin _ ⟨fun z => absurd z h0, fun _ => ⟨fun _ => rfl, fun z => by omega⟩⟩⟩⟩, fun h0 => fin _ ⟨fun _ => rfl, fun z => absurd h0 z⟩⟩
  obtain ⟨j, hj, e⟩ := int_nI p1 _ (by omega) hb (by omega)
  obtain ⟨s, g1, g2, g3⟩ := gcnt_ex _ hj
  subst e
  rw [nI_clamp (by omega), ← g3, e5 s g1 g2]
  have an : ∀ r, (r = if p2 = nI 1 then nI (f s) else nI (stN S (f s))) → Q (some (vI r)) m2 := fun r hr => fin r ⟨fun z => absurd z h0, fun _ => ⟨fun z => absurd ⟨by omega, hb⟩ z, fun _ => ⟨s, g1, g2, by rw [g3], hr⟩⟩⟩
  refine ⟨fun h1 => ⟨inb_nI (by omega) (by omega), ?_⟩, fun h1 => ⟨inb_nI (by omega) (by omega), an _ (if_pos h1).symm⟩⟩
  exact c_stayingActs hR2 hw (e3 s g1).2 ⟨_, rfl, an _ (if_neg h1).symm⟩
end L95
