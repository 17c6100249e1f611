/-! CONTRACTS (37): value(), whole(), sets(), reached() (wip/whole/src/91.tops.src) -/
section L91
variable {xs : Nat × (Nat → Int32)} {d : Nat} {Q : Option v2 → Mem → Prop} {m : Mem} {S : Sys}
/-- the refusals that come first, then F -/
def askR (S : Sys) (p : Int32) (ok : Prop) (r : Int64) (F : Prop) : Prop := (isSt S p = false → r = -1) ∧ (isSt S p = true → (¬ ok → r = -1) ∧ (ok → (¬ lackS S = 0 → r = -2) ∧ (lackS S = 0 → F)))
theorem askR_uniq {p : Int32} {ok : Prop} {r r' : Int64} {F F' : Prop} (h : askR S p ok r F) (h' : askR S p ok r' F') (hF : isSt S p = true → ok → lackS S = 0 → F → F' → r = r') : r = r' := by
  cases hst : isSt S p with
  | false => rw [h.1 hst, h'.1 hst]
  | true =>
    by_cases hok : ok
    · by_cases hl : lackS S = 0
      · exact hF hst hok hl (((h.2 hst).2 hok).2 hl) (((h'.2 hst).2 hok).2 hl)
      · rw [((h.2 hst).2 hok).1 hl, ((h'.2 hst).2 hok).1 hl]
    · rw [(h.2 hst).1 hok, (h'.2 hst).1 hok]
theorem askR_st {p : Int32} {ok F : Prop} (h : isSt S p = false) : askR S p ok (-1) F := ⟨fun _ => rfl, fun z => (by rw [h] at z; cases z)⟩
theorem askR_ok {p : Int32} {ok F : Prop} (h : isSt S p = true) (h2 : ¬ ok) : askR S p ok (-1) F := ⟨fun _ => rfl, fun _ => ⟨fun _ => rfl, fun z => absurd z h2⟩⟩
theorem askR_lk {p : Int32} {ok F : Prop} (h : isSt S p = true) (h2 : ok) (h3 : ¬ lackS S = 0) : askR S p ok (-2) F := ⟨fun z => (by rw [h] at z; cases z), fun _ => ⟨fun z => absurd h2 z, fun _ => ⟨fun _ => rfl, fun z => absurd z h3⟩⟩⟩
theorem askR_F {p : Int32} {ok F : Prop} {r : Int64} (h : isSt S p = true) (h2 : ok) (h3 : lackS S = 0) (h4 : F) : askR S p ok r F := ⟨fun z => (by rw [h] at z; cases z), fun _ => ⟨fun z => absurd h2 z, fun _ => ⟨fun z => absurd h3 z, fun _ => h4⟩⟩⟩
def valF (S : Sys) (l : Bool) (r : Int64) (G : Nat → Nat → Prop) : Prop := ∃ X Y, isOnes S l X ∧ isG S l (fullB (sN S)) Y ∧ (5 < cntB (ndiff Y X) → r = -3) ∧ (cntB (ndiff Y X) ≤ 5 → G X Y)
def valC1 (S : Sys) (l : Bool) (s : Nat) (p : Int32) (r : Int64) (X Y : Nat) : Prop := ∃ w V D u v, saddle S l (ndiff Y X) X w V D ∧ low u v (V s) D ∧ r = lI (if p = 0 then u else v)
def valM1 (S : Sys) (l : Bool) (s : Nat) (p : Int32) (r : Int64) (X Y : Nat) : Prop := ∃ u v, mmv S (ndiff Y X) X l s u v ∧ r = lI (if p = 0 then u else v)
theorem val_uniq {l : Bool} {p p3 : Int32} {r r' : Int64} (hw : wf S) (h : askR S p (in01 p3) r (valF S l r (valC1 S l p.toNatClampNeg p3 r))) (h' : askR S p (in01 p3) r' (valF S l r' (valM1 S l p.toNatClampNeg p3 r'))) : r = r' := by
  refine askR_uniq h h' (fun hst _ hl ⟨X, Y, a1, a2, a3, a4⟩ ⟨X', Y', b1, b2, b3, b4⟩ => ?_)
  obtain ⟨s, hs, e⟩ := isSt_t hw hst
  have h3 := wf_n hw
  have hcl : p.toNatClampNeg = s := by rw [e, nI_clamp (by omega)]
  have e1 := isOnes_uniq b1 a1
  have e2 := isG_uniq b2 a2
  subst e1 e2
  rw [hcl] at a4 b4
  rcases Nat.lt_or_ge 5 (cntB (ndiff Y' X')) with q | q
  · rw [a3 q, b3 q]
  · obtain ⟨w, V, D, u, v, c1, c2, c3⟩ := a4 q
    obtain ⟨u', v', d1, d2⟩ := b4 q
    obtain ⟨hBn, hd, hBf⟩ := open_facts b1 b2
    have h5 := sad_mm hw (full_lack hw hl) b1.1.1 hd c1 hs d1
    obtain ⟨f1, f2⟩ := low_uniq c1.1 c2 (show low u' v' (V s) D from ⟨d1.1, d1.2.1, h5⟩)
    rw [c3, d2, f1, f2]
theorem sad_nn {l : Bool} {B U s : Nat} {w : Nat → Nat} {V : Nat → Int} {D : Int} (h : saddle S l B U w V D) (hpos : ∀ s, B.testBit s = true → 0 < V s) (hs : s < sN S) : 0 ≤ V s := by
  cases hB : B.testBit s with
  | true => exact Int.le_of_lt (hpos s hB)
  | false =>
    cases hU : U.testBit s with
    | true => rw [h.2.2.1 s hs hU]; exact Int.le_of_lt h.1
    | false => rw [h.2.2.2.1 s hs hU hB]; exact Int.le_refl _
theorem c_value {ver : Nat} {l : Bool} {p1 p3 : Int32} (hR : RC m S) (hw : wf S) (hver : m.1 1 0 2 = nI ver) (hv : ver < 2 ^ 31) (hC : CV m S ver l l.toNat) (hQ : ∀ m' r, off (tSe l.toNat) m m' → CV m' S ver l l.toNat → (m' = m ∨ ∃ X Y, sorted m' S l l.toNat X Y) → askR S p1 (in01 p3) r (valF S l r (valC1 S l p1.toNatClampNeg p3 r)) → Q (some (vL r)) m') : callW2 xs (d + 7) 85 [vR 0 0, vI p1, vI (bI l), vI p3] m Q := by
  have h3 := wf_n hw
  refine eX11_value m _ _ _ (W2_st (bX11_value_0 m _ _ _ ?_))
  refine c_hasS hR hw p1 ⟨_, rfl, ?_⟩
  rw [bI_0]
  refine ⟨fun hst => hQ m _ (off_rfl _ _) hC (Or.inl rfl) (askR_st hst), fun hst => ?_⟩
  rw [Bool.not_eq_false] at hst
  refine c_isHalf p3 ⟨_, rfl, ?_⟩
  rw [bI_0, decide_eq_false_iff_not]
  refine ⟨fun hin => ?_, fun hin => hQ m _ (off_rfl _ _) hC (Or.inl rfl) (askR_ok hst (fun z => hin (in01_iff.mp z)))⟩
  rw [Decidable.not_not] at hin
  have hin' : in01 p3 := in01_iff.mpr hin
  obtain ⟨s, hs, hp1⟩ := isSt_t hw hst
  have hcl : p1.toNatClampNeg = s := by rw [hp1, nI_clamp (by omega)]
  have key : callW2 xs (d + 6) 104 [vR 0 0, vR 7 l.toNat] m (fun r7 m8 => ∃ w9 : Int32, r7 = some (vI w9) ∧ ((w9 = 0 → inb p1 10 ∧ callW2 xs (d + 6) 109 [vL (m8.2 15 l.toNat p1.toNatClampNeg), vL (m8.2 7 l.toNat 7), vI p3] m8 (fun r10 m11 => ∃ w12 : Int64, r10 = some (vL w12) ∧ Q (some (vL w12)) m11)) ∧ (¬ w9 = 0 → Q (some (vL w9.toInt64)) m8))) := by
    refine c_refusal hR hw hver hv hC (fun hl => ⟨_, rfl, fun z => absurd z (by decide), fun _ => ?_⟩) (fun X Y m2 hl e1 e2 e3 e4 => ⟨fun h6 => ⟨_, rfl, fun z => absurd z (by decide), fun _ => ?_⟩, fun h5 => ⟨_, rfl, fun _ => ⟨by rw [hp1]; exact inb_nI (by omega) (by omega), ?_⟩, fun z => absurd rfl z⟩⟩)
    · exact hQ m _ (off_rfl _ _) hC (Or.inl rfl) (askR_lk hst hin' hl)
    · refine hQ m2 _ e1 e2 (Or.inr ⟨X, Y, e3⟩) (askR_F hst hin' hl ⟨X, Y, e3.2.2.1, e3.2.2.2, fun _ => rfl, fun z => ?_⟩)
      omega
    · obtain ⟨w, V, D, g1, g2, g3, g4, g5, g6⟩ := e4.2 h5
      have hVs := sad_nn g1 g6 hs
      have hD := g1.1
      have hb := g4 s
      rw [hcl, g2 s hs, g3]
      refine c_lowest hVs (by omega) hD (by omega) (fun u v hlow => ⟨_, rfl, ?_⟩)
      refine hQ m2 _ e1 e2 (Or.inr ⟨X, Y, e3⟩) (askR_F hst hin' hl ⟨X, Y, e3.2.2.1, e3.2.2.2, fun z => ?_, fun _ => ⟨w, V, D, u, v, g1, by rw [hcl]; exact hlow, rfl⟩⟩)
      omega
  cases l with
  | false => exact ⟨fun _ => key, fun z => absurd rfl z⟩
  | true => exact ⟨fun z => absurd z (by decide), fun _ => key⟩
theorem r_value {l : Bool} {p1 p3 : Int32} (hR : RM m S) (hw : wf S) (hQ : ∀ m' r, fvM (mI m 40 0 0 (nI 0)) m' → askR S p1 (in01 p3) r (valF S l r (valM1 S l p1.toNatClampNeg p3 r)) → Q (some (vL r)) m') : callW2 xs (d + 7) 146 [vR 40 0, vI p1, vI (bI l), vI p3] m Q := by
  have h3 := wf_n hw
  have hRo := RM_0 (v := nI 0) hR
  refine eX12_value m _ _ _ (W2_st (bX12_value_0 m _ _ _ ?_))
  generalize mI m 40 0 0 (nI 0) = mo at hRo hQ ⊢
  have hlk := lack_le hw (sN S) (Nat.le_refl _)
  rw [show sumU _ (sN S) = lackS S from rfl] at hlk
  refine r_isState hRo hw p1 ⟨_, rfl, ?_⟩
  rw [bI_0]
  refine ⟨fun hst => hQ mo _ (fvM_rfl _) (askR_st hst), fun hst => ?_⟩
  rw [Bool.not_eq_false] at hst
  refine r_isIn p3 0 1 (by omega) (by omega) ⟨_, rfl, ?_⟩
  rw [bI_0, decide_eq_false_iff_not]
  refine ⟨fun hin => ?_, fun hin => hQ mo _ (fvM_rfl _) (askR_ok hst hin)⟩
  rw [Decidable.not_not] at hin
  have hin' : in01 p3 := hin
  refine r_lacking hRo hw ⟨_, rfl, ?_⟩
  rw [z_le (by omega)]
  refine ⟨fun hl => ?_, fun hl => hQ mo _ (fvM_rfl _) (askR_lk hst hin' hl)⟩
  obtain ⟨s, hs, hp1⟩ := isSt_t hw hst
  have hcl : p1.toNatClampNeg = s := by rw [hp1, nI_clamp (by omega)]
  refine r_findValues hRo hw (full_lack hw hl) (fun X Y hX hY h6 => ⟨_, rfl, fun z => absurd rfl z, fun _ => ?_⟩) (fun m2 X Y hX hY h5 e1 e2 => ⟨_, rfl, fun _ => ?_, fun z => absurd z (by decide)⟩)
  · refine hQ mo _ (fvM_rfl _) (askR_F hst hin' hl ⟨X, Y, hX, hY, fun _ => rfl, fun z => ?_⟩)
    omega
  · obtain ⟨u, v, v1, v2, v3, _⟩ := e2 s hs
    have fin : ∀ r, r = lI (if p3 = 0 then u else v) → Q (some (vL r)) m2 := fun r hr => hQ m2 r e1 (askR_F hst hin' hl ⟨X, Y, hX, hY, fun z => by omega, fun _ => ⟨u, v, by rw [hcl]; exact v3, hr⟩⟩)
    rw [hp1, nI_add, nI_clamp (by omega), nI_clamp (by omega)]
    have i1 : inb (nI s) 20 := inb_nI (by omega) (by omega)
    have i2 : inb (nI (10 + s)) 20 := inb_nI (by omega) (by omega)
    cases l with
    | false =>
      simp only [Bool.false_eq_true, if_false, Nat.zero_add] at v1 v2
      exact ⟨fun _ => ⟨fun h => ⟨i1, fin _ (by rw [v2, if_neg h])⟩, fun h => ⟨i1, fin _ (by rw [v1, if_pos h])⟩⟩, fun z => absurd rfl z⟩
    | true =>
      simp only [if_true] at v1 v2
      exact ⟨fun z => absurd z (by decide), fun _ => ⟨fun h => ⟨i2, fin _ (by rw [v2, if_neg h])⟩, fun h => ⟨i2, fin _ (by rw [v1, if_pos h])⟩⟩⟩
end L91
