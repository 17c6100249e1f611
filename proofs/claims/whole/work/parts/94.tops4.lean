/-! CONTRACTS (40): bound() (wip/whole/src/94.tops4.src) -/
section L94
variable {xs : Nat × (Nat → Int32)} {d : Nat} {Q : Option v2 → Mem → Prop} {m : Mem} {S : Sys}
def askI (S : Sys) (p : Int32) (ok : Prop) (r : Int32) (F : Prop) : Prop := (isSt S p = false → r = -1) ∧ (isSt S p = true → (¬ ok → r = -1) ∧ (ok → (¬ lackS S = 0 → r = -2) ∧ (lackS S = 0 → F)))
theorem askI_uniq {p : Int32} {ok : Prop} {r r' : Int32} {F F' : Prop} (h : askI S p ok r F) (h' : askI S p ok r' F') (hF : isSt S p = true → ok → lackS S = 0 → F → F' → r = r') : r = r' := by
  cases hst : isSt S p with
  | false => rw [h.1 hst, h'.1 hst]
  | true =>
    by_cases hok : ok
    · by_cases hl : lackS S = 0
      · exact hF hst hok hl (((h.2 hst).2 hok).2 hl) (((h'.2 hst).2 hok).2 hl)
      · rw [((h.2 hst).2 hok).1 hl, ((h'.2 hst).2 hok).1 hl]
    · rw [(h.2 hst).1 hok, (h'.2 hst).1 hok]
theorem askI_st {p : Int32} {ok F : Prop} (h : isSt S p = false) : askI S p ok (-1) F := ⟨fun _ => rfl, fun z => (by rw [h] at z; cases z)⟩
theorem askI_ok {p : Int32} {ok F : Prop} (h : isSt S p = true) (h2 : ¬ ok) : askI S p ok (-1) F := ⟨fun _ => rfl, fun _ => ⟨fun _ => rfl, fun z => absurd z h2⟩⟩
theorem askI_lk {p : Int32} {ok F : Prop} (h : isSt S p = true) (h2 : ok) (h3 : ¬ lackS S = 0) : askI S p ok (-2) F := ⟨fun z => (by rw [h] at z; cases z), fun _ => ⟨fun z => absurd h2 z, fun _ => ⟨fun _ => rfl, fun z => absurd z h3⟩⟩⟩
theorem askI_F {p : Int32} {ok F : Prop} {r : Int32} (h : isSt S p = true) (h2 : ok) (h3 : lackS S = 0) (h4 : F) : askI S p ok r F := ⟨fun z => (by rw [h] at z; cases z), fun _ => ⟨fun z => absurd h2 z, fun _ => ⟨fun z => absurd h3 z, fun _ => h4⟩⟩⟩
def under (S : Sys) (s q j : Nat) : Prop := 12 * hor S false j s < (q : Int) * 12 ^ j
def bndF (S : Sys) (s q : Nat) (r : Int32) : Prop := (∃ k, k ≤ 10 ∧ (∀ j, j < k → under S s q j) ∧ ¬ under S s q k ∧ r = nI k) ∨ ((∀ j, j ≤ 10 → under S s q j) ∧ r = -3)
theorem bnd_uniq {p q r r' : Int32} {ok : Prop} {s k : Nat} (h : askI S p ok r (bndF S s k r)) (h' : askI S p ok r' (bndF S s k r')) : r = r' := by
  refine askI_uniq h h' (fun _ _ _ h1 h2 => ?_)
  rcases h1 with ⟨a, a1, a2, a3, a4⟩ | ⟨a1, a2⟩
  · rcases h2 with ⟨b, b1, b2, b3, b4⟩ | ⟨b1, b2⟩
    · have e : a = b := by
        rcases Nat.lt_trichotomy a b with q | q | q
        · exact absurd (b2 a q) a3
        · exact q
        · exact absurd (a2 b q) b3
      rw [a4, b4, e]
    · exact absurd (b1 a a1) a3
  · rcases h2 with ⟨b, b1, b2, b3, b4⟩ | ⟨b1, b2⟩
    · exact absurd (a1 b b1) b3
    · rw [a2, b2]
theorem under_cmp {s q j : Nat} (hw : wf S) (hs : s < sN S) (hq : q ≤ 12) (hj : j < 11) : lg_cmp (lN 12 * lI (hor S false j s)) ((nI q).toInt64 * lI (12 ^ j)) < 0 ↔ under S s q j := by
  have hb := hor_lt hw false hj hs
  have hp := p12 j hj
  have hp0 := p12pos j
  unfold under
  rw [lI_i (by omega), lI_N, lI_mul, lI_mul, lg_cmp_lt]
  generalize hor S false j s = N at hb ⊢
  generalize (12 : Int) ^ j = D at hp hp0 ⊢
  have h1 : (q : Int) * D ≤ 12 * D := Int.mul_le_mul_of_nonneg_right (by omega) (by omega)
  have h2 : 0 ≤ (q : Int) * D := Int.mul_nonneg (by omega) (by omega)
  rw [lI_lt (by omega) (by omega) (by omega) (by omega)]
  rfl
theorem c_bound {ver : Nat} {p1 p2 : Int32} (hR : RC m S) (hw : wf S) (hver : m.1 1 0 2 = nI ver) (hv : ver < 2 ^ 31) (hH : HO m S ver false 0) (hQ : ∀ m' r, off (tH 0) m m' → HO m' S ver false 0 → askI S p1 (inN 12 p2) r (bndF S p1.toNatClampNeg p2.toNatClampNeg r) → Q (some (vI r)) m') : callW2 xs (d + 5) 90 [vR 0 0, vI p1, vI p2] m Q := by
  have h3 := wf_n hw
  refine eX11_bound m _ _ (W2_st (bX11_bound_0 m _ _ ?_))
  refine c_hasS hR hw p1 ⟨_, rfl, ?_⟩
  rw [bI_0]
  refine ⟨fun hst => hQ m _ (off_rfl _ _) hH (askI_st hst), fun hst => ?_⟩
  rw [Bool.not_eq_false] at hst
  have no : ¬ inN 12 p2 → Q (some (vI (-1))) m := fun h => hQ m _ (off_rfl _ _) hH (askI_ok hst h)
  rw [i_neg, i_leN (by omega)]
  refine ⟨fun h => no (fun z => by have := z.1; omega), fun h1 => ⟨fun h2 => ?_, fun h => no (fun z => h z.2)⟩⟩
  have hok : inN 12 p2 := ⟨by omega, by omega⟩
  refine c_isWhole hR hw ⟨_, rfl, ?_⟩
  rw [bI_0, decide_eq_false_iff_not]
  refine ⟨fun hl => ?_, fun hl => hQ m _ (off_rfl _ _) hH (askI_lk hst hok hl)⟩
  rw [Decidable.not_not] at hl
  obtain ⟨s, hs, e⟩ := isSt_t hw hst
  obtain ⟨q, hq, e2⟩ := inN_t hok (by omega)
  subst e e2
  refine c_hor hR hw hver hv hH (fun m2 f1 f2 f3 => ⟨rfl, ?_⟩)
  have fin : ∀ r, bndF S s q r → Q (some (vI r)) m2 := fun r h => hQ m2 r f1 f2 (askI_F hst hok hl (by rw [nI_clamp (by omega), nI_clamp (by omega)]; exact h))
  refine upto (P := fun k => (∀ j, j < k → under S s q j) → (W2 xs (callW2 xs (d + 4)) tX11_bound [23] (some .int) Q 23 [some (vR 0 0), some (vI (nI s)), some (vI (nI q)), some (vI (nI k))] [] (m2))) 11 ?_ ?_ 0 (Nat.zero_le _) (fun j hj => by omega)
  · intro hall
    refine W2_st (bX11_bound_23 m2 _ _ _ ⟨fun _ => fin _ (Or.inr ⟨fun j hj => hall j (by omega), rfl⟩), fun z => absurd (by decide) z⟩)
  · intro k hk ih hall
    refine W2_st (bX11_bound_23 m2 _ _ _ ?_)
    rw [nI_clamp (by omega), nI_clamp (by omega), (f3 k hk).1, (f3 k hk).2 s hs, under_cmp hw hs hq hk, nI_add, i_ltN (by omega), nI_toInt (by omega)]
    refine ⟨fun z => by omega, fun _ => ⟨inb_nI (by omega) (by omega), inb_nI (by omega) (by omega), inb_nI (by omega) (by omega), fun h => ih (fun j hj => ?_), fun h => fin _ (Or.inl ⟨k, by omega, hall, h, rfl⟩)⟩⟩
    by_cases hjk : j = k
    · rw [hjk]; exact h
    · exact hall j (by omega)
theorem r_bound {p1 p2 : Int32} (hR : RM m S) (hw : wf S) (hQ : ∀ m' r, offL tO (mI m 40 0 0 (nI 0)) m' → askI S p1 (inN 12 p2) r (bndF S p1.toNatClampNeg p2.toNatClampNeg r) → Q (some (vI r)) m') : callW2 xs (d + 5) 158 [vR 40 0, vI p1, vI p2] m Q := by
  have h3 := wf_n hw
  have hRo := RM_0 (v := nI 0) hR
  refine eX12_bound m _ _ (W2_st (bX12_bound_0 m _ _ ?_))
  generalize mI m 40 0 0 (nI 0) = mo at hRo hQ ⊢
  have rf : offL tO mo mo := ⟨off_rfl _ _, rfl⟩
  have hlk := lack_le hw (sN S) (Nat.le_refl _)
  rw [show sumU _ (sN S) = lackS S from rfl] at hlk
  refine r_isState hRo hw p1 ⟨_, rfl, ?_⟩
  rw [bI_0]
  refine ⟨fun hst => hQ mo _ rf (askI_st hst), fun hst => ?_⟩
  rw [Bool.not_eq_false] at hst
  refine r_isIn p2 0 12 (by omega) (by omega) ⟨_, rfl, ?_⟩
  rw [bI_0, decide_eq_false_iff_not]
  refine ⟨fun hin => ?_, fun hin => hQ mo _ rf (askI_ok hst hin)⟩
  rw [Decidable.not_not] at hin
  have hok : inN 12 p2 := hin
  refine r_lacking hRo hw ⟨_, rfl, ?_⟩
  rw [z_le (by omega)]
  refine ⟨fun hl => ?_, fun hl => hQ mo _ rf (askI_lk hst hok hl)⟩
  obtain ⟨s, hs, e⟩ := isSt_t hw hst
  obtain ⟨q, hq, e2⟩ := inN_t hok (by omega)
  subst e e2
  have fin : ∀ mc r, offL tO mo mc → bndF S s q r → Q (some (vI r)) mc := fun mc r h1 h => hQ mc r h1 (askI_F hst hok hl (by rw [nI_clamp (by omega), nI_clamp (by omega)]; exact h))
  refine r_start hRo hw false (fun m2 f1 f2 f3 => ⟨rfl, ?_⟩)
  refine upto (P := fun k => ∀ mc, offL tO mo mc → mc.2 40 0 26 = lI (12 ^ k) → (∀ t, t < sN S → mc.2 59 0 t = lI (hor S false k t)) → (∀ j, j < k → under S s q j) → (W2 xs (callW2 xs (d + 4)) tX12_bound [24] (some .int) Q 24 [some (vR 40 0), some (vI (nI s)), some (vI (nI q)), some (vI (nI k))] [] (mc))) 11 ?_ ?_ 0 (Nat.zero_le _) m2 f1 f2 f3 (fun j hj => by omega)
  · intro mc g1 g2 g3 hall
    refine W2_st (bX12_bound_24 mc _ _ _ ⟨fun _ => fin _ _ g1 (Or.inr ⟨fun j hj => hall j (by omega), rfl⟩), fun z => absurd (by decide) z⟩)
  · intro k hk ih mc g1 g2 g3 hall
    refine W2_st (bX12_bound_24 mc _ _ _ ?_)
    rw [nI_clamp (by omega), g2, g3 s hs, under_cmp hw hs hq hk, nI_add, i_ltN (by omega), nI_toInt (by omega)]
    refine ⟨fun z => by omega, fun _ => ⟨inb_nI (by omega) (by omega), fun h => ?_, fun h => fin _ _ g1 (Or.inl ⟨k, by omega, hall, h, rfl⟩)⟩⟩
    refine r_onwards (RM_O g1 hRo) hw false (by omega) g2 g3 (fun m5 e1 e2 e3 => ⟨rfl, ih m5 (offL_trans g1 e1) e2 e3 (fun j hj => ?_)⟩)
    by_cases hjk : j = k
    · rw [hjk]; exact h
    · exact hall j (by omega)
end L94
