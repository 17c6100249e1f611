/-! CONTRACTS (43): count() (wip/whole/src/97.tops7.src) -/
section L97
variable {xs : Nat × (Nat → Int32)} {d : Nat} {Q : Option v2 → Mem → Prop} {m : Mem} {S : Sys}
def gC (S : Sys) (k s a : Nat) : Nat := if k = 1 then 1 else if k = 2 then sO S (4 * s + a) else if sK S (4 * s + a) = 2 then 1 else 0
def cntK (S : Sys) (k : Nat) : Nat := sumU (fun s => sumU (gC S k s) (sA S s)) (sN S)
theorem sumU_1 (n : Nat) : sumU (fun _ => 1) n = n := by
  induction n with
  | zero => rfl
  | succ n ih => show sumU (fun _ => 1) n + 1 = n + 1; rw [ih]
theorem cntK_1 : cntK S 1 = sumU (sA S) (sN S) := sumU_congr (fun s _ => (sumU_congr (g := fun _ => 1) (fun _ _ => rfl)).trans (sumU_1 _))
theorem cntK_3 (hw : wf S) : cntK S 3 = foeN S := by
  unfold cntK foeN
  refine sumU_congr (fun s hs => ?_)
  have h4 := wf_a hw hs
  have hk : ∀ a, a < sA S s → (sK S (4 * s + a) = 2 ↔ sK S (4 * s) = 2) := fun a ha => by
    have hx : isA S (4 * s + a) := ⟨by omega, by rw [show (4 * s + a) / 4 = s by omega, show (4 * s + a) % 4 = a by omega]; exact ha⟩
    have := (wf_x hw hx).2.2.2.2.2
    rw [show (4 * s + a) / 4 = s by omega] at this
    exact this
  cases hf : foeS S s with
  | true =>
    unfold foeS at hf
    rw [Bool.and_eq_true, decide_eq_true_iff, decide_eq_true_iff] at hf
    rw [if_pos rfl, sumU_congr (g := fun _ => 1) (fun a ha => ?_), sumU_1]
    show (if sK S (4 * s + a) = 2 then 1 else 0) = 1
    rw [if_pos ((hk a ha).mpr hf.2)]
  | false =>
    rw [if_neg (by decide)]
    refine sumU_0 (fun a ha => ?_)
    show (if sK S (4 * s + a) = 2 then 1 else 0) = 0
    refine if_neg (fun z => ?_)
    unfold foeS at hf
    rw [decide_eq_true (show 0 < sA S s by omega), decide_eq_true ((hk a ha).mp z)] at hf
    cases hf
def couR (S : Sys) (p r : Int32) : Prop := (¬ inN 4 p → r = -1) ∧ (p = nI 0 → r = nI (sN S)) ∧ (∀ k, 1 ≤ k → k ≤ 3 → p = nI k → r = nI (cntK S k)) ∧ (p = nI 4 → (¬ lackS S = 0 → r = -2) ∧ (lackS S = 0 → r = nI (cntR S 12)))
theorem cou_uniq {p r r' : Int32} (h : couR S p r) (h' : couR S p r') : r = r' := by
  by_cases hp : inN 4 p
  · obtain ⟨k, hk, e⟩ := inN_t hp (by omega)
    by_cases h0 : k = 0
    · subst h0; rw [h.2.1 e, h'.2.1 e]
    · by_cases h4 : k = 4
      · subst h4
        by_cases hl : lackS S = 0
        · rw [(h.2.2.2 e).2 hl, (h'.2.2.2 e).2 hl]
        · rw [(h.2.2.2 e).1 hl, (h'.2.2.2 e).1 hl]
      · rw [h.2.2.1 k (by omega) (by omega) e, h'.2.2.1 k (by omega) (by omega) e]
  · rw [h.1 hp, h'.1 hp]
theorem inN_nI {n k : Nat} (hk : k ≤ n) (hn : n < 2 ^ 30) : inN n (nI k) := by unfold inN; rw [nI_toInt (by omega)]; omega
/-- the answer at one of the numbers -/
theorem couR_k {k : Nat} {r : Int32} (hk : k ≤ 4) (h0 : k = 0 → r = nI (sN S)) (h1 : 1 ≤ k → k ≤ 3 → r = nI (cntK S k)) (h4 : k = 4 → (¬ lackS S = 0 → r = -2) ∧ (lackS S = 0 → r = nI (cntR S 12))) : couR S (nI k) r := by
  refine ⟨fun z => absurd (inN_nI hk (by omega)) z, fun e => h0 ?_, fun j a b e => ?_, fun e => h4 ?_⟩
  · rw [nI_eq (by omega) (by omega)] at e; exact e
  · rw [nI_eq (by omega) (by omega)] at e; subst e; exact h1 a b
  · rw [nI_eq (by omega) (by omega)] at e; exact e
theorem c_allActs (hR : RC m S) (hw : wf S) (hQ : Q (some (vI (nI (cntK S 1)))) m) : callW2 xs (d + 1) 73 [vR 1 0] m Q := by
  have h3 := wf_n hw
  refine eX10_allActs m (W2_st (bX10_allActs_0 m ?_))
  rw [cntK_1] at hQ
  refine upto (P := fun s => (W2 xs (callW2 xs d) tX10_allActs [4] (some .int) Q 4 [some (vR 1 0), some (vI (nI (sumU (sA S) s))), some (vI (nI s))] [] (m))) (sN S) ?_ ?_ 0 (Nat.zero_le _)
  · refine W2_st (bX10_allActs_4 m _ _ ?_)
    rw [rc_n hR, nI_leI (by omega) (by omega)]
    exact ⟨fun _ => hQ, fun z => absurd (Nat.le_refl _) z⟩
  · intro s hs ih
    refine W2_st (bX10_allActs_4 m _ _ ?_)
    rw [rc_n hR, nI_leI (by omega) (by omega), nI_clamp (by omega), rc_a hR hs, nI_add, nI_add]
    exact ⟨fun z => by omega, fun _ => ⟨inb_nI (by omega) (by omega), ih⟩⟩
theorem c_allOutcomes (hR : RC m S) (hw : wf S) (hQ : Q (some (vI (nI (cntK S 2)))) m) : callW2 xs (d + 2) 74 [vR 1 0] m Q := by
  have h3 := wf_n hw
  refine eX10_allOutcomes m (W2_st (bX10_allOutcomes_0 m ?_))
  refine upto (P := fun s => ∀ o, (W2 xs (callW2 xs (d + 1)) tX10_allOutcomes [4, 10] (some .int) Q 4 [some (vR 1 0), some (vI (nI (sumU (fun s => sumU (gC S 2 s) (sA S s)) s))), some (vI (nI s)), (o)] [] (m))) (sN S) ?_ ?_ 0 (Nat.zero_le _) _
  · intro o
    refine W2_st (bX10_allOutcomes_4 m _ _ _ ?_)
    rw [rc_n hR, nI_leI (by omega) (by omega)]
    exact ⟨fun _ => hQ, fun z => absurd (Nat.le_refl _) z⟩
  · intro s hs ih o
    have h4 := wf_a hw hs
    refine W2_st (bX10_allOutcomes_4 m _ _ _ ?_)
    rw [rc_n hR, nI_leI (by omega) (by omega)]
    refine ⟨fun z => by omega, fun _ => ?_⟩
    rw [show sumU (fun s => sumU (gC S 2 s) (sA S s)) (s + 1) = sumU (fun s => sumU (gC S 2 s) (sA S s)) s + sumU (gC S 2 s) (sA S s) from rfl] at ih
    generalize sumU (fun s => sumU (gC S 2 s) (sA S s)) s = c0 at ih ⊢
    refine upto (P := fun a => (W2 xs (callW2 xs (d + 1)) tX10_allOutcomes [4, 10] (some .int) Q 10 [some (vR 1 0), some (vI (nI (c0 + sumU (gC S 2 s) a))), some (vI (nI s)), some (vI (nI a))] [] (m))) (sA S s) ?_ ?_ 0 (Nat.zero_le _)
    · refine W2_st (bX10_allOutcomes_10 m _ _ _ ?_)
      rw [nI_clamp (by omega), rc_a hR hs, nI_leI (by omega) (by omega), nI_add]
      exact ⟨inb_nI (by omega) (by omega), fun _ => ih _, fun z => absurd (Nat.le_refl _) z⟩
    · intro a ha iha
      have hx : isA S (4 * s + a) := ⟨by omega, by rw [show (4 * s + a) / 4 = s by omega, show (4 * s + a) % 4 = a by omega]; exact ha⟩
      refine W2_st (bX10_allOutcomes_10 m _ _ _ ?_)
      rw [nI_clamp (by omega), rc_a hR hs, nI_leI (by omega) (by omega)]
      refine ⟨inb_nI (by omega) (by omega), fun z => by omega, fun _ => c_actS hw hs ha ⟨_, rfl, ?_⟩⟩
      rw [rc_o hR hx, nI_add, nI_add, Nat.add_assoc]
      exact iha
theorem c_count {ver : Nat} {p : Int32} (hR : RC m S) (hw : wf S) (hver : m.1 1 0 2 = nI ver) (hv : ver < 2 ^ 31) (hT : TW m S ver) (hQ : ∀ m' r, off tTw m m' → TW m' S ver → couR S p r → Q (some (vI r)) m') : callW2 xs (d + 5) 96 [vR 0 0, vI p] m Q := by
  refine eX11_count m _ (W2_st (bX11_count_0 m _ ?_))
  have pk : ∀ k : Nat, k ≤ 4 → p.toInt = (k : Int) → p = nI k := fun k hk h => by
    apply Int32.toInt_inj.mp
    rw [nI_toInt (by omega)]
    exact h
  have an : ∀ k : Nat, k ≤ 4 → p.toInt = (k : Int) → ∀ r, couR S (nI k) r → Q (some (vI r)) m := fun k hk h r hr => hQ m r (off_rfl _ _) hT (by rw [pk k hk h]; exact hr)
  refine ⟨fun h => hQ m _ (off_rfl _ _) hT ⟨fun _ => rfl, fun e => ?_, fun k a b e => ?_, fun e => ?_⟩, fun h => an 0 (by omega) h _ (couR_k (by omega) (fun _ => rc_n hR) (fun z => by omega) (fun z => by omega)), fun h => ?_, fun h => ?_, fun h => ?_, fun h => ?_, trivial⟩
  · rw [e, nI_toInt (by omega)] at h; omega
  · rw [e, nI_toInt (by omega)] at h; omega
  · rw [e, nI_toInt (by omega)] at h; omega
  · exact c_allActs hR hw ⟨_, rfl, an 1 (by omega) (by omega) _ (couR_k (by omega) (fun z => by omega) (fun _ _ => rfl) (fun z => by omega))⟩
  · exact c_allOutcomes hR hw ⟨_, rfl, an 2 (by omega) (by omega) _ (couR_k (by omega) (fun z => by omega) (fun _ _ => rfl) (fun z => by omega))⟩
  · exact c_foeActs hR hw ⟨_, rfl, an 3 (by omega) (by omega) _ (couR_k (by omega) (fun z => by omega) (fun _ _ => by rw [cntK_3 hw]) (fun z => by omega))⟩
  · refine c_isWhole hR hw ⟨_, rfl, ?_⟩
    rw [bI_0, decide_eq_false_iff_not]
    refine ⟨fun hl => ?_, fun hl => an 4 (by omega) (by omega) _ (couR_k (by omega) (fun z => by omega) (fun _ _ => by omega) (fun _ => ⟨fun _ => rfl, fun z => absurd z hl⟩))⟩
    rw [Decidable.not_not] at hl
    refine c_twins hR hw hver hv hT (fun m2 e1 e2 e3 => ⟨rfl, hQ m2 _ e1 e2 ?_⟩)
    rw [pk 4 (by omega) (by omega)]
    exact couR_k (by omega) (fun z => by omega) (fun _ _ => by omega) (fun _ => ⟨fun z => absurd hl z, fun _ => e3.2⟩)
theorem r_count {p : Int32} (hR : RM m S) (hw : wf S) (hQ : ∀ m' r, offI (fun t j => (t = 64 ∨ t = 65) ∧ j = 0) (mI m 40 0 0 (nI 0)) m' → couR S p r → Q (some (vI r)) m') : callW2 xs (d + 5) 175 [vR 40 0, vI p] m Q := by
  have h3 := wf_n hw
  have hRo := RM_0 (v := nI 0) hR
  refine eX12_count m _ (W2_st (bX12_count_0 m _ ?_))
  generalize mI m 40 0 0 (nI 0) = mo at hRo hQ ⊢
  have hlk := lack_le hw (sN S) (Nat.le_refl _)
  rw [show sumU _ (sN S) = lackS S from rfl] at hlk
  refine ⟨fun h0 => ⟨fun h4 => ?_, fun h4 => ?_⟩, fun h0 => hQ mo _ (offI_rfl _ _) ?_⟩
  · refine r_isIn p 1 3 (by omega) (by omega) ⟨_, rfl, ?_⟩
    rw [bI_0, decide_eq_false_iff_not]
    refine ⟨fun hin => ?_, fun hin => hQ mo _ (offI_rfl _ _) ⟨fun _ => rfl, fun e => absurd e h0, fun k a b e => ?_, fun e => absurd e h4⟩⟩
    · rw [Decidable.not_not] at hin
      obtain ⟨k, hk, e⟩ := int_nI p 4 (by omega) (by omega) (by omega)
      subst e
      rw [nI_toInt (by omega)] at hin
      have hk1 : 1 ≤ k := by omega
      let G : Nat → Nat := fun x => if x % 4 < sA S (x / 4) then gC S k (x / 4) (x % 4) else 0
      refine upto (P := fun x => ∀ o, (W2 xs (callW2 xs (d + 4)) tX12_count [31] (some .int) Q 31 [some (vR 40 0), some (vI (nI k)), some (vI (nI (sumU G x))), some (vI (nI x)), (o)] [] (mo))) (4 * sN S) ?_ ?_ 0 (Nat.zero_le _) _
      · intro o
        refine W2_st (bX12_count_31 mo _ _ _ _ ?_)
        rw [rm_n hRo, pk_mul, nI_leI (by omega) (by omega)]
        refine ⟨fun _ => hQ mo _ (offI_rfl _ _) (couR_k (by omega) (fun z => by omega) (fun _ _ => ?_) (fun z => by omega)), fun z => absurd (Nat.le_refl _) z⟩
        unfold cntK
        rw [← flat (sN S) (fun s hs => wf_a hw hs)]
      · intro x hx ih o
        rw [show sumU G (x + 1) = sumU G x + G x from rfl] at ih
        have hsx : x / 4 < sN S := by omega
        have ha := rm_a hRo hsx
        have h4 := wf_a hw hsx
        have hd4 := d4 x (by omega)
        refine W2_st (bX12_count_31 mo _ _ _ _ ?_)
        rw [hd4.2, hd4.1, nI_clamp (n := x / 4) (by omega), nI_clamp (n := x) (by omega), ha, rm_n hRo, pk_mul, nI_leI (by omega) (by omega), nI_leI (by omega) (by omega), nI_eq (a := k) (by omega) (by omega), nI_eq (a := k) (by omega) (by omega)]
        simp only [nI_add]
        refine ⟨fun z => by omega, fun _ => ⟨by decide, by decide, inb_nI (by omega) (by omega), fun h => ⟨fun z => absurd rfl z, fun _ => ?_⟩, fun h => ⟨fun _ => ?_, fun z => absurd z (by decide)⟩⟩⟩
        · rw [show G x = 0 from if_neg (by omega)] at ih
          exact ih _
        · have hia : isA S x := ⟨hsx, by omega⟩
          have e4x : 4 * (x / 4) + x % 4 = x := by omega
          have hG : G x = gC S k (x / 4) (x % 4) := if_pos (by omega)
          unfold gC at hG
          rw [e4x] at hG
          have hkk := wf_k hw hia
          rw [rm_o hRo hia, rm_k hRo hia, nI_add, nI_eq (a := sK S x) (by omega) (by omega)]
          refine ⟨fun k1 => ⟨fun k2 => ⟨inb_nI (by omega) (by omega), fun h2 => ?_, fun h2 => ?_⟩, fun k2 => ⟨inb_nI (by omega) (by omega), ?_⟩⟩, fun k1 => ?_⟩
          · rw [hG, if_neg k1, if_neg k2, if_neg h2] at ih; exact ih _
          · rw [hG, if_neg k1, if_neg k2, if_pos h2] at ih; exact ih _
          · rw [hG, if_neg k1, if_pos k2] at ih; exact ih _
          · rw [hG, if_pos k1] at ih; exact ih _
    · rw [e, nI_toInt (by omega)] at hin
      omega
  · subst h4
    refine r_lacking hRo hw ⟨_, rfl, ?_⟩
    rw [z_le (by omega)]
    refine ⟨fun hl => ?_, fun hl => hQ mo _ (offI_rfl _ _) (couR_k (by omega) (fun z => by omega) (fun _ _ => by omega) (fun _ => ⟨fun _ => rfl, fun z => absurd z hl⟩))⟩
    refine r_findClasses hRo hw (fun m2 e1 e2 => ⟨_, rfl, hQ m2 _ e1 (couR_k (by omega) (fun z => by omega) (fun _ _ => by omega) (fun _ => ⟨fun z => absurd hl z, fun _ => rfl⟩))⟩)
  · rw [h0]
    exact couR_k (k := 0) (by omega) (fun _ => rm_n hRo) (fun z => by omega) (fun z => by omega)
end L97
