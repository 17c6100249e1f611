/-! CONTRACTS (2): the class's leaves over a system S (wip/whole/src/42.leafC.src) -/
def isSt (S : Sys) (p : Int32) : Bool := decide (0 ≤ p.toInt ∧ p.toInt < (sN S : Int))
def isAc (S : Sys) (p q : Int32) : Bool := isSt S p && decide (0 ≤ q.toInt ∧ q.toInt < (sA S p.toNatClampNeg : Int))
theorem int_nI (p : Int32) (n : Nat) (h0 : 0 ≤ p.toInt) (h : p.toInt < (n : Int)) (hn : n < 2 ^ 31) : ∃ s, s < n ∧ p = nI s := by
  refine ⟨p.toInt.toNat, by omega, ?_⟩
  apply Int32.toInt_inj.mp
  rw [nI_toInt (by omega)]
  omega
theorem isSt_t {S : Sys} {p : Int32} (hw : wf S) (h : isSt S p = true) : ∃ s, s < sN S ∧ p = nI s := by
  have h2 := of_decide_eq_true h
  have := wf_n hw
  exact int_nI p _ h2.1 h2.2 (by omega)
theorem isSt_nI {S : Sys} {s : Nat} (hw : wf S) (h : s < sN S) : isSt S (nI s) = true := by
  have := wf_n hw
  unfold isSt
  rw [nI_toInt (by omega)]
  exact decide_eq_true (by omega)
theorem isAc_t {S : Sys} {p q : Int32} (hw : wf S) (h : isAc S p q = true) : ∃ s a, s < sN S ∧ a < sA S s ∧ a < 4 ∧ p = nI s ∧ q = nI a := by
  unfold isAc at h
  rw [Bool.and_eq_true] at h
  obtain ⟨s, hs, e⟩ := isSt_t hw h.1
  have h2 := of_decide_eq_true h.2
  have h3 := wf_n hw
  have h4 := wf_a hw hs
  rw [e, nI_clamp (by omega)] at h2
  obtain ⟨a, ha, e2⟩ := int_nI q _ h2.1 h2.2 (by omega)
  exact ⟨s, a, hs, ha, by omega, e, e2⟩
theorem isAc_nI {S : Sys} {s a : Nat} (hw : wf S) (h : s < sN S) (ha : a < sA S s) : isAc S (nI s) (nI a) = true := by
  have := wf_n hw
  have := wf_a hw h
  unfold isAc
  rw [isSt_nI hw h, nI_clamp (by omega), nI_toInt (by omega), decide_eq_true (by omega)]
  rfl
/-! longs by their integers -/
def lI (z : Int) : Int64 := Int64.ofInt z
theorem lI_N (n : Nat) : lN n = lI n := by
  unfold lN lI
  exact (Int64.ofInt_eq_ofNat).symm
theorem lI_add (a b : Int) : lI a + lI b = lI (a + b) := (Int64.ofInt_add a b).symm
theorem lI_mul (a b : Int) : lI a * lI b = lI (a * b) := (Int64.ofInt_mul a b).symm
theorem lI_sub (a b : Int) : lI a - lI b = lI (a - b) := (Int64.ofInt_sub a b).symm
theorem lI_neg (a : Int) : -lI a = lI (-a) := (Int64.ofInt_neg a).symm
theorem lI_toInt {a : Int} (h : -2 ^ 63 ≤ a) (h2 : a < 2 ^ 63) : (lI a).toInt = a := Int64.toInt_ofInt_of_le h h2
theorem lI_i {n : Nat} (h : n < 2 ^ 31) : (nI n).toInt64 = lI n := by rw [nI_l h, lI_N]
def sumI (f : Nat → Int) : Nat → Int
  | 0 => 0
  | n + 1 => sumI f n + f n
/-- twelve times the mean of u over the OUTCOMES of ACT x -/
def meanS (S : Sys) (x : Nat) (u : Nat → Int) : Int := sumI (fun o => (sP S x o : Int) * u (sT S x o)) (sO S x)
section L42
variable {xs : Nat × (Nat → Int32)} {d : Nat} {Q : Option v2 → Mem → Prop} {m : Mem} {S : Sys}
/-- a truth is returned: first the branch for no -/
theorem ret_n {c : Prop} {b : Bool} {q : Bool → Prop} (h : c ↔ b = true) (hQ : q b) : (¬ c → isB (nI 0) ∧ q false) ∧ (c → isB (nI 1) ∧ q true) := by
  cases b with
  | true => exact ⟨fun z => absurd (h.mpr rfl) z, fun _ => ⟨isB1, hQ⟩⟩
  | false => exact ⟨fun _ => ⟨isB0, hQ⟩, fun z => absurd (h.mp z) (by simp)⟩
theorem ret_nQ {c : Prop} (b : Bool) (h : c ↔ b = true) (hQ : Q (some (vI (bI b))) m) : (¬ c → isB (nI 0) ∧ Q (some (vI (nI 0))) m) ∧ (c → isB (nI 1) ∧ Q (some (vI (nI 1))) m) := by
  cases b with
  | true => exact ⟨fun z => absurd (h.mpr rfl) z, fun _ => ⟨isB1, hQ⟩⟩
  | false => exact ⟨fun _ => ⟨isB0, hQ⟩, fun z => absurd (h.mp z) (by simp)⟩
theorem ret_yQ {c : Prop} (b : Bool) (h : c ↔ b = false) (hQ : Q (some (vI (bI b))) m) : (c → isB (nI 0) ∧ Q (some (vI (nI 0))) m) ∧ (¬ c → isB (nI 1) ∧ Q (some (vI (nI 1))) m) := by
  cases b with
  | true => exact ⟨fun z => absurd (h.mp z) (by simp), fun _ => ⟨isB1, hQ⟩⟩
  | false => exact ⟨fun _ => ⟨isB0, hQ⟩, fun z => absurd (h.mpr rfl) z⟩
theorem ret_tQ {c : Prop} (b : Bool) (h : c ↔ b = true) (hQ : Q (some (vI (bI b))) m) : (c → isB (nI 1) ∧ Q (some (vI (nI 1))) m) ∧ (¬ c → isB (nI 0) ∧ Q (some (vI (nI 0))) m) := by
  cases b with
  | true => exact ⟨fun _ => ⟨isB1, hQ⟩, fun z => absurd (h.mpr rfl) z⟩
  | false => exact ⟨fun z => absurd (h.mp z) (by simp), fun _ => ⟨isB0, hQ⟩⟩
/-- ChanceCourt.has(b, s) -/
theorem c_has {b s : Nat} (hb : b < 2 ^ 31) (hs : s < 32) (hQ : Q (some (vI (bI (b.testBit s)))) m) : callW2 xs (d + 1) 108 [vI (nI b), vI (nI s)] m Q := by
  refine eX11_has m _ _ (W2_st (bX11_has_0 m _ _ ?_))
  rw [shr_bit hb hs]
  exact ret_nQ _ (bI_1 _) hQ
/-- World.hasState(p) -/
theorem c_hasS (hR : RC m S) (hw : wf S) (p : Int32) (hQ : Q (some (vI (bI (isSt S p)))) m) : callW2 xs (d + 1) 60 [vR 1 0, vI p] m Q := c_hasState m p (sN S) (rc_n hR) (wf_n hw) hQ
theorem c_hasA (hR : RC m S) (hw : wf S) (p q : Int32) (hQ : Q (some (vI (bI (isAc S p q)))) m) : callW2 xs (d + 2) 61 [vR 1 0, vI p, vI q] m Q := by
  refine eX10_hasAct m _ _ (W2_st (bX10_hasAct_0 m _ _ ?_))
  refine c_hasS hR hw p ⟨_, rfl, ?_⟩
  unfold isAc at hQ
  cases h : isSt S p with
  | false =>
    rw [h] at hQ
    exact ⟨fun _ => ⟨isB0, hQ⟩, fun z => absurd rfl z⟩
  | true =>
    rw [h, Bool.true_and] at hQ
    refine ⟨fun z => absurd z (by decide), fun _ => ⟨fun z => ⟨isB0, ?_⟩, fun z => ?_⟩⟩
    · rw [i_lt] at z
      rw [decide_eq_false (by intro y; exact absurd y.1 (by simpa using z))] at hQ
      exact hQ
    · obtain ⟨s, hs, e⟩ := isSt_t hw h
      have h3 := wf_n hw
      have h4 := wf_a hw hs
      subst e
      rw [nI_clamp (by omega)] at hQ ⊢
      rw [rc_a hR hs]
      refine ⟨inb_nI (by omega) (by omega), ret_yQ _ ?_ hQ⟩
      rw [i_le, nI_toInt (by omega), decide_eq_false_iff_not]
      rw [i_lt] at z
      have h0 : (0 : Int32).toInt = 0 := rfl
      rw [h0] at z
      omega
theorem c_actS (hw : wf S) {s a : Nat} (hs : s < sN S) (ha : a < sA S s) (hQ : Q (some (vR 4 (4 * s + a))) m) : callW2 xs (d + 1) 62 [vR 1 0, vI (nI s), vI (nI a)] m Q := by
  have := wf_n hw
  have := wf_a hw hs
  exact c_actAt m s a (by omega) (by omega) hQ
theorem c_isFoes (hR : RC m S) (hw : wf S) {s : Nat} (hs : s < sN S) (hQ : Q (some (vI (bI (foeS S s)))) m) : callW2 xs (d + 1) 63 [vR 1 0, vI (nI s)] m Q := by
  refine eX10_isFoes m _ (W2_st (bX10_isFoes_0 m _ ?_))
  have h3 := wf_n hw
  have h4 := wf_a hw hs
  simp (disch := omega) only [nI_clamp, inb_iff, pk_mul, rc_a hR hs, z_le]
  refine ⟨by omega, fun h => ⟨isB0, ?_⟩, fun h => ⟨by omega, ?_⟩⟩
  · unfold foeS at hQ
    rw [h] at hQ
    exact hQ
  · have hx : isA S (4 * s + 0) := isA_mk hs (by omega) (by omega)
    have hk := rc_k hR hx
    have hk3 := wf_k hw hx
    rw [show s * 4 = 4 * s + 0 by omega, hk]
    refine ret_nQ _ ?_ hQ
    unfold foeS
    rw [nI_eq (by omega) (by omega), decide_eq_true (show 0 < sA S s by omega), Bool.true_and, decide_eq_true_iff]
    exact Iff.rfl
theorem c_seeks (hR : RC m S) (hw : wf S) {s : Nat} (hs : s < sN S) (l : Bool) (hQ : Q (some (vI (bI (wantS S l s)))) m) : callW2 xs (d + 2) 64 [vR 1 0, vI (nI s), vI (bI l)] m Q := by
  refine eX10_seeksMost m _ _ (W2_st (bX10_seeksMost_0 m _ _ ?_))
  refine c_isFoes hR hw hs ⟨_, rfl, ?_⟩
  refine ret_nQ _ ?_ hQ
  rw [bI_eq]
  unfold wantS
  simp
theorem c_everyone (hR : RC m S) (hw : wf S) (hQ : Q (some (vI (nI (fullB (sN S))))) m) : callW2 xs (d + 1) 65 [vR 1 0] m Q := by
  refine eX10_everyone m (W2_st (bX10_everyone_0 m ?_))
  have h3 := wf_n hw
  rw [rc_n hR, mask_n (by omega)]
  exact hQ
theorem c_staysIn (hR : RC m S) {x : Nat} (hx : isA S x) {b : Nat} (hw : wf S) (hQ : Q (some (vI (bI (allInS S x b)))) m) : callW2 xs (d + 1) 6 [vR 4 x, vI (nI b)] m Q := by
  refine eX0_staysIn m _ _ (W2_st (bX0_staysIn_0 m _ _ ?_))
  have h1 := goes_lt hw hx
  rw [rc_g hR hx, nI_diff, z_eq (Nat.lt_trans (diff_lt h1) (by omega))]
  exact ret_nQ _ (goes_all S x b) hQ
theorem c_isSingle {x k : Nat} (hk : m.1 4 x 0 = nI k) (h3 : k ≤ 3) (hQ : Q (some (vI (bI (decide (k % 2 = 1))))) m) : callW2 xs (d + 1) 5 [vR 4 x] m Q := by
  refine eX0_isSingle m _ (W2_st (bX0_isSingle_0 m _ ?_))
  rw [hk, nI_eq (by omega) (by omega), nI_eq (by omega) (by omega)]
  refine ⟨fun h => ⟨isB1, ?_⟩, fun h => ret_nQ _ ?_ hQ⟩
  · rw [h] at hQ; exact hQ
  · rw [decide_eq_true_iff]; omega
theorem c_room {x k : Nat} (hk : m.1 4 x 0 = nI k) (h3 : k ≤ 3) (hQ : Q (some (vI (nI (if k % 2 = 1 then 1 else 4)))) m) : callW2 xs (d + 2) 4 [vR 4 x] m Q := by
  refine eX0_room m _ (W2_st (bX0_room_0 m _ ?_))
  refine c_isSingle hk h3 ⟨_, rfl, ?_⟩
  rw [bI_0, decide_eq_false_iff_not]
  refine ⟨fun h => ?_, fun h => ?_⟩
  · rw [if_neg h] at hQ; exact hQ
  · rw [if_pos (by omega)] at hQ; exact hQ
theorem meanF_S {x l : Nat} {u : Nat → Int} (hR : RC m S) (hw : wf S) (hx : isA S x) (hu : ∀ t, t < sN S → m.2 15 l t = lI (u t)) : ∀ o, o ≤ sO S x → meanF m x l o = lI (sumI (fun o => (sP S x o : Int) * u (sT S x o)) o) := by
  intro o
  induction o with
  | zero => intro _; exact lI_N 0
  | succ o ih =>
    intro ho
    have h1 := wf_t hw hx (show o < sO S x by omega)
    have h2 := (wf_p hw hx (show o < sO S x by omega)).2
    have h3 := wf_n hw
    show meanF m x l o + _ = _
    rw [ih (by omega), rc_t hR hx (by omega), rc_p hR hx (by omega), nI_clamp (by omega), hu _ h1, lI_i (by omega), lI_mul, lI_add]
    rfl
/-- Act.mean(numbers) -/
theorem c_meanS {x l : Nat} {u : Nat → Int} (hR : RC m S) (hw : wf S) (hx : isA S x) (hu : ∀ t, t < sN S → m.2 15 l t = lI (u t)) (hQ : Q (some (vL (lI (meanS S x u)))) m) : callW2 xs (d + 1) 7 [vR 4 x, vR 15 l] m Q := by
  refine c_mean m x l (sO S x) (rc_o hR hx) (wf_o hw hx) ?_ ?_
  · intro o ho
    rw [rc_t hR hx ho]
    exact inb_nI (wf_t10 hw hx ho) (by omega)
  · rw [meanF_S hR hw hx hu _ (Nat.le_refl _)]
    exact hQ
/-- Act.heaviness() -/
def heavy (k c o : Nat) : Nat := if k = 2 then c + 5 * o + 7 else if k % 2 = 1 then (if k = 3 then 2 * (c + 5 * o + 50) else c + 5 * o + 50) else c + 5 * o
theorem c_heavy {x k c o : Nat} (hk : m.1 4 x 0 = nI k) (hc : m.1 4 x 1 = nI c) (ho : m.1 4 x 2 = nI o) (h3 : k ≤ 3) (h4 : c ≤ 1000) (h5 : o ≤ 4) (hQ : Q (some (vL (lI (heavy k c o)))) m) : callW2 xs (d + 2) 8 [vR 4 x] m Q := by
  refine eX0_heaviness m _ (W2_st (bX0_heaviness_0 m _ ?_))
  unfold heavy at hQ
  rw [hk, hc, ho, nI_eq (by omega) (by omega)]
  simp only [pk_mul, nI_add]
  refine ⟨fun h => c_isSingle hk h3 ⟨_, rfl, ?_⟩, fun h => ?_⟩
  · rw [if_neg h] at hQ
    rw [bI_0, decide_eq_false_iff_not, hk, nI_eq (by omega) (by omega)]
    refine ⟨fun h6 => ⟨fun h7 => ?_, fun h7 => ?_⟩, fun h6 => ?_⟩
    · rw [if_pos (by omega), if_neg h7] at hQ
      rw [lI_i (by omega)]; exact hQ
    · rw [if_pos (by omega), if_pos h7] at hQ
      rw [lI_i (by omega)]; exact hQ
    · rw [if_neg h6] at hQ
      rw [lI_i (by omega)]; exact hQ
  · rw [if_pos h] at hQ
    rw [lI_i (by omega)]; exact hQ
/-- World.lacking() -/
theorem lack_in (hw : wf S) {s : Nat} (hs : s < sN S) (k : Nat) (hk : k ≤ sA S s) : sumU (fun a => 12 - partsS S (4 * s + a)) k ≤ 48 := by
  have h1 := wf_a hw hs
  have h2 := sumU_le (f := fun a => 12 - partsS S (4 * s + a)) (n := k) (c := 12) (fun i _ => by omega)
  omega
theorem lack_le (hw : wf S) (k : Nat) (hk : k ≤ sN S) : sumU (fun s => sumU (fun a => 12 - partsS S (4 * s + a)) (sA S s)) k ≤ 480 := by
  have h1 := wf_n hw
  have h2 := sumU_le (f := fun s => sumU (fun a => 12 - partsS S (4 * s + a)) (sA S s)) (n := k) (c := 48) (fun i hi => lack_in hw (by omega) _ (Nat.le_refl _))
  omega
theorem c_lacking (hR : RC m S) (hw : wf S) (hQ : Q (some (vI (nI (lackS S)))) m) : callW2 xs (d + 2) 72 [vR 1 0] m Q := by
  refine eX10_lacking m (W2_st (bX10_lacking_0 m ?_))
  have h3 := wf_n hw
  have key : ∀ s, s ≤ sN S → ∀ o3, (W2 xs (callW2 xs (d + 1)) tX10_lacking [4, 10] (some .int) Q 4 [some (vR 1 0), some (vI (nI (sumU (fun s => sumU (fun a => 12 - partsS S (4 * s + a)) (sA S s)) s))), some (vI (nI s)), (o3)] [] (m)) := by
    refine upto (sN S) ?_ ?_
    · intro o3
      refine W2_st (bX10_lacking_4 m _ _ _ ?_)
      simp (disch := omega) only [rc_n hR, nI_leI]
      exact ⟨fun _ => hQ, fun z => absurd (Nat.le_refl _) z⟩
    · intro s hs ih o3
      refine W2_st (bX10_lacking_4 m _ _ _ ?_)
      simp (disch := omega) only [rc_n hR, nI_leI]
      refine ⟨fun z => by omega, fun _ => ?_⟩
      have h4 := wf_a hw hs
      refine upto (P := fun a => (W2 xs (callW2 xs (d + 1)) tX10_lacking [4, 10] (some .int) Q 10 [some (vR 1 0), some (vI (nI (sumU (fun s => sumU (fun a => 12 - partsS S (4 * s + a)) (sA S s)) s + sumU (fun a => 12 - partsS S (4 * s + a)) a))), some (vI (nI s)), some (vI (nI a))] [] (m))) (sA S s) ?_ ?_ 0 (Nat.zero_le _)
      · refine W2_st (bX10_lacking_10 m _ _ _ ?_)
        simp (disch := omega) only [rc_a hR hs, nI_leI, nI_clamp, inb_iff, nI_add]
        exact ⟨by omega, fun _ => ih _, fun z => absurd (Nat.le_refl _) z⟩
      · intro a ha ih2
        refine W2_st (bX10_lacking_10 m _ _ _ ?_)
        simp (disch := omega) only [rc_a hR hs, nI_leI, nI_clamp, inb_iff, nI_add]
        refine ⟨by omega, fun z => by omega, fun _ => c_actS hw hs ha ⟨_, rfl, ?_⟩⟩
        have hx := isA_mk hs ha (by omega)
        rw [rc_ps hR hx, pk_sub (wf_ps hw hx), nI_add, Nat.add_assoc]
        exact ih2
  exact key 0 (Nat.zero_le _) none
theorem c_isWhole (hR : RC m S) (hw : wf S) (hQ : Q (some (vI (bI (decide (lackS S = 0))))) m) : callW2 xs (d + 3) 71 [vR 1 0] m Q := by
  refine eX10_isWhole m (W2_st (bX10_isWhole_0 m (c_lacking hR hw ⟨_, rfl, ?_⟩)))
  have h := lack_le hw _ (Nat.le_refl _)
  rw [show sumU _ (sN S) = lackS S from rfl] at h
  rw [z_eq (by omega)]
  exact ret_nQ _ (by simp) hQ
end L42
