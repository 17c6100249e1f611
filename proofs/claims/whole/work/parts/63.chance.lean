/-! CHANCES BY THE EQUATIONS (wip/whole/src/63.chance.src): the open STATES' list, the rows, the solution -/
theorem bits_ex (p : Nat → Prop) : ∀ N, ∃ z : Nat, ∀ i, z.testBit i = true ↔ i < N ∧ p i := by
  intro N
  induction N with
  | zero => exact ⟨0, fun i => by simp⟩
  | succ N ih =>
    obtain ⟨z, hz⟩ := ih
    by_cases h : p N
    · refine ⟨z ||| 2 ^ N, fun i => ?_⟩
      rw [Nat.testBit_or, Bool.or_eq_true, hz, two_bit, decide_eq_true_iff]
      constructor
      · rintro (q | q)
        · exact ⟨by omega, q.2⟩
        · rw [← q]; exact ⟨by omega, h⟩
      · intro q
        by_cases hi : i = N
        · exact Or.inr hi.symm
        · exact Or.inl ⟨by omega, q.2⟩
    · refine ⟨z, fun i => ?_⟩
      rw [hz]
      constructor
      · intro q; exact ⟨by omega, q.2⟩
      · intro q
        refine ⟨?_, q.2⟩
        by_cases hi : i = N
        · rw [hi] at q; exact absurd q.2 h
        · omega
/-- how many of U lie below s; the j-th of them -/
def cntU (U s : Nat) : Nat := sumU (fun i => (U.testBit i).toNat) s
def qF (U : Nat) : Nat → Nat → Nat
  | 0, _ => 0
  | s + 1, j => if U.testBit s = true ∧ cntU U s = j then s else qF U s j
def qOf (U j : Nat) : Nat := qF U 10 j
theorem cntU_s (U s : Nat) : cntU U (s + 1) = cntU U s + (U.testBit s).toNat := rfl
theorem cntU_lt {U s t : Nat} (h : s < t) (hs : U.testBit s = true) : cntU U s < cntU U t := by
  have h1 := sumU_mono (f := fun i => (U.testBit i).toNat) (k := s + 1) (n := t) (by omega)
  have h2 := cntU_s U s
  rw [hs] at h2
  have h3 : (true : Bool).toNat = 1 := rfl
  unfold cntU at *
  omega
theorem qF_cnt {U s : Nat} (hs : U.testBit s = true) : ∀ N, s < N → qF U N (cntU U s) = s := by
  intro N
  induction N with
  | zero => intro h; omega
  | succ N ih =>
    intro h
    simp only [qF]
    by_cases hN : s = N
    · subst hN; rw [if_pos ⟨hs, rfl⟩]
    · have := cntU_lt (U := U) (s := s) (t := N) (by omega) hs
      rw [if_neg (fun z => by omega)]
      exact ih (by omega)
theorem qOf_cnt {U s : Nat} (hs : U.testBit s = true) (h10 : s < 10) : qOf U (cntU U s) = s := qF_cnt hs 10 h10
theorem cntU_ex {U j : Nat} : ∀ N, j < cntU U N → ∃ s, s < N ∧ U.testBit s = true ∧ cntU U s = j := by
  intro N
  induction N with
  | zero => intro h; exact absurd h (Nat.not_lt_zero _)
  | succ N ih =>
    intro h
    rw [cntU_s] at h
    by_cases hj : j < cntU U N
    · obtain ⟨s, h1, h2⟩ := ih hj
      exact ⟨s, by omega, h2⟩
    · cases hb : U.testBit N with
      | false => rw [hb] at h; simp at h; omega
      | true =>
        rw [hb] at h
        have h3 : (true : Bool).toNat = 1 := rfl
        exact ⟨N, by omega, hb, by omega⟩
theorem qOf_in {U j : Nat} (h : j < cntB U) : U.testBit (qOf U j) = true ∧ qOf U j < 10 ∧ cntU U (qOf U j) = j := by
  obtain ⟨s, h1, h2, h3⟩ := cntU_ex 10 h
  have := qOf_cnt h2 h1
  rw [h3] at this
  rw [this]
  exact ⟨h2, h1, h3⟩
theorem qOf_inj {U i j : Nat} (hi : i < cntB U) (hj : j < cntB U) (h : qOf U i = qOf U j) : i = j := by
  have h1 := (qOf_in hi).2.2
  have h2 := (qOf_in hj).2.2
  rw [h] at h1
  omega
theorem cntU_B {U s : Nat} (hs : U.testBit s = true) (h10 : s < 10) : cntU U s < cntB U := cntU_lt h10 hs
section M63
variable {S : Sys}
/-- a sum over the list is a sum over the OUTCOMES -/
theorem rowsum {U x : Nat} {V : Nat → Int} (hU : ∀ s, U.testBit s = true → s < 10) : sumI (fun j => pU S x (qOf U j) * V (qOf U j)) (cntB U) = meanS S x (fun t => if U.testBit t = true then V t else 0) := by
  unfold pU PU meanS
  rw [sumI_congr (g := fun j => sumI (fun o => if sT S x o = qOf U j then (sP S x o : Int) * V (qOf U j) else 0) (sO S x)) (fun j _ => by
    rw [Int.mul_comm, ← sumI_mul]
    refine sumI_congr (fun o _ => ?_)
    split
    · exact Int.mul_comm _ _
    · exact Int.mul_zero _), sumI_swap]
  refine sumI_congr (fun o _ => ?_)
  cases hb : U.testBit (sT S x o) with
  | false =>
    rw [sumI_zero (fun j hj => if_neg (fun e => by have := (qOf_in hj).1; rw [← e, hb] at this; cases this))]
    simp [hb]
  | true =>
    have h10 := hU _ hb
    rw [sumI_one (j := cntU U (sT S x o)) (cntU_B hb h10)]
    · rw [qOf_cnt hb h10, if_pos rfl]; simp [hb]
    · intro j hj hne
      refine if_neg (fun e => hne ?_)
      rw [e]
      exact ((qOf_in hj).2.2).symm
theorem pU_nn (x s : Nat) : 0 ≤ pU S x s := sumI_nn (fun o _ => by split <;> omega)
theorem pU_pos {x s o : Nat} (ho : o < sO S x) (he : sT S x o = s) (hp : 1 ≤ sP S x o) : 0 < pU S x s := by
  have := sumI_lt (f := fun _ => 0) (g := fun o => if sT S x o = s then (sP S x o : Int) else 0) (n := sO S x) (fun i _ => by split <;> omega) ho (by rw [if_pos he]; omega)
  rw [sumI_zero (fun _ _ => rfl)] at this
  exact this
/-- the rows of the open STATES U under the choices c -/
def rowP (S : Sys) (U : Nat) (c : Nat → Nat) : Nat → Nat → Int := fun i j => pU S (4 * qOf U i + c (qOf U i)) (qOf U j)
theorem rowP_sum {U : Nat} {c : Nat → Nat} (hw : wf S) (hf : full S) (hc : pol S U c) (i : Nat) (hi : i < cntB U) : sumI (rowP S U c i) (cntB U) = meanS S (4 * qOf U i + c (qOf U i)) (fun t => if U.testBit t = true then 1 else 0) := by
  have h10 : ∀ s, U.testBit s = true → s < 10 := fun s hs => Nat.lt_of_lt_of_le (hc s hs).1 (wf_n hw)
  rw [← rowsum (V := fun _ => 1) h10]
  exact sumI_congr (fun j _ => by rw [Int.mul_one]; rfl)
theorem lk_leak {U : Nat} {c : Nat → Nat} (hw : wf S) (hf : full S) (hc : pol S U c) (hL : lkS S U c) : leak (cntB U) (rowP S U c) := by
  have h10 : ∀ s, U.testBit s = true → s < 10 := fun s hs => Nat.lt_of_lt_of_le (hc s hs).1 (wf_n hw)
  have hx : ∀ i, i < cntB U → isA S (4 * qOf U i + c (qOf U i)) := fun i hi => pol_a hw hc (qOf_in hi).1
  refine ⟨fun i j _ _ => pU_nn _ _, fun i hi => ?_, fun C hC => ?_⟩
  · rw [rowP_sum hw hf hc i hi]
    have h1 := meanS_le (S := S) (x := 4 * qOf U i + c (qOf U i)) (u := fun t => if U.testBit t = true then 1 else 0) (v := fun _ => 1) (fun o _ => by show (if _ then (1 : Int) else 0) ≤ 1; split <;> omega)
    rw [meanS_const, hf _ (hx i hi)] at h1
    omega
  · obtain ⟨i0, hi0, hc0⟩ := hC
    obtain ⟨s, ⟨i, hi, hCi, hs⟩, o, ho, hn⟩ := hL (fun s => ∃ i, i < cntB U ∧ C i ∧ qOf U i = s) ⟨qOf U i0, i0, hi0, hc0, rfl⟩ (fun s ⟨i, hi, _, e⟩ => by rw [← e]; exact (qOf_in hi).1)
    subst hs
    refine ⟨i, hi, hCi, ?_⟩
    have hp := (wf_p hw (hx i hi) ho).1
    cases hb : U.testBit (sT S (4 * qOf U i + c (qOf U i)) o) with
    | true =>
      refine Or.inr ⟨cntU U (sT S (4 * qOf U i + c (qOf U i)) o), cntU_B hb (h10 _ hb), fun z => hn ⟨_, cntU_B hb (h10 _ hb), z, qOf_cnt hb (h10 _ hb)⟩, ?_⟩
      unfold rowP
      rw [qOf_cnt hb (h10 _ hb)]
      exact pU_pos ho rfl hp
    | false =>
      refine Or.inl ?_
      rw [rowP_sum hw hf hc i hi]
      have h1 : meanS S (4 * qOf U i + c (qOf U i)) (fun t => if U.testBit t = true then 1 else 0) < meanS S (4 * qOf U i + c (qOf U i)) (fun _ => 1) := by
        refine sumI_lt (fun o _ => Int.mul_le_mul_of_nonneg_left (by show (if _ then (1 : Int) else 0) ≤ 1; split <;> omega) (Int.natCast_nonneg _)) ho ?_
        refine Int.mul_lt_mul_of_pos_left ?_ (by omega)
        show (if U.testBit _ = true then (1 : Int) else 0) < 1
        rw [hb]
        decide
      rw [meanS_const, hf _ (hx i hi)] at h1
      omega
/-- what is right of the equations: parts that come to G -/
def toG (S : Sys) (G x : Nat) : Int := meanS S x (fun t => if G.testBit t = true then 1 else 0)
theorem toG_le {G x : Nat} (hw : wf S) (hx : isA S x) : 0 ≤ toG S G x ∧ toG S G x ≤ 12 := by
  constructor
  · exact sumI_nn (fun o _ => Int.mul_nonneg (Int.natCast_nonneg _) (by show 0 ≤ (if _ then (1 : Int) else 0); split <;> omega))
  · have h1 := meanS_le (S := S) (x := x) (u := fun t => if G.testBit t = true then 1 else 0) (v := fun _ => 1) (fun o _ => by show (if _ then (1 : Int) else 0) ≤ 1; split <;> omega)
    rw [meanS_const] at h1
    have := wf_ps hw hx
    unfold toG
    omega
/-- the solution over the STATES: N on U, D on G -/
def solW (S : Sys) (U G : Nat) (c : Nat → Nat) : Nat → Int := fun s => if U.testBit s = true then cr (mA (cntB U) (rowP S U c) (fun i => toG S G (4 * qOf U i + c (qOf U i)))) (cntB U) (cntU U s) (cntB U) else if G.testBit s = true then det (cntB U) (mA (cntB U) (rowP S U c) (fun i => toG S G (4 * qOf U i + c (qOf U i)))) else 0
def solD (S : Sys) (U G : Nat) (c : Nat → Nat) : Int := det (cntB U) (mA (cntB U) (rowP S U c) (fun i => toG S G (4 * qOf U i + c (qOf U i))))
theorem sol_eq {U G : Nat} {c : Nat → Nat} (hw : wf S) (hf : full S) (hc : pol S U c) (hL : lkS S U c) (hd : ∀ s, G.testBit s = true → U.testBit s = false) : 0 < solD S U G c ∧ ∀ s, U.testBit s = true → 12 * solW S U G c s = meanS S (4 * s + c s) (solW S U G c) := by
  have h10 : ∀ s, U.testBit s = true → s < 10 := fun s hs => Nat.lt_of_lt_of_le (hc s hs).1 (wf_n hw)
  have hlk := lk_leak hw hf hc hL
  refine ⟨mA_pos hlk _ (Nat.le_refl _), fun s hs => ?_⟩
  have hi := cntU_B hs (h10 s hs)
  have h1 := mA_sol (b := fun i => toG S G (4 * qOf U i + c (qOf U i))) hlk hi
  have hq := qOf_cnt hs (h10 s hs)
  have e1 : solW S U G c s = cr (mA (cntB U) (rowP S U c) (fun i => toG S G (4 * qOf U i + c (qOf U i)))) (cntB U) (cntU U s) (cntB U) := if_pos hs
  rw [e1, h1]
  have e2 : sumI (fun j => rowP S U c (cntU U s) j * cr (mA (cntB U) (rowP S U c) (fun i => toG S G (4 * qOf U i + c (qOf U i)))) (cntB U) j (cntB U)) (cntB U) = meanS S (4 * s + c s) (fun t => if U.testBit t = true then solW S U G c t else 0) := by
    rw [← rowsum h10]
    refine sumI_congr (fun j hj => ?_)
    have hqj := qOf_in hj
    have : solW S U G c (qOf U j) = cr (mA (cntB U) (rowP S U c) (fun i => toG S G (4 * qOf U i + c (qOf U i)))) (cntB U) j (cntB U) := by
      unfold solW
      rw [if_pos hqj.1, hqj.2.2]
    rw [this]
    unfold rowP
    rw [hq]
  rw [e2, hq]
  have e3 : det (cntB U) (mA (cntB U) (rowP S U c) (fun i => toG S G (4 * qOf U i + c (qOf U i)))) * toG S G (4 * s + c s) = meanS S (4 * s + c s) (fun t => solD S U G c * (if G.testBit t = true then 1 else 0)) := by
    rw [meanS_mul]
    rfl
  rw [e3, ← meanS_add]
  refine meanS_congr (fun o _ => ?_)
  generalize sT S (4 * s + c s) o = t
  unfold solW solD
  cases hb : U.testBit t with
  | true =>
    cases hg : G.testBit t with
    | true => have := hd t hg; rw [this] at hb; cases hb
    | false => simp
  | false =>
    cases hg : G.testBit t with
    | true => simp
    | false => simp
/-- the closure that the reference seeks: what may come to G by the choices c -/
def isCr (S : Sys) (B G : Nat) (c : Nat → Nat) (y : Nat) : Prop := bsub G y ∧ bsub y (B ||| G) ∧ (∀ s, s < sN S → B.testBit s = true → someInS S (4 * s + c s) y = true → y.testBit s = true) ∧ ∀ z, bsub G z → (∀ s, s < sN S → B.testBit s = true → someInS S (4 * s + c s) z = true → z.testBit s = true) → bsub y z
theorem isCr_lk {B G y : Nat} {c : Nat → Nat} (hc : pol S B c) (hG : sub_n G (sN S)) (hd : ∀ s, G.testBit s = true → B.testBit s = false) (h : isCr S B G c y) : lkS S (y &&& B) c := by
  intro C hC hCy
  obtain ⟨h1, h2, h3, h4⟩ := h
  apply Classical.byContradiction
  intro hno
  have hin : ∀ s, C s → y.testBit s = true ∧ B.testBit s = true := fun s hs => by have := hCy s hs; rw [Nat.testBit_and, Bool.and_eq_true] at this; exact this
  have hno2 : ∀ s, C s → ∀ o, o < sO S (4 * s + c s) → C (sT S (4 * s + c s) o) := fun s hs o ho => Classical.byContradiction (fun z => hno ⟨s, hs, o, ho, z⟩)
  have hyn : ∀ s, y.testBit s = true → s < sN S := by
    intro s hs
    have h5 := h2 s hs
    rw [Nat.testBit_or, Bool.or_eq_true] at h5
    rcases h5 with h5 | h5
    · exact (hc s h5).1
    · exact hG s h5
  obtain ⟨z, hz⟩ := bits_ex (fun s => y.testBit s = true ∧ ¬ C s) (sN S)
  have hyz : bsub y z := by
    refine h4 z (fun s hs => (hz s).mpr ⟨hG s hs, h1 s hs, fun hCs => ?_⟩) (fun s hs hB hsome => (hz s).mpr ⟨hs, h3 s hs hB (someIn_mono (fun i q => ((hz i).mp q).2.1) hsome), fun hCs => ?_⟩)
    · have := (hin s hCs).2
      rw [hd s hs] at this
      cases this
    · obtain ⟨o, ho, q⟩ := anyU_iff.mp hsome
      exact ((hz _).mp q).2.2 (hno2 s hCs o ho)
  obtain ⟨s, hs⟩ := hC
  exact ((hz s).mp (hyz s (hin s hs).1)).2.2 hs
theorem isCr_chance {B G y : Nat} {c : Nat → Nat} (hw : wf S) (hf : full S) (hc : pol S B c) (hG : sub_n G (sN S)) (hd : ∀ s, G.testBit s = true → B.testBit s = false) (h : isCr S B G c y) : chance S B G c (solW S (y &&& B) G c) (solD S (y &&& B) G c) := by
  have hlk := isCr_lk hc hG hd h
  have hpY : pol S (y &&& B) c := fun s hs => hc s (bsub_and_r _ _ s hs)
  have hdY : ∀ s, G.testBit s = true → (y &&& B).testBit s = false := fun s hs => by rw [Nat.testBit_and, hd s hs, Bool.and_false]
  obtain ⟨hD, hE⟩ := sol_eq hw hf hpY hlk hdY
  have hU : ∀ s, s < sN S → G.testBit s = true → solW S (y &&& B) G c s = solD S (y &&& B) G c := fun s _ hs => by
    unfold solW solD
    rw [if_neg (by rw [hdY s hs]; simp), if_pos hs]
  have h0 : ∀ s, s < sN S → G.testBit s = false → (y &&& B).testBit s = false → solW S (y &&& B) G c s = 0 := fun s _ hg hy => by
    unfold solW
    rw [if_neg (by rw [hy]; simp), if_neg (by rw [hg]; simp)]
  have hnn : ∀ s, s < sN S → 0 ≤ solW S (y &&& B) G c s := by
    have := maxS (B := y &&& B) (c := c) (y := fun s => 0 * solW S (y &&& B) G c s - 1 * solW S (y &&& B) G c s) hw hf hpY hlk (fun s hs hy => by
      cases hg : G.testBit s with
      | true => rw [hU s hs hg]; omega
      | false => rw [h0 s hs hg hy]; omega) (fun s hs _ => by
      rw [meanS_lin, ← hE s hs]
      omega)
    intro s hs
    have := this s hs
    omega
  refine ⟨hD, y &&& B, bsub_and_r _ _, hlk, hU, h0, hnn, fun s hs => ?_⟩
  cases hy : (y &&& B).testBit s with
  | true => exact hE s hy
  | false =>
    have hsn := (hc s hs).1
    have hgs : G.testBit s = false := by
      cases hg : G.testBit s with
      | false => rfl
      | true => rw [hd s hg] at hs; cases hs
    have hys : y.testBit s = false := by rw [Nat.testBit_and, hs, Bool.and_true] at hy; exact hy
    rw [h0 s hsn hgs hy, meanS_zero (fun o ho => ?_)]
    · rfl
    · have hx := pol_a hw hc hs
      have hty : y.testBit (sT S (4 * s + c s) o) = false := by
        cases q : y.testBit (sT S (4 * s + c s) o) with
        | false => rfl
        | true =>
          have := h.2.2.1 s hsn hs (anyU_iff.mpr ⟨o, ho, q⟩)
          rw [hys] at this
          cases this
      refine h0 _ (wf_t hw hx ho) ?_ (by rw [Nat.testBit_and, hty]; rfl)
      cases q : G.testBit (sT S (4 * s + c s) o) with
      | false => rfl
      | true => have := h.1 _ q; rw [hty] at this; cases this
/-- one chance alone -/
theorem chance_le {B U : Nat} {c c' : Nat → Nat} {W W' : Nat → Int} {E E' : Int} (hw : wf S) (hf : full S) (hc : pol S B c) (hcc : ∀ s, B.testBit s = true → c' s = c s) (h : chance S B U c W E) (h' : chance S B U c' W' E') : ∀ s, s < sN S → W s * E' ≤ W' s * E := by
  obtain ⟨hE, Y, hYB, hYl, w1, w2, w3, w4⟩ := h
  obtain ⟨hE', Y', hYB', hYl', w1', w2', w3', w4'⟩ := h'
  have key := maxS (B := Y) (c := c) (y := fun s => E' * W s - E * W' s) hw hf (fun s hs => hc s (hYB s hs)) hYl (fun s hs hY => by
    cases hU : U.testBit s with
    | true => rw [w1 s hs hU, w1' s hs hU]; grind
    | false =>
      rw [w2 s hs hU hY]
      have := Int.mul_nonneg (Int.le_of_lt hE) (w3' s hs)
      omega) (fun s hs _ => by
    have h1 := w4' s (hYB s hs)
    rw [hcc s (hYB s hs)] at h1
    rw [meanS_lin, ← w4 s (hYB s hs), ← h1]
    grind)
  intro s hs
  have := key s hs
  rw [Int.mul_comm (W s), Int.mul_comm (W' s)]
  omega
end M63
