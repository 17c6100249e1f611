/-! TWINS (wip/whole/src/80.twin.src) -/
/-- the first t below s that is like s -/
def fstT (p : Nat → Bool) : Nat → Option Nat
  | 0 => none
  | k + 1 => match fstT p k with
    | some t => some t
    | none => match p k with
      | true => some k
      | false => none
/-- numbers of classes: each STATE has that of the first that is like it -/
def num (p : Nat → Nat → Bool) : Nat → (Nat → Nat) × Nat
  | 0 => (fun _ => 0, 0)
  | k + 1 => match fstT (p k) k with
    | some t => (fun s => if s = k then (num p k).1 t else (num p k).1 s, (num p k).2)
    | none => (fun s => if s = k then (num p k).2 else (num p k).1 s, (num p k).2 + 1)
theorem fstT_some {p : Nat → Bool} {k t : Nat} (h : fstT p k = some t) : t < k ∧ p t = true := by
  induction k with
  | zero => cases h
  | succ k ih =>
    simp only [fstT] at h
    cases hk : fstT p k with
    | some u =>
      rw [hk] at h
      injection h with h
      subst h
      have := ih hk
      exact ⟨by omega, this.2⟩
    | none =>
      rw [hk] at h
      cases hp : p k with
      | true => rw [hp] at h; injection h with h; subst h; exact ⟨by omega, hp⟩
      | false => rw [hp] at h; cases h
theorem fstT_none {p : Nat → Bool} {k : Nat} : fstT p k = none ↔ ∀ t, t < k → p t = false := by
  induction k with
  | zero => exact ⟨fun _ t ht => by omega, fun _ => rfl⟩
  | succ k ih =>
    simp only [fstT]
    cases hk : fstT p k with
    | some u =>
      have := fstT_some hk
      refine ⟨fun h => (by cases h), fun h => ?_⟩
      rw [h u (by omega)] at this
      cases this.2
    | none =>
      have h1 := ih.mp hk
      cases hp : p k with
      | true => exact ⟨fun h => (by cases h), fun h => (by rw [h k (by omega)] at hp; cases hp)⟩
      | false =>
        refine ⟨fun _ t ht => ?_, fun _ => rfl⟩
        rcases Nat.lt_or_ge t k with q | q
        · exact h1 t q
        · rw [show t = k by omega]; exact hp
theorem fstT_congr {p q : Nat → Bool} {k : Nat} (h : ∀ t, t < k → p t = q t) : fstT p k = fstT q k := by
  induction k with
  | zero => rfl
  | succ k ih => simp only [fstT]; rw [ih (fun t ht => h t (by omega)), h k (by omega)]
theorem num_old {p : Nat → Nat → Bool} {k s : Nat} (h : s < k) : (num p (k + 1)).1 s = (num p k).1 s := by
  simp only [num]
  split
  · exact if_neg (by omega)
  · exact if_neg (by omega)
theorem num_up {p : Nat → Nat → Bool} {k n s : Nat} (h : s < k) (hk : k ≤ n) : (num p n).1 s = (num p k).1 s := by
  induction n with
  | zero => omega
  | succ n ih =>
    rcases Nat.lt_or_ge k (n + 1) with q | q
    · rw [num_old (by omega)]; exact ih (by omega)
    · rw [show k = n + 1 by omega]
theorem num_congr {p q : Nat → Nat → Bool} {n : Nat} (h : ∀ s t, s < n → t < s → p s t = q s t) : num p n = num q n := by
  induction n with
  | zero => rfl
  | succ n ih =>
    simp only [num]
    rw [ih (fun s t hs ht => h s t (by omega) ht), fstT_congr (h n · (by omega))]
/-- p is an equivalence among 0 .. n - 1 -/
def eqv0 (p : Nat → Nat → Bool) (n : Nat) : Prop := (∀ s, s < n → p s s = true) ∧ (∀ s t, s < n → t < n → p s t = true → p t s = true) ∧ ∀ s t u, s < n → t < n → u < n → p s t = true → p t u = true → p s u = true
theorem num_spec {p : Nat → Nat → Bool} {n : Nat} (he : eqv0 p n) : ∀ k, k ≤ n → (∀ s, s < k → (num p k).1 s < (num p k).2) ∧ ∀ s t, s < k → t < k → ((num p k).1 s = (num p k).1 t ↔ p s t = true) := by
  intro k
  induction k with
  | zero => intro _; exact ⟨fun s hs => by omega, fun s t hs => by omega⟩
  | succ k ih =>
    intro hk
    obtain ⟨h1, h2⟩ := ih (by omega)
    cases hf : fstT (p k) k with
    | some t =>
      obtain ⟨ht, hpt⟩ := fstT_some hf
      have e : num p (k + 1) = (fun s => if s = k then (num p k).1 t else (num p k).1 s, (num p k).2) := by simp only [num, hf]
      rw [e]
      have val : ∀ s, s < k + 1 → ∃ s', s' < k ∧ (if s = k then (num p k).1 t else (num p k).1 s) = (num p k).1 s' ∧ p s s' = true := by
        intro s hs
        by_cases hsk : s = k
        · rw [if_pos hsk, hsk]; exact ⟨t, ht, rfl, hpt⟩
        · rw [if_neg hsk]; exact ⟨s, by omega, rfl, he.1 s (by omega)⟩
      refine ⟨fun s hs => ?_, fun s u hs hu => ?_⟩
      · obtain ⟨s', q1, q2, _⟩ := val s hs
        show (if s = k then _ else _) < _
        rw [q2]; exact h1 s' q1
      · obtain ⟨s', q1, q2, q3⟩ := val s hs
        obtain ⟨u', r1, r2, r3⟩ := val u hu
        show (if s = k then _ else _) = (if u = k then _ else _) ↔ _
        rw [q2, r2, h2 s' u' q1 r1]
        constructor
        · intro h; exact he.2.2 s s' u (by omega) (by omega) (by omega) q3 (he.2.2 s' u' u (by omega) (by omega) (by omega) h (he.2.1 u u' (by omega) (by omega) r3))
        · intro h; exact he.2.2 s' s u' (by omega) (by omega) (by omega) (he.2.1 s s' (by omega) (by omega) q3) (he.2.2 s u u' (by omega) (by omega) (by omega) h r3)
    | none =>
      have hn := fstT_none.mp hf
      have e : num p (k + 1) = (fun s => if s = k then (num p k).2 else (num p k).1 s, (num p k).2 + 1) := by simp only [num, hf]
      rw [e]
      refine ⟨fun s hs => ?_, fun s u hs hu => ?_⟩
      · show (if s = k then _ else _) < _
        split
        · omega
        · have := h1 s (by omega); omega
      · show (if s = k then _ else _) = (if u = k then _ else _) ↔ _
        by_cases hsk : s = k
        · by_cases huk : u = k
          · rw [if_pos hsk, if_pos huk, hsk, huk]
            exact ⟨fun _ => he.1 k (by omega), fun _ => rfl⟩
          · rw [if_pos hsk, if_neg huk, hsk]
            have := h1 u (by omega)
            refine ⟨fun z => by omega, fun z => ?_⟩
            rw [hn u (by omega)] at z; cases z
        · by_cases huk : u = k
          · rw [if_neg hsk, if_pos huk, huk]
            have := h1 s (by omega)
            refine ⟨fun z => by omega, fun z => ?_⟩
            have z2 := he.2.1 s k (by omega) (by omega) z
            rw [hn s (by omega)] at z2; cases z2
          · rw [if_neg hsk, if_neg huk]
            exact h2 s u (by omega) (by omega)
/-- how many are like nobody before -/
theorem num_cnt (p : Nat → Nat → Bool) : ∀ n, (num p n).2 = sumU (fun s => (fstT (p s) s).isNone.toNat) n := by
  intro n
  induction n with
  | zero => rfl
  | succ n ih =>
    simp only [sumU]
    cases hf : fstT (p n) n with
    | some t => simp only [num, hf]; rw [ih]; rfl
    | none => simp only [num, hf]; rw [ih]; rfl
/-- if a finer one counts as many, it is no finer -/
theorem num_same {p q : Nat → Nat → Bool} {n : Nat} (hp : eqv0 p n) (hq : eqv0 q n) (hr : ∀ s t, s < n → t < n → q s t = true → p s t = true) (hc : (num q n).2 = (num p n).2) : ∀ s t, s < n → t < n → p s t = true → q s t = true := by
  -- who is like nobody before by p is so by q, and by the count the other way round
  have hrep : ∀ s, s < n → fstT (q s) s = none → fstT (p s) s = none := by
    intro s hs h
    apply Classical.byContradiction
    intro hne
    have hlt : sumU (fun s => (fstT (p s) s).isNone.toNat) n < sumU (fun s => (fstT (q s) s).isNone.toNat) n := by
      refine sumU_lt (fun i hi => ?_) hs ?_
      · cases hpi : fstT (p i) i with
        | some t => simp
        | none =>
          have h1 := fstT_none.mp hpi
          have h2 : fstT (q i) i = none := fstT_none.mpr (fun t ht => by
            cases hqt : q i t with
            | false => rfl
            | true => have := hr i t hi (by omega) hqt; rw [h1 t ht] at this; cases this)
          rw [h2]; exact Nat.le_refl _
      · rw [h]
        cases hpi : fstT (p s) s with
        | some t => exact (by decide : 0 < 1)
        | none => exact absurd hpi hne
    rw [← num_cnt, ← num_cnt] at hlt
    omega
  -- by the first: s and the first of its class
  have key : ∀ s, s < n → ∀ t, t < s → p s t = true → (∀ u, u < t → p s u = false) → q s t = true := by
    intro s
    induction s using Nat.strongRecOn with
    | _ s ih =>
      intro hs t ht hpt hmin
      cases hf : fstT (q s) s with
      | none =>
        have := fstT_none.mp (hrep s hs hf) t ht
        rw [hpt] at this; cases this
      | some v =>
        obtain ⟨hv, hqv⟩ := fstT_some hf
        have hpv := hr s v hs (by omega) hqv
        by_cases hvt : v = t
        · rw [← hvt]; exact hqv
        · have hpvt := hp.2.2 v s t (by omega) hs (by omega) (hp.2.1 s v hs (by omega) hpv) hpt
          have htv : t < v := by
            rcases Nat.lt_or_ge v t with z | z
            · rw [hmin v z] at hpv; cases hpv
            · omega
          have hmin2 : ∀ u, u < t → p v u = false := by
            intro u hu
            cases hpu : p v u with
            | false => rfl
            | true =>
              have := hp.2.2 s v u hs (by omega) (by omega) hpv hpu
              rw [hmin u hu] at this; cases this
          exact hq.2.2 s v t hs (by omega) (by omega) hqv (ih v hv (by omega) t htv hpvt hmin2)
  -- the first of a class
  have hfst : ∀ s, s < n → ∃ t, t ≤ s ∧ p s t = true ∧ (∀ u, u < t → p s u = false) ∧ q s t = true := by
    intro s hs
    cases hf : fstT (p s) s with
    | none => exact ⟨s, Nat.le_refl _, hp.1 s hs, fun u hu => fstT_none.mp hf u hu, hq.1 s hs⟩
    | some t =>
      obtain ⟨ht, hpt⟩ := fstT_some hf
      have hex : ∃ t, t < s ∧ p s t = true ∧ ∀ u, u < t → p s u = false := by
        have : ∀ k, k ≤ s → (∃ t, t < s ∧ p s t = true ∧ ∀ u, u < t → p s u = false) ∨ ∀ u, u < k → p s u = false := by
          intro k
          induction k with
          | zero => intro _; exact Or.inr (fun u hu => by omega)
          | succ k ihk =>
            intro hk
            rcases ihk (by omega) with z | z
            · exact Or.inl z
            · cases hpk : p s k with
              | true => exact Or.inl ⟨k, by omega, hpk, z⟩
              | false =>
                refine Or.inr (fun u hu => ?_)
                rcases Nat.lt_or_ge u k with y | y
                · exact z u y
                · rw [show u = k by omega]; exact hpk
        rcases this s (Nat.le_refl _) with z | z
        · exact z
        · rw [z t ht] at hpt; cases hpt
      obtain ⟨t', h1, h2, h5⟩ := hex
      exact ⟨t', by omega, h2, h5, key s hs t' h1 h2 h5⟩
  intro s t hs ht hpst
  obtain ⟨a, a1, a2, a3, a4⟩ := hfst s hs
  obtain ⟨b, b1, b2, b3, b4⟩ := hfst t ht
  have hab : a = b := by
    have h1 := hp.2.2 s t b hs ht (by omega) hpst b2
    have h2 := hp.2.2 t s a ht hs (by omega) (hp.2.1 s t hs ht hpst) a2
    rcases Nat.lt_or_ge a b with z | z
    · rw [b3 a z] at h2; cases h2
    · rcases Nat.lt_or_ge b a with y | y
      · rw [a3 b y] at h1; cases h1
      · omega
  subst hab
  exact hq.2.2 s a t hs (by omega) ht a4 (hq.2.1 t a ht (by omega) b4)
section M80
variable {S : Sys}
def partC (S : Sys) (c : Nat → Nat) (x k : Nat) : Nat := sumU (fun o => if c (sT S x o) = k then sP S x o else 0) (sO S x)
def likeX (S : Sys) (c : Nat → Nat) (x y : Nat) : Bool := decide (sC S x = sC S y) && (decide (sK S x = 2) == decide (sK S y = 2)) && allU (fun k => decide (partC S c x k = partC S c y k)) 10
def covS (S : Sys) (c : Nat → Nat) (s t : Nat) : Bool := allU (fun a => anyU (fun b => likeX S c (4 * s + a) (4 * t + b)) (sA S t)) (sA S s)
def twS (S : Sys) (c : Nat → Nat) (s t : Nat) : Bool := decide (c s = c t) && covS S c s t && covS S c t s
theorem like_iff {c : Nat → Nat} {x y : Nat} : likeX S c x y = true ↔ sC S x = sC S y ∧ (sK S x = 2 ↔ sK S y = 2) ∧ ∀ k, k < 10 → partC S c x k = partC S c y k := by
  unfold likeX
  rw [Bool.and_eq_true, Bool.and_eq_true, decide_eq_true_iff, allU_iff, and_assoc]
  refine and_congr Iff.rfl (and_congr ?_ ⟨fun h k hk => of_decide_eq_true (h k hk), fun h k hk => decide_eq_true (h k hk)⟩)
  rw [beq_iff_eq, decide_eq_decide]
theorem like_rfl (c : Nat → Nat) (x : Nat) : likeX S c x x = true := like_iff.mpr ⟨rfl, Iff.rfl, fun _ _ => rfl⟩
theorem like_symm {c : Nat → Nat} {x y : Nat} (h : likeX S c x y = true) : likeX S c y x = true := by
  obtain ⟨h1, h2, h3⟩ := like_iff.mp h
  exact like_iff.mpr ⟨h1.symm, h2.symm, fun k hk => (h3 k hk).symm⟩
theorem like_trans {c : Nat → Nat} {x y z : Nat} (h : likeX S c x y = true) (h' : likeX S c y z = true) : likeX S c x z = true := by
  obtain ⟨h1, h2, h3⟩ := like_iff.mp h
  obtain ⟨k1, k2, k3⟩ := like_iff.mp h'
  exact like_iff.mpr ⟨h1.trans k1, h2.trans k2, fun k hk => (h3 k hk).trans (k3 k hk)⟩
theorem cov_rfl (c : Nat → Nat) (s : Nat) : covS S c s s = true := allU_iff.mpr (fun a ha => anyU_iff.mpr ⟨a, ha, like_rfl c _⟩)
theorem cov_trans {c : Nat → Nat} {s t u : Nat} (h : covS S c s t = true) (h' : covS S c t u = true) : covS S c s u = true := by
  refine allU_iff.mpr (fun a ha => ?_)
  obtain ⟨b, hb, e⟩ := anyU_iff.mp (allU_iff.mp h a ha)
  obtain ⟨b', hb', e'⟩ := anyU_iff.mp (allU_iff.mp h' b hb)
  exact anyU_iff.mpr ⟨b', hb', like_trans e e'⟩
theorem tw_iff {c : Nat → Nat} {s t : Nat} : twS S c s t = true ↔ c s = c t ∧ covS S c s t = true ∧ covS S c t s = true := by
  unfold twS
  rw [Bool.and_eq_true, Bool.and_eq_true, decide_eq_true_iff, and_assoc]
theorem tw_eqv (c : Nat → Nat) (n : Nat) : eqv0 (twS S c) n := by
  refine ⟨fun s _ => tw_iff.mpr ⟨rfl, cov_rfl c s, cov_rfl c s⟩, fun s t _ _ h => ?_, fun s t u _ _ _ h h' => ?_⟩
  · obtain ⟨h1, h2, h3⟩ := tw_iff.mp h
    exact tw_iff.mpr ⟨h1.symm, h3, h2⟩
  · obtain ⟨h1, h2, h3⟩ := tw_iff.mp h
    obtain ⟨k1, k2, k3⟩ := tw_iff.mp h'
    exact tw_iff.mpr ⟨h1.trans k1, cov_trans h2 k2, cov_trans k3 h3⟩
theorem tw_congr (hw : wf S) {c c' : Nat → Nat} (h : ∀ s, s < sN S → c s = c' s) {s t : Nat} (hs : s < sN S) (ht : t < sN S) : twS S c s t = twS S c' s t := by
  have hp : ∀ x k, isA S x → partC S c x k = partC S c' x k := fun x k hx => sumU_congr (fun o ho => by rw [h _ (wf_t hw hx ho)])
  have hl : ∀ x y, isA S x → isA S y → likeX S c x y = likeX S c' x y := by
    intro x y hx hy
    unfold likeX
    congr 1
    exact allU_congr (fun k _ => by rw [hp x k hx, hp y k hy])
  have hcv : ∀ s t, s < sN S → t < sN S → covS S c s t = covS S c' s t := by
    intro s t hs ht
    have h4 := wf_a hw hs
    have h5 := wf_a hw ht
    exact allU_congr (fun a ha => anyU_congr (fun b hb => hl _ _ (isA_mk hs ha (by omega)) (isA_mk ht hb (by omega))))
  unfold twS
  rw [h s hs, h t ht, hcv s t hs ht, hcv t s ht hs]
/-- the classes after r rounds, and how many they are -/
def clsR (S : Sys) : Nat → Nat → Nat
  | 0, s => ((sM S).testBit s).toNat
  | r + 1, s => (num (twS S (clsR S r)) (sN S)).1 s
def cntR (S : Sys) : Nat → Nat
  | 0 => 0
  | r + 1 => (num (twS S (clsR S r)) (sN S)).2
theorem cnt_n (p : Nat → Nat → Bool) (n : Nat) : (num p n).2 ≤ n := by
  rw [num_cnt]
  have := sumU_le (f := fun s => (fstT (p s) s).isNone.toNat) (n := n) (c := 1) (fun i _ => Bool.toNat_le _)
  omega
theorem cls_lt (hw : wf S) (r s : Nat) (hs : s < sN S) : clsR S r s < 10 := by
  have h3 := wf_n hw
  cases r with
  | zero => simp only [clsR]; cases (sM S).testBit s <;> decide
  | succ r =>
    have h1 := (num_spec (tw_eqv (S := S) (clsR S r) (sN S)) (sN S) (Nat.le_refl _)).1 s hs
    have h2 := cnt_n (twS S (clsR S r)) (sN S)
    simp only [clsR]
    omega
/-- once the count stands, all stands -/
theorem cls_stop (hw : wf S) {r : Nat} (h : cntR S (r + 1) = cntR S r) : (∀ s, s < sN S → clsR S (r + 1) s = clsR S r s) := by
  cases r with
  | zero =>
    intro s hs
    exfalso
    have h1 := (num_spec (tw_eqv (S := S) (clsR S 0) (sN S)) (sN S) (Nat.le_refl _)).1 s hs
    simp only [cntR] at h
    omega
  | succ r =>
    have e1 := tw_eqv (S := S) (clsR S r) (sN S)
    have e2 := tw_eqv (S := S) (clsR S (r + 1)) (sN S)
    have hcls : ∀ s t, s < sN S → t < sN S → (clsR S (r + 1) s = clsR S (r + 1) t ↔ twS S (clsR S r) s t = true) := (num_spec e1 (sN S) (Nat.le_refl _)).2
    have hfin : ∀ s t, s < sN S → t < sN S → twS S (clsR S (r + 1)) s t = true → twS S (clsR S r) s t = true := fun s t hs ht h2 => (hcls s t hs ht).mp (tw_iff.mp h2).1
    have hsm := num_same e1 e2 hfin h
    have heq : num (twS S (clsR S (r + 1))) (sN S) = num (twS S (clsR S r)) (sN S) := num_congr (fun s t hs ht => by
      cases h1 : twS S (clsR S r) s t with
      | true => exact hsm s t hs (by omega) h1
      | false =>
        cases h2 : twS S (clsR S (r + 1)) s t with
        | false => rfl
        | true => rw [hfin s t hs (by omega) h2] at h1; cases h1)
    intro s hs
    simp only [clsR]
    rw [show (fun s => (num (twS S (clsR S r)) (sN S)).1 s) = clsR S (r + 1) from rfl] at *
    exact congrFun (congrArg Prod.fst heq) s
theorem cls_stay (hw : wf S) {r : Nat} (h : cntR S (r + 1) = cntR S r) : ∀ k, (∀ s, s < sN S → clsR S (r + k) s = clsR S r s) ∧ cntR S (r + k) = cntR S r := by
  have h0 := cls_stop hw h
  intro k
  induction k with
  | zero => exact ⟨fun _ _ => rfl, rfl⟩
  | succ k ih =>
    have hn : num (twS S (clsR S (r + k))) (sN S) = num (twS S (clsR S r)) (sN S) := num_congr (fun s t hs ht => tw_congr hw ih.1 hs (by omega))
    refine ⟨fun s hs => ?_, ?_⟩
    · show (num (twS S (clsR S (r + k))) (sN S)).1 s = _
      rw [hn]; exact h0 s hs
    · show (num (twS S (clsR S (r + k))) (sN S)).2 = _
      rw [hn]; exact h
/-! faces: four bits a class -/
def dig (d : Nat → Nat) : Nat → Nat
  | 0 => 0
  | n + 1 => dig d n + d n * 16 ^ n
theorem dig_lt {d : Nat → Nat} {n : Nat} (h : ∀ k, k < n → d k < 16) : dig d n < 16 ^ n := by
  induction n with
  | zero => show 0 < 1; decide
  | succ n ih =>
    have h1 := ih (fun k hk => h k (by omega))
    have h2 := h n (by omega)
    simp only [dig, Nat.pow_succ]
    have h3 : d n * 16 ^ n ≤ 15 * 16 ^ n := Nat.mul_le_mul_right _ (by omega)
    omega
theorem dig_inj {d e : Nat → Nat} {n : Nat} (hd : ∀ k, k < n → d k < 16) (he : ∀ k, k < n → e k < 16) (h : dig d n = dig e n) : ∀ k, k < n → d k = e k := by
  induction n with
  | zero => intro k hk; omega
  | succ n ih =>
    have h1 := dig_lt (d := d) (n := n) (fun k hk => hd k (by omega))
    have h2 := dig_lt (d := e) (n := n) (fun k hk => he k (by omega))
    simp only [dig] at h
    have hq : d n = e n := by
      have a : (dig d n + d n * 16 ^ n) / 16 ^ n = d n := by rw [Nat.add_mul_div_right _ _ (Nat.pow_pos (by decide)), Nat.div_eq_of_lt h1, Nat.zero_add]
      have b : (dig e n + e n * 16 ^ n) / 16 ^ n = e n := by rw [Nat.add_mul_div_right _ _ (Nat.pow_pos (by decide)), Nat.div_eq_of_lt h2, Nat.zero_add]
      rw [← a, ← b, h]
    rw [hq] at h
    have h3 := ih (fun k hk => hd k (by omega)) (fun k hk => he k (by omega)) (by omega)
    intro k hk
    rcases Nat.lt_or_ge k n with q | q
    · exact h3 k q
    · rw [show k = n by omega]; exact hq
theorem dig_add (d e : Nat → Nat) (n : Nat) : dig (fun k => d k + e k) n = dig d n + dig e n := by
  induction n with
  | zero => rfl
  | succ n ih => simp only [dig]; rw [ih, Nat.add_mul]; omega
theorem dig_one {c v : Nat} : ∀ n, c < n → dig (fun k => if c = k then v else 0) n = v * 16 ^ c := by
  intro n
  induction n with
  | zero => intro h; omega
  | succ n ih =>
    intro h
    simp only [dig]
    rcases Nat.lt_or_ge c n with q | q
    · rw [ih q, if_neg (by omega)]; omega
    · have hcn : c = n := by omega
      subst hcn
      have : ∀ k, k ≤ c → dig (fun k => if c = k then v else 0) k = 0 := by
        intro k
        induction k with
        | zero => intro _; rfl
        | succ k ih2 => intro hk; simp only [dig]; rw [ih2 (by omega), if_neg (by omega)]; omega
      rw [this c (Nat.le_refl _), if_pos rfl]
      omega
theorem dig_zero (n : Nat) : dig (fun _ => 0) n = 0 := by
  induction n with
  | zero => rfl
  | succ n ih => simp only [dig]; rw [ih]; omega
/-- the lower part of a face -/
def lowF (S : Sys) (c : Nat → Nat) (x : Nat) : Nat → Nat := sumU (fun o => sP S x o * 16 ^ c (sT S x o))
theorem lowF_dig {c : Nat → Nat} {x : Nat} : ∀ n, (∀ o, o < n → c (sT S x o) < 10) → lowF S c x n = dig (fun k => sumU (fun o => if c (sT S x o) = k then sP S x o else 0) n) 10 := by
  intro n
  induction n with
  | zero => intro _; exact (dig_zero 10).symm
  | succ n ih =>
    intro h
    show lowF S c x n + sP S x n * 16 ^ c (sT S x n) = _
    rw [ih (fun o ho => h o (by omega)), ← dig_one 10 (h n (by omega)), ← dig_add]
    rfl
def faceN (S : Sys) (c : Nat → Nat) (x : Nat) : Nat := ((decide (sK S x = 2)).toNat * 1024 + sC S x) * 2 ^ 40 + lowF S c x (sO S x)
theorem hi_lo {a b a' b' : Nat} (hb : b < 2 ^ 40) (hb' : b' < 2 ^ 40) (h : a * 2 ^ 40 + b = a' * 2 ^ 40 + b') : a = a' ∧ b = b' := by omega
theorem hi_lt {a b : Nat} (ha : a < 4096) (hb : b < 2 ^ 40) : a * 2 ^ 40 + b < 2 ^ 52 := by omega
theorem face_iff (hw : wf S) {c : Nat → Nat} (hc : ∀ s, s < sN S → c s < 10) {x y : Nat} (hx : isA S x) (hy : isA S y) : faceN S c x = faceN S c y ↔ likeX S c x y = true := by
  rw [like_iff]
  have lx : lowF S c x (sO S x) = dig (partC S c x) 10 := lowF_dig _ (fun o ho => hc _ (wf_t hw hx ho))
  have ly : lowF S c y (sO S y) = dig (partC S c y) 10 := lowF_dig _ (fun o ho => hc _ (wf_t hw hy ho))
  have small : ∀ z, isA S z → ∀ k, k < 10 → partC S c z k < 16 := by
    intro z hz k _
    have h1 := sumU_mono2 (f := fun o => if c (sT S z o) = k then sP S z o else 0) (g := sP S z) (n := sO S z) (fun o _ => by split <;> omega)
    have h2 := wf_ps hw hz
    unfold partC partsS at *
    omega
  have bx : dig (partC S c x) 10 < 2 ^ 40 := dig_lt (small x hx)
  have by' : dig (partC S c y) 10 < 2 ^ 40 := dig_lt (small y hy)
  have cx := wf_c hw hx
  have cy := wf_c hw hy
  unfold faceN
  rw [lx, ly]
  constructor
  · intro h
    obtain ⟨h1, h2⟩ := hi_lo bx by' h
    clear h bx by'
    have tx := Bool.toNat_le (decide (sK S x = 2))
    have ty := Bool.toNat_le (decide (sK S y = 2))
    have h5 : (decide (sK S x = 2)).toNat = (decide (sK S y = 2)).toNat := by omega
    refine ⟨by omega, ?_, dig_inj (small x hx) (small y hy) h2⟩
    have h6 : decide (sK S x = 2) = decide (sK S y = 2) := by
      cases h7 : decide (sK S x = 2) <;> cases h8 : decide (sK S y = 2) <;> rw [h7, h8] at h5 <;> first | rfl | cases h5
    exact decide_eq_decide.mp h6
  · rintro ⟨h1, h2, h3⟩
    rw [h1, decide_eq_decide.mpr h2]
    congr 1
    have : ∀ n, n ≤ 10 → dig (partC S c x) n = dig (partC S c y) n := by
      intro n
      induction n with
      | zero => intro _; rfl
      | succ n ih => intro hn; simp only [dig]; rw [ih (by omega), h3 n (by omega)]
    exact this 10 (Nat.le_refl _)
theorem face_lt (hw : wf S) {c : Nat → Nat} (hc : ∀ s, s < sN S → c s < 10) {x : Nat} (hx : isA S x) : faceN S c x < 2 ^ 52 := by
  have lx : lowF S c x (sO S x) = dig (partC S c x) 10 := lowF_dig _ (fun o ho => hc _ (wf_t hw hx ho))
  have bx : dig (partC S c x) 10 < 2 ^ 40 := dig_lt (fun k _ => by
    have h1 := sumU_mono2 (f := fun o => if c (sT S x o) = k then sP S x o else 0) (g := sP S x) (n := sO S x) (fun o _ => by split <;> omega)
    have h2 := wf_ps hw hx
    unfold partC partsS at *
    omega)
  have cx := wf_c hw hx
  have tx := Bool.toNat_le (decide (sK S x = 2))
  unfold faceN
  rw [lx]
  refine hi_lt ?_ bx
  clear bx lx
  omega
end M80
