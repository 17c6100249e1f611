/-! CONTRACTS (1): leaves -/
theorem isB0 : isB (nI 0) := Or.inl rfl
theorem isB1 : isB (nI 1) := Or.inr rfl
theorem i_lt (a b : Int32) : a < b ↔ a.toInt < b.toInt := Int32.lt_iff_toInt_lt
theorem i_le (a b : Int32) : a ≤ b ↔ a.toInt ≤ b.toInt := Int32.le_iff_toInt_le
theorem inb_nI {n N : Nat} (h : n < N) (hN : N < 2 ^ 31) : inb (nI n) N := vp_in_nI h hN
theorem cl_nI {n : Nat} (h : n < 1000) : (nI n).toNatClampNeg = n := nI_clamp (by omega)
/-- a truth as an int -/
def bI (c : Bool) : Int32 := match c with
  | true => nI 1
  | false => nI 0
section L31
variable {xs : Nat × (Nat → Int32)} {d : Nat} {Q : Option v2 → Mem → Prop}
/-- World.actAt(s, a) -/
theorem c_actAt (m : Mem) (s a : Nat) (hs : s < 10) (ha : a < 4) (hQ : Q (some (vR 4 (4 * s + a))) m) : callW2 xs (d + 1) 62 [vR 1 0, vI (nI s), vI (nI a)] m Q := by
  refine eX10_actAt m _ _ (W2_st (bX10_actAt_0 m _ _ ?_))
  have e : nI s * nI 4 + nI a = nI (4 * s + a) := by rw [pk_mul, nI_add]; congr 1; omega
  rw [e, cl_nI (by omega)]
  exact ⟨inb_nI (by omega) (by omega), hQ⟩
/-- World.hasState(p) -/
theorem c_hasState (m : Mem) (p : Int32) (n : Nat) (hn : m.1 1 0 0 = nI n) (h10 : n ≤ 10) (hQ : Q (some (vI (bI (decide (0 ≤ p.toInt ∧ p.toInt < n))))) m) : callW2 xs (d + 1) 60 [vR 1 0, vI p] m Q := by
  refine eX10_hasState m _ (W2_st (bX10_hasState_0 m _ ⟨fun h => ⟨isB0, ?_⟩, fun h => ⟨fun h2 => ⟨isB0, ?_⟩, fun h2 => ⟨isB1, ?_⟩⟩⟩))
  · rw [i_lt] at h
    rw [decide_eq_false (by intro z; exact absurd z.1 (by simpa using h))] at hQ
    exact hQ
  · rw [i_le, hn, nI_toInt (by omega)] at h2
    rw [decide_eq_false (by omega)] at hQ
    exact hQ
  · rw [i_le, hn, nI_toInt (by omega)] at h2
    rw [i_lt] at h
    have h0 : (0 : Int32).toInt = 0 := rfl
    rw [h0] at h
    rw [decide_eq_true (by omega)] at hQ
    exact hQ
/-- Act.mean(numbers): the first o OUTCOMES' part -/
def meanF (m : Mem) (x l : Nat) : Nat → Int64
  | 0 => lN 0
  | o + 1 => meanF m x l o + (m.1 6 x o).toInt64 * m.2 15 l (m.1 5 x o).toNatClampNeg
theorem c_mean (m : Mem) (x l oc : Nat) (hoc : m.1 4 x 2 = nI oc) (h4 : oc ≤ 4) (hto : ∀ o, o < oc → inb (m.1 5 x o) 10) (hQ : Q (some (vL (meanF m x l oc))) m) : callW2 xs (d + 1) 7 [vR 4 x, vR 15 l] m Q := by
  refine eX0_mean m x l (W2_st (bX0_mean_0 m x l ?_))
  have key : ∀ k o, o + k = oc → W2 xs (callW2 xs d) tX0_mean [4] (some .long) Q 4 [some (vR 4 x), some (vR 15 l), some (vL (meanF m x l o)), none, some (vI (nI o))] [] m := by
    intro k
    induction k with
    | zero =>
      intro o e
      refine W2_st (bX0_mean_4 m x l _ _ ⟨fun _ => ?_, fun h => ?_⟩)
      · rw [show o = oc by omega]; exact hQ
      · exact absurd (by rw [hoc]; exact nI_le (by omega) (by omega)) h
    | succ k ih =>
      intro o e
      refine W2_st (bX0_mean_4 m x l _ _ ⟨fun h => ?_, fun h => ?_⟩)
      · rw [hoc] at h; exact absurd h (nI_ge (by omega) (by omega))
      · rw [cl_nI (by omega), nI_add]
        exact ⟨inb_nI (by omega) (by omega), inb_nI (by omega) (by omega), hto o (by omega), ih (o + 1) (by omega)⟩
  exact key oc 0 (by omega)
end L31
