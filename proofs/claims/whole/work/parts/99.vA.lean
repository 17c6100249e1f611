/-! WHAT HOLDS BETWEEN CALLS (wip/whole/src/99.vA.src) -/
section L99VA
variable {m m' : Mem} {S : Sys} {ver : Nat} {H : Shv} {T : Nat → Nat → Prop}
theorem HO_off {l : Bool} {i : Nat} (h : off T m m') (h18 : ¬ T 18 i) (h20 : ¬ T 20 i) (h15 : ∀ k, k < 11 → ¬ T 15 (3 + 11 * i + k)) (hO : HO m S ver l i) : HO m' S ver l i := by
  obtain ⟨a, q1, q2, q3, q4⟩ := hO
  refine ⟨a, q1, by rw [(h 18 i h18).1]; exact q2, by rw [(h 18 i h18).1]; exact q3, fun z k hk => ?_⟩
  rw [(h 20 i h20).2, (h 15 _ (h15 k hk)).2]
  exact q4 z k hk
theorem PR_off (h : off T m m') (h7 : m'.1 7 0 8 = m.1 7 0 8) (h21 : ¬ T 21 0) (h15 : ¬ T 15 2) (hP : PR m S ver) : PR m' S ver := by
  unfold PR pricesOK at hP ⊢
  rw [h7, (h 21 0 h21).1, (h 21 0 h21).2, (h 15 2 h15).2]
  exact hP
theorem HL_off (h : off T m m') (h22 : ¬ T 22 0) (h25 : ¬ T 25 0) (hP : HL m S ver) : HL m' S ver := by
  unfold HL holesOK at hP ⊢
  rw [(h 22 0 h22).1, (h 25 0 h25).1]
  exact hP
theorem TW_off (h : off T m m') (h26 : ¬ T 26 0) (h29 : ¬ T 29 0) (hP : TW m S ver) : TW m' S ver := by
  unfold TW twinsOK at hP ⊢
  rw [(h 26 0 h26).1, (h 29 0 h29).1]
  exact hP
theorem GC_off (h : off T m m') (h16 : ¬ T 16 0) (h17 : ¬ T 17 0) (hP : GC m S ver) : GC m' S ver := GC_eq (h 16 0 h16).1 (h 17 0 h17).1 hP
theorem SM_off (h : off T m m') (hT : ∀ t, 66 ≤ t → t ≤ 69 → ¬ T t 0) (hP : SM m H) : SM m' H := by
  unfold SM at hP ⊢
  rw [(h 66 0 (hT 66 (by omega) (by omega))).1, (h 67 0 (hT 67 (by omega) (by omega))).1, (h 68 0 (hT 68 (by omega) (by omega))).2, (h 69 0 (hT 69 (by omega) (by omega))).2]
  exact hP
/-- the class between calls -/
def IC (m : Mem) (S : Sys) (ver : Nat) (H : Shv) : Prop := RC m S ∧ m.1 1 0 2 = nI ver ∧ m.1 8 2 1 = bI false ∧ (∀ l : Bool, CV m S ver l l.toNat) ∧ (∀ l : Bool, HO m S ver l l.toNat) ∧ PR m S ver ∧ HL m S ver ∧ TW m S ver ∧ GC m S ver ∧ SC m H
def INV (m : Mem) (S : Sys) (ver : Nat) (H : Shv) : Prop := wf S ∧ IC m S ver H ∧ RM m S ∧ SM m H
theorem b_01 (l : Bool) : l.toNat = 0 ∨ l.toNat = 1 := by cases l <;> simp
theorem b_ne {l l' : Bool} (h : l' ≠ l) : l'.toNat ≠ l.toNat := by cases l <;> cases l' <;> simp_all
/-- nothing of the class's is touched -/
theorem ic_r (hw : wf S) (hI : IC m S ver H) (h : off T m m') (hT : ∀ t i, T t i → 40 ≤ t) : IC m' S ver H := by
  obtain ⟨i1, i2, i3, i4, i5, i6, i7, i8, i9, i10⟩ := hI
  have n : ∀ t i, t < 40 → ¬ T t i := fun t i ht z => by have := hT t i z; omega
  exact ⟨RC_off h (n _ _ (by omega)) (n _ _ (by omega)) (fun x _ => n _ _ (by omega)) (fun x _ => n _ _ (by omega)) (fun x _ => n _ _ (by omega)) hw i1, by rw [(h 1 0 (n _ _ (by omega))).1]; exact i2, by rw [(h 8 2 (n _ _ (by omega))).1]; exact i3, fun l => CV_off h (fun t ht => n _ _ (by omega)) (i4 l), fun l => HO_off h (n _ _ (by omega)) (n _ _ (by omega)) (fun k _ => n _ _ (by omega)) (i5 l), PR_off h (by rw [(h 7 0 (n _ _ (by omega))).1]) (n _ _ (by omega)) (n _ _ (by omega)) i6, HL_off h (n _ _ (by omega)) (n _ _ (by omega)) i7, TW_off h (n _ _ (by omega)) (n _ _ (by omega)) i8, GC_off h (n _ _ (by omega)) (n _ _ (by omega)) i9, SC_eq i10 h (fun t i z => by have := hT t i z; omega)⟩
theorem ic_se (hw : wf S) (hI : IC m S ver H) (l : Bool) (h : off (tSe l.toNat) m m') (hC : CV m' S ver l l.toNat) (hs : m' = m ∨ ∃ X Y, sorted m' S l l.toNat X Y) : IC m' S ver H := by
  obtain ⟨i1, i2, i3, i4, i5, i6, i7, i8, i9, i10⟩ := hI
  have hl := b_01 l
  refine ⟨RC_S h hw i1, by rw [(h 1 0 (by unfold tSe; omega)).1]; exact i2, by rw [(h 8 2 (by unfold tSe; omega)).1]; exact i3, fun l' => ?_, fun l' => ?_, ?_, HL_off h (by unfold tSe; omega) (by unfold tSe; omega) i7, TW_off h (by unfold tSe; omega) (by unfold tSe; omega) i8, GC_off h (by unfold tSe; omega) (by unfold tSe; omega) i9, SC_eq i10 h (fun t i z => by unfold tSe at z; omega)⟩
  · by_cases e : l' = l
    · rw [e]; exact hC
    · have := b_ne e
      exact CV_off h (fun t ht => by unfold tSe; omega) (i4 l')
  · have := b_01 l'
    exact HO_off h (by unfold tSe; omega) (by unfold tSe; omega) (fun k _ => by unfold tSe; omega) (i5 l')
  · cases l with
    | true => exact PR_off h (by rw [(h 7 0 (by unfold tSe; show ¬ ((_ ∧ 0 = 1) ∨ _); omega)).1]) (by unfold tSe; omega) (by unfold tSe; show ¬ ((_ ∧ 2 = 1) ∨ _); omega) i6
    | false =>
      rcases hs with hs | ⟨X, Y, hs⟩
      · rw [hs]; exact i6
      · obtain ⟨a, q1, q2, q3⟩ := i6
        have n15 : ¬ tSe (false).toNat 15 2 := by unfold tSe; show ¬ ((_ ∧ 2 = 0) ∨ _); omega
        have n21 : ¬ tSe (false).toNat 21 0 := by unfold tSe; omega
        refine ⟨a, q1, by rw [(h 21 0 n21).1]; exact q2, fun z => ?_⟩
        obtain ⟨X0, y1, y2, y3⟩ := q3 z
        refine ⟨X, hs.2.2.1, hs.1, ?_⟩
        have e := isOnes_uniq y1 hs.2.2.1
        subst e
        unfold pricesOK at y3 ⊢
        rw [(h 21 0 n21).1, (h 21 0 n21).2, (h 15 2 n15).2]
        exact y3
theorem ic_ps (hw : wf S) (hI : IC m S ver H) (h : off tPS m m') (hC : CV m' S ver false 0) (hP : PR m' S ver) : IC m' S ver H := by
  obtain ⟨i1, i2, i3, i4, i5, i6, i7, i8, i9, i10⟩ := hI
  refine ⟨RC_PS h hw i1, by rw [(h 1 0 (by unfold tPS; omega)).1]; exact i2, by rw [(h 8 2 (by unfold tPS; omega)).1]; exact i3, fun l => ?_, fun l' => ?_, hP, HL_off h (by unfold tPS; omega) (by unfold tPS; omega) i7, TW_off h (by unfold tPS; omega) (by unfold tPS; omega) i8, GC_off h (by unfold tPS; omega) (by unfold tPS; omega) i9, SC_eq i10 h (fun t i z => by unfold tPS at z; omega)⟩
  · cases l with
    | false => exact hC
    | true => exact CV_off h (fun t ht => by show ¬ tPS t 1; unfold tPS; omega) (i4 true)
  · have := b_01 l'
    exact HO_off h (by unfold tPS; omega) (by unfold tPS; omega) (fun k _ => by unfold tPS; omega) (i5 l')
theorem ic_h (hw : wf S) (hI : IC m S ver H) (l : Bool) (h : off (tH l.toNat) m m') (hO : HO m' S ver l l.toNat) : IC m' S ver H := by
  obtain ⟨i1, i2, i3, i4, i5, i6, i7, i8, i9, i10⟩ := hI
  have hl := b_01 l
  refine ⟨RC_H h hw i1, by rw [(h 1 0 (by unfold tH; omega)).1]; exact i2, by rw [(h 8 2 (by unfold tH; omega)).1]; exact i3, fun l' => ?_, fun l' => ?_, PR_off h (by rw [(h 7 0 (by unfold tH; omega)).1]) (by unfold tH; omega) (by unfold tH; omega) i6, HL_off h (by unfold tH; omega) (by unfold tH; omega) i7, TW_off h (by unfold tH; omega) (by unfold tH; omega) i8, GC_off h (by unfold tH; omega) (by unfold tH; omega) i9, SC_eq i10 h (fun t i z => by unfold tH at z; omega)⟩
  · have := b_01 l'
    exact CV_off h (fun t ht => by unfold tH; omega) (i4 l')
  · by_cases e : l' = l
    · rw [e]; exact hO
    · have := b_ne e
      have := b_01 l'
      exact HO_off h (by unfold tH; omega) (by unfold tH; omega) (fun k _ => by unfold tH; omega) (i5 l')
theorem ic_tw (hw : wf S) (hI : IC m S ver H) (h : off tTw m m') (hO : TW m' S ver) : IC m' S ver H := by
  obtain ⟨i1, i2, i3, i4, i5, i6, i7, i8, i9, i10⟩ := hI
  exact ⟨RC_off h (by unfold tTw; omega) (by unfold tTw; omega) (fun x _ => by unfold tTw; omega) (fun x _ => by unfold tTw; omega) (fun x _ => by unfold tTw; omega) hw i1, by rw [(h 1 0 (by unfold tTw; omega)).1]; exact i2, by rw [(h 8 2 (by unfold tTw; omega)).1]; exact i3, fun l => CV_off h (fun t ht => by unfold tTw; omega) (i4 l), fun l => HO_off h (by unfold tTw; omega) (by unfold tTw; omega) (fun k _ => by unfold tTw; omega) (i5 l), PR_off h (by rw [(h 7 0 (by unfold tTw; omega)).1]) (by unfold tTw; omega) (by unfold tTw; omega) i6, HL_off h (by unfold tTw; omega) (by unfold tTw; omega) i7, hO, GC_off h (by unfold tTw; omega) (by unfold tTw; omega) i9, SC_eq i10 h (fun t i z => by unfold tTw at z; omega)⟩
theorem ic_ho (hw : wf S) (hI : IC m S ver H) (h : off tHo m m') (hO : HL m' S ver) : IC m' S ver H := by
  obtain ⟨i1, i2, i3, i4, i5, i6, i7, i8, i9, i10⟩ := hI
  exact ⟨RC_off h (by unfold tHo; omega) (by unfold tHo; omega) (fun x _ => by unfold tHo; omega) (fun x _ => by unfold tHo; omega) (fun x _ => by unfold tHo; omega) hw i1, by rw [(h 1 0 (by unfold tHo; omega)).1]; exact i2, by rw [(h 8 2 (by unfold tHo; omega)).1]; exact i3, fun l => CV_off h (fun t ht => by unfold tHo; omega) (i4 l), fun l => HO_off h (by unfold tHo; omega) (by unfold tHo; omega) (fun k _ => by unfold tHo; omega) (i5 l), PR_off h (by rw [(h 7 0 (by unfold tHo; omega)).1]) (by unfold tHo; omega) (by unfold tHo; omega) i6, hO, TW_off h (by unfold tHo; omega) (by unfold tHo; omega) i8, GC_off h (by unfold tHo; omega) (by unfold tHo; omega) i9, SC_eq i10 h (fun t i z => by unfold tHo at z; omega)⟩
theorem ic_gu (hw : wf S) (hI : IC m S ver H) (h : off tGu m m') (hO : GC m' S ver) : IC m' S ver H := by
  obtain ⟨i1, i2, i3, i4, i5, i6, i7, i8, i9, i10⟩ := hI
  exact ⟨RC_off h (by unfold tGu; omega) (by unfold tGu; omega) (fun x _ => by unfold tGu; omega) (fun x _ => by unfold tGu; omega) (fun x _ => by unfold tGu; omega) hw i1, by rw [(h 1 0 (by unfold tGu; omega)).1]; exact i2, by rw [(h 8 2 (by unfold tGu; omega)).1]; exact i3, fun l => CV_off h (fun t ht => by unfold tGu; omega) (i4 l), fun l => HO_off h (by unfold tGu; omega) (by unfold tGu; omega) (fun k _ => by unfold tGu; omega) (i5 l), PR_off h (by rw [(h 7 0 (by unfold tGu; omega)).1]) (by unfold tGu; omega) (by unfold tGu; omega) i6, HL_off h (by unfold tGu; omega) (by unfold tGu; omega) i7, TW_off h (by unfold tGu; omega) (by unfold tGu; omega) i8, hO, SC_eq i10 h (fun t i z => by unfold tGu at z; omega)⟩
theorem ic_x {x : Nat} {H' : Shv} (hw : wf S) (hI : IC m S ver H) (h : off (tX x) m m') (hO : SC m' H') : IC m' S ver H' := by
  obtain ⟨i1, i2, i3, i4, i5, i6, i7, i8, i9, i10⟩ := hI
  exact ⟨RC_off h (by unfold tX; omega) (by unfold tX; omega) (fun x _ => by unfold tX; omega) (fun x _ => by unfold tX; omega) (fun x _ => by unfold tX; omega) hw i1, by rw [(h 1 0 (by unfold tX; omega)).1]; exact i2, by rw [(h 8 2 (by unfold tX; omega)).1]; exact i3, fun l => CV_off h (fun t ht => by unfold tX; omega) (i4 l), fun l => HO_off h (by unfold tX; omega) (by unfold tX; omega) (fun k _ => by unfold tX; omega) (i5 l), PR_off h (by rw [(h 7 0 (by unfold tX; omega)).1]) (by unfold tX; omega) (by unfold tX; omega) i6, HL_off h (by unfold tX; omega) (by unfold tX; omega) i7, TW_off h (by unfold tX; omega) (by unfold tX; omega) i8, GC_off h (by unfold tX; omega) (by unfold tX; omega) i9, hO⟩
/-- a change of the system: nothing cached holds any more -/
theorem ic_u {S' : Sys} (hI : IC m S ver H) (h : off tU m m') (hR : RC m' S') (hv : m'.1 1 0 2 = nI (ver + 1)) : IC m' S' (ver + 1) H := by
  obtain ⟨i1, i2, i3, i4, i5, i6, i7, i8, i9, i10⟩ := hI
  refine ⟨hR, hv, by rw [(h 8 2 (by unfold tU; omega)).1]; exact i3, fun l => ?_, fun l => ?_, ?_, ?_, ?_, ?_, SC_eq i10 h (fun t i z => by unfold tU at z; omega)⟩
  · obtain ⟨a, b, q1, q2, q3, q4, q5, q6, _⟩ := i4 l
    have e7 := (h 7 l.toNat (by unfold tU; omega)).1
    have e8 := (h 8 l.toNat (by unfold tU; omega)).1
    exact ⟨a, b, by rw [e7]; exact q1, by rw [e7]; exact q2, by omega, by omega, by rw [e7]; exact q5, by rw [e8]; exact q6, fun z => by omega, fun z => by omega⟩
  · obtain ⟨a, q1, q2, q3, _⟩ := i5 l
    have e := (h 18 l.toNat (by unfold tU; omega)).1
    exact ⟨a, by omega, by rw [e]; exact q2, by rw [e]; exact q3, fun z => by omega⟩
  · obtain ⟨a, q1, q2, _⟩ := i6
    exact ⟨a, by omega, by rw [(h 21 0 (by unfold tU; omega)).1]; exact q2, fun z => by omega⟩
  · obtain ⟨a, q1, q2, _⟩ := i7
    exact ⟨a, by omega, by rw [(h 22 0 (by unfold tU; omega)).1]; exact q2, fun z => by omega⟩
  · obtain ⟨a, q1, q2, _⟩ := i8
    exact ⟨a, by omega, by rw [(h 26 0 (by unfold tU; omega)).1]; exact q2, fun z => by omega⟩
  · obtain ⟨a, q1, q2, _⟩ := i9
    exact ⟨a, by rw [(h 16 0 (by unfold tU; omega)).1]; exact q1, by omega, fun z => by omega⟩
/-- the reference is not touched -/
theorem ir_c (hR : RM m S) (hS : SM m H) (h : off T m m') (hT : ∀ t i, T t i → t < 40) : RM m' S ∧ SM m' H := by
  have n : ∀ t i, 40 ≤ t → ¬ T t i := fun t i ht z => by have := hT t i z; omega
  exact ⟨RM_off h (n _ _ (by omega)) (n _ _ (by omega)) (n _ _ (by omega)) (n _ _ (by omega)) (n _ _ (by omega)) (n _ _ (by omega)) (n _ _ (by omega)) hR, SM_off h (fun t h1 _ => n _ _ (by omega)) hS⟩
/-- the class first: then the reference's cells are as they were -/
theorem inv_c {S' : Sys} {v' : Nat} {H' : Shv} (hI : INV m S ver H) (h : off T m m') (hT : ∀ t i, T t i → t < 40) (hC : IC m' S' v' H') : IC m' S' v' H' ∧ RM m' S ∧ SM m' H := ⟨hC, ir_c hI.2.2.1 hI.2.2.2 h hT⟩
end L99VA
