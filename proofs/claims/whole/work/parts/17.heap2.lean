/-! M2's cells as M1's heap -/
def g_cnt (t : Nat) : Nat := (g_pos t).length
def g_at (t i : Nat) : Nat := (g_pos t).getD i 0
def enc (v : v2) : Value := match v with
  | .inl x => .int x
  | .inr (.inl x) => .long x
  | .inr (.inr (t, i)) => .ref (if t = 99 then sCR else g_at t i)
def okV (v : v2) : Prop := match v with
  | .inr (.inr (t, i)) => t = 99 ∨ i < g_cnt t
  | _ => True
def okS (S : List v2) : Prop := ∀ v ∈ S, okV v
def okL (L : L2) : Prop := ∀ v, some v ∈ L → okV v
def mapL (L : L2) : aL := L.map (Option.map enc)
def fval (m : Mem) (t i ci k : Nat) : Value := match g_fk ci k with
  | 2 => .long (m.2 t i k)
  | 3 => enc (vR (g_rf t k i).1 (g_rf t k i).2)
  | _ => .int (m.1 t i k)
def g_cell (m : Mem) (q : Nat × Nat) : aE := match g_kind q.1 with
  | 0 => .inr (g_cls q.1, (List.range (g_n (g_cls q.1))).map (fval m q.1 q.2 (g_cls q.1)))
  | 1 => .inl (.int, g_len q.1, .inl (m.1 q.1 q.2))
  | 2 => .inl (.long, g_len q.1, .inr (.inl (m.2 q.1 q.2)))
  | _ => .inl (g_aty q.1, g_len q.1, .inr (.inr (.inr (.inr (fun j => if j < g_len q.1 then some (g_at (g_ra q.1 q.2 j).1 (g_ra q.1 q.2 j).2) else none)))))
def toH (m : Mem) : aH := g_tof.map (g_cell m)
theorem g_cnt_big (n : Nat) : g_cnt (n + 91) = 0 := rfl
theorem g_F1' : ∀ t, t < 91 → ∀ i, i < g_cnt t → g_tof[g_at t i]? = some (t, i) ∧ g_at t i < 274 := by decide +kernel
theorem g_lt {t i : Nat} (h : i < g_cnt t) : t < 91 := by
  by_cases q : t < 91
  · exact q
  · obtain ⟨n, rfl⟩ : ∃ n, t = n + 91 := ⟨t - 91, by omega⟩
    rw [g_cnt_big] at h; omega
theorem g_F1 {t i : Nat} (h : i < g_cnt t) : g_tof[g_at t i]? = some (t, i) ∧ g_at t i < 274 := g_F1' t (g_lt h) i h
theorem g_F2 : ∀ p, p < 274 → g_at (g_tof.getD p (0, 0)).1 (g_tof.getD p (0, 0)).2 = p := by decide +kernel
theorem g_flen : g_tof.length = 274 := by decide +kernel
def g_F3b (t k i : Nat) : Bool := !(decide (g_kind t = 0) && decide (k < g_n (g_cls t)) && decide (g_fk (g_cls t) k = 3)) || (decide ((g_rf t k i).2 < g_cnt (g_rf t k i).1) && decide ((g_rf t k i).1 ≠ 99))
theorem g_F3' : ((List.range 91).all fun t => (List.range 40).all fun k => (List.range (g_cnt t)).all fun i => g_F3b t k i) = true := by decide +kernel
theorem g_n40 : ∀ t, t < 91 → g_n (g_cls t) ≤ 40 := by decide +kernel
theorem g_F3 {t k i : Nat} (hk : g_kind t = 0) (h1 : k < g_n (g_cls t)) (h2 : g_fk (g_cls t) k = 3) (hi : i < g_cnt t) : (g_rf t k i).2 < g_cnt (g_rf t k i).1 ∧ (g_rf t k i).1 ≠ 99 := by
  have a := List.all_eq_true.mp g_F3' t (List.mem_range.mpr (g_lt hi))
  have b := List.all_eq_true.mp a k (List.mem_range.mpr (Nat.lt_of_lt_of_le h1 (g_n40 t (g_lt hi))))
  have c := List.all_eq_true.mp b i (List.mem_range.mpr hi)
  simp only [g_F3b, hk, h1, h2, decide_true, Bool.and_true, Bool.not_true, Bool.false_or, Bool.and_eq_true, decide_eq_true_eq] at c
  exact c
theorem g_F4 : ∀ t, t < 91 → g_kind t = 3 → a_isRef (g_aty t) = true ∧ ∀ i, i < g_cnt t → ∀ j, j < g_len t → (g_ra t i j).2 < g_cnt (g_ra t i j).1 ∧ (g_ra t i j).1 ≠ 99 := by decide +kernel
theorem toH_at {m : Mem} {t i : Nat} (h : i < g_cnt t) : a_cell (toH m) (g_at t i) = some (g_cell m (t, i)) := by
  obtain ⟨h1, h2⟩ := g_F1 h
  unfold a_cell toH
  rw [if_neg (by unfold sCR; omega), List.getElem?_map, h1]; rfl
theorem g_cell_eq {m m' : Mem} {q : Nat × Nat} (h1 : m'.1 q.1 q.2 = m.1 q.1 q.2) (h2 : m'.2 q.1 q.2 = m.2 q.1 q.2) : g_cell m' q = g_cell m q := by
  unfold g_cell
  split
  · congr 2
    apply List.map_congr_left
    intro k _
    unfold fval
    rw [h1, h2]
  · rw [h1]
  · rw [h2]
  · rfl
theorem toH_set {m m' : Mem} {t i : Nat} (h : i < g_cnt t) (hm : ∀ t' i', ¬ (t' = t ∧ i' = i) → m'.1 t' i' = m.1 t' i' ∧ m'.2 t' i' = m.2 t' i') : toH m' = (toH m).set (g_at t i) (g_cell m' (t, i)) := by
  obtain ⟨h1, h2⟩ := g_F1 h
  apply List.ext_getElem?
  intro p
  by_cases hp : p = g_at t i
  · subst hp
    rw [List.getElem?_set_self (by unfold toH; rw [List.length_map, g_flen]; exact h2)]
    unfold toH
    rw [List.getElem?_map, h1]; rfl
  · rw [List.getElem?_set_ne (Ne.symm hp)]
    unfold toH
    rw [List.getElem?_map, List.getElem?_map]
    cases hq : g_tof[p]? with
    | none => rfl
    | some q =>
      have hlt := (List.getElem?_eq_some_iff.mp hq).1
      rw [g_flen] at hlt
      have h3 := g_F2 p hlt
      rw [List.getD_eq_getElem?_getD, hq] at h3
      have hne : ¬ (q.1 = t ∧ q.2 = i) := fun z => hp (by rw [← z.1, ← z.2]; exact h3.symm)
      obtain ⟨a1, a2⟩ := hm q.1 q.2 hne
      exact congrArg some (g_cell_eq a1 a2)
theorem mI_ne {m : Mem} {t i k : Nat} {v : Int32} : ∀ t' i', ¬ (t' = t ∧ i' = i) → (mI m t i k v).1 t' i' = m.1 t' i' ∧ (mI m t i k v).2 t' i' = m.2 t' i' := fun t' i' h => ⟨by
  funext k'
  show (if t' = t ∧ i' = i ∧ k' = k then v else m.1 t' i' k') = _
  rw [if_neg (fun z => h ⟨z.1, z.2.1⟩)], rfl⟩
theorem mL_ne {m : Mem} {t i k : Nat} {v : Int64} : ∀ t' i', ¬ (t' = t ∧ i' = i) → (mL m t i k v).1 t' i' = m.1 t' i' ∧ (mL m t i k v).2 t' i' = m.2 t' i' := fun t' i' h => ⟨rfl, by
  funext k'
  show (if t' = t ∧ i' = i ∧ k' = k then v else m.2 t' i' k') = _
  rw [if_neg (fun z => h ⟨z.1, z.2.1⟩)]⟩
theorem mI_at (m : Mem) (t i k : Nat) (v : Int32) : (mI m t i k v).1 t i = upd (m.1 t i) k v := by
  funext k'
  show (if t = t ∧ i = i ∧ k' = k then v else m.1 t i k') = _
  by_cases h : k' = k <;> simp [upd, h]
theorem mL_at (m : Mem) (t i k : Nat) (v : Int64) : (mL m t i k v).2 t i = vp_updL (m.2 t i) k v := by
  funext k'
  show (if t = t ∧ i = i ∧ k' = k then v else m.2 t i k') = _
  by_cases h : k' = k <;> simp [vp_updL, h]
theorem enc_cat (v : v2) : (enc v).category = match v with | .inr (.inl _) => 2 | _ => 1 := by
  obtain x | x | ⟨t, i⟩ := v <;> rfl
theorem c_words_eq : ∀ S : List v2, a_words (S.map enc) = c_words S
  | [] => rfl
  | .inl x :: S => by
    have := c_words_eq S
    simp only [a_words, List.map_cons, List.sum_cons] at this ⊢
    rw [this]; rfl
  | .inr (.inl x) :: S => by
    have := c_words_eq S
    simp only [a_words, List.map_cons, List.sum_cons] at this ⊢
    rw [this]; rfl
  | .inr (.inr (t, i)) :: S => by
    have := c_words_eq S
    simp only [a_words, List.map_cons, List.sum_cons] at this ⊢
    rw [this]; rfl
theorem l_get_map (L : L2) (k : Nat) : a_get (mapL L) k = (l_get L k).map enc := by
  unfold a_get l_get mapL
  rw [List.getElem?_map]
  cases L[k]? with
  | none => rfl
  | some o => cases o <;> rfl
theorem mapL_set (L : L2) (k : Nat) (o : Option v2) : mapL (L.set k o) = (mapL L).set k (o.map enc) := by unfold mapL; rw [List.map_set]
theorem l_kill_map (L : L2) (k : Nat) : mapL (l_kill L k) = a_kill (mapL L) k := by
  unfold l_kill a_kill
  cases k with
  | zero => rfl
  | succ j =>
    dsimp only
    rw [l_get_map]
    cases h : l_get L j with
    | none => rfl
    | some v =>
      obtain x | x | ⟨t, i⟩ := v
      · rfl
      · exact mapL_set L j none
      · rfl
theorem l_set1_map (L : L2) (k : Nat) (v : v2) : mapL (l_set1 L k v) = a_set1 (mapL L) k (enc v) := by unfold l_set1 a_set1; rw [mapL_set, l_kill_map]; rfl
theorem l_set2_map (L : L2) (k : Nat) (v : v2) : mapL (l_set2 L k v) = a_set2 (mapL L) k (enc v) := by unfold l_set2 a_set2; rw [mapL_set, mapL_set, l_kill_map]; rfl
theorem okL_set {L : L2} {k : Nat} {o : Option v2} (h : okL L) (ho : ∀ v, o = some v → okV v) : okL (L.set k o) := fun v hv => by
  rcases List.mem_or_eq_of_mem_set hv with q | q
  · exact h v q
  · exact ho v q.symm
theorem okL_kill {L : L2} {k : Nat} (h : okL L) : okL (l_kill L k) := by
  unfold l_kill
  split
  · exact h
  · split
    · exact okL_set h (fun v q => by cases q)
    · exact h
theorem okL_set1 {L : L2} {k : Nat} {v : v2} (h : okL L) (hv : okV v) : okL (l_set1 L k v) := okL_set (okL_kill h) (fun w q => by cases q; exact hv)
theorem okL_set2 {L : L2} {k : Nat} {v : v2} (h : okL L) (hv : okV v) : okL (l_set2 L k v) := okL_set (okL_set (okL_kill h) (fun w q => by cases q; exact hv)) (fun w q => by cases q)
theorem okL_get {L : L2} {k : Nat} {v : v2} (h : okL L) (q : l_get L k = some v) : okV v := by
  unfold l_get at q
  split at q
  · rename_i w hw
    cases q
    exact h _ (List.mem_of_getElem? hw)
  · cases q
theorem mapL_len (L : L2) : (mapL L).length = L.length := by unfold mapL; rw [List.length_map]
