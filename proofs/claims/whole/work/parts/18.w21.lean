/-! WHAT M2 DOES, M1 DOES (2) -/
theorem b_if_spec {c : Bool} {P : Prop} (h : b_if c P) : c = true ∧ P := by
  cases c
  · exact h.elim
  · exact ⟨rfl, h⟩
theorem okS_c {v : v2} {S : List v2} (hv : okV v) (hS : okS S) : okS (v :: S) := fun w hw => (List.mem_cons.mp hw).elim (fun q => by rw [q]; exact hv) (hS w)
theorem okS_t {v : v2} {S : List v2} (h : okS (v :: S)) : okS S := fun w hw => h w (List.mem_cons_of_mem _ hw)
theorem okS_h {v : v2} {S : List v2} (h : okS (v :: S)) : okV v := h v List.mem_cons_self
theorem c_ret_spec {kd : Nat} {go : List v2 → Mem → Prop} {rest : List v2} {r : Option v2} {m : Mem} (h : c_ret kd go rest r m) : go (r.toList ++ rest) m := by
  unfold c_ret at h
  split at h
  · obtain ⟨h1, h2⟩ := h; subst h1; exact h2
  · obtain ⟨x, h1, h2⟩ := h; subst h1; exact h2
  · obtain ⟨x, h1, h2⟩ := h; subst h1; exact h2
  · obtain ⟨x, h1, h2⟩ := h; subst h1; exact h2
theorem enc_ref {t q : Nat} (h : t ≠ 99) : enc (vR t q) = .ref (g_at t q) := by
  show Value.ref (if t = 99 then sCR else g_at t q) = _
  rw [if_neg h]
theorem g_kind99 : g_kind 99 = 4 := rfl
theorem g_ne99 {t k : Nat} (h : g_kind t = k) (hk : k ≠ 4) : t ≠ 99 := fun e => by subst e; rw [g_kind99] at h; exact hk h.symm
theorem okV_lt {t q : Nat} (h : okV (vR t q)) (ht : t ≠ 99) : q < g_cnt t := h.resolve_left ht
theorem g_cell0 {m : Mem} {t q : Nat} (h : g_kind t = 0) : g_cell m (t, q) = .inr (g_cls t, (List.range (g_n (g_cls t))).map (fval m t q (g_cls t))) := by unfold g_cell; rw [h]; rfl
theorem g_cell1 {m : Mem} {t q : Nat} (h : g_kind t = 1) : g_cell m (t, q) = .inl (.int, g_len t, .inl (m.1 t q)) := by unfold g_cell; rw [h]; rfl
theorem g_cell2 {m : Mem} {t q : Nat} (h : g_kind t = 2) : g_cell m (t, q) = .inl (.long, g_len t, .inr (.inl (m.2 t q))) := by unfold g_cell; rw [h]; rfl
theorem g_cell3 {m : Mem} {t q : Nat} (h : g_kind t = 3) : g_cell m (t, q) = .inl (g_aty t, g_len t, .inr (.inr (.inr (.inr (fun j => if j < g_len t then some (g_at (g_ra t q j).1 (g_ra t q j).2) else none))))) := by unfold g_cell; rw [h]; rfl
/-- a field's write -/
theorem toH_put {m m' : Mem} {t q k : Nat} {v : Value} (h0 : g_kind t = 0) (hq : q < g_cnt t) (hk : k < g_n (g_cls t)) (hm : ∀ t' i', ¬ (t' = t ∧ i' = q) → m'.1 t' i' = m.1 t' i' ∧ m'.2 t' i' = m.2 t' i') (hv : fval m' t q (g_cls t) k = v) (hne : ∀ k', k' ≠ k → fval m' t q (g_cls t) k' = fval m t q (g_cls t) k') : toH m' = (toH m).set (g_at t q) (.inr (g_cls t, ((List.range (g_n (g_cls t))).map (fval m t q (g_cls t))).set k v)) := by
  rw [toH_set hq hm, g_cell0 h0]
  congr 3
  apply List.ext_getElem?
  intro p
  by_cases hp : p = k
  · subst hp
    rw [List.getElem?_set_self (by simpa using hk), List.getElem?_map, List.getElem?_range hk]
    exact congrArg some hv
  · rw [List.getElem?_set_ne (Ne.symm hp), List.getElem?_map, List.getElem?_map]
    cases hq2 : (List.range (g_n (g_cls t)))[p]? with
    | none => rfl
    | some y =>
      have : y = p := by
        obtain ⟨h1, h2⟩ := List.getElem?_eq_some_iff.mp hq2
        rw [List.getElem_range] at h2; exact h2.symm
      subst this
      exact congrArg some (hne y hp)
theorem fval_int {m : Mem} {t q ci k : Nat} (h : g_fk ci k = 0 ∨ g_fk ci k = 1) : fval m t q ci k = .int (m.1 t q k) := by unfold fval; rcases h with h | h <;> rw [h] <;> rfl
theorem fval_long {m : Mem} {t q ci k : Nat} (h : g_fk ci k = 2) : fval m t q ci k = .long (m.2 t q k) := by unfold fval; rw [h]; rfl
theorem fval_ref {m : Mem} {t q ci k : Nat} (h : g_fk ci k = 3) : fval m t q ci k = enc (vR (g_rf t k q).1 (g_rf t k q).2) := by unfold fval; rw [h]; rfl
theorem fval_ne {m m' : Mem} {t q ci k : Nat} (h1 : m'.1 t q k = m.1 t q k) (h2 : m'.2 t q k = m.2 t q k) : fval m' t q ci k = fval m t q ci k := by unfold fval; rw [h1, h2]
theorem fit_int {ci k : Nat} {v : Int32} (h : g_fk ci k = 0) : a_fit (a_ty ci k) (.int v) = true := by
  unfold g_fk at h
  split at h
  · rename_i e; rw [e]; simp [a_fit, narrow, fits]
  all_goals cases h
theorem fit_bool {ci k : Nat} {v : Int32} (h : g_fk ci k = 1) (hv : isB v) : a_fit (a_ty ci k) (.int v) = true := by
  unfold g_fk at h
  split at h
  · cases h
  · rename_i e; rw [e]; rcases hv with rfl | rfl <;> decide +kernel
  all_goals cases h
theorem fit_long {ci k : Nat} {v : Int64} (h : g_fk ci k = 2) : a_fit (a_ty ci k) (.long v) = true := by
  unfold g_fk at h
  split at h
  · cases h
  · cases h
  · rename_i e; rw [e]; rfl
  · cases h
theorem sws_spec {go : Nat → Prop} {v : Int32} : ∀ {r : List Nat} {lo : Int} {k j : Nat}, sws go v lo r → r[k]? = some j → v.toInt = lo + k → go j
  | [], _, _, _, _, h, _ => by simp at h
  | a :: r, lo, 0, j, hs, h, e => by rw [List.getElem?_cons_zero] at h; cases h; exact hs.1 (by rw [e]; omega)
  | a :: r, lo, k + 1, j, hs, h, e => by rw [List.getElem?_cons_succ] at h; exact sws_spec (k := k) hs.2 h (by rw [e]; omega)
theorem narrow_b {v : Int32} (h : isB v) : narrow .boolean (.int v) = .int v := by rcases h with rfl | rfl <;> rfl
theorem enc_i (x : Int32) : enc (.inl x) = .int x := rfl
theorem enc_l (x : Int64) : enc (.inr (.inl x)) = .long x := rfl
theorem okVi (x : Int32) : okV (vI x) := trivial
theorem okVl (x : Int64) : okV (vL x) := trivial
section W21
variable {xs : Nat × (Nat → Int32)} {C2 : Nat → List v2 → Mem → (Option v2 → Mem → Prop) → Prop} {C1 : Nat → List Value → aH → (Option Value → aH → Prop) → Prop} {tbl : List xI} {rt : Option FieldType} {Q2 : Option v2 → Mem → Prop} {Q1 : Option Value → aH → Prop} {go : Nat → L2 → List v2 → Mem → Prop} {n cc cs lo ls : Nat}
set_option maxHeartbeats 4000000 in
theorem st21
    (hC : ∀ (j : Nat) args m Q, okS args → C2 j args m Q → ∃ M, MT[j]? = some M ∧ M.2.2.2.2.2.1.1 ≤ cc ∧ M.2.2.2.2.2.1.2 ≤ cs ∧ C1 j (args.map enc) (toH m) (fun r h => ∃ r2 m2, r = r2.map enc ∧ h = toH m2 ∧ (∀ v, r2 = some v → okV v) ∧ Q r2 m2))
    (hmC : ∀ j a h Q Q', (∀ r h', Q r h' → Q' r h') → C1 j a h Q → C1 j a h Q')
    (hQ : ∀ r m, (∀ v, r = some v → okV v) → Q2 r m → Q1 (r.map enc) (toH m))
    (hgo : ∀ (j : Nat) (L : L2) (S : List v2) (m : Mem) (bc bs : Nat), okL L → okS S → lo ≤ bc → ls ≤ bs → go j L S m → wp1 xs C1 MT tbl rt Q1 n j (mapL L) (S.map enc) (toH m) bc bs)
    {x : xI} {i : Nat} {L : L2} {S : List v2} {m : Mem} {bc bs : Nat} (hx : tbl[i]? = some x) (hL : okL L) (hS : okS S) (hbc : lo + cc ≤ bc) (hbs : ls + cs ≤ bs) (hw : st2 xs C2 rt Q2 go x i L S m) : wp1 xs C1 MT tbl rt Q1 (n + 1) i (mapL L) (S.map enc) (toH m) bc bs := by
    have hbc' : lo ≤ bc := by omega
    have hbs' : ls ≤ bs := by omega
    obtain ⟨ins, pc, len, a, b, z, tg⟩ := x
    unfold st2 at hw
    dsimp only at hw
    -- a call, once its answer is known
    have aft : ∀ (M : aM) (rest : List v2) (kd : Nat), M.2.2.2.2.2.1.1 ≤ cc → M.2.2.2.2.2.1.2 ≤ cs → okS rest → ∀ (r : Option Value) (h : aH), (∃ r2 m2, r = r2.map enc ∧ h = toH m2 ∧ (∀ v, r2 = some v → okV v) ∧ c_ret kd (fun R m' => go (i + 1) L R m') rest r2 m2) → wp1 xs C1 MT tbl rt Q1 n (i + 1) (mapL L) (r.toList ++ rest.map enc) h (bc - M.2.2.2.2.2.1.1) (bs - M.2.2.2.2.2.1.2) := by
      intro M rest kd q1 q2 hr r h hh
      obtain ⟨r2, m2, rfl, rfl, h3, h4⟩ := hh
      have e : (r2.map enc).toList ++ rest.map enc = (r2.toList ++ rest).map enc := by cases r2 <;> rfl
      rw [e]
      refine hgo _ _ _ _ _ _ hL (fun v hv => ?_) (by omega) (by omega) (c_ret_spec h4)
      rcases List.mem_append.mp hv with q | q
      · cases r2 with
        | none => cases q
        | some w => rw [Option.toList_some, List.mem_singleton] at q; rw [q]; exact h3 w rfl
      · exact hr v q
    have hok0 : ∀ v, (none : Option v2) = some v → okV v := fun v q => by cases q
    cases ins <;> try (exact (show False from hw).elim)
    case iconst n9 =>
      dsimp only at hw
      rw [wp1_plain hx rfl]
      exact hgo _ _ _ _ _ _ hL (okS_c (by trivial) hS) hbc' hbs' hw
    case bipush n9 =>
      dsimp only at hw
      rw [wp1_plain hx rfl]
      exact hgo _ _ _ _ _ _ hL (okS_c (by trivial) hS) hbc' hbs' hw
    case sipush n9 =>
      dsimp only at hw
      rw [wp1_plain hx rfl]
      exact hgo _ _ _ _ _ _ hL (okS_c (by trivial) hS) hbc' hbs' hw
    case lconst n9 =>
      dsimp only at hw
      rw [wp1_plain hx rfl]
      exact hgo _ _ _ _ _ _ hL (okS_c (by trivial) hS) hbc' hbs' hw
    case ldc n9 =>
      dsimp only at hw
      rw [wp1_plain hx rfl]
      exact hgo _ _ _ _ _ _ hL (okS_c (by trivial) hS) hbc' hbs' hw
    case ldc_w n9 =>
      dsimp only at hw
      rw [wp1_plain hx rfl]
      exact hgo _ _ _ _ _ _ hL (okS_c (by trivial) hS) hbc' hbs' hw
    case ldc2_w n9 =>
      dsimp only at hw
      rw [wp1_plain hx rfl]
      exact hgo _ _ _ _ _ _ hL (okS_c (by trivial) hS) hbc' hbs' hw
    case iadd =>
      dsimp only at hw
      split at hw
      · rw [wp1_plain hx rfl]
        exact hgo _ _ _ _ _ _ hL (okS_c (by trivial) (okS_t (okS_t hS))) hbc' hbs' hw
      · exact hw.elim
    case isub =>
      dsimp only at hw
      split at hw
      · rw [wp1_plain hx rfl]
        exact hgo _ _ _ _ _ _ hL (okS_c (by trivial) (okS_t (okS_t hS))) hbc' hbs' hw
      · exact hw.elim
    case imul =>
      dsimp only at hw
      split at hw
      · rw [wp1_plain hx rfl]
        exact hgo _ _ _ _ _ _ hL (okS_c (by trivial) (okS_t (okS_t hS))) hbc' hbs' hw
      · exact hw.elim
    case iand =>
      dsimp only at hw
      split at hw
      · rw [wp1_plain hx rfl]
        exact hgo _ _ _ _ _ _ hL (okS_c (by trivial) (okS_t (okS_t hS))) hbc' hbs' hw
      · exact hw.elim
    case ior =>
      dsimp only at hw
      split at hw
      · rw [wp1_plain hx rfl]
        exact hgo _ _ _ _ _ _ hL (okS_c (by trivial) (okS_t (okS_t hS))) hbc' hbs' hw
      · exact hw.elim
    case ixor =>
      dsimp only at hw
      split at hw
      · rw [wp1_plain hx rfl]
        exact hgo _ _ _ _ _ _ hL (okS_c (by trivial) (okS_t (okS_t hS))) hbc' hbs' hw
      · exact hw.elim
    case ishl =>
      dsimp only at hw
      split at hw
      · rw [wp1_plain hx rfl]
        exact hgo _ _ _ _ _ _ hL (okS_c (by trivial) (okS_t (okS_t hS))) hbc' hbs' hw
      · exact hw.elim
    case ishr =>
      dsimp only at hw
      split at hw
      · rw [wp1_plain hx rfl]
        exact hgo _ _ _ _ _ _ hL (okS_c (by trivial) (okS_t (okS_t hS))) hbc' hbs' hw
      · exact hw.elim
    case iushr =>
      dsimp only at hw
      split at hw
      · rw [wp1_plain hx rfl]
        exact hgo _ _ _ _ _ _ hL (okS_c (by trivial) (okS_t (okS_t hS))) hbc' hbs' hw
      · exact hw.elim
    case ladd =>
      dsimp only at hw
      split at hw
      · rw [wp1_plain hx rfl]
        exact hgo _ _ _ _ _ _ hL (okS_c (by trivial) (okS_t (okS_t hS))) hbc' hbs' hw
      · exact hw.elim
    case lsub =>
      dsimp only at hw
      split at hw
      · rw [wp1_plain hx rfl]
        exact hgo _ _ _ _ _ _ hL (okS_c (by trivial) (okS_t (okS_t hS))) hbc' hbs' hw
      · exact hw.elim
    case lmul =>
      dsimp only at hw
      split at hw
      · rw [wp1_plain hx rfl]
        exact hgo _ _ _ _ _ _ hL (okS_c (by trivial) (okS_t (okS_t hS))) hbc' hbs' hw
      · exact hw.elim
    case lor =>
      dsimp only at hw
      split at hw
      · rw [wp1_plain hx rfl]
        exact hgo _ _ _ _ _ _ hL (okS_c (by trivial) (okS_t (okS_t hS))) hbc' hbs' hw
      · exact hw.elim
    case lshl =>
      dsimp only at hw
      split at hw
      · rw [wp1_plain hx rfl]
        exact hgo _ _ _ _ _ _ hL (okS_c (by trivial) (okS_t (okS_t hS))) hbc' hbs' hw
      · exact hw.elim
    case lcmp =>
      dsimp only at hw
      split at hw
      · rw [wp1_plain hx rfl]
        exact hgo _ _ _ _ _ _ hL (okS_c (by trivial) (okS_t (okS_t hS))) hbc' hbs' hw
      · exact hw.elim
    case lneg =>
      dsimp only at hw
      split at hw
      · rw [wp1_plain hx rfl]
        exact hgo _ _ _ _ _ _ hL (okS_c (by trivial) (okS_t hS)) hbc' hbs' hw
      · exact hw.elim
    case i2l =>
      dsimp only at hw
      split at hw
      · rw [wp1_plain hx rfl]
        exact hgo _ _ _ _ _ _ hL (okS_c (by trivial) (okS_t hS)) hbc' hbs' hw
      · exact hw.elim
    case l2i =>
      dsimp only at hw
      split at hw
      · rw [wp1_plain hx rfl]
        exact hgo _ _ _ _ _ _ hL (okS_c (by trivial) (okS_t hS)) hbc' hbs' hw
      · exact hw.elim
    case idiv =>
      dsimp only at hw
      split at hw
      · rename_i y x R
        obtain ⟨h0, hw⟩ := hw
        have e : a_pure .idiv z ((vI y :: vI x :: R).map enc) = some (.int (x / y) :: R.map enc) := by
          show (if y = 0 then none else some _) = _
          rw [if_neg h0]
        rw [wp1_plain hx rfl]
        simp only [a_ret, e]
        exact hgo _ _ _ _ _ _ hL (okS_c (by trivial) (okS_t (okS_t hS))) hbc' hbs' hw
      · exact hw.elim
    case irem =>
      dsimp only at hw
      split at hw
      · rename_i y x R
        obtain ⟨h0, hw⟩ := hw
        have e : a_pure .irem z ((vI y :: vI x :: R).map enc) = some (.int (x - x / y * y) :: R.map enc) := by
          show (if y = 0 then none else some _) = _
          rw [if_neg h0]
        rw [wp1_plain hx rfl]
        simp only [a_ret, e]
        exact hgo _ _ _ _ _ _ hL (okS_c (by trivial) (okS_t (okS_t hS))) hbc' hbs' hw
      · exact hw.elim
    case ldiv =>
      dsimp only at hw
      split at hw
      · rename_i y x R
        obtain ⟨h0, hw⟩ := hw
        have e : a_pure .ldiv z ((vL y :: vL x :: R).map enc) = some (.long (x / y) :: R.map enc) := by
          show (if y = 0 then none else some _) = _
          rw [if_neg h0]
        rw [wp1_plain hx rfl]
        simp only [a_ret, e]
        exact hgo _ _ _ _ _ _ hL (okS_c (by trivial) (okS_t (okS_t hS))) hbc' hbs' hw
      · exact hw.elim
    case lrem =>
      dsimp only at hw
      split at hw
      · rename_i y x R
        obtain ⟨h0, hw⟩ := hw
        have e : a_pure .lrem z ((vL y :: vL x :: R).map enc) = some (.long (x - x / y * y) :: R.map enc) := by
          show (if y = 0 then none else some _) = _
          rw [if_neg h0]
        rw [wp1_plain hx rfl]
        simp only [a_ret, e]
        exact hgo _ _ _ _ _ _ hL (okS_c (by trivial) (okS_t (okS_t hS))) hbc' hbs' hw
      · exact hw.elim
    case dup =>
      dsimp only at hw
      split at hw
      · rw [wp1_plain hx rfl]
        exact hgo _ _ _ _ _ _ hL (okS_c (by trivial) (okS_c (by trivial) (okS_t hS))) hbc' hbs' hw
      · rw [wp1_plain hx rfl]
        exact hgo _ _ _ _ _ _ hL (okS_c (okS_h hS) hS) hbc' hbs' hw
      · exact hw.elim
    case pop =>
      dsimp only at hw
      split at hw
      · rw [wp1_plain hx rfl]
        exact hgo _ _ _ _ _ _ hL (okS_t hS) hbc' hbs' hw
      · rw [wp1_plain hx rfl]
        exact hgo _ _ _ _ _ _ hL (okS_t hS) hbc' hbs' hw
      · exact hw.elim
    case dup2 =>
      dsimp only at hw
      split at hw
      · rename_i x v R
        have e : a_pure .dup2 z ((vL x :: v :: R).map enc) = some ((vL x :: vL x :: v :: R).map enc) := rfl
        rw [wp1_plain hx rfl]
        simp only [a_ret, e]
        exact hgo _ _ _ _ _ _ hL (okS_c (by trivial) hS) hbc' hbs' hw
      · rw [wp1_plain hx rfl]
        exact hgo _ _ _ _ _ _ hL (okS_c (by trivial) (okS_c (okS_h (okS_t hS)) hS)) hbc' hbs' hw
      · exact hw.elim
    case iload k9 =>
      dsimp only at hw
      split at hw
      · rename_i x e
        have e2 : a_load (.iload k9) (mapL L) = some (enc (vI x)) := by simp only [a_load, l_get_map, e]; rfl
        rw [wp1_plain hx rfl]
        simp only [a_ret, a_pure, e2]
        exact hgo _ _ _ _ _ _ hL (okS_c (by trivial) hS) hbc' hbs' hw
      · exact hw.elim
    case iload_n k9 =>
      dsimp only at hw
      split at hw
      · rename_i x e
        have e2 : a_load (.iload_n k9) (mapL L) = some (enc (vI x)) := by simp only [a_load, l_get_map, e]; rfl
        rw [wp1_plain hx rfl]
        simp only [a_ret, a_pure, e2]
        exact hgo _ _ _ _ _ _ hL (okS_c (by trivial) hS) hbc' hbs' hw
      · exact hw.elim
    case lload k9 =>
      dsimp only at hw
      split at hw
      · rename_i x e
        have e2 : a_load (.lload k9) (mapL L) = some (enc (vL x)) := by simp only [a_load, l_get_map, e]; rfl
        rw [wp1_plain hx rfl]
        simp only [a_ret, a_pure, e2]
        exact hgo _ _ _ _ _ _ hL (okS_c (by trivial) hS) hbc' hbs' hw
      · exact hw.elim
    case lload_n k9 =>
      dsimp only at hw
      split at hw
      · rename_i x e
        have e2 : a_load (.lload_n k9) (mapL L) = some (enc (vL x)) := by simp only [a_load, l_get_map, e]; rfl
        rw [wp1_plain hx rfl]
        simp only [a_ret, a_pure, e2]
        exact hgo _ _ _ _ _ _ hL (okS_c (by trivial) hS) hbc' hbs' hw
      · exact hw.elim
    case aload k9 =>
      dsimp only at hw
      split at hw
      · rename_i t q e
        have e2 : a_load (.aload k9) (mapL L) = some (enc (vR t q)) := by simp only [a_load, l_get_map, e]; rfl
        rw [wp1_plain hx rfl]
        simp only [a_ret, a_pure, e2]
        exact hgo _ _ _ _ _ _ hL (okS_c (okL_get hL e) hS) hbc' hbs' hw
      · exact hw.elim
    case aload_n k9 =>
      dsimp only at hw
      split at hw
      · rename_i t q e
        have e2 : a_load (.aload_n k9) (mapL L) = some (enc (vR t q)) := by simp only [a_load, l_get_map, e]; rfl
        rw [wp1_plain hx rfl]
        simp only [a_ret, a_pure, e2]
        exact hgo _ _ _ _ _ _ hL (okS_c (okL_get hL e) hS) hbc' hbs' hw
      · exact hw.elim
    case istore k9 =>
      dsimp only at hw
      split at hw
      · rename_i x R
        obtain ⟨hk, hw⟩ := b_if_spec hw
        rw [decide_eq_true_eq] at hk
        have e2 : a_store (.istore k9) (mapL L) ((vI x :: R).map enc) = some (mapL (l_set1 L k9 (vI x)), R.map enc) := by
          rw [l_set1_map]
          simp only [a_store, List.map_cons, enc, mapL_len]
          rw [if_pos hk]
        rw [wp1_plain hx rfl]
        simp only [a_ret, a_pure, a_load, e2]
        exact hgo _ _ _ _ _ _ (okL_set1 hL (by trivial)) (okS_t hS) hbc' hbs' hw
      · exact hw.elim
    case istore_n k9 =>
      dsimp only at hw
      split at hw
      · rename_i x R
        obtain ⟨hk, hw⟩ := b_if_spec hw
        rw [decide_eq_true_eq] at hk
        have e2 : a_store (.istore_n k9) (mapL L) ((vI x :: R).map enc) = some (mapL (l_set1 L k9 (vI x)), R.map enc) := by
          rw [l_set1_map]
          simp only [a_store, List.map_cons, enc, mapL_len]
          rw [if_pos hk]
        rw [wp1_plain hx rfl]
        simp only [a_ret, a_pure, a_load, e2]
        exact hgo _ _ _ _ _ _ (okL_set1 hL (by trivial)) (okS_t hS) hbc' hbs' hw
      · exact hw.elim
    case lstore k9 =>
      dsimp only at hw
      split at hw
      · rename_i x R
        obtain ⟨hk, hw⟩ := b_if_spec hw
        rw [decide_eq_true_eq] at hk
        have e2 : a_store (.lstore k9) (mapL L) ((vL x :: R).map enc) = some (mapL (l_set2 L k9 (vL x)), R.map enc) := by
          rw [l_set2_map]
          simp only [a_store, List.map_cons, enc, mapL_len]
          rw [if_pos hk]
        rw [wp1_plain hx rfl]
        simp only [a_ret, a_pure, a_load, e2]
        exact hgo _ _ _ _ _ _ (okL_set2 hL (by trivial)) (okS_t hS) hbc' hbs' hw
      · exact hw.elim
    case lstore_n k9 =>
      dsimp only at hw
      split at hw
      · rename_i x R
        obtain ⟨hk, hw⟩ := b_if_spec hw
        rw [decide_eq_true_eq] at hk
        have e2 : a_store (.lstore_n k9) (mapL L) ((vL x :: R).map enc) = some (mapL (l_set2 L k9 (vL x)), R.map enc) := by
          rw [l_set2_map]
          simp only [a_store, List.map_cons, enc, mapL_len]
          rw [if_pos hk]
        rw [wp1_plain hx rfl]
        simp only [a_ret, a_pure, a_load, e2]
        exact hgo _ _ _ _ _ _ (okL_set2 hL (by trivial)) (okS_t hS) hbc' hbs' hw
      · exact hw.elim
    case astore k9 =>
      dsimp only at hw
      split at hw
      · rename_i t q R
        obtain ⟨hk, hw⟩ := b_if_spec hw
        rw [decide_eq_true_eq] at hk
        have e2 : a_store (.astore k9) (mapL L) ((vR t q :: R).map enc) = some (mapL (l_set1 L k9 (vR t q)), R.map enc) := by
          rw [l_set1_map]
          simp only [a_store, List.map_cons, enc, mapL_len]
          rw [if_pos hk]
        rw [wp1_plain hx rfl]
        simp only [a_ret, a_pure, a_load, e2]
        exact hgo _ _ _ _ _ _ (okL_set1 hL (okS_h hS)) (okS_t hS) hbc' hbs' hw
      · exact hw.elim
    case astore_n k9 =>
      dsimp only at hw
      split at hw
      · rename_i t q R
        obtain ⟨hk, hw⟩ := b_if_spec hw
        rw [decide_eq_true_eq] at hk
        have e2 : a_store (.astore_n k9) (mapL L) ((vR t q :: R).map enc) = some (mapL (l_set1 L k9 (vR t q)), R.map enc) := by
          rw [l_set1_map]
          simp only [a_store, List.map_cons, enc, mapL_len]
          rw [if_pos hk]
        rw [wp1_plain hx rfl]
        simp only [a_ret, a_pure, a_load, e2]
        exact hgo _ _ _ _ _ _ (okL_set1 hL (okS_h hS)) (okS_t hS) hbc' hbs' hw
      · exact hw.elim
    case iinc k9 n9 =>
      dsimp only at hw
      split at hw
      · rename_i x e
        obtain ⟨hk, hw⟩ := b_if_spec hw
        rw [decide_eq_true_eq] at hk
        have e2 : a_store (.iinc k9 n9) (mapL L) (S.map enc) = some (mapL (l_set1 L k9 (vI (x + Int32.ofInt n9))), S.map enc) := by
          rw [l_set1_map]
          simp only [a_store, l_get_map, e, Option.map_some, enc, mapL_len]
          rw [if_pos hk]
        rw [wp1_plain hx rfl]
        simp only [a_ret, a_pure, a_load, e2]
        exact hgo _ _ _ _ _ _ (okL_set1 hL (by trivial)) hS hbc' hbs' hw
      · exact hw.elim
    case goto o9 =>
      dsimp only at hw
      rw [wp1_plain hx rfl]
      exact hgo _ _ _ _ _ _ hL hS hbc' hbs' hw
    case ifCond cd o9 =>
      cases cd <;> dsimp only at hw
      case eq =>
        split at hw
        · rename_i x R
          rw [wp1_plain hx rfl]
          show wp1 xs C1 MT tbl rt Q1 n (if (decide (x = 0)) = true then a else i + 1) (mapL L) (R.map enc) (toH m) bc bs
          by_cases h9 : x = 0
          · rw [if_pos (decide_eq_true h9)]; exact hgo _ _ _ _ _ _ hL (okS_t hS) hbc' hbs' (hw.1 h9)
          · rw [if_neg (by rw [decide_eq_true_eq]; exact h9)]; exact hgo _ _ _ _ _ _ hL (okS_t hS) hbc' hbs' (hw.2 h9)
        · exact hw.elim
      case ne =>
        split at hw
        · rename_i x R
          rw [wp1_plain hx rfl]
          show wp1 xs C1 MT tbl rt Q1 n (if (!decide (x = 0)) = true then a else i + 1) (mapL L) (R.map enc) (toH m) bc bs
          by_cases h9 : x = 0
          · rw [if_neg (by simp [h9])]; exact hgo _ _ _ _ _ _ hL (okS_t hS) hbc' hbs' (hw.2 h9)
          · rw [if_pos (by simp [h9])]; exact hgo _ _ _ _ _ _ hL (okS_t hS) hbc' hbs' (hw.1 h9)
        · exact hw.elim
      case lt =>
        split at hw
        · rename_i x R
          rw [wp1_plain hx rfl]
          show wp1 xs C1 MT tbl rt Q1 n (if (decide (x < 0)) = true then a else i + 1) (mapL L) (R.map enc) (toH m) bc bs
          by_cases h9 : x < 0
          · rw [if_pos (decide_eq_true h9)]; exact hgo _ _ _ _ _ _ hL (okS_t hS) hbc' hbs' (hw.1 h9)
          · rw [if_neg (by rw [decide_eq_true_eq]; exact h9)]; exact hgo _ _ _ _ _ _ hL (okS_t hS) hbc' hbs' (hw.2 h9)
        · exact hw.elim
      case ge =>
        split at hw
        · rename_i x R
          rw [wp1_plain hx rfl]
          show wp1 xs C1 MT tbl rt Q1 n (if (decide (0 ≤ x)) = true then a else i + 1) (mapL L) (R.map enc) (toH m) bc bs
          by_cases h9 : 0 ≤ x
          · rw [if_pos (decide_eq_true h9)]; exact hgo _ _ _ _ _ _ hL (okS_t hS) hbc' hbs' (hw.1 h9)
          · rw [if_neg (by rw [decide_eq_true_eq]; exact h9)]; exact hgo _ _ _ _ _ _ hL (okS_t hS) hbc' hbs' (hw.2 h9)
        · exact hw.elim
      case gt =>
        split at hw
        · rename_i x R
          rw [wp1_plain hx rfl]
          show wp1 xs C1 MT tbl rt Q1 n (if (decide (0 < x)) = true then a else i + 1) (mapL L) (R.map enc) (toH m) bc bs
          by_cases h9 : 0 < x
          · rw [if_pos (decide_eq_true h9)]; exact hgo _ _ _ _ _ _ hL (okS_t hS) hbc' hbs' (hw.1 h9)
          · rw [if_neg (by rw [decide_eq_true_eq]; exact h9)]; exact hgo _ _ _ _ _ _ hL (okS_t hS) hbc' hbs' (hw.2 h9)
        · exact hw.elim
      case le =>
        split at hw
        · rename_i x R
          rw [wp1_plain hx rfl]
          show wp1 xs C1 MT tbl rt Q1 n (if (decide (x ≤ 0)) = true then a else i + 1) (mapL L) (R.map enc) (toH m) bc bs
          by_cases h9 : x ≤ 0
          · rw [if_pos (decide_eq_true h9)]; exact hgo _ _ _ _ _ _ hL (okS_t hS) hbc' hbs' (hw.1 h9)
          · rw [if_neg (by rw [decide_eq_true_eq]; exact h9)]; exact hgo _ _ _ _ _ _ hL (okS_t hS) hbc' hbs' (hw.2 h9)
        · exact hw.elim
    case if_icmp cd o9 =>
      cases cd <;> dsimp only at hw
      case eq =>
        split at hw
        · rename_i y x R
          rw [wp1_plain hx rfl]
          show wp1 xs C1 MT tbl rt Q1 n (if (decide (x = y)) = true then a else i + 1) (mapL L) (R.map enc) (toH m) bc bs
          by_cases h9 : x = y
          · rw [if_pos (decide_eq_true h9)]; exact hgo _ _ _ _ _ _ hL (okS_t (okS_t hS)) hbc' hbs' (hw.1 h9)
          · rw [if_neg (by rw [decide_eq_true_eq]; exact h9)]; exact hgo _ _ _ _ _ _ hL (okS_t (okS_t hS)) hbc' hbs' (hw.2 h9)
        · exact hw.elim
      case ne =>
        split at hw
        · rename_i y x R
          rw [wp1_plain hx rfl]
          show wp1 xs C1 MT tbl rt Q1 n (if (!decide (x = y)) = true then a else i + 1) (mapL L) (R.map enc) (toH m) bc bs
          by_cases h9 : x = y
          · rw [if_neg (by simp [h9])]; exact hgo _ _ _ _ _ _ hL (okS_t (okS_t hS)) hbc' hbs' (hw.2 h9)
          · rw [if_pos (by simp [h9])]; exact hgo _ _ _ _ _ _ hL (okS_t (okS_t hS)) hbc' hbs' (hw.1 h9)
        · exact hw.elim
      case lt =>
        split at hw
        · rename_i y x R
          rw [wp1_plain hx rfl]
          show wp1 xs C1 MT tbl rt Q1 n (if (decide (x < y)) = true then a else i + 1) (mapL L) (R.map enc) (toH m) bc bs
          by_cases h9 : x < y
          · rw [if_pos (decide_eq_true h9)]; exact hgo _ _ _ _ _ _ hL (okS_t (okS_t hS)) hbc' hbs' (hw.1 h9)
          · rw [if_neg (by rw [decide_eq_true_eq]; exact h9)]; exact hgo _ _ _ _ _ _ hL (okS_t (okS_t hS)) hbc' hbs' (hw.2 h9)
        · exact hw.elim
      case ge =>
        split at hw
        · rename_i y x R
          rw [wp1_plain hx rfl]
          show wp1 xs C1 MT tbl rt Q1 n (if (decide (y ≤ x)) = true then a else i + 1) (mapL L) (R.map enc) (toH m) bc bs
          by_cases h9 : y ≤ x
          · rw [if_pos (decide_eq_true h9)]; exact hgo _ _ _ _ _ _ hL (okS_t (okS_t hS)) hbc' hbs' (hw.1 h9)
          · rw [if_neg (by rw [decide_eq_true_eq]; exact h9)]; exact hgo _ _ _ _ _ _ hL (okS_t (okS_t hS)) hbc' hbs' (hw.2 h9)
        · exact hw.elim
      case gt =>
        split at hw
        · rename_i y x R
          rw [wp1_plain hx rfl]
          show wp1 xs C1 MT tbl rt Q1 n (if (decide (y < x)) = true then a else i + 1) (mapL L) (R.map enc) (toH m) bc bs
          by_cases h9 : y < x
          · rw [if_pos (decide_eq_true h9)]; exact hgo _ _ _ _ _ _ hL (okS_t (okS_t hS)) hbc' hbs' (hw.1 h9)
          · rw [if_neg (by rw [decide_eq_true_eq]; exact h9)]; exact hgo _ _ _ _ _ _ hL (okS_t (okS_t hS)) hbc' hbs' (hw.2 h9)
        · exact hw.elim
      case le =>
        split at hw
        · rename_i y x R
          rw [wp1_plain hx rfl]
          show wp1 xs C1 MT tbl rt Q1 n (if (decide (x ≤ y)) = true then a else i + 1) (mapL L) (R.map enc) (toH m) bc bs
          by_cases h9 : x ≤ y
          · rw [if_pos (decide_eq_true h9)]; exact hgo _ _ _ _ _ _ hL (okS_t (okS_t hS)) hbc' hbs' (hw.1 h9)
          · rw [if_neg (by rw [decide_eq_true_eq]; exact h9)]; exact hgo _ _ _ _ _ _ hL (okS_t (okS_t hS)) hbc' hbs' (hw.2 h9)
        · exact hw.elim
    case tableswitch d9 lo9 hi9 offs =>
      dsimp only at hw
      split at hw
      · rename_i x R
        split at hw
        · rename_i d r
          obtain ⟨hk, h1, h2⟩ := b_if_spec hw
          rw [decide_eq_true_eq] at hk
          rw [(wp1_call hx).2.2.2 _ _ _ _ rfl]
          show (match a_sw lo9 hi9 (d :: r) x with | some j => wp1 xs C1 MT tbl rt Q1 n j (mapL L) (R.map enc) (toH m) bc bs | none => False)
          unfold a_sw
          by_cases h9 : x.toInt < lo9 ∨ hi9 < x.toInt
          · rw [if_pos h9]
            exact hgo _ _ _ _ _ _ hL (okS_t hS) hbc' hbs' (h1 h9)
          · rw [if_neg h9, List.getElem?_cons_succ]
            have hlt : (x.toInt - lo9).toNat < r.length := by omega
            rw [List.getElem?_eq_getElem hlt]
            exact hgo _ _ _ _ _ _ hL (okS_t hS) hbc' hbs' (sws_spec (k := (x.toInt - lo9).toNat) h2 (List.getElem?_eq_getElem hlt) (by omega))
        · exact hw.elim
      · exact hw.elim
    case getfield idx =>
      dsimp only at hw
      split at hw
      · rename_i t q R
        obtain ⟨hk, hw⟩ := b_if_spec hw
        simp only [Bool.and_eq_true, decide_eq_true_eq] at hk
        obtain ⟨⟨k0, k1⟩, k2⟩ := hk
        have h99 := g_ne99 k0 (by decide)
        have hq := okV_lt (okS_h hS) h99
        subst k1
        have e2 : a_read xs (.getfield idx, pc, len, g_cls t, b, z, tg) ((vR t q :: R).map enc) (toH m) = some (fval m t q (g_cls t) b :: R.map enc) := by
          simp only [a_read, List.map_cons, enc_ref h99, toH_at hq, g_cell0 k0]
          simp [k2]
        rw [wp1_plain hx rfl]
        simp only [a_ret, a_pure, a_load, a_store, a_br, e2]
        split at hw
        · rename_i e3
          rw [fval_long e3]
          exact hgo _ _ _ _ _ _ hL (okS_c (by trivial) (okS_t hS)) hbc' hbs' hw
        · rename_i e3
          rw [fval_ref e3]
          exact hgo _ _ _ _ _ _ hL (okS_c (show okV (vR _ _) from Or.inr (g_F3 k0 k2 e3 hq).1) (okS_t hS)) hbc' hbs' hw
        · rename_i n2 n3
          have e3 : g_fk (g_cls t) b = 0 ∨ g_fk (g_cls t) b = 1 := by
            unfold g_fk at n2 n3 ⊢
            split <;> simp_all
          rw [fval_int e3]
          exact hgo _ _ _ _ _ _ hL (okS_c (by trivial) (okS_t hS)) hbc' hbs' hw
      · exact hw.elim
    case putfield idx =>
      dsimp only at hw
      split at hw
      · rename_i v t q R
        obtain ⟨hk, hw⟩ := b_if_spec hw
        simp only [Bool.and_eq_true, decide_eq_true_eq] at hk
        obtain ⟨⟨k0, k1⟩, k2⟩ := hk
        have h99 := g_ne99 k0 (by decide)
        have hq := okV_lt (okS_h (okS_t hS)) h99
        subst k1
        have key : (g_fk (g_cls t) b = 0 ∨ g_fk (g_cls t) b = 1) → a_fit (a_ty (g_cls t) b) (.int v) = true → go (i + 1) L R (mI m t q b v) → wp1 xs C1 MT tbl rt Q1 (n + 1) i (mapL L) ((vI v :: vR t q :: R).map enc) (toH m) bc bs := by
          intro hfk hfit hw
          have e2 : a_write (.putfield idx, pc, len, g_cls t, b, z, tg) ((vI v :: vR t q :: R).map enc) (toH m) = some (R.map enc, toH (mI m t q b v)) := by
            rw [toH_put (v := .int v) (k := b) k0 hq k2 mI_ne (by rw [fval_int hfk, mI_at]; simp [upd]) (fun k' hk' => fval_ne (by rw [mI_at]; simp [upd, hk']) rfl)]
            simp only [a_write, List.map_cons, enc_ref h99, toH_at hq, g_cell0 k0]
            simp [k2, enc_i, hfit]
          rw [wp1_plain hx rfl]
          simp only [a_ret, a_pure, a_load, a_store, a_br, a_read, e2]
          exact hgo _ _ _ _ _ _ hL (okS_t (okS_t hS)) hbc' hbs' hw
        split at hw
        · rename_i e3
          exact key (Or.inl e3) (fit_int e3) hw
        · rename_i e3
          exact key (Or.inr e3) (fit_bool e3 hw.1) hw.2
        · exact hw.elim
      · rename_i v t q R
        obtain ⟨hk, hw⟩ := b_if_spec hw
        simp only [Bool.and_eq_true, decide_eq_true_eq] at hk
        obtain ⟨⟨k0, k1⟩, k2⟩ := hk
        have h99 := g_ne99 k0 (by decide)
        have hq := okV_lt (okS_h (okS_t hS)) h99
        subst k1
        split at hw
        · rename_i e3
          have e2 : a_write (.putfield idx, pc, len, g_cls t, b, z, tg) ((vL v :: vR t q :: R).map enc) (toH m) = some (R.map enc, toH (mL m t q b v)) := by
            rw [toH_put (v := .long v) (k := b) k0 hq k2 mL_ne (by rw [fval_long e3, mL_at]; simp [vp_updL]) (fun k' hk' => fval_ne rfl (by rw [mL_at]; simp [vp_updL, hk']))]
            simp only [a_write, List.map_cons, enc_ref h99, toH_at hq, g_cell0 k0]
            simp [k2, enc_l, fit_long e3]
          rw [wp1_plain hx rfl]
          simp only [a_ret, a_pure, a_load, a_store, a_br, a_read, e2]
          exact hgo _ _ _ _ _ _ hL (okS_t (okS_t hS)) hbc' hbs' hw
        · exact hw.elim
      · exact hw.elim
    case iaload =>
      dsimp only at hw
      split at hw
      · rename_i j t q R
        split at hw
        · rename_i h9
          rw [decide_eq_true_eq] at h9
          subst h9
          obtain ⟨hin, hw⟩ := hw
          have e2 : a_read xs (.iaload, pc, len, a, b, z, tg) ((vI j :: vR 99 q :: R).map enc) (toH m) = some (.int (xs.2 j.toNatClampNeg) :: R.map enc) := by
            have h : a_read xs (.iaload, pc, len, a, b, z, tg) ((vI j :: vR 99 q :: R).map enc) (toH m) = (if ¬ (j < 0 ∨ xs.1 ≤ j.toNatClampNeg) then some (.int (xs.2 j.toNatClampNeg) :: R.map enc) else none) := rfl
            rw [h, if_pos (show ¬ (j < 0 ∨ xs.1 ≤ j.toNatClampNeg) from hin)]
          rw [wp1_plain hx rfl]
          simp only [a_ret, a_pure, a_load, a_store, a_br, e2]
          exact hgo _ _ _ _ _ _ hL (okS_c (by trivial) (okS_t (okS_t hS))) hbc' hbs' hw
        · obtain ⟨hk, hin, hw⟩ := b_if_spec hw
          rw [decide_eq_true_eq] at hk
          have h99 := g_ne99 hk (by decide)
          have hq := okV_lt (okS_h (okS_t hS)) h99
          have hat := (g_F1 hq).2
          have e2 : a_read xs (.iaload, pc, len, a, b, z, tg) ((vI j :: vR t q :: R).map enc) (toH m) = some (.int (m.1 t q j.toNatClampNeg) :: R.map enc) := by
            simp only [a_read, List.map_cons, enc_ref h99, toH_at hq, g_cell1 hk, enc_i, enc_l]
            rw [if_neg (show ¬ g_at t q = sCR by unfold sCR; omega)]
            rw [if_pos ⟨trivial, hin⟩]
          rw [wp1_plain hx rfl]
          simp only [a_ret, a_pure, a_load, a_store, a_br, e2]
          exact hgo _ _ _ _ _ _ hL (okS_c (by trivial) (okS_t (okS_t hS))) hbc' hbs' hw
      · exact hw.elim
    case laload =>
      dsimp only at hw
      split at hw
      · rename_i j t q R
        obtain ⟨hk, hin, hw⟩ := b_if_spec hw
        rw [decide_eq_true_eq] at hk
        have h99 := g_ne99 hk (by decide)
        have hq := okV_lt (okS_h (okS_t hS)) h99
        have e2 : a_read xs (.laload, pc, len, a, b, z, tg) ((vI j :: vR t q :: R).map enc) (toH m) = some (.long (m.2 t q j.toNatClampNeg) :: R.map enc) := by
          simp only [a_read, List.map_cons, enc_ref h99, toH_at hq, g_cell2 hk, enc_i, enc_l]
          rw [if_pos ⟨trivial, hin⟩]
        rw [wp1_plain hx rfl]
        simp only [a_ret, a_pure, a_load, a_store, a_br, e2]
        exact hgo _ _ _ _ _ _ hL (okS_c (by trivial) (okS_t (okS_t hS))) hbc' hbs' hw
      · exact hw.elim
    case aaload =>
      dsimp only at hw
      split at hw
      · rename_i j t q R
        obtain ⟨hk, hin, hw⟩ := b_if_spec hw
        rw [decide_eq_true_eq] at hk
        have h99 := g_ne99 hk (by decide)
        have hq := okV_lt (okS_h (okS_t hS)) h99
        have hlt : j.toNatClampNeg < g_len t := Nat.not_le.mp fun z => hin (Or.inr z)
        obtain ⟨f1, f2⟩ := g_F4 t (g_lt hq) hk
        obtain ⟨f3, f4⟩ := f2 q hq _ hlt
        have e2 : a_read xs (.aaload, pc, len, a, b, z, tg) ((vI j :: vR t q :: R).map enc) (toH m) = some (enc (vR (g_ra t q j.toNatClampNeg).1 (g_ra t q j.toNatClampNeg).2) :: R.map enc) := by
          simp only [a_read, List.map_cons, enc_ref h99, toH_at hq, g_cell3 hk, enc_ref f4, enc_i]
          rw [if_pos ⟨f1, hin⟩, if_pos hlt]
        rw [wp1_plain hx rfl]
        simp only [a_ret, a_pure, a_load, a_store, a_br, e2]
        exact hgo _ _ _ _ _ _ hL (okS_c (show okV (vR _ _) from Or.inr f3) (okS_t (okS_t hS))) hbc' hbs' hw
      · exact hw.elim
    case iastore =>
      dsimp only at hw
      split at hw
      · rename_i v j t q R
        obtain ⟨hk, hin, hw⟩ := b_if_spec hw
        rw [decide_eq_true_eq] at hk
        have h99 := g_ne99 hk (by decide)
        have hq := okV_lt (okS_h (okS_t (okS_t hS))) h99
        have e2 : a_write (.iastore, pc, len, a, b, z, tg) ((vI v :: vI j :: vR t q :: R).map enc) (toH m) = some (R.map enc, toH (mI m t q j.toNatClampNeg v)) := by
          rw [toH_set hq mI_ne, g_cell1 hk, mI_at]
          simp only [a_write, List.map_cons, enc_ref h99, toH_at hq, g_cell1 hk, enc_i, enc_l]
          rw [if_pos ⟨trivial, hin⟩]
        rw [wp1_plain hx rfl]
        simp only [a_ret, a_pure, a_load, a_store, a_br, a_read, e2]
        exact hgo _ _ _ _ _ _ hL (okS_t (okS_t (okS_t hS))) hbc' hbs' hw
      · exact hw.elim
    case lastore =>
      dsimp only at hw
      split at hw
      · rename_i v j t q R
        obtain ⟨hk, hin, hw⟩ := b_if_spec hw
        rw [decide_eq_true_eq] at hk
        have h99 := g_ne99 hk (by decide)
        have hq := okV_lt (okS_h (okS_t (okS_t hS))) h99
        have e2 : a_write (.lastore, pc, len, a, b, z, tg) ((vL v :: vI j :: vR t q :: R).map enc) (toH m) = some (R.map enc, toH (mL m t q j.toNatClampNeg v)) := by
          rw [toH_set hq mL_ne, g_cell2 hk, mL_at]
          simp only [a_write, List.map_cons, enc_ref h99, toH_at hq, g_cell2 hk, enc_i, enc_l]
          rw [if_pos ⟨trivial, hin⟩]
        rw [wp1_plain hx rfl]
        simp only [a_ret, a_pure, a_load, a_store, a_br, a_read, e2]
        exact hgo _ _ _ _ _ _ hL (okS_t (okS_t (okS_t hS))) hbc' hbs' hw
      · exact hw.elim
    case arraylength =>
      dsimp only at hw
      split at hw
      · rename_i t q R
        split at hw
        · rename_i h9
          rw [decide_eq_true_eq] at h9
          subst h9
          have e2 : a_read xs (.arraylength, pc, len, a, b, z, tg) ((vR 99 q :: R).map enc) (toH m) = some (.int (Int32.ofNat xs.1) :: R.map enc) := rfl
          rw [wp1_plain hx rfl]
          simp only [a_ret, a_pure, a_load, a_store, a_br, e2]
          exact hgo _ _ _ _ _ _ hL (okS_c (by trivial) (okS_t hS)) hbc' hbs' hw
        · obtain ⟨hk, hw⟩ := b_if_spec hw
          simp only [Bool.or_eq_true, decide_eq_true_eq] at hk
          have h99 : t ≠ 99 := hk.elim (fun z => g_ne99 z (by decide)) (fun z => g_ne99 z (by decide))
          have hq := okV_lt (okS_h hS) h99
          have hat := (g_F1 hq).2
          have e2 : a_read xs (.arraylength, pc, len, a, b, z, tg) ((vR t q :: R).map enc) (toH m) = some (.int (Int32.ofNat (g_len t)) :: R.map enc) := by
            simp only [a_read, List.map_cons, enc_ref h99]
            rw [if_neg (show ¬ g_at t q = sCR by unfold sCR; omega), toH_at hq]
            rcases hk with hk | hk
            · rw [g_cell1 hk]
            · rw [g_cell2 hk]
          rw [wp1_plain hx rfl]
          simp only [a_ret, a_pure, a_load, a_store, a_br, e2]
          exact hgo _ _ _ _ _ _ hL (okS_c (by trivial) (okS_t hS)) hbc' hbs' hw
      · exact hw.elim
    case invokevirtual idx =>
      dsimp only at hw
      obtain ⟨hk, hw⟩ := b_if_spec hw
      simp only [Bool.and_eq_true, decide_eq_true_eq] at hk
      obtain ⟨⟨⟨k0, k1⟩, k2⟩, k3⟩ := hk
      have hoA : okS (S.take b).reverse := fun v hv => hS v (List.mem_of_mem_take (List.mem_reverse.mp hv))
      have hoR : okS (S.drop b) := fun v hv => hS v (List.mem_of_mem_drop hv)
      obtain ⟨M, m1, m2, m3, m4⟩ := hC _ _ _ _ hoA hw
      have eA : ((S.map enc).take b).reverse = (S.take b).reverse.map enc := by rw [← List.map_take, List.map_reverse]
      rw [(wp1_call hx).1 _ rfl]
      dsimp only
      rw [eA, ← List.map_drop, List.length_map]
      refine ⟨?_, by rw [c_words_eq]; exact k1, k0, M, m1, by omega, by omega, hmC _ _ _ _ _ (aft M _ _ m2 m3 hoR) m4⟩
      split at k3
      · rename_i t q As e
        simp only [Bool.and_eq_true, decide_eq_true_eq] at k3
        rw [e] at hoA ⊢
        have h99 := g_ne99 k3.1 (by decide)
        have hq := okV_lt (okS_h hoA) h99
        simp only [a_rcv, List.map_cons, enc_ref h99, toH_at hq, g_cell0 k3.1]
        exact decide_eq_true k3.2
      · cases k3
    case invokestatic idx =>
      dsimp only at hw
      split at hw
      · rename_i h9
        rw [decide_eq_true_eq] at h9
        subst h9
        split at hw
        · rename_i n8 dp t2 i2 sp t q R
          obtain ⟨hk, hw⟩ := b_if_spec hw
          rw [decide_eq_true_eq] at hk
          rw [(wp1_call hx).2.1 _ rfl]
          dsimp only
          rw [if_pos rfl]
          have hq2 : okV (vR t2 i2) := okS_h (okS_t (okS_t hS))
          have hq1 : okV (vR t q) := okS_h (okS_t (okS_t (okS_t (okS_t hS))))
          have hoR : okS R := okS_t (okS_t (okS_t (okS_t (okS_t hS))))
          unfold b_copy at hw
          split at hw
          · rename_i c1 c2
            obtain ⟨⟨u1, u2, u3, u4, u5⟩, hw⟩ := hw
            have g1 := okV_lt hq1 (g_ne99 c1 (by decide))
            have g2 := okV_lt hq2 (g_ne99 c2 (by decide))
            refine ⟨R.map enc, _, ?_, by rw [c_words_eq]; exact hk, hgo _ _ _ _ _ _ hL hoR hbc' hbs' hw⟩
            have eH : toH ((fun a b => if a = t2 ∧ b = i2 then va_cpy (m.1 t q) (m.1 t2 i2) sp.toNatClampNeg dp.toNatClampNeg n8.toNatClampNeg else m.1 a b, m.2) : Mem) = _ := toH_set (m := m) g2 (fun t' i' h9 => ⟨if_neg h9, rfl⟩)
            rw [eH, g_cell1 c2]
            simp only [a_copy, List.map_cons, enc_ref (g_ne99 c1 (by decide)), enc_ref (g_ne99 c2 (by decide)), toH_at g1, toH_at g2, g_cell1 c1, g_cell1 c2, enc_i]
            rw [if_pos ⟨trivial, trivial, u1, u2, u3, u4, u5⟩]
            simp
          · rename_i c1 c2
            obtain ⟨⟨u1, u2, u3, u4, u5⟩, hw⟩ := hw
            have g1 := okV_lt hq1 (g_ne99 c1 (by decide))
            have g2 := okV_lt hq2 (g_ne99 c2 (by decide))
            refine ⟨R.map enc, _, ?_, by rw [c_words_eq]; exact hk, hgo _ _ _ _ _ _ hL hoR hbc' hbs' hw⟩
            have eH : toH ((m.1, fun a b => if a = t2 ∧ b = i2 then va_cpy (m.2 t q) (m.2 t2 i2) sp.toNatClampNeg dp.toNatClampNeg n8.toNatClampNeg else m.2 a b) : Mem) = _ := toH_set (m := m) g2 (fun t' i' h9 => ⟨rfl, if_neg h9⟩)
            rw [eH, g_cell2 c2]
            simp only [a_copy, List.map_cons, enc_ref (g_ne99 c1 (by decide)), enc_ref (g_ne99 c2 (by decide)), toH_at g1, toH_at g2, g_cell2 c1, g_cell2 c2, enc_i]
            rw [if_pos ⟨trivial, trivial, u1, u2, u3, u4, u5⟩]
            simp
          · exact hw.elim
        · exact hw.elim
      · rename_i h9
        rw [decide_eq_false_iff_not] at h9
        obtain ⟨hk, hw⟩ := b_if_spec hw
        simp only [Bool.and_eq_true, decide_eq_true_eq] at hk
        obtain ⟨k0, k1⟩ := hk
        have hoA : okS (S.take b).reverse := fun v hv => hS v (List.mem_of_mem_take (List.mem_reverse.mp hv))
        have hoR : okS (S.drop b) := fun v hv => hS v (List.mem_of_mem_drop hv)
        obtain ⟨M, m1, m2, m3, m4⟩ := hC _ _ _ _ hoA hw
        have eA : ((S.map enc).take b).reverse = (S.take b).reverse.map enc := by rw [← List.map_take, List.map_reverse]
        rw [(wp1_call hx).2.1 _ rfl]
        dsimp only
        rw [if_neg h9, eA, ← List.map_drop, List.length_map]
        exact ⟨by rw [c_words_eq]; exact k1, k0, M, m1, by omega, by omega, hmC _ _ _ _ _ (aft M _ _ m2 m3 hoR) m4⟩
    case ireturn =>
      dsimp only at hw
      split at hw
      · rename_i v
        split at hw
        · have e : a_ret .ireturn (some .int) ([vI v].map enc) = some (some (.int v)) := by
            have h : a_ret .ireturn (some .int) ([vI v].map enc) = (if narrow .int (.int v) = .int v then some (some (.int v)) else none) := rfl
            rw [h, if_pos (show narrow .int (.int v) = .int v from rfl)]
          rw [wp1_plain hx rfl]
          simp only [e]
          exact hQ _ _ (fun w q => by cases q; trivial) hw
        · have e : a_ret .ireturn (some .boolean) ([vI v].map enc) = some (some (.int v)) := by
            have h : a_ret .ireturn (some .boolean) ([vI v].map enc) = (if narrow .boolean (.int v) = .int v then some (some (.int v)) else none) := rfl
            rw [h, if_pos (narrow_b hw.1)]
          rw [wp1_plain hx rfl]
          simp only [e]
          exact hQ _ _ (fun w q => by cases q; trivial) hw.2
        · exact hw.elim
      · exact hw.elim
    case lreturn =>
      dsimp only at hw
      split at hw
      · split at hw
        · rw [wp1_plain hx rfl]
          exact hQ _ _ (fun w q => by cases q; trivial) hw
        · exact hw.elim
      · exact hw.elim
    case areturn =>
      dsimp only at hw
      split at hw
      · split at hw
        · rw [wp1_plain hx rfl]
          exact hQ _ _ (fun w q => by cases q; exact okS_h hS) hw
        · exact hw.elim
      · exact hw.elim
    case return_ =>
      dsimp only at hw
      split at hw
      · split at hw
        · rw [wp1_plain hx rfl]
          exact hQ _ _ hok0 hw
        · exact hw.elim
      · exact hw.elim
theorem w21i {cuts : List Nat} {K : Nat → L2 → List v2 → Mem → Prop} {F : Nat}
    (hC : ∀ (j : Nat) args m Q, okS args → C2 j args m Q → ∃ M, MT[j]? = some M ∧ M.2.2.2.2.2.1.1 ≤ cc ∧ M.2.2.2.2.2.1.2 ≤ cs ∧ C1 j (args.map enc) (toH m) (fun r h => ∃ r2 m2, r = r2.map enc ∧ h = toH m2 ∧ (∀ v, r2 = some v → okV v) ∧ Q r2 m2))
    (hmC : ∀ j a h Q Q', (∀ r h', Q r h' → Q' r h') → C1 j a h Q → C1 j a h Q')
    (hQ : ∀ r m, (∀ v, r = some v → okV v) → Q2 r m → Q1 (r.map enc) (toH m))
    (hK : ∀ i L S m bc bs, okL L → okS S → lo ≤ bc → ls ≤ bs → K i L S m → wp1 xs C1 MT tbl rt Q1 F i (mapL L) (S.map enc) (toH m) bc bs) :
    ∀ (k i : Nat) (L : L2) (S : List v2) (m : Mem) (bc bs : Nat), okL L → okS S → lo + cc * k ≤ bc → ls + cs * k ≤ bs → wp2i xs C2 tbl cuts rt Q2 K k i L S m → wp1 xs C1 MT tbl rt Q1 (F + k) i (mapL L) (S.map enc) (toH m) bc bs := by
  intro k
  induction k with
  | zero => intro i L S m bc bs _ _ _ _ hw; exact hw.elim
  | succ k ih =>
    intro i L S m bc bs hL hS hbc hbs hw
    unfold wp2i at hw
    split at hw
    · exact hw.elim
    rename_i x hx
    rw [Nat.mul_succ] at hbc hbs
    refine st21 (lo := lo + cc * k) (ls := ls + cs * k) hC hmC hQ (fun j L S m bc bs a1 a2 a3 a4 h => ?_) hx hL hS (by omega) (by omega) hw
    split at h
    · exact wp1_mono hmC (fun _ _ q => q) F _ _ _ _ _ bc bs bc bs (Nat.le_add_right _ _) (Nat.le_refl _) (Nat.le_refl _) (hK j L S m bc bs a1 a2 (by omega) (by omega) h)
    · exact ih j L S m bc bs a1 a2 a3 a4 h
theorem w21n {cuts : List Nat} {kf : Nat}
    (hC : ∀ (j : Nat) args m Q, okS args → C2 j args m Q → ∃ M, MT[j]? = some M ∧ M.2.2.2.2.2.1.1 ≤ cc ∧ M.2.2.2.2.2.1.2 ≤ cs ∧ C1 j (args.map enc) (toH m) (fun r h => ∃ r2 m2, r = r2.map enc ∧ h = toH m2 ∧ (∀ v, r2 = some v → okV v) ∧ Q r2 m2))
    (hmC : ∀ j a h Q Q', (∀ r h', Q r h' → Q' r h') → C1 j a h Q → C1 j a h Q')
    (hQ : ∀ r m, (∀ v, r = some v → okV v) → Q2 r m → Q1 (r.map enc) (toH m)) :
    ∀ (n i : Nat) (L : L2) (S : List v2) (m : Mem) (bc bs : Nat), okL L → okS S → cc * kf * n ≤ bc → cs * kf * n ≤ bs → wp2 kf xs C2 tbl cuts rt Q2 n i L S m → wp1 xs C1 MT tbl rt Q1 (kf * n) i (mapL L) (S.map enc) (toH m) bc bs := by
  intro n
  induction n with
  | zero => intro i L S m bc bs _ _ _ _ hw; exact hw.elim
  | succ n ih =>
    intro i L S m bc bs hL hS hbc hbs hw
    rw [Nat.mul_succ] at hbc hbs ⊢
    exact w21i (lo := cc * kf * n) (ls := cs * kf * n) hC hmC hQ (fun i L S m bc bs a1 a2 a3 a4 h => ih i L S m bc bs a1 a2 a3 a4 h) kf i L S m bc bs hL hS hbc hbs hw
end W21
theorem g_args_map : ∀ vs : List v2, a_args (vs.map enc) = mapL (g_args vs)
  | [] => rfl
  | .inl x :: r => by
    have := g_args_map r
    show some (Value.int x) :: a_args (r.map enc) = some (Value.int x) :: mapL (g_args r)
    rw [this]
  | .inr (.inl x) :: r => by
    have := g_args_map r
    show some (Value.long x) :: none :: a_args (r.map enc) = some (Value.long x) :: none :: mapL (g_args r)
    rw [this]
  | .inr (.inr (t, i)) :: r => by
    have := g_args_map r
    show some (enc (vR t i)) :: a_args (r.map enc) = some (enc (vR t i)) :: mapL (g_args r)
    rw [this]
theorem g_locals_map (n : Nat) (vs : List v2) : a_locals n (vs.map enc) = mapL (g_locals n vs) := by
  unfold a_locals g_locals
  rw [g_args_map, mapL_len]
  unfold mapL
  rw [List.map_append, List.map_replicate]; rfl
theorem okL_args : ∀ {vs : List v2}, okS vs → okL (g_args vs)
  | [], _ => fun v h => by cases h
  | .inl x :: r, h => fun v hv => (List.mem_cons.mp hv).elim (fun q => by cases q; trivial) (okL_args (okS_t h) v)
  | .inr (.inl x) :: r, h => fun v hv => (List.mem_cons.mp hv).elim (fun q => by cases q; trivial) (fun hv => (List.mem_cons.mp hv).elim (fun q => by cases q) (okL_args (okS_t h) v))
  | .inr (.inr (t, i)) :: r, h => fun v hv => (List.mem_cons.mp hv).elim (fun q => by cases q; exact okS_h h) (okL_args (okS_t h) v)
theorem okL_locals {n : Nat} {vs : List v2} (h : okS vs) : okL (g_locals n vs) := fun v hv => by
  rcases List.mem_append.mp hv with q | q
  · exact okL_args h v q
  · have := List.eq_of_mem_replicate q
    cases this
/-- a call of M2 is a call of M1 -/
theorem c21 {xs : Nat × (Nat → Int32)} {P : Nat → Nat → List Value → aH → (Option Value → aH → Prop) → Prop} (hP : ∀ d j a h Q Q', (∀ r h', Q r h' → Q' r h') → P d j a h Q → P d j a h Q') :
    ∀ (d j : Nat) (args : List v2) (m : Mem) (Q : Option v2 → Mem → Prop), okS args → call2 xs d j args m Q → ∃ M, MT[j]? = some M ∧ M.2.2.2.2.2.1.1 ≤ 0 ∧ M.2.2.2.2.2.1.2 ≤ 0 ∧ call1 xs MT P d j (args.map enc) (toH m) (fun r h => ∃ r2 m2, r = r2.map enc ∧ h = toH m2 ∧ (∀ v, r2 = some v → okV v) ∧ Q r2 m2) := by
  intro d
  induction d with
  | zero => intro j args m Q _ hc; exact hc.elim
  | succ d ih =>
    intro j args m Q ho hc
    obtain ⟨M, h1, h2, h3, h4, cuts, n, hw⟩ := hc
    refine ⟨M, h1, by rw [h2]; exact Nat.le_refl _, by rw [h2]; exact Nat.le_refl _, Or.inr ⟨M, h1, by rw [List.length_map]; exact h3, by rw [g_args_map, mapL_len]; exact h4, 2000 * n, ?_⟩⟩
    rw [g_locals_map, h2]
    exact w21n (cc := 0) (cs := 0) (C1 := call1 xs MT P d) (fun j a m Q o c => ih j a m Q o c) (call1_mono hP d) (fun r m o q => ⟨r, m, rfl, rfl, o, q⟩) n 0 _ [] m 0 0 (okL_locals ho) (fun v hv => by cases hv) (by omega) (by omega) hw
