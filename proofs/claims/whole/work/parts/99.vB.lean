/-! CLASS AND REFERENCE ANSWER ALIKE, call by call (wip/whole/src/99.vB.src) -/
section L99VB
variable {xs : Nat × (Nat → Int32)} {d : Nat} {m m' mo : Mem} {S : Sys} {ver : Nat} {H : Shv}
/-- two calls, one answer, then P -/
def J32 (xs : Nat × (Nat → Int32)) (d j : Nat) (a : List v2) (j' : Nat) (a' : List v2) (m : Mem) (P : Mem → Prop) : Prop := callW2 xs d j a m (fun r m2 => ∃ w : Int32, r = some (vI w) ∧ callW2 xs d j' a' m2 (fun r' m3 => ∃ w' : Int32, r' = some (vI w') ∧ w = w' ∧ P m3))
def J64 (xs : Nat × (Nat → Int32)) (d j : Nat) (a : List v2) (j' : Nat) (a' : List v2) (m : Mem) (P : Mem → Prop) : Prop := callW2 xs d j a m (fun r m2 => ∃ w : Int64, r = some (vL w) ∧ callW2 xs d j' a' m2 (fun r' m3 => ∃ w' : Int64, r' = some (vL w') ∧ w = w' ∧ P m3))
def NX (ver : Nat) (m : Mem) : Prop := ∃ S v H, INV m S v H ∧ v ≤ ver + 1
theorem inv_0 {x : Int32} (hw : wf S) (hC : IC m S ver H) (hR : RM m S) (hS : SM m H) : INV (mI m 40 0 0 x) S ver H := ⟨hw, ic_r hw hC (off_I (T := tM 40) (off_rfl _ _) _ _ ⟨rfl, rfl⟩) (fun t i z => by have := z.1; omega), RM_0 hR, SM_0 hS⟩
theorem inv_fv (h : INV mo S ver H) (hf : fvM mo m') : INV m' S ver H := ⟨h.1, ic_r h.1 h.2.1 hf.1 (fun t i z => by unfold tF at z; omega), RM_fv hf h.2.2.1, SM_fv hf h.2.2.2⟩
theorem inv_fd (h : INV mo S ver H) (hf : fdM mo m') : INV m' S ver H := ⟨h.1, ic_r h.1 h.2.1 hf.1 (fun t i z => by unfold tFD at z; omega), RM_fd hf h.2.2.1, SM_off hf.1 (fun t _ _ => by unfold tFD; omega) h.2.2.2⟩
theorem inv_O (h : INV mo S ver H) (hf : offL tO mo m') : INV m' S ver H := ⟨h.1, ic_r h.1 h.2.1 hf.1 (fun t i z => by unfold tO at z; omega), RM_O hf h.2.2.1, SM_off hf.1 (fun t _ _ => by unfold tO; omega) h.2.2.2⟩
theorem inv_64 (h : INV mo S ver H) (hf : offI (fun t j => (t = 64 ∨ t = 65) ∧ j = 0) mo m') : INV m' S ver H := ⟨h.1, ic_r h.1 h.2.1 hf.1 (fun t i z => by omega), RM_off hf.1 (by omega) (by omega) (by omega) (by omega) (by omega) (by omega) (by omega) h.2.2.1, SM_off hf.1 (fun t _ _ => by omega) h.2.2.2⟩
theorem inv_63 (h : INV mo S ver H) (hf : offI (fun t j => (t = 40 ∨ t = 63) ∧ j = 0) mo m') (h2 : ∀ k, k ≠ 30 → m'.1 40 0 k = mo.1 40 0 k) : INV m' S ver H := by
  refine ⟨h.1, ic_r h.1 h.2.1 hf.1 (fun t i z => by omega), ?_, SM_off hf.1 (fun t _ _ => by omega) h.2.2.2⟩
  have hR := h.2.2.1
  unfold RM RMa at hR ⊢
  rw [h2 1 (by omega), h2 2 (by omega), (hf.1 41 0 (by omega)).1, (hf.1 42 0 (by omega)).1, (hf.1 43 0 (by omega)).1, (hf.1 44 0 (by omega)).1, (hf.1 45 0 (by omega)).1, (hf.1 46 0 (by omega)).1]
  exact hR
theorem inv_rs {H' : Shv} (h : INV mo S ver H) (hf : off tRS mo m') (hC : IC mo S ver H') (hS : SM m' H') : INV m' S ver H' := ⟨h.1, ic_r h.1 hC hf (fun t i z => by unfold tRS at z; omega), RM_off hf (by unfold tRS; omega) (by unfold tRS; omega) (by unfold tRS; omega) (by unfold tRS; omega) (by unfold tRS; omega) (by unfold tRS; omega) (by unfold tRS; omega) h.2.2.1, hS⟩
theorem inv_um {S' : Sys} (hw : wf S') (hC : IC m S' ver H) (hS : SM m H) (hf : off tUM m m') (hR : RM m' S') : INV m' S' ver H := ⟨hw, ic_r hw hC hf (fun t i z => by unfold tUM at z; omega), hR, SM_off hf (fun t _ _ => by unfold tUM; omega) hS⟩
theorem nx {v : Nat} (h : INV m S v H) (hv : v ≤ ver + 1) : NX ver m := ⟨S, v, H, h, hv⟩
theorem j_state (hI : INV m S ver H) : J32 xs (d + 8) 79 [vR 0 0] 118 [vR 40 0] m (NX ver) := by
  obtain ⟨hw, hC, hR, hS⟩ := hI
  refine c_state hC.1 hw hC.2.1 (fun h => ⟨_, rfl, r_state hR hw (fun _ => ⟨_, rfl, rfl, nx (inv_0 hw hC hR hS) (by omega)⟩) (fun m3 h2 => by omega)⟩) (fun m2 h g1 g2 g3 => ⟨_, rfl, ?_⟩)
  have hC2 := ic_u hC g1 g2 g3
  obtain ⟨hR2, hS2⟩ := ir_c hR hS g1 (fun t i z => by unfold tU at z; omega)
  exact r_state hR2 hw (fun z => by omega) (fun m3 _ f1 f2 f3 => ⟨_, rfl, rfl, nx (inv_um (wf_addS hw h) hC2 hS2 f1 f3) (by omega)⟩)
theorem j_act {p q c : Int32} (hI : INV m S ver H) : J32 xs (d + 8) 80 [vR 0 0, vI p, vI q, vI c] 119 [vR 40 0, vI p, vI q, vI c] m (NX ver) := by
  obtain ⟨hw, hC, hR, hS⟩ := hI
  have h3 := wf_n hw
  refine c_act hC.1 hw hC.2.1 (fun r hr => ⟨_, rfl, r_act hR hw (fun r' hr' => ⟨_, rfl, actN_uniq hr hr', nx (inv_0 hw hC hR hS) (by omega)⟩) (fun m3 hy => absurd hy (fun z => actN_Y hr z))⟩) (fun m2 hy g1 g2 g3 => ⟨_, rfl, ?_⟩)
  have hC2 := ic_u hC g1 g2 g3
  obtain ⟨hR2, hS2⟩ := ir_c hR hS g1 (fun t i z => by unfold tU at z; omega)
  refine r_act hR2 hw (fun r' hr' => absurd hy (fun z => actN_Y hr' z)) (fun m3 _ f1 f2 f3 => ⟨_, rfl, rfl, nx (inv_um ?_ hC2 hS2 f1 f3) (by omega)⟩)
  obtain ⟨⟨y1, y2, y3⟩, y4, y5⟩ := hy
  obtain ⟨s, hs, e⟩ := isSt_t hw y1
  obtain ⟨k, hk, e2⟩ := inN_t y2 (by omega)
  obtain ⟨c', hc, e3⟩ := inN_t y3 (by omega)
  refine wf_addA hw (by rw [e, nI_clamp (by omega)]; exact hs) y4 (by rw [e2, nI_clamp (by omega)]; exact hk) (by rw [e3, nI_clamp (by omega)]; exact hc) y5
theorem j_outcome {p q t n : Int32} (hI : INV m S ver H) : J32 xs (d + 8) 81 [vR 0 0, vI p, vI q, vI t, vI n] 121 [vR 40 0, vI p, vI q, vI t, vI n] m (NX ver) := by
  obtain ⟨hw, hC, hR, hS⟩ := hI
  have h3 := wf_n hw
  refine c_outcome hC.1 hw hC.2.1 (fun r hr => ⟨_, rfl, r_outcome hR hw (fun r' hr' => ⟨_, rfl, outN_uniq hr hr', nx (inv_0 hw hC hR hS) (by omega)⟩) (fun m3 hy => absurd hy (fun z => outN_Y hr z))⟩) (fun m2 hy g1 g2 g3 => ⟨_, rfl, ?_⟩)
  have hC2 := ic_u hC g1 g2 g3
  obtain ⟨hR2, hS2⟩ := ir_c hR hS g1 (fun t i z => by unfold tU at z; omega)
  refine r_outcome hR2 hw (fun r' hr' => absurd hy (fun z => outN_Y hr' z)) (fun m3 _ f1 f2 f3 => ⟨_, rfl, rfl, nx (inv_um ?_ hC2 hS2 f1 f3) (by omega)⟩)
  obtain ⟨⟨y1, y2, y3, y6⟩, y4, y5⟩ := hy
  obtain ⟨s, a, hs, ha, ha4, e, e'⟩ := isAc_t hw y1
  obtain ⟨b, hb, e2⟩ := isSt_t hw y2
  obtain ⟨k, hk1, hk, e3⟩ := in112_t y3
  have ex : xOf p q = 4 * s + a := by unfold xOf; rw [e, e', nI_clamp (by omega), nI_clamp (by omega)]
  have eb : t.toNatClampNeg = b := by rw [e2, nI_clamp (by omega)]
  have en : n.toNatClampNeg = k := by rw [e3, nI_clamp (by omega)]
  rw [ex] at y4 y5 y6 ⊢
  rw [eb, en] at y5 ⊢
  refine wf_addO hw (isA_mk hs ha ha4) hb hk1 y5.1 y4 (fun z => ?_)
  have := y6 z
  rw [e, e2, nI_eq (by omega) (by omega)] at this
  omega
theorem j_drop {p : Int32} (hI : INV m S ver H) : J32 xs (d + 8) 82 [vR 0 0, vI p] 122 [vR 40 0, vI p] m (NX ver) := by
  obtain ⟨hw, hC, hR, hS⟩ := hI
  refine c_drop hC.1 hw hC.2.1 (fun h => ⟨_, rfl, r_drop hR hw (fun _ => ⟨_, rfl, rfl, nx (inv_0 hw hC hR hS) (by omega)⟩) (fun z => (by rw [h] at z; cases z)) (fun m3 z => (by rw [h] at z; cases z))⟩) (fun h h0 => ⟨_, rfl, r_drop hR hw (fun z => (by rw [h] at z; cases z)) (fun _ _ => ⟨_, rfl, rfl, nx (inv_0 hw hC hR hS) (by omega)⟩) (fun m3 _ z => absurd h0 z)⟩) (fun m2 h h0 g1 g2 g3 => ⟨_, rfl, ?_⟩)
  have hC2 := ic_u hC g1 g2 g3
  obtain ⟨hR2, hS2⟩ := ir_c hR hS g1 (fun t i z => by unfold tU at z; omega)
  exact r_drop hR2 hw (fun z => (by rw [h] at z; cases z)) (fun _ z => absurd z h0) (fun m3 _ _ f1 f2 f3 => ⟨_, rfl, rfl, nx (inv_um (wf_dropS hw) hC2 hS2 f1 f3) (by omega)⟩)
theorem j_mark {p : Int32} (hI : INV m S ver H) : J32 xs (d + 8) 83 [vR 0 0, vI p] 123 [vR 40 0, vI p] m (NX ver) := by
  obtain ⟨hw, hC, hR, hS⟩ := hI
  have h3 := wf_n hw
  refine c_mark hC.1 hw hC.2.1 (fun h => ⟨_, rfl, r_mark hR hw (fun _ => ⟨_, rfl, rfl, nx (inv_0 hw hC hR hS) (by omega)⟩) (fun b m3 hb he => absurd ⟨b, hb, he⟩ h)⟩) (fun b m2 hb he g1 g2 g3 => ⟨_, rfl, ?_⟩)
  have hC2 := ic_u hC g1 g2 g3
  obtain ⟨hR2, hS2⟩ := ir_c hR hS g1 (fun t i z => by unfold tU at z; omega)
  refine r_mark hR2 hw (fun z => absurd ⟨b, hb, he⟩ z) (fun b' m3 hb' he' f1 f2 f3 => ?_)
  have e : b' = b := by
    have l1 := sub_lt hb h3
    have l2 := sub_lt hb' h3
    rw [he, nI_eq (by omega) (by omega)] at he'
    exact he'.symm
  subst e
  exact ⟨_, rfl, rfl, nx (inv_um (wf_markS hw hb) hC2 hS2 f1 f3) (by omega)⟩
theorem j_whole (hI : INV m S ver H) : J32 xs (d + 8) 84 [vR 0 0] 125 [vR 40 0] m (NX ver) := by
  obtain ⟨hw, hC, hR, hS⟩ := hI
  exact c_whole hC.1 hw ⟨_, rfl, r_whole hR hw ⟨_, rfl, rfl, nx (inv_0 hw hC hR hS) (by omega)⟩⟩
theorem j_reached {p : Int32} (hI : INV m S ver H) : J32 xs (d + 8) 92 [vR 0 0, vI p] 161 [vR 40 0, vI p] m (NX ver) := by
  obtain ⟨hw, hC, hR, hS⟩ := hI
  exact c_reached hC.1 hw (fun r hr => ⟨_, rfl, r_reached hR hw (fun r' hr' => ⟨_, rfl, rch_uniq hr hr', nx (inv_0 hw hC hR hS) (by omega)⟩)⟩)
theorem j_look {p q k : Int32} (hI : INV m S ver H) : J32 xs (d + 8) 97 [vR 0 0, vI p, vI q, vI k] 176 [vR 40 0, vI p, vI q, vI k] m (NX ver) := by
  obtain ⟨hw, hC, hR, hS⟩ := hI
  exact c_look hC.1 hw (fun r hr => ⟨_, rfl, r_look hR hw (fun r' hr' => ⟨_, rfl, lok_uniq hr hr', nx (inv_0 hw hC hR hS) (by omega)⟩)⟩)
theorem j_weight {p : Int32} (hI : INV m S ver H) : J64 xs (d + 8) 102 [vR 0 0, vI p] 184 [vR 40 0, vI p] m (NX ver) := by
  obtain ⟨hw, hC, hR, hS⟩ := hI
  exact c_weight hC.2.2.2.2.2.2.2.2.2 (fun r hr => ⟨_, rfl, r_weight hS (fun h hh => (hC.2.2.2.2.2.2.2.2.2 h hh).1) (fun r' hr' => ⟨_, rfl, wgt_uniq hr hr', nx (inv_0 hw hC hR hS) (by omega)⟩)⟩)
theorem j_ratio {p q : Int32} (hI : INV m S ver H) : J64 xs (d + 8) 103 [vR 0 0, vI p, vI q] 185 [vR 40 0, vI p, vI q] m (NX ver) := by
  obtain ⟨hw, hC, hR, hS⟩ := hI
  exact c_ratio hC.2.2.2.2.2.2.2.2.2 (fun r hr => ⟨_, rfl, r_ratio hS (fun h hh => (hC.2.2.2.2.2.2.2.2.2 h hh).1) (fun r' hr' => ⟨_, rfl, rat_uniq hr hr', nx (inv_0 hw hC hR hS) (by omega)⟩)⟩)
/-- shelves: the class's are new, the reference's old -/
theorem inv_rs2 {H' : Shv} (hw : wf S) (hC : IC m S ver H') (hR : RM m S) (hf : off tRS (mI m 40 0 0 (nI 0)) m') (hS : SM m' H') : INV m' S ver H' := by
  have hR0 := RM_0 (v := nI 0) hR
  have hC0 : IC (mI m 40 0 0 (nI 0)) S ver H' := ic_r hw hC (off_I (T := tM 40) (off_rfl _ _) _ _ ⟨rfl, rfl⟩) (fun t i z => by have := z.1; omega)
  exact ⟨hw, ic_r hw hC0 hf (fun t i z => by unfold tRS at z; omega), RM_off hf (by unfold tRS; omega) (by unfold tRS; omega) (by unfold tRS; omega) (by unfold tRS; omega) (by unfold tRS; omega) (by unfold tRS; omega) (by unfold tRS; omega) hR0, hS⟩
theorem j_make {p q n : Int32} (hI : INV m S ver H) : J32 xs (d + 8) 99 [vR 0 0, vI p, vI q, vI n] 180 [vR 40 0, vI p, vI q, vI n] m (NX ver) := by
  obtain ⟨hw, hC, hR, hS⟩ := hI
  refine c_make hC.2.2.2.2.2.2.2.2.2 (fun m2 g1 g2 => ⟨_, rfl, ?_⟩)
  obtain ⟨hR2, hS2⟩ := ir_c hR hS g1 (fun t i z => by unfold tX at z; omega)
  have hC2 := ic_x hw hC g1 g2
  exact r_make hS2 (fun m3 f1 f2 => ⟨_, rfl, rfl, nx (inv_rs2 hw hC2 hR2 f1 f2) (by omega)⟩)
theorem j_copy {p1 p2 p3 p4 p5 : Int32} (hI : INV m S ver H) : J32 xs (d + 8) 101 [vR 0 0, vI p1, vI p2, vI p3, vI p4, vI p5] 183 [vR 40 0, vI p1, vI p2, vI p3, vI p4, vI p5] m (NX ver) := by
  obtain ⟨hw, hC, hR, hS⟩ := hI
  refine c_copy hC.2.2.2.2.2.2.2.2.2 (fun m2 g1 g2 => ⟨_, rfl, ?_⟩)
  obtain ⟨hR2, hS2⟩ := ir_c hR hS g1 (fun t i z => by unfold tX at z; omega)
  have hC2 := ic_x hw hC g1 g2
  exact r_copy hS2 (fun h hh => (hC.2.2.2.2.2.2.2.2.2 h hh).1) (fun m3 f1 f2 => ⟨_, rfl, rfl, nx (inv_rs2 hw hC2 hR2 f1 f2) (by omega)⟩)
theorem j_value {l : Bool} {p1 p3 : Int32} (hI : INV m S ver H) (hv : ver < 2 ^ 30) : J64 xs (d + 8) 85 [vR 0 0, vI p1, vI (bI l), vI p3] 146 [vR 40 0, vI p1, vI (bI l), vI p3] m (NX ver) := by
  obtain ⟨hw, hC, hR, hS⟩ := hI
  refine c_value hC.1 hw hC.2.1 (by omega) (hC.2.2.2.1 l) (fun m2 r g1 g2 g3 g4 => ⟨_, rfl, ?_⟩)
  obtain ⟨hR2, hS2⟩ := ir_c hR hS g1 (fun t i z => by unfold tSe at z; omega)
  have hC2 := ic_se hw hC l g1 g2 g3
  exact r_value hR2 hw (fun m3 r' f1 f2 => ⟨_, rfl, val_uniq hw g4 f2, nx (inv_fv (inv_0 hw hC2 hR2 hS2) f1) (by omega)⟩)
theorem j_choice {p : Int32} (hI : INV m S ver H) (hv : ver < 2 ^ 30) : J32 xs (d + 8) 86 [vR 0 0, vI p] 152 [vR 40 0, vI p] m (NX ver) := by
  obtain ⟨hw, hC, hR, hS⟩ := hI
  refine c_choice hC.1 hw hC.2.1 (by omega) (hC.2.2.2.1 false) hC.2.2.2.2.2.2.2.2.1 (fun m1 m2 r g1 g2 g3 g4 g5 g6 => ⟨_, rfl, ?_⟩)
  obtain ⟨hR1, hS1⟩ := ir_c hR hS g1 (fun t i z => by unfold tSe at z; omega)
  obtain ⟨hR2, hS2⟩ := ir_c hR1 hS1 g4.1 (fun t i z => by unfold tGu at z; omega)
  have hC2 := ic_gu hw (ic_se hw hC false g1 g2 g3) g4.1 g5
  exact r_choice hR2 hw (fun z => sad_rf (g6.2 z) (fun X Y ⟨V, D, q, _⟩ => ⟨V, D, q⟩)) (fun m3 m4 r' f1 f2 f3 => ⟨_, rfl, cho_uniq hw g6 f3, nx (inv_fd (inv_fv (inv_0 hw hC2 hR2 hS2) f1) f2) (by omega)⟩)
theorem j_distance {p : Int32} (hI : INV m S ver H) (hv : ver < 2 ^ 30) : J32 xs (d + 8) 87 [vR 0 0, vI p] 153 [vR 40 0, vI p] m (NX ver) := by
  obtain ⟨hw, hC, hR, hS⟩ := hI
  refine c_distance hC.1 hw hC.2.1 (by omega) (hC.2.2.2.1 false) hC.2.2.2.2.2.2.2.2.1 (fun m1 m2 r g1 g2 g3 g4 g5 g6 => ⟨_, rfl, ?_⟩)
  obtain ⟨hR1, hS1⟩ := ir_c hR hS g1 (fun t i z => by unfold tSe at z; omega)
  obtain ⟨hR2, hS2⟩ := ir_c hR1 hS1 g4.1 (fun t i z => by unfold tGu at z; omega)
  have hC2 := ic_gu hw (ic_se hw hC false g1 g2 g3) g4.1 g5
  exact r_distance hR2 hw (fun z => sad_rf (g6.2 z) (fun X Y ⟨V, D, q, _⟩ => ⟨V, D, q⟩)) (fun m3 m4 r' f1 f2 f3 => ⟨_, rfl, dis_uniq hw g6 f3, nx (inv_fd (inv_fv (inv_0 hw hC2 hR2 hS2) f1) f2) (by omega)⟩)
theorem j_sum {p q p3 : Int32} (hI : INV m S ver H) (hv : ver < 2 ^ 30) : J64 xs (d + 8) 88 [vR 0 0, vI p, vI q, vI p3] 154 [vR 40 0, vI p, vI q, vI p3] m (NX ver) := by
  obtain ⟨hw, hC, hR, hS⟩ := hI
  refine c_sum hC.1 hw hC.2.1 (by omega) (hC.2.2.2.1 false) (fun m1 r g1 g2 g3 g6 => ⟨_, rfl, ?_⟩)
  obtain ⟨hR1, hS1⟩ := ir_c hR hS g1 (fun t i z => by unfold tSe at z; omega)
  have hC2 := ic_se hw hC false g1 g2 g3
  exact r_sum hR1 hw (fun z => sad_rf (g6.2 z) (fun X Y ⟨V, D, u, v, q, _⟩ => ⟨V, D, q⟩)) (fun m3 m4 r' f1 f2 f3 => ⟨_, rfl, sum_uniq hw g6 f3, nx (inv_fd (inv_fv (inv_0 hw hC2 hR1 hS1) f1) f2) (by omega)⟩)
theorem j_within {l : Bool} {p1 p2 p4 : Int32} (hI : INV m S ver H) (hv : ver < 2 ^ 30) : J64 xs (d + 8) 89 [vR 0 0, vI p1, vI p2, vI (bI l), vI p4] 157 [vR 40 0, vI p1, vI p2, vI (bI l), vI p4] m (NX ver) := by
  obtain ⟨hw, hC, hR, hS⟩ := hI
  refine c_within hC.1 hw hC.2.1 (by omega) (hC.2.2.2.2.1 l) (fun m2 r g1 g2 g4 => ⟨_, rfl, ?_⟩)
  obtain ⟨hR2, hS2⟩ := ir_c hR hS g1 (fun t i z => by unfold tH at z; omega)
  have hC2 := ic_h hw hC l g1 g2
  exact r_within hR2 hw (fun m3 r' f1 f2 => ⟨_, rfl, wit_uniq g4 f2, nx (inv_O (inv_0 hw hC2 hR2 hS2) f1) (by omega)⟩)
theorem j_bound {p1 p2 : Int32} (hI : INV m S ver H) (hv : ver < 2 ^ 30) : J32 xs (d + 8) 90 [vR 0 0, vI p1, vI p2] 158 [vR 40 0, vI p1, vI p2] m (NX ver) := by
  obtain ⟨hw, hC, hR, hS⟩ := hI
  refine c_bound hC.1 hw hC.2.1 (by omega) (hC.2.2.2.2.1 false) (fun m2 r g1 g2 g4 => ⟨_, rfl, ?_⟩)
  obtain ⟨hR2, hS2⟩ := ir_c hR hS g1 (fun t i z => by unfold tH at z; omega)
  have hC2 := ic_h hw hC false g1 g2
  exact r_bound hR2 hw (fun m3 r' f1 f2 => ⟨_, rfl, bnd_uniq (q := p2) g4 f2, nx (inv_O (inv_0 hw hC2 hR2 hS2) f1) (by omega)⟩)
theorem j_sets {p : Int32} (hI : INV m S ver H) (hv : ver < 2 ^ 30) : J32 xs (d + 8) 91 [vR 0 0, vI p] 159 [vR 40 0, vI p] m (NX ver) := by
  obtain ⟨hw, hC, hR, hS⟩ := hI
  refine c_sets hC.1 hw hC.2.1 (by omega) hC.2.2.2.1 (fun l m2 r g1 g2 g3 g4 => ⟨_, rfl, ?_⟩)
  have g1 : off (tSe l.toNat) m m2 := off_sub g1 (fun t i z => by unfold tV at z; unfold tSe; omega)
  obtain ⟨hR2, hS2⟩ := ir_c hR hS g1 (fun t i z => by unfold tSe at z; omega)
  have hC2 := ic_se hw hC l g1 g2 g3
  exact r_sets hR2 hw (fun r' f2 => ⟨_, rfl, set_uniq g4 f2, nx (inv_0 hw hC2 hR2 hS2) (by omega)⟩)
theorem j_cost {p1 p2 : Int32} (hI : INV m S ver H) (hv : ver < 2 ^ 30) : J64 xs (d + 8) 93 [vR 0 0, vI p1, vI p2] 164 [vR 40 0, vI p1, vI p2] m (NX ver) := by
  obtain ⟨hw, hC, hR, hS⟩ := hI
  refine c_cost hC.1 hw hC.2.1 (by omega) (hC.2.2.2.1 false) hC.2.2.1 hC.2.2.2.2.2.1 (fun m2 r g1 g2 g3 g4 => ⟨_, rfl, ?_⟩)
  obtain ⟨hR2, hS2⟩ := ir_c hR hS g1 (fun t i z => by unfold tPS at z; omega)
  have hC2 := ic_ps hw hC g1 g2 g3
  obtain ⟨X, hX⟩ := isOnes_ex hw false
  exact r_cost hR2 hw (fun m3 r' f1 f2 => ⟨_, rfl, cost_uniq hw (g4 X hX).1 (f2 X hX) (g4 X hX).2, nx (inv_fv (inv_0 hw hC2 hR2 hS2) f1) (by omega)⟩)
theorem j_hole {p1 p2 : Int32} (hI : INV m S ver H) (hv : ver < 2 ^ 30) : J32 xs (d + 8) 94 [vR 0 0, vI p1, vI p2] 169 [vR 40 0, vI p1, vI p2] m (NX ver) := by
  obtain ⟨hw, hC, hR, hS⟩ := hI
  refine c_hole hC.1 hw hC.2.1 (by omega) hC.2.2.2.2.2.2.1 (fun m2 r g1 g2 g4 => ⟨_, rfl, ?_⟩)
  obtain ⟨hR2, hS2⟩ := ir_c hR hS g1.1 (fun t i z => by unfold tHo at z; omega)
  have hC2 := ic_ho hw hC g1.1 g2
  exact r_hole hR2 hw (fun m3 r' f1 f2 f3 => ⟨_, rfl, hol_uniq hw g4 f3, nx (inv_63 (inv_0 hw hC2 hR2 hS2) f1 f2) (by omega)⟩)
theorem j_twin {p : Int32} (hI : INV m S ver H) (hv : ver < 2 ^ 30) : J32 xs (d + 8) 95 [vR 0 0, vI p] 174 [vR 40 0, vI p] m (NX ver) := by
  obtain ⟨hw, hC, hR, hS⟩ := hI
  refine c_twin hC.1 hw hC.2.1 (by omega) hC.2.2.2.2.2.2.2.1 (fun m2 r g1 g2 g4 => ⟨_, rfl, ?_⟩)
  obtain ⟨hR2, hS2⟩ := ir_c hR hS g1 (fun t i z => by unfold tTw at z; omega)
  have hC2 := ic_tw hw hC g1 g2
  exact r_twin hR2 hw (fun m3 r' f1 f2 => ⟨_, rfl, twin_uniq g4 f2, nx (inv_64 (inv_0 hw hC2 hR2 hS2) f1) (by omega)⟩)
theorem j_count {p : Int32} (hI : INV m S ver H) (hv : ver < 2 ^ 30) : J32 xs (d + 8) 96 [vR 0 0, vI p] 175 [vR 40 0, vI p] m (NX ver) := by
  obtain ⟨hw, hC, hR, hS⟩ := hI
  refine c_count hC.1 hw hC.2.1 (by omega) hC.2.2.2.2.2.2.2.1 (fun m2 r g1 g2 g4 => ⟨_, rfl, ?_⟩)
  obtain ⟨hR2, hS2⟩ := ir_c hR hS g1 (fun t i z => by unfold tTw at z; omega)
  have hC2 := ic_tw hw hC g1 g2
  exact r_count hR2 hw (fun m3 r' f1 f2 => ⟨_, rfl, cou_uniq g4 f2, nx (inv_64 (inv_0 hw hC2 hR2 hS2) f1) (by omega)⟩)
theorem j_keep {p1 p2 p3 p4 : Int32} (hI : INV m S ver H) (hv : ver < 2 ^ 30) : J32 xs (d + 8) 98 [vR 0 0, vI p1, vI p2, vI p3, vI p4] 179 [vR 40 0, vI p1, vI p2, vI p3, vI p4] m (NX ver) := by
  obtain ⟨hw, hC, hR, hS⟩ := hI
  refine c_keep hC.1 hw hC.2.1 (by omega) (hC.2.2.2.1 false) hC.2.2.2.2.2.2.2.2.2 (fun m1 m2 r v g1 g2 g3 g4 g5 g6 => ⟨_, rfl, ?_⟩)
  obtain ⟨hR1, hS1⟩ := ir_c hR hS g1 (fun t i z => by unfold tSe at z; omega)
  obtain ⟨hR2, hS2⟩ := ir_c hR1 hS1 g4 (fun t i z => by unfold tX at z; omega)
  have hC2 := ic_x hw (ic_se hw hC false g1 g2 g3) g4 g6
  refine r_keep hR2 hw hS2 (fun m3 m4 r' v' f1 f2 f3 f4 => ?_)
  obtain ⟨u1, u2⟩ := kep_uniq hw g5 f3
  refine ⟨_, rfl, u1, nx (v := ver) (S := S) (H := kepH H p1 r v) ⟨hw, ?_, ?_, ?_⟩ (by omega)⟩
  · have hC0 : IC (mI m2 40 0 0 (nI 0)) S ver (kepH H p1 r v) := ic_r hw hC2 (off_I (T := tM 40) (off_rfl _ _) _ _ ⟨rfl, rfl⟩) (fun t i z => by have := z.1; omega)
    exact ic_r hw (ic_r hw hC0 f1.1 (fun t i z => by unfold tF at z; omega)) f2 (fun t i z => by unfold tRS at z; omega)
  · exact RM_off f2 (by unfold tRS; omega) (by unfold tRS; omega) (by unfold tRS; omega) (by unfold tRS; omega) (by unfold tRS; omega) (by unfold tRS; omega) (by unfold tRS; omega) (RM_fv f1 (RM_0 hR2))
  · rw [← u1] at f4
    unfold kepH at f4 ⊢
    by_cases e : r = nI 0
    · rw [if_pos e] at f4 ⊢
      exact SM_eq (u2 e) f4
    · rw [if_neg e] at f4 ⊢
      exact f4
end L99VB
