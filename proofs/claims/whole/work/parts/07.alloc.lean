/-! M1'S STEPS ARE THE JVM'S (4): new cells, System.arraycopy, Object.<init>. The rows to the first END are the printed names' own. -/
/-! ===== BEGIN new T[n][m]: the outer array a place, the inner ones among the pooled ===== -/
/-- f, but v at every address of l -/
def vr_up {α : Type} (f : Nat → α) (l : List Nat) (v : α) : Nat → α := fun a => if a ∈ l then v else f a
theorem vr_up_in {α : Type} {f : Nat → α} {l : List Nat} {v : α} {a : Nat} (h : a ∈ l) : vr_up f l v a = v := if_pos h
theorem vr_up_ne {α : Type} {f : Nat → α} {l : List Nat} {v : α} {a : Nat} (h : a ∉ l) : vr_up f l v a = f a := if_neg h
theorem vr_rows {L l : List Nat} {f : Nat → va_E} {e : va_E} (h : ∀ a, a ∈ l → a ∉ L) : va_pl L f ++ l.map (fun a => (a, e)) = va_pl (L ++ l) (vr_up f l e) := by
  unfold va_pl
  rw [List.map_append]
  congr 1
  · apply List.map_congr_left
    intro a ha
    rw [vr_up_ne (fun q => h a q ha)]
  · apply List.map_congr_left
    intro a ha
    rw [vr_up_in ha]
theorem vr_lay {X rows : va_W} {x : Nat × va_E} {pl : va_W} {D : va_G} {cl : List vw_C} {H : Heap} (hP : va_P D cl (((X ++ pl) ++ [x]) ++ rows) H) : va_P D cl ((X ++ [x]) ++ (pl ++ rows)) H := by
  rw [List.append_assoc (X ++ pl)] at hP
  have h := va_P.swap hP
  rw [← List.append_assoc X] at h
  have h2 := va_P.swap h
  rw [List.append_assoc (X ++ [x])] at h2
  exact h2
theorem vr_layD {X rows : va_W} {x : Nat × va_E} {pl : va_W} {A : Nat → Prop} (hD : va_D A (((X ++ pl) ++ [x]) ++ rows)) : va_D A ((X ++ [x]) ++ (pl ++ rows)) := by
  rw [List.append_assoc (X ++ pl)] at hD
  have h := va_D.swap hD
  rw [← List.append_assoc X] at h
  have h2 := va_D.swap h
  rw [List.append_assoc (X ++ [x])] at h2
  exact h2
theorem vr_outer (c : ClassId) (N h0 : Nat) : ∀ i : Nat, Jvm.Free.Multi.outerC c N h0 i = arrV c N (fun j => va_rf (if j < i then some (h0 + 1 + j) else none))
  | 0 => by
    show ({ cls := c, slots := Array.replicate N .null, vm := .none } : Cell) = _
    rw [arrV_new]
    refine congrArg (arrV c N) (funext fun j => ?_)
    simp [va_rf]
  | i + 1 => by
    show (Jvm.Free.Multi.outerC c N h0 i).setSlot i (.ref (h0 + 1 + i)) = _
    rw [vr_outer c N h0 i, arrV_store]
    refine congrArg (arrV c N) (funext fun j => ?_)
    by_cases e : j = i
    · subst e
      simp [updV, va_rf]
    · by_cases h : j < i
      · simp [updV, e, h, Nat.lt_succ_of_lt h]
      · simp [updV, e, h, show ¬ j < i + 1 by omega]
section VGM
variable {p : Program} {l : Launch} {e : Env} {R : Room} {s : State} {m : MethodId} {args : Array Value} {below : List Frame} {meth : Method} {c : Code} {H : Heap} {locs : List Loc} {cells slots : Nat} {Q : State → Prop}
variable {cc : ByteArray} {pc : Nat} {ls : Array Slot} {rest : List Value} {D : va_G} {cl : List vw_C} {A : Nat → Prop} {a : Nat} {tys : List (ClassId × FieldType)} {ws : va_W} {H0 : Heap}
theorem va_mna {X : va_W} {L : List Nat} {f : Nat → va_E} {cc : ByteArray} (hexec : p.tables.exec = Jvm.exec) (hb : c.code = cc) {own : String} {index : Nat} {ty : FieldType} {cy : ClassId} (hown : s.vm.findClass own = some m.cls) (hclink : (Cond.classLink own index ("[" ++ (FieldType.array ty).toString)).before args s = true) (hover : (Cond.arrayOver (.array ty)).before args s = true) (harr : (Cond.arrayClass ty).before args s = true) (hcy : s.vm.findClass (FieldType.array ty).toString = some cy)
    (hK : va_K D cl tys s) (hP : va_P D cl (X ++ va_pl L f) H) (hD : va_D A (X ++ va_pl L f)) (hS : va_S A H0 H locs) (hA : ∀ q, H0.size ≤ q → A q) {n k : Int32} {N' K' : Nat} {z : vp_A} (hn : ¬ n < 0) (hk : ¬ k < 0) (hN : n.toNatClampNeg = N') (hM : k.toNatClampNeg = K')
    (hb1 : N' * 4 ≤ 536870912) (hb2 : K' * componentBytes ty ≤ 536870912) (hb3 : K' ≤ 536870912) (hdf : fits ty (defaultValue ty) = true) (hdd : (defaultValue ty).isDefault = true) (hcells : cells + (1 + N') ≤ R.cells) (hslots : slots + (N' + N' * K') ≤ R.slots) (hz : ∀ c : ClassId, Jvm.Free.Multi.innerC c K' (defaultValue ty) = vp_cell c z) (hdg : decode cc pc = .ok (.multianewarray index 2, 4))
    (kk : ∀ (q : Nat) (r : Nat → Nat) (cA : ClassId) (H1 : Heap), (∀ i j : Nat, i < N' → j < N' → r i = r j → i = j) → (∀ i : Nat, i < N' → r i ∉ L) → va_K D cl (tys ++ [(cA, .array ty)]) s →
      va_P D cl ((X ++ [(q, .inl (cA, N', .inr (.inr (.inr (.inr (fun i => if i < N' then some (r i) else none))))))]) ++ va_pl (L ++ (List.range N').map r) (vr_up f ((List.range N').map r) (.inl (cy, z)))) H1 → va_D A ((X ++ [(q, .inl (cA, N', .inr (.inr (.inr (.inr (fun i => if i < N' then some (r i) else none))))))]) ++ va_pl (L ++ (List.range N').map r) (vr_up f ((List.range N').map r) (.inl (cy, z)))) → va_S A H0 H1 locs →
      W p l e R s m args below meth c H1 locs (cells + 1 + N') (slots + N' + N' * K') Q (F0 m (pc + 4) ls (.ref q :: rest))) : W p l e R s m args below meth c H locs cells slots Q (F0 m pc ls (.int k :: .int n :: rest)) := by
  subst hN
  subst hM
  intro T hT Xs
  obtain ⟨vm₁, cA, comp, -, fA, fC, hO, -, X', step⟩ := Xs.multianewarray2F hexec hown hclink hover harr (g := F0 m pc ls (.int k :: .int n :: rest)) rfl (by rw [hb]; exact hdg) rfl hn hk hb1 hb2 hb3 hdf hdd hcells hslots
  have ec : some cy = some comp := hcy.symm.trans fC
  cases ec
  generalize hF : Jvm.Free.Multi.fill (T.setVm vm₁) cA cy n.toNatClampNeg k.toNatClampNeg (defaultValue ty) n.toNatClampNeg = F at X' step
  have hTh : (T.setVm vm₁).heap = H := hT
  obtain ⟨f1, f2, -, -⟩ := Jvm.Free.Multi.fill_facts (T.setVm vm₁) cA cy n.toNatClampNeg k.toNatClampNeg (defaultValue ty) n.toNatClampNeg
  rw [hF, hTh] at f1 f2
  have hold : ∀ x : Nat, x < H.size → F.heap[x]? = H[x]? := fun x hx => by
    have := Jvm.Free.Multi.fill_old (T.setVm vm₁) cA cy n.toNatClampNeg k.toNatClampNeg (defaultValue ty) (a := x) (by rw [hTh]; exact hx) n.toNatClampNeg
    rw [hF, hTh] at this
    exact this
  have hrow : ∀ j : Nat, j < n.toNatClampNeg → F.heap[H.size + 1 + j]? = some (vp_cell cy z) := fun j hj => by
    have := Jvm.Free.Multi.fill_inner (T.setVm vm₁) cA cy n.toNatClampNeg k.toNatClampNeg (defaultValue ty) n.toNatClampNeg j hj
    rw [hF, hTh, hz] at this
    exact this
  have hout : Jvm.Free.Multi.outerC cA n.toNatClampNeg H.size n.toNatClampNeg = vp_cell cA (n.toNatClampNeg, .inr (.inr (.inr (.inr (fun i => if i < n.toNatClampNeg then some (H.size + 1 + i) else none))))) := by
    rw [vp_cell_q]
    exact vr_outer cA n.toNatClampNeg H.size n.toNatClampNeg
  rw [hout] at f2
  have hlt : ∀ a, a ∈ L → a < H.size := fun a ha => by
    obtain ⟨k9, hk9⟩ := va_pl_get (X := X) (f := f) ha
    exact (hP k9 _ hk9).lt
  have hnl : ∀ i : Nat, i < n.toNatClampNeg → H.size + 1 + i ∉ L := fun i _ h => by
    have := hlt _ h
    omega
  have hnm : ∀ a, a ∈ (List.range n.toNatClampNeg).map (fun i => H.size + 1 + i) → a ∉ L := fun a ha h => by
    obtain ⟨i, -, rfl⟩ := List.mem_map.mp ha
    have := hlt _ h
    omega
  have hP0 : va_P D cl (X ++ va_pl L f) F.heap := hP.kept (fun k9 x hx => hold x.1 ((hP k9 x hx).lt))
  have hP1 : va_P D cl ((X ++ va_pl L f) ++ [(H.size, .inl (cA, n.toNatClampNeg, .inr (.inr (.inr (.inr (fun i => if i < n.toNatClampNeg then some (H.size + 1 + i) else none))))))]) F.heap := hP0.app (fun k9 x hx => by
    have h0 : k9 < 1 := (List.getElem?_eq_some_iff.mp hx).1
    rw [show k9 = 0 by omega] at hx
    cases hx
    exact f2)
  have hP2 : va_P D cl (((X ++ va_pl L f) ++ [(H.size, .inl (cA, n.toNatClampNeg, .inr (.inr (.inr (.inr (fun i => if i < n.toNatClampNeg then some (H.size + 1 + i) else none))))))]) ++ ((List.range n.toNatClampNeg).map (fun i => H.size + 1 + i)).map (fun a => (a, .inl (cy, z)))) F.heap := hP1.app (fun k9 x hx => by
    obtain ⟨a, ha, rfl⟩ := List.mem_map.mp (List.mem_of_getElem? hx)
    obtain ⟨i, hi, rfl⟩ := List.mem_map.mp ha
    exact hrow i (List.mem_range.mp hi))
  have hD2 : va_D A (((X ++ va_pl L f) ++ [(H.size, .inl (cA, n.toNatClampNeg, .inr (.inr (.inr (.inr (fun i => if i < n.toNatClampNeg then some (H.size + 1 + i) else none))))))]) ++ ((List.range n.toNatClampNeg).map (fun i => H.size + 1 + i)).map (fun a => (a, .inl (cy, z)))) := by
    have hD1 := hD.push (e := .inl (cA, n.toNatClampNeg, .inr (.inr (.inr (.inr (fun i => if i < n.toNatClampNeg then some (H.size + 1 + i) else none)))))) hP rfl (hA _ hS.1)
    generalize hW1 : (X ++ va_pl L f) ++ [(H.size, .inl (cA, n.toNatClampNeg, .inr (.inr (.inr (.inr (fun i => if i < n.toNatClampNeg then some (H.size + 1 + i) else none))))))] = W1 at hD1 hP1 ⊢
    have hle : ∀ (k9 : Nat) (x : Nat × va_E), W1[k9]? = some x → x.1 ≤ H.size := fun k9 x hx => by
      rw [← hW1] at hx
      by_cases hl : k9 < (X ++ va_pl L f).length
      · rw [List.getElem?_append_left hl] at hx
        exact Nat.le_of_lt ((hP k9 x hx).lt)
      · rw [List.getElem?_append_right (by omega)] at hx
        have h0 : k9 - (X ++ va_pl L f).length < 1 := (List.getElem?_eq_some_iff.mp hx).1
        rw [show k9 - (X ++ va_pl L f).length = 0 by omega] at hx
        cases hx
        exact Nat.le_refl _
    have hr : ∀ (k9 : Nat) (x : Nat × va_E), (((List.range n.toNatClampNeg).map (fun i => H.size + 1 + i)).map (fun a => ((a, .inl (cy, z)) : Nat × va_E)))[k9]? = some x → x.1 = H.size + 1 + k9 := fun k9 x hx => by
      rw [List.getElem?_map, List.getElem?_map] at hx
      by_cases h9 : k9 < n.toNatClampNeg
      · rw [List.getElem?_range h9] at hx
        cases hx
        rfl
      · have hn0 : (List.range n.toNatClampNeg)[k9]? = none := List.getElem?_eq_none (by rw [List.length_range]; omega)
        rw [hn0] at hx
        cases hx
    refine ⟨fun i j x y hi hj hxy => ?_, fun k9 x hx => ?_⟩
    · by_cases h1 : i < W1.length <;> by_cases h2 : j < W1.length
      · rw [List.getElem?_append_left h1] at hi
        rw [List.getElem?_append_left h2] at hj
        exact hD1.1 i j x y hi hj hxy
      · rw [List.getElem?_append_left h1] at hi
        rw [List.getElem?_append_right (by omega)] at hj
        have := hle _ _ hi
        have := hr _ _ hj
        omega
      · rw [List.getElem?_append_right (by omega)] at hi
        rw [List.getElem?_append_left h2] at hj
        have := hle _ _ hj
        have := hr _ _ hi
        omega
      · rw [List.getElem?_append_right (by omega)] at hi hj
        have := hr _ _ hi
        have := hr _ _ hj
        omega
    · by_cases h1 : k9 < W1.length
      · rw [List.getElem?_append_left h1] at hx
        exact hD1.2 k9 x hx
      · rw [List.getElem?_append_right (by omega)] at hx
        have := hr _ _ hx
        exact hA _ (by have := hS.1; omega)
  have hAr : ArrOfT s cA (.array ty) := fun N9 z9 => by
    obtain ⟨-, k9, hk9, cm9, hkk9⟩ := (hO 0 0 0).1
    exact ⟨(fun q hq => by cases hq), k9, hk9, cm9, hkk9⟩
  have hK2 : va_K D cl (tys ++ [(cA, .array ty)]) s := ⟨hK.1, fun k9 x hx => by
    by_cases hl : k9 < tys.length
    · rw [List.getElem?_append_left hl] at hx
      exact hK.2 k9 x hx
    · rw [List.getElem?_append_right (by omega)] at hx
      have h0 : k9 - tys.length < 1 := (List.getElem?_eq_some_iff.mp hx).1
      rw [show k9 - tys.length = 0 by omega] at hx
      cases hx
      exact ⟨hAr, fA⟩⟩
  obtain ⟨t, a1, b1⟩ := kk H.size (fun i => H.size + 1 + i) cA F.heap (fun i j _ _ h => by have h9 : H.size + 1 + i = H.size + 1 + j := h; omega) hnl hK2 (by rw [← vr_rows hnm]; exact vr_lay hP2) (by rw [← vr_rows hnm]; exact vr_layD hD2) ⟨by rw [f1]; have := hS.1; omega, fun x h1 h2 => (hold x (Nat.lt_of_lt_of_le h1 hS.1)).trans (hS.2.1 x h1 h2), hS.2.2⟩ F rfl X'
  refine ⟨t, step t ?_, b1⟩
  have e : T.heap.size = H.size := by rw [hT]
  rw [e]
  exact a1
end VGM
/-! ===== END ===== -/
theorem RVs.self {b : Nat} {ad : List Nat} : ∀ {S : List Value}, (∀ v ∈ S, RV b ad v v) → RVs b ad S S
  | [], _ => rfl
  | v :: S, h => ⟨v, S, rfl, h v List.mem_cons_self, RVs.self (fun w hw => h w (List.mem_cons_of_mem _ hw))⟩
theorem RV.default {b : Nat} {ad : List Nat} (ty : FieldType) : RV b ad (defaultValue ty) (defaultValue ty) := by cases ty <;> exact rfl
theorem WR.app {b : Nat} {ad : List Nat} {tys ty2 : List (ClassId × FieldType)} {h : aH} {ws : va_W} (w : WR b ad tys h ws) {as : va_W} {es : List aE} (hl : as.length = es.length) (hc : ∀ (j : Nat) (e : aE) (q : Nat × va_E), es[j]? = some e → as[j]? = some q → CR b (ad ++ as.map Prod.fst) (tys ++ ty2) e q.2) : WR b (ad ++ as.map Prod.fst) (tys ++ ty2) (h ++ es) (ws ++ as) := by
  have hal := w.ad_len
  refine ⟨by simp [w.1, hl], by rw [List.map_append, w.2.1], fun i e1 hi => ?_⟩
  by_cases hlt : i < h.length
  · rw [List.getElem?_append_left hlt] at hi
    obtain ⟨a1, x1, h1, h2, h3⟩ := w.2.2 i e1 hi
    exact ⟨a1, x1, pf_at h1, pf_at h2, h3.mono⟩
  · rw [List.getElem?_append_right (by omega)] at hi
    have hj := (List.getElem?_eq_some_iff.mp hi).1
    have hj2 : i - h.length < as.length := by omega
    have e0 := List.getElem?_eq_getElem hj2
    refine ⟨(as[i - h.length]).1, (as[i - h.length]).2, ?_, ?_, hc _ _ _ hi e0⟩
    · rw [List.getElem?_append_right (by rw [w.1]; omega), w.1]; exact e0
    · rw [List.getElem?_append_right (by omega), hal, List.getElem?_map, e0]; rfl
theorem a_arrK {args : Array Value} {s : State} {ty : FieldType} {cA : ClassId} (h : (Cond.arrayClass ty).before args s = true) (hf : s.vm.findClass ("[" ++ ty.toString) = some cA) (hno : a_isRef ty = false) : ArrOfT s cA ty ∧ va_RA s cA ty := by
  obtain ⟨c, k, comp, h1, h2, h3⟩ := Cond.arrayClass_spec h
  rw [hf] at h1
  cases h1
  refine ⟨fun n z => ⟨fun k h => (by cases h), k, h2, comp, h3⟩, ?_⟩
  cases ty <;> first | exact hf | (cases hno)
/-- what an instruction that makes cells links to -/
def a_mk (own : String) (Ts : List Cond) (args : Array Value) (s : State) (x : xI) : Prop := match x.1 with
  | .new idx => ∀ (C : String) (T : u_T) (N : Nat), vwCl[x.2.2.2.1]? = some (C, T, N) → Cond.classLink own idx C ∈ Ts ∧ Cond.instantiable C N ∈ Ts ∧ Cond.initialized C ∈ Ts
  | .newarray ty => Cond.arrayClass (newarray.typeOf ty) ∈ Ts
  | .anewarray idx => ∀ (C : String) (T : u_T) (N : Nat), vwCl[x.2.2.2.1]? = some (C, T, N) → Cond.classLink own idx C ∈ Ts ∧ va_AO C s
  | .multianewarray idx k => k = 2 ∧ Cond.classLink own idx ("[" ++ (FieldType.array .long).toString) ∈ Ts ∧ Cond.arrayClass .long ∈ Ts ∧ (Cond.arrayOver (.array .long)).before args s = true
  | _ => True
section SD
variable {p : Program} {l : Launch} {e : Env} {R : Room} {s : State} {m : MethodId} {args : Array Value} {below : List Frame} {meth : Method} {c : Code} {H : Heap} {locs : List Loc} {cells slots : Nat} {Q : State → Prop}
variable {cc : ByteArray} {pc : Nat} {ls : Array Slot} {b : Nat} {ad : List Nat} {own : String} {D : va_G} {A : Nat → Prop} {H0 : Heap} {Ts : List Cond} {h h' : aH}
theorem RV_new {b : Nat} {ad : List Nat} {n q : Nat} (hn : n ≠ sCR) (hl : ad.length = n) (r : List Nat) : RV b (ad ++ q :: r) (.ref n) (.ref q) := by
  rw [RV_ref, if_neg hn]
  refine ⟨q, ?_, rfl⟩
  rw [List.getElem?_append_right (by omega), hl, Nat.sub_self]; rfl
set_option maxHeartbeats 4000000 in
theorem s_make {x : xI} {S T S' : List Value} {kc ks : Nat} (hx : p.tables.exec = Jvm.exec) (hb : c.code = cc) (hown : s.vm.findClass own = some m.cls) (hts : ∀ w ∈ Ts, w.before args s = true) (hrows : a_rows Ts) (hd : decode cc pc = .ok (x.1, a_len x.1)) (hmk : a_mk own Ts args s x)
    (hW : World D A b ad h H s) (hS0 : va_S A H0 H locs) (hA : ∀ q, H0.size ≤ q → A q) (hp : a_make x S h = some (T, h', kc, ks)) (hS : RVs b ad S S') (hkc : cells + kc ≤ R.cells) (hks : slots + ks ≤ R.slots)
    (kk : ∀ (H1 : Heap) (ad1 : List Nat) (T' : List Value), World D A b (ad ++ ad1) h' H1 s → va_S A H0 H1 locs → RVs b (ad ++ ad1) T T' → W p l e R s m args below meth c H1 locs (cells + kc) (slots + ks) Q (F0 m (pc + a_len x.1) ls T')) : W p l e R s m args below meth c H locs cells slots Q (F0 m pc ls S') := by
  obtain ⟨ins, xr⟩ := x
  dsimp only at hd kk
  unfold a_make at hp
  split at hp
  · cases hp
  rename_i hlen
  have hne : h.length ≠ sCR := fun q => hlen (by omega)
  obtain ⟨ws, tys, hP, hD, hK, hR⟩ := hW
  have hal := hR.ad_len
  cases ins <;> try (simp only [reduceCtorEq] at hp; done)
  case new idx =>
    simp only at hp
    split at hp
    · rename_i fs hfs
      cases hp
      unfold a_new at hfs
      split at hfs
      · rename_i C TT N hcl
        cases hfs
        obtain ⟨m1, m2, m3⟩ := hmk C TT N hcl
        have hN : ((List.range N).map (fun k => defaultValue (a_ty xr.2.2.1 k))).length = N := by simp
        rw [hN] at hks kk
        refine va_new hx hb hts (hrows _ _ _ _ hcl) (a_ty xr.2.2.1) (a_ty_ok hcl) hown (hts _ m1) (hts _ m2) (hts _ m3) hK hP hD hS0 hA hcl (fs := (List.range N).map (fun k => defaultValue (a_ty xr.2.2.1 k))) (fun j hj => ?_) hkc hks hd (fun q H1 k1 k2 k3 => ?_)
        · simp [vp_V, List.getD, hj]
        · refine kk H1 [q] (.ref q :: S') ⟨_, tys ++ [], k1, k2, by rw [List.append_nil]; exact hK, hR.push ⟨_, rfl, RVs.self (fun v hv => ?_)⟩⟩ k3 ⟨_, _, rfl, RV_new hne hal [], hS.mono⟩
          obtain ⟨k, -, rfl⟩ := List.mem_map.mp hv
          exact RV.default _
      · cases hfs
    · cases hp
  case newarray ty =>
    simp only at hp
    split at hp
    · split at hp
      · rename_i hq
        obtain ⟨q1, q2⟩ := hq
        split at hp
        · rename_i a0 ha0
          cases hp
          obtain ⟨R1, rfl, r1⟩ := hS.i1
          refine va_newa (a0 := a0) hx hb (hts _ hmk) rfl hK hP hD hS0 hA (fun cA => ?_) q1 rfl q2 hkc hks hd (fun q cA H1 k0 k1 k2 k3 => ?_)
          · unfold a_zero at ha0
            split at ha0
            · rename_i e0; cases ha0; rw [e0]; rfl
            · rename_i e0; cases ha0; rw [e0]; rfl
            · cases ha0
          · refine kk H1 [q] (.ref q :: R1) ⟨_, _, k1, k2, k0, hR.push ⟨cA, _, rfl, ⟨tys.length, by rw [List.getElem?_append_right (Nat.le_refl _), Nat.sub_self]; rfl⟩, ?_⟩⟩ k3 ⟨_, _, rfl, RV_new hne hal [], r1.mono⟩
            unfold a_zero at ha0
            split at ha0
            · cases ha0; exact rfl
            · cases ha0; exact rfl
            · cases ha0
        · cases hp
      · cases hp
    · cases hp
  case anewarray idx =>
    simp only at hp
    split at hp
    · split at hp
      · rename_i r hcl
        split at hp
        · rename_i hq
          obtain ⟨q1, q2⟩ := hq
          cases hp
          obtain ⟨R1, rfl, r1⟩ := hS.i1
          obtain ⟨C, TT, N⟩ := r
          obtain ⟨m1, m2⟩ := hmk C TT N hcl
          refine va_newq hx hb hown (hts _ m1) m2 hK hP hD hS0 hA q1 rfl q2 hkc hks hd (fun q cA H1 k0 k1 k2 k3 => ?_)
          refine kk H1 [q] (.ref q :: R1) ⟨_, _, k1, k2, k0, hR.push ⟨cA, _, rfl, ⟨tys.length, by rw [List.getElem?_append_right (Nat.le_refl _), Nat.sub_self]; rfl⟩, ?_⟩⟩ k3 ⟨_, _, rfl, RV_new hne hal [], r1.mono⟩
          exact fun i hi => rfl
        · cases hp
      · cases hp
    · cases hp
  case multianewarray idx dm =>
    simp only at hp
    obtain ⟨m0, m1, m2, m3⟩ := hmk
    subst m0
    split at hp
    · rename_i k n R2
      split at hp
      · rename_i hq
        obtain ⟨q1, q2, q3, q4, q5⟩ := hq
        cases hp
        obtain ⟨R1, rfl, r1⟩ := hS.i2
        obtain ⟨cy, kC, comp, hcy, -, -⟩ := Cond.arrayClass_spec (hts _ m2)
        have hcyK := a_arrK (hts _ m2) hcy rfl
        have e0 : ws ++ va_pl [] (fun _ => (.inr (0, []) : va_E)) = ws := by simp [va_pl]
        refine va_mna (X := ws) (L := []) (f := fun _ => (.inr (0, []) : va_E)) (cl := vwCl) (D := D) (cy := cy) (N' := n.toNatClampNeg) (K' := k.toNatClampNeg) (z := (k.toNatClampNeg, .inr (.inl (fun _ => 0)))) hx hb hown (hts _ m1) m3 (hts _ m2) hcy hK (by rw [e0]; exact hP) (by rw [e0]; exact hD) hS0 hA q1 q2 rfl rfl q4 q5 (by omega) rfl rfl hkc hks (fun c9 => ?_) hd (fun q r cA H1 k5 k6 k0 k1 k2 k3 => ?_)
        · rw [vp_cell_l]
          first | exact arrV_new _ _ _ | (rw [← arrV_new]; rfl) | (unfold Jvm.Free.Multi.innerC; rw [← arrV_new]; rfl)
        · have e1 : (ws ++ [(q, (.inl (cA, n.toNatClampNeg, .inr (.inr (.inr (.inr (fun i => if i < n.toNatClampNeg then some (r i) else none))))) : va_E))]) ++ va_pl ([] ++ (List.range n.toNatClampNeg).map r) (vr_up (fun _ => (.inr (0, []) : va_E)) ((List.range n.toNatClampNeg).map r) (.inl (cy, k.toNatClampNeg, .inr (.inl (fun _ => 0))))) = ws ++ ((q, (.inl (cA, n.toNatClampNeg, .inr (.inr (.inr (.inr (fun i => if i < n.toNatClampNeg then some (r i) else none))))) : va_E)) :: (List.range n.toNatClampNeg).map (fun i => (r i, (.inl (cy, k.toNatClampNeg, .inr (.inl (fun _ => 0))) : va_E)))) := by
            rw [List.append_assoc, List.nil_append, List.singleton_append]
            congr 2
            unfold va_pl
            rw [List.map_map]
            apply List.map_congr_left
            intro i hi
            show (r i, vr_up _ _ _ (r i)) = _
            rw [vr_up_in (List.mem_map.mpr ⟨i, hi, rfl⟩)]
          rw [e1] at k1 k2
          have k9 : va_K D vwCl ((tys ++ [(cA, .array .long)]) ++ [(cy, .long)]) s := k0.app ⟨k0.1, fun t q9 h9 => by
            have ht : t < 1 := (List.getElem?_eq_some_iff.mp h9).1
            rw [show t = 0 by omega] at h9
            cases h9
            exact hcyK⟩
          rw [List.append_assoc] at k9
          have hlen2 : (((q, (.inl (cA, n.toNatClampNeg, .inr (.inr (.inr (.inr (fun i => if i < n.toNatClampNeg then some (r i) else none))))) : va_E)) :: (List.range n.toNatClampNeg).map (fun i => (r i, (.inl (cy, k.toNatClampNeg, .inr (.inl (fun _ => 0))) : va_E)))) : va_W).map Prod.fst = q :: (List.range n.toNatClampNeg).map r := by
            rw [List.map_cons, List.map_map]; rfl
          rw [Nat.add_assoc, Nat.add_assoc]
          have hgo := hR.app (ty2 := [(cA, .array .long)] ++ [(cy, .long)]) (as := (q, (.inl (cA, n.toNatClampNeg, .inr (.inr (.inr (.inr (fun i => if i < n.toNatClampNeg then some (r i) else none))))) : va_E)) :: (List.range n.toNatClampNeg).map (fun i => (r i, (.inl (cy, k.toNatClampNeg, .inr (.inl (fun _ => 0))) : va_E)))) (es := .inl (.array .long, n.toNatClampNeg, .inr (.inr (.inr (.inr (fun i => if i < n.toNatClampNeg then some (h.length + 1 + i) else none))))) :: (List.range n.toNatClampNeg).map (fun _ => .inl (.long, k.toNatClampNeg, .inr (.inl (fun _ => 0))))) (by simp) (fun j e9 q9 h1 h2 => ?_)
          · rw [hlen2] at hgo
            refine kk H1 (q :: (List.range n.toNatClampNeg).map r) (.ref q :: R1) ⟨_, _, k1, k2, k9, ?_⟩ k3 ⟨_, _, rfl, RV_new hne hal _, r1.mono⟩
            rw [List.append_assoc, List.singleton_append]
            exact hgo
          · rw [hlen2]
            cases j with
            | zero =>
              cases h1; cases h2
              refine ⟨cA, _, rfl, ⟨tys.length, by rw [List.getElem?_append_right (Nat.le_refl _), Nat.sub_self]; rfl⟩, fun i hi => ?_⟩
              simp only [if_pos hi]
              refine ⟨r i, ?_, rfl⟩
              rw [RV_ref, if_neg (by omega)]
              refine ⟨r i, ?_, rfl⟩
              rw [List.getElem?_append_right (by omega), hal, show h.length + 1 + i - h.length = i + 1 by omega, List.getElem?_cons_succ, List.getElem?_map, List.getElem?_range hi]; rfl
            | succ j =>
              rw [List.getElem?_cons_succ, List.getElem?_map] at h1 h2
              have hj : j < n.toNatClampNeg := by
                cases hq : (List.range n.toNatClampNeg)[j]? with
                | none => rw [hq] at h1; cases h1
                | some y => exact by simpa using (List.getElem?_eq_some_iff.mp hq).1
              rw [List.getElem?_range hj] at h1 h2
              cases h1; cases h2
              refine ⟨cy, _, rfl, ⟨tys.length + 1, ?_⟩, rfl⟩
              rw [List.getElem?_append_right (by omega), show tys.length + 1 - tys.length = 1 by omega]; rfl
      · cases hp
    · cases hp
end SD
