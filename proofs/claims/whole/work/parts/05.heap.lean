/-! M1'S STEPS ARE THE JVM'S (2): reads and writes of the heap -/
theorem a_cell_spec {h : aH} {n : Nat} {e : aE} (q : a_cell h n = some e) : n ≠ sCR ∧ h[n]? = some e := by
  unfold a_cell at q
  split at q
  · cases q
  · rename_i z; exact ⟨z, q⟩
theorem World.at {D : va_G} {A : Nat → Prop} {b : Nat} {ad : List Nat} {h : aH} {H : Heap} {s : State} (w : World D A b ad h H s) {n : Nat} {e : aE} (hc : a_cell h n = some e) {v' : Value} (hv : RV b ad (.ref n) v') :
    ∃ (ws : va_W) (tys : List (ClassId × FieldType)) (a : Nat) (x : va_E), v' = .ref a ∧ va_P D vwCl ws H ∧ va_D A ws ∧ va_K D vwCl tys s ∧ WR b ad tys h ws ∧ ws[n]? = some (a, x) ∧ CR b ad tys e x := by
  obtain ⟨ws, tys, hP, hD, hK, hR⟩ := w
  obtain ⟨h1, h2⟩ := a_cell_spec hc
  obtain ⟨a, x, h3, h4, h5⟩ := hR.2.2 n e h2
  rw [RV_ref, if_neg h1] at hv
  obtain ⟨a2, h6, h7⟩ := hv
  rw [h4] at h6
  cases h6
  exact ⟨ws, tys, a, x, h7, hP, hD, hK, hR, h3, h5⟩
/-- what a field's instruction links to -/
def a_fld (own : String) (Ts : List Cond) (x : xI) (idx : Nat) : Prop := ∃ (C : String) (T : u_T) (N : Nat), vwCl[x.2.2.2.1]? = some (C, T, N) ∧ x.2.2.2.2.1 < N ∧ (T x.2.2.2.2.1).1 = C ∧ Cond.fieldLink own idx C (T x.2.2.2.2.1).2.1 (T x.2.2.2.2.1).2.2.1 ∈ Ts
/-- the class's rows of fields are words of the list -/
def a_rows (Ts : List Cond) : Prop := ∀ (ci : Nat) (C : String) (T : u_T) (N : Nat), vwCl[ci]? = some (C, T, N) → ∀ w ∈ u_ws C T N, w ∈ Ts
/-- the script stands beside the world -/
def a_scr (A : Nat → Prop) (b : Nat) (xs : Nat × (Nat → Int32)) (s : State) (H0 : Heap) : Prop := va_X b xs.1 xs.2 s H0 ∧ b < H0.size ∧ ¬ A b
section SB
variable {p : Program} {l : Launch} {e : Env} {R : Room} {s : State} {m : MethodId} {args : Array Value} {below : List Frame} {meth : Method} {c : Code} {H : Heap} {locs : List Loc} {cells slots : Nat} {Q : State → Prop}
variable {cc : ByteArray} {pc : Nat} {ls : Array Slot} {b : Nat} {ad : List Nat} {own : String} {D : va_G} {A : Nat → Prop} {H0 : Heap} {Ts : List Cond} {h : aH} {xs : Nat × (Nat → Int32)}
theorem s_aald {cl : List vw_C} {tys : List (ClassId × FieldType)} {ws : va_W} {a : Nat} {rest : List Value} (hexec : p.tables.exec = Jvm.exec) (hb : c.code = cc) (hK : va_K D cl tys s) (hP : va_P D cl ws H) (q0 t0 : Nat) {cA : ClassId} {ty : FieldType} (hty : a_isRef ty = true) {n : Nat} {f : Nat → Option Nat} (ha : ws[q0]? = some (a, .inl (cA, n, .inr (.inr (.inr (.inr f)))))) (ht : tys[t0]? = some (cA, ty)) {i : Int32} (hin : ¬ (i < 0 ∨ n ≤ i.toNatClampNeg)) (hdg : decode cc pc = .ok (.aaload, 1))
    (kk : W p l e R s m args below meth c H locs cells slots Q (F0 m (pc + 1) ls (va_rf (f i.toNatClampNeg) :: rest))) : W p l e R s m args below meth c H locs cells slots Q (F0 m pc ls (.int i :: .ref a :: rest)) := by
  have hlt : i.toNatClampNeg < n := Nat.not_le.mp fun q => hin (Or.inr q)
  exact W.aald (v := va_rf (f i.toNatClampNeg)) (ty := ty) hexec hb (hP q0 _ ha) ((hK.2 t0 _ ht).1 n (fun j => va_rf (f j))) (by cases ty <;> first | rfl | (cases hty)) (fun q => by cases q) (by show ¬ (i < 0 ∨ (arrV _ _ _).slots.size ≤ _); rw [arrV_size]; exact hin) (by show (arrV _ _ _).slots[_]? = _; rw [arrV_read _ _ hlt]) rfl rfl hdg kk
set_option maxHeartbeats 4000000 in
theorem s_read {x : xI} {S T S' : List Value} (hx : p.tables.exec = Jvm.exec) (hb : c.code = cc) (hown : s.vm.findClass own = some m.cls) (hts : ∀ w ∈ Ts, w.before args s = true) (hrows : a_rows Ts) (hd : decode cc pc = .ok (x.1, a_len x.1)) (hf : ∀ idx, x.1 = .getfield idx → a_fld own Ts x idx)
    (hW : World D A b ad h H s) (hS0 : va_S A H0 H locs) (hsc : a_scr A b xs s H0) (hp : a_read xs x S h = some T) (hS : RVs b ad S S') :
    ∃ T', RVs b ad T T' ∧ (W p l e R s m args below meth c H locs cells slots Q (F0 m (pc + a_len x.1) ls T') → W p l e R s m args below meth c H locs cells slots Q (F0 m pc ls S')) := by
  obtain ⟨ins, xr⟩ := x
  dsimp only at hd hf hp ⊢
  cases ins <;> try (simp only [a_read, reduceCtorEq] at hp; done)
  case getfield idx =>
    simp only [a_read] at hp
    obtain ⟨C, TT, N, f1, f2, f3, f4⟩ := hf idx rfl
    split at hp
    · split at hp
      · rename_i c0 fs hc
        split at hp
        · rename_i hci
          split at hp
          · rename_i v hv
            cases hp
            obtain ⟨v1, R1, rfl, r1, r2⟩ := hS
            obtain ⟨ws, tys, a, x1, rfl, hP, hD, hK, hR, w1, w2⟩ := hW.at hc r1
            obtain ⟨fs', rfl, w3⟩ := w2
            obtain ⟨v', w4, w5⟩ := w3.at hv
            refine ⟨v' :: R1, ⟨v', R1, rfl, w5, r2⟩, fun k => ?_⟩
            exact va_get hx hb hts (hrows _ _ _ _ f1) hown hK hP _ (by rw [hci] at w1; exact w1) f1 _ f2 (hts _ f4) (fun y hy => by rw [← f3]; exact hy) w4 hd k
          · cases hp
        · cases hp
      · cases hp
    · cases hp
  case iaload =>
    simp only [a_read] at hp
    split at hp
    · split at hp
      · rename_i hn
        split at hp
        · rename_i hin
          cases hp
          obtain ⟨R0, rfl, r0⟩ := hS.i1
          obtain ⟨v1, R1, rfl, r1, r2⟩ := r0
          rw [RV_ref, if_pos hn] at r1
          subst r1
          exact ⟨_, ⟨_, _, rfl, rfl, r2⟩, fun k => va_sld hx hb hsc.1 hsc.2.1 hsc.2.2 hS0 hin hd k⟩
        · cases hp
      · split at hp
        · rename_i ty len f hc
          split at hp
          · rename_i hin
            obtain ⟨hty, hin⟩ := hin
            subst hty
            cases hp
            obtain ⟨R0, rfl, r0⟩ := hS.i1
            obtain ⟨v1, R1, rfl, r1, r2⟩ := r0
            obtain ⟨ws, tys, a, x1, rfl, hP, hD, hK, hR, w1, w2⟩ := hW.at hc r1
            obtain ⟨cA, c', rfl, ⟨t0, w3⟩, w4⟩ := w2
            cases c' with
            | inr z => exact absurd w4 (by simp [AR])
            | inl g =>
              cases (show f = g from w4)
              exact ⟨_, ⟨_, _, rfl, rfl, r2⟩, fun k => va_iald hx hb hK hP _ t0 w1 w3 hin hd k⟩
          · cases hp
        · cases hp
    · cases hp
  case laload =>
    simp only [a_read] at hp
    split at hp
    · split at hp
      · rename_i ty len f hc
        split at hp
        · rename_i hin
          obtain ⟨hty, hin⟩ := hin
          subst hty
          cases hp
          obtain ⟨R0, rfl, r0⟩ := hS.i1
          obtain ⟨v1, R1, rfl, r1, r2⟩ := r0
          obtain ⟨ws, tys, a, x1, rfl, hP, hD, hK, hR, w1, w2⟩ := hW.at hc r1
          obtain ⟨cA, c', rfl, ⟨t0, w3⟩, w4⟩ := w2
          obtain z | g | z := c'
          · exact absurd w4 (by simp [AR])
          · cases (show f = g from w4)
            exact ⟨_, ⟨_, _, rfl, rfl, r2⟩, fun k => va_lald hx hb hK hP _ t0 w1 w3 hin hd k⟩
          · exact absurd w4 (by simp [AR])
        · cases hp
      · cases hp
    · cases hp
  case aaload =>
    simp only [a_read] at hp
    split at hp
    · split at hp
      · rename_i ty len f hc
        split at hp
        · rename_i j n R2 hin
          obtain ⟨hty, hin⟩ := hin
          split at hp
          · rename_i k hk
            cases hp
            obtain ⟨R0, rfl, r0⟩ := hS.i1
            obtain ⟨v1, R1, rfl, r1, r2⟩ := r0
            obtain ⟨ws, tys, a, x1, rfl, hP, hD, hK, hR, w1, w2⟩ := hW.at hc r1
            obtain ⟨cA, c', rfl, ⟨t0, w3⟩, w4⟩ := w2
            obtain z | z | z | z | g := c'
            · exact absurd w4 (by simp [AR])
            · exact absurd w4 (by simp [AR])
            · exact absurd w4 (by simp [AR])
            · exact absurd w4 (by simp [AR])
            · have w5 := w4 _ (Nat.not_le.mp fun q => hin (Or.inr q))
              rw [hk] at w5
              obtain ⟨a5, w6, w7⟩ := w5
              refine ⟨.ref a5 :: R1, ⟨_, _, rfl, w6, r2⟩, fun k => ?_⟩
              refine s_aald hx hb hK hP _ t0 hty w1 w3 hin hd ?_
              rw [w7]
              exact k
          · cases hp
        · cases hp
      · cases hp
    · cases hp
  case arraylength =>
    simp only [a_read] at hp
    split at hp
    · split at hp
      · rename_i hn
        cases hp
        obtain ⟨v1, R1, rfl, r1, r2⟩ := hS
        rw [RV_ref, if_pos hn] at r1
        subst r1
        exact ⟨_, ⟨_, _, rfl, rfl, r2⟩, fun k => va_slen hx hb hsc.1 hsc.2.1 hsc.2.2 hS0 hd k⟩
      · split at hp
        · rename_i ty len f hc
          cases hp
          obtain ⟨v1, R1, rfl, r1, r2⟩ := hS
          obtain ⟨ws, tys, a, x1, rfl, hP, hD, hK, hR, w1, w2⟩ := hW.at hc r1
          obtain ⟨cA, c', rfl, ⟨t0, w3⟩, w4⟩ := w2
          exact ⟨_, ⟨_, _, rfl, rfl, r2⟩, fun k => va_alen hx hb hK hP _ t0 w1 w3 rfl hd k⟩
        · cases hp
    · cases hp
end SB
