/-! M1'S STEPS ARE THE JVM'S (3): writes of the heap -/
theorem a_ty_ok {C : String} {T : u_T} {N : Nat} : ∀ {ci : Nat}, vwCl[ci]? = some (C, T, N) → ∀ k, k < N → parseFieldDescriptor (T k).2.2.1 = some (a_ty ci k)
  | 0, h => by cases h; exact tyX0_ok
  | 1, h => by cases h; exact tyX1_ok
  | 2, h => by cases h; exact tyX2_ok
  | 3, h => by cases h; exact tyX3_ok
  | 4, h => by cases h; exact tyX4_ok
  | 5, h => by cases h; exact tyX5_ok
  | 6, h => by cases h; exact tyX6_ok
  | 7, h => by cases h; exact tyX7_ok
  | 8, h => by cases h; exact tyX8_ok
  | 9, h => by cases h; exact tyX9_ok
  | 10, h => by cases h; exact tyX10_ok
  | 11, h => by cases h; exact tyX11_ok
  | 12, h => by cases h; exact tyX12_ok
  | n + 13, h => by cases h
theorem a_nm_ok {C : String} {T : u_T} {N : Nat} : ∀ {ci : Nat}, vwCl[ci]? = some (C, T, N) → ∀ a, a < N → ∀ b, b < N → a ≠ b → (T a).2.1 ≠ (T b).2.1
  | 0, h => by cases h; exact nmX0
  | 1, h => by cases h; exact nmX1
  | 2, h => by cases h; exact nmX2
  | 3, h => by cases h; exact nmX3
  | 4, h => by cases h; exact nmX4
  | 5, h => by cases h; exact nmX5
  | 6, h => by cases h; exact nmX6
  | 7, h => by cases h; exact nmX7
  | 8, h => by cases h; exact nmX8
  | 9, h => by cases h; exact nmX9
  | 10, h => by cases h; exact nmX10
  | 11, h => by cases h; exact nmX11
  | 12, h => by cases h; exact nmX12
  | n + 13, h => by cases h
theorem a_fit_ok {b : Nat} {ad : List Nat} {ty : FieldType} {v v' : Value} (h : a_fit ty v = true) (hv : RV b ad v v') : narrow ty v' = v' ∧ fits ty v' = true := by
  cases v with
  | int x =>
    rw [show v' = _ from hv]
    simp only [a_fit, Bool.and_eq_true, decide_eq_true_eq] at h
    exact h
  | long x =>
    rw [show v' = _ from hv]
    refine ⟨?_, h⟩
    cases ty <;> rfl
  | ref n =>
    obtain ⟨a, rfl⟩ := hv.isRef
    cases ty <;> first | exact ⟨rfl, rfl⟩ | (exact absurd h (by simp [a_fit, fits]))
  | _ => cases h
/-- what a field's write may be: not final, or in the constructor -/
def a_fin (own mname : String) (x : xI) : Prop := ∀ (C : String) (T : u_T) (N : Nat), vwCl[x.2.2.2.1]? = some (C, T, N) → (T x.2.2.2.2.1).2.2.2 = false ∨ ((T x.2.2.2.2.1).2.2.2 = true ∧ mname = "<init>" ∧ (T x.2.2.2.2.1).1 = own)
section SC
variable {p : Program} {l : Launch} {e : Env} {R : Room} {s : State} {m : MethodId} {args : Array Value} {below : List Frame} {meth : Method} {c : Code} {H : Heap} {locs : List Loc} {cells slots : Nat} {Q : State → Prop}
variable {cc : ByteArray} {pc : Nat} {ls : Array Slot} {b : Nat} {ad : List Nat} {own : String} {D : va_G} {A : Nat → Prop} {H0 : Heap} {Ts : List Cond} {h h' : aH}
set_option maxHeartbeats 4000000 in
theorem s_write {x : xI} {S T S' : List Value} (hx : p.tables.exec = Jvm.exec) (hb : c.code = cc) (hown : s.vm.findClass own = some m.cls) (hts : ∀ w ∈ Ts, w.before args s = true) (hrows : a_rows Ts) (hd : decode cc pc = .ok (x.1, a_len x.1)) (hf : ∀ idx, x.1 = .putfield idx → a_fld own Ts x idx ∧ a_fin own meth.name x)
    (hW : World D A b ad h H s) (hS0 : va_S A H0 H locs) (hp : a_write x S h = some (T, h')) (hS : RVs b ad S S') :
    ∃ T', RVs b ad T T' ∧ ((∀ (H1 : Heap) (locs1 : List Loc), World D A b ad h' H1 s → va_S A H0 H1 locs1 → W p l e R s m args below meth c H1 locs1 cells slots Q (F0 m (pc + a_len x.1) ls T')) → W p l e R s m args below meth c H locs cells slots Q (F0 m pc ls S')) := by
  obtain ⟨ins, xr⟩ := x
  dsimp only at hd hf hp ⊢
  cases ins <;> try (simp only [a_write, reduceCtorEq] at hp; done)
  case putfield idx =>
    simp only [a_write] at hp
    obtain ⟨⟨C, TT, N, f1, f2, f3, f4⟩, ff⟩ := hf idx rfl
    split at hp
    · split at hp
      · rename_i v n R2 xo c0 fs hc
        split at hp
        · rename_i hq
          obtain ⟨q1, q2, q3⟩ := hq
          cases hp
          obtain ⟨v1, R0, rfl, r0, v2, R1, rfl, r1, r2⟩ := hS
          obtain ⟨ws, tys, a, x1, rfl, hP, hD, hK, hR, w1, w2⟩ := hW.at hc r1
          obtain ⟨fs', rfl, w3⟩ := w2
          obtain ⟨g1, g2⟩ := a_fit_ok q3 r0
          refine ⟨R1, r2, fun k => ?_⟩
          have key : ∀ (H1 : Heap) (locs1 : List Loc), va_P D vwCl (ws.set n (a, .inr (c0, fs'.set xr.2.2.2.1 v1))) H1 → va_D A (ws.set n (a, .inr (c0, fs'.set xr.2.2.2.1 v1))) → va_S A H0 H1 locs1 → W p l e R s m args below meth c H1 locs1 cells slots Q (F0 m (pc + 3) ls R1) := fun H1 locs1 k1 k2 k3 => k H1 locs1 ⟨_, tys, k1, k2, hK, hR.set w1 ⟨_, rfl, w3.set _ r0⟩⟩ k3
          have hl : xr.2.2.2.1 < fs'.length := by rw [w3.length]; exact q2
          have hci : vwCl[c0]? = some (C, TT, N) := by rw [q1]; exact f1
          have hty := a_ty_ok f1
          rcases ff C TT N f1 with q | ⟨qa, qb, qc⟩
          · exact va_put hx hb hts (hrows _ _ _ _ f1) _ hty (a_nm_ok f1) hown hK hP hD hS0 n w1 hci _ f2 (hts _ f4) (fun y hy => by rw [← f3]; exact hy) q (hty _ f2) g1 g2 hl hd key
          · exact va_putF hx hb hts (hrows _ _ _ _ f1) _ hty (a_nm_ok f1) hown hK hP hD hS0 n w1 hci _ f2 (hts _ f4) (fun y hy => by rw [← f3]; exact hy) qa qb qc (hty _ f2) g1 g2 hl hd key
        · cases hp
      · cases hp
    · cases hp
  case iastore =>
    simp only [a_write] at hp
    split at hp
    · split at hp
      · rename_i v j n R2 xo ty len f hc
        split at hp
        · rename_i hin
          obtain ⟨hty, hin⟩ := hin
          subst hty
          cases hp
          obtain ⟨R0, rfl, r0⟩ := hS.i2
          obtain ⟨v1, R1, rfl, r1, r2⟩ := r0
          obtain ⟨ws, tys, a, x1, rfl, hP, hD, hK, hR, w1, w2⟩ := hW.at hc r1
          obtain ⟨cA, c', rfl, ⟨t0, w3⟩, w4⟩ := w2
          obtain g | z := c'
          · cases (show f = g from w4)
            exact ⟨_, r2, fun k => va_iast hx hb hK hP hD hS0 n t0 w1 w3 hin hd (fun H1 locs1 k1 k2 k3 => k H1 locs1 ⟨_, tys, k1, k2, hK, hR.set w1 ⟨cA, _, rfl, ⟨t0, w3⟩, rfl⟩⟩ k3)⟩
          · exact absurd w4 (by simp [AR])
        · cases hp
      · cases hp
    · cases hp
  case lastore =>
    simp only [a_write] at hp
    split at hp
    · split at hp
      · rename_i v j n R2 xo ty len f hc
        split at hp
        · rename_i hin
          obtain ⟨hty, hin⟩ := hin
          subst hty
          cases hp
          obtain ⟨R0, rfl, r0⟩ := hS.l1
          obtain ⟨R3, rfl, r3⟩ := r0.i1
          obtain ⟨v1, R1, rfl, r1, r2⟩ := r3
          obtain ⟨ws, tys, a, x1, rfl, hP, hD, hK, hR, w1, w2⟩ := hW.at hc r1
          obtain ⟨cA, c', rfl, ⟨t0, w3⟩, w4⟩ := w2
          obtain z | g | z := c'
          · exact absurd w4 (by simp [AR])
          · cases (show f = g from w4)
            exact ⟨_, r2, fun k => va_last hx hb hK hP hD hS0 n t0 w1 w3 hin hd (fun H1 locs1 k1 k2 k3 => k H1 locs1 ⟨_, tys, k1, k2, hK, hR.set w1 ⟨cA, _, rfl, ⟨t0, w3⟩, rfl⟩⟩ k3)⟩
          · exact absurd w4 (by simp [AR])
        · cases hp
      · cases hp
    · cases hp
  case aastore =>
    simp only [a_write] at hp
    split at hp
    · split at hp
      · rename_i v j n R2 xo xp ty len f ci vs hc hcv
        split at hp
        · rename_i hin
          obtain ⟨hty, hin⟩ := hin
          cases hp
          obtain ⟨v0, R0, rfl, r0, r3⟩ := hS
          obtain ⟨R3, rfl, r4⟩ := r3.i1
          obtain ⟨v1, R1, rfl, r1, r2⟩ := r4
          obtain ⟨ws, tys, a, x1, rfl, hP, hD, hK, hR, w1, w2⟩ := hW.at hc r1
          obtain ⟨cA, c', rfl, ⟨t0, w3⟩, w4⟩ := w2
          obtain ⟨y1, y2⟩ := a_cell_spec hcv
          obtain ⟨av, xv, y3, y4, y5⟩ := hR.2.2 _ _ y2
          obtain ⟨fv, rfl, y6⟩ := y5
          have e0 : v0 = .ref av := by
            rw [RV_ref, if_neg y1] at r0
            obtain ⟨a2, y7, y8⟩ := r0
            rw [y4] at y7
            cases y7
            exact y8
          subst e0
          unfold a_isCls at hty
          split at hty
          · rename_i r hr
            rw [decide_eq_true_eq] at hty
            subst hty
            obtain z | z | z | z | g := c'
            · exact absurd w4 (by simp [AR])
            · exact absurd w4 (by simp [AR])
            · exact absurd w4 (by simp [AR])
            · exact absurd w4 (by simp [AR])
            · refine ⟨_, r2, fun k => va_astq hx hb hK hP hD hS0 n t0 v ci w1 w3 y3 hr hin hd (fun H1 locs1 k1 k2 k3 => k H1 locs1 ⟨_, tys, k1, k2, hK, hR.set w1 ⟨cA, _, rfl, ⟨t0, w3⟩, ?_⟩⟩ k3)⟩
              intro i hi
              by_cases q : i = j.toNatClampNeg
              · subst q
                simp only [va_up, if_true]
                exact ⟨av, r0, rfl⟩
              · simp only [va_up, if_neg q]
                exact w4 i hi
          · cases hty
        · cases hp
      · cases hp
    · cases hp
end SC
