/-! M1'S STEPS ARE THE JVM'S (1): stack, locals, jumps -/
def a_len (x : Instr) : Nat := match x with
  | .bipush _ => 2 | .sipush _ => 3 | .ldc _ => 2 | .ldc_w _ => 3 | .ldc2_w _ => 3
  | .iload _ => 2 | .lload _ => 2 | .aload _ => 2 | .istore _ => 2 | .lstore _ => 2 | .astore _ => 2 | .iinc _ _ => 3
  | .goto _ => 3 | .ifCond _ _ => 3 | .if_icmp _ _ => 3
  | .getfield _ => 3 | .putfield _ => 3 | .invokevirtual _ => 3 | .invokestatic _ => 3 | .invokespecial _ => 3
  | .new _ => 3 | .newarray _ => 2 | .anewarray _ => 3 | .multianewarray _ _ => 4
  | _ => 1
/-- what the constant pool must hold -/
def a_const (own : String) (x : Instr) (z : Int) : Option Cond := match x with
  | .ldc k => some (.constant own k (Int32.ofInt z))
  | .ldc_w k => some (.constant own k (Int32.ofInt z))
  | .ldc2_w k => some (.constantLong own k (Int64.ofInt z))
  | _ => none
theorem RVs.i1 {b : Nat} {ad : List Nat} {x : Int32} {S S' : List Value} (h : RVs b ad (.int x :: S) S') : ∃ R', S' = .int x :: R' ∧ RVs b ad S R' := by
  obtain ⟨v', R', h1, h2, h3⟩ := h
  rw [show v' = .int x from h2] at h1
  exact ⟨R', h1, h3⟩
theorem RVs.l1 {b : Nat} {ad : List Nat} {x : Int64} {S S' : List Value} (h : RVs b ad (.long x :: S) S') : ∃ R', S' = .long x :: R' ∧ RVs b ad S R' := by
  obtain ⟨v', R', h1, h2, h3⟩ := h
  rw [show v' = .long x from h2] at h1
  exact ⟨R', h1, h3⟩
theorem RVs.i2 {b : Nat} {ad : List Nat} {x y : Int32} {S S' : List Value} (h : RVs b ad (.int y :: .int x :: S) S') : ∃ R', S' = .int y :: .int x :: R' ∧ RVs b ad S R' := by
  obtain ⟨R1, h1, h2⟩ := h.i1
  obtain ⟨R2, h3, h4⟩ := h2.i1
  subst h3
  exact ⟨R2, h1, h4⟩
theorem RVs.l2 {b : Nat} {ad : List Nat} {x y : Int64} {S S' : List Value} (h : RVs b ad (.long y :: .long x :: S) S') : ∃ R', S' = .long y :: .long x :: R' ∧ RVs b ad S R' := by
  obtain ⟨R1, h1, h2⟩ := h.l1
  obtain ⟨R2, h3, h4⟩ := h2.l1
  subst h3
  exact ⟨R2, h1, h4⟩
theorem RVs.il {b : Nat} {ad : List Nat} {x : Int64} {y : Int32} {S S' : List Value} (h : RVs b ad (.int y :: .long x :: S) S') : ∃ R', S' = .int y :: .long x :: R' ∧ RVs b ad S R' := by
  obtain ⟨R1, h1, h2⟩ := h.i1
  obtain ⟨R2, h3, h4⟩ := h2.l1
  subst h3
  exact ⟨R2, h1, h4⟩
section SA
variable {p : Program} {l : Launch} {e : Env} {R : Room} {s : State} {m : MethodId} {args : Array Value} {below : List Frame} {meth : Method} {c : Code} {H : Heap} {locs : List Loc} {cells slots : Nat} {Q : State → Prop}
variable {cc : ByteArray} {pc : Nat} {ls : Array Slot} {b : Nat} {ad : List Nat} {own : String}

set_option maxHeartbeats 4000000 in
theorem s_pure {x : Instr} {z : Int} {S T S' : List Value} (hx : p.tables.exec = Jvm.exec) (hb : c.code = cc) (hown : s.vm.findClass own = some m.cls) (hd : decode cc pc = .ok (x, a_len x)) (hc : ∀ w, a_const own x z = some w → w.before args s = true) (hp : a_pure x z S = some T) (hS : RVs b ad S S') :
    ∃ T', RVs b ad T T' ∧ (W p l e R s m args below meth c H locs cells slots Q (F0 m (pc + a_len x) ls T') → W p l e R s m args below meth c H locs cells slots Q (F0 m pc ls S')) := by
  cases x <;> try (simp only [a_pure, reduceCtorEq] at hp; done)
  case iconst k =>
    cases hp
    exact ⟨_, ⟨_, _, rfl, rfl, hS⟩, fun k => lv_iconst hx hb hd rfl k⟩
  case bipush k =>
    cases hp
    exact ⟨_, ⟨_, _, rfl, rfl, hS⟩, fun k => lv_bipush hx hb hd rfl k⟩
  case sipush k =>
    cases hp
    exact ⟨_, ⟨_, _, rfl, rfl, hS⟩, fun k => lv_sipush hx hb hd rfl k⟩
  case lconst k =>
    cases hp
    exact ⟨_, ⟨_, _, rfl, rfl, hS⟩, fun k => lv_lconst hx hb hd rfl k⟩
  case ldc k =>
    cases hp
    exact ⟨_, ⟨_, _, rfl, rfl, hS⟩, fun k => lv_ldc hx hb hown (hc _ rfl) hd k⟩
  case ldc_w k =>
    cases hp
    exact ⟨_, ⟨_, _, rfl, rfl, hS⟩, fun k => lv_ldcw hx hb hown (hc _ rfl) hd k⟩
  case ldc2_w k =>
    cases hp
    exact ⟨_, ⟨_, _, rfl, rfl, hS⟩, fun k => lv_ldc2 hx hb hown (hc _ rfl) hd k⟩
  case iadd =>
    simp only [a_pure] at hp
    split at hp
    · cases hp
      obtain ⟨R', rfl, h⟩ := hS.i2
      exact ⟨_, ⟨_, _, rfl, rfl, h⟩, fun k => lv_iadd hx hb hd k⟩
    · cases hp
  case isub =>
    simp only [a_pure] at hp
    split at hp
    · cases hp
      obtain ⟨R', rfl, h⟩ := hS.i2
      exact ⟨_, ⟨_, _, rfl, rfl, h⟩, fun k => lv_isub hx hb hd k⟩
    · cases hp
  case imul =>
    simp only [a_pure] at hp
    split at hp
    · cases hp
      obtain ⟨R', rfl, h⟩ := hS.i2
      exact ⟨_, ⟨_, _, rfl, rfl, h⟩, fun k => lv_imul hx hb hd k⟩
    · cases hp
  case iand =>
    simp only [a_pure] at hp
    split at hp
    · cases hp
      obtain ⟨R', rfl, h⟩ := hS.i2
      exact ⟨_, ⟨_, _, rfl, rfl, h⟩, fun k => lv_iand hx hb hd k⟩
    · cases hp
  case ior =>
    simp only [a_pure] at hp
    split at hp
    · cases hp
      obtain ⟨R', rfl, h⟩ := hS.i2
      exact ⟨_, ⟨_, _, rfl, rfl, h⟩, fun k => lv_ior hx hb hd k⟩
    · cases hp
  case ixor =>
    simp only [a_pure] at hp
    split at hp
    · cases hp
      obtain ⟨R', rfl, h⟩ := hS.i2
      exact ⟨_, ⟨_, _, rfl, rfl, h⟩, fun k => lv_ixor hx hb hd k⟩
    · cases hp
  case ishl =>
    simp only [a_pure] at hp
    split at hp
    · cases hp
      obtain ⟨R', rfl, h⟩ := hS.i2
      exact ⟨_, ⟨_, _, rfl, rfl, h⟩, fun k => lv_ishl hx hb hd k⟩
    · cases hp
  case ishr =>
    simp only [a_pure] at hp
    split at hp
    · cases hp
      obtain ⟨R', rfl, h⟩ := hS.i2
      exact ⟨_, ⟨_, _, rfl, rfl, h⟩, fun k => lv_ishr hx hb hd k⟩
    · cases hp
  case iushr =>
    simp only [a_pure] at hp
    split at hp
    · cases hp
      obtain ⟨R', rfl, h⟩ := hS.i2
      exact ⟨_, ⟨_, _, rfl, rfl, h⟩, fun k => lv_iushr hx hb hd rfl k⟩
    · cases hp
  case ladd =>
    simp only [a_pure] at hp
    split at hp
    · cases hp
      obtain ⟨R', rfl, h⟩ := hS.l2
      exact ⟨_, ⟨_, _, rfl, rfl, h⟩, fun k => lv_ladd hx hb hd k⟩
    · cases hp
  case lsub =>
    simp only [a_pure] at hp
    split at hp
    · cases hp
      obtain ⟨R', rfl, h⟩ := hS.l2
      exact ⟨_, ⟨_, _, rfl, rfl, h⟩, fun k => lv_lsub hx hb hd k⟩
    · cases hp
  case lmul =>
    simp only [a_pure] at hp
    split at hp
    · cases hp
      obtain ⟨R', rfl, h⟩ := hS.l2
      exact ⟨_, ⟨_, _, rfl, rfl, h⟩, fun k => lv_lmul hx hb hd k⟩
    · cases hp
  case lor =>
    simp only [a_pure] at hp
    split at hp
    · cases hp
      obtain ⟨R', rfl, h⟩ := hS.l2
      exact ⟨_, ⟨_, _, rfl, rfl, h⟩, fun k => lv_lor hx hb hd k⟩
    · cases hp
  case idiv =>
    simp only [a_pure] at hp
    split at hp
    · split at hp
      · cases hp
      · rename_i hne
        cases hp
        obtain ⟨R', rfl, h⟩ := hS.i2
        exact ⟨_, ⟨_, _, rfl, rfl, h⟩, fun k => lv_idiv hx hb hd hne k⟩
    · cases hp
  case irem =>
    simp only [a_pure] at hp
    split at hp
    · split at hp
      · cases hp
      · rename_i hne
        cases hp
        obtain ⟨R', rfl, h⟩ := hS.i2
        exact ⟨_, ⟨_, _, rfl, rfl, h⟩, fun k => lv_irem hx hb hd hne k⟩
    · cases hp
  case ldiv =>
    simp only [a_pure] at hp
    split at hp
    · split at hp
      · cases hp
      · rename_i hne
        cases hp
        obtain ⟨R', rfl, h⟩ := hS.l2
        exact ⟨_, ⟨_, _, rfl, rfl, h⟩, fun k => lv_ldiv hx hb hd hne k⟩
    · cases hp
  case lrem =>
    simp only [a_pure] at hp
    split at hp
    · split at hp
      · cases hp
      · rename_i hne
        cases hp
        obtain ⟨R', rfl, h⟩ := hS.l2
        exact ⟨_, ⟨_, _, rfl, rfl, h⟩, fun k => lv_lrem hx hb hd hne k⟩
    · cases hp
  case lneg =>
    simp only [a_pure] at hp
    split at hp
    · cases hp
      obtain ⟨R', rfl, h⟩ := hS.l1
      exact ⟨_, ⟨_, _, rfl, rfl, h⟩, fun k => lv_lneg hx hb hd k⟩
    · cases hp
  case lshl =>
    simp only [a_pure] at hp
    split at hp
    · cases hp
      obtain ⟨R', rfl, h⟩ := hS.il
      exact ⟨_, ⟨_, _, rfl, rfl, h⟩, fun k => lv_lshl hx hb hd rfl k⟩
    · cases hp
  case lcmp =>
    simp only [a_pure] at hp
    split at hp
    · cases hp
      obtain ⟨R', rfl, h⟩ := hS.l2
      exact ⟨_, ⟨_, _, rfl, rfl, h⟩, fun k => W.lcmp hx hb hd k⟩
    · cases hp
  case i2l =>
    simp only [a_pure] at hp
    split at hp
    · cases hp
      obtain ⟨R', rfl, h⟩ := hS.i1
      exact ⟨_, ⟨_, _, rfl, rfl, h⟩, fun k => lv_i2l hx hb hd rfl k⟩
    · cases hp
  case l2i =>
    simp only [a_pure] at hp
    split at hp
    · cases hp
      obtain ⟨R', rfl, h⟩ := hS.l1
      exact ⟨_, ⟨_, _, rfl, rfl, h⟩, fun k => lv_l2i hx hb hd rfl k⟩
    · cases hp
  case dup =>
    simp only [a_pure] at hp
    split at hp
    · split at hp
      · rename_i hq
        cases hp
        obtain ⟨v', R', rfl, h1, h2⟩ := hS
        exact ⟨_, ⟨_, _, rfl, h1, _, _, rfl, h1, h2⟩, fun k => lv_dup hx hb hd (h1.cat.trans hq) k⟩
      · cases hp
    · cases hp
  case pop =>
    simp only [a_pure] at hp
    split at hp
    · split at hp
      · rename_i hq
        cases hp
        obtain ⟨v', R', rfl, h1, h2⟩ := hS
        exact ⟨_, h2, fun k => lv_pop hx hb hd (h1.cat.trans hq) k⟩
      · cases hp
    · cases hp
  case dup2 =>
    simp only [a_pure] at hp
    split at hp
    · split at hp
      · rename_i hq
        cases hp
        obtain ⟨v', R1, rfl, h1, w', R', rfl, h2, h3⟩ := hS
        exact ⟨_, ⟨_, _, rfl, h1, _, _, rfl, h2, _, _, rfl, h1, _, _, rfl, h2, h3⟩, fun k => lv_dup2_11 hx hb hd (h1.cat.trans hq.1) (h2.cat.trans hq.2) k⟩
      · split at hp
        · rename_i hq
          cases hp
          obtain ⟨v', R1, rfl, h1, h2⟩ := hS
          exact ⟨_, ⟨_, _, rfl, h1, _, _, rfl, h1, h2⟩, fun k => lv_dup2_2 hx hb hd (h1.cat.trans hq) k⟩
        · cases hp
    · cases hp
set_option maxHeartbeats 4000000 in
theorem s_load {x : Instr} {L : aL} {v : Value} {S' : List Value} (hx : p.tables.exec = Jvm.exec) (hb : c.code = cc) (hd : decode cc pc = .ok (x, a_len x)) (hp : a_load x L = some v) (hL : LR b ad L ls) :
    ∃ v', RV b ad v v' ∧ (W p l e R s m args below meth c H locs cells slots Q (F0 m (pc + a_len x) ls (v' :: S')) → W p l e R s m args below meth c H locs cells slots Q (F0 m pc ls S')) := by
  cases x <;> try (simp only [a_load, reduceCtorEq] at hp; done)
  case iload k =>
    simp only [a_load] at hp
    split at hp
    · rename_i hg
      cases hp
      obtain ⟨v', h1, h2⟩ := hL.2.2 _ _ hg
      rw [show v' = _ from h2] at h1
      exact ⟨_, rfl, fun k => lv_iload hx hb hd h1 k⟩
    · cases hp
  case iload_n k =>
    simp only [a_load] at hp
    split at hp
    · rename_i hg
      cases hp
      obtain ⟨v', h1, h2⟩ := hL.2.2 _ _ hg
      rw [show v' = _ from h2] at h1
      exact ⟨_, rfl, fun k => lv_iload_n hx hb hd rfl h1 k⟩
    · cases hp
  case lload k =>
    simp only [a_load] at hp
    split at hp
    · rename_i hg
      cases hp
      obtain ⟨v', h1, h2⟩ := hL.2.2 _ _ hg
      rw [show v' = _ from h2] at h1
      exact ⟨_, rfl, fun k => lv_lload hx hb hd h1 k⟩
    · cases hp
  case lload_n k =>
    simp only [a_load] at hp
    split at hp
    · rename_i hg
      cases hp
      obtain ⟨v', h1, h2⟩ := hL.2.2 _ _ hg
      rw [show v' = _ from h2] at h1
      exact ⟨_, rfl, fun k => lv_lload_n hx hb hd rfl h1 k⟩
    · cases hp
  case aload k =>
    simp only [a_load] at hp
    split at hp
    · rename_i hg
      cases hp
      obtain ⟨v', h1, h2⟩ := hL.2.2 _ _ hg
      obtain ⟨a, rfl⟩ := h2.isRef
      exact ⟨_, h2, fun k => lv_aload hx hb hd h1 k⟩
    · cases hp
  case aload_n k =>
    simp only [a_load] at hp
    split at hp
    · rename_i hg
      cases hp
      obtain ⟨v', h1, h2⟩ := hL.2.2 _ _ hg
      obtain ⟨a, rfl⟩ := h2.isRef
      exact ⟨_, h2, fun k => lv_aload_n hx hb hd rfl h1 k⟩
    · cases hp
set_option maxHeartbeats 4000000 in
theorem s_store {x : Instr} {L L' : aL} {S T S' : List Value} (hx : p.tables.exec = Jvm.exec) (hb : c.code = cc) (hd : decode cc pc = .ok (x, a_len x)) (hp : a_store x L S = some (L', T)) (hL : LR b ad L ls) (hS : RVs b ad S S') :
    ∃ T', RVs b ad T T' ∧ ((∀ ls', LR b ad L' ls' → W p l e R s m args below meth c H locs cells slots Q (F0 m (pc + a_len x) ls' T')) → W p l e R s m args below meth c H locs cells slots Q (F0 m pc ls S')) := by
  cases x <;> try (simp only [a_store, reduceCtorEq] at hp; done)
  case istore k =>
    simp only [a_store] at hp
    split at hp
    · split at hp
      · rename_i hk
        cases hp
        obtain ⟨R', rfl, h⟩ := hS.i1
        exact ⟨_, h, fun kk => lv_istore hx hb hd (lvAll_has hL.2.1) (by rw [hL.1]; exact hk) rfl (fun ls' h' => kk ls' (hL.set1 rfl h'))⟩
      · cases hp
    · cases hp
  case istore_n k =>
    simp only [a_store] at hp
    split at hp
    · split at hp
      · rename_i hk
        cases hp
        obtain ⟨R', rfl, h⟩ := hS.i1
        exact ⟨_, h, fun kk => lv_istore_n hx hb hd rfl (lvAll_has hL.2.1) (by rw [hL.1]; exact hk) rfl (fun ls' h' => kk ls' (hL.set1 rfl h'))⟩
      · cases hp
    · cases hp
  case lstore k =>
    simp only [a_store] at hp
    split at hp
    · split at hp
      · rename_i hk
        cases hp
        obtain ⟨R', rfl, h⟩ := hS.l1
        exact ⟨_, h, fun kk => lv_lstore hx hb hd (lvAll_has hL.2.1) (by rw [hL.1]; exact hk) rfl (fun ls' h' => kk ls' (hL.set2 rfl h'))⟩
      · cases hp
    · cases hp
  case lstore_n k =>
    simp only [a_store] at hp
    split at hp
    · split at hp
      · rename_i hk
        cases hp
        obtain ⟨R', rfl, h⟩ := hS.l1
        exact ⟨_, h, fun kk => lv_lstore_n hx hb hd rfl (lvAll_has hL.2.1) (by rw [hL.1]; exact hk) rfl (fun ls' h' => kk ls' (hL.set2 rfl h'))⟩
      · cases hp
    · cases hp
  case astore k =>
    simp only [a_store] at hp
    split at hp
    · split at hp
      · rename_i hk
        cases hp
        obtain ⟨v', R', rfl, h1, h⟩ := hS
        obtain ⟨a, rfl⟩ := h1.isRef
        exact ⟨_, h, fun kk => lv_astore hx hb hd (lvAll_has hL.2.1) (by rw [hL.1]; exact hk) rfl (fun ls' h' => kk ls' (hL.set1 h1 h'))⟩
      · cases hp
    · cases hp
  case astore_n k =>
    simp only [a_store] at hp
    split at hp
    · split at hp
      · rename_i hk
        cases hp
        obtain ⟨v', R', rfl, h1, h⟩ := hS
        obtain ⟨a, rfl⟩ := h1.isRef
        exact ⟨_, h, fun kk => lv_astore_n hx hb hd rfl (lvAll_has hL.2.1) (by rw [hL.1]; exact hk) rfl (fun ls' h' => kk ls' (hL.set1 h1 h'))⟩
      · cases hp
    · cases hp
  case iinc k z =>
    simp only [a_store] at hp
    split at hp
    · rename_i hg
      split at hp
      · rename_i hk
        cases hp
        obtain ⟨v', h1, h2⟩ := hL.2.2 _ _ hg
        rw [show v' = _ from h2] at h1
        obtain ⟨i, hi⟩ := List.getElem?_of_mem (lvAll_mem.mpr h1)
        exact ⟨_, hS, fun kk => lv_iinc hx hb hd (lvAll_has hL.2.1) hi rfl (by rw [hL.1]; exact hk) rfl (fun ls' h' => kk ls' (hL.set1 rfl h'))⟩
      · cases hp
    · cases hp
def a_off (x : Instr) : Int := match x with
  | .goto o => o | .ifCond _ o => o | .if_icmp _ o => o | _ => 0
set_option maxHeartbeats 4000000 in
theorem s_br {x : Instr} {S T S' : List Value} {t : Bool} {tgt : Nat} (hx : p.tables.exec = Jvm.exec) (hb : c.code = cc) (hd : decode cc pc = .ok (x, a_len x)) (ht : (pc : Int) + a_off x = (tgt : Int)) (hp : a_br x S = some (t, T)) (hS : RVs b ad S S') :
    ∃ T', RVs b ad T T' ∧ (W p l e R s m args below meth c H locs cells slots Q (F0 m (if t = true then tgt else pc + a_len x) ls T') → W p l e R s m args below meth c H locs cells slots Q (F0 m pc ls S')) := by
  cases x <;> try (simp only [a_br, reduceCtorEq] at hp; done)
  case goto o =>
    cases hp
    exact ⟨_, hS, fun k => lv_goto hx hb hd ht k⟩
  case ifCond cd o =>
    cases cd
    case eq =>
      simp only [a_br] at hp
      split at hp
      · cases hp
        obtain ⟨R', rfl, h⟩ := hS.i1
        exact ⟨_, h, fun k => lv_if_eq hx hb hd ht (fun q => by simpa [q] using k) (fun q => by simpa [q, a_len] using k)⟩
      · cases hp
    case ne =>
      simp only [a_br] at hp
      split at hp
      · cases hp
        obtain ⟨R', rfl, h⟩ := hS.i1
        exact ⟨_, h, fun k => lv_if_ne hx hb hd ht (fun q => by simpa [q] using k) (fun q => by simpa [q, a_len] using k)⟩
      · cases hp
    case lt =>
      simp only [a_br] at hp
      split at hp
      · cases hp
        obtain ⟨R', rfl, h⟩ := hS.i1
        exact ⟨_, h, fun k => lv_if_lt hx hb hd ht (fun q => by simpa [q] using k) (fun q => by simpa [q, a_len] using k)⟩
      · cases hp
    case ge =>
      simp only [a_br] at hp
      split at hp
      · cases hp
        obtain ⟨R', rfl, h⟩ := hS.i1
        exact ⟨_, h, fun k => lv_if_ge hx hb hd ht (fun q => by simpa [q] using k) (fun q => by simpa [q, a_len] using k)⟩
      · cases hp
    case gt =>
      simp only [a_br] at hp
      split at hp
      · cases hp
        obtain ⟨R', rfl, h⟩ := hS.i1
        exact ⟨_, h, fun k => lv_if_gt hx hb hd ht (fun q => by simpa [q] using k) (fun q => by simpa [q, a_len] using k)⟩
      · cases hp
    case le =>
      simp only [a_br] at hp
      split at hp
      · cases hp
        obtain ⟨R', rfl, h⟩ := hS.i1
        exact ⟨_, h, fun k => lv_if_le hx hb hd ht (fun q => by simpa [q] using k) (fun q => by simpa [q, a_len] using k)⟩
      · cases hp
  case if_icmp cd o =>
    cases cd
    case eq =>
      simp only [a_br] at hp
      split at hp
      · cases hp
        obtain ⟨R', rfl, h⟩ := hS.i2
        exact ⟨_, h, fun k => lv_icmp_eq hx hb hd ht (fun q => by simpa [q] using k) (fun q => by simpa [q, a_len] using k)⟩
      · cases hp
    case ne =>
      simp only [a_br] at hp
      split at hp
      · cases hp
        obtain ⟨R', rfl, h⟩ := hS.i2
        exact ⟨_, h, fun k => lv_icmp_ne hx hb hd ht (fun q => by simpa [q] using k) (fun q => by simpa [q, a_len] using k)⟩
      · cases hp
    case lt =>
      simp only [a_br] at hp
      split at hp
      · cases hp
        obtain ⟨R', rfl, h⟩ := hS.i2
        exact ⟨_, h, fun k => lv_icmp_lt hx hb hd ht (fun q => by simpa [q] using k) (fun q => by simpa [q, a_len] using k)⟩
      · cases hp
    case ge =>
      simp only [a_br] at hp
      split at hp
      · cases hp
        obtain ⟨R', rfl, h⟩ := hS.i2
        exact ⟨_, h, fun k => lv_icmp_ge hx hb hd ht (fun q => by simpa [q] using k) (fun q => by simpa [q, a_len] using k)⟩
      · cases hp
    case gt =>
      simp only [a_br] at hp
      split at hp
      · cases hp
        obtain ⟨R', rfl, h⟩ := hS.i2
        exact ⟨_, h, fun k => lv_icmp_gt hx hb hd ht (fun q => by simpa [q] using k) (fun q => by simpa [q, a_len] using k)⟩
      · cases hp
    case le =>
      simp only [a_br] at hp
      split at hp
      · cases hp
        obtain ⟨R', rfl, h⟩ := hS.i2
        exact ⟨_, h, fun k => lv_icmp_le hx hb hd ht (fun q => by simpa [q] using k) (fun q => by simpa [q, a_len] using k)⟩
      · cases hp
theorem s_sw {d lo hi : Int} {offs : Array Int} {len : Nat} {tg : List Nat} {pcs : Nat → Nat} {S' : List Value} {v : Int32} {j : Nat} (hx : p.tables.exec = Jvm.exec) (hb : c.code = cc) (hd : decode cc pc = .ok (.tableswitch d lo hi offs, len))
    (h0 : ∀ j, tg[0]? = some j → (pc : Int) + d = (pcs j : Int)) (h1 : ∀ (k : Nat) (j : Nat), tg[k + 1]? = some j → ∃ o, offs[k]? = some o ∧ (pc : Int) + o = (pcs j : Int)) (hp : a_sw lo hi tg v = some j)
    (kk : W p l e R s m args below meth c H locs cells slots Q (F0 m (pcs j) ls S')) : W p l e R s m args below meth c H locs cells slots Q (F0 m pc ls (.int v :: S')) := by
  unfold a_sw at hp
  split at hp
  · rename_i q
    exact lv_tableOut hx hb hd q (h0 j hp) kk
  · rename_i q
    obtain ⟨o, h2, h3⟩ := h1 _ _ hp
    exact lv_tableIn hx hb hd (fun z => q (Or.inl z)) (fun z => q (Or.inr z)) h2 h3 kk
end SA
