/-! CALLS, CERTIFICATES, AND THE WALK: what M1 does, the JVM does -/
/-- the words of the tables that hold at every state of the run -/
def GW : List Cond := lw_tbl.filter goodWord
/-- private members of nest mates: who links, where, to what -/
def NWl : List (String × Nat × MethodName) := [("ChanceCourt$Equations", 33, yX11_has), ("ChanceCourt$Guide", 44, yX11_has), ("ChanceCourt$Holes", 62, yX11_has), ("ChanceCourt$Horizon", 43, yX11_has), ("ChanceCourt$Twins", 41, yX11_has), ("ChanceCourt$Verdict", 123, yX11_has), ("ChanceCourt$Ways", 32, yX11_has), ("ChanceCourt$World", 69, yX11_has), ("ChanceCourt", 76, yX6_init), ("ChanceCourt$Prices", 11, yX1_init), ("ChanceCourt$Shelf", 17, yX0_init), ("ChanceCourt$Verdict", 11, yX1_init), ("ChanceCourt$World", 25, yX0_init)]
def ENV (s : State) : Prop := (∀ q ∈ NWl, va_Nw (.methodLinkNest q.1 q.2.1 q.2.2 "ChanceCourt") s) ∧ va_AO "ChanceCourt$Act" s ∧ va_AO "ChanceCourt$Shelf" s ∧ (Cond.arrayOver (.array .long)).before #[] s = true
theorem a_AOA {A A' : Array Value} {u : State} (h : (Cond.arrayOver (.array .long)).before A u = true) : (Cond.arrayOver (.array .long)).before A' u = true := h
theorem a_AOA_spec {t : FieldType} {u : State} (h : (Cond.arrayOver (.array t)).before #[] u = true) : ∃ (comp c : ClassId) (k : Class) (c0 : ClassId), u.vm.findClass (FieldType.array t).toString = some comp ∧ (u.vm.classes.findIdx? fun (x : Class) => match x.kind with | .array component _ => component == comp | _ => false) = some c ∧ u.vm.classes[c]? = some k ∧ k.kind = .array c0 (.array t) ∧ u.vm.findClass ("[" ++ (FieldType.array t).toString) = some c := by
  unfold Cond.before Cond.holds at h
  simp only [Cond.value, beq_iff_eq] at h
  cases hc : u.vm.findClass (FieldType.array t).toString with
  | none => simp [hc] at h
  | some comp =>
    simp only [hc, Option.bind_some] at h
    obtain ⟨c, h2, h3⟩ := Option.bind_eq_some_iff.mp h
    obtain ⟨k, h4, h5⟩ := Option.map_eq_some_iff.mp h3
    split at h5
    · rename_i c0 ty hk
      simp only [Bool.and_eq_true, decide_eq_true_eq] at h5
      obtain ⟨e1, e2⟩ := h5
      subst e1
      exact ⟨comp, c, k, c0, rfl, h2, h4, hk, e2⟩
    · cases h5
theorem a_AOA_moved {t : FieldType} {u U : State} (hvm : u.vm.Alike U.vm) (h : (Cond.arrayOver (.array t)).before #[] u = true) : (Cond.arrayOver (.array t)).before #[] U = true := by
  obtain ⟨comp, c, k, c0, h1, h2, h3, h4, h5⟩ := a_AOA_spec h
  obtain ⟨k', hk', he⟩ := hvm.2.2 _ _ h3
  have hi : (U.vm.classes.findIdx? fun (x : Class) => match x.kind with | .array component _ => component == comp | _ => false) = some c := by
    refine (va_idx_bare U.vm comp).symm.trans ?_
    have e2 : U.vm.bare = u.vm.bare := by first | exact hvm.bare_eq | exact hvm.bare_eq.symm
    rw [e2]
    exact (va_idx_bare u.vm comp).trans h2
  have hkind : k'.kind = .array c0 (.array t) := by rw [he]; exact h4
  have f1 : U.vm.findClass (FieldType.array t).toString = some comp := by rw [hvm.findClass]; exact h1
  have f2 : U.vm.findClass ("[" ++ (FieldType.array t).toString) = some c := by rw [hvm.findClass]; exact h5
  unfold Cond.before Cond.holds
  simp only [Cond.value]
  rw [f1, Option.bind_some]
  refine (congrArg (fun o : Option Nat => (o.bind (fun c => (U.vm.classes[c]?).map fun (k : Class) => match k.kind with | .array _ ty => decide (ty = FieldType.array t) && decide (U.vm.findClass ("[" ++ (FieldType.array t).toString) = some c) | _ => false) == some true)) hi).trans ?_
  simp [hk', hkind, f2]
theorem ENV.moved {s U : State} (hW : s.WarmedH U.vm) (h : ENV s) : ENV U := ⟨fun q hq => va_Nw.warmM hW (h.1 q hq), va_AO.moved hW.alike h.2.1, va_AO.moved hW.alike h.2.2.1, a_AOA_moved hW.alike h.2.2.2⟩
/-- which cells a method may change -/
def aA (ad : List Nat) (sz : Nat) : Nat → Prop := fun q => q ∈ ad ∨ sz ≤ q
def RO (b : Nat) (ad : List Nat) : Option Value → Option Value → Prop
  | none, r => r = none
  | some v, r => ∃ v', r = some v' ∧ RV b ad v v'
theorem RO.list {b : Nat} {ad : List Nat} {r r' : Option Value} (h : RO b ad r r') : RVs b ad r.toList r'.toList := by
  cases r with
  | none => rw [show r' = none from h]; exact rfl
  | some v =>
    obtain ⟨v', h1, h2⟩ := h
    subst h1
    exact ⟨v', [], rfl, h2, rfl⟩
def CtrP (D : va_G) (b : Nat) (xs : Nat × (Nat → Int32)) (args : List Value) (h : aH) (ad : List Nat) (sz : Nat) : Array Value → State → Prop := fun v U =>
  ∃ args', v = args'.toArray ∧ RVs b ad args args' ∧ U.heap.size = sz ∧ World D (fun _ => True) b ad h U.heap U ∧ ENV U ∧ va_X b xs.1 xs.2 U U.heap ∧ b < sz ∧ b ∉ ad
def CtrQ (D : va_G) (b : Nat) (Q : Option Value → aH → Prop) (ad : List Nat) (sz : Nat) : Array Value → State → Outcome → State → Prop := fun _ st oc t =>
  (∃ r r' h' ad1, oc = .returned r' ∧ Q r h' ∧ RO b (ad ++ ad1) r r' ∧ World D (fun _ => True) b (ad ++ ad1) h' t.heap t ∧ ∀ a ∈ ad1, sz ≤ a) ∧ va_F (aA ad sz) st t
def wsM (M : aM) : List Cond := Cond.code M.1 M.2.1 M.2.2.1 M.2.2.2.1 :: GW
def rmD (d : Nat) (M : aM) : Room := { frames := d, cells := M.2.2.2.2.2.1.1, slots := M.2.2.2.2.2.1.2, locals := 39 * d }
/-- THE CONTRACT of a method at depth d: from these arguments and this heap it comes to Q -/
def Ctr (l : Launch) (D : va_G) (b : Nat) (xs : Nat × (Nat → Int32)) (d : Nat) (M : aM) (args : List Value) (h : aH) (Q : Option Value → aH → Prop) : Prop :=
  ∀ ad sz, Met l M.1 (wsM M) (rmD d M) (CtrP D b xs args h ad sz) (CtrQ D b Q ad sz) M.2.2.2.2.2.1.1 M.2.2.2.2.2.1.2 (aA ad sz)
theorem CtrP.blind {D : va_G} {b : Nat} {xs : Nat × (Nat → Int32)} {args : List Value} {h : aH} {ad : List Nat} {sz : Nat} : FrameBlind (CtrP D b xs args h ad sz) := fun _ _ _ _ hp => hp
/-- where an instruction stands -/
def pcOf (tbl : List xI) (i : Nat) : Nat := match tbl[i]? with
  | some x => x.2.1
  | none => 0
def a_isSw (x : Instr) : Bool := match x with | .tableswitch _ _ _ _ => true | _ => false
def a_falls (x : Instr) : Bool := match x with | .tableswitch _ _ _ _ => false | .goto _ => false | .return_ => false | .ireturn => false | .lreturn => false | .areturn => false | _ => true
def a_jumps (x : Instr) : Bool := match x with | .goto _ => true | .ifCond _ _ => true | .if_icmp _ _ => true | _ => false
/-- what an instruction that makes cells links to: the tables' part -/
def a_mkS (own : String) (x : xI) : Prop := match x.1 with
  | .new idx => ∀ (C : String) (T : u_T) (N : Nat), vwCl[x.2.2.2.1]? = some (C, T, N) → Cond.classLink own idx C ∈ GW ∧ Cond.instantiable C N ∈ GW ∧ Cond.initialized C ∈ GW
  | .newarray ty => Cond.arrayClass (newarray.typeOf ty) ∈ GW
  | .anewarray idx => ∀ (C : String) (T : u_T) (N : Nat), vwCl[x.2.2.2.1]? = some (C, T, N) → Cond.classLink own idx C ∈ GW ∧ (C = "ChanceCourt$Act" ∨ C = "ChanceCourt$Shelf")
  | .multianewarray idx k => k = 2 ∧ Cond.classLink own idx ("[" ++ (FieldType.array .long).toString) ∈ GW ∧ Cond.arrayClass .long ∈ GW
  | _ => True
/-- what every callee is -/
def a_cal (M : aM) (n : Nat) : Prop := Cond.code M.1 M.2.1 M.2.2.1 M.2.2.2.1 ∈ GW ∧ Cond.initialized M.1.cls ∈ GW ∧ M.1.cls ≠ "java/lang/invoke/MethodHandle" ∧ M.1.cls ≠ "java/lang/invoke/VarHandle" ∧ (parseMethodDescriptor M.1.desc).map (fun d => d.parameters.length) = some n ∧ M.2.2.1 ≤ 20
def a_lnk (own : String) (idx : Nat) (y : MethodName) : Prop := Cond.methodLink own idx y ∈ GW ∨ (own, idx, y) ∈ NWl
def a_callV (own : String) (MT : List aM) (x : xI) (idx : Nat) : Prop := ∀ M, MT[x.2.2.2.1]? = some M → (∃ n, x.2.2.2.2.1 = n + 1 ∧ a_cal M n) ∧ Cond.methodLink own idx M.1 ∈ GW ∧ Cond.instanceMethod M.1 ∈ GW ∧ Cond.selects M.1.cls M.1 M.1 ∈ GW ∧ ∃ ci : Nat, (ci : Int) = x.2.2.2.2.2.1 ∧ ∃ T N, vwCl[ci]? = some (M.1.cls, T, N)
def a_callS (own : String) (MT : List aM) (x : xI) (idx : Nat) : Prop := ∀ M, MT[x.2.2.2.1]? = some M → a_cal M x.2.2.2.2.1 ∧ a_lnk own idx M.1 ∧ Cond.static M.1 ∈ GW
def a_callI (own : String) (MT : List aM) (x : xI) (idx : Nat) : Prop := ∀ M, MT[x.2.2.2.1]? = some M → (∃ n, x.2.2.2.2.1 = n + 1 ∧ a_cal M n) ∧ a_lnk own idx M.1 ∧ Cond.instanceMethod M.1 ∈ GW ∧ M.1.name = "<init>" ∧ M.2.2.2.1 = none
def a_callC (own : String) (idx : Nat) : Prop := Cond.methodLink own idx arraycopyName ∈ GW ∧ Cond.native arraycopyName ∈ GW ∧ Cond.static arraycopyName ∈ GW ∧ Cond.initialized "java/lang/System" ∈ GW
def a_callO (own : String) (idx : Nat) : Prop := Cond.methodLink own idx objectInit ∈ GW ∧ Cond.instanceMethod objectInit ∈ GW ∧ Cond.code objectInit ⟨#[0xb1]⟩ 1 none ∈ GW
/-- THE CERTIFICATE of an instruction -/
def xOK (own mname : String) (cc : ByteArray) (MT : List aM) (tbl : List xI) (i : Nat) (x : xI) : Prop :=
  decode cc x.2.1 = .ok (x.1, x.2.2.1) ∧ (a_isSw x.1 = false → x.2.2.1 = a_len x.1) ∧ (a_falls x.1 = true → pcOf tbl (i + 1) = x.2.1 + x.2.2.1) ∧ (a_jumps x.1 = true → (x.2.1 : Int) + a_off x.1 = (pcOf tbl x.2.2.2.1 : Int)) ∧
  (∀ w, a_const own x.1 x.2.2.2.2.2.1 = some w → w ∈ GW) ∧ (∀ idx, x.1 = .getfield idx → a_fld own GW x idx) ∧ (∀ idx, x.1 = .putfield idx → a_fld own GW x idx ∧ a_fin own mname x) ∧ a_mkS own x ∧
  (∀ idx, x.1 = .invokevirtual idx → a_callV own MT x idx) ∧ (∀ idx, x.1 = .invokestatic idx → if x.2.2.2.1 = idCopy then a_callC own idx else a_callS own MT x idx) ∧ (∀ idx, x.1 = .invokespecial idx → if x.2.2.2.1 = idInit then a_callO own idx else a_callI own MT x idx) ∧
  (∀ d lo hi offs, x.1 = .tableswitch d lo hi offs → (∀ j, x.2.2.2.2.2.2[0]? = some j → (x.2.1 : Int) + d = (pcOf tbl j : Int)) ∧ ∀ (k j : Nat), x.2.2.2.2.2.2[k + 1]? = some j → ∃ o, offs[k]? = some o ∧ (x.2.1 : Int) + o = (pcOf tbl j : Int))
def tOK (own mname : String) (cc : ByteArray) (MT : List aM) (tbl : List xI) : Prop := ∀ (i : Nat) (x : xI), tbl[i]? = some x → xOK own mname cc MT tbl i x
theorem a_scope {D : va_G} {A : Nat → Prop} {b : Nat} {ad : List Nat} {h : aH} {H : Heap} {s : State} (w : World D A b ad h H s) : ∀ q ∈ ad, A q ∧ q < H.size := by
  obtain ⟨ws, tys, hP, hD, hK, hR⟩ := w
  intro q hq
  rw [← hR.2.1] at hq
  obtain ⟨x, hx, rfl⟩ := List.mem_map.mp hq
  obtain ⟨i, hi⟩ := List.getElem?_of_mem hx
  exact ⟨hD.2 i x hi, (hP i x hi).lt⟩
theorem World.weaken {D : va_G} {A B : Nat → Prop} {b : Nat} {ad : List Nat} {h : aH} {H : Heap} {s : State} (w : World D A b ad h H s) (hB : ∀ q ∈ ad, B q) : World D B b ad h H s := by
  obtain ⟨ws, tys, hP, hD, hK, hR⟩ := w
  refine ⟨ws, tys, hP, ⟨hD.1, fun k q hk => hB _ ?_⟩, hK, hR⟩
  rw [← hR.2.1]
  exact List.mem_map.mpr ⟨q, List.mem_of_getElem? hk, rfl⟩
theorem World.moved {D : va_G} {A : Nat → Prop} {b : Nat} {ad : List Nat} {h : aH} {H : Heap} {s U : State} (hvm : s.vm.Alike U.vm) (w : World D A b ad h H s) : World D A b ad h H U := by
  obtain ⟨ws, tys, hP, hD, hK, hR⟩ := w
  exact ⟨ws, tys, hP, hD, hK.moved hvm, hR⟩
section SE
variable {p : Program} {l : Launch} {e : Env} {R : Room} {s : State} {m : MethodId} {args : Array Value} {below : List Frame} {meth : Method} {c : Code} {H : Heap} {locs : List Loc} {cells slots : Nat} {Q : State → Prop}
variable {cc : ByteArray} {pc : Nat} {ls : Array Slot} {b : Nat} {ad : List Nat} {own : String} {D : va_G} {A0 : Nat → Prop} {H0 : Heap} {h : aH} {xs : Nat × (Nat → Int32)}
theorem s_after {Q1 : Option Value → aH → Prop} {mc ms : Nat} {a : Array Value} {st0 rest : List Value} (hr : va_Run p l e R s m args below meth c H locs cells slots mc ms (F0 m pc ls st0) rest (CtrQ D b Q1 ad H.size a) (aA ad H.size)) (hS : va_S A0 H0 H locs) (hA : ∀ q, H0.size ≤ q → A0 q) (had : ∀ q ∈ ad, A0 q)
    (kk : ∀ (r r' : Option Value) (h' : aH) (ad1 : List Nat) (H1 : Heap) (locs1 : List Loc), Q1 r h' → RO b (ad ++ ad1) r r' → World D A0 b (ad ++ ad1) h' H1 s → va_S A0 H0 H1 locs1 → W p l e R s m args below meth c H1 locs1 (cells + mc) (slots + ms) Q (F0 m (pc + 3) ls (r'.toList ++ rest))) : W p l e R s m args below meth c H locs cells slots Q (F0 m pc ls st0) := by
  intro T hT X
  obtain ⟨v, st₀, t, T', L, h0, X', hL, e1, e2, ⟨⟨r, r', h', ad1, hv, hq, hro, hw, hnew⟩, hz, hk⟩, st⟩ := hr T hT X
  cases hv
  rw [h0] at hz hk
  have hAA : ∀ q, aA ad H.size q → A0 q := fun q hq => hq.elim (had q) (fun z => hA q (Nat.le_trans hS.1 z))
  have hvm : t.vm.Alike s.vm := by rw [← e2]; exact X'.warmed.alike.symm
  rw [← e1] at hw
  obtain ⟨t2, a1, b1⟩ := kk r v h' ad1 T'.heap (locs ++ L) hq hro ((hw.moved hvm).weaken (fun q hq => (List.mem_append.mp hq).elim (had q) (fun z => hA q (Nat.le_trans hS.1 (hnew q z)))))
    ⟨Nat.le_trans hS.1 (by rw [e1]; exact hz), fun q h1 h2 => by rw [e1, hk q (Nat.lt_of_lt_of_le h1 hS.1) (fun z => h2 (hAA q z))]; exact hS.2.1 q h1 h2, fun q hq => by
      rcases List.mem_append.mp hq with h | h
      · exact hS.2.2 q h
      · exact hAA _ (hL q h)⟩ T' rfl X'
  exact ⟨t2, st t2 a1, b1⟩
end SE

