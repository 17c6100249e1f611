/-! CERTIFICATES: each instruction is what the class files and the tables say -/
def ck (w : Cond) (i : Nat) : Bool := match lw_tbl[i]? with
  | some v => decide (v = w) && goodWord w
  | none => false
theorem ck_ok {w : Cond} {i : Nat} (h : ck w i = true) : w ∈ GW := by
  unfold ck at h
  split at h
  · rename_i v hv
    rw [Bool.and_eq_true, decide_eq_true_eq] at h
    obtain ⟨h1, h2⟩ := h
    subst h1
    exact List.mem_filter.mpr ⟨List.mem_of_getElem? hv, h2⟩
  · cases h
def fCK (own : String) (x : xI) (idx h0 : Nat) : Bool := match vwCl[x.2.2.2.1]? with
  | some (C, T, N) => decide (x.2.2.2.2.1 < N) && decide ((T x.2.2.2.2.1).1 = C) && ck (.fieldLink own idx C (T x.2.2.2.2.1).2.1 (T x.2.2.2.2.1).2.2.1) h0
  | none => false
theorem fCK_ok {own : String} {x : xI} {idx h0 : Nat} (h : fCK own x idx h0 = true) : a_fld own GW x idx := by
  unfold fCK at h
  split at h
  · rename_i C T N hc
    simp only [Bool.and_eq_true, decide_eq_true_eq] at h
    exact ⟨C, T, N, hc, h.1.1, h.1.2, ck_ok h.2⟩
  · cases h
def finCK (own mname : String) (x : xI) : Bool := match vwCl[x.2.2.2.1]? with
  | some (_, T, _) => !(T x.2.2.2.2.1).2.2.2 || (decide (mname = "<init>") && decide ((T x.2.2.2.2.1).1 = own))
  | none => true
theorem finCK_ok {own mname : String} {x : xI} (h : finCK own mname x = true) : a_fin own mname x := by
  intro C T N hc
  unfold finCK at h
  rw [hc] at h
  simp only [Bool.or_eq_true, Bool.and_eq_true, decide_eq_true_eq, Bool.not_eq_true'] at h
  cases hq : (T x.2.2.2.2.1).2.2.2 with
  | false => exact Or.inl rfl
  | true =>
    rcases h with h | h
    · rw [hq] at h; cases h
    · exact Or.inr ⟨rfl, h.1, h.2⟩
def calCK (M : aM) (n h0 h1 : Nat) : Bool := ck (.code M.1 M.2.1 M.2.2.1 M.2.2.2.1) h0 && ck (.initialized M.1.cls) h1 && decide (M.1.cls ≠ "java/lang/invoke/MethodHandle") && decide (M.1.cls ≠ "java/lang/invoke/VarHandle") && decide ((parseMethodDescriptor M.1.desc).map (fun d => d.parameters.length) = some n) && decide (M.2.2.1 ≤ 20)
theorem calCK_ok {M : aM} {n h0 h1 : Nat} (h : calCK M n h0 h1 = true) : a_cal M n := by
  simp only [calCK, Bool.and_eq_true, decide_eq_true_eq] at h
  obtain ⟨⟨⟨⟨⟨a1, a2⟩, a3⟩, a4⟩, a5⟩, a6⟩ := h
  exact ⟨ck_ok a1, ck_ok a2, a3, a4, a5, a6⟩
def lnkCK (own : String) (idx : Nat) (y : MethodName) (h0 : Nat) : Bool := ck (.methodLink own idx y) h0 || decide ((own, idx, y) ∈ NWl)
theorem lnkCK_ok {own : String} {idx : Nat} {y : MethodName} {h0 : Nat} (h : lnkCK own idx y h0 = true) : a_lnk own idx y := by
  simp only [lnkCK, Bool.or_eq_true, decide_eq_true_eq] at h
  exact h.imp ck_ok id
def swCK (tbl : List xI) (pc : Nat) (offs : Array Int) : Nat → List Nat → Bool
  | _, [] => true
  | k, j :: r => (match offs[k]? with | some o => decide ((pc : Int) + o = (pcOf tbl j : Int)) | none => false) && swCK tbl pc offs (k + 1) r
theorem swCK_ok {tbl : List xI} {pc : Nat} {offs : Array Int} : ∀ {tg : List Nat} {k0 : Nat}, swCK tbl pc offs k0 tg = true → ∀ (k j : Nat), tg[k]? = some j → ∃ o, offs[k0 + k]? = some o ∧ (pc : Int) + o = (pcOf tbl j : Int)
  | [], _, _, k, j, h => by simp at h
  | a :: r, k0, h, k, j, hj => by
    simp only [swCK, Bool.and_eq_true] at h
    cases k with
    | zero =>
      rw [List.getElem?_cons_zero] at hj
      cases hj
      have h1 := h.1
      split at h1
      · rename_i o ho
        rw [decide_eq_true_eq] at h1
        exact ⟨o, ho, h1⟩
      · cases h1
    | succ k =>
      rw [List.getElem?_cons_succ] at hj
      have := swCK_ok h.2 k j hj
      rw [show k0 + (k + 1) = k0 + 1 + k by omega]
      exact this
/-- the links of an instruction, by their places in the tables -/
def lCK (own mname : String) (tbl : List xI) (x : xI) (hs : List Nat) : Bool := match x.1 with
  | .ldc k => ck (.constant own k (Int32.ofInt x.2.2.2.2.2.1)) (hs.getD 0 0)
  | .ldc_w k => ck (.constant own k (Int32.ofInt x.2.2.2.2.2.1)) (hs.getD 0 0)
  | .ldc2_w k => ck (.constantLong own k (Int64.ofInt x.2.2.2.2.2.1)) (hs.getD 0 0)
  | .getfield idx => fCK own x idx (hs.getD 0 0)
  | .putfield idx => fCK own x idx (hs.getD 0 0) && finCK own mname x
  | .new idx => (match vwCl[x.2.2.2.1]? with | some (C, _, N) => ck (.classLink own idx C) (hs.getD 0 0) && ck (.instantiable C N) (hs.getD 1 0) && ck (.initialized C) (hs.getD 2 0) | none => true)
  | .newarray ty => ck (.arrayClass (newarray.typeOf ty)) (hs.getD 0 0)
  | .anewarray idx => (match vwCl[x.2.2.2.1]? with | some (C, _, _) => ck (.classLink own idx C) (hs.getD 0 0) && (decide (C = "ChanceCourt$Act") || decide (C = "ChanceCourt$Shelf")) | none => true)
  | .multianewarray idx k => decide (k = 2) && ck (.classLink own idx ("[" ++ (FieldType.array .long).toString)) (hs.getD 0 0) && ck (.arrayClass .long) (hs.getD 1 0)
  | .invokevirtual idx => (match MT[x.2.2.2.1]? with | some M => decide (1 ≤ x.2.2.2.2.1) && calCK M (x.2.2.2.2.1 - 1) (hs.getD 4 0) (hs.getD 3 0) && ck (.methodLink own idx M.1) (hs.getD 0 0) && ck (.instanceMethod M.1) (hs.getD 1 0) && ck (.selects M.1.cls M.1 M.1) (hs.getD 2 0) && decide (0 ≤ x.2.2.2.2.2.1) && (match vwCl[x.2.2.2.2.2.1.toNat]? with | some (C, _, _) => decide (C = M.1.cls) | none => false) | none => true)
  | .invokestatic idx => if x.2.2.2.1 = idCopy then ck (.methodLink own idx arraycopyName) (hs.getD 0 0) && ck (.native arraycopyName) (hs.getD 1 0) && ck (.static arraycopyName) (hs.getD 2 0) && ck (.initialized "java/lang/System") (hs.getD 3 0) else
    (match MT[x.2.2.2.1]? with | some M => calCK M x.2.2.2.2.1 (hs.getD 3 0) (hs.getD 2 0) && lnkCK own idx M.1 (hs.getD 0 0) && ck (.static M.1) (hs.getD 1 0) | none => true)
  | .invokespecial idx => if x.2.2.2.1 = idInit then ck (.methodLink own idx objectInit) (hs.getD 0 0) && ck (.instanceMethod objectInit) (hs.getD 1 0) && ck (.code objectInit ⟨#[0xb1]⟩ 1 none) (hs.getD 2 0) else
    (match MT[x.2.2.2.1]? with | some M => decide (1 ≤ x.2.2.2.2.1) && calCK M (x.2.2.2.2.1 - 1) (hs.getD 3 0) (hs.getD 2 0) && lnkCK own idx M.1 (hs.getD 0 0) && ck (.instanceMethod M.1) (hs.getD 1 0) && decide (M.1.name = "<init>") && decide (M.2.2.2.1 = none) | none => true)
  | .tableswitch d _ _ offs => (match x.2.2.2.2.2.2 with | [] => true | j :: r => decide ((x.2.1 : Int) + d = (pcOf tbl j : Int)) && swCK tbl x.2.1 offs 0 r)
  | _ => true
def xCK (own mname : String) (cc : ByteArray) (tbl : List xI) (i : Nat) (x : xI) (hs : List Nat) : Bool :=
  decide (decode cc x.2.1 = .ok (x.1, x.2.2.1)) && (a_isSw x.1 || decide (x.2.2.1 = a_len x.1)) && (!a_falls x.1 || decide (pcOf tbl (i + 1) = x.2.1 + x.2.2.1)) && (!a_jumps x.1 || decide ((x.2.1 : Int) + a_off x.1 = (pcOf tbl x.2.2.2.1 : Int))) && lCK own mname tbl x hs
set_option maxHeartbeats 4000000 in
theorem xCK_ok {own mname : String} {cc : ByteArray} {tbl : List xI} {i : Nat} {x : xI} {hs : List Nat} (h : xCK own mname cc tbl i x hs = true) : xOK own mname cc MT tbl i x := by
  simp only [xCK, Bool.and_eq_true, Bool.or_eq_true, decide_eq_true_eq, Bool.not_eq_true'] at h
  obtain ⟨⟨⟨⟨h1, h2⟩, h3⟩, h4⟩, h5⟩ := h
  unfold lCK at h5
  refine ⟨h1, fun q => ?_, fun q => ?_, fun q => ?_, fun w hw => ?_, fun idx q => ?_, fun idx q => ?_, ?_, fun idx q => ?_, fun idx q => ?_, fun idx q => ?_, fun d lo hi offs q => ?_⟩
  · rcases h2 with h2 | h2
    · rw [q] at h2; cases h2
    · exact h2
  · rcases h3 with h3 | h3
    · rw [q] at h3; cases h3
    · exact h3
  · rcases h4 with h4 | h4
    · rw [q] at h4; cases h4
    · exact h4
  · unfold a_const at hw
    split at hw
    · rename_i k hq; rw [hq] at h5; cases hw; exact ck_ok h5
    · rename_i k hq; rw [hq] at h5; cases hw; exact ck_ok h5
    · rename_i k hq; rw [hq] at h5; cases hw; exact ck_ok h5
    · cases hw
  · rw [q] at h5; exact fCK_ok h5
  · rw [q] at h5
    simp only [Bool.and_eq_true] at h5
    exact ⟨fCK_ok h5.1, finCK_ok h5.2⟩
  · unfold a_mkS
    split
    · rename_i idx hq
      rw [hq] at h5
      intro C T N hc
      simp only [hc, Bool.and_eq_true] at h5
      exact ⟨ck_ok h5.1.1, ck_ok h5.1.2, ck_ok h5.2⟩
    · rename_i ty hq
      rw [hq] at h5
      exact ck_ok h5
    · rename_i idx hq
      rw [hq] at h5
      intro C T N hc
      simp only [hc, Bool.and_eq_true, Bool.or_eq_true, decide_eq_true_eq] at h5
      exact ⟨ck_ok h5.1, h5.2⟩
    · rename_i idx k hq
      rw [hq] at h5
      simp only [Bool.and_eq_true, decide_eq_true_eq] at h5
      exact ⟨h5.1.1, ck_ok h5.1.2, ck_ok h5.2⟩
    · trivial
  · rw [q] at h5
    intro M hM
    simp only [hM, Bool.and_eq_true, decide_eq_true_eq] at h5
    obtain ⟨⟨⟨⟨⟨⟨a1, a2⟩, a3⟩, a4⟩, a5⟩, a6⟩, a7⟩ := h5
    refine ⟨⟨x.2.2.2.2.1 - 1, by omega, calCK_ok a2⟩, ck_ok a3, ck_ok a4, ck_ok a5, x.2.2.2.2.2.1.toNat, by omega, ?_⟩
    split at a7
    · rename_i C T N hc
      rw [decide_eq_true_eq] at a7
      subst a7
      exact ⟨T, N, hc⟩
    · cases a7
  · rw [q] at h5
    dsimp only at h5
    split
    · rename_i hid
      rw [if_pos hid] at h5
      simp only [Bool.and_eq_true] at h5
      exact ⟨ck_ok h5.1.1.1, ck_ok h5.1.1.2, ck_ok h5.1.2, ck_ok h5.2⟩
    · rename_i hid
      rw [if_neg hid] at h5
      intro M hM
      simp only [hM, Bool.and_eq_true] at h5
      exact ⟨calCK_ok h5.1.1, lnkCK_ok h5.1.2, ck_ok h5.2⟩
  · rw [q] at h5
    dsimp only at h5
    split
    · rename_i hid
      rw [if_pos hid] at h5
      simp only [Bool.and_eq_true] at h5
      exact ⟨ck_ok h5.1.1, ck_ok h5.1.2, ck_ok h5.2⟩
    · rename_i hid
      rw [if_neg hid] at h5
      intro M hM
      simp only [hM, Bool.and_eq_true, decide_eq_true_eq] at h5
      obtain ⟨⟨⟨⟨⟨a1, a2⟩, a3⟩, a4⟩, a5⟩, a6⟩ := h5
      exact ⟨⟨x.2.2.2.2.1 - 1, by omega, calCK_ok a2⟩, lnkCK_ok a3, ck_ok a4, a5, a6⟩
  · rw [q] at h5
    dsimp only at h5
    split at h5
    · rename_i hq
      rw [hq]
      exact ⟨fun j hj => by simp at hj, fun k j hj => by simp at hj⟩
    · rename_i j0 r hq
      rw [hq]
      simp only [Bool.and_eq_true, decide_eq_true_eq] at h5
      refine ⟨fun j hj => ?_, fun k j hj => ?_⟩
      · rw [List.getElem?_cons_zero] at hj; cases hj; exact h5.1
      · rw [List.getElem?_cons_succ] at hj
        have := swCK_ok h5.2 k j hj
        rw [Nat.zero_add] at this
        exact this
/-- a stretch of a method's table -/
def cks (own mname : String) (cc : ByteArray) (tbl : List xI) : Nat → Nat → List (List Nat) → Bool
  | _, 0, _ => true
  | i, n + 1, hs => (match tbl[i]? with | some x => xCK own mname cc tbl i x (hs.headD []) | none => false) && cks own mname cc tbl (i + 1) n hs.tail
theorem cks_ok {own mname : String} {cc : ByteArray} {tbl : List xI} : ∀ {n i : Nat} {hs : List (List Nat)}, cks own mname cc tbl i n hs = true → ∀ j x, i ≤ j → j < i + n → tbl[j]? = some x → xOK own mname cc MT tbl j x
  | 0, i, hs, h, j, x, h1, h2, hx => by omega
  | n + 1, i, hs, h, j, x, h1, h2, hx => by
    simp only [cks, Bool.and_eq_true] at h
    by_cases e : j = i
    · subst e
      rw [hx] at h
      exact xCK_ok h.1
    · exact cks_ok h.2 j x (by omega) (by omega) hx
theorem tOK_of {own mname : String} {cc : ByteArray} {tbl : List xI} (h : ∀ j x, j < tbl.length → tbl[j]? = some x → xOK own mname cc MT tbl j x) : tOK own mname cc MT tbl := fun i x hx => h i x (List.getElem?_eq_some_iff.mp hx).1 hx
