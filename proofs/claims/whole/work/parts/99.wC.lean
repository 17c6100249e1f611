/-! THE LAW, from its entry to its loop, and its end (wip/whole/src/99.wC.src) -/
theorem Met_mono {l : Launch} {y : MethodName} {ws : List Cond} {rm : Room} {Pc : Array Value → State → Prop} {Qc Qc' : Array Value → State → Outcome → State → Prop} {mc ms : Nat} {free : Addr → Prop} (h : Met l y ws rm Pc Qc mc ms free) (hq : ∀ a s o t, Qc a s o t → Qc' a s o t) : Met l y ws rm Pc Qc' mc ms free := fun p e h1 h2 h3 s m args below h4 h5 h6 h7 => by
  obtain ⟨n, o, q1, q2, q3, q4, q5⟩ := h p e h1 h2 h3 s m args below h4 h5 h6 h7
  exact ⟨n, o, q1, q2, q3, hq _ _ _ _ q4, q5⟩
section L99WC
variable {l : Launch} {D : va_G} {b : Nat} {xs : Nat × (Nat → Int32)} {Q : Option Value → aH → Prop}
theorem Ctr_eqv {d : Nat} {M : aM} {args : List Value} {h0 h1 : aH} {r0 : Option Value} (h : Ctr l D b xs d M args h0 (fun r h' => r = r0 ∧ eqvH h' h1 = true)) (hQ : Q r0 h1) : Ctr l D b xs d M args h0 Q := fun ad sz => Met_mono (h ad sz) (fun a st o t ⟨⟨r, r', h', ad1, e, ⟨q1, q2⟩, q3, q4, q5⟩, q6⟩ => ⟨⟨r, r', h1, ad1, e, by rw [q1]; exact hQ, q3, q4.eqv q2, q5⟩, q6⟩)
theorem ctr_A (hQ : Q none hA) : ∀ M, MT[78]? = some M → Ctr l D b xs 8 M [.ref 0] h0A Q := by
  have h := init_A
  unfold i_okA at h
  generalize e : cev1 8 78 [.ref 0] h0A = r at h
  intro M hM
  match r, h, e with
  | some (none, h'), h, e =>
    refine Ctr_eqv (h1 := hA) (r0 := none) ?_ hQ
    exact snd_call (P := fun _ _ _ _ _ => False) rows_all mk_all (fun _ _ _ _ _ z => z.elim) 8 78 _ _ _ (cev1_call1 8 78 _ _ none h' e _ ⟨rfl, h⟩) M hM
theorem ctr_B (hQ : Q none hB) : ∀ M, MT[111]? = some M → Ctr l D b xs 8 M [.ref 242] h0B Q := by
  have h := init_B
  unfold i_okB at h
  generalize e : cev1 8 111 [.ref 242] h0B = r at h
  intro M hM
  match r, h, e with
  | some (none, h'), h, e =>
    refine Ctr_eqv (h1 := hB) (r0 := none) ?_ hQ
    exact snd_call (P := fun _ _ _ _ _ => False) rows_all mk_all (fun _ _ _ _ _ z => z.elim) 8 111 _ _ _ (cev1_call1 8 111 _ _ none h' e _ ⟨rfl, h⟩) M hM
/-- what is known of the constructors -/
def PI (d j : Nat) (args : List Value) (h : aH) (Q : Option Value → aH → Prop) : Prop := d = 8 ∧ ((j = 78 ∧ args = [.ref 0] ∧ h = h0A ∧ Q none hA) ∨ (j = 111 ∧ args = [.ref 242] ∧ h = h0B ∧ Q none hB))
theorem PI_mono : ∀ d j a h Q Q', (∀ r h', Q r h' → Q' r h') → PI d j a h Q → PI d j a h Q' := fun d j a h Q Q' hq ⟨e, hc⟩ => ⟨e, hc.imp (fun ⟨a1, a2, a3, a4⟩ => ⟨a1, a2, a3, hq _ _ a4⟩) (fun ⟨a1, a2, a3, a4⟩ => ⟨a1, a2, a3, hq _ _ a4⟩)⟩
theorem PI_ctr : ∀ (d j : Nat) args h Q, PI d j args h Q → ∀ M, MT[j]? = some M → Ctr l D b xs d M args h Q := by
  intro d j args h Q hp M hM
  obtain ⟨rfl, ⟨rfl, rfl, rfl, hq⟩ | ⟨rfl, rfl, rfl, hq⟩⟩ := hp
  · exact ctr_A hq M hM
  · exact ctr_B hq M hM
theorem c1_ctr : ∀ (j : Nat) args h Q, callW xs MT PI 8 j args h Q → ∀ M, MT[j]? = some M → Ctr l D b xs 8 M args h Q := fun j args h Q hc => snd_callW rows_all mk_all PI_ctr 8 j args h Q hc
/-- element, as the law calls it -/
def EL (args : List Value) (h : aH) (Q : Option Value → aH → Prop) : Prop := ∃ (m : Mem) (p1 p2 : Int32), args = ([vR 0 0, vI p1, vI p2, vR 90 0] : List v2).map enc ∧ h = toH m ∧ eleM m p1 p2 (fun r m' => Q (r.map enc) (toH m'))
def C1 (xs : Nat × (Nat → Int32)) (j : Nat) (args : List Value) (h : aH) (Q : Option Value → aH → Prop) : Prop := (j ≠ 189 ∧ callW xs MT PI 8 j args h Q) ∨ (j = 189 ∧ EL args h Q)
theorem C1_mono : ∀ j a h Q Q', (∀ r h', Q r h' → Q' r h') → C1 xs j a h Q → C1 xs j a h Q' := fun j a h Q Q' hq hc => hc.imp (fun ⟨a1, a2⟩ => ⟨a1, callW_mono PI_mono 8 j a h Q Q' hq a2⟩) (fun ⟨a1, m, p1, p2, e1, e2, e3⟩ => ⟨a1, m, p1, p2, e1, e2, eleM_mono (fun r m' z => hq _ _ z) e3⟩)
theorem C2_C1 : ∀ (j : Nat) args m Q, okS args → C2 xs j args m Q → ∃ M, MT[j]? = some M ∧ M.2.2.2.2.2.1.1 ≤ 4 ∧ M.2.2.2.2.2.1.2 ≤ 40 ∧ C1 xs j (args.map enc) (toH m) (fun r h => ∃ r2 m2, r = r2.map enc ∧ h = toH m2 ∧ (∀ v, r2 = some v → okV v) ∧ Q r2 m2) := by
  intro j args m Q ho hc
  rcases hc with ⟨hj, hc⟩ | ⟨rfl, p1, p2, rfl, hc⟩
  · obtain ⟨M, q1, q2, q3, q4⟩ := c21W (P := PI) PI_mono 8 j args m Q ho hc
    exact ⟨M, q1, by omega, by omega, Or.inl ⟨hj, q4⟩⟩
  · refine ⟨_, rfl, Nat.le_refl _, Nat.le_refl _, Or.inr ⟨rfl, m, p1, p2, rfl, rfl, ?_⟩⟩
    have hk : ∀ k : Int32, ∀ v, some (vI k) = some v → okV v := fun k v e => by cases e; trivial
    exact ⟨fun z => ⟨_, _, rfl, rfl, hk _, hc.1 z⟩, fun z => ⟨fun y => ⟨((hc.2 z).1 y).1, _, _, rfl, rfl, hk _, ((hc.2 z).1 y).2⟩, fun y => ⟨_, _, rfl, rfl, hk _, (hc.2 z).2 y⟩⟩⟩
/-- the law's answer, in M1 -/
def Q1t : Option Value → aH → Prop := fun r _ => r = some (.int 1)
def L13 : aL := [some (.ref sCR), some (.ref 0), some (.ref 242), some (.ref 273), some (.int 0), none, none, none]
theorem law_M1 (hx : xs.1 ≤ 3072) {bc bs : Nat} (hc : 205200 ≤ bc) (hs : 2052000 ≤ bs) : wp1 xs (C1 xs) MT tL_law (some .boolean) Q1t (100 * 513) 13 L13 [] (toH m0) bc bs := by
  have h := law_loop hx 513 0 1 S0 H0 m0 none none none (by omega) (by omega) (by omega) inv_m0
  have h2 := w21n (cc := 4) (cs := 40) (kf := 100) (C1 := C1 xs) (Q1 := Q1t) C2_C1 C1_mono (fun r m _ q => by rw [show r = some (vI (nI 1)) from q]; rfl) 513 13 _ _ _ bc bs ?_ (fun v hv => by cases hv) (by omega) (by omega) h
  · exact h2
  · intro v hv
    simp only [List.mem_cons, List.not_mem_nil, or_false, Option.some.injEq, reduceCtorEq] at hv
    rcases hv with rfl | rfl | rfl | rfl | rfl
    · exact (Or.inl rfl : 99 = 99 ∨ 0 < g_cnt 99)
    · exact (Or.inr (by decide) : 0 = 99 ∨ 0 < g_cnt 0)
    · exact (Or.inr (by decide) : 40 = 99 ∨ 0 < g_cnt 40)
    · exact (Or.inr (by decide) : 90 = 99 ∨ 0 < g_cnt 90)
    · trivial
end L99WC
