/-! THE CONSTRUCTORS, RUN -/
def m0 : Mem := (fun t i k => if (t = 1 ∧ i = 0 ∧ k = 2) ∨ (t = 7 ∧ i = 1 ∧ k = 1) ∨ (t = 8 ∧ i = 1 ∧ k = 1) ∨ (t = 18 ∧ i = 1 ∧ k = 1) then 1 else 0, fun _ _ _ => 0)
def h0A : aH := [.inr (11, (List.range 10).map fun k => defaultValue (a_ty 11 k))]
def hA : aH := (toH m0).take 242
def i_okA : Bool := match cev1 8 78 [.ref 0] h0A with
  | some (none, h) => eqvH h hA
  | _ => false
set_option maxRecDepth 100000 in
theorem init_A : i_okA = true := by decide +kernel
