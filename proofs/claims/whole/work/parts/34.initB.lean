/-! THE CONSTRUCTORS, RUN (2): the reference's -/
def h0B : aH := hA ++ [.inr (12, (List.range 38).map fun k => defaultValue (a_ty 12 k))]
def hB : aH := (toH m0).take 273
def i_okB : Bool := match cev1 8 111 [.ref 242] h0B with
  | some (none, h) => eqvH h hB
  | _ => false
set_option maxRecDepth 100000 in
theorem init_B : i_okB = true := by decide +kernel
theorem init_C : eqvH (hB ++ [.inl (.long, 1, .inr (.inl (fun _ => 0)))]) (toH m0) = true := by decide +kernel
