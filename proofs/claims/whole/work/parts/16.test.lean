theorem bX10_lacking_0 {xs : Nat × (Nat → Int32)} {C : Nat → List v2 → Mem → (Option v2 → Mem → Prop) → Prop} {Q : Option v2 → Mem → Prop} {K : Nat → L2 → List v2 → Mem → Prop} (m : Mem) 
    (h : K 4 [some (vR 1 0), some (vI (nI 0)), some (vI (nI 0)), none] [] m) :
    wp2i xs C tX10_lacking [4, 10] (some .int) Q K 2000 0 [some (vR 1 0), none, none, none] [] m := h
theorem bX10_lacking_4 {xs : Nat × (Nat → Int32)} {C : Nat → List v2 → Mem → (Option v2 → Mem → Prop) → Prop} {Q : Option v2 → Mem → Prop} {K : Nat → L2 → List v2 → Mem → Prop} (m : Mem) (x1 : Int32) (x2 : Int32) (o3 : Option v2)
    (h : (((m.1 1 0 0) ≤ x2 →
      Q (some (vI x1)) m) ∧
    (¬ (m.1 1 0 0) ≤ x2 →
      K 10 [some (vR 1 0), some (vI x1), some (vI x2), some (vI (nI 0))] [] m))) :
    wp2i xs C tX10_lacking [4, 10] (some .int) Q K 2000 4 [some (vR 1 0), some (vI x1), some (vI x2), o3] [] m := h
theorem bX10_lacking_10 {xs : Nat × (Nat → Int32)} {C : Nat → List v2 → Mem → (Option v2 → Mem → Prop) → Prop} {Q : Option v2 → Mem → Prop} {K : Nat → L2 → List v2 → Mem → Prop} (m : Mem) (x1 : Int32) (x2 : Int32) (x3 : Int32)
    (h : inb x2 10 ∧ 
      (((m.1 2 0 x2.toNatClampNeg) ≤ x3 →
        K 4 [some (vR 1 0), some (vI x1), some (vI (x2 + (nI 1))), some (vI x3)] [] m) ∧
      (¬ (m.1 2 0 x2.toNatClampNeg) ≤ x3 →
        C 62 [vR 1 0, vI x2, vI x3] m (fun r1 m2 => ∃ q3 : Nat, r1 = some (vR 4 q3) ∧
          K 10 [some (vR 1 0), some (vI (x1 + ((nI 12) - (m2.1 4 q3 3)))), some (vI x2), some (vI (x3 + (nI 1)))] [] m2)))) :
    wp2i xs C tX10_lacking [4, 10] (some .int) Q K 2000 10 [some (vR 1 0), some (vI x1), some (vI x2), some (vI x3)] [] m := h
