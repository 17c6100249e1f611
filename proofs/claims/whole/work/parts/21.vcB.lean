/-! CONDITIONS (by program: wip/whole/gen_vc.py) -/
theorem bX2_settle_0 {xs : Nat × (Nat → Int32)} {C : Nat → List v2 → Mem → (Option v2 → Mem → Prop) → Prop} {Q : Option v2 → Mem → Prop} {K : Nat → L2 → List v2 → Mem → Prop} (m : Mem) 
    (h : ((¬ (m.1 16 0 2) = (m.1 1 0 2) →
      C 188 [vR 17 0, vI (nI 0)] (mI m 16 0 2 (m.1 1 0 2)) (fun r1 m2 => r1 = none ∧
        K 24 [some (vR 16 0), some (vI (m2.1 1 0 1)), some (vI (nI 1)), some (vI (nI 1)), none, none] [] m2)) ∧
    ((m.1 16 0 2) = (m.1 1 0 2) →
      Q none m))) :
    wp2i xs C tX2_settle [24, 33] none Q K 2000 0 [some (vR 16 0), none, none, none, none, none] [] m := h
theorem bX2_settle_24 {xs : Nat × (Nat → Int32)} {C : Nat → List v2 → Mem → (Option v2 → Mem → Prop) → Prop} {Q : Option v2 → Mem → Prop} {K : Nat → L2 → List v2 → Mem → Prop} (m : Mem) (x1 : Int32) (x2 : Int32) (x3 : Int32) (o4 : Option v2) (o5 : Option v2)
    (h : (((nI 10) < x3 →
      Q none m) ∧
    (¬ (nI 10) < x3 →
      ((x2 = 0 →
        Q none m) ∧
      (¬ x2 = 0 →
        K 33 [some (vR 16 0), some (vI x1), some (vI x2), some (vI x3), some (vI x1), some (vI (nI 0))] [] m))))) :
    wp2i xs C tX2_settle [24, 33] none Q K 2000 24 [some (vR 16 0), some (vI x1), some (vI x2), some (vI x3), o4, o5] [] m := h
theorem bX2_settle_33 {xs : Nat × (Nat → Int32)} {C : Nat → List v2 → Mem → (Option v2 → Mem → Prop) → Prop} {Q : Option v2 → Mem → Prop} {K : Nat → L2 → List v2 → Mem → Prop} (m : Mem) (x1 : Int32) (x2 : Int32) (x3 : Int32) (x4 : Int32) (x5 : Int32)
    (h : (((m.1 1 0 0) ≤ x5 →
      ((x4 = x1 →
        K 24 [some (vR 16 0), some (vI x4), some (vI (nI 0)), some (vI (x3 + (nI 1))), some (vI x4), some (vI x5)] [] m) ∧
      (¬ x4 = x1 →
        K 24 [some (vR 16 0), some (vI x4), some (vI (nI 1)), some (vI (x3 + (nI 1))), some (vI x4), some (vI x5)] [] m))) ∧
    (¬ (m.1 1 0 0) ≤ x5 →
      C 108 [vI x1, vI x5] m (fun r1 m2 => ∃ w3 : Int32, r1 = some (vI w3) ∧
        ((¬ w3 = 0 →
          K 33 [some (vR 16 0), some (vI x1), some (vI x2), some (vI x3), some (vI x4), some (vI (x5 + (nI 1)))] [] m2) ∧
        (w3 = 0 →
          C 17 [vR 16 0, vI x5, vI x1] m2 (fun r4 m5 => ∃ w6 : Int32, r4 = some (vI w6) ∧
            ((w6 < 0 →
              K 33 [some (vR 16 0), some (vI x1), some (vI x2), some (vI x3), some (vI x4), some (vI (x5 + (nI 1)))] [] m5) ∧
            (¬ w6 < 0 →
              inb x5 10 ∧ 
                K 33 [some (vR 16 0), some (vI x1), some (vI x2), some (vI x3), some (vI (x4 ||| ((nI 1) <<< (x5 &&& 31)))), some (vI (x5 + (nI 1)))] [] (mI m5 17 0 x5.toNatClampNeg x3)))))))))) :
    wp2i xs C tX2_settle [24, 33] none Q K 2000 33 [some (vR 16 0), some (vI x1), some (vI x2), some (vI x3), some (vI x4), some (vI x5)] [] m := h
theorem bX2_tightActInto_0 {xs : Nat × (Nat → Int32)} {C : Nat → List v2 → Mem → (Option v2 → Mem → Prop) → Prop} {Q : Option v2 → Mem → Prop} {K : Nat → L2 → List v2 → Mem → Prop} (m : Mem) (p1 : Int32) (p2 : Int32)
    (h : K 2 [some (vR 16 0), some (vI p1), some (vI p2), some (vI (nI 0))] [] m) :
    wp2i xs C tX2_tightActInto [2] (some .int) Q K 2000 0 [some (vR 16 0), some (vI p1), some (vI p2), none] [] m := h
theorem bX2_tightActInto_2 {xs : Nat × (Nat → Int32)} {C : Nat → List v2 → Mem → (Option v2 → Mem → Prop) → Prop} {Q : Option v2 → Mem → Prop} {K : Nat → L2 → List v2 → Mem → Prop} (m : Mem) (x1 : Int32) (x2 : Int32) (x3 : Int32)
    (h : inb x1 10 ∧ 
      (((m.1 2 0 x1.toNatClampNeg) ≤ x3 →
        Q (some (vI (-1 : Int32))) m) ∧
      (¬ (m.1 2 0 x1.toNatClampNeg) ≤ x3 →
        C 62 [vR 1 0, vI x1, vI x3] m (fun r1 m2 => ∃ q3 : Nat, r1 = some (vR 4 q3) ∧
          ((((m2.1 4 q3 4) &&& x2) = 0 →
            K 2 [some (vR 16 0), some (vI x1), some (vI x2), some (vI (x3 + (nI 1)))] [] m2) ∧
          (¬ ((m2.1 4 q3 4) &&& x2) = 0 →
            C 55 [vR 7 0, vI x1, vI x3] m2 (fun r4 m5 => ∃ w6 : Int32, r4 = some (vI w6) ∧
              ((w6 = 0 →
                K 2 [some (vR 16 0), some (vI x1), some (vI x2), some (vI (x3 + (nI 1)))] [] m5) ∧
              (¬ w6 = 0 →
                Q (some (vI x3)) m5))))))))) :
    wp2i xs C tX2_tightActInto [2] (some .int) Q K 2000 2 [some (vR 16 0), some (vI x1), some (vI x2), some (vI x3)] [] m := h
theorem bX2_pick_0 {xs : Nat × (Nat → Int32)} {C : Nat → List v2 → Mem → (Option v2 → Mem → Prop) → Prop} {Q : Option v2 → Mem → Prop} {K : Nat → L2 → List v2 → Mem → Prop} (m : Mem) (p1 : Int32)
    (h : C 108 [vI (m.1 1 0 1), vI p1] m (fun r1 m2 => ∃ w3 : Int32, r1 = some (vI w3) ∧
      ((w3 = 0 →
        C 108 [vI (m2.1 7 0 9), vI p1] m2 (fun r4 m5 => ∃ w6 : Int32, r4 = some (vI w6) ∧
          ((¬ w6 = 0 →
            (((nI 1) = 0 →
              C 19 [vR 16 0, vI p1] m5 (fun r7 m8 => ∃ w9 : Int32, r7 = some (vI w9) ∧
                C 17 [vR 16 0, vI p1, vI w9] m8 (fun r10 m11 => ∃ w12 : Int32, r10 = some (vI w12) ∧
                  Q (some (vI w12)) m11))) ∧
            (¬ (nI 1) = 0 →
              C 65 [vR 1 0] m5 (fun r13 m14 => ∃ w15 : Int32, r13 = some (vI w15) ∧
                C 17 [vR 16 0, vI p1, vI w15] m14 (fun r16 m17 => ∃ w18 : Int32, r16 = some (vI w18) ∧
                  Q (some (vI w18)) m17))))) ∧
          (w6 = 0 →
            C 63 [vR 1 0, vI p1] m5 (fun r19 m20 => ∃ w21 : Int32, r19 = some (vI w21) ∧
              ((w21 = 0 →
                (((nI 0) = 0 →
                  C 19 [vR 16 0, vI p1] m20 (fun r22 m23 => ∃ w24 : Int32, r22 = some (vI w24) ∧
                    C 17 [vR 16 0, vI p1, vI w24] m23 (fun r25 m26 => ∃ w27 : Int32, r25 = some (vI w27) ∧
                      Q (some (vI w27)) m26))) ∧
                (¬ (nI 0) = 0 →
                  C 65 [vR 1 0] m20 (fun r28 m29 => ∃ w30 : Int32, r28 = some (vI w30) ∧
                    C 17 [vR 16 0, vI p1, vI w30] m29 (fun r31 m32 => ∃ w33 : Int32, r31 = some (vI w33) ∧
                      Q (some (vI w33)) m32))))) ∧
              (¬ w21 = 0 →
                (((nI 1) = 0 →
                  C 19 [vR 16 0, vI p1] m20 (fun r34 m35 => ∃ w36 : Int32, r34 = some (vI w36) ∧
                    C 17 [vR 16 0, vI p1, vI w36] m35 (fun r37 m38 => ∃ w39 : Int32, r37 = some (vI w39) ∧
                      Q (some (vI w39)) m38))) ∧
                (¬ (nI 1) = 0 →
                  C 65 [vR 1 0] m20 (fun r40 m41 => ∃ w42 : Int32, r40 = some (vI w42) ∧
                    C 17 [vR 16 0, vI p1, vI w42] m41 (fun r43 m44 => ∃ w45 : Int32, r43 = some (vI w45) ∧
                      Q (some (vI w45)) m44))))))))))) ∧
      (¬ w3 = 0 →
        Q (some (vI (nI 0))) m2)))) :
    wp2i xs C tX2_pick [] (some .int) Q K 2000 0 [some (vR 16 0), some (vI p1), none] [] m := h
theorem bX2_nearerThan_0 {xs : Nat × (Nat → Int32)} {C : Nat → List v2 → Mem → (Option v2 → Mem → Prop) → Prop} {Q : Option v2 → Mem → Prop} {K : Nat → L2 → List v2 → Mem → Prop} (m : Mem) (p1 : Int32)
    (h : K 4 [some (vR 16 0), some (vI p1), some (vI (nI 0)), some (vI (nI 0))] [] m) :
    wp2i xs C tX2_nearerThan [4] (some .int) Q K 2000 0 [some (vR 16 0), some (vI p1), none, none] [] m := h
theorem bX2_nearerThan_4 {xs : Nat × (Nat → Int32)} {C : Nat → List v2 → Mem → (Option v2 → Mem → Prop) → Prop} {Q : Option v2 → Mem → Prop} {K : Nat → L2 → List v2 → Mem → Prop} (m : Mem) (x1 : Int32) (x2 : Int32) (x3 : Int32)
    (h : (((m.1 1 0 0) ≤ x3 →
      Q (some (vI x2)) m) ∧
    (¬ (m.1 1 0 0) ≤ x3 →
      C 108 [vI (m.1 7 0 9), vI x3] m (fun r1 m2 => ∃ w3 : Int32, r1 = some (vI w3) ∧
        ((¬ w3 = 0 →
          K 4 [some (vR 16 0), some (vI x1), some (vI (x2 ||| (nI 0))), some (vI (x3 + (nI 1)))] [] m2) ∧
        (w3 = 0 →
          inb x3 10 ∧ 
            inb x1 10 ∧ 
              (((m2.1 17 0 x1.toNatClampNeg) ≤ (m2.1 17 0 x3.toNatClampNeg) →
                K 4 [some (vR 16 0), some (vI x1), some (vI (x2 ||| (nI 0))), some (vI (x3 + (nI 1)))] [] m2) ∧
              (¬ (m2.1 17 0 x1.toNatClampNeg) ≤ (m2.1 17 0 x3.toNatClampNeg) →
                K 4 [some (vR 16 0), some (vI x1), some (vI (x2 ||| ((nI 1) <<< (x3 &&& 31)))), some (vI (x3 + (nI 1)))] [] m2)))))))) :
    wp2i xs C tX2_nearerThan [4] (some .int) Q K 2000 4 [some (vR 16 0), some (vI x1), some (vI x2), some (vI x3)] [] m := h
theorem bX3_settle_0 {xs : Nat × (Nat → Int32)} {C : Nat → List v2 → Mem → (Option v2 → Mem → Prop) → Prop} {Q : Option v2 → Mem → Prop} {K : Nat → L2 → List v2 → Mem → Prop} (m : Mem) 
    (h : ((¬ (m.1 22 0 3) = (m.1 1 0 2) →
      C 65 [vR 1 0] (mI m 22 0 3 (m.1 1 0 2)) (fun r1 m2 => ∃ w3 : Int32, r1 = some (vI w3) ∧
        C 188 [vR 23 0, vI w3] m2 (fun r4 m5 => r4 = none ∧
          K 22 [some (vR 22 0), some (vI (nI 1)), some (vI (nI 0))] [] m5))) ∧
    ((m.1 22 0 3) = (m.1 1 0 2) →
      Q none m))) :
    wp2i xs C tX3_settle [22] none Q K 2000 0 [some (vR 22 0), none, none] [] m := h
theorem bX3_settle_22 {xs : Nat × (Nat → Int32)} {C : Nat → List v2 → Mem → (Option v2 → Mem → Prop) → Prop} {Q : Option v2 → Mem → Prop} {K : Nat → L2 → List v2 → Mem → Prop} (m : Mem) (x1 : Int32) (x2 : Int32)
    (h : (((nI 1000000) ≤ x2 →
      C 24 [vR 22 0] m (fun r1 m2 => r1 = none ∧
        Q none m2)) ∧
    (¬ (nI 1000000) ≤ x2 →
      ((x1 = 0 →
        C 24 [vR 22 0] m (fun r3 m4 => r3 = none ∧
          Q none m4)) ∧
      (¬ x1 = 0 →
        C 22 [vR 22 0] m (fun r5 m6 => r5 = none ∧
          C 23 [vR 22 0] m6 (fun r7 m8 => ∃ w9 : Int32, r7 = some (vI w9) ∧
            K 22 [some (vR 22 0), some (vI w9), some (vI (x2 + (nI 1)))] [] m8))))))) :
    wp2i xs C tX3_settle [22] none Q K 2000 22 [some (vR 22 0), some (vI x1), some (vI x2)] [] m := h
theorem bX3_findPaths_0 {xs : Nat × (Nat → Int32)} {C : Nat → List v2 → Mem → (Option v2 → Mem → Prop) → Prop} {Q : Option v2 → Mem → Prop} {K : Nat → L2 → List v2 → Mem → Prop} (m : Mem) 
    (h : K 2 [some (vR 22 0), some (vI (nI 0)), none] [] m) :
    wp2i xs C tX3_findPaths [2, 33, 40] none Q K 2000 0 [some (vR 22 0), none, none] [] m := h
theorem bX3_findPaths_2 {xs : Nat × (Nat → Int32)} {C : Nat → List v2 → Mem → (Option v2 → Mem → Prop) → Prop} {Q : Option v2 → Mem → Prop} {K : Nat → L2 → List v2 → Mem → Prop} (m : Mem) (x1 : Int32) (o2 : Option v2)
    (h : (((m.1 1 0 0) ≤ x1 →
      K 33 [some (vR 22 0), some (vI (nI 0)), o2] [] m) ∧
    (¬ (m.1 1 0 0) ≤ x1 →
      inb x1 10 ∧ 
        C 76 [vR 1 0, vI x1, vI (m.1 23 0 x1.toNatClampNeg)] m (fun r1 m2 => ∃ w3 : Int32, r1 = some (vI w3) ∧
          ((¬ w3 = 0 →
            inb x1 10 ∧ 
              K 2 [some (vR 22 0), some (vI (x1 + (nI 1))), some (vI w3)] [] (mI m2 24 0 x1.toNatClampNeg (w3 ||| ((nI 1) <<< (x1 &&& 31))))) ∧
          (w3 = 0 →
            inb x1 10 ∧ 
              K 2 [some (vR 22 0), some (vI (x1 + (nI 1))), some (vI w3)] [] (mI m2 24 0 x1.toNatClampNeg (nI 0)))))))) :
    wp2i xs C tX3_findPaths [2, 33, 40] none Q K 2000 2 [some (vR 22 0), some (vI x1), o2] [] m := h
theorem bX3_findPaths_33 {xs : Nat × (Nat → Int32)} {C : Nat → List v2 → Mem → (Option v2 → Mem → Prop) → Prop} {Q : Option v2 → Mem → Prop} {K : Nat → L2 → List v2 → Mem → Prop} (m : Mem) (x1 : Int32) (o2 : Option v2)
    (h : (((m.1 1 0 0) ≤ x1 →
      Q none m) ∧
    (¬ (m.1 1 0 0) ≤ x1 →
      K 40 [some (vR 22 0), some (vI x1), some (vI (nI 0))] [] m))) :
    wp2i xs C tX3_findPaths [2, 33, 40] none Q K 2000 33 [some (vR 22 0), some (vI x1), o2] [] m := h
theorem bX3_findPaths_40 {xs : Nat × (Nat → Int32)} {C : Nat → List v2 → Mem → (Option v2 → Mem → Prop) → Prop} {Q : Option v2 → Mem → Prop} {K : Nat → L2 → List v2 → Mem → Prop} (m : Mem) (x1 : Int32) (x2 : Int32)
    (h : (((m.1 1 0 0) ≤ x2 →
      K 33 [some (vR 22 0), some (vI (x1 + (nI 1))), some (vI x2)] [] m) ∧
    (¬ (m.1 1 0 0) ≤ x2 →
      inb x2 10 ∧ 
        inb x2 10 ∧ 
          C 108 [vI (m.1 24 0 x2.toNatClampNeg), vI x1] m (fun r1 m2 => ∃ w3 : Int32, r1 = some (vI w3) ∧
            ((w3 = 0 →
              inb x2 10 ∧ 
                K 40 [some (vR 22 0), some (vI x1), some (vI (x2 + (nI 1)))] [] (mI m2 24 0 x2.toNatClampNeg ((m.1 24 0 x2.toNatClampNeg) ||| (nI 0)))) ∧
            (¬ w3 = 0 →
              inb x1 10 ∧ 
                inb x2 10 ∧ 
                  K 40 [some (vR 22 0), some (vI x1), some (vI (x2 + (nI 1)))] [] (mI m2 24 0 x2.toNatClampNeg ((m.1 24 0 x2.toNatClampNeg) ||| (m2.1 24 0 x1.toNatClampNeg))))))))) :
    wp2i xs C tX3_findPaths [2, 33, 40] none Q K 2000 40 [some (vR 22 0), some (vI x1), some (vI x2)] [] m := h
theorem bX3_narrow_0 {xs : Nat × (Nat → Int32)} {C : Nat → List v2 → Mem → (Option v2 → Mem → Prop) → Prop} {Q : Option v2 → Mem → Prop} {K : Nat → L2 → List v2 → Mem → Prop} (m : Mem) 
    (h : K 4 [some (vR 22 0), some (vI (nI 0)), some (vI (nI 0)), none, none] [] m) :
    wp2i xs C tX3_narrow [4, 21] (some .boolean) Q K 2000 0 [some (vR 22 0), none, none, none, none] [] m := h
theorem bX3_narrow_4 {xs : Nat × (Nat → Int32)} {C : Nat → List v2 → Mem → (Option v2 → Mem → Prop) → Prop} {Q : Option v2 → Mem → Prop} {K : Nat → L2 → List v2 → Mem → Prop} (m : Mem) (x1 : Int32) (x2 : Int32) (o3 : Option v2) (o4 : Option v2)
    (h : (((m.1 1 0 0) ≤ x2 →
      isB x1 ∧ Q (some (vI x1)) m) ∧
    (¬ (m.1 1 0 0) ≤ x2 →
      inb x2 10 ∧ 
        inb x2 10 ∧ 
          K 21 [some (vR 22 0), some (vI x1), some (vI x2), some (vI ((m.1 23 0 x2.toNatClampNeg) &&& (m.1 24 0 x2.toNatClampNeg))), some (vI (nI 0))] [] m))) :
    wp2i xs C tX3_narrow [4, 21] (some .boolean) Q K 2000 4 [some (vR 22 0), some (vI x1), some (vI x2), o3, o4] [] m := h
theorem bX3_narrow_21 {xs : Nat × (Nat → Int32)} {C : Nat → List v2 → Mem → (Option v2 → Mem → Prop) → Prop} {Q : Option v2 → Mem → Prop} {K : Nat → L2 → List v2 → Mem → Prop} (m : Mem) (x1 : Int32) (x2 : Int32) (x3 : Int32) (x4 : Int32)
    (h : (((m.1 1 0 0) ≤ x4 →
      inb x2 10 ∧ 
        ((x3 = (m.1 23 0 x2.toNatClampNeg) →
          inb x2 10 ∧ 
            K 4 [some (vR 22 0), some (vI (x1 ||| (nI 0))), some (vI (x2 + (nI 1))), some (vI x3), some (vI x4)] [] (mI m 23 0 x2.toNatClampNeg x3)) ∧
        (¬ x3 = (m.1 23 0 x2.toNatClampNeg) →
          inb x2 10 ∧ 
            K 4 [some (vR 22 0), some (vI (x1 ||| (nI 1))), some (vI (x2 + (nI 1))), some (vI x3), some (vI x4)] [] (mI m 23 0 x2.toNatClampNeg x3)))) ∧
    (¬ (m.1 1 0 0) ≤ x4 →
      inb x4 10 ∧ 
        C 108 [vI (m.1 24 0 x4.toNatClampNeg), vI x2] m (fun r1 m2 => ∃ w3 : Int32, r1 = some (vI w3) ∧
          ((w3 = 0 →
            K 21 [some (vR 22 0), some (vI x1), some (vI x2), some (vI (x3 &&& (((nI 1) <<< (x4 &&& 31)) ^^^ (-1 : Int32)))), some (vI (x4 + (nI 1)))] [] m2) ∧
          (¬ w3 = 0 →
            K 21 [some (vR 22 0), some (vI x1), some (vI x2), some (vI (x3 &&& (-1 : Int32))), some (vI (x4 + (nI 1)))] [] m2)))))) :
    wp2i xs C tX3_narrow [4, 21] (some .boolean) Q K 2000 21 [some (vR 22 0), some (vI x1), some (vI x2), some (vI x3), some (vI x4)] [] m := h
theorem bX3_gather_0 {xs : Nat × (Nat → Int32)} {C : Nat → List v2 → Mem → (Option v2 → Mem → Prop) → Prop} {Q : Option v2 → Mem → Prop} {K : Nat → L2 → List v2 → Mem → Prop} (m : Mem) 
    (h : K 5 [some (vR 22 0), some (vI (nI 0)), none] [] (mI m 22 0 5 (nI 0))) :
    wp2i xs C tX3_gather [5] none Q K 2000 0 [some (vR 22 0), none, none] [] m := h
theorem bX3_gather_5 {xs : Nat × (Nat → Int32)} {C : Nat → List v2 → Mem → (Option v2 → Mem → Prop) → Prop} {Q : Option v2 → Mem → Prop} {K : Nat → L2 → List v2 → Mem → Prop} (m : Mem) (x1 : Int32) (o2 : Option v2)
    (h : (((m.1 1 0 0) ≤ x1 →
      Q none m) ∧
    (¬ (m.1 1 0 0) ≤ x1 →
      inb x1 10 ∧ 
        ((¬ ((m.1 23 0 x1.toNatClampNeg) &&& (((nI 1) <<< (x1 &&& 31)) - (nI 1))) = 0 →
          inb x1 10 ∧ 
            (((m.1 23 0 x1.toNatClampNeg) = 0 →
              K 5 [some (vR 22 0), some (vI (x1 + (nI 1))), some (vI (nI 0))] [] m) ∧
            (¬ (m.1 23 0 x1.toNatClampNeg) = 0 →
              (((nI 0) = 0 →
                K 5 [some (vR 22 0), some (vI (x1 + (nI 1))), some (vI (nI 0))] [] m) ∧
              (¬ (nI 0) = 0 →
                inb x1 10 ∧ 
                  inb (m.1 22 0 5) 10 ∧ 
                    K 5 [some (vR 22 0), some (vI (x1 + (nI 1))), some (vI (nI 0))] [] (mI (mI m 25 0 (m.1 22 0 5).toNatClampNeg (m.1 23 0 x1.toNatClampNeg)) 22 0 5 (((mI m 25 0 (m.1 22 0 5).toNatClampNeg (m.1 23 0 x1.toNatClampNeg)).1 22 0 5) + (nI 1)))))))) ∧
        (((m.1 23 0 x1.toNatClampNeg) &&& (((nI 1) <<< (x1 &&& 31)) - (nI 1))) = 0 →
          inb x1 10 ∧ 
            (((m.1 23 0 x1.toNatClampNeg) = 0 →
              K 5 [some (vR 22 0), some (vI (x1 + (nI 1))), some (vI (nI 1))] [] m) ∧
            (¬ (m.1 23 0 x1.toNatClampNeg) = 0 →
              (((nI 1) = 0 →
                K 5 [some (vR 22 0), some (vI (x1 + (nI 1))), some (vI (nI 1))] [] m) ∧
              (¬ (nI 1) = 0 →
                inb x1 10 ∧ 
                  inb (m.1 22 0 5) 10 ∧ 
                    K 5 [some (vR 22 0), some (vI (x1 + (nI 1))), some (vI (nI 1))] [] (mI (mI m 25 0 (m.1 22 0 5).toNatClampNeg (m.1 23 0 x1.toNatClampNeg)) 22 0 5 (((mI m 25 0 (m.1 22 0 5).toNatClampNeg (m.1 23 0 x1.toNatClampNeg)).1 22 0 5) + (nI 1)))))))))))) :
    wp2i xs C tX3_gather [5] none Q K 2000 5 [some (vR 22 0), some (vI x1), o2] [] m := h
theorem bX3_stayingActs_0 {xs : Nat × (Nat → Int32)} {C : Nat → List v2 → Mem → (Option v2 → Mem → Prop) → Prop} {Q : Option v2 → Mem → Prop} {K : Nat → L2 → List v2 → Mem → Prop} (m : Mem) (p1 : Int32)
    (h : K 4 [some (vR 22 0), some (vI p1), some (vI (nI 0)), some (vI (nI 0)), none] [] m) :
    wp2i xs C tX3_stayingActs [4, 11] (some .int) Q K 2000 0 [some (vR 22 0), some (vI p1), none, none, none] [] m := h
theorem bX3_stayingActs_4 {xs : Nat × (Nat → Int32)} {C : Nat → List v2 → Mem → (Option v2 → Mem → Prop) → Prop} {Q : Option v2 → Mem → Prop} {K : Nat → L2 → List v2 → Mem → Prop} (m : Mem) (x1 : Int32) (x2 : Int32) (x3 : Int32) (o4 : Option v2)
    (h : (((m.1 1 0 0) ≤ x3 →
      Q (some (vI x2)) m) ∧
    (¬ (m.1 1 0 0) ≤ x3 →
      K 11 [some (vR 22 0), some (vI x1), some (vI x2), some (vI x3), some (vI (nI 0))] [] m))) :
    wp2i xs C tX3_stayingActs [4, 11] (some .int) Q K 2000 4 [some (vR 22 0), some (vI x1), some (vI x2), some (vI x3), o4] [] m := h
theorem bX3_stayingActs_11 {xs : Nat × (Nat → Int32)} {C : Nat → List v2 → Mem → (Option v2 → Mem → Prop) → Prop} {Q : Option v2 → Mem → Prop} {K : Nat → L2 → List v2 → Mem → Prop} (m : Mem) (x1 : Int32) (x2 : Int32) (x3 : Int32) (x4 : Int32)
    (h : C 108 [vI x1, vI x3] m (fun r1 m2 => ∃ w3 : Int32, r1 = some (vI w3) ∧
      ((w3 = 0 →
        K 4 [some (vR 22 0), some (vI x1), some (vI x2), some (vI (x3 + (nI 1))), some (vI x4)] [] m2) ∧
      (¬ w3 = 0 →
        inb x3 10 ∧ 
          (((m2.1 2 0 x3.toNatClampNeg) ≤ x4 →
            K 4 [some (vR 22 0), some (vI x1), some (vI x2), some (vI (x3 + (nI 1))), some (vI x4)] [] m2) ∧
          (¬ (m2.1 2 0 x3.toNatClampNeg) ≤ x4 →
            C 62 [vR 1 0, vI x3, vI x4] m2 (fun r4 m5 => ∃ q6 : Nat, r4 = some (vR 4 q6) ∧
              C 6 [vR 4 q6, vI x1] m5 (fun r7 m8 => ∃ w9 : Int32, r7 = some (vI w9) ∧
                ((w9 = 0 →
                  K 11 [some (vR 22 0), some (vI x1), some (vI (x2 + (nI 0))), some (vI x3), some (vI (x4 + (nI 1)))] [] m8) ∧
                (¬ w9 = 0 →
                  K 11 [some (vR 22 0), some (vI x1), some (vI (x2 + (nI 1))), some (vI x3), some (vI (x4 + (nI 1)))] [] m8)))))))))) :
    wp2i xs C tX3_stayingActs [4, 11] (some .int) Q K 2000 11 [some (vR 22 0), some (vI x1), some (vI x2), some (vI x3), some (vI x4)] [] m := h
theorem bX4_settle_0 {xs : Nat × (Nat → Int32)} {C : Nat → List v2 → Mem → (Option v2 → Mem → Prop) → Prop} {Q : Option v2 → Mem → Prop} {K : Nat → L2 → List v2 → Mem → Prop} (m : Mem) (p0 : Nat)
    (h : ((¬ (m.1 18 p0 2) = (m.1 1 0 2) →
      inb (nI 0) 11 ∧ 
        K 19 [some (vR 18 p0), some (vI (nI 0)), none] [] (mL (mI m 18 p0 2 (m.1 1 0 2)) 20 p0 (nI 0).toNatClampNeg (lN 1))) ∧
    ((m.1 18 p0 2) = (m.1 1 0 2) →
      Q none m))) :
    wp2i xs C tX4_settle [19, 43, 60] none Q K 2000 0 [some (vR 18 p0), none, none] [] m := h
theorem bX4_settle_19 {xs : Nat × (Nat → Int32)} {C : Nat → List v2 → Mem → (Option v2 → Mem → Prop) → Prop} {Q : Option v2 → Mem → Prop} {K : Nat → L2 → List v2 → Mem → Prop} (m : Mem) (x0 : Nat) (x1 : Int32)
    (h : (((m.1 1 0 0) ≤ x1 →
      K 43 [some (vR 18 x0), some (vI (nI 1)), none] [] m) ∧
    (¬ (m.1 1 0 0) ≤ x1 →
      inb (nI 0) 11 ∧ 
        C 108 [vI (m.1 1 0 1), vI x1] m (fun r1 m2 => ∃ w3 : Int32, r1 = some (vI w3) ∧
          ((w3 = 0 →
            inb x1 10 ∧ 
              K 19 [some (vR 18 x0), some (vI (x1 + (nI 1))), none] [] (mL m2 15 (3 + 11 * x0 + (nI 0).toNatClampNeg) x1.toNatClampNeg (lN 0))) ∧
          (¬ w3 = 0 →
            inb x1 10 ∧ 
              K 19 [some (vR 18 x0), some (vI (x1 + (nI 1))), none] [] (mL m2 15 (3 + 11 * x0 + (nI 0).toNatClampNeg) x1.toNatClampNeg (lN 1)))))))) :
    wp2i xs C tX4_settle [19, 43, 60] none Q K 2000 19 [some (vR 18 x0), some (vI x1), none] [] m := h
theorem bX4_settle_43 {xs : Nat × (Nat → Int32)} {C : Nat → List v2 → Mem → (Option v2 → Mem → Prop) → Prop} {Q : Option v2 → Mem → Prop} {K : Nat → L2 → List v2 → Mem → Prop} (m : Mem) (x0 : Nat) (x1 : Int32) (o2 : Option v2)
    (h : (((nI 10) < x1 →
      Q none m) ∧
    (¬ (nI 10) < x1 →
      inb (x1 - (nI 1)) 11 ∧ 
        inb x1 11 ∧ 
          K 60 [some (vR 18 x0), some (vI x1), some (vI (nI 0))] [] (mL m 20 x0 x1.toNatClampNeg ((lN 12) * (m.2 20 x0 (x1 - (nI 1)).toNatClampNeg)))))) :
    wp2i xs C tX4_settle [19, 43, 60] none Q K 2000 43 [some (vR 18 x0), some (vI x1), o2] [] m := h
theorem bX4_settle_60 {xs : Nat × (Nat → Int32)} {C : Nat → List v2 → Mem → (Option v2 → Mem → Prop) → Prop} {Q : Option v2 → Mem → Prop} {K : Nat → L2 → List v2 → Mem → Prop} (m : Mem) (x0 : Nat) (x1 : Int32) (x2 : Int32)
    (h : (((m.1 1 0 0) ≤ x2 →
      K 43 [some (vR 18 x0), some (vI (x1 + (nI 1))), some (vI x2)] [] m) ∧
    (¬ (m.1 1 0 0) ≤ x2 →
      inb x1 11 ∧ 
        C 108 [vI (m.1 1 0 1), vI x2] m (fun r1 m2 => ∃ w3 : Int32, r1 = some (vI w3) ∧
          ((w3 = 0 →
            inb (x1 - (nI 1)) 11 ∧ 
              C 28 [vR 18 x0, vI x2, vR 15 (3 + 11 * x0 + (x1 - (nI 1)).toNatClampNeg)] m2 (fun r4 m5 => ∃ w6 : Int64, r4 = some (vL w6) ∧
                inb x2 10 ∧ 
                  K 60 [some (vR 18 x0), some (vI x1), some (vI (x2 + (nI 1)))] [] (mL m5 15 (3 + 11 * x0 + x1.toNatClampNeg) x2.toNatClampNeg w6))) ∧
          (¬ w3 = 0 →
            inb x1 11 ∧ 
              inb x2 10 ∧ 
                K 60 [some (vR 18 x0), some (vI x1), some (vI (x2 + (nI 1)))] [] (mL m2 15 (3 + 11 * x0 + x1.toNatClampNeg) x2.toNatClampNeg (m2.2 20 x0 x1.toNatClampNeg)))))))) :
    wp2i xs C tX4_settle [19, 43, 60] none Q K 2000 60 [some (vR 18 x0), some (vI x1), some (vI x2)] [] m := h
theorem bX4_best_0 {xs : Nat × (Nat → Int32)} {C : Nat → List v2 → Mem → (Option v2 → Mem → Prop) → Prop} {Q : Option v2 → Mem → Prop} {K : Nat → L2 → List v2 → Mem → Prop} (m : Mem) (p0 : Nat) (p1 : Int32) (p2 : Nat)
    (h : C 64 [vR 1 0, vI p1, vI (m.1 18 p0 1)] m (fun r1 m2 => ∃ w3 : Int32, r1 = some (vI w3) ∧
      K 11 [some (vR 18 p0), some (vI p1), some (vR 15 p2), some (vI w3), some (vL (lN 0)), none, some (vI (nI 0)), none, none] [] m2)) :
    wp2i xs C tX4_best [11] (some .long) Q K 2000 0 [some (vR 18 p0), some (vI p1), some (vR 15 p2), none, none, none, none, none, none] [] m := h
theorem bX4_best_11 {xs : Nat × (Nat → Int32)} {C : Nat → List v2 → Mem → (Option v2 → Mem → Prop) → Prop} {Q : Option v2 → Mem → Prop} {K : Nat → L2 → List v2 → Mem → Prop} (m : Mem) (x0 : Nat) (x1 : Int32) (x2 : Nat) (x3 : Int32) (x4 : Int64) (x6 : Int32) (o7 : Option v2)
    (h : inb x1 10 ∧ 
      (((m.1 2 0 x1.toNatClampNeg) ≤ x6 →
        Q (some (vL x4)) m) ∧
      (¬ (m.1 2 0 x1.toNatClampNeg) ≤ x6 →
        C 62 [vR 1 0, vI x1, vI x6] m (fun r1 m2 => ∃ q3 : Nat, r1 = some (vR 4 q3) ∧
          C 7 [vR 4 q3, vR 15 x2] m2 (fun r4 m5 => ∃ w6 : Int64, r4 = some (vL w6) ∧
            ((x6 = 0 →
              K 11 [some (vR 18 x0), some (vI x1), some (vR 15 x2), some (vI x3), some (vL w6), none, some (vI (x6 + (nI 1))), some (vL w6), none] [] m5) ∧
            (¬ x6 = 0 →
              ((x3 = 0 →
                ((0 ≤ (lg_cmp w6 x4) →
                  K 11 [some (vR 18 x0), some (vI x1), some (vR 15 x2), some (vI x3), some (vL x4), none, some (vI (x6 + (nI 1))), some (vL w6), none] [] m5) ∧
                (¬ 0 ≤ (lg_cmp w6 x4) →
                  K 11 [some (vR 18 x0), some (vI x1), some (vR 15 x2), some (vI x3), some (vL w6), none, some (vI (x6 + (nI 1))), some (vL w6), none] [] m5))) ∧
              (¬ x3 = 0 →
                (((lg_cmp w6 x4) ≤ 0 →
                  K 11 [some (vR 18 x0), some (vI x1), some (vR 15 x2), some (vI x3), some (vL x4), none, some (vI (x6 + (nI 1))), some (vL w6), none] [] m5) ∧
                (¬ (lg_cmp w6 x4) ≤ 0 →
                  K 11 [some (vR 18 x0), some (vI x1), some (vR 15 x2), some (vI x3), some (vL w6), none, some (vI (x6 + (nI 1))), some (vL w6), none] [] m5))))))))))) :
    wp2i xs C tX4_best [11] (some .long) Q K 2000 11 [some (vR 18 x0), some (vI x1), some (vR 15 x2), some (vI x3), some (vL x4), none, some (vI x6), o7, none] [] m := h
theorem bX5_settle_0 {xs : Nat × (Nat → Int32)} {C : Nat → List v2 → Mem → (Option v2 → Mem → Prop) → Prop} {Q : Option v2 → Mem → Prop} {K : Nat → L2 → List v2 → Mem → Prop} (m : Mem) 
    (h : ((¬ (m.1 21 0 4) = (m.1 1 0 2) →
      C 49 [vR 7 0] (mI m 21 0 4 (m.1 1 0 2)) (fun r1 m2 => r1 = none ∧
        C 75 [vR 1 0] m2 (fun r3 m4 => ∃ w5 : Int32, r3 = some (vI w5) ∧
          ((¬ w5 = 0 →
            isB (nI 0) ∧ 
              ((¬ ((mI m4 21 0 7 (nI 0)).1 21 0 7) = 0 →
                C 57 [vR 8 2, vI ((mI m4 21 0 7 (nI 0)).1 7 0 8)] (mI m4 21 0 7 (nI 0)) (fun r6 m7 => ∃ w8 : Int32, r6 = some (vI w8) ∧
                  K 52 [some (vR 21 0), some (vI (nI 1)), some (vI (nI 0))] [] m7)) ∧
              (((mI m4 21 0 7 (nI 0)).1 21 0 7) = 0 →
                Q none (mI m4 21 0 7 (nI 0))))) ∧
          (w5 = 0 →
            C 10 [vR 10 2, vI ((m4.1 7 0 8) &&& ((m4.1 1 0 1) ^^^ (-1 : Int32)))] m4 (fun r9 m10 => ∃ w11 : Int32, r9 = some (vI w11) ∧
              ((w11 = 0 →
                isB (nI 0) ∧ 
                  ((¬ ((mI m10 21 0 7 (nI 0)).1 21 0 7) = 0 →
                    C 57 [vR 8 2, vI ((mI m10 21 0 7 (nI 0)).1 7 0 8)] (mI m10 21 0 7 (nI 0)) (fun r12 m13 => ∃ w14 : Int32, r12 = some (vI w14) ∧
                      K 52 [some (vR 21 0), some (vI (nI 1)), some (vI (nI 0))] [] m13)) ∧
                  (((mI m10 21 0 7 (nI 0)).1 21 0 7) = 0 →
                    Q none (mI m10 21 0 7 (nI 0))))) ∧
              (¬ w11 = 0 →
                isB (nI 1) ∧ 
                  ((¬ ((mI m10 21 0 7 (nI 1)).1 21 0 7) = 0 →
                    C 57 [vR 8 2, vI ((mI m10 21 0 7 (nI 1)).1 7 0 8)] (mI m10 21 0 7 (nI 1)) (fun r15 m16 => ∃ w17 : Int32, r15 = some (vI w17) ∧
                      K 52 [some (vR 21 0), some (vI (nI 1)), some (vI (nI 0))] [] m16)) ∧
                  (((mI m10 21 0 7 (nI 1)).1 21 0 7) = 0 →
                    Q none (mI m10 21 0 7 (nI 1)))))))))))) ∧
    ((m.1 21 0 4) = (m.1 1 0 2) →
      Q none m))) :
    wp2i xs C tX5_settle [52] none Q K 2000 0 [some (vR 21 0), none, none] [] m := h
theorem bX5_settle_52 {xs : Nat × (Nat → Int32)} {C : Nat → List v2 → Mem → (Option v2 → Mem → Prop) → Prop} {Q : Option v2 → Mem → Prop} {K : Nat → L2 → List v2 → Mem → Prop} (m : Mem) (x1 : Int32) (x2 : Int32)
    (h : (((nI 1000000) ≤ x2 →
      Q none m) ∧
    (¬ (nI 1000000) ≤ x2 →
      ((x1 = 0 →
        Q none m) ∧
      (¬ x1 = 0 →
        C 31 [vR 21 0] m (fun r1 m2 => r1 = none ∧
          C 32 [vR 21 0] m2 (fun r3 m4 => ∃ w5 : Int32, r3 = some (vI w5) ∧
            K 52 [some (vR 21 0), some (vI w5), some (vI (x2 + (nI 1)))] [] m4))))))) :
    wp2i xs C tX5_settle [52] none Q K 2000 52 [some (vR 21 0), some (vI x1), some (vI x2)] [] m := h
theorem bX5_evaluate_0 {xs : Nat × (Nat → Int32)} {C : Nat → List v2 → Mem → (Option v2 → Mem → Prop) → Prop} {Q : Option v2 → Mem → Prop} {K : Nat → L2 → List v2 → Mem → Prop} (m : Mem) 
    (h : K 2 [some (vR 21 0), some (vI (nI 0)), none, none] [] m) :
    wp2i xs C tX5_evaluate [2, 49] none Q K 2000 0 [some (vR 21 0), none, none, none] [] m := h
theorem bX5_evaluate_2 {xs : Nat × (Nat → Int32)} {C : Nat → List v2 → Mem → (Option v2 → Mem → Prop) → Prop} {Q : Option v2 → Mem → Prop} {K : Nat → L2 → List v2 → Mem → Prop} (m : Mem) (x1 : Int32) (o2 : Option v2) (o3 : Option v2)
    (h : (((m.1 10 2 3) ≤ x1 →
      C 12 [vR 10 2] m (fun r1 m2 => r1 = none ∧
        C 187 [vR 15 2, vL (lN 0)] (mL m2 21 0 6 (m2.2 10 2 4)) (fun r3 m4 => r3 = none ∧
          K 49 [some (vR 21 0), some (vI (nI 0)), o2, o3] [] m4))) ∧
    (¬ (m.1 10 2 3) ≤ x1 →
      inb x1 5 ∧ 
        inb (m.1 14 2 x1.toNatClampNeg) 10 ∧ 
          C 62 [vR 1 0, vI (m.1 14 2 x1.toNatClampNeg), vI (m.1 9 2 (m.1 14 2 x1.toNatClampNeg).toNatClampNeg)] m (fun r5 m6 => ∃ q7 : Nat, r5 = some (vR 4 q7) ∧
            C 11 [vR 10 2, vI x1, vR 4 q7, vL ((nI 12) * (m6.1 4 q7 1)).toInt64] m6 (fun r8 m9 => r8 = none ∧
              K 2 [some (vR 21 0), some (vI (x1 + (nI 1))), some (vI (m.1 14 2 x1.toNatClampNeg)), some (vR 4 q7)] [] m9))))) :
    wp2i xs C tX5_evaluate [2, 49] none Q K 2000 2 [some (vR 21 0), some (vI x1), o2, o3] [] m := h
theorem bX5_evaluate_49 {xs : Nat × (Nat → Int32)} {C : Nat → List v2 → Mem → (Option v2 → Mem → Prop) → Prop} {Q : Option v2 → Mem → Prop} {K : Nat → L2 → List v2 → Mem → Prop} (m : Mem) (x1 : Int32) (o2 : Option v2) (o3 : Option v2)
    (h : (((m.1 10 2 3) ≤ x1 →
      Q none m) ∧
    (¬ (m.1 10 2 3) ≤ x1 →
      inb x1 5 ∧ 
        C 14 [vR 10 2, vI x1] m (fun r1 m2 => ∃ w3 : Int64, r1 = some (vL w3) ∧
          inb (m.1 14 2 x1.toNatClampNeg) 10 ∧ 
            K 49 [some (vR 21 0), some (vI (x1 + (nI 1))), o2, o3] [] (mL m2 15 2 (m.1 14 2 x1.toNatClampNeg).toNatClampNeg w3))))) :
    wp2i xs C tX5_evaluate [2, 49] none Q K 2000 49 [some (vR 21 0), some (vI x1), o2, o3] [] m := h
theorem bX5_improve_0 {xs : Nat × (Nat → Int32)} {C : Nat → List v2 → Mem → (Option v2 → Mem → Prop) → Prop} {Q : Option v2 → Mem → Prop} {K : Nat → L2 → List v2 → Mem → Prop} (m : Mem) 
    (h : K 4 [some (vR 21 0), some (vI (nI 0)), some (vI (nI 0))] [] m) :
    wp2i xs C tX5_improve [4] (some .boolean) Q K 2000 0 [some (vR 21 0), none, none] [] m := h
theorem bX5_improve_4 {xs : Nat × (Nat → Int32)} {C : Nat → List v2 → Mem → (Option v2 → Mem → Prop) → Prop} {Q : Option v2 → Mem → Prop} {K : Nat → L2 → List v2 → Mem → Prop} (m : Mem) (x1 : Int32) (x2 : Int32)
    (h : (((m.1 10 2 3) ≤ x2 →
      isB x1 ∧ Q (some (vI x1)) m) ∧
    (¬ (m.1 10 2 3) ≤ x2 →
      inb x2 5 ∧ 
        C 33 [vR 21 0, vI (m.1 14 2 x2.toNatClampNeg)] m (fun r1 m2 => ∃ w3 : Int32, r1 = some (vI w3) ∧
          K 4 [some (vR 21 0), some (vI (x1 ||| w3)), some (vI (x2 + (nI 1)))] [] m2)))) :
    wp2i xs C tX5_improve [4] (some .boolean) Q K 2000 4 [some (vR 21 0), some (vI x1), some (vI x2)] [] m := h
theorem bX5_improveState_0 {xs : Nat × (Nat → Int32)} {C : Nat → List v2 → Mem → (Option v2 → Mem → Prop) → Prop} {Q : Option v2 → Mem → Prop} {K : Nat → L2 → List v2 → Mem → Prop} (m : Mem) (p1 : Int32)
    (h : inb p1 10 ∧ 
      inb p1 10 ∧ 
        K 15 [some (vR 21 0), some (vI p1), some (vI (m.1 9 2 p1.toNatClampNeg)), some (vL ((lN 12) * (m.2 15 2 p1.toNatClampNeg))), none, some (vI (nI 0)), none, none, none] [] m) :
    wp2i xs C tX5_improveState [15] (some .boolean) Q K 2000 0 [some (vR 21 0), some (vI p1), none, none, none, none, none, none, none] [] m := h
theorem bX5_improveState_15 {xs : Nat × (Nat → Int32)} {C : Nat → List v2 → Mem → (Option v2 → Mem → Prop) → Prop} {Q : Option v2 → Mem → Prop} {K : Nat → L2 → List v2 → Mem → Prop} (m : Mem) (x1 : Int32) (x2 : Int32) (x3 : Int64) (x5 : Int32) (o6 : Option v2) (o7 : Option v2)
    (h : inb x1 10 ∧ 
      (((m.1 2 0 x1.toNatClampNeg) ≤ x5 →
        inb x1 10 ∧ 
          (((m.1 9 2 x1.toNatClampNeg) = x2 →
            isB (nI 0) ∧ Q (some (vI (nI 0))) m) ∧
          (¬ (m.1 9 2 x1.toNatClampNeg) = x2 →
            isB (nI 1) ∧ Q (some (vI (nI 1))) m))) ∧
      (¬ (m.1 2 0 x1.toNatClampNeg) ≤ x5 →
        C 62 [vR 1 0, vI x1, vI x5] m (fun r1 m2 => ∃ q3 : Nat, r1 = some (vR 4 q3) ∧
          C 7 [vR 4 q3, vR 15 2] m2 (fun r4 m5 => ∃ w6 : Int64, r4 = some (vL w6) ∧
            C 6 [vR 4 q3, vI (m5.1 7 0 8)] m5 (fun r7 m8 => ∃ w9 : Int32, r7 = some (vI w9) ∧
              ((w9 = 0 →
                K 15 [some (vR 21 0), some (vI x1), some (vI x2), some (vL x3), none, some (vI (x5 + (nI 1))), some (vR 4 q3), some (vL ((((nI 12) * (m2.1 4 q3 1)).toInt64 * (m2.2 21 0 6)) + w6)), none] [] m8) ∧
              (¬ w9 = 0 →
                ((0 ≤ (lg_cmp ((((nI 12) * (m2.1 4 q3 1)).toInt64 * (m2.2 21 0 6)) + w6) x3) →
                  K 15 [some (vR 21 0), some (vI x1), some (vI x2), some (vL x3), none, some (vI (x5 + (nI 1))), some (vR 4 q3), some (vL ((((nI 12) * (m2.1 4 q3 1)).toInt64 * (m2.2 21 0 6)) + w6)), none] [] m8) ∧
                (¬ 0 ≤ (lg_cmp ((((nI 12) * (m2.1 4 q3 1)).toInt64 * (m2.2 21 0 6)) + w6) x3) →
                  inb x1 10 ∧ 
                    K 15 [some (vR 21 0), some (vI x1), some (vI x2), some (vL ((((nI 12) * (m2.1 4 q3 1)).toInt64 * (m2.2 21 0 6)) + w6)), none, some (vI (x5 + (nI 1))), some (vR 4 q3), some (vL ((((nI 12) * (m2.1 4 q3 1)).toInt64 * (m2.2 21 0 6)) + w6)), none] [] (mI m8 9 2 x1.toNatClampNeg x5))))))))))) :
    wp2i xs C tX5_improveState [15] (some .boolean) Q K 2000 15 [some (vR 21 0), some (vI x1), some (vI x2), some (vL x3), none, some (vI x5), o6, o7, none] [] m := h
theorem bX7_settle_0 {xs : Nat × (Nat → Int32)} {C : Nat → List v2 → Mem → (Option v2 → Mem → Prop) → Prop} {Q : Option v2 → Mem → Prop} {K : Nat → L2 → List v2 → Mem → Prop} (m : Mem) 
    (h : ((¬ (m.1 26 0 3) = (m.1 1 0 2) →
      K 14 [some (vR 26 0), some (vI (nI 0)), none] [] (mI m 26 0 3 (m.1 1 0 2))) ∧
    ((m.1 26 0 3) = (m.1 1 0 2) →
      Q none m))) :
    wp2i xs C tX7_settle [14, 41] none Q K 2000 0 [some (vR 26 0), none, none] [] m := h
theorem bX7_settle_14 {xs : Nat × (Nat → Int32)} {C : Nat → List v2 → Mem → (Option v2 → Mem → Prop) → Prop} {Q : Option v2 → Mem → Prop} {K : Nat → L2 → List v2 → Mem → Prop} (m : Mem) (x1 : Int32)
    (h : (((m.1 1 0 0) ≤ x1 →
      K 41 [some (vR 26 0), some (vI (-1 : Int32)), some (vI (nI 0))] [] (mI m 26 0 5 (nI 0))) ∧
    (¬ (m.1 1 0 0) ≤ x1 →
      C 108 [vI (m.1 1 0 1), vI x1] m (fun r1 m2 => ∃ w3 : Int32, r1 = some (vI w3) ∧
        ((w3 = 0 →
          inb x1 10 ∧ 
            K 14 [some (vR 26 0), some (vI (x1 + (nI 1))), none] [] (mI m2 29 0 x1.toNatClampNeg (nI 0))) ∧
        (¬ w3 = 0 →
          inb x1 10 ∧ 
            K 14 [some (vR 26 0), some (vI (x1 + (nI 1))), none] [] (mI m2 29 0 x1.toNatClampNeg (nI 1)))))))) :
    wp2i xs C tX7_settle [14, 41] none Q K 2000 14 [some (vR 26 0), some (vI x1), none] [] m := h
theorem bX7_settle_41 {xs : Nat × (Nat → Int32)} {C : Nat → List v2 → Mem → (Option v2 → Mem → Prop) → Prop} {Q : Option v2 → Mem → Prop} {K : Nat → L2 → List v2 → Mem → Prop} (m : Mem) (x1 : Int32) (x2 : Int32)
    (h : (((nI 11) < x2 →
      Q none m) ∧
    (¬ (nI 11) < x2 →
      (((m.1 26 0 5) = x1 →
        Q none m) ∧
      (¬ (m.1 26 0 5) = x1 →
        C 43 [vR 26 0] m (fun r1 m2 => r1 = none ∧
          C 45 [vR 26 0] m2 (fun r3 m4 => r3 = none ∧
            K 41 [some (vR 26 0), some (vI (m.1 26 0 5)), some (vI (x2 + (nI 1)))] [] m4))))))) :
    wp2i xs C tX7_settle [14, 41] none Q K 2000 41 [some (vR 26 0), some (vI x1), some (vI x2)] [] m := h
theorem bX7_readFaces_0 {xs : Nat × (Nat → Int32)} {C : Nat → List v2 → Mem → (Option v2 → Mem → Prop) → Prop} {Q : Option v2 → Mem → Prop} {K : Nat → L2 → List v2 → Mem → Prop} (m : Mem) 
    (h : K 2 [some (vR 26 0), some (vI (nI 0)), none] [] m) :
    wp2i xs C tX7_readFaces [2, 9] none Q K 2000 0 [some (vR 26 0), none, none] [] m := h
theorem bX7_readFaces_2 {xs : Nat × (Nat → Int32)} {C : Nat → List v2 → Mem → (Option v2 → Mem → Prop) → Prop} {Q : Option v2 → Mem → Prop} {K : Nat → L2 → List v2 → Mem → Prop} (m : Mem) (x1 : Int32) (o2 : Option v2)
    (h : (((m.1 1 0 0) ≤ x1 →
      Q none m) ∧
    (¬ (m.1 1 0 0) ≤ x1 →
      K 9 [some (vR 26 0), some (vI x1), some (vI (nI 0))] [] m))) :
    wp2i xs C tX7_readFaces [2, 9] none Q K 2000 2 [some (vR 26 0), some (vI x1), o2] [] m := h
theorem bX7_readFaces_9 {xs : Nat × (Nat → Int32)} {C : Nat → List v2 → Mem → (Option v2 → Mem → Prop) → Prop} {Q : Option v2 → Mem → Prop} {K : Nat → L2 → List v2 → Mem → Prop} (m : Mem) (x1 : Int32) (x2 : Int32)
    (h : inb x1 10 ∧ 
      (((m.1 2 0 x1.toNatClampNeg) ≤ x2 →
        K 2 [some (vR 26 0), some (vI (x1 + (nI 1))), some (vI x2)] [] m) ∧
      (¬ (m.1 2 0 x1.toNatClampNeg) ≤ x2 →
        C 62 [vR 1 0, vI x1, vI x2] m (fun r1 m2 => ∃ q3 : Nat, r1 = some (vR 4 q3) ∧
          C 44 [vR 26 0, vR 4 q3] m2 (fun r4 m5 => ∃ w6 : Int64, r4 = some (vL w6) ∧
            inb ((x1 * (nI 4)) + x2) 40 ∧ 
              K 9 [some (vR 26 0), some (vI x1), some (vI (x2 + (nI 1)))] [] (mL m5 28 0 ((x1 * (nI 4)) + x2).toNatClampNeg w6)))))) :
    wp2i xs C tX7_readFaces [2, 9] none Q K 2000 9 [some (vR 26 0), some (vI x1), some (vI x2)] [] m := h
theorem bX7_faceOf_0 {xs : Nat × (Nat → Int32)} {C : Nat → List v2 → Mem → (Option v2 → Mem → Prop) → Prop} {Q : Option v2 → Mem → Prop} {K : Nat → L2 → List v2 → Mem → Prop} (m : Mem) (p1 : Nat)
    (h : ((¬ (m.1 4 p1 0) = (nI 2) →
      K 22 [some (vR 26 0), some (vR 4 p1), some (vL ((((lN 0) <<< ((nI 10).toInt64 &&& 63)) ||| (m.1 4 p1 1).toInt64) <<< ((nI 40).toInt64 &&& 63))), none, some (vI (nI 0))] [] m) ∧
    ((m.1 4 p1 0) = (nI 2) →
      K 22 [some (vR 26 0), some (vR 4 p1), some (vL ((((lN 1) <<< ((nI 10).toInt64 &&& 63)) ||| (m.1 4 p1 1).toInt64) <<< ((nI 40).toInt64 &&& 63))), none, some (vI (nI 0))] [] m))) :
    wp2i xs C tX7_faceOf [22] (some .long) Q K 2000 0 [some (vR 26 0), some (vR 4 p1), none, none, none] [] m := h
theorem bX7_faceOf_22 {xs : Nat × (Nat → Int32)} {C : Nat → List v2 → Mem → (Option v2 → Mem → Prop) → Prop} {Q : Option v2 → Mem → Prop} {K : Nat → L2 → List v2 → Mem → Prop} (m : Mem) (x1 : Nat) (x2 : Int64) (x4 : Int32)
    (h : (((m.1 4 x1 2) ≤ x4 →
      Q (some (vL x2)) m) ∧
    (¬ (m.1 4 x1 2) ≤ x4 →
      inb x4 4 ∧ 
        inb x4 4 ∧ 
          inb (m.1 5 x1 x4.toNatClampNeg) 10 ∧ 
            K 22 [some (vR 26 0), some (vR 4 x1), some (vL (x2 + ((m.1 6 x1 x4.toNatClampNeg).toInt64 <<< (((nI 4) * (m.1 29 0 (m.1 5 x1 x4.toNatClampNeg).toNatClampNeg)).toInt64 &&& 63)))), none, some (vI (x4 + (nI 1)))] [] m))) :
    wp2i xs C tX7_faceOf [22] (some .long) Q K 2000 22 [some (vR 26 0), some (vR 4 x1), some (vL x2), none, some (vI x4)] [] m := h
theorem bX7_split_0 {xs : Nat × (Nat → Int32)} {C : Nat → List v2 → Mem → (Option v2 → Mem → Prop) → Prop} {Q : Option v2 → Mem → Prop} {K : Nat → L2 → List v2 → Mem → Prop} (m : Mem) 
    (h : K 5 [some (vR 26 0), some (vI (nI 0)), none] [] (mI m 26 0 5 (nI 0))) :
    wp2i xs C tX7_split [5, 17] none Q K 2000 0 [some (vR 26 0), none, none] [] m := h
theorem bX7_split_5 {xs : Nat × (Nat → Int32)} {C : Nat → List v2 → Mem → (Option v2 → Mem → Prop) → Prop} {Q : Option v2 → Mem → Prop} {K : Nat → L2 → List v2 → Mem → Prop} (m : Mem) (x1 : Int32) (o2 : Option v2)
    (h : (((m.1 1 0 0) ≤ x1 →
      (¬ (nI 0) < 0 ∧ ¬ (nI 0) < 0 ∧ ¬ (nI 10) < 0 ∧ (nI 0).toNatClampNeg + (nI 10).toNatClampNeg ≤ 10 ∧ (nI 0).toNatClampNeg + (nI 10).toNatClampNeg ≤ 10) ∧
        Q none ((fun a b => if a = 29 ∧ b = 0 then (va_cpy (m.1 27 0) (m.1 29 0) (nI 0).toNatClampNeg (nI 0).toNatClampNeg (nI 10).toNatClampNeg) else m.1 a b), m.2)) ∧
    (¬ (m.1 1 0 0) ≤ x1 →
      inb x1 10 ∧ 
        K 17 [some (vR 26 0), some (vI x1), some (vI (nI 0))] [] (mI m 27 0 x1.toNatClampNeg (-1 : Int32))))) :
    wp2i xs C tX7_split [5, 17] none Q K 2000 5 [some (vR 26 0), some (vI x1), o2] [] m := h
theorem bX7_split_17 {xs : Nat × (Nat → Int32)} {C : Nat → List v2 → Mem → (Option v2 → Mem → Prop) → Prop} {Q : Option v2 → Mem → Prop} {K : Nat → L2 → List v2 → Mem → Prop} (m : Mem) (x1 : Int32) (x2 : Int32)
    (h : ((x1 ≤ x2 →
      inb x1 10 ∧ 
        ((0 ≤ (m.1 27 0 x1.toNatClampNeg) →
          K 5 [some (vR 26 0), some (vI (x1 + (nI 1))), some (vI x2)] [] m) ∧
        (¬ 0 ≤ (m.1 27 0 x1.toNatClampNeg) →
          inb x1 10 ∧ 
            K 5 [some (vR 26 0), some (vI (x1 + (nI 1))), some (vI x2)] [] (mI (mI m 27 0 x1.toNatClampNeg (m.1 26 0 5)) 26 0 5 (((mI m 27 0 x1.toNatClampNeg (m.1 26 0 5)).1 26 0 5) + (nI 1)))))) ∧
    (¬ x1 ≤ x2 →
      inb x1 10 ∧ 
        ((0 ≤ (m.1 27 0 x1.toNatClampNeg) →
          inb x1 10 ∧ 
            ((0 ≤ (m.1 27 0 x1.toNatClampNeg) →
              K 5 [some (vR 26 0), some (vI (x1 + (nI 1))), some (vI x2)] [] m) ∧
            (¬ 0 ≤ (m.1 27 0 x1.toNatClampNeg) →
              inb x1 10 ∧ 
                K 5 [some (vR 26 0), some (vI (x1 + (nI 1))), some (vI x2)] [] (mI (mI m 27 0 x1.toNatClampNeg (m.1 26 0 5)) 26 0 5 (((mI m 27 0 x1.toNatClampNeg (m.1 26 0 5)).1 26 0 5) + (nI 1)))))) ∧
        (¬ 0 ≤ (m.1 27 0 x1.toNatClampNeg) →
          inb x2 10 ∧ 
            inb x1 10 ∧ 
              ((¬ (m.1 29 0 x2.toNatClampNeg) = (m.1 29 0 x1.toNatClampNeg) →
                K 17 [some (vR 26 0), some (vI x1), some (vI (x2 + (nI 1)))] [] m) ∧
              ((m.1 29 0 x2.toNatClampNeg) = (m.1 29 0 x1.toNatClampNeg) →
                C 46 [vR 26 0, vI x1, vI x2] m (fun r1 m2 => ∃ w3 : Int32, r1 = some (vI w3) ∧
                  ((w3 = 0 →
                    K 17 [some (vR 26 0), some (vI x1), some (vI (x2 + (nI 1)))] [] m2) ∧
                  (¬ w3 = 0 →
                    C 46 [vR 26 0, vI x2, vI x1] m2 (fun r4 m5 => ∃ w6 : Int32, r4 = some (vI w6) ∧
                      ((w6 = 0 →
                        K 17 [some (vR 26 0), some (vI x1), some (vI (x2 + (nI 1)))] [] m5) ∧
                      (¬ w6 = 0 →
                        inb x2 10 ∧ 
                          inb x1 10 ∧ 
                            K 17 [some (vR 26 0), some (vI x1), some (vI (x2 + (nI 1)))] [] (mI m5 27 0 x1.toNatClampNeg (m5.1 27 0 x2.toNatClampNeg))))))))))))))) :
    wp2i xs C tX7_split [5, 17] none Q K 2000 17 [some (vR 26 0), some (vI x1), some (vI x2)] [] m := h
theorem bX7_covers_0 {xs : Nat × (Nat → Int32)} {C : Nat → List v2 → Mem → (Option v2 → Mem → Prop) → Prop} {Q : Option v2 → Mem → Prop} {K : Nat → L2 → List v2 → Mem → Prop} (m : Mem) (p1 : Int32) (p2 : Int32)
    (h : K 2 [some (vR 26 0), some (vI p1), some (vI p2), some (vI (nI 0))] [] m) :
    wp2i xs C tX7_covers [2] (some .boolean) Q K 2000 0 [some (vR 26 0), some (vI p1), some (vI p2), none] [] m := h
theorem bX7_covers_2 {xs : Nat × (Nat → Int32)} {C : Nat → List v2 → Mem → (Option v2 → Mem → Prop) → Prop} {Q : Option v2 → Mem → Prop} {K : Nat → L2 → List v2 → Mem → Prop} (m : Mem) (x1 : Int32) (x2 : Int32) (x3 : Int32)
    (h : inb x1 10 ∧ 
      (((m.1 2 0 x1.toNatClampNeg) ≤ x3 →
        isB (nI 1) ∧ Q (some (vI (nI 1))) m) ∧
      (¬ (m.1 2 0 x1.toNatClampNeg) ≤ x3 →
        inb ((x1 * (nI 4)) + x3) 40 ∧ 
          C 47 [vR 26 0, vI x2, vL (m.2 28 0 ((x1 * (nI 4)) + x3).toNatClampNeg)] m (fun r1 m2 => ∃ w3 : Int32, r1 = some (vI w3) ∧
            ((¬ w3 = 0 →
              K 2 [some (vR 26 0), some (vI x1), some (vI x2), some (vI (x3 + (nI 1)))] [] m2) ∧
            (w3 = 0 →
              isB (nI 0) ∧ Q (some (vI (nI 0))) m2)))))) :
    wp2i xs C tX7_covers [2] (some .boolean) Q K 2000 2 [some (vR 26 0), some (vI x1), some (vI x2), some (vI x3)] [] m := h
theorem bX7_hasFace_0 {xs : Nat × (Nat → Int32)} {C : Nat → List v2 → Mem → (Option v2 → Mem → Prop) → Prop} {Q : Option v2 → Mem → Prop} {K : Nat → L2 → List v2 → Mem → Prop} (m : Mem) (p1 : Int32) (p2 : Int64)
    (h : K 2 [some (vR 26 0), some (vI p1), some (vL p2), none, some (vI (nI 0))] [] m) :
    wp2i xs C tX7_hasFace [2] (some .boolean) Q K 2000 0 [some (vR 26 0), some (vI p1), some (vL p2), none, none] [] m := h
theorem bX7_hasFace_2 {xs : Nat × (Nat → Int32)} {C : Nat → List v2 → Mem → (Option v2 → Mem → Prop) → Prop} {Q : Option v2 → Mem → Prop} {K : Nat → L2 → List v2 → Mem → Prop} (m : Mem) (x1 : Int32) (x2 : Int64) (x4 : Int32)
    (h : inb x1 10 ∧ 
      (((m.1 2 0 x1.toNatClampNeg) ≤ x4 →
        isB (nI 0) ∧ Q (some (vI (nI 0))) m) ∧
      (¬ (m.1 2 0 x1.toNatClampNeg) ≤ x4 →
        inb ((x1 * (nI 4)) + x4) 40 ∧ 
          ((¬ (lg_cmp (m.2 28 0 ((x1 * (nI 4)) + x4).toNatClampNeg) x2) = 0 →
            K 2 [some (vR 26 0), some (vI x1), some (vL x2), none, some (vI (x4 + (nI 1)))] [] m) ∧
          ((lg_cmp (m.2 28 0 ((x1 * (nI 4)) + x4).toNatClampNeg) x2) = 0 →
            isB (nI 1) ∧ Q (some (vI (nI 1))) m))))) :
    wp2i xs C tX7_hasFace [2] (some .boolean) Q K 2000 2 [some (vR 26 0), some (vI x1), some (vL x2), none, some (vI x4)] [] m := h
theorem bX8_sort_0 {xs : Nat × (Nat → Int32)} {C : Nat → List v2 → Mem → (Option v2 → Mem → Prop) → Prop} {Q : Option v2 → Mem → Prop} {K : Nat → L2 → List v2 → Mem → Prop} (m : Mem) (p0 : Nat)
    (h : ((¬ (m.1 7 p0 4) = (m.1 1 0 2) →
      C 65 [vR 1 0] (mI m 7 p0 4 (m.1 1 0 2)) (fun r1 m2 => ∃ w3 : Int32, r1 = some (vI w3) ∧
        K 23 [some (vR 7 p0), some (vI w3), some (vI (-1 : Int32)), some (vI (nI 0))] [] (mI m2 7 p0 8 w3))) ∧
    ((m.1 7 p0 4) = (m.1 1 0 2) →
      Q none m))) :
    wp2i xs C tX8_sort [23] none Q K 2000 0 [some (vR 7 p0), none, none, none] [] m := h
theorem bX8_sort_23 {xs : Nat × (Nat → Int32)} {C : Nat → List v2 → Mem → (Option v2 → Mem → Prop) → Prop} {Q : Option v2 → Mem → Prop} {K : Nat → L2 → List v2 → Mem → Prop} (m : Mem) (x0 : Nat) (x1 : Int32) (x2 : Int32) (x3 : Int32)
    (h : (((nI 10) < x3 →
      C 57 [vR 8 x0, vI x1] m (fun r1 m2 => ∃ w3 : Int32, r1 = some (vI w3) ∧
        Q none (mI m2 7 x0 9 (x1 &&& (w3 ^^^ (-1 : Int32)))))) ∧
    (¬ (nI 10) < x3 →
      (((m.1 7 x0 8) = x2 →
        C 57 [vR 8 x0, vI x1] m (fun r4 m5 => ∃ w6 : Int32, r4 = some (vI w6) ∧
          Q none (mI m5 7 x0 9 (x1 &&& (w6 ^^^ (-1 : Int32)))))) ∧
      (¬ (m.1 7 x0 8) = x2 →
        C 57 [vR 8 x0, vI (m.1 7 x0 8)] m (fun r7 m8 => ∃ w9 : Int32, r7 = some (vI w9) ∧
          K 23 [some (vR 7 x0), some (vI x1), some (vI (m.1 7 x0 8)), some (vI (x3 + (nI 1)))] [] (mI m8 7 x0 8 w9))))))) :
    wp2i xs C tX8_sort [23] none Q K 2000 23 [some (vR 7 x0), some (vI x1), some (vI x2), some (vI x3)] [] m := h
theorem bX8_settle_0 {xs : Nat × (Nat → Int32)} {C : Nat → List v2 → Mem → (Option v2 → Mem → Prop) → Prop} {Q : Option v2 → Mem → Prop} {K : Nat → L2 → List v2 → Mem → Prop} (m : Mem) (p0 : Nat)
    (h : ((¬ (m.1 7 p0 5) = (m.1 1 0 2) →
      C 65 [vR 1 0] (mI m 7 p0 5 (m.1 1 0 2)) (fun r1 m2 => ∃ w3 : Int32, r1 = some (vI w3) ∧
        C 10 [vR 10 p0, vI ((w3 &&& ((m2.1 7 p0 8) ^^^ (-1 : Int32))) &&& ((m2.1 7 p0 9) ^^^ (-1 : Int32)))] m2 (fun r4 m5 => ∃ w6 : Int32, r4 = some (vI w6) ∧
          isB w6 ∧ 
            K 35 [some (vR 7 p0), some (vI ((mI m5 7 p0 10 w6).1 7 p0 10)), some (vI (nI 0))] [] (mI m5 7 p0 10 w6)))) ∧
    ((m.1 7 p0 5) = (m.1 1 0 2) →
      Q none m))) :
    wp2i xs C tX8_settle [35] none Q K 2000 0 [some (vR 7 p0), none, none] [] m := h
theorem bX8_settle_35 {xs : Nat × (Nat → Int32)} {C : Nat → List v2 → Mem → (Option v2 → Mem → Prop) → Prop} {Q : Option v2 → Mem → Prop} {K : Nat → L2 → List v2 → Mem → Prop} (m : Mem) (x0 : Nat) (x1 : Int32) (x2 : Int32)
    (h : (((nI 1000000) ≤ x2 →
      Q none m) ∧
    (¬ (nI 1000000) ≤ x2 →
      ((x1 = 0 →
        Q none m) ∧
      (¬ x1 = 0 →
        C 51 [vR 7 x0] m (fun r1 m2 => r1 = none ∧
          C 53 [vR 7 x0, vI (nI 0)] m2 (fun r3 m4 => ∃ w5 : Int32, r3 = some (vI w5) ∧
            ((¬ w5 = 0 →
              K 35 [some (vR 7 x0), some (vI (nI 1)), some (vI (x2 + (nI 1)))] [] m4) ∧
            (w5 = 0 →
              C 53 [vR 7 x0, vI (nI 1)] m4 (fun r6 m7 => ∃ w8 : Int32, r6 = some (vI w8) ∧
                ((w8 = 0 →
                  K 35 [some (vR 7 x0), some (vI (nI 0)), some (vI (x2 + (nI 1)))] [] m7) ∧
                (¬ w8 = 0 →
                  K 35 [some (vR 7 x0), some (vI (nI 1)), some (vI (x2 + (nI 1)))] [] m7)))))))))))) :
    wp2i xs C tX8_settle [35] none Q K 2000 35 [some (vR 7 x0), some (vI x1), some (vI x2)] [] m := h
theorem bX8_evaluate_0 {xs : Nat × (Nat → Int32)} {C : Nat → List v2 → Mem → (Option v2 → Mem → Prop) → Prop} {Q : Option v2 → Mem → Prop} {K : Nat → L2 → List v2 → Mem → Prop} (m : Mem) (p0 : Nat)
    (h : C 52 [vR 7 p0, vL (lN 1)] m (fun r1 m2 => r1 = none ∧
      K 5 [some (vR 7 p0), some (vI (nI 0)), none, none] [] m2)) :
    wp2i xs C tX8_evaluate [5, 51] none Q K 2000 0 [some (vR 7 p0), none, none, none] [] m := h
theorem bX8_evaluate_5 {xs : Nat × (Nat → Int32)} {C : Nat → List v2 → Mem → (Option v2 → Mem → Prop) → Prop} {Q : Option v2 → Mem → Prop} {K : Nat → L2 → List v2 → Mem → Prop} (m : Mem) (x0 : Nat) (x1 : Int32) (o2 : Option v2) (o3 : Option v2)
    (h : (((m.1 10 x0 3) ≤ x1 →
      C 12 [vR 10 x0] m (fun r1 m2 => r1 = none ∧
        C 52 [vR 7 x0, vL ((mL m2 7 x0 7 (m2.2 10 x0 4)).2 7 x0 7)] (mL m2 7 x0 7 (m2.2 10 x0 4)) (fun r3 m4 => r3 = none ∧
          K 51 [some (vR 7 x0), some (vI (nI 0)), o2, o3] [] m4))) ∧
    (¬ (m.1 10 x0 3) ≤ x1 →
      inb x1 5 ∧ 
        inb (m.1 14 x0 x1.toNatClampNeg) 10 ∧ 
          C 62 [vR 1 0, vI (m.1 14 x0 x1.toNatClampNeg), vI (m.1 9 x0 (m.1 14 x0 x1.toNatClampNeg).toNatClampNeg)] m (fun r5 m6 => ∃ q7 : Nat, r5 = some (vR 4 q7) ∧
            C 7 [vR 4 q7, vR 15 x0] m6 (fun r8 m9 => ∃ w10 : Int64, r8 = some (vL w10) ∧
              C 11 [vR 10 x0, vI x1, vR 4 q7, vL w10] m9 (fun r11 m12 => r11 = none ∧
                K 5 [some (vR 7 x0), some (vI (x1 + (nI 1))), some (vI (m.1 14 x0 x1.toNatClampNeg)), some (vR 4 q7)] [] m12)))))) :
    wp2i xs C tX8_evaluate [5, 51] none Q K 2000 5 [some (vR 7 x0), some (vI x1), o2, o3] [] m := h
theorem bX8_evaluate_51 {xs : Nat × (Nat → Int32)} {C : Nat → List v2 → Mem → (Option v2 → Mem → Prop) → Prop} {Q : Option v2 → Mem → Prop} {K : Nat → L2 → List v2 → Mem → Prop} (m : Mem) (x0 : Nat) (x1 : Int32) (o2 : Option v2) (o3 : Option v2)
    (h : (((m.1 10 x0 3) ≤ x1 →
      Q none m) ∧
    (¬ (m.1 10 x0 3) ≤ x1 →
      inb x1 5 ∧ 
        C 14 [vR 10 x0, vI x1] m (fun r1 m2 => ∃ w3 : Int64, r1 = some (vL w3) ∧
          inb (m.1 14 x0 x1.toNatClampNeg) 10 ∧ 
            K 51 [some (vR 7 x0), some (vI (x1 + (nI 1))), o2, o3] [] (mL m2 15 x0 (m.1 14 x0 x1.toNatClampNeg).toNatClampNeg w3))))) :
    wp2i xs C tX8_evaluate [5, 51] none Q K 2000 51 [some (vR 7 x0), some (vI x1), o2, o3] [] m := h
theorem bX8_setSureTo_0 {xs : Nat × (Nat → Int32)} {C : Nat → List v2 → Mem → (Option v2 → Mem → Prop) → Prop} {Q : Option v2 → Mem → Prop} {K : Nat → L2 → List v2 → Mem → Prop} (m : Mem) (p0 : Nat) (p1 : Int64)
    (h : K 2 [some (vR 7 p0), some (vL p1), none, some (vI (nI 0))] [] m) :
    wp2i xs C tX8_setSureTo [2] none Q K 2000 0 [some (vR 7 p0), some (vL p1), none, none] [] m := h
theorem bX8_setSureTo_2 {xs : Nat × (Nat → Int32)} {C : Nat → List v2 → Mem → (Option v2 → Mem → Prop) → Prop} {Q : Option v2 → Mem → Prop} {K : Nat → L2 → List v2 → Mem → Prop} (m : Mem) (x0 : Nat) (x1 : Int64) (x3 : Int32)
    (h : (((m.1 1 0 0) ≤ x3 →
      Q none m) ∧
    (¬ (m.1 1 0 0) ≤ x3 →
      C 108 [vI (m.1 7 x0 8), vI x3] m (fun r1 m2 => ∃ w3 : Int32, r1 = some (vI w3) ∧
        ((w3 = 0 →
          inb x3 10 ∧ 
            K 2 [some (vR 7 x0), some (vL x1), none, some (vI (x3 + (nI 1)))] [] (mL m2 15 x0 x3.toNatClampNeg (lN 0))) ∧
        (¬ w3 = 0 →
          inb x3 10 ∧ 
            K 2 [some (vR 7 x0), some (vL x1), none, some (vI (x3 + (nI 1)))] [] (mL m2 15 x0 x3.toNatClampNeg x1))))))) :
    wp2i xs C tX8_setSureTo [2] none Q K 2000 2 [some (vR 7 x0), some (vL x1), none, some (vI x3)] [] m := h
theorem bX8_improve_0 {xs : Nat × (Nat → Int32)} {C : Nat → List v2 → Mem → (Option v2 → Mem → Prop) → Prop} {Q : Option v2 → Mem → Prop} {K : Nat → L2 → List v2 → Mem → Prop} (m : Mem) (p0 : Nat) (p1 : Int32)
    (h : K 4 [some (vR 7 p0), some (vI p1), some (vI (nI 0)), some (vI (nI 0)), none] [] m) :
    wp2i xs C tX8_improve [4] (some .boolean) Q K 2000 0 [some (vR 7 p0), some (vI p1), none, none, none] [] m := h
theorem bX8_improve_4 {xs : Nat × (Nat → Int32)} {C : Nat → List v2 → Mem → (Option v2 → Mem → Prop) → Prop} {Q : Option v2 → Mem → Prop} {K : Nat → L2 → List v2 → Mem → Prop} (m : Mem) (x0 : Nat) (x1 : Int32) (x2 : Int32) (x3 : Int32) (o4 : Option v2)
    (h : (((m.1 10 x0 3) ≤ x3 →
      isB x2 ∧ Q (some (vI x2)) m) ∧
    (¬ (m.1 10 x0 3) ≤ x3 →
      inb x3 5 ∧ 
        C 64 [vR 1 0, vI (m.1 14 x0 x3.toNatClampNeg), vI (m.1 7 x0 1)] m (fun r1 m2 => ∃ w3 : Int32, r1 = some (vI w3) ∧
          ((¬ w3 = x1 →
            K 4 [some (vR 7 x0), some (vI x1), some (vI x2), some (vI (x3 + (nI 1))), some (vI (m.1 14 x0 x3.toNatClampNeg))] [] m2) ∧
          (w3 = x1 →
            C 54 [vR 7 x0, vI (m.1 14 x0 x3.toNatClampNeg), vI x1] m2 (fun r4 m5 => ∃ w6 : Int32, r4 = some (vI w6) ∧
              K 4 [some (vR 7 x0), some (vI x1), some (vI (x2 ||| w6)), some (vI (x3 + (nI 1))), some (vI (m.1 14 x0 x3.toNatClampNeg))] [] m5))))))) :
    wp2i xs C tX8_improve [4] (some .boolean) Q K 2000 4 [some (vR 7 x0), some (vI x1), some (vI x2), some (vI x3), o4] [] m := h
theorem bX8_improveState_0 {xs : Nat × (Nat → Int32)} {C : Nat → List v2 → Mem → (Option v2 → Mem → Prop) → Prop} {Q : Option v2 → Mem → Prop} {K : Nat → L2 → List v2 → Mem → Prop} (m : Mem) (p0 : Nat) (p1 : Int32) (p2 : Int32)
    (h : inb p1 10 ∧ 
      inb p1 10 ∧ 
        K 15 [some (vR 7 p0), some (vI p1), some (vI p2), some (vI (m.1 9 p0 p1.toNatClampNeg)), some (vL ((lN 12) * (m.2 15 p0 p1.toNatClampNeg))), none, some (vI (nI 0)), none, none] [] m) :
    wp2i xs C tX8_improveState [15] (some .boolean) Q K 2000 0 [some (vR 7 p0), some (vI p1), some (vI p2), none, none, none, none, none, none] [] m := h
theorem bX8_improveState_15 {xs : Nat × (Nat → Int32)} {C : Nat → List v2 → Mem → (Option v2 → Mem → Prop) → Prop} {Q : Option v2 → Mem → Prop} {K : Nat → L2 → List v2 → Mem → Prop} (m : Mem) (x0 : Nat) (x1 : Int32) (x2 : Int32) (x3 : Int32) (x4 : Int64) (x6 : Int32) (o7 : Option v2)
    (h : inb x1 10 ∧ 
      (((m.1 2 0 x1.toNatClampNeg) ≤ x6 →
        inb x1 10 ∧ 
          (((m.1 9 x0 x1.toNatClampNeg) = x3 →
            isB (nI 0) ∧ Q (some (vI (nI 0))) m) ∧
          (¬ (m.1 9 x0 x1.toNatClampNeg) = x3 →
            isB (nI 1) ∧ Q (some (vI (nI 1))) m))) ∧
      (¬ (m.1 2 0 x1.toNatClampNeg) ≤ x6 →
        C 62 [vR 1 0, vI x1, vI x6] m (fun r1 m2 => ∃ q3 : Nat, r1 = some (vR 4 q3) ∧
          C 7 [vR 4 q3, vR 15 x0] m2 (fun r4 m5 => ∃ w6 : Int64, r4 = some (vL w6) ∧
            ((x2 = 0 →
              ((0 ≤ (lg_cmp w6 x4) →
                K 15 [some (vR 7 x0), some (vI x1), some (vI x2), some (vI x3), some (vL x4), none, some (vI (x6 + (nI 1))), some (vL w6), none] [] m5) ∧
              (¬ 0 ≤ (lg_cmp w6 x4) →
                inb x1 10 ∧ 
                  K 15 [some (vR 7 x0), some (vI x1), some (vI x2), some (vI x3), some (vL w6), none, some (vI (x6 + (nI 1))), some (vL w6), none] [] (mI m5 9 x0 x1.toNatClampNeg x6)))) ∧
            (¬ x2 = 0 →
              (((lg_cmp w6 x4) ≤ 0 →
                K 15 [some (vR 7 x0), some (vI x1), some (vI x2), some (vI x3), some (vL x4), none, some (vI (x6 + (nI 1))), some (vL w6), none] [] m5) ∧
              (¬ (lg_cmp w6 x4) ≤ 0 →
                inb x1 10 ∧ 
                  K 15 [some (vR 7 x0), some (vI x1), some (vI x2), some (vI x3), some (vL w6), none, some (vI (x6 + (nI 1))), some (vL w6), none] [] (mI m5 9 x0 x1.toNatClampNeg x6)))))))))) :
    wp2i xs C tX8_improveState [15] (some .boolean) Q K 2000 15 [some (vR 7 x0), some (vI x1), some (vI x2), some (vI x3), some (vL x4), none, some (vI x6), o7, none] [] m := h
theorem bX8_isTight_0 {xs : Nat × (Nat → Int32)} {C : Nat → List v2 → Mem → (Option v2 → Mem → Prop) → Prop} {Q : Option v2 → Mem → Prop} {K : Nat → L2 → List v2 → Mem → Prop} (m : Mem) (p0 : Nat) (p1 : Int32) (p2 : Int32)
    (h : C 62 [vR 1 0, vI p1, vI p2] m (fun r1 m2 => ∃ q3 : Nat, r1 = some (vR 4 q3) ∧
      C 7 [vR 4 q3, vR 15 p0] m2 (fun r4 m5 => ∃ w6 : Int64, r4 = some (vL w6) ∧
        inb p1 10 ∧ 
          ((¬ (lg_cmp w6 ((lN 12) * (m5.2 15 p0 p1.toNatClampNeg))) = 0 →
            isB (nI 0) ∧ Q (some (vI (nI 0))) m5) ∧
          ((lg_cmp w6 ((lN 12) * (m5.2 15 p0 p1.toNatClampNeg))) = 0 →
            isB (nI 1) ∧ Q (some (vI (nI 1))) m5))))) :
    wp2i xs C tX8_isTight [] (some .boolean) Q K 2000 0 [some (vR 7 p0), some (vI p1), some (vI p2)] [] m := h
