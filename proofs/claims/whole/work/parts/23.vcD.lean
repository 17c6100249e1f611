/-! CONDITIONS (by program: wip/whole/gen_vc.py) -/
set_option maxRecDepth 100000 in
theorem bX12_thrown_0 {xs : Nat × (Nat → Int32)} {C : Nat → List v2 → Mem → (Option v2 → Mem → Prop) → Prop} {Q : Option v2 → Mem → Prop} {K : Nat → L2 → List v2 → Mem → Prop} (m : Mem) 
    (h : Q (some (vI (m.1 40 0 0))) m) :
    wp2i xs C tX12_thrown [] (some .int) Q K 2000 0 [some (vR 40 0)] [] m := h
set_option maxRecDepth 100000 in
theorem bX12_isIn_0 {xs : Nat × (Nat → Int32)} {C : Nat → List v2 → Mem → (Option v2 → Mem → Prop) → Prop} {Q : Option v2 → Mem → Prop} {K : Nat → L2 → List v2 → Mem → Prop} (m : Mem) (p0 : Int64) (p1 : Int64) (p2 : Int64)
    (h : (((lg_cmp p0 p1) < 0 →
      isB (nI 0) ∧ Q (some (vI (nI 0))) m) ∧
    (¬ (lg_cmp p0 p1) < 0 →
      ((0 < (lg_cmp p0 p2) →
        isB (nI 0) ∧ Q (some (vI (nI 0))) m) ∧
      (¬ 0 < (lg_cmp p0 p2) →
        isB (nI 1) ∧ Q (some (vI (nI 1))) m))))) :
    wp2i xs C tX12_isIn [] (some .boolean) Q K 2000 0 [some (vL p0), none, some (vL p1), none, some (vL p2), none] [] m := h
set_option maxRecDepth 100000 in
theorem bX12_isState_0 {xs : Nat × (Nat → Int32)} {C : Nat → List v2 → Mem → (Option v2 → Mem → Prop) → Prop} {Q : Option v2 → Mem → Prop} {K : Nat → L2 → List v2 → Mem → Prop} (m : Mem) (p1 : Int32)
    (h : ((p1 < 0 →
      isB (nI 0) ∧ Q (some (vI (nI 0))) m) ∧
    (¬ p1 < 0 →
      (((m.1 40 0 1) ≤ p1 →
        isB (nI 0) ∧ Q (some (vI (nI 0))) m) ∧
      (¬ (m.1 40 0 1) ≤ p1 →
        isB (nI 1) ∧ Q (some (vI (nI 1))) m))))) :
    wp2i xs C tX12_isState [] (some .boolean) Q K 2000 0 [some (vR 40 0), some (vI p1)] [] m := h
set_option maxRecDepth 100000 in
theorem bX12_isAct_0 {xs : Nat × (Nat → Int32)} {C : Nat → List v2 → Mem → (Option v2 → Mem → Prop) → Prop} {Q : Option v2 → Mem → Prop} {K : Nat → L2 → List v2 → Mem → Prop} (m : Mem) (p1 : Int32) (p2 : Int32)
    (h : C 114 [vR 40 0, vI p1] m (fun r1 m2 => ∃ w3 : Int32, r1 = some (vI w3) ∧
      ((w3 = 0 →
        isB (nI 0) ∧ Q (some (vI (nI 0))) m2) ∧
      (¬ w3 = 0 →
        ((p2 < 0 →
          isB (nI 0) ∧ Q (some (vI (nI 0))) m2) ∧
        (¬ p2 < 0 →
          inb p1 10 ∧ 
            (((m2.1 41 0 p1.toNatClampNeg) ≤ p2 →
              isB (nI 0) ∧ Q (some (vI (nI 0))) m2) ∧
            (¬ (m2.1 41 0 p1.toNatClampNeg) ≤ p2 →
              isB (nI 1) ∧ Q (some (vI (nI 1))) m2)))))))) :
    wp2i xs C tX12_isAct [] (some .boolean) Q K 2000 0 [some (vR 40 0), some (vI p1), some (vI p2)] [] m := h
set_option maxRecDepth 100000 in
theorem bX12_isMarked_0 {xs : Nat × (Nat → Int32)} {C : Nat → List v2 → Mem → (Option v2 → Mem → Prop) → Prop} {Q : Option v2 → Mem → Prop} {K : Nat → L2 → List v2 → Mem → Prop} (m : Mem) (p1 : Int32)
    (h : ((¬ (((m.1 40 0 2) >>> (p1 &&& 31)) &&& (nI 1)) = (nI 1) →
      isB (nI 0) ∧ Q (some (vI (nI 0))) m) ∧
    ((((m.1 40 0 2) >>> (p1 &&& 31)) &&& (nI 1)) = (nI 1) →
      isB (nI 1) ∧ Q (some (vI (nI 1))) m))) :
    wp2i xs C tX12_isMarked [] (some .boolean) Q K 2000 0 [some (vR 40 0), some (vI p1)] [] m := h
set_option maxRecDepth 100000 in
theorem bX12_isFoe_0 {xs : Nat × (Nat → Int32)} {C : Nat → List v2 → Mem → (Option v2 → Mem → Prop) → Prop} {Q : Option v2 → Mem → Prop} {K : Nat → L2 → List v2 → Mem → Prop} (m : Mem) (p1 : Int32)
    (h : inb p1 10 ∧ 
      (((m.1 41 0 p1.toNatClampNeg) ≤ 0 →
        isB (nI 0) ∧ Q (some (vI (nI 0))) m) ∧
      (¬ (m.1 41 0 p1.toNatClampNeg) ≤ 0 →
        inb ((nI 4) * p1) 40 ∧ 
          ((¬ (m.1 42 0 ((nI 4) * p1).toNatClampNeg) = (nI 2) →
            isB (nI 0) ∧ Q (some (vI (nI 0))) m) ∧
          ((m.1 42 0 ((nI 4) * p1).toNatClampNeg) = (nI 2) →
            isB (nI 1) ∧ Q (some (vI (nI 1))) m))))) :
    wp2i xs C tX12_isFoe [] (some .boolean) Q K 2000 0 [some (vR 40 0), some (vI p1)] [] m := h
set_option maxRecDepth 100000 in
theorem bX12_state_0 {xs : Nat × (Nat → Int32)} {C : Nat → List v2 → Mem → (Option v2 → Mem → Prop) → Prop} {Q : Option v2 → Mem → Prop} {K : Nat → L2 → List v2 → Mem → Prop} (m : Mem) 
    (h : ((¬ ((mI m 40 0 0 (nI 0)).1 40 0 1) = (nI 10) →
      inb ((mI m 40 0 0 (nI 0)).1 40 0 1) 10 ∧ 
        Q (some (vI (((mI (mI (mI m 40 0 0 (nI 0)) 41 0 ((mI m 40 0 0 (nI 0)).1 40 0 1).toNatClampNeg (nI 0)) 40 0 1 (((mI (mI m 40 0 0 (nI 0)) 41 0 ((mI m 40 0 0 (nI 0)).1 40 0 1).toNatClampNeg (nI 0)).1 40 0 1) + (nI 1))).1 40 0 1) - (nI 1)))) (mI (mI (mI m 40 0 0 (nI 0)) 41 0 ((mI m 40 0 0 (nI 0)).1 40 0 1).toNatClampNeg (nI 0)) 40 0 1 (((mI (mI m 40 0 0 (nI 0)) 41 0 ((mI m 40 0 0 (nI 0)).1 40 0 1).toNatClampNeg (nI 0)).1 40 0 1) + (nI 1)))) ∧
    (((mI m 40 0 0 (nI 0)).1 40 0 1) = (nI 10) →
      Q (some (vI (-2 : Int32))) (mI m 40 0 0 (nI 0))))) :
    wp2i xs C tX12_state [] (some .int) Q K 2000 0 [some (vR 40 0)] [] m := h
set_option maxRecDepth 100000 in
theorem bX12_act_0 {xs : Nat × (Nat → Int32)} {C : Nat → List v2 → Mem → (Option v2 → Mem → Prop) → Prop} {Q : Option v2 → Mem → Prop} {K : Nat → L2 → List v2 → Mem → Prop} (m : Mem) (p1 : Int32) (p2 : Int32) (p3 : Int32)
    (h : C 114 [vR 40 0, vI p1] (mI m 40 0 0 (nI 0)) (fun r1 m2 => ∃ w3 : Int32, r1 = some (vI w3) ∧
      ((w3 = 0 →
        Q (some (vI (-1 : Int32))) m2) ∧
      (¬ w3 = 0 →
        C 113 [vL p2.toInt64, vL (lN 0), vL (lN 3)] m2 (fun r4 m5 => ∃ w6 : Int32, r4 = some (vI w6) ∧
          ((w6 = 0 →
            Q (some (vI (-1 : Int32))) m5) ∧
          (¬ w6 = 0 →
            C 113 [vL p3.toInt64, vL (lN 0), vL (lN 1000)] m5 (fun r7 m8 => ∃ w9 : Int32, r7 = some (vI w9) ∧
              ((¬ w9 = 0 →
                inb p1 10 ∧ 
                  ((¬ (m8.1 41 0 p1.toNatClampNeg) = (nI 4) →
                    inb p1 10 ∧ 
                      (((m8.1 41 0 p1.toNatClampNeg) ≤ 0 →
                        inb p1 10 ∧ 
                          inb (((nI 4) * p1) + (m8.1 41 0 p1.toNatClampNeg)) 40 ∧ 
                            inb (((nI 4) * p1) + (m8.1 41 0 p1.toNatClampNeg)) 40 ∧ 
                              inb (((nI 4) * p1) + (m8.1 41 0 p1.toNatClampNeg)) 40 ∧ 
                                inb p1 10 ∧ 
                                  inb p1 10 ∧ 
                                    inb p1 10 ∧ 
                                      Q (some (vI (((mI (mI (mI (mI m8 42 0 (((nI 4) * p1) + (m8.1 41 0 p1.toNatClampNeg)).toNatClampNeg p2) 43 0 (((nI 4) * p1) + (m8.1 41 0 p1.toNatClampNeg)).toNatClampNeg p3) 44 0 (((nI 4) * p1) + (m8.1 41 0 p1.toNatClampNeg)).toNatClampNeg (nI 0)) 41 0 p1.toNatClampNeg (((mI (mI (mI m8 42 0 (((nI 4) * p1) + (m8.1 41 0 p1.toNatClampNeg)).toNatClampNeg p2) 43 0 (((nI 4) * p1) + (m8.1 41 0 p1.toNatClampNeg)).toNatClampNeg p3) 44 0 (((nI 4) * p1) + (m8.1 41 0 p1.toNatClampNeg)).toNatClampNeg (nI 0)).1 41 0 p1.toNatClampNeg) + (nI 1))).1 41 0 p1.toNatClampNeg) - (nI 1)))) (mI (mI (mI (mI m8 42 0 (((nI 4) * p1) + (m8.1 41 0 p1.toNatClampNeg)).toNatClampNeg p2) 43 0 (((nI 4) * p1) + (m8.1 41 0 p1.toNatClampNeg)).toNatClampNeg p3) 44 0 (((nI 4) * p1) + (m8.1 41 0 p1.toNatClampNeg)).toNatClampNeg (nI 0)) 41 0 p1.toNatClampNeg (((mI (mI (mI m8 42 0 (((nI 4) * p1) + (m8.1 41 0 p1.toNatClampNeg)).toNatClampNeg p2) 43 0 (((nI 4) * p1) + (m8.1 41 0 p1.toNatClampNeg)).toNatClampNeg p3) 44 0 (((nI 4) * p1) + (m8.1 41 0 p1.toNatClampNeg)).toNatClampNeg (nI 0)).1 41 0 p1.toNatClampNeg) + (nI 1)))) ∧
                      (¬ (m8.1 41 0 p1.toNatClampNeg) ≤ 0 →
                        C 117 [vR 40 0, vI p1] m8 (fun r10 m11 => ∃ w12 : Int32, r10 = some (vI w12) ∧
                          ((¬ p2 = (nI 2) →
                            ((w12 = (nI 0) →
                              inb p1 10 ∧ 
                                inb (((nI 4) * p1) + (m11.1 41 0 p1.toNatClampNeg)) 40 ∧ 
                                  inb (((nI 4) * p1) + (m11.1 41 0 p1.toNatClampNeg)) 40 ∧ 
                                    inb (((nI 4) * p1) + (m11.1 41 0 p1.toNatClampNeg)) 40 ∧ 
                                      inb p1 10 ∧ 
                                        inb p1 10 ∧ 
                                          inb p1 10 ∧ 
                                            Q (some (vI (((mI (mI (mI (mI m11 42 0 (((nI 4) * p1) + (m11.1 41 0 p1.toNatClampNeg)).toNatClampNeg p2) 43 0 (((nI 4) * p1) + (m11.1 41 0 p1.toNatClampNeg)).toNatClampNeg p3) 44 0 (((nI 4) * p1) + (m11.1 41 0 p1.toNatClampNeg)).toNatClampNeg (nI 0)) 41 0 p1.toNatClampNeg (((mI (mI (mI m11 42 0 (((nI 4) * p1) + (m11.1 41 0 p1.toNatClampNeg)).toNatClampNeg p2) 43 0 (((nI 4) * p1) + (m11.1 41 0 p1.toNatClampNeg)).toNatClampNeg p3) 44 0 (((nI 4) * p1) + (m11.1 41 0 p1.toNatClampNeg)).toNatClampNeg (nI 0)).1 41 0 p1.toNatClampNeg) + (nI 1))).1 41 0 p1.toNatClampNeg) - (nI 1)))) (mI (mI (mI (mI m11 42 0 (((nI 4) * p1) + (m11.1 41 0 p1.toNatClampNeg)).toNatClampNeg p2) 43 0 (((nI 4) * p1) + (m11.1 41 0 p1.toNatClampNeg)).toNatClampNeg p3) 44 0 (((nI 4) * p1) + (m11.1 41 0 p1.toNatClampNeg)).toNatClampNeg (nI 0)) 41 0 p1.toNatClampNeg (((mI (mI (mI m11 42 0 (((nI 4) * p1) + (m11.1 41 0 p1.toNatClampNeg)).toNatClampNeg p2) 43 0 (((nI 4) * p1) + (m11.1 41 0 p1.toNatClampNeg)).toNatClampNeg p3) 44 0 (((nI 4) * p1) + (m11.1 41 0 p1.toNatClampNeg)).toNatClampNeg (nI 0)).1 41 0 p1.toNatClampNeg) + (nI 1)))) ∧
                            (¬ w12 = (nI 0) →
                              Q (some (vI (-3 : Int32))) m11))) ∧
                          (p2 = (nI 2) →
                            ((w12 = (nI 1) →
                              inb p1 10 ∧ 
                                inb (((nI 4) * p1) + (m11.1 41 0 p1.toNatClampNeg)) 40 ∧ 
                                  inb (((nI 4) * p1) + (m11.1 41 0 p1.toNatClampNeg)) 40 ∧ 
                                    inb (((nI 4) * p1) + (m11.1 41 0 p1.toNatClampNeg)) 40 ∧ 
                                      inb p1 10 ∧ 
                                        inb p1 10 ∧ 
                                          inb p1 10 ∧ 
                                            Q (some (vI (((mI (mI (mI (mI m11 42 0 (((nI 4) * p1) + (m11.1 41 0 p1.toNatClampNeg)).toNatClampNeg p2) 43 0 (((nI 4) * p1) + (m11.1 41 0 p1.toNatClampNeg)).toNatClampNeg p3) 44 0 (((nI 4) * p1) + (m11.1 41 0 p1.toNatClampNeg)).toNatClampNeg (nI 0)) 41 0 p1.toNatClampNeg (((mI (mI (mI m11 42 0 (((nI 4) * p1) + (m11.1 41 0 p1.toNatClampNeg)).toNatClampNeg p2) 43 0 (((nI 4) * p1) + (m11.1 41 0 p1.toNatClampNeg)).toNatClampNeg p3) 44 0 (((nI 4) * p1) + (m11.1 41 0 p1.toNatClampNeg)).toNatClampNeg (nI 0)).1 41 0 p1.toNatClampNeg) + (nI 1))).1 41 0 p1.toNatClampNeg) - (nI 1)))) (mI (mI (mI (mI m11 42 0 (((nI 4) * p1) + (m11.1 41 0 p1.toNatClampNeg)).toNatClampNeg p2) 43 0 (((nI 4) * p1) + (m11.1 41 0 p1.toNatClampNeg)).toNatClampNeg p3) 44 0 (((nI 4) * p1) + (m11.1 41 0 p1.toNatClampNeg)).toNatClampNeg (nI 0)) 41 0 p1.toNatClampNeg (((mI (mI (mI m11 42 0 (((nI 4) * p1) + (m11.1 41 0 p1.toNatClampNeg)).toNatClampNeg p2) 43 0 (((nI 4) * p1) + (m11.1 41 0 p1.toNatClampNeg)).toNatClampNeg p3) 44 0 (((nI 4) * p1) + (m11.1 41 0 p1.toNatClampNeg)).toNatClampNeg (nI 0)).1 41 0 p1.toNatClampNeg) + (nI 1)))) ∧
                            (¬ w12 = (nI 1) →
                              Q (some (vI (-3 : Int32))) m11)))))))) ∧
                  ((m8.1 41 0 p1.toNatClampNeg) = (nI 4) →
                    Q (some (vI (-2 : Int32))) m8))) ∧
              (w9 = 0 →
                Q (some (vI (-1 : Int32))) m8)))))))))) :
    wp2i xs C tX12_act [] (some .int) Q K 2000 0 [some (vR 40 0), some (vI p1), some (vI p2), some (vI p3), none] [] m := h
set_option maxRecDepth 100000 in
theorem bX12_partsOf_0 {xs : Nat × (Nat → Int32)} {C : Nat → List v2 → Mem → (Option v2 → Mem → Prop) → Prop} {Q : Option v2 → Mem → Prop} {K : Nat → L2 → List v2 → Mem → Prop} (m : Mem) (p1 : Int32)
    (h : K 4 [some (vR 40 0), some (vI p1), some (vI (nI 0)), some (vI (nI 0))] [] m) :
    wp2i xs C tX12_partsOf [4] (some .int) Q K 2000 0 [some (vR 40 0), some (vI p1), none, none] [] m := h
set_option maxRecDepth 100000 in
theorem bX12_partsOf_4 {xs : Nat × (Nat → Int32)} {C : Nat → List v2 → Mem → (Option v2 → Mem → Prop) → Prop} {Q : Option v2 → Mem → Prop} {K : Nat → L2 → List v2 → Mem → Prop} (m : Mem) (x1 : Int32) (x2 : Int32) (x3 : Int32)
    (h : inb x1 40 ∧ 
      (((m.1 44 0 x1.toNatClampNeg) ≤ x3 →
        Q (some (vI x2)) m) ∧
      (¬ (m.1 44 0 x1.toNatClampNeg) ≤ x3 →
        inb (((nI 4) * x1) + x3) 160 ∧ 
          K 4 [some (vR 40 0), some (vI x1), some (vI (x2 + (m.1 46 0 (((nI 4) * x1) + x3).toNatClampNeg))), some (vI (x3 + (nI 1)))] [] m))) :
    wp2i xs C tX12_partsOf [4] (some .int) Q K 2000 4 [some (vR 40 0), some (vI x1), some (vI x2), some (vI x3)] [] m := h
set_option maxRecDepth 100000 in
theorem bX12_outcome_0 {xs : Nat × (Nat → Int32)} {C : Nat → List v2 → Mem → (Option v2 → Mem → Prop) → Prop} {Q : Option v2 → Mem → Prop} {K : Nat → L2 → List v2 → Mem → Prop} (m : Mem) (p1 : Int32) (p2 : Int32) (p3 : Int32) (p4 : Int32)
    (h : C 115 [vR 40 0, vI p1, vI p2] (mI m 40 0 0 (nI 0)) (fun r1 m2 => ∃ w3 : Int32, r1 = some (vI w3) ∧
      ((w3 = 0 →
        Q (some (vI (-1 : Int32))) m2) ∧
      (¬ w3 = 0 →
        C 114 [vR 40 0, vI p3] m2 (fun r4 m5 => ∃ w6 : Int32, r4 = some (vI w6) ∧
          ((w6 = 0 →
            Q (some (vI (-1 : Int32))) m5) ∧
          (¬ w6 = 0 →
            C 113 [vL p4.toInt64, vL (lN 1), vL (lN 12)] m5 (fun r7 m8 => ∃ w9 : Int32, r7 = some (vI w9) ∧
              ((¬ w9 = 0 →
                inb (((nI 4) * p1) + p2) 40 ∧ 
                  ((¬ (m8.1 42 0 (((nI 4) * p1) + p2).toNatClampNeg) = (nI 3) →
                    inb (((nI 4) * p1) + p2) 40 ∧ 
                      inb (((nI 4) * p1) + p2) 40 ∧ 
                        ¬ (nI 2) = 0 ∧ 
                          ((¬ ((m8.1 42 0 (((nI 4) * p1) + p2).toNatClampNeg) - (m8.1 42 0 (((nI 4) * p1) + p2).toNatClampNeg) / (nI 2) * (nI 2)) = (nI 1) →
                            ((¬ (m8.1 44 0 (((nI 4) * p1) + p2).toNatClampNeg) = (nI 4) →
                              K 59 [some (vR 40 0), some (vI p1), some (vI p2), some (vI p3), some (vI p4), some (vI (((nI 4) * p1) + p2)), some (vI (nI 0)), some (vI (nI 0))] [] m8) ∧
                            ((m8.1 44 0 (((nI 4) * p1) + p2).toNatClampNeg) = (nI 4) →
                              Q (some (vI (-2 : Int32))) m8))) ∧
                          (((m8.1 42 0 (((nI 4) * p1) + p2).toNatClampNeg) - (m8.1 42 0 (((nI 4) * p1) + p2).toNatClampNeg) / (nI 2) * (nI 2)) = (nI 1) →
                            ((¬ (m8.1 44 0 (((nI 4) * p1) + p2).toNatClampNeg) = (nI 1) →
                              K 59 [some (vR 40 0), some (vI p1), some (vI p2), some (vI p3), some (vI p4), some (vI (((nI 4) * p1) + p2)), some (vI (nI 0)), some (vI (nI 0))] [] m8) ∧
                            ((m8.1 44 0 (((nI 4) * p1) + p2).toNatClampNeg) = (nI 1) →
                              Q (some (vI (-2 : Int32))) m8))))) ∧
                  ((m8.1 42 0 (((nI 4) * p1) + p2).toNatClampNeg) = (nI 3) →
                    ((p3 = p1 →
                      inb (((nI 4) * p1) + p2) 40 ∧ 
                        inb (((nI 4) * p1) + p2) 40 ∧ 
                          ¬ (nI 2) = 0 ∧ 
                            ((¬ ((m8.1 42 0 (((nI 4) * p1) + p2).toNatClampNeg) - (m8.1 42 0 (((nI 4) * p1) + p2).toNatClampNeg) / (nI 2) * (nI 2)) = (nI 1) →
                              ((¬ (m8.1 44 0 (((nI 4) * p1) + p2).toNatClampNeg) = (nI 4) →
                                K 59 [some (vR 40 0), some (vI p1), some (vI p2), some (vI p3), some (vI p4), some (vI (((nI 4) * p1) + p2)), some (vI (nI 0)), some (vI (nI 0))] [] m8) ∧
                              ((m8.1 44 0 (((nI 4) * p1) + p2).toNatClampNeg) = (nI 4) →
                                Q (some (vI (-2 : Int32))) m8))) ∧
                            (((m8.1 42 0 (((nI 4) * p1) + p2).toNatClampNeg) - (m8.1 42 0 (((nI 4) * p1) + p2).toNatClampNeg) / (nI 2) * (nI 2)) = (nI 1) →
                              ((¬ (m8.1 44 0 (((nI 4) * p1) + p2).toNatClampNeg) = (nI 1) →
                                K 59 [some (vR 40 0), some (vI p1), some (vI p2), some (vI p3), some (vI p4), some (vI (((nI 4) * p1) + p2)), some (vI (nI 0)), some (vI (nI 0))] [] m8) ∧
                              ((m8.1 44 0 (((nI 4) * p1) + p2).toNatClampNeg) = (nI 1) →
                                Q (some (vI (-2 : Int32))) m8))))) ∧
                    (¬ p3 = p1 →
                      Q (some (vI (-1 : Int32))) m8))))) ∧
              (w9 = 0 →
                Q (some (vI (-1 : Int32))) m8)))))))))) :
    wp2i xs C tX12_outcome [59] (some .int) Q K 2000 0 [some (vR 40 0), some (vI p1), some (vI p2), some (vI p3), some (vI p4), none, none, none] [] m := h
set_option maxRecDepth 100000 in
theorem bX12_outcome_59 {xs : Nat × (Nat → Int32)} {C : Nat → List v2 → Mem → (Option v2 → Mem → Prop) → Prop} {Q : Option v2 → Mem → Prop} {K : Nat → L2 → List v2 → Mem → Prop} (m : Mem) (x1 : Int32) (x2 : Int32) (x3 : Int32) (x4 : Int32) (x5 : Int32) (x6 : Int32) (x7 : Int32)
    (h : inb x5 40 ∧ 
      (((m.1 44 0 x5.toNatClampNeg) ≤ x7 →
        ((¬ x6 = 0 →
          Q (some (vI (-3 : Int32))) m) ∧
        (x6 = 0 →
          C 120 [vR 40 0, vI x5] m (fun r1 m2 => ∃ w3 : Int32, r1 = some (vI w3) ∧
            (((w3 + x4) ≤ (nI 12) →
              inb x5 40 ∧ 
                inb (((nI 4) * x5) + (m2.1 44 0 x5.toNatClampNeg)) 160 ∧ 
                  inb x5 40 ∧ 
                    inb (((nI 4) * x5) + ((mI m2 45 0 (((nI 4) * x5) + (m2.1 44 0 x5.toNatClampNeg)).toNatClampNeg x3).1 44 0 x5.toNatClampNeg)) 160 ∧ 
                      inb x5 40 ∧ 
                        inb x5 40 ∧ 
                          C 120 [vR 40 0, vI x5] (mI (mI (mI m2 45 0 (((nI 4) * x5) + (m2.1 44 0 x5.toNatClampNeg)).toNatClampNeg x3) 46 0 (((nI 4) * x5) + ((mI m2 45 0 (((nI 4) * x5) + (m2.1 44 0 x5.toNatClampNeg)).toNatClampNeg x3).1 44 0 x5.toNatClampNeg)).toNatClampNeg x4) 44 0 x5.toNatClampNeg (((mI (mI m2 45 0 (((nI 4) * x5) + (m2.1 44 0 x5.toNatClampNeg)).toNatClampNeg x3) 46 0 (((nI 4) * x5) + ((mI m2 45 0 (((nI 4) * x5) + (m2.1 44 0 x5.toNatClampNeg)).toNatClampNeg x3).1 44 0 x5.toNatClampNeg)).toNatClampNeg x4).1 44 0 x5.toNatClampNeg) + (nI 1))) (fun r4 m5 => ∃ w6 : Int32, r4 = some (vI w6) ∧
                            Q (some (vI w6)) m5)) ∧
            (¬ (w3 + x4) ≤ (nI 12) →
              Q (some (vI (-3 : Int32))) m2)))))) ∧
      (¬ (m.1 44 0 x5.toNatClampNeg) ≤ x7 →
        ((¬ x6 = 0 →
          K 59 [some (vR 40 0), some (vI x1), some (vI x2), some (vI x3), some (vI x4), some (vI x5), some (vI (nI 1)), some (vI (x7 + (nI 1)))] [] m) ∧
        (x6 = 0 →
          inb (((nI 4) * x5) + x7) 160 ∧ 
            ((¬ (m.1 45 0 (((nI 4) * x5) + x7).toNatClampNeg) = x3 →
              K 59 [some (vR 40 0), some (vI x1), some (vI x2), some (vI x3), some (vI x4), some (vI x5), some (vI (nI 0)), some (vI (x7 + (nI 1)))] [] m) ∧
            ((m.1 45 0 (((nI 4) * x5) + x7).toNatClampNeg) = x3 →
              K 59 [some (vR 40 0), some (vI x1), some (vI x2), some (vI x3), some (vI x4), some (vI x5), some (vI (nI 1)), some (vI (x7 + (nI 1)))] [] m))))))) :
    wp2i xs C tX12_outcome [59] (some .int) Q K 2000 59 [some (vR 40 0), some (vI x1), some (vI x2), some (vI x3), some (vI x4), some (vI x5), some (vI x6), some (vI x7)] [] m := h
set_option maxRecDepth 100000 in
theorem bX12_drop_0 {xs : Nat × (Nat → Int32)} {C : Nat → List v2 → Mem → (Option v2 → Mem → Prop) → Prop} {Q : Option v2 → Mem → Prop} {K : Nat → L2 → List v2 → Mem → Prop} (m : Mem) (p1 : Int32)
    (h : C 114 [vR 40 0, vI p1] (mI m 40 0 0 (nI 0)) (fun r1 m2 => ∃ w3 : Int32, r1 = some (vI w3) ∧
      ((¬ w3 = 0 →
        inb p1 10 ∧ 
          ((¬ (m2.1 41 0 p1.toNatClampNeg) = 0 →
            inb p1 10 ∧ 
              inb p1 10 ∧ 
                inb p1 10 ∧ 
                  Q (some (vI ((mI m2 41 0 p1.toNatClampNeg ((m2.1 41 0 p1.toNatClampNeg) - (nI 1))).1 41 0 p1.toNatClampNeg))) (mI m2 41 0 p1.toNatClampNeg ((m2.1 41 0 p1.toNatClampNeg) - (nI 1)))) ∧
          ((m2.1 41 0 p1.toNatClampNeg) = 0 →
            Q (some (vI (-2 : Int32))) m2))) ∧
      (w3 = 0 →
        Q (some (vI (-1 : Int32))) m2)))) :
    wp2i xs C tX12_drop [] (some .int) Q K 2000 0 [some (vR 40 0), some (vI p1)] [] m := h
set_option maxRecDepth 100000 in
theorem bX12_mark_0 {xs : Nat × (Nat → Int32)} {C : Nat → List v2 → Mem → (Option v2 → Mem → Prop) → Prop} {Q : Option v2 → Mem → Prop} {K : Nat → L2 → List v2 → Mem → Prop} (m : Mem) (p1 : Int32)
    (h : ((p1 < 0 →
      Q (some (vI (-1 : Int32))) (mI m 40 0 0 (nI 0))) ∧
    (¬ p1 < 0 →
      ((p1 < ((nI 1) <<< (((mI m 40 0 0 (nI 0)).1 40 0 1) &&& 31)) →
        K 20 [some (vR 40 0), some (vI p1), some (vI (nI 0)), some (vI (nI 0))] [] (mI (mI m 40 0 0 (nI 0)) 40 0 2 p1)) ∧
      (¬ p1 < ((nI 1) <<< (((mI m 40 0 0 (nI 0)).1 40 0 1) &&& 31)) →
        Q (some (vI (-1 : Int32))) (mI m 40 0 0 (nI 0))))))) :
    wp2i xs C tX12_mark [20] (some .int) Q K 2000 0 [some (vR 40 0), some (vI p1), none, none] [] m := h
set_option maxRecDepth 100000 in
theorem bX12_mark_20 {xs : Nat × (Nat → Int32)} {C : Nat → List v2 → Mem → (Option v2 → Mem → Prop) → Prop} {Q : Option v2 → Mem → Prop} {K : Nat → L2 → List v2 → Mem → Prop} (m : Mem) (x1 : Int32) (x2 : Int32) (x3 : Int32)
    (h : (((m.1 40 0 1) ≤ x3 →
      Q (some (vI x2)) m) ∧
    (¬ (m.1 40 0 1) ≤ x3 →
      K 20 [some (vR 40 0), some (vI x1), some (vI (x2 + ((x1 >>> (x3 &&& 31)) &&& (nI 1)))), some (vI (x3 + (nI 1)))] [] m))) :
    wp2i xs C tX12_mark [20] (some .int) Q K 2000 20 [some (vR 40 0), some (vI x1), some (vI x2), some (vI x3)] [] m := h
set_option maxRecDepth 100000 in
theorem bX12_lacking_0 {xs : Nat × (Nat → Int32)} {C : Nat → List v2 → Mem → (Option v2 → Mem → Prop) → Prop} {Q : Option v2 → Mem → Prop} {K : Nat → L2 → List v2 → Mem → Prop} (m : Mem) 
    (h : K 4 [some (vR 40 0), some (vI (nI 0)), some (vI (nI 0)), none] [] m) :
    wp2i xs C tX12_lacking [4, 10] (some .int) Q K 2000 0 [some (vR 40 0), none, none, none] [] m := h
set_option maxRecDepth 100000 in
theorem bX12_lacking_4 {xs : Nat × (Nat → Int32)} {C : Nat → List v2 → Mem → (Option v2 → Mem → Prop) → Prop} {Q : Option v2 → Mem → Prop} {K : Nat → L2 → List v2 → Mem → Prop} (m : Mem) (x1 : Int32) (x2 : Int32) (o3 : Option v2)
    (h : (((m.1 40 0 1) ≤ x2 →
      Q (some (vI x1)) m) ∧
    (¬ (m.1 40 0 1) ≤ x2 →
      K 10 [some (vR 40 0), some (vI x1), some (vI x2), some (vI (nI 0))] [] m))) :
    wp2i xs C tX12_lacking [4, 10] (some .int) Q K 2000 4 [some (vR 40 0), some (vI x1), some (vI x2), o3] [] m := h
set_option maxRecDepth 100000 in
theorem bX12_lacking_10 {xs : Nat × (Nat → Int32)} {C : Nat → List v2 → Mem → (Option v2 → Mem → Prop) → Prop} {Q : Option v2 → Mem → Prop} {K : Nat → L2 → List v2 → Mem → Prop} (m : Mem) (x1 : Int32) (x2 : Int32) (x3 : Int32)
    (h : inb x2 10 ∧ 
      (((m.1 41 0 x2.toNatClampNeg) ≤ x3 →
        K 4 [some (vR 40 0), some (vI x1), some (vI (x2 + (nI 1))), some (vI x3)] [] m) ∧
      (¬ (m.1 41 0 x2.toNatClampNeg) ≤ x3 →
        C 120 [vR 40 0, vI (((nI 4) * x2) + x3)] m (fun r1 m2 => ∃ w3 : Int32, r1 = some (vI w3) ∧
          K 10 [some (vR 40 0), some (vI (x1 + ((nI 12) - w3))), some (vI x2), some (vI (x3 + (nI 1)))] [] m2)))) :
    wp2i xs C tX12_lacking [4, 10] (some .int) Q K 2000 10 [some (vR 40 0), some (vI x1), some (vI x2), some (vI x3)] [] m := h
set_option maxRecDepth 100000 in
theorem bX12_whole_0 {xs : Nat × (Nat → Int32)} {C : Nat → List v2 → Mem → (Option v2 → Mem → Prop) → Prop} {Q : Option v2 → Mem → Prop} {K : Nat → L2 → List v2 → Mem → Prop} (m : Mem) 
    (h : C 124 [vR 40 0] (mI m 40 0 0 (nI 0)) (fun r1 m2 => ∃ w3 : Int32, r1 = some (vI w3) ∧
      Q (some (vI w3)) m2)) :
    wp2i xs C tX12_whole [] (some .int) Q K 2000 0 [some (vR 40 0)] [] m := h
set_option maxRecDepth 100000 in
theorem bX12_allIn_0 {xs : Nat × (Nat → Int32)} {C : Nat → List v2 → Mem → (Option v2 → Mem → Prop) → Prop} {Q : Option v2 → Mem → Prop} {K : Nat → L2 → List v2 → Mem → Prop} (m : Mem) (p1 : Int32) (p2 : Int32)
    (h : K 4 [some (vR 40 0), some (vI p1), some (vI p2), some (vI (nI 1)), some (vI (nI 0))] [] m) :
    wp2i xs C tX12_allIn [4] (some .boolean) Q K 2000 0 [some (vR 40 0), some (vI p1), some (vI p2), none, none] [] m := h
set_option maxRecDepth 100000 in
theorem bX12_allIn_4 {xs : Nat × (Nat → Int32)} {C : Nat → List v2 → Mem → (Option v2 → Mem → Prop) → Prop} {Q : Option v2 → Mem → Prop} {K : Nat → L2 → List v2 → Mem → Prop} (m : Mem) (x1 : Int32) (x2 : Int32) (x3 : Int32) (x4 : Int32)
    (h : inb x1 40 ∧ 
      (((m.1 44 0 x1.toNatClampNeg) ≤ x4 →
        isB x3 ∧ Q (some (vI x3)) m) ∧
      (¬ (m.1 44 0 x1.toNatClampNeg) ≤ x4 →
        ((x3 = 0 →
          K 4 [some (vR 40 0), some (vI x1), some (vI x2), some (vI (nI 0)), some (vI (x4 + (nI 1)))] [] m) ∧
        (¬ x3 = 0 →
          inb (((nI 4) * x1) + x4) 160 ∧ 
            ((¬ ((x2 >>> ((m.1 45 0 (((nI 4) * x1) + x4).toNatClampNeg) &&& 31)) &&& (nI 1)) = (nI 1) →
              K 4 [some (vR 40 0), some (vI x1), some (vI x2), some (vI (nI 0)), some (vI (x4 + (nI 1)))] [] m) ∧
            (((x2 >>> ((m.1 45 0 (((nI 4) * x1) + x4).toNatClampNeg) &&& 31)) &&& (nI 1)) = (nI 1) →
              K 4 [some (vR 40 0), some (vI x1), some (vI x2), some (vI (nI 1)), some (vI (x4 + (nI 1)))] [] m))))))) :
    wp2i xs C tX12_allIn [4] (some .boolean) Q K 2000 4 [some (vR 40 0), some (vI x1), some (vI x2), some (vI x3), some (vI x4)] [] m := h
set_option maxRecDepth 100000 in
theorem bX12_someIn_0 {xs : Nat × (Nat → Int32)} {C : Nat → List v2 → Mem → (Option v2 → Mem → Prop) → Prop} {Q : Option v2 → Mem → Prop} {K : Nat → L2 → List v2 → Mem → Prop} (m : Mem) (p1 : Int32) (p2 : Int32)
    (h : K 4 [some (vR 40 0), some (vI p1), some (vI p2), some (vI (nI 0)), some (vI (nI 0))] [] m) :
    wp2i xs C tX12_someIn [4] (some .boolean) Q K 2000 0 [some (vR 40 0), some (vI p1), some (vI p2), none, none] [] m := h
set_option maxRecDepth 100000 in
theorem bX12_someIn_4 {xs : Nat × (Nat → Int32)} {C : Nat → List v2 → Mem → (Option v2 → Mem → Prop) → Prop} {Q : Option v2 → Mem → Prop} {K : Nat → L2 → List v2 → Mem → Prop} (m : Mem) (x1 : Int32) (x2 : Int32) (x3 : Int32) (x4 : Int32)
    (h : inb x1 40 ∧ 
      (((m.1 44 0 x1.toNatClampNeg) ≤ x4 →
        isB x3 ∧ Q (some (vI x3)) m) ∧
      (¬ (m.1 44 0 x1.toNatClampNeg) ≤ x4 →
        ((¬ x3 = 0 →
          K 4 [some (vR 40 0), some (vI x1), some (vI x2), some (vI (nI 1)), some (vI (x4 + (nI 1)))] [] m) ∧
        (x3 = 0 →
          inb (((nI 4) * x1) + x4) 160 ∧ 
            ((¬ ((x2 >>> ((m.1 45 0 (((nI 4) * x1) + x4).toNatClampNeg) &&& 31)) &&& (nI 1)) = (nI 1) →
              K 4 [some (vR 40 0), some (vI x1), some (vI x2), some (vI (nI 0)), some (vI (x4 + (nI 1)))] [] m) ∧
            (((x2 >>> ((m.1 45 0 (((nI 4) * x1) + x4).toNatClampNeg) &&& 31)) &&& (nI 1)) = (nI 1) →
              K 4 [some (vR 40 0), some (vI x1), some (vI x2), some (vI (nI 1)), some (vI (x4 + (nI 1)))] [] m))))))) :
    wp2i xs C tX12_someIn [4] (some .boolean) Q K 2000 4 [some (vR 40 0), some (vI x1), some (vI x2), some (vI x3), some (vI x4)] [] m := h
set_option maxRecDepth 100000 in
theorem bX12_wants_0 {xs : Nat × (Nat → Int32)} {C : Nat → List v2 → Mem → (Option v2 → Mem → Prop) → Prop} {Q : Option v2 → Mem → Prop} {K : Nat → L2 → List v2 → Mem → Prop} (m : Mem) (p1 : Int32) (p2 : Int32)
    (h : C 117 [vR 40 0, vI p1] m (fun r1 m2 => ∃ w3 : Int32, r1 = some (vI w3) ∧
      ((¬ w3 = p2 →
        isB (nI 0) ∧ Q (some (vI (nI 0))) m2) ∧
      (w3 = p2 →
        isB (nI 1) ∧ Q (some (vI (nI 1))) m2)))) :
    wp2i xs C tX12_wants [] (some .boolean) Q K 2000 0 [some (vR 40 0), some (vI p1), some (vI p2)] [] m := h
set_option maxRecDepth 100000 in
theorem bX12_leads_0 {xs : Nat × (Nat → Int32)} {C : Nat → List v2 → Mem → (Option v2 → Mem → Prop) → Prop} {Q : Option v2 → Mem → Prop} {K : Nat → L2 → List v2 → Mem → Prop} (m : Mem) (p1 : Int32) (p2 : Int32) (p3 : Int32) (p4 : Int32)
    (h : inb p1 10 ∧ 
      (((m.1 41 0 p1.toNatClampNeg) ≤ 0 →
        K 13 [some (vR 40 0), some (vI p1), some (vI p2), some (vI p3), some (vI p4), some (vI (nI 0)), some (vI (nI 0)), some (vI (nI 0)), none] [] m) ∧
      (¬ (m.1 41 0 p1.toNatClampNeg) ≤ 0 →
        K 13 [some (vR 40 0), some (vI p1), some (vI p2), some (vI p3), some (vI p4), some (vI (nI 0)), some (vI (nI 1)), some (vI (nI 0)), none] [] m))) :
    wp2i xs C tX12_leads [13] (some .boolean) Q K 2000 0 [some (vR 40 0), some (vI p1), some (vI p2), some (vI p3), some (vI p4), none, none, none, none] [] m := h
set_option maxRecDepth 100000 in
theorem bX12_leads_13 {xs : Nat × (Nat → Int32)} {C : Nat → List v2 → Mem → (Option v2 → Mem → Prop) → Prop} {Q : Option v2 → Mem → Prop} {K : Nat → L2 → List v2 → Mem → Prop} (m : Mem) (x1 : Int32) (x2 : Int32) (x3 : Int32) (x4 : Int32) (x5 : Int32) (x6 : Int32) (x7 : Int32) (o8 : Option v2)
    (h : inb x1 10 ∧ 
      (((m.1 41 0 x1.toNatClampNeg) ≤ x7 →
        C 128 [vR 40 0, vI x1, vI x4] m (fun r1 m2 => ∃ w3 : Int32, r1 = some (vI w3) ∧
          ((w3 = 0 →
            isB x6 ∧ Q (some (vI x6)) m2) ∧
          (¬ w3 = 0 →
            isB x5 ∧ Q (some (vI x5)) m2)))) ∧
      (¬ (m.1 41 0 x1.toNatClampNeg) ≤ x7 →
        C 126 [vR 40 0, vI (((nI 4) * x1) + x7), vI x2] m (fun r4 m5 => ∃ w6 : Int32, r4 = some (vI w6) ∧
          ((w6 = 0 →
            ((¬ x5 = 0 →
              ((x6 = 0 →
                K 13 [some (vR 40 0), some (vI x1), some (vI x2), some (vI x3), some (vI x4), some (vI (nI 1)), some (vI (nI 0)), some (vI (x7 + (nI 1))), some (vI (nI 0))] [] m5) ∧
              (¬ x6 = 0 →
                (((nI 0) = 0 →
                  K 13 [some (vR 40 0), some (vI x1), some (vI x2), some (vI x3), some (vI x4), some (vI (nI 1)), some (vI (nI 0)), some (vI (x7 + (nI 1))), some (vI (nI 0))] [] m5) ∧
                (¬ (nI 0) = 0 →
                  K 13 [some (vR 40 0), some (vI x1), some (vI x2), some (vI x3), some (vI x4), some (vI (nI 1)), some (vI (nI 1)), some (vI (x7 + (nI 1))), some (vI (nI 0))] [] m5))))) ∧
            (x5 = 0 →
              (((nI 0) = 0 →
                ((x6 = 0 →
                  K 13 [some (vR 40 0), some (vI x1), some (vI x2), some (vI x3), some (vI x4), some (vI (nI 0)), some (vI (nI 0)), some (vI (x7 + (nI 1))), some (vI (nI 0))] [] m5) ∧
                (¬ x6 = 0 →
                  (((nI 0) = 0 →
                    K 13 [some (vR 40 0), some (vI x1), some (vI x2), some (vI x3), some (vI x4), some (vI (nI 0)), some (vI (nI 0)), some (vI (x7 + (nI 1))), some (vI (nI 0))] [] m5) ∧
                  (¬ (nI 0) = 0 →
                    K 13 [some (vR 40 0), some (vI x1), some (vI x2), some (vI x3), some (vI x4), some (vI (nI 0)), some (vI (nI 1)), some (vI (x7 + (nI 1))), some (vI (nI 0))] [] m5))))) ∧
              (¬ (nI 0) = 0 →
                ((x6 = 0 →
                  K 13 [some (vR 40 0), some (vI x1), some (vI x2), some (vI x3), some (vI x4), some (vI (nI 1)), some (vI (nI 0)), some (vI (x7 + (nI 1))), some (vI (nI 0))] [] m5) ∧
                (¬ x6 = 0 →
                  (((nI 0) = 0 →
                    K 13 [some (vR 40 0), some (vI x1), some (vI x2), some (vI x3), some (vI x4), some (vI (nI 1)), some (vI (nI 0)), some (vI (x7 + (nI 1))), some (vI (nI 0))] [] m5) ∧
                  (¬ (nI 0) = 0 →
                    K 13 [some (vR 40 0), some (vI x1), some (vI x2), some (vI x3), some (vI x4), some (vI (nI 1)), some (vI (nI 1)), some (vI (x7 + (nI 1))), some (vI (nI 0))] [] m5))))))))) ∧
          (¬ w6 = 0 →
            C 127 [vR 40 0, vI (((nI 4) * x1) + x7), vI x3] m5 (fun r7 m8 => ∃ w9 : Int32, r7 = some (vI w9) ∧
              ((w9 = 0 →
                ((¬ x5 = 0 →
                  ((x6 = 0 →
                    K 13 [some (vR 40 0), some (vI x1), some (vI x2), some (vI x3), some (vI x4), some (vI (nI 1)), some (vI (nI 0)), some (vI (x7 + (nI 1))), some (vI (nI 0))] [] m8) ∧
                  (¬ x6 = 0 →
                    (((nI 0) = 0 →
                      K 13 [some (vR 40 0), some (vI x1), some (vI x2), some (vI x3), some (vI x4), some (vI (nI 1)), some (vI (nI 0)), some (vI (x7 + (nI 1))), some (vI (nI 0))] [] m8) ∧
                    (¬ (nI 0) = 0 →
                      K 13 [some (vR 40 0), some (vI x1), some (vI x2), some (vI x3), some (vI x4), some (vI (nI 1)), some (vI (nI 1)), some (vI (x7 + (nI 1))), some (vI (nI 0))] [] m8))))) ∧
                (x5 = 0 →
                  (((nI 0) = 0 →
                    ((x6 = 0 →
                      K 13 [some (vR 40 0), some (vI x1), some (vI x2), some (vI x3), some (vI x4), some (vI (nI 0)), some (vI (nI 0)), some (vI (x7 + (nI 1))), some (vI (nI 0))] [] m8) ∧
                    (¬ x6 = 0 →
                      (((nI 0) = 0 →
                        K 13 [some (vR 40 0), some (vI x1), some (vI x2), some (vI x3), some (vI x4), some (vI (nI 0)), some (vI (nI 0)), some (vI (x7 + (nI 1))), some (vI (nI 0))] [] m8) ∧
                      (¬ (nI 0) = 0 →
                        K 13 [some (vR 40 0), some (vI x1), some (vI x2), some (vI x3), some (vI x4), some (vI (nI 0)), some (vI (nI 1)), some (vI (x7 + (nI 1))), some (vI (nI 0))] [] m8))))) ∧
                  (¬ (nI 0) = 0 →
                    ((x6 = 0 →
                      K 13 [some (vR 40 0), some (vI x1), some (vI x2), some (vI x3), some (vI x4), some (vI (nI 1)), some (vI (nI 0)), some (vI (x7 + (nI 1))), some (vI (nI 0))] [] m8) ∧
                    (¬ x6 = 0 →
                      (((nI 0) = 0 →
                        K 13 [some (vR 40 0), some (vI x1), some (vI x2), some (vI x3), some (vI x4), some (vI (nI 1)), some (vI (nI 0)), some (vI (x7 + (nI 1))), some (vI (nI 0))] [] m8) ∧
                      (¬ (nI 0) = 0 →
                        K 13 [some (vR 40 0), some (vI x1), some (vI x2), some (vI x3), some (vI x4), some (vI (nI 1)), some (vI (nI 1)), some (vI (x7 + (nI 1))), some (vI (nI 0))] [] m8))))))))) ∧
              (¬ w9 = 0 →
                ((¬ x5 = 0 →
                  ((x6 = 0 →
                    K 13 [some (vR 40 0), some (vI x1), some (vI x2), some (vI x3), some (vI x4), some (vI (nI 1)), some (vI (nI 0)), some (vI (x7 + (nI 1))), some (vI (nI 1))] [] m8) ∧
                  (¬ x6 = 0 →
                    (((nI 1) = 0 →
                      K 13 [some (vR 40 0), some (vI x1), some (vI x2), some (vI x3), some (vI x4), some (vI (nI 1)), some (vI (nI 0)), some (vI (x7 + (nI 1))), some (vI (nI 1))] [] m8) ∧
                    (¬ (nI 1) = 0 →
                      K 13 [some (vR 40 0), some (vI x1), some (vI x2), some (vI x3), some (vI x4), some (vI (nI 1)), some (vI (nI 1)), some (vI (x7 + (nI 1))), some (vI (nI 1))] [] m8))))) ∧
                (x5 = 0 →
                  (((nI 1) = 0 →
                    ((x6 = 0 →
                      K 13 [some (vR 40 0), some (vI x1), some (vI x2), some (vI x3), some (vI x4), some (vI (nI 0)), some (vI (nI 0)), some (vI (x7 + (nI 1))), some (vI (nI 1))] [] m8) ∧
                    (¬ x6 = 0 →
                      (((nI 1) = 0 →
                        K 13 [some (vR 40 0), some (vI x1), some (vI x2), some (vI x3), some (vI x4), some (vI (nI 0)), some (vI (nI 0)), some (vI (x7 + (nI 1))), some (vI (nI 1))] [] m8) ∧
                      (¬ (nI 1) = 0 →
                        K 13 [some (vR 40 0), some (vI x1), some (vI x2), some (vI x3), some (vI x4), some (vI (nI 0)), some (vI (nI 1)), some (vI (x7 + (nI 1))), some (vI (nI 1))] [] m8))))) ∧
                  (¬ (nI 1) = 0 →
                    ((x6 = 0 →
                      K 13 [some (vR 40 0), some (vI x1), some (vI x2), some (vI x3), some (vI x4), some (vI (nI 1)), some (vI (nI 0)), some (vI (x7 + (nI 1))), some (vI (nI 1))] [] m8) ∧
                    (¬ x6 = 0 →
                      (((nI 1) = 0 →
                        K 13 [some (vR 40 0), some (vI x1), some (vI x2), some (vI x3), some (vI x4), some (vI (nI 1)), some (vI (nI 0)), some (vI (x7 + (nI 1))), some (vI (nI 1))] [] m8) ∧
                      (¬ (nI 1) = 0 →
                        K 13 [some (vR 40 0), some (vI x1), some (vI x2), some (vI x3), some (vI x4), some (vI (nI 1)), some (vI (nI 1)), some (vI (x7 + (nI 1))), some (vI (nI 1))] [] m8))))))))))))))))) :
    wp2i xs C tX12_leads [13] (some .boolean) Q K 2000 13 [some (vR 40 0), some (vI x1), some (vI x2), some (vI x3), some (vI x4), some (vI x5), some (vI x6), some (vI x7), o8] [] m := h
set_option maxRecDepth 100000 in
theorem bX12_comes_0 {xs : Nat × (Nat → Int32)} {C : Nat → List v2 → Mem → (Option v2 → Mem → Prop) → Prop} {Q : Option v2 → Mem → Prop} {K : Nat → L2 → List v2 → Mem → Prop} (m : Mem) (p1 : Int32) (p2 : Int32)
    (h : K 7 [some (vR 40 0), some (vI p1), some (vI p2), some (vI ((m.1 40 0 2) &&& p1)), some (vI (nI 1)), none, none] [] m) :
    wp2i xs C tX12_comes [7, 13] (some .int) Q K 2000 0 [some (vR 40 0), some (vI p1), some (vI p2), none, none, none, none] [] m := h
set_option maxRecDepth 100000 in
theorem bX12_comes_7 {xs : Nat × (Nat → Int32)} {C : Nat → List v2 → Mem → (Option v2 → Mem → Prop) → Prop} {Q : Option v2 → Mem → Prop} {K : Nat → L2 → List v2 → Mem → Prop} (m : Mem) (x1 : Int32) (x2 : Int32) (x3 : Int32) (x4 : Int32) (o5 : Option v2) (o6 : Option v2)
    (h : ((x4 = 0 →
      Q (some (vI x3)) m) ∧
    (¬ x4 = 0 →
      K 13 [some (vR 40 0), some (vI x1), some (vI x2), some (vI x3), some (vI x4), some (vI x3), some (vI (nI 0))] [] m))) :
    wp2i xs C tX12_comes [7, 13] (some .int) Q K 2000 7 [some (vR 40 0), some (vI x1), some (vI x2), some (vI x3), some (vI x4), o5, o6] [] m := h
set_option maxRecDepth 100000 in
theorem bX12_comes_13 {xs : Nat × (Nat → Int32)} {C : Nat → List v2 → Mem → (Option v2 → Mem → Prop) → Prop} {Q : Option v2 → Mem → Prop} {K : Nat → L2 → List v2 → Mem → Prop} (m : Mem) (x1 : Int32) (x2 : Int32) (x3 : Int32) (x4 : Int32) (x5 : Int32) (x6 : Int32)
    (h : (((m.1 40 0 1) ≤ x6 →
      ((x3 = x5 →
        K 7 [some (vR 40 0), some (vI x1), some (vI x2), some (vI x3), some (vI (nI 0)), some (vI x5), some (vI x6)] [] m) ∧
      (¬ x3 = x5 →
        K 7 [some (vR 40 0), some (vI x1), some (vI x2), some (vI x3), some (vI (nI 1)), some (vI x5), some (vI x6)] [] m))) ∧
    (¬ (m.1 40 0 1) ≤ x6 →
      ((¬ ((x1 >>> (x6 &&& 31)) &&& (nI 1)) = (nI 1) →
        K 13 [some (vR 40 0), some (vI x1), some (vI x2), some (vI x3), some (vI x4), some (vI x5), some (vI (x6 + (nI 1)))] [] m) ∧
      (((x1 >>> (x6 &&& 31)) &&& (nI 1)) = (nI 1) →
        C 129 [vR 40 0, vI x6, vI x1, vI x3, vI x2] m (fun r1 m2 => ∃ w3 : Int32, r1 = some (vI w3) ∧
          ((w3 = 0 →
            K 13 [some (vR 40 0), some (vI x1), some (vI x2), some (vI x3), some (vI x4), some (vI x5), some (vI (x6 + (nI 1)))] [] m2) ∧
          (¬ w3 = 0 →
            K 13 [some (vR 40 0), some (vI x1), some (vI x2), some (vI (x3 ||| ((nI 1) <<< (x6 &&& 31)))), some (vI x4), some (vI x5), some (vI (x6 + (nI 1)))] [] m2)))))))) :
    wp2i xs C tX12_comes [7, 13] (some .int) Q K 2000 13 [some (vR 40 0), some (vI x1), some (vI x2), some (vI x3), some (vI x4), some (vI x5), some (vI x6)] [] m := h
set_option maxRecDepth 100000 in
theorem bX12_all_0 {xs : Nat × (Nat → Int32)} {C : Nat → List v2 → Mem → (Option v2 → Mem → Prop) → Prop} {Q : Option v2 → Mem → Prop} {K : Nat → L2 → List v2 → Mem → Prop} (m : Mem) 
    (h : Q (some (vI (((nI 1) <<< ((m.1 40 0 1) &&& 31)) - (nI 1)))) m) :
    wp2i xs C tX12_all [] (some .int) Q K 2000 0 [some (vR 40 0)] [] m := h
set_option maxRecDepth 100000 in
theorem bX12_above_0 {xs : Nat × (Nat → Int32)} {C : Nat → List v2 → Mem → (Option v2 → Mem → Prop) → Prop} {Q : Option v2 → Mem → Prop} {K : Nat → L2 → List v2 → Mem → Prop} (m : Mem) (p1 : Int32)
    (h : C 131 [vR 40 0] m (fun r1 m2 => ∃ w3 : Int32, r1 = some (vI w3) ∧
      C 130 [vR 40 0, vI w3, vI p1] m2 (fun r4 m5 => ∃ w6 : Int32, r4 = some (vI w6) ∧
        Q (some (vI w6)) m5))) :
    wp2i xs C tX12_above [] (some .int) Q K 2000 0 [some (vR 40 0), some (vI p1)] [] m := h
set_option maxRecDepth 100000 in
theorem bX12_ones_0 {xs : Nat × (Nat → Int32)} {C : Nat → List v2 → Mem → (Option v2 → Mem → Prop) → Prop} {Q : Option v2 → Mem → Prop} {K : Nat → L2 → List v2 → Mem → Prop} (m : Mem) (p1 : Int32)
    (h : C 131 [vR 40 0] m (fun r1 m2 => ∃ w3 : Int32, r1 = some (vI w3) ∧
      K 5 [some (vR 40 0), some (vI p1), some (vI w3), some (vI (nI 1)), none] [] m2)) :
    wp2i xs C tX12_ones [5] (some .int) Q K 2000 0 [some (vR 40 0), some (vI p1), none, none, none] [] m := h
set_option maxRecDepth 100000 in
theorem bX12_ones_5 {xs : Nat × (Nat → Int32)} {C : Nat → List v2 → Mem → (Option v2 → Mem → Prop) → Prop} {Q : Option v2 → Mem → Prop} {K : Nat → L2 → List v2 → Mem → Prop} (m : Mem) (x1 : Int32) (x2 : Int32) (x3 : Int32) (o4 : Option v2)
    (h : ((x3 = 0 →
      Q (some (vI x2)) m) ∧
    (¬ x3 = 0 →
      C 130 [vR 40 0, vI (x2 ||| (m.1 40 0 2)), vI x1] m (fun r1 m2 => ∃ w3 : Int32, r1 = some (vI w3) ∧
        ((w3 = x2 →
          K 5 [some (vR 40 0), some (vI x1), some (vI w3), some (vI (nI 0)), some (vI w3)] [] m2) ∧
        (¬ w3 = x2 →
          K 5 [some (vR 40 0), some (vI x1), some (vI w3), some (vI (nI 1)), some (vI w3)] [] m2)))))) :
    wp2i xs C tX12_ones [5] (some .int) Q K 2000 5 [some (vR 40 0), some (vI x1), some (vI x2), some (vI x3), o4] [] m := h
set_option maxRecDepth 100000 in
theorem bX12_gcd_0 {xs : Nat × (Nat → Int32)} {C : Nat → List v2 → Mem → (Option v2 → Mem → Prop) → Prop} {Q : Option v2 → Mem → Prop} {K : Nat → L2 → List v2 → Mem → Prop} (m : Mem) (p1 : Int64) (p2 : Int64)
    (h : ((0 ≤ (lg_cmp p1 (lN 0)) →
      K 11 [some (vR 40 0), some (vL p1), none, some (vL p2), none, some (vL p1), none, some (vL p2), none, none, none] [] m) ∧
    (¬ 0 ≤ (lg_cmp p1 (lN 0)) →
      K 11 [some (vR 40 0), some (vL p1), none, some (vL p2), none, some (vL (-p1)), none, some (vL p2), none, none, none] [] m))) :
    wp2i xs C tX12_gcd [11] (some .long) Q K 2000 0 [some (vR 40 0), some (vL p1), none, some (vL p2), none, none, none, none, none, none, none] [] m := h
set_option maxRecDepth 100000 in
theorem bX12_gcd_11 {xs : Nat × (Nat → Int32)} {C : Nat → List v2 → Mem → (Option v2 → Mem → Prop) → Prop} {Q : Option v2 → Mem → Prop} {K : Nat → L2 → List v2 → Mem → Prop} (m : Mem) (x1 : Int64) (x3 : Int64) (x5 : Int64) (x7 : Int64) (o9 : Option v2)
    (h : (((lg_cmp x7 (lN 0)) = 0 →
      Q (some (vL x5)) m) ∧
    (¬ (lg_cmp x7 (lN 0)) = 0 →
      ¬ x7 = 0 ∧ 
        K 11 [some (vR 40 0), some (vL x1), none, some (vL x3), none, some (vL x7), none, some (vL (x5 - x5 / x7 * x7)), none, some (vL (x5 - x5 / x7 * x7)), none] [] m))) :
    wp2i xs C tX12_gcd [11] (some .long) Q K 2000 11 [some (vR 40 0), some (vL x1), none, some (vL x3), none, some (vL x5), none, some (vL x7), none, o9, none] [] m := h
set_option maxRecDepth 100000 in
theorem bX12_determinant_0 {xs : Nat × (Nat → Int32)} {C : Nat → List v2 → Mem → (Option v2 → Mem → Prop) → Prop} {Q : Option v2 → Mem → Prop} {K : Nat → L2 → List v2 → Mem → Prop} (m : Mem) (p1 : Int32)
    (h : K 6 [some (vR 40 0), some (vI p1), some (vL (lN 1)), none, some (vL (lN 1)), none, some (vI (nI 0)), none, none, none, none] [] m) :
    wp2i xs C tX12_determinant [6, 11, 34, 88, 95] (some .long) Q K 2000 0 [some (vR 40 0), some (vI p1), none, none, none, none, none, none, none, none, none] [] m := h
set_option maxRecDepth 100000 in
theorem bX12_determinant_6 {xs : Nat × (Nat → Int32)} {C : Nat → List v2 → Mem → (Option v2 → Mem → Prop) → Prop} {Q : Option v2 → Mem → Prop} {K : Nat → L2 → List v2 → Mem → Prop} (m : Mem) (x1 : Int32) (x2 : Int64) (x4 : Int64) (x6 : Int32) (o7 : Option v2) (o8 : Option v2) (o9 : Option v2)
    (h : ((x1 ≤ x6 →
      Q (some (vL (x2 * x4))) m) ∧
    (¬ x1 ≤ x6 →
      K 11 [some (vR 40 0), some (vI x1), some (vL x2), none, some (vL x4), none, some (vI x6), some (vI x6), o8, o9, none] [] m))) :
    wp2i xs C tX12_determinant [6, 11, 34, 88, 95] (some .long) Q K 2000 6 [some (vR 40 0), some (vI x1), some (vL x2), none, some (vL x4), none, some (vI x6), o7, o8, o9, none] [] m := h
set_option maxRecDepth 100000 in
theorem bX12_determinant_11 {xs : Nat × (Nat → Int32)} {C : Nat → List v2 → Mem → (Option v2 → Mem → Prop) → Prop} {Q : Option v2 → Mem → Prop} {K : Nat → L2 → List v2 → Mem → Prop} (m : Mem) (x1 : Int32) (x2 : Int64) (x4 : Int64) (x6 : Int32) (x7 : Int32) (o8 : Option v2) (o9 : Option v2)
    (h : ((x1 ≤ x7 →
      ((¬ x7 = x1 →
        K 34 [some (vR 40 0), some (vI x1), some (vL x2), none, some (vL x4), none, some (vI x6), some (vI x7), some (vI (nI 0)), o9, none] [] m) ∧
      (x7 = x1 →
        Q (some (vL (lN 0))) m))) ∧
    (¬ x1 ≤ x7 →
      inb (((nI 6) * x7) + x6) 36 ∧ 
        ((¬ (lg_cmp (m.2 47 0 (((nI 6) * x7) + x6).toNatClampNeg) (lN 0)) = 0 →
          ((¬ x7 = x1 →
            K 34 [some (vR 40 0), some (vI x1), some (vL x2), none, some (vL x4), none, some (vI x6), some (vI x7), some (vI (nI 0)), o9, none] [] m) ∧
          (x7 = x1 →
            Q (some (vL (lN 0))) m))) ∧
        ((lg_cmp (m.2 47 0 (((nI 6) * x7) + x6).toNatClampNeg) (lN 0)) = 0 →
          K 11 [some (vR 40 0), some (vI x1), some (vL x2), none, some (vL x4), none, some (vI x6), some (vI (x7 + (nI 1))), o8, o9, none] [] m))))) :
    wp2i xs C tX12_determinant [6, 11, 34, 88, 95] (some .long) Q K 2000 11 [some (vR 40 0), some (vI x1), some (vL x2), none, some (vL x4), none, some (vI x6), some (vI x7), o8, o9, none] [] m := h
set_option maxRecDepth 100000 in
theorem bX12_determinant_34 {xs : Nat × (Nat → Int32)} {C : Nat → List v2 → Mem → (Option v2 → Mem → Prop) → Prop} {Q : Option v2 → Mem → Prop} {K : Nat → L2 → List v2 → Mem → Prop} (m : Mem) (x1 : Int32) (x2 : Int64) (x4 : Int64) (x6 : Int32) (x7 : Int32) (x8 : Int32) (o9 : Option v2)
    (h : ((x1 ≤ x8 →
      ((¬ x7 = x6 →
        K 88 [some (vR 40 0), some (vI x1), some (vL (-x2)), none, some (vL x4), none, some (vI x6), some (vI x7), some (vI (x6 + (nI 1))), o9, none] [] m) ∧
      (x7 = x6 →
        K 88 [some (vR 40 0), some (vI x1), some (vL x2), none, some (vL x4), none, some (vI x6), some (vI x7), some (vI (x6 + (nI 1))), o9, none] [] m))) ∧
    (¬ x1 ≤ x8 →
      ((x7 = x6 →
        ((¬ x7 = x6 →
          K 88 [some (vR 40 0), some (vI x1), some (vL (-x2)), none, some (vL x4), none, some (vI x6), some (vI x7), some (vI (x6 + (nI 1))), o9, none] [] m) ∧
        (x7 = x6 →
          K 88 [some (vR 40 0), some (vI x1), some (vL x2), none, some (vL x4), none, some (vI x6), some (vI x7), some (vI (x6 + (nI 1))), o9, none] [] m))) ∧
      (¬ x7 = x6 →
        inb (((nI 6) * x7) + x8) 36 ∧ 
          inb (((nI 6) * x6) + x8) 36 ∧ 
            inb (((nI 6) * x7) + x8) 36 ∧ 
              inb (((nI 6) * x6) + x8) 36 ∧ 
                K 34 [some (vR 40 0), some (vI x1), some (vL x2), none, some (vL x4), none, some (vI x6), some (vI x7), some (vI (x8 + (nI 1))), some (vL (m.2 47 0 (((nI 6) * x7) + x8).toNatClampNeg)), none] [] (mL (mL m 47 0 (((nI 6) * x7) + x8).toNatClampNeg (m.2 47 0 (((nI 6) * x6) + x8).toNatClampNeg)) 47 0 (((nI 6) * x6) + x8).toNatClampNeg (m.2 47 0 (((nI 6) * x7) + x8).toNatClampNeg))))))) :
    wp2i xs C tX12_determinant [6, 11, 34, 88, 95] (some .long) Q K 2000 34 [some (vR 40 0), some (vI x1), some (vL x2), none, some (vL x4), none, some (vI x6), some (vI x7), some (vI x8), o9, none] [] m := h
set_option maxRecDepth 100000 in
theorem bX12_determinant_88 {xs : Nat × (Nat → Int32)} {C : Nat → List v2 → Mem → (Option v2 → Mem → Prop) → Prop} {Q : Option v2 → Mem → Prop} {K : Nat → L2 → List v2 → Mem → Prop} (m : Mem) (x1 : Int32) (x2 : Int64) (x4 : Int64) (x6 : Int32) (x7 : Int32) (x8 : Int32) (o9 : Option v2)
    (h : ((x1 ≤ x8 →
      inb (((nI 6) * x6) + x6) 36 ∧ 
        K 6 [some (vR 40 0), some (vI x1), some (vL x2), none, some (vL (m.2 47 0 (((nI 6) * x6) + x6).toNatClampNeg)), none, some (vI (x6 + (nI 1))), some (vI x7), some (vI x8), o9, none] [] m) ∧
    (¬ x1 ≤ x8 →
      K 95 [some (vR 40 0), some (vI x1), some (vL x2), none, some (vL x4), none, some (vI x6), some (vI x7), some (vI x8), some (vI (x6 + (nI 1))), none] [] m))) :
    wp2i xs C tX12_determinant [6, 11, 34, 88, 95] (some .long) Q K 2000 88 [some (vR 40 0), some (vI x1), some (vL x2), none, some (vL x4), none, some (vI x6), some (vI x7), some (vI x8), o9, none] [] m := h
set_option maxRecDepth 100000 in
theorem bX12_determinant_95 {xs : Nat × (Nat → Int32)} {C : Nat → List v2 → Mem → (Option v2 → Mem → Prop) → Prop} {Q : Option v2 → Mem → Prop} {K : Nat → L2 → List v2 → Mem → Prop} (m : Mem) (x1 : Int32) (x2 : Int64) (x4 : Int64) (x6 : Int32) (x7 : Int32) (x8 : Int32) (x9 : Int32)
    (h : ((x1 ≤ x9 →
      K 88 [some (vR 40 0), some (vI x1), some (vL x2), none, some (vL x4), none, some (vI x6), some (vI x7), some (vI (x8 + (nI 1))), some (vI x9), none] [] m) ∧
    (¬ x1 ≤ x9 →
      inb (((nI 6) * x8) + x9) 36 ∧ 
        inb (((nI 6) * x6) + x6) 36 ∧ 
          inb (((nI 6) * x8) + x6) 36 ∧ 
            inb (((nI 6) * x6) + x9) 36 ∧ 
              ¬ x4 = 0 ∧ 
                inb (((nI 6) * x8) + x9) 36 ∧ 
                  K 95 [some (vR 40 0), some (vI x1), some (vL x2), none, some (vL x4), none, some (vI x6), some (vI x7), some (vI x8), some (vI (x9 + (nI 1))), none] [] (mL m 47 0 (((nI 6) * x8) + x9).toNatClampNeg ((((m.2 47 0 (((nI 6) * x8) + x9).toNatClampNeg) * (m.2 47 0 (((nI 6) * x6) + x6).toNatClampNeg)) - ((m.2 47 0 (((nI 6) * x8) + x6).toNatClampNeg) * (m.2 47 0 (((nI 6) * x6) + x9).toNatClampNeg))) / x4))))) :
    wp2i xs C tX12_determinant [6, 11, 34, 88, 95] (some .long) Q K 2000 95 [some (vR 40 0), some (vI x1), some (vL x2), none, some (vL x4), none, some (vI x6), some (vI x7), some (vI x8), some (vI x9), none] [] m := h
set_option maxRecDepth 100000 in
theorem bX12_placeOf_0 {xs : Nat × (Nat → Int32)} {C : Nat → List v2 → Mem → (Option v2 → Mem → Prop) → Prop} {Q : Option v2 → Mem → Prop} {K : Nat → L2 → List v2 → Mem → Prop} (m : Mem) (p1 : Int32)
    (h : K 4 [some (vR 40 0), some (vI p1), some (vI (-1 : Int32)), some (vI (nI 0))] [] m) :
    wp2i xs C tX12_placeOf [4] (some .int) Q K 2000 0 [some (vR 40 0), some (vI p1), none, none] [] m := h
set_option maxRecDepth 100000 in
theorem bX12_placeOf_4 {xs : Nat × (Nat → Int32)} {C : Nat → List v2 → Mem → (Option v2 → Mem → Prop) → Prop} {Q : Option v2 → Mem → Prop} {K : Nat → L2 → List v2 → Mem → Prop} (m : Mem) (x1 : Int32) (x2 : Int32) (x3 : Int32)
    (h : (((m.1 40 0 12) ≤ x3 →
      Q (some (vI x2)) m) ∧
    (¬ (m.1 40 0 12) ≤ x3 →
      inb x3 10 ∧ 
        ((¬ (m.1 49 0 x3.toNatClampNeg) = x1 →
          K 4 [some (vR 40 0), some (vI x1), some (vI x2), some (vI (x3 + (nI 1)))] [] m) ∧
        ((m.1 49 0 x3.toNatClampNeg) = x1 →
          K 4 [some (vR 40 0), some (vI x1), some (vI x3), some (vI (x3 + (nI 1)))] [] m))))) :
    wp2i xs C tX12_placeOf [4] (some .int) Q K 2000 4 [some (vR 40 0), some (vI x1), some (vI x2), some (vI x3)] [] m := h
set_option maxRecDepth 100000 in
theorem bX12_solve_0 {xs : Nat × (Nat → Int32)} {C : Nat → List v2 → Mem → (Option v2 → Mem → Prop) → Prop} {Q : Option v2 → Mem → Prop} {K : Nat → L2 → List v2 → Mem → Prop} (m : Mem) 
    (h : K 2 [some (vR 40 0), some (vI (nI 0)), none, none, none] [] m) :
    wp2i xs C tX12_solve [2, 8, 13, 19] none Q K 2000 0 [some (vR 40 0), none, none, none, none] [] m := h
set_option maxRecDepth 100000 in
theorem bX12_solve_2 {xs : Nat × (Nat → Int32)} {C : Nat → List v2 → Mem → (Option v2 → Mem → Prop) → Prop} {Q : Option v2 → Mem → Prop} {K : Nat → L2 → List v2 → Mem → Prop} (m : Mem) (x1 : Int32) (o2 : Option v2) (o3 : Option v2)
    (h : (((m.1 40 0 12) ≤ x1 →
      Q none m) ∧
    (¬ (m.1 40 0 12) ≤ x1 →
      K 8 [some (vR 40 0), some (vI x1), some (vI (-1 : Int32)), o3, none] [] m))) :
    wp2i xs C tX12_solve [2, 8, 13, 19] none Q K 2000 2 [some (vR 40 0), some (vI x1), o2, o3, none] [] m := h
set_option maxRecDepth 100000 in
theorem bX12_solve_8 {xs : Nat × (Nat → Int32)} {C : Nat → List v2 → Mem → (Option v2 → Mem → Prop) → Prop} {Q : Option v2 → Mem → Prop} {K : Nat → L2 → List v2 → Mem → Prop} (m : Mem) (x1 : Int32) (x2 : Int32) (o3 : Option v2)
    (h : ((x1 < x2 →
      inb x1 10 ∧ 
        inb (m.1 49 0 x1.toNatClampNeg) 10 ∧ 
          inb (m.1 49 0 x1.toNatClampNeg) 10 ∧ 
            C 134 [vR 40 0, vL (m.2 52 0 (m.1 49 0 x1.toNatClampNeg).toNatClampNeg), vL (m.2 53 0 (m.1 49 0 x1.toNatClampNeg).toNatClampNeg)] m (fun r1 m2 => ∃ w3 : Int64, r1 = some (vL w3) ∧
              inb (m.1 49 0 x1.toNatClampNeg) 10 ∧ 
                ((0 ≤ (lg_cmp (m2.2 53 0 (m.1 49 0 x1.toNatClampNeg).toNatClampNeg) (lN 0)) →
                  inb (m.1 49 0 x1.toNatClampNeg) 10 ∧ 
                    ¬ w3 = 0 ∧ 
                      inb (m.1 49 0 x1.toNatClampNeg) 10 ∧ 
                        inb (m.1 49 0 x1.toNatClampNeg) 10 ∧ 
                          ¬ w3 = 0 ∧ 
                            inb (m.1 49 0 x1.toNatClampNeg) 10 ∧ 
                              K 2 [some (vR 40 0), some (vI (x1 + (nI 1))), some (vI (m.1 49 0 x1.toNatClampNeg)), some (vL w3), none] [] (mL (mL m2 52 0 (m.1 49 0 x1.toNatClampNeg).toNatClampNeg ((m2.2 52 0 (m.1 49 0 x1.toNatClampNeg).toNatClampNeg) / w3)) 53 0 (m.1 49 0 x1.toNatClampNeg).toNatClampNeg (((mL m2 52 0 (m.1 49 0 x1.toNatClampNeg).toNatClampNeg ((m2.2 52 0 (m.1 49 0 x1.toNatClampNeg).toNatClampNeg) / w3)).2 53 0 (m.1 49 0 x1.toNatClampNeg).toNatClampNeg) / w3))) ∧
                (¬ 0 ≤ (lg_cmp (m2.2 53 0 (m.1 49 0 x1.toNatClampNeg).toNatClampNeg) (lN 0)) →
                  inb (m.1 49 0 x1.toNatClampNeg) 10 ∧ 
                    ¬ (-w3) = 0 ∧ 
                      inb (m.1 49 0 x1.toNatClampNeg) 10 ∧ 
                        inb (m.1 49 0 x1.toNatClampNeg) 10 ∧ 
                          ¬ (-w3) = 0 ∧ 
                            inb (m.1 49 0 x1.toNatClampNeg) 10 ∧ 
                              K 2 [some (vR 40 0), some (vI (x1 + (nI 1))), some (vI (m.1 49 0 x1.toNatClampNeg)), some (vL (-w3)), none] [] (mL (mL m2 52 0 (m.1 49 0 x1.toNatClampNeg).toNatClampNeg ((m2.2 52 0 (m.1 49 0 x1.toNatClampNeg).toNatClampNeg) / (-w3))) 53 0 (m.1 49 0 x1.toNatClampNeg).toNatClampNeg (((mL m2 52 0 (m.1 49 0 x1.toNatClampNeg).toNatClampNeg ((m2.2 52 0 (m.1 49 0 x1.toNatClampNeg).toNatClampNeg) / (-w3))).2 53 0 (m.1 49 0 x1.toNatClampNeg).toNatClampNeg) / (-w3))))))) ∧
    (¬ x1 < x2 →
      K 13 [some (vR 40 0), some (vI x1), some (vI x2), some (vI (nI 0)), none] [] m))) :
    wp2i xs C tX12_solve [2, 8, 13, 19] none Q K 2000 8 [some (vR 40 0), some (vI x1), some (vI x2), o3, none] [] m := h
set_option maxRecDepth 100000 in
theorem bX12_solve_13 {xs : Nat × (Nat → Int32)} {C : Nat → List v2 → Mem → (Option v2 → Mem → Prop) → Prop} {Q : Option v2 → Mem → Prop} {K : Nat → L2 → List v2 → Mem → Prop} (m : Mem) (x1 : Int32) (x2 : Int32) (x3 : Int32) (o4 : Option v2)
    (h : (((m.1 40 0 12) ≤ x3 →
      C 135 [vR 40 0, vI (m.1 40 0 12)] m (fun r1 m2 => ∃ w3 : Int64, r1 = some (vL w3) ∧
        ((0 ≤ x2 →
          inb x1 10 ∧ 
            inb (m2.1 49 0 x1.toNatClampNeg) 10 ∧ 
              ((x1 ≤ x2 →
                K 8 [some (vR 40 0), some (vI x1), some (vI (x1 + (nI 1))), some (vL w3), none] [] (mL m2 52 0 (m2.1 49 0 x1.toNatClampNeg).toNatClampNeg w3)) ∧
              (¬ x1 ≤ x2 →
                K 8 [some (vR 40 0), some (vI x1), some (vI x1), some (vL w3), none] [] (mL m2 52 0 (m2.1 49 0 x1.toNatClampNeg).toNatClampNeg w3)))) ∧
        (¬ 0 ≤ x2 →
          inb x1 10 ∧ 
            inb (m2.1 49 0 x1.toNatClampNeg) 10 ∧ 
              ((x1 ≤ x2 →
                K 8 [some (vR 40 0), some (vI x1), some (vI (x1 + (nI 1))), some (vL w3), none] [] (mL m2 53 0 (m2.1 49 0 x1.toNatClampNeg).toNatClampNeg w3)) ∧
              (¬ x1 ≤ x2 →
                K 8 [some (vR 40 0), some (vI x1), some (vI x1), some (vL w3), none] [] (mL m2 53 0 (m2.1 49 0 x1.toNatClampNeg).toNatClampNeg w3))))))) ∧
    (¬ (m.1 40 0 12) ≤ x3 →
      K 19 [some (vR 40 0), some (vI x1), some (vI x2), some (vI x3), some (vI (nI 0))] [] m))) :
    wp2i xs C tX12_solve [2, 8, 13, 19] none Q K 2000 13 [some (vR 40 0), some (vI x1), some (vI x2), some (vI x3), o4] [] m := h
set_option maxRecDepth 100000 in
theorem bX12_solve_19 {xs : Nat × (Nat → Int32)} {C : Nat → List v2 → Mem → (Option v2 → Mem → Prop) → Prop} {Q : Option v2 → Mem → Prop} {K : Nat → L2 → List v2 → Mem → Prop} (m : Mem) (x1 : Int32) (x2 : Int32) (x3 : Int32) (x4 : Int32)
    (h : (((m.1 40 0 12) ≤ x4 →
      K 13 [some (vR 40 0), some (vI x1), some (vI x2), some (vI (x3 + (nI 1))), some (vI x4)] [] m) ∧
    (¬ (m.1 40 0 12) ≤ x4 →
      ((¬ x4 = x2 →
        inb (((nI 5) * x3) + x4) 30 ∧ 
          inb (((nI 6) * x3) + x4) 36 ∧ 
            K 19 [some (vR 40 0), some (vI x1), some (vI x2), some (vI x3), some (vI (x4 + (nI 1)))] [] (mL m 47 0 (((nI 6) * x3) + x4).toNatClampNeg (m.2 50 0 (((nI 5) * x3) + x4).toNatClampNeg))) ∧
      (x4 = x2 →
        inb x3 6 ∧ 
          inb (((nI 6) * x3) + x4) 36 ∧ 
            K 19 [some (vR 40 0), some (vI x1), some (vI x2), some (vI x3), some (vI (x4 + (nI 1)))] [] (mL m 47 0 (((nI 6) * x3) + x4).toNatClampNeg (m.2 51 0 x3.toNatClampNeg))))))) :
    wp2i xs C tX12_solve [2, 8, 13, 19] none Q K 2000 19 [some (vR 40 0), some (vI x1), some (vI x2), some (vI x3), some (vI x4)] [] m := h
set_option maxRecDepth 100000 in
theorem bX12_layRow_0 {xs : Nat × (Nat → Int32)} {C : Nat → List v2 → Mem → (Option v2 → Mem → Prop) → Prop} {Q : Option v2 → Mem → Prop} {K : Nat → L2 → List v2 → Mem → Prop} (m : Mem) (p1 : Int32) (p2 : Int32)
    (h : inb p2 10 ∧ 
      K 11 [some (vR 40 0), some (vI p1), some (vI p2), some (vI (((nI 4) * p2) + (m.1 48 0 p2.toNatClampNeg))), some (vI (nI 0)), none] [] m) :
    wp2i xs C tX12_layRow [11, 33] none Q K 2000 0 [some (vR 40 0), some (vI p1), some (vI p2), none, none, none] [] m := h
set_option maxRecDepth 100000 in
theorem bX12_layRow_11 {xs : Nat × (Nat → Int32)} {C : Nat → List v2 → Mem → (Option v2 → Mem → Prop) → Prop} {Q : Option v2 → Mem → Prop} {K : Nat → L2 → List v2 → Mem → Prop} (m : Mem) (x1 : Int32) (x2 : Int32) (x3 : Int32) (x4 : Int32)
    (h : (((m.1 40 0 12) ≤ x4 →
      K 33 [some (vR 40 0), some (vI x1), some (vI x2), some (vI x3), some (vI (nI 0)), none] [] m) ∧
    (¬ (m.1 40 0 12) ≤ x4 →
      ((¬ x1 = x4 →
        inb (((nI 5) * x1) + x4) 30 ∧ 
          K 11 [some (vR 40 0), some (vI x1), some (vI x2), some (vI x3), some (vI (x4 + (nI 1))), none] [] (mL m 50 0 (((nI 5) * x1) + x4).toNatClampNeg (lN 0))) ∧
      (x1 = x4 →
        inb (((nI 5) * x1) + x4) 30 ∧ 
          K 11 [some (vR 40 0), some (vI x1), some (vI x2), some (vI x3), some (vI (x4 + (nI 1))), none] [] (mL m 50 0 (((nI 5) * x1) + x4).toNatClampNeg (lN 12))))))) :
    wp2i xs C tX12_layRow [11, 33] none Q K 2000 11 [some (vR 40 0), some (vI x1), some (vI x2), some (vI x3), some (vI x4), none] [] m := h
set_option maxRecDepth 100000 in
theorem bX12_layRow_33 {xs : Nat × (Nat → Int32)} {C : Nat → List v2 → Mem → (Option v2 → Mem → Prop) → Prop} {Q : Option v2 → Mem → Prop} {K : Nat → L2 → List v2 → Mem → Prop} (m : Mem) (x1 : Int32) (x2 : Int32) (x3 : Int32) (x4 : Int32) (o5 : Option v2)
    (h : inb x3 40 ∧ 
      (((m.1 44 0 x3.toNatClampNeg) ≤ x4 →
        Q none m) ∧
      (¬ (m.1 44 0 x3.toNatClampNeg) ≤ x4 →
        inb (((nI 4) * x3) + x4) 160 ∧ 
          C 136 [vR 40 0, vI (m.1 45 0 (((nI 4) * x3) + x4).toNatClampNeg)] m (fun r1 m2 => ∃ w3 : Int32, r1 = some (vI w3) ∧
            ((w3 < 0 →
              K 33 [some (vR 40 0), some (vI x1), some (vI x2), some (vI x3), some (vI (x4 + (nI 1))), some (vI w3)] [] m2) ∧
            (¬ w3 < 0 →
              inb (((nI 5) * x1) + w3) 30 ∧ 
                inb (((nI 4) * x3) + x4) 160 ∧ 
                  inb (((nI 5) * x1) + w3) 30 ∧ 
                    K 33 [some (vR 40 0), some (vI x1), some (vI x2), some (vI x3), some (vI (x4 + (nI 1))), some (vI w3)] [] (mL m2 50 0 (((nI 5) * x1) + w3).toNatClampNeg ((m2.2 50 0 (((nI 5) * x1) + w3).toNatClampNeg) - (m2.1 46 0 (((nI 4) * x3) + x4).toNatClampNeg).toInt64)))))))) :
    wp2i xs C tX12_layRow [11, 33] none Q K 2000 33 [some (vR 40 0), some (vI x1), some (vI x2), some (vI x3), some (vI x4), o5] [] m := h
set_option maxRecDepth 100000 in
theorem bX12_comesChosen_0 {xs : Nat × (Nat → Int32)} {C : Nat → List v2 → Mem → (Option v2 → Mem → Prop) → Prop} {Q : Option v2 → Mem → Prop} {K : Nat → L2 → List v2 → Mem → Prop} (m : Mem) (p1 : Int32) (p2 : Int32)
    (h : K 4 [some (vR 40 0), some (vI p1), some (vI p2), some (vI p2), some (vI (nI 1)), none, none] [] m) :
    wp2i xs C tX12_comesChosen [4, 10] (some .int) Q K 2000 0 [some (vR 40 0), some (vI p1), some (vI p2), none, none, none, none] [] m := h
set_option maxRecDepth 100000 in
theorem bX12_comesChosen_4 {xs : Nat × (Nat → Int32)} {C : Nat → List v2 → Mem → (Option v2 → Mem → Prop) → Prop} {Q : Option v2 → Mem → Prop} {K : Nat → L2 → List v2 → Mem → Prop} (m : Mem) (x1 : Int32) (x2 : Int32) (x3 : Int32) (x4 : Int32) (o5 : Option v2) (o6 : Option v2)
    (h : ((x4 = 0 →
      Q (some (vI (x3 &&& x1))) m) ∧
    (¬ x4 = 0 →
      K 10 [some (vR 40 0), some (vI x1), some (vI x2), some (vI x3), some (vI x4), some (vI x3), some (vI (nI 0))] [] m))) :
    wp2i xs C tX12_comesChosen [4, 10] (some .int) Q K 2000 4 [some (vR 40 0), some (vI x1), some (vI x2), some (vI x3), some (vI x4), o5, o6] [] m := h
set_option maxRecDepth 100000 in
theorem bX12_comesChosen_10 {xs : Nat × (Nat → Int32)} {C : Nat → List v2 → Mem → (Option v2 → Mem → Prop) → Prop} {Q : Option v2 → Mem → Prop} {K : Nat → L2 → List v2 → Mem → Prop} (m : Mem) (x1 : Int32) (x2 : Int32) (x3 : Int32) (x4 : Int32) (x5 : Int32) (x6 : Int32)
    (h : (((m.1 40 0 1) ≤ x6 →
      ((x3 = x5 →
        K 4 [some (vR 40 0), some (vI x1), some (vI x2), some (vI x3), some (vI (nI 0)), some (vI x5), some (vI x6)] [] m) ∧
      (¬ x3 = x5 →
        K 4 [some (vR 40 0), some (vI x1), some (vI x2), some (vI x3), some (vI (nI 1)), some (vI x5), some (vI x6)] [] m))) ∧
    (¬ (m.1 40 0 1) ≤ x6 →
      ((¬ ((x1 >>> (x6 &&& 31)) &&& (nI 1)) = (nI 1) →
        K 10 [some (vR 40 0), some (vI x1), some (vI x2), some (vI x3), some (vI x4), some (vI x5), some (vI (x6 + (nI 1)))] [] m) ∧
      (((x1 >>> (x6 &&& 31)) &&& (nI 1)) = (nI 1) →
        inb x6 10 ∧ 
          C 127 [vR 40 0, vI (((nI 4) * x6) + (m.1 48 0 x6.toNatClampNeg)), vI x3] m (fun r1 m2 => ∃ w3 : Int32, r1 = some (vI w3) ∧
            ((w3 = 0 →
              K 10 [some (vR 40 0), some (vI x1), some (vI x2), some (vI x3), some (vI x4), some (vI x5), some (vI (x6 + (nI 1)))] [] m2) ∧
            (¬ w3 = 0 →
              K 10 [some (vR 40 0), some (vI x1), some (vI x2), some (vI (x3 ||| ((nI 1) <<< (x6 &&& 31)))), some (vI x4), some (vI x5), some (vI (x6 + (nI 1)))] [] m2)))))))) :
    wp2i xs C tX12_comesChosen [4, 10] (some .int) Q K 2000 10 [some (vR 40 0), some (vI x1), some (vI x2), some (vI x3), some (vI x4), some (vI x5), some (vI x6)] [] m := h
set_option maxRecDepth 100000 in
theorem bX12_chances_0 {xs : Nat × (Nat → Int32)} {C : Nat → List v2 → Mem → (Option v2 → Mem → Prop) → Prop} {Q : Option v2 → Mem → Prop} {K : Nat → L2 → List v2 → Mem → Prop} (m : Mem) (p1 : Int32) (p2 : Int32)
    (h : C 139 [vR 40 0, vI p1, vI p2] m (fun r1 m2 => ∃ w3 : Int32, r1 = some (vI w3) ∧
      K 10 [some (vR 40 0), some (vI p1), some (vI p2), some (vI w3), some (vI (nI 0)), none, none, none] [] (mI m2 40 0 12 (nI 0)))) :
    wp2i xs C tX12_chances [10, 52, 81] none Q K 2000 0 [some (vR 40 0), some (vI p1), some (vI p2), none, none, none, none, none] [] m := h
set_option maxRecDepth 100000 in
theorem bX12_chances_10 {xs : Nat × (Nat → Int32)} {C : Nat → List v2 → Mem → (Option v2 → Mem → Prop) → Prop} {Q : Option v2 → Mem → Prop} {K : Nat → L2 → List v2 → Mem → Prop} (m : Mem) (x1 : Int32) (x2 : Int32) (x3 : Int32) (x4 : Int32)
    (h : (((m.1 40 0 1) ≤ x4 →
      K 52 [some (vR 40 0), some (vI x1), some (vI x2), some (vI x3), some (vI (nI 0)), none, none, none] [] m) ∧
    (¬ (m.1 40 0 1) ≤ x4 →
      inb x4 10 ∧ 
        inb x4 10 ∧ 
          ((¬ ((x3 >>> (x4 &&& 31)) &&& (nI 1)) = (nI 1) →
            K 10 [some (vR 40 0), some (vI x1), some (vI x2), some (vI x3), some (vI (x4 + (nI 1))), none, none, none] [] (mL (mL m 52 0 x4.toNatClampNeg ((x2 >>> (x4 &&& 31)) &&& (nI 1)).toInt64) 53 0 x4.toNatClampNeg (lN 1))) ∧
          (((x3 >>> (x4 &&& 31)) &&& (nI 1)) = (nI 1) →
            inb ((mL (mL m 52 0 x4.toNatClampNeg ((x2 >>> (x4 &&& 31)) &&& (nI 1)).toInt64) 53 0 x4.toNatClampNeg (lN 1)).1 40 0 12) 10 ∧ 
              K 10 [some (vR 40 0), some (vI x1), some (vI x2), some (vI x3), some (vI (x4 + (nI 1))), none, none, none] [] (mI (mI (mL (mL m 52 0 x4.toNatClampNeg ((x2 >>> (x4 &&& 31)) &&& (nI 1)).toInt64) 53 0 x4.toNatClampNeg (lN 1)) 49 0 ((mL (mL m 52 0 x4.toNatClampNeg ((x2 >>> (x4 &&& 31)) &&& (nI 1)).toInt64) 53 0 x4.toNatClampNeg (lN 1)).1 40 0 12).toNatClampNeg x4) 40 0 12 (((mI (mL (mL m 52 0 x4.toNatClampNeg ((x2 >>> (x4 &&& 31)) &&& (nI 1)).toInt64) 53 0 x4.toNatClampNeg (lN 1)) 49 0 ((mL (mL m 52 0 x4.toNatClampNeg ((x2 >>> (x4 &&& 31)) &&& (nI 1)).toInt64) 53 0 x4.toNatClampNeg (lN 1)).1 40 0 12).toNatClampNeg x4).1 40 0 12) + (nI 1)))))))) :
    wp2i xs C tX12_chances [10, 52, 81] none Q K 2000 10 [some (vR 40 0), some (vI x1), some (vI x2), some (vI x3), some (vI x4), none, none, none] [] m := h
set_option maxRecDepth 100000 in
theorem bX12_chances_52 {xs : Nat × (Nat → Int32)} {C : Nat → List v2 → Mem → (Option v2 → Mem → Prop) → Prop} {Q : Option v2 → Mem → Prop} {K : Nat → L2 → List v2 → Mem → Prop} (m : Mem) (x1 : Int32) (x2 : Int32) (x3 : Int32) (x4 : Int32) (o5 : Option v2) (o6 : Option v2) (o7 : Option v2)
    (h : (((m.1 40 0 12) ≤ x4 →
      C 137 [vR 40 0] m (fun r1 m2 => r1 = none ∧
        Q none m2)) ∧
    (¬ (m.1 40 0 12) ≤ x4 →
      inb x4 10 ∧ 
        inb (m.1 49 0 x4.toNatClampNeg) 10 ∧ 
          C 138 [vR 40 0, vI x4, vI (m.1 49 0 x4.toNatClampNeg)] m (fun r3 m4 => r3 = none ∧
            inb x4 6 ∧ 
              K 81 [some (vR 40 0), some (vI x1), some (vI x2), some (vI x3), some (vI x4), some (vI (m.1 49 0 x4.toNatClampNeg)), some (vI (((nI 4) * (m.1 49 0 x4.toNatClampNeg)) + (m.1 48 0 (m.1 49 0 x4.toNatClampNeg).toNatClampNeg))), some (vI (nI 0))] [] (mL m4 51 0 x4.toNatClampNeg (lN 0)))))) :
    wp2i xs C tX12_chances [10, 52, 81] none Q K 2000 52 [some (vR 40 0), some (vI x1), some (vI x2), some (vI x3), some (vI x4), o5, o6, o7] [] m := h
set_option maxRecDepth 100000 in
theorem bX12_chances_81 {xs : Nat × (Nat → Int32)} {C : Nat → List v2 → Mem → (Option v2 → Mem → Prop) → Prop} {Q : Option v2 → Mem → Prop} {K : Nat → L2 → List v2 → Mem → Prop} (m : Mem) (x1 : Int32) (x2 : Int32) (x3 : Int32) (x4 : Int32) (x5 : Int32) (x6 : Int32) (x7 : Int32)
    (h : inb x6 40 ∧ 
      (((m.1 44 0 x6.toNatClampNeg) ≤ x7 →
        K 52 [some (vR 40 0), some (vI x1), some (vI x2), some (vI x3), some (vI (x4 + (nI 1))), some (vI x5), some (vI x6), some (vI x7)] [] m) ∧
      (¬ (m.1 44 0 x6.toNatClampNeg) ≤ x7 →
        inb x4 6 ∧ 
          inb (((nI 4) * x6) + x7) 160 ∧ 
            ((¬ ((x2 >>> ((m.1 45 0 (((nI 4) * x6) + x7).toNatClampNeg) &&& 31)) &&& (nI 1)) = (nI 1) →
              inb x4 6 ∧ 
                K 81 [some (vR 40 0), some (vI x1), some (vI x2), some (vI x3), some (vI x4), some (vI x5), some (vI x6), some (vI (x7 + (nI 1)))] [] (mL m 51 0 x4.toNatClampNeg ((m.2 51 0 x4.toNatClampNeg) + (lN 0)))) ∧
            (((x2 >>> ((m.1 45 0 (((nI 4) * x6) + x7).toNatClampNeg) &&& 31)) &&& (nI 1)) = (nI 1) →
              inb (((nI 4) * x6) + x7) 160 ∧ 
                inb x4 6 ∧ 
                  K 81 [some (vR 40 0), some (vI x1), some (vI x2), some (vI x3), some (vI x4), some (vI x5), some (vI x6), some (vI (x7 + (nI 1)))] [] (mL m 51 0 x4.toNatClampNeg ((m.2 51 0 x4.toNatClampNeg) + (m.1 46 0 (((nI 4) * x6) + x7).toNatClampNeg).toInt64))))))) :
    wp2i xs C tX12_chances [10, 52, 81] none Q K 2000 81 [some (vR 40 0), some (vI x1), some (vI x2), some (vI x3), some (vI x4), some (vI x5), some (vI x6), some (vI x7)] [] m := h
set_option maxRecDepth 100000 in
theorem bX12_isBelow_0 {xs : Nat × (Nat → Int32)} {C : Nat → List v2 → Mem → (Option v2 → Mem → Prop) → Prop} {Q : Option v2 → Mem → Prop} {K : Nat → L2 → List v2 → Mem → Prop} (m : Mem) (p0 : Int64) (p1 : Int64) (p2 : Int64) (p3 : Int64)
    (h : ((0 ≤ (lg_cmp (p0 * p3) (p2 * p1)) →
      isB (nI 0) ∧ Q (some (vI (nI 0))) m) ∧
    (¬ 0 ≤ (lg_cmp (p0 * p3) (p2 * p1)) →
      isB (nI 1) ∧ Q (some (vI (nI 1))) m))) :
    wp2i xs C tX12_isBelow [] (some .boolean) Q K 2000 0 [some (vL p0), none, some (vL p1), none, some (vL p2), none, some (vL p3), none] [] m := h
set_option maxRecDepth 100000 in
theorem bX12_nextChoice_0 {xs : Nat × (Nat → Int32)} {C : Nat → List v2 → Mem → (Option v2 → Mem → Prop) → Prop} {Q : Option v2 → Mem → Prop} {K : Nat → L2 → List v2 → Mem → Prop} (m : Mem) (p1 : Int32) (p2 : Int32)
    (h : K 2 [some (vR 40 0), some (vI p1), some (vI p2), some (vI (nI 0))] [] m) :
    wp2i xs C tX12_nextChoice [2] (some .boolean) Q K 2000 0 [some (vR 40 0), some (vI p1), some (vI p2), none] [] m := h
set_option maxRecDepth 100000 in
theorem bX12_nextChoice_2 {xs : Nat × (Nat → Int32)} {C : Nat → List v2 → Mem → (Option v2 → Mem → Prop) → Prop} {Q : Option v2 → Mem → Prop} {K : Nat → L2 → List v2 → Mem → Prop} (m : Mem) (x1 : Int32) (x2 : Int32) (x3 : Int32)
    (h : (((m.1 40 0 1) ≤ x3 →
      isB (nI 0) ∧ Q (some (vI (nI 0))) m) ∧
    (¬ (m.1 40 0 1) ≤ x3 →
      ((¬ ((x1 >>> (x3 &&& 31)) &&& (nI 1)) = (nI 1) →
        K 2 [some (vR 40 0), some (vI x1), some (vI x2), some (vI (x3 + (nI 1)))] [] m) ∧
      (((x1 >>> (x3 &&& 31)) &&& (nI 1)) = (nI 1) →
        C 117 [vR 40 0, vI x3] m (fun r1 m2 => ∃ w3 : Int32, r1 = some (vI w3) ∧
          ((¬ w3 = x2 →
            K 2 [some (vR 40 0), some (vI x1), some (vI x2), some (vI (x3 + (nI 1)))] [] m2) ∧
          (w3 = x2 →
            inb x3 10 ∧ 
              inb x3 10 ∧ 
                inb x3 10 ∧ 
                  inb x3 10 ∧ 
                    ((((mI m2 48 0 x3.toNatClampNeg ((m2.1 48 0 x3.toNatClampNeg) + (nI 1))).1 41 0 x3.toNatClampNeg) ≤ ((mI m2 48 0 x3.toNatClampNeg ((m2.1 48 0 x3.toNatClampNeg) + (nI 1))).1 48 0 x3.toNatClampNeg) →
                      inb x3 10 ∧ 
                        K 2 [some (vR 40 0), some (vI x1), some (vI x2), some (vI (x3 + (nI 1)))] [] (mI (mI m2 48 0 x3.toNatClampNeg ((m2.1 48 0 x3.toNatClampNeg) + (nI 1))) 48 0 x3.toNatClampNeg (nI 0))) ∧
                    (¬ ((mI m2 48 0 x3.toNatClampNeg ((m2.1 48 0 x3.toNatClampNeg) + (nI 1))).1 41 0 x3.toNatClampNeg) ≤ ((mI m2 48 0 x3.toNatClampNeg ((m2.1 48 0 x3.toNatClampNeg) + (nI 1))).1 48 0 x3.toNatClampNeg) →
                      isB (nI 1) ∧ Q (some (vI (nI 1))) (mI m2 48 0 x3.toNatClampNeg ((m2.1 48 0 x3.toNatClampNeg) + (nI 1))))))))))))) :
    wp2i xs C tX12_nextChoice [2] (some .boolean) Q K 2000 2 [some (vR 40 0), some (vI x1), some (vI x2), some (vI x3)] [] m := h
set_option maxRecDepth 100000 in
theorem bX12_countBits_0 {xs : Nat × (Nat → Int32)} {C : Nat → List v2 → Mem → (Option v2 → Mem → Prop) → Prop} {Q : Option v2 → Mem → Prop} {K : Nat → L2 → List v2 → Mem → Prop} (m : Mem) (p1 : Int32)
    (h : K 4 [some (vR 40 0), some (vI p1), some (vI (nI 0)), some (vI (nI 0))] [] m) :
    wp2i xs C tX12_countBits [4] (some .int) Q K 2000 0 [some (vR 40 0), some (vI p1), none, none] [] m := h
set_option maxRecDepth 100000 in
theorem bX12_countBits_4 {xs : Nat × (Nat → Int32)} {C : Nat → List v2 → Mem → (Option v2 → Mem → Prop) → Prop} {Q : Option v2 → Mem → Prop} {K : Nat → L2 → List v2 → Mem → Prop} (m : Mem) (x1 : Int32) (x2 : Int32) (x3 : Int32)
    (h : (((nI 10) ≤ x3 →
      Q (some (vI x2)) m) ∧
    (¬ (nI 10) ≤ x3 →
      K 4 [some (vR 40 0), some (vI x1), some (vI (x2 + ((x1 >>> (x3 &&& 31)) &&& (nI 1)))), some (vI (x3 + (nI 1)))] [] m))) :
    wp2i xs C tX12_countBits [4] (some .int) Q K 2000 4 [some (vR 40 0), some (vI x1), some (vI x2), some (vI x3)] [] m := h
set_option maxRecDepth 100000 in
theorem bX12_worst_0 {xs : Nat × (Nat → Int32)} {C : Nat → List v2 → Mem → (Option v2 → Mem → Prop) → Prop} {Q : Option v2 → Mem → Prop} {K : Nat → L2 → List v2 → Mem → Prop} (m : Mem) (p1 : Int32) (p2 : Int32) (p3 : Int32)
    (h : K 4 [some (vR 40 0), some (vI p1), some (vI p2), some (vI p3), some (vI (nI 1)), some (vI (nI 1)), none, none] [] m) :
    wp2i xs C tX12_worst [4, 12] none Q K 2000 0 [some (vR 40 0), some (vI p1), some (vI p2), some (vI p3), none, none, none, none] [] m := h
set_option maxRecDepth 100000 in
theorem bX12_worst_4 {xs : Nat × (Nat → Int32)} {C : Nat → List v2 → Mem → (Option v2 → Mem → Prop) → Prop} {Q : Option v2 → Mem → Prop} {K : Nat → L2 → List v2 → Mem → Prop} (m : Mem) (x1 : Int32) (x2 : Int32) (x3 : Int32) (x4 : Int32) (x5 : Int32) (o6 : Option v2) (o7 : Option v2)
    (h : ((x5 = 0 →
      Q none m) ∧
    (¬ x5 = 0 →
      C 140 [vR 40 0, vI x1, vI x2] m (fun r1 m2 => r1 = none ∧
        K 12 [some (vR 40 0), some (vI x1), some (vI x2), some (vI x3), some (vI x4), some (vI x5), some (vI (nI 0)), o7] [] m2)))) :
    wp2i xs C tX12_worst [4, 12] none Q K 2000 4 [some (vR 40 0), some (vI x1), some (vI x2), some (vI x3), some (vI x4), some (vI x5), o6, o7] [] m := h
set_option maxRecDepth 100000 in
theorem bX12_worst_12 {xs : Nat × (Nat → Int32)} {C : Nat → List v2 → Mem → (Option v2 → Mem → Prop) → Prop} {Q : Option v2 → Mem → Prop} {K : Nat → L2 → List v2 → Mem → Prop} (m : Mem) (x1 : Int32) (x2 : Int32) (x3 : Int32) (x4 : Int32) (x5 : Int32) (x6 : Int32) (o7 : Option v2)
    (h : (((m.1 40 0 1) ≤ x6 →
      C 142 [vR 40 0, vI x1, vI (nI 1)] m (fun r1 m2 => ∃ w3 : Int32, r1 = some (vI w3) ∧
        K 4 [some (vR 40 0), some (vI x1), some (vI x2), some (vI x3), some (vI (nI 0)), some (vI w3), some (vI x6), o7] [] m2)) ∧
    (¬ (m.1 40 0 1) ≤ x6 →
      ((x3 = 0 →
        inb x6 10 ∧ 
          inb x6 10 ∧ 
            inb x6 10 ∧ 
              inb x6 10 ∧ 
                C 141 [vL (m.2 52 0 x6.toNatClampNeg), vL (m.2 53 0 x6.toNatClampNeg), vL (m.2 56 0 x6.toNatClampNeg), vL (m.2 57 0 x6.toNatClampNeg)] m (fun r4 m5 => ∃ w6 : Int32, r4 = some (vI w6) ∧
                  ((¬ x4 = 0 →
                    inb x6 10 ∧ 
                      inb x6 10 ∧ 
                        inb x6 10 ∧ 
                          inb x6 10 ∧ 
                            K 12 [some (vR 40 0), some (vI x1), some (vI x2), some (vI x3), some (vI x4), some (vI x5), some (vI (x6 + (nI 1))), some (vI w6)] [] (mL (mL m5 56 0 x6.toNatClampNeg (m5.2 52 0 x6.toNatClampNeg)) 57 0 x6.toNatClampNeg ((mL m5 56 0 x6.toNatClampNeg (m5.2 52 0 x6.toNatClampNeg)).2 53 0 x6.toNatClampNeg))) ∧
                  (x4 = 0 →
                    ((w6 = 0 →
                      K 12 [some (vR 40 0), some (vI x1), some (vI x2), some (vI x3), some (vI x4), some (vI x5), some (vI (x6 + (nI 1))), some (vI w6)] [] m5) ∧
                    (¬ w6 = 0 →
                      inb x6 10 ∧ 
                        inb x6 10 ∧ 
                          inb x6 10 ∧ 
                            inb x6 10 ∧ 
                              K 12 [some (vR 40 0), some (vI x1), some (vI x2), some (vI x3), some (vI x4), some (vI x5), some (vI (x6 + (nI 1))), some (vI w6)] [] (mL (mL m5 56 0 x6.toNatClampNeg (m5.2 52 0 x6.toNatClampNeg)) 57 0 x6.toNatClampNeg ((mL m5 56 0 x6.toNatClampNeg (m5.2 52 0 x6.toNatClampNeg)).2 53 0 x6.toNatClampNeg)))))))) ∧
      (¬ x3 = 0 →
        inb x6 10 ∧ 
          inb x6 10 ∧ 
            inb x6 10 ∧ 
              inb x6 10 ∧ 
                C 141 [vL (m.2 56 0 x6.toNatClampNeg), vL (m.2 57 0 x6.toNatClampNeg), vL (m.2 52 0 x6.toNatClampNeg), vL (m.2 53 0 x6.toNatClampNeg)] m (fun r7 m8 => ∃ w9 : Int32, r7 = some (vI w9) ∧
                  ((¬ x4 = 0 →
                    inb x6 10 ∧ 
                      inb x6 10 ∧ 
                        inb x6 10 ∧ 
                          inb x6 10 ∧ 
                            K 12 [some (vR 40 0), some (vI x1), some (vI x2), some (vI x3), some (vI x4), some (vI x5), some (vI (x6 + (nI 1))), some (vI w9)] [] (mL (mL m8 56 0 x6.toNatClampNeg (m8.2 52 0 x6.toNatClampNeg)) 57 0 x6.toNatClampNeg ((mL m8 56 0 x6.toNatClampNeg (m8.2 52 0 x6.toNatClampNeg)).2 53 0 x6.toNatClampNeg))) ∧
                  (x4 = 0 →
                    ((w9 = 0 →
                      K 12 [some (vR 40 0), some (vI x1), some (vI x2), some (vI x3), some (vI x4), some (vI x5), some (vI (x6 + (nI 1))), some (vI w9)] [] m8) ∧
                    (¬ w9 = 0 →
                      inb x6 10 ∧ 
                        inb x6 10 ∧ 
                          inb x6 10 ∧ 
                            inb x6 10 ∧ 
                              K 12 [some (vR 40 0), some (vI x1), some (vI x2), some (vI x3), some (vI x4), some (vI x5), some (vI (x6 + (nI 1))), some (vI w9)] [] (mL (mL m8 56 0 x6.toNatClampNeg (m8.2 52 0 x6.toNatClampNeg)) 57 0 x6.toNatClampNeg ((mL m8 56 0 x6.toNatClampNeg (m8.2 52 0 x6.toNatClampNeg)).2 53 0 x6.toNatClampNeg)))))))))))) :
    wp2i xs C tX12_worst [4, 12] none Q K 2000 12 [some (vR 40 0), some (vI x1), some (vI x2), some (vI x3), some (vI x4), some (vI x5), some (vI x6), o7] [] m := h
set_option maxRecDepth 100000 in
theorem bX12_findValues_0 {xs : Nat × (Nat → Int32)} {C : Nat → List v2 → Mem → (Option v2 → Mem → Prop) → Prop} {Q : Option v2 → Mem → Prop} {K : Nat → L2 → List v2 → Mem → Prop} (m : Mem) (p1 : Int32)
    (h : C 133 [vR 40 0, vI p1] m (fun r1 m2 => ∃ w3 : Int32, r1 = some (vI w3) ∧
      C 132 [vR 40 0, vI p1] m2 (fun r4 m5 => ∃ w6 : Int32, r4 = some (vI w6) ∧
        C 143 [vR 40 0, vI (w6 &&& (w3 ^^^ (-1 : Int32)))] m5 (fun r7 m8 => ∃ w9 : Int32, r7 = some (vI w9) ∧
          ((w9 ≤ (nI 5) →
            ((p1 = 0 →
              K 27 [some (vR 40 0), some (vI p1), some (vI w3), some (vI (w6 &&& (w3 ^^^ (-1 : Int32)))), some (vI (nI 0)), some (vI (nI 0)), none, none, none, none] [] m8) ∧
            (¬ p1 = 0 →
              K 27 [some (vR 40 0), some (vI p1), some (vI w3), some (vI (w6 &&& (w3 ^^^ (-1 : Int32)))), some (vI (nI 10)), some (vI (nI 0)), none, none, none, none] [] m8))) ∧
          (¬ w9 ≤ (nI 5) →
            isB (nI 0) ∧ Q (some (vI (nI 0))) m8)))))) :
    wp2i xs C tX12_findValues [27, 41, 50] (some .boolean) Q K 2000 0 [some (vR 40 0), some (vI p1), none, none, none, none, none, none, none, none] [] m := h
set_option maxRecDepth 100000 in
theorem bX12_findValues_27 {xs : Nat × (Nat → Int32)} {C : Nat → List v2 → Mem → (Option v2 → Mem → Prop) → Prop} {Q : Option v2 → Mem → Prop} {K : Nat → L2 → List v2 → Mem → Prop} (m : Mem) (x1 : Int32) (x2 : Int32) (x3 : Int32) (x4 : Int32) (x5 : Int32)
    (h : (((nI 10) ≤ x5 →
      K 41 [some (vR 40 0), some (vI x1), some (vI x2), some (vI x3), some (vI x4), some (vI (nI 1)), some (vI (nI 1)), none, none, none] [] m) ∧
    (¬ (nI 10) ≤ x5 →
      inb x5 10 ∧ 
        K 27 [some (vR 40 0), some (vI x1), some (vI x2), some (vI x3), some (vI x4), some (vI (x5 + (nI 1))), none, none, none, none] [] (mI m 48 0 x5.toNatClampNeg (nI 0))))) :
    wp2i xs C tX12_findValues [27, 41, 50] (some .boolean) Q K 2000 27 [some (vR 40 0), some (vI x1), some (vI x2), some (vI x3), some (vI x4), some (vI x5), none, none, none, none] [] m := h
set_option maxRecDepth 100000 in
theorem bX12_findValues_41 {xs : Nat × (Nat → Int32)} {C : Nat → List v2 → Mem → (Option v2 → Mem → Prop) → Prop} {Q : Option v2 → Mem → Prop} {K : Nat → L2 → List v2 → Mem → Prop} (m : Mem) (x1 : Int32) (x2 : Int32) (x3 : Int32) (x4 : Int32) (x5 : Int32) (x6 : Int32) (o7 : Option v2) (o8 : Option v2) (o9 : Option v2)
    (h : ((x6 = 0 →
      isB (nI 1) ∧ Q (some (vI (nI 1))) m) ∧
    (¬ x6 = 0 →
      C 144 [vR 40 0, vI x3, vI x2, vI x1] m (fun r1 m2 => r1 = none ∧
        K 50 [some (vR 40 0), some (vI x1), some (vI x2), some (vI x3), some (vI x4), some (vI x5), some (vI x6), some (vI (nI 0)), o8, o9] [] m2)))) :
    wp2i xs C tX12_findValues [27, 41, 50] (some .boolean) Q K 2000 41 [some (vR 40 0), some (vI x1), some (vI x2), some (vI x3), some (vI x4), some (vI x5), some (vI x6), o7, o8, o9] [] m := h
set_option maxRecDepth 100000 in
theorem bX12_findValues_50 {xs : Nat × (Nat → Int32)} {C : Nat → List v2 → Mem → (Option v2 → Mem → Prop) → Prop} {Q : Option v2 → Mem → Prop} {K : Nat → L2 → List v2 → Mem → Prop} (m : Mem) (x1 : Int32) (x2 : Int32) (x3 : Int32) (x4 : Int32) (x5 : Int32) (x6 : Int32) (x7 : Int32) (o8 : Option v2) (o9 : Option v2)
    (h : (((m.1 40 0 1) ≤ x7 →
      C 142 [vR 40 0, vI x3, vI (nI 0)] m (fun r1 m2 => ∃ w3 : Int32, r1 = some (vI w3) ∧
        K 41 [some (vR 40 0), some (vI x1), some (vI x2), some (vI x3), some (vI x4), some (vI (nI 0)), some (vI w3), some (vI x7), o8, o9] [] m2)) ∧
    (¬ (m.1 40 0 1) ≤ x7 →
      ((x1 = 0 →
        inb (x4 + x7) 20 ∧ 
          inb (x4 + x7) 20 ∧ 
            inb x7 10 ∧ 
              inb x7 10 ∧ 
                C 141 [vL (m.2 54 0 (x4 + x7).toNatClampNeg), vL (m.2 55 0 (x4 + x7).toNatClampNeg), vL (m.2 56 0 x7.toNatClampNeg), vL (m.2 57 0 x7.toNatClampNeg)] m (fun r4 m5 => ∃ w6 : Int32, r4 = some (vI w6) ∧
                  ((¬ x5 = 0 →
                    inb x7 10 ∧ 
                      inb (x4 + x7) 20 ∧ 
                        inb x7 10 ∧ 
                          inb (x4 + x7) 20 ∧ 
                            K 50 [some (vR 40 0), some (vI x1), some (vI x2), some (vI x3), some (vI x4), some (vI x5), some (vI x6), some (vI (x7 + (nI 1))), some (vI (x4 + x7)), some (vI w6)] [] (mL (mL m5 54 0 (x4 + x7).toNatClampNeg (m5.2 56 0 x7.toNatClampNeg)) 55 0 (x4 + x7).toNatClampNeg ((mL m5 54 0 (x4 + x7).toNatClampNeg (m5.2 56 0 x7.toNatClampNeg)).2 57 0 x7.toNatClampNeg))) ∧
                  (x5 = 0 →
                    ((w6 = 0 →
                      K 50 [some (vR 40 0), some (vI x1), some (vI x2), some (vI x3), some (vI x4), some (vI x5), some (vI x6), some (vI (x7 + (nI 1))), some (vI (x4 + x7)), some (vI w6)] [] m5) ∧
                    (¬ w6 = 0 →
                      inb x7 10 ∧ 
                        inb (x4 + x7) 20 ∧ 
                          inb x7 10 ∧ 
                            inb (x4 + x7) 20 ∧ 
                              K 50 [some (vR 40 0), some (vI x1), some (vI x2), some (vI x3), some (vI x4), some (vI x5), some (vI x6), some (vI (x7 + (nI 1))), some (vI (x4 + x7)), some (vI w6)] [] (mL (mL m5 54 0 (x4 + x7).toNatClampNeg (m5.2 56 0 x7.toNatClampNeg)) 55 0 (x4 + x7).toNatClampNeg ((mL m5 54 0 (x4 + x7).toNatClampNeg (m5.2 56 0 x7.toNatClampNeg)).2 57 0 x7.toNatClampNeg)))))))) ∧
      (¬ x1 = 0 →
        inb x7 10 ∧ 
          inb x7 10 ∧ 
            inb (x4 + x7) 20 ∧ 
              inb (x4 + x7) 20 ∧ 
                C 141 [vL (m.2 56 0 x7.toNatClampNeg), vL (m.2 57 0 x7.toNatClampNeg), vL (m.2 54 0 (x4 + x7).toNatClampNeg), vL (m.2 55 0 (x4 + x7).toNatClampNeg)] m (fun r7 m8 => ∃ w9 : Int32, r7 = some (vI w9) ∧
                  ((¬ x5 = 0 →
                    inb x7 10 ∧ 
                      inb (x4 + x7) 20 ∧ 
                        inb x7 10 ∧ 
                          inb (x4 + x7) 20 ∧ 
                            K 50 [some (vR 40 0), some (vI x1), some (vI x2), some (vI x3), some (vI x4), some (vI x5), some (vI x6), some (vI (x7 + (nI 1))), some (vI (x4 + x7)), some (vI w9)] [] (mL (mL m8 54 0 (x4 + x7).toNatClampNeg (m8.2 56 0 x7.toNatClampNeg)) 55 0 (x4 + x7).toNatClampNeg ((mL m8 54 0 (x4 + x7).toNatClampNeg (m8.2 56 0 x7.toNatClampNeg)).2 57 0 x7.toNatClampNeg))) ∧
                  (x5 = 0 →
                    ((w9 = 0 →
                      K 50 [some (vR 40 0), some (vI x1), some (vI x2), some (vI x3), some (vI x4), some (vI x5), some (vI x6), some (vI (x7 + (nI 1))), some (vI (x4 + x7)), some (vI w9)] [] m8) ∧
                    (¬ w9 = 0 →
                      inb x7 10 ∧ 
                        inb (x4 + x7) 20 ∧ 
                          inb x7 10 ∧ 
                            inb (x4 + x7) 20 ∧ 
                              K 50 [some (vR 40 0), some (vI x1), some (vI x2), some (vI x3), some (vI x4), some (vI x5), some (vI x6), some (vI (x7 + (nI 1))), some (vI (x4 + x7)), some (vI w9)] [] (mL (mL m8 54 0 (x4 + x7).toNatClampNeg (m8.2 56 0 x7.toNatClampNeg)) 55 0 (x4 + x7).toNatClampNeg ((mL m8 54 0 (x4 + x7).toNatClampNeg (m8.2 56 0 x7.toNatClampNeg)).2 57 0 x7.toNatClampNeg)))))))))))) :
    wp2i xs C tX12_findValues [27, 41, 50] (some .boolean) Q K 2000 50 [some (vR 40 0), some (vI x1), some (vI x2), some (vI x3), some (vI x4), some (vI x5), some (vI x6), some (vI x7), o8, o9] [] m := h
set_option maxRecDepth 100000 in
theorem bX12_value_0 {xs : Nat × (Nat → Int32)} {C : Nat → List v2 → Mem → (Option v2 → Mem → Prop) → Prop} {Q : Option v2 → Mem → Prop} {K : Nat → L2 → List v2 → Mem → Prop} (m : Mem) (p1 : Int32) (p2 : Int32) (p3 : Int32)
    (h : C 114 [vR 40 0, vI p1] (mI m 40 0 0 (nI 0)) (fun r1 m2 => ∃ w3 : Int32, r1 = some (vI w3) ∧
      ((w3 = 0 →
        Q (some (vL (-1 : Int64))) m2) ∧
      (¬ w3 = 0 →
        C 113 [vL p3.toInt64, vL (lN 0), vL (lN 1)] m2 (fun r4 m5 => ∃ w6 : Int32, r4 = some (vI w6) ∧
          ((¬ w6 = 0 →
            C 124 [vR 40 0] m5 (fun r7 m8 => ∃ w9 : Int32, r7 = some (vI w9) ∧
              ((w9 ≤ 0 →
                C 145 [vR 40 0, vI p2] m8 (fun r10 m11 => ∃ w12 : Int32, r10 = some (vI w12) ∧
                  ((¬ w12 = 0 →
                    ((p2 = 0 →
                      ((¬ p3 = 0 →
                        inb p1 20 ∧ 
                          Q (some (vL (m11.2 55 0 p1.toNatClampNeg))) m11) ∧
                      (p3 = 0 →
                        inb p1 20 ∧ 
                          Q (some (vL (m11.2 54 0 p1.toNatClampNeg))) m11))) ∧
                    (¬ p2 = 0 →
                      ((¬ p3 = 0 →
                        inb ((nI 10) + p1) 20 ∧ 
                          Q (some (vL (m11.2 55 0 ((nI 10) + p1).toNatClampNeg))) m11) ∧
                      (p3 = 0 →
                        inb ((nI 10) + p1) 20 ∧ 
                          Q (some (vL (m11.2 54 0 ((nI 10) + p1).toNatClampNeg))) m11))))) ∧
                  (w12 = 0 →
                    Q (some (vL (-3 : Int64))) m11)))) ∧
              (¬ w9 ≤ 0 →
                Q (some (vL (-2 : Int64))) m8)))) ∧
          (w6 = 0 →
            Q (some (vL (-1 : Int64))) m5))))))) :
    wp2i xs C tX12_value [] (some .long) Q K 2000 0 [some (vR 40 0), some (vI p1), some (vI p2), some (vI p3), none] [] m := h
set_option maxRecDepth 100000 in
theorem bX12_findSum_0 {xs : Nat × (Nat → Int32)} {C : Nat → List v2 → Mem → (Option v2 → Mem → Prop) → Prop} {Q : Option v2 → Mem → Prop} {K : Nat → L2 → List v2 → Mem → Prop} (m : Mem) (p1 : Int32)
    (h : K 8 [some (vR 40 0), some (vI p1), some (vI (nI 0)), none, none, none, none, none, none, none, none, none, none, none] [] (mL (mL m 40 0 21 (lN 0)) 40 0 22 (lN 1))) :
    wp2i xs C tX12_findSum [8, 50, 64, 79, 87, 94, 100] none Q K 2000 0 [some (vR 40 0), some (vI p1), none, none, none, none, none, none, none, none, none, none, none, none] [] m := h
set_option maxRecDepth 100000 in
theorem bX12_findSum_8 {xs : Nat × (Nat → Int32)} {C : Nat → List v2 → Mem → (Option v2 → Mem → Prop) → Prop} {Q : Option v2 → Mem → Prop} {K : Nat → L2 → List v2 → Mem → Prop} (m : Mem) (x1 : Int32) (x2 : Int32) (o3 : Option v2) (o4 : Option v2) (o6 : Option v2) (o8 : Option v2) (o10 : Option v2) (o12 : Option v2)
    (h : inb x1 40 ∧ 
      (((m.1 44 0 x1.toNatClampNeg) ≤ x2 →
        Q none m) ∧
      (¬ (m.1 44 0 x1.toNatClampNeg) ≤ x2 →
        inb (((nI 4) * x1) + x2) 160 ∧ 
          inb (((nI 4) * x1) + x2) 160 ∧ 
            inb (m.1 45 0 (((nI 4) * x1) + x2).toNatClampNeg) 20 ∧ 
              inb (m.1 45 0 (((nI 4) * x1) + x2).toNatClampNeg) 20 ∧ 
                C 134 [vR 40 0, vL ((m.1 46 0 (((nI 4) * x1) + x2).toNatClampNeg).toInt64 * (m.2 54 0 (m.1 45 0 (((nI 4) * x1) + x2).toNatClampNeg).toNatClampNeg)), vL ((lN 12) * (m.2 55 0 (m.1 45 0 (((nI 4) * x1) + x2).toNatClampNeg).toNatClampNeg))] m (fun r1 m2 => ∃ w3 : Int64, r1 = some (vL w3) ∧
                  K 50 [some (vR 40 0), some (vI x1), some (vI x2), some (vI (m.1 45 0 (((nI 4) * x1) + x2).toNatClampNeg)), some (vL ((m.1 46 0 (((nI 4) * x1) + x2).toNatClampNeg).toInt64 * (m.2 54 0 (m.1 45 0 (((nI 4) * x1) + x2).toNatClampNeg).toNatClampNeg))), none, some (vL ((lN 12) * (m.2 55 0 (m.1 45 0 (((nI 4) * x1) + x2).toNatClampNeg).toNatClampNeg))), none, some (vL w3), none, o10, none, o12, none] [] m2)))) :
    wp2i xs C tX12_findSum [8, 50, 64, 79, 87, 94, 100] none Q K 2000 8 [some (vR 40 0), some (vI x1), some (vI x2), o3, o4, none, o6, none, o8, none, o10, none, o12, none] [] m := h
set_option maxRecDepth 100000 in
theorem bX12_findSum_50 {xs : Nat × (Nat → Int32)} {C : Nat → List v2 → Mem → (Option v2 → Mem → Prop) → Prop} {Q : Option v2 → Mem → Prop} {K : Nat → L2 → List v2 → Mem → Prop} (m : Mem) (x1 : Int32) (x2 : Int32) (x3 : Int32) (x4 : Int64) (x6 : Int64) (x8 : Int64) (o10 : Option v2) (o12 : Option v2)
    (h : ¬ x8 = 0 ∧ 
      ¬ x8 = 0 ∧ 
        C 134 [vR 40 0, vL (m.2 40 0 22), vL (x6 / x8)] m (fun r1 m2 => ∃ w3 : Int64, r1 = some (vL w3) ∧
          K 64 [some (vR 40 0), some (vI x1), some (vI x2), some (vI x3), some (vL (x4 / x8)), none, some (vL (x6 / x8)), none, some (vL x8), none, some (vL w3), none, o12, none] [] m2)) :
    wp2i xs C tX12_findSum [8, 50, 64, 79, 87, 94, 100] none Q K 2000 50 [some (vR 40 0), some (vI x1), some (vI x2), some (vI x3), some (vL x4), none, some (vL x6), none, some (vL x8), none, o10, none, o12, none] [] m := h
set_option maxRecDepth 100000 in
theorem bX12_findSum_64 {xs : Nat × (Nat → Int32)} {C : Nat → List v2 → Mem → (Option v2 → Mem → Prop) → Prop} {Q : Option v2 → Mem → Prop} {K : Nat → L2 → List v2 → Mem → Prop} (m : Mem) (x1 : Int32) (x2 : Int32) (x3 : Int32) (x4 : Int64) (x6 : Int64) (x8 : Int64) (x10 : Int64) (o12 : Option v2)
    (h : ¬ x10 = 0 ∧ 
      ¬ x10 = 0 ∧ 
        K 79 [some (vR 40 0), some (vI x1), some (vI x2), some (vI x3), some (vL x4), none, some (vL x6), none, some (vL x8), none, some (vL x10), none, o12, none] [] (mL m 40 0 21 (((m.2 40 0 21) * (x6 / x10)) + (x4 * ((m.2 40 0 22) / x10))))) :
    wp2i xs C tX12_findSum [8, 50, 64, 79, 87, 94, 100] none Q K 2000 64 [some (vR 40 0), some (vI x1), some (vI x2), some (vI x3), some (vL x4), none, some (vL x6), none, some (vL x8), none, some (vL x10), none, o12, none] [] m := h
set_option maxRecDepth 100000 in
theorem bX12_findSum_79 {xs : Nat × (Nat → Int32)} {C : Nat → List v2 → Mem → (Option v2 → Mem → Prop) → Prop} {Q : Option v2 → Mem → Prop} {K : Nat → L2 → List v2 → Mem → Prop} (m : Mem) (x1 : Int32) (x2 : Int32) (x3 : Int32) (x4 : Int64) (x6 : Int64) (x8 : Int64) (x10 : Int64) (o12 : Option v2)
    (h : ¬ x10 = 0 ∧ 
      K 87 [some (vR 40 0), some (vI x1), some (vI x2), some (vI x3), some (vL x4), none, some (vL x6), none, some (vL x8), none, some (vL x10), none, o12, none] [] (mL m 40 0 22 (((m.2 40 0 22) / x10) * x6))) :
    wp2i xs C tX12_findSum [8, 50, 64, 79, 87, 94, 100] none Q K 2000 79 [some (vR 40 0), some (vI x1), some (vI x2), some (vI x3), some (vL x4), none, some (vL x6), none, some (vL x8), none, some (vL x10), none, o12, none] [] m := h
set_option maxRecDepth 100000 in
theorem bX12_findSum_87 {xs : Nat × (Nat → Int32)} {C : Nat → List v2 → Mem → (Option v2 → Mem → Prop) → Prop} {Q : Option v2 → Mem → Prop} {K : Nat → L2 → List v2 → Mem → Prop} (m : Mem) (x1 : Int32) (x2 : Int32) (x3 : Int32) (x4 : Int64) (x6 : Int64) (x8 : Int64) (x10 : Int64) (o12 : Option v2)
    (h : C 134 [vR 40 0, vL (m.2 40 0 21), vL (m.2 40 0 22)] m (fun r1 m2 => ∃ w3 : Int64, r1 = some (vL w3) ∧
      K 94 [some (vR 40 0), some (vI x1), some (vI x2), some (vI x3), some (vL x4), none, some (vL x6), none, some (vL x8), none, some (vL x10), none, some (vL w3), none] [] m2)) :
    wp2i xs C tX12_findSum [8, 50, 64, 79, 87, 94, 100] none Q K 2000 87 [some (vR 40 0), some (vI x1), some (vI x2), some (vI x3), some (vL x4), none, some (vL x6), none, some (vL x8), none, some (vL x10), none, o12, none] [] m := h
set_option maxRecDepth 100000 in
theorem bX12_findSum_94 {xs : Nat × (Nat → Int32)} {C : Nat → List v2 → Mem → (Option v2 → Mem → Prop) → Prop} {Q : Option v2 → Mem → Prop} {K : Nat → L2 → List v2 → Mem → Prop} (m : Mem) (x1 : Int32) (x2 : Int32) (x3 : Int32) (x4 : Int64) (x6 : Int64) (x8 : Int64) (x10 : Int64) (x12 : Int64)
    (h : ¬ x12 = 0 ∧ 
      K 100 [some (vR 40 0), some (vI x1), some (vI x2), some (vI x3), some (vL x4), none, some (vL x6), none, some (vL x8), none, some (vL x10), none, some (vL x12), none] [] (mL m 40 0 21 ((m.2 40 0 21) / x12))) :
    wp2i xs C tX12_findSum [8, 50, 64, 79, 87, 94, 100] none Q K 2000 94 [some (vR 40 0), some (vI x1), some (vI x2), some (vI x3), some (vL x4), none, some (vL x6), none, some (vL x8), none, some (vL x10), none, some (vL x12), none] [] m := h
set_option maxRecDepth 100000 in
theorem bX12_findSum_100 {xs : Nat × (Nat → Int32)} {C : Nat → List v2 → Mem → (Option v2 → Mem → Prop) → Prop} {Q : Option v2 → Mem → Prop} {K : Nat → L2 → List v2 → Mem → Prop} (m : Mem) (x1 : Int32) (x2 : Int32) (x3 : Int32) (x4 : Int64) (x6 : Int64) (x8 : Int64) (x10 : Int64) (x12 : Int64)
    (h : ¬ x12 = 0 ∧ 
      K 8 [some (vR 40 0), some (vI x1), some (vI (x2 + (nI 1))), some (vI x3), some (vL x4), none, some (vL x6), none, some (vL x8), none, some (vL x10), none, some (vL x12), none] [] (mL m 40 0 22 ((m.2 40 0 22) / x12))) :
    wp2i xs C tX12_findSum [8, 50, 64, 79, 87, 94, 100] none Q K 2000 100 [some (vR 40 0), some (vI x1), some (vI x2), some (vI x3), some (vL x4), none, some (vL x6), none, some (vL x8), none, some (vL x10), none, some (vL x12), none] [] m := h
set_option maxRecDepth 100000 in
theorem bX12_isJust_0 {xs : Nat × (Nat → Int32)} {C : Nat → List v2 → Mem → (Option v2 → Mem → Prop) → Prop} {Q : Option v2 → Mem → Prop} {K : Nat → L2 → List v2 → Mem → Prop} (m : Mem) (p1 : Int32) (p2 : Int32)
    (h : C 147 [vR 40 0, vI (((nI 4) * p1) + p2)] m (fun r1 m2 => r1 = none ∧
      inb p1 20 ∧ 
        ((¬ (lg_cmp (m2.2 40 0 21) (m2.2 54 0 p1.toNatClampNeg)) = 0 →
          isB (nI 0) ∧ Q (some (vI (nI 0))) m2) ∧
        ((lg_cmp (m2.2 40 0 21) (m2.2 54 0 p1.toNatClampNeg)) = 0 →
          inb p1 20 ∧ 
            ((¬ (lg_cmp (m2.2 40 0 22) (m2.2 55 0 p1.toNatClampNeg)) = 0 →
              isB (nI 0) ∧ Q (some (vI (nI 0))) m2) ∧
            ((lg_cmp (m2.2 40 0 22) (m2.2 55 0 p1.toNatClampNeg)) = 0 →
              isB (nI 1) ∧ Q (some (vI (nI 1))) m2)))))) :
    wp2i xs C tX12_isJust [] (some .boolean) Q K 2000 0 [some (vR 40 0), some (vI p1), some (vI p2)] [] m := h
set_option maxRecDepth 100000 in
theorem bX12_nearest_0 {xs : Nat × (Nat → Int32)} {C : Nat → List v2 → Mem → (Option v2 → Mem → Prop) → Prop} {Q : Option v2 → Mem → Prop} {K : Nat → L2 → List v2 → Mem → Prop} (m : Mem) (p1 : Int32)
    (h : K 4 [some (vR 40 0), some (vI p1), some (vI (nI 100)), some (vI (nI 0))] [] m) :
    wp2i xs C tX12_nearest [4] (some .int) Q K 2000 0 [some (vR 40 0), some (vI p1), none, none] [] m := h
set_option maxRecDepth 100000 in
theorem bX12_nearest_4 {xs : Nat × (Nat → Int32)} {C : Nat → List v2 → Mem → (Option v2 → Mem → Prop) → Prop} {Q : Option v2 → Mem → Prop} {K : Nat → L2 → List v2 → Mem → Prop} (m : Mem) (x1 : Int32) (x2 : Int32) (x3 : Int32)
    (h : inb x1 40 ∧ 
      (((m.1 44 0 x1.toNatClampNeg) ≤ x3 →
        Q (some (vI x2)) m) ∧
      (¬ (m.1 44 0 x1.toNatClampNeg) ≤ x3 →
        inb (((nI 4) * x1) + x3) 160 ∧ 
          inb (m.1 45 0 (((nI 4) * x1) + x3).toNatClampNeg) 10 ∧ 
            ((x2 ≤ (m.1 58 0 (m.1 45 0 (((nI 4) * x1) + x3).toNatClampNeg).toNatClampNeg) →
              K 4 [some (vR 40 0), some (vI x1), some (vI x2), some (vI (x3 + (nI 1)))] [] m) ∧
            (¬ x2 ≤ (m.1 58 0 (m.1 45 0 (((nI 4) * x1) + x3).toNatClampNeg).toNatClampNeg) →
              inb (((nI 4) * x1) + x3) 160 ∧ 
                inb (m.1 45 0 (((nI 4) * x1) + x3).toNatClampNeg) 10 ∧ 
                  K 4 [some (vR 40 0), some (vI x1), some (vI (m.1 58 0 (m.1 45 0 (((nI 4) * x1) + x3).toNatClampNeg).toNatClampNeg)), some (vI (x3 + (nI 1)))] [] m))))) :
    wp2i xs C tX12_nearest [4] (some .int) Q K 2000 4 [some (vR 40 0), some (vI x1), some (vI x2), some (vI x3)] [] m := h
set_option maxRecDepth 100000 in
theorem bX12_findDistances_0 {xs : Nat × (Nat → Int32)} {C : Nat → List v2 → Mem → (Option v2 → Mem → Prop) → Prop} {Q : Option v2 → Mem → Prop} {K : Nat → L2 → List v2 → Mem → Prop} (m : Mem) 
    (h : K 2 [some (vR 40 0), some (vI (nI 0)), none, none, none] [] m) :
    wp2i xs C tX12_findDistances [2, 21, 26, 32] none Q K 2000 0 [some (vR 40 0), none, none, none, none] [] m := h
set_option maxRecDepth 100000 in
theorem bX12_findDistances_2 {xs : Nat × (Nat → Int32)} {C : Nat → List v2 → Mem → (Option v2 → Mem → Prop) → Prop} {Q : Option v2 → Mem → Prop} {K : Nat → L2 → List v2 → Mem → Prop} (m : Mem) (x1 : Int32)
    (h : (((m.1 40 0 1) ≤ x1 →
      K 21 [some (vR 40 0), some (vI (nI 0)), none, none, none] [] m) ∧
    (¬ (m.1 40 0 1) ≤ x1 →
      C 116 [vR 40 0, vI x1] m (fun r1 m2 => ∃ w3 : Int32, r1 = some (vI w3) ∧
        ((w3 = 0 →
          inb x1 10 ∧ 
            K 2 [some (vR 40 0), some (vI (x1 + (nI 1))), none, none, none] [] (mI m2 58 0 x1.toNatClampNeg (nI 100))) ∧
        (¬ w3 = 0 →
          inb x1 10 ∧ 
            K 2 [some (vR 40 0), some (vI (x1 + (nI 1))), none, none, none] [] (mI m2 58 0 x1.toNatClampNeg (nI 0)))))))) :
    wp2i xs C tX12_findDistances [2, 21, 26, 32] none Q K 2000 2 [some (vR 40 0), some (vI x1), none, none, none] [] m := h
set_option maxRecDepth 100000 in
theorem bX12_findDistances_21 {xs : Nat × (Nat → Int32)} {C : Nat → List v2 → Mem → (Option v2 → Mem → Prop) → Prop} {Q : Option v2 → Mem → Prop} {K : Nat → L2 → List v2 → Mem → Prop} (m : Mem) (x1 : Int32) (o2 : Option v2) (o3 : Option v2) (o4 : Option v2)
    (h : (((nI 11) ≤ x1 →
      Q none m) ∧
    (¬ (nI 11) ≤ x1 →
      K 26 [some (vR 40 0), some (vI x1), some (vI (nI 0)), o3, o4] [] m))) :
    wp2i xs C tX12_findDistances [2, 21, 26, 32] none Q K 2000 21 [some (vR 40 0), some (vI x1), o2, o3, o4] [] m := h
set_option maxRecDepth 100000 in
theorem bX12_findDistances_26 {xs : Nat × (Nat → Int32)} {C : Nat → List v2 → Mem → (Option v2 → Mem → Prop) → Prop} {Q : Option v2 → Mem → Prop} {K : Nat → L2 → List v2 → Mem → Prop} (m : Mem) (x1 : Int32) (x2 : Int32) (o3 : Option v2) (o4 : Option v2)
    (h : (((m.1 40 0 1) ≤ x2 →
      K 21 [some (vR 40 0), some (vI (x1 + (nI 1))), some (vI x2), o3, o4] [] m) ∧
    (¬ (m.1 40 0 1) ≤ x2 →
      K 32 [some (vR 40 0), some (vI x1), some (vI x2), some (vI (nI 0)), o4] [] m))) :
    wp2i xs C tX12_findDistances [2, 21, 26, 32] none Q K 2000 26 [some (vR 40 0), some (vI x1), some (vI x2), o3, o4] [] m := h
set_option maxRecDepth 100000 in
theorem bX12_findDistances_32 {xs : Nat × (Nat → Int32)} {C : Nat → List v2 → Mem → (Option v2 → Mem → Prop) → Prop} {Q : Option v2 → Mem → Prop} {K : Nat → L2 → List v2 → Mem → Prop} (m : Mem) (x1 : Int32) (x2 : Int32) (x3 : Int32) (o4 : Option v2)
    (h : inb x2 10 ∧ 
      (((m.1 41 0 x2.toNatClampNeg) ≤ x3 →
        K 26 [some (vR 40 0), some (vI x1), some (vI (x2 + (nI 1))), some (vI x3), o4] [] m) ∧
      (¬ (m.1 41 0 x2.toNatClampNeg) ≤ x3 →
        inb x2 20 ∧ 
          (((lg_cmp (m.2 54 0 x2.toNatClampNeg) (lN 0)) ≤ 0 →
            K 26 [some (vR 40 0), some (vI x1), some (vI (x2 + (nI 1))), some (vI x3), o4] [] m) ∧
          (¬ (lg_cmp (m.2 54 0 x2.toNatClampNeg) (lN 0)) ≤ 0 →
            C 148 [vR 40 0, vI x2, vI x3] m (fun r1 m2 => ∃ w3 : Int32, r1 = some (vI w3) ∧
              ((w3 = 0 →
                inb x2 10 ∧ 
                  (((m2.1 58 0 x2.toNatClampNeg) ≤ (nI 100) →
                    inb x2 10 ∧ 
                      inb x2 10 ∧ 
                        K 32 [some (vR 40 0), some (vI x1), some (vI x2), some (vI (x3 + (nI 1))), some (vI (nI 100))] [] (mI m2 58 0 x2.toNatClampNeg (m2.1 58 0 x2.toNatClampNeg))) ∧
                  (¬ (m2.1 58 0 x2.toNatClampNeg) ≤ (nI 100) →
                    inb x2 10 ∧ 
                      K 32 [some (vR 40 0), some (vI x1), some (vI x2), some (vI (x3 + (nI 1))), some (vI (nI 100))] [] (mI m2 58 0 x2.toNatClampNeg (nI 100))))) ∧
              (¬ w3 = 0 →
                C 149 [vR 40 0, vI (((nI 4) * x2) + x3)] m2 (fun r4 m5 => ∃ w6 : Int32, r4 = some (vI w6) ∧
                  inb x2 10 ∧ 
                    (((m5.1 58 0 x2.toNatClampNeg) ≤ ((nI 1) + w6) →
                      inb x2 10 ∧ 
                        inb x2 10 ∧ 
                          K 32 [some (vR 40 0), some (vI x1), some (vI x2), some (vI (x3 + (nI 1))), some (vI ((nI 1) + w6))] [] (mI m5 58 0 x2.toNatClampNeg (m5.1 58 0 x2.toNatClampNeg))) ∧
                    (¬ (m5.1 58 0 x2.toNatClampNeg) ≤ ((nI 1) + w6) →
                      inb x2 10 ∧ 
                        K 32 [some (vR 40 0), some (vI x1), some (vI x2), some (vI (x3 + (nI 1))), some (vI ((nI 1) + w6))] [] (mI m5 58 0 x2.toNatClampNeg ((nI 1) + w6))))))))))))) :
    wp2i xs C tX12_findDistances [2, 21, 26, 32] none Q K 2000 32 [some (vR 40 0), some (vI x1), some (vI x2), some (vI x3), o4] [] m := h
set_option maxRecDepth 100000 in
theorem bX12_refusal_0 {xs : Nat × (Nat → Int32)} {C : Nat → List v2 → Mem → (Option v2 → Mem → Prop) → Prop} {Q : Option v2 → Mem → Prop} {K : Nat → L2 → List v2 → Mem → Prop} (m : Mem) 
    (h : C 124 [vR 40 0] m (fun r1 m2 => ∃ w3 : Int32, r1 = some (vI w3) ∧
      ((w3 ≤ 0 →
        C 145 [vR 40 0, vI (nI 0)] m2 (fun r4 m5 => ∃ w6 : Int32, r4 = some (vI w6) ∧
          ((¬ w6 = 0 →
            Q (some (vL (lN 0))) m5) ∧
          (w6 = 0 →
            Q (some (vL (-3 : Int64))) m5)))) ∧
      (¬ w3 ≤ 0 →
        Q (some (vL (-2 : Int64))) m2)))) :
    wp2i xs C tX12_refusal [] (some .long) Q K 2000 0 [some (vR 40 0)] [] m := h
set_option maxRecDepth 100000 in
theorem bX12_choice_0 {xs : Nat × (Nat → Int32)} {C : Nat → List v2 → Mem → (Option v2 → Mem → Prop) → Prop} {Q : Option v2 → Mem → Prop} {K : Nat → L2 → List v2 → Mem → Prop} (m : Mem) (p1 : Int32)
    (h : C 114 [vR 40 0, vI p1] (mI m 40 0 0 (nI 0)) (fun r1 m2 => ∃ w3 : Int32, r1 = some (vI w3) ∧
      ((w3 = 0 →
        Q (some (vI (-1 : Int32))) m2) ∧
      (¬ w3 = 0 →
        inb p1 10 ∧ 
          ((¬ (m2.1 41 0 p1.toNatClampNeg) = 0 →
            C 151 [vR 40 0] m2 (fun r4 m5 => ∃ w6 : Int64, r4 = some (vL w6) ∧
              ((0 ≤ w6.toInt32 →
                C 116 [vR 40 0, vI p1] m5 (fun r7 m8 => ∃ w9 : Int32, r7 = some (vI w9) ∧
                  ((w9 = 0 →
                    C 150 [vR 40 0] m8 (fun r10 m11 => r10 = none ∧
                      inb p1 20 ∧ 
                        (((lg_cmp (m11.2 54 0 p1.toNatClampNeg) (lN 0)) ≤ 0 →
                          K 47 [some (vR 40 0), some (vI p1), some (vI w6.toInt32), some (vI (nI 0)), some (vI (nI 0))] [] m11) ∧
                        (¬ (lg_cmp (m11.2 54 0 p1.toNatClampNeg) (lN 0)) ≤ 0 →
                          C 117 [vR 40 0, vI p1] m11 (fun r12 m13 => ∃ w14 : Int32, r12 = some (vI w14) ∧
                            ((¬ w14 = 0 →
                              K 47 [some (vR 40 0), some (vI p1), some (vI w6.toInt32), some (vI (nI 0)), some (vI (nI 0))] [] m13) ∧
                            (w14 = 0 →
                              K 47 [some (vR 40 0), some (vI p1), some (vI w6.toInt32), some (vI (nI 1)), some (vI (nI 0))] [] m13))))))) ∧
                  (¬ w9 = 0 →
                    Q (some (vI (nI 0))) m8)))) ∧
              (¬ 0 ≤ w6.toInt32 →
                Q (some (vI w6.toInt32)) m5)))) ∧
          ((m2.1 41 0 p1.toNatClampNeg) = 0 →
            Q (some (vI (-1 : Int32))) m2)))))) :
    wp2i xs C tX12_choice [47] (some .int) Q K 2000 0 [some (vR 40 0), some (vI p1), none, none, none] [] m := h
set_option maxRecDepth 100000 in
theorem bX12_choice_47 {xs : Nat × (Nat → Int32)} {C : Nat → List v2 → Mem → (Option v2 → Mem → Prop) → Prop} {Q : Option v2 → Mem → Prop} {K : Nat → L2 → List v2 → Mem → Prop} (m : Mem) (x1 : Int32) (x2 : Int32) (x3 : Int32) (x4 : Int32)
    (h : inb x1 10 ∧ 
      (((m.1 41 0 x1.toNatClampNeg) ≤ x4 →
        Q (some (vI (nI 0))) m) ∧
      (¬ (m.1 41 0 x1.toNatClampNeg) ≤ x4 →
        C 148 [vR 40 0, vI x1, vI x4] m (fun r1 m2 => ∃ w3 : Int32, r1 = some (vI w3) ∧
          ((w3 = 0 →
            K 47 [some (vR 40 0), some (vI x1), some (vI x2), some (vI x3), some (vI (x4 + (nI 1)))] [] m2) ∧
          (¬ w3 = 0 →
            ((x3 = 0 →
              Q (some (vI x4)) m2) ∧
            (¬ x3 = 0 →
              C 149 [vR 40 0, vI (((nI 4) * x1) + x4)] m2 (fun r4 m5 => ∃ w6 : Int32, r4 = some (vI w6) ∧
                inb x1 10 ∧ 
                  (((m5.1 58 0 x1.toNatClampNeg) ≤ w6 →
                    K 47 [some (vR 40 0), some (vI x1), some (vI x2), some (vI x3), some (vI (x4 + (nI 1)))] [] m5) ∧
                  (¬ (m5.1 58 0 x1.toNatClampNeg) ≤ w6 →
                    Q (some (vI x4)) m5))))))))))) :
    wp2i xs C tX12_choice [47] (some .int) Q K 2000 47 [some (vR 40 0), some (vI x1), some (vI x2), some (vI x3), some (vI x4)] [] m := h
set_option maxRecDepth 100000 in
theorem bX12_distance_0 {xs : Nat × (Nat → Int32)} {C : Nat → List v2 → Mem → (Option v2 → Mem → Prop) → Prop} {Q : Option v2 → Mem → Prop} {K : Nat → L2 → List v2 → Mem → Prop} (m : Mem) (p1 : Int32)
    (h : C 114 [vR 40 0, vI p1] (mI m 40 0 0 (nI 0)) (fun r1 m2 => ∃ w3 : Int32, r1 = some (vI w3) ∧
      ((¬ w3 = 0 →
        C 151 [vR 40 0] m2 (fun r4 m5 => ∃ w6 : Int64, r4 = some (vL w6) ∧
          ((0 ≤ w6.toInt32 →
            inb p1 20 ∧ 
              ((¬ (lg_cmp (m5.2 54 0 p1.toNatClampNeg) (lN 0)) = 0 →
                C 150 [vR 40 0] m5 (fun r7 m8 => r7 = none ∧
                  inb p1 10 ∧ 
                    Q (some (vI (m8.1 58 0 p1.toNatClampNeg))) m8)) ∧
              ((lg_cmp (m5.2 54 0 p1.toNatClampNeg) (lN 0)) = 0 →
                Q (some (vI (-4 : Int32))) m5))) ∧
          (¬ 0 ≤ w6.toInt32 →
            Q (some (vI w6.toInt32)) m5)))) ∧
      (w3 = 0 →
        Q (some (vI (-1 : Int32))) m2)))) :
    wp2i xs C tX12_distance [] (some .int) Q K 2000 0 [some (vR 40 0), some (vI p1), none] [] m := h
set_option maxRecDepth 100000 in
theorem bX12_sum_0 {xs : Nat × (Nat → Int32)} {C : Nat → List v2 → Mem → (Option v2 → Mem → Prop) → Prop} {Q : Option v2 → Mem → Prop} {K : Nat → L2 → List v2 → Mem → Prop} (m : Mem) (p1 : Int32) (p2 : Int32) (p3 : Int32)
    (h : C 115 [vR 40 0, vI p1, vI p2] (mI m 40 0 0 (nI 0)) (fun r1 m2 => ∃ w3 : Int32, r1 = some (vI w3) ∧
      ((w3 = 0 →
        Q (some (vL (-1 : Int64))) m2) ∧
      (¬ w3 = 0 →
        C 113 [vL p3.toInt64, vL (lN 0), vL (lN 1)] m2 (fun r4 m5 => ∃ w6 : Int32, r4 = some (vI w6) ∧
          ((¬ w6 = 0 →
            C 151 [vR 40 0] m5 (fun r7 m8 => ∃ w9 : Int64, r7 = some (vL w9) ∧
              ((0 ≤ (lg_cmp w9 (lN 0)) →
                C 147 [vR 40 0, vI (((nI 4) * p1) + p2)] m8 (fun r10 m11 => r10 = none ∧
                  ((¬ p3 = 0 →
                    Q (some (vL (m11.2 40 0 22))) m11) ∧
                  (p3 = 0 →
                    Q (some (vL (m11.2 40 0 21))) m11)))) ∧
              (¬ 0 ≤ (lg_cmp w9 (lN 0)) →
                Q (some (vL w9)) m8)))) ∧
          (w6 = 0 →
            Q (some (vL (-1 : Int64))) m5))))))) :
    wp2i xs C tX12_sum [] (some .long) Q K 2000 0 [some (vR 40 0), some (vI p1), some (vI p2), some (vI p3), none, none] [] m := h
set_option maxRecDepth 100000 in
theorem bX12_start_0 {xs : Nat × (Nat → Int32)} {C : Nat → List v2 → Mem → (Option v2 → Mem → Prop) → Prop} {Q : Option v2 → Mem → Prop} {K : Nat → L2 → List v2 → Mem → Prop} (m : Mem) 
    (h : K 5 [some (vR 40 0), some (vI (nI 0))] [] (mL m 40 0 26 (lN 1))) :
    wp2i xs C tX12_start [5] none Q K 2000 0 [some (vR 40 0), none] [] m := h
set_option maxRecDepth 100000 in
theorem bX12_start_5 {xs : Nat × (Nat → Int32)} {C : Nat → List v2 → Mem → (Option v2 → Mem → Prop) → Prop} {Q : Option v2 → Mem → Prop} {K : Nat → L2 → List v2 → Mem → Prop} (m : Mem) (x1 : Int32)
    (h : (((nI 10) ≤ x1 →
      Q none m) ∧
    (¬ (nI 10) ≤ x1 →
      C 116 [vR 40 0, vI x1] m (fun r1 m2 => ∃ w3 : Int32, r1 = some (vI w3) ∧
        ((w3 = 0 →
          inb x1 10 ∧ 
            K 5 [some (vR 40 0), some (vI (x1 + (nI 1)))] [] (mL m2 59 0 x1.toNatClampNeg (lN 0))) ∧
        (¬ w3 = 0 →
          inb x1 10 ∧ 
            K 5 [some (vR 40 0), some (vI (x1 + (nI 1)))] [] (mL m2 59 0 x1.toNatClampNeg (lN 1)))))))) :
    wp2i xs C tX12_start [5] none Q K 2000 5 [some (vR 40 0), some (vI x1)] [] m := h
set_option maxRecDepth 100000 in
theorem bX12_onwards_0 {xs : Nat × (Nat → Int32)} {C : Nat → List v2 → Mem → (Option v2 → Mem → Prop) → Prop} {Q : Option v2 → Mem → Prop} {K : Nat → L2 → List v2 → Mem → Prop} (m : Mem) (p1 : Int32)
    (h : K 8 [some (vR 40 0), some (vI p1), some (vI (nI 0)), none, none, none, none] [] (mL m 40 0 26 ((m.2 40 0 26) * (lN 12)))) :
    wp2i xs C tX12_onwards [8, 26, 40, 131] none Q K 2000 0 [some (vR 40 0), some (vI p1), none, none, none, none, none] [] m := h
set_option maxRecDepth 100000 in
theorem bX12_onwards_8 {xs : Nat × (Nat → Int32)} {C : Nat → List v2 → Mem → (Option v2 → Mem → Prop) → Prop} {Q : Option v2 → Mem → Prop} {K : Nat → L2 → List v2 → Mem → Prop} (m : Mem) (x1 : Int32) (x2 : Int32) (o3 : Option v2) (o4 : Option v2) (o6 : Option v2)
    (h : (((m.1 40 0 1) ≤ x2 →
      K 131 [some (vR 40 0), some (vI x1), some (vI (nI 0)), o3, o4, none, o6] [] m) ∧
    (¬ (m.1 40 0 1) ≤ x2 →
      C 116 [vR 40 0, vI x2] m (fun r1 m2 => ∃ w3 : Int32, r1 = some (vI w3) ∧
        ((w3 = 0 →
          inb x2 10 ∧ 
            K 26 [some (vR 40 0), some (vI x1), some (vI x2), some (vI (nI 0)), o4, none, o6] [] (mL m2 60 0 x2.toNatClampNeg (lN 0))) ∧
        (¬ w3 = 0 →
          inb x2 10 ∧ 
            K 26 [some (vR 40 0), some (vI x1), some (vI x2), some (vI (nI 0)), o4, none, o6] [] (mL m2 60 0 x2.toNatClampNeg (m2.2 40 0 26)))))))) :
    wp2i xs C tX12_onwards [8, 26, 40, 131] none Q K 2000 8 [some (vR 40 0), some (vI x1), some (vI x2), o3, o4, none, o6] [] m := h
set_option maxRecDepth 100000 in
theorem bX12_onwards_26 {xs : Nat × (Nat → Int32)} {C : Nat → List v2 → Mem → (Option v2 → Mem → Prop) → Prop} {Q : Option v2 → Mem → Prop} {K : Nat → L2 → List v2 → Mem → Prop} (m : Mem) (x1 : Int32) (x2 : Int32) (x3 : Int32) (o4 : Option v2) (o6 : Option v2)
    (h : inb x2 10 ∧ 
      (((m.1 41 0 x2.toNatClampNeg) ≤ x3 →
        K 8 [some (vR 40 0), some (vI x1), some (vI (x2 + (nI 1))), some (vI x3), o4, none, o6] [] m) ∧
      (¬ (m.1 41 0 x2.toNatClampNeg) ≤ x3 →
        C 116 [vR 40 0, vI x2] m (fun r1 m2 => ∃ w3 : Int32, r1 = some (vI w3) ∧
          ((¬ w3 = 0 →
            K 8 [some (vR 40 0), some (vI x1), some (vI (x2 + (nI 1))), some (vI x3), o4, none, o6] [] m2) ∧
          (w3 = 0 →
            K 40 [some (vR 40 0), some (vI x1), some (vI x2), some (vI x3), some (vL (lN 0)), none, some (vI (nI 0))] [] m2)))))) :
    wp2i xs C tX12_onwards [8, 26, 40, 131] none Q K 2000 26 [some (vR 40 0), some (vI x1), some (vI x2), some (vI x3), o4, none, o6] [] m := h
set_option maxRecDepth 100000 in
theorem bX12_onwards_40 {xs : Nat × (Nat → Int32)} {C : Nat → List v2 → Mem → (Option v2 → Mem → Prop) → Prop} {Q : Option v2 → Mem → Prop} {K : Nat → L2 → List v2 → Mem → Prop} (m : Mem) (x1 : Int32) (x2 : Int32) (x3 : Int32) (x4 : Int64) (x6 : Int32)
    (h : inb (((nI 4) * x2) + x3) 40 ∧ 
      (((m.1 44 0 (((nI 4) * x2) + x3).toNatClampNeg) ≤ x6 →
        C 128 [vR 40 0, vI x2, vI x1] m (fun r1 m2 => ∃ w3 : Int32, r1 = some (vI w3) ∧
          ((w3 = 0 →
            inb x2 10 ∧ 
              ((0 ≤ (lg_cmp x4 (m2.2 60 0 x2.toNatClampNeg)) →
                ((x3 = 0 →
                  inb x2 10 ∧ 
                    K 26 [some (vR 40 0), some (vI x1), some (vI x2), some (vI (x3 + (nI 1))), some (vL x4), none, some (vI (nI 0))] [] (mL m2 60 0 x2.toNatClampNeg x4)) ∧
                (¬ x3 = 0 →
                  (((nI 0) = 0 →
                    inb x2 10 ∧ 
                      inb x2 10 ∧ 
                        K 26 [some (vR 40 0), some (vI x1), some (vI x2), some (vI (x3 + (nI 1))), some (vL x4), none, some (vI (nI 0))] [] (mL m2 60 0 x2.toNatClampNeg (m2.2 60 0 x2.toNatClampNeg))) ∧
                  (¬ (nI 0) = 0 →
                    inb x2 10 ∧ 
                      K 26 [some (vR 40 0), some (vI x1), some (vI x2), some (vI (x3 + (nI 1))), some (vL x4), none, some (vI (nI 0))] [] (mL m2 60 0 x2.toNatClampNeg x4)))))) ∧
              (¬ 0 ≤ (lg_cmp x4 (m2.2 60 0 x2.toNatClampNeg)) →
                ((x3 = 0 →
                  inb x2 10 ∧ 
                    K 26 [some (vR 40 0), some (vI x1), some (vI x2), some (vI (x3 + (nI 1))), some (vL x4), none, some (vI (nI 1))] [] (mL m2 60 0 x2.toNatClampNeg x4)) ∧
                (¬ x3 = 0 →
                  (((nI 1) = 0 →
                    inb x2 10 ∧ 
                      inb x2 10 ∧ 
                        K 26 [some (vR 40 0), some (vI x1), some (vI x2), some (vI (x3 + (nI 1))), some (vL x4), none, some (vI (nI 1))] [] (mL m2 60 0 x2.toNatClampNeg (m2.2 60 0 x2.toNatClampNeg))) ∧
                  (¬ (nI 1) = 0 →
                    inb x2 10 ∧ 
                      K 26 [some (vR 40 0), some (vI x1), some (vI x2), some (vI (x3 + (nI 1))), some (vL x4), none, some (vI (nI 1))] [] (mL m2 60 0 x2.toNatClampNeg x4)))))))) ∧
          (¬ w3 = 0 →
            inb x2 10 ∧ 
              (((lg_cmp x4 (m2.2 60 0 x2.toNatClampNeg)) ≤ 0 →
                ((x3 = 0 →
                  inb x2 10 ∧ 
                    K 26 [some (vR 40 0), some (vI x1), some (vI x2), some (vI (x3 + (nI 1))), some (vL x4), none, some (vI (nI 0))] [] (mL m2 60 0 x2.toNatClampNeg x4)) ∧
                (¬ x3 = 0 →
                  (((nI 0) = 0 →
                    inb x2 10 ∧ 
                      inb x2 10 ∧ 
                        K 26 [some (vR 40 0), some (vI x1), some (vI x2), some (vI (x3 + (nI 1))), some (vL x4), none, some (vI (nI 0))] [] (mL m2 60 0 x2.toNatClampNeg (m2.2 60 0 x2.toNatClampNeg))) ∧
                  (¬ (nI 0) = 0 →
                    inb x2 10 ∧ 
                      K 26 [some (vR 40 0), some (vI x1), some (vI x2), some (vI (x3 + (nI 1))), some (vL x4), none, some (vI (nI 0))] [] (mL m2 60 0 x2.toNatClampNeg x4)))))) ∧
              (¬ (lg_cmp x4 (m2.2 60 0 x2.toNatClampNeg)) ≤ 0 →
                ((x3 = 0 →
                  inb x2 10 ∧ 
                    K 26 [some (vR 40 0), some (vI x1), some (vI x2), some (vI (x3 + (nI 1))), some (vL x4), none, some (vI (nI 1))] [] (mL m2 60 0 x2.toNatClampNeg x4)) ∧
                (¬ x3 = 0 →
                  (((nI 1) = 0 →
                    inb x2 10 ∧ 
                      inb x2 10 ∧ 
                        K 26 [some (vR 40 0), some (vI x1), some (vI x2), some (vI (x3 + (nI 1))), some (vL x4), none, some (vI (nI 1))] [] (mL m2 60 0 x2.toNatClampNeg (m2.2 60 0 x2.toNatClampNeg))) ∧
                  (¬ (nI 1) = 0 →
                    inb x2 10 ∧ 
                      K 26 [some (vR 40 0), some (vI x1), some (vI x2), some (vI (x3 + (nI 1))), some (vL x4), none, some (vI (nI 1))] [] (mL m2 60 0 x2.toNatClampNeg x4))))))))))) ∧
      (¬ (m.1 44 0 (((nI 4) * x2) + x3).toNatClampNeg) ≤ x6 →
        inb ((((nI 16) * x2) + ((nI 4) * x3)) + x6) 160 ∧ 
          inb ((((nI 16) * x2) + ((nI 4) * x3)) + x6) 160 ∧ 
            inb (m.1 45 0 ((((nI 16) * x2) + ((nI 4) * x3)) + x6).toNatClampNeg) 10 ∧ 
              K 40 [some (vR 40 0), some (vI x1), some (vI x2), some (vI x3), some (vL (x4 + ((m.1 46 0 ((((nI 16) * x2) + ((nI 4) * x3)) + x6).toNatClampNeg).toInt64 * (m.2 59 0 (m.1 45 0 ((((nI 16) * x2) + ((nI 4) * x3)) + x6).toNatClampNeg).toNatClampNeg)))), none, some (vI (x6 + (nI 1)))] [] m))) :
    wp2i xs C tX12_onwards [8, 26, 40, 131] none Q K 2000 40 [some (vR 40 0), some (vI x1), some (vI x2), some (vI x3), some (vL x4), none, some (vI x6)] [] m := h
set_option maxRecDepth 100000 in
theorem bX12_onwards_131 {xs : Nat × (Nat → Int32)} {C : Nat → List v2 → Mem → (Option v2 → Mem → Prop) → Prop} {Q : Option v2 → Mem → Prop} {K : Nat → L2 → List v2 → Mem → Prop} (m : Mem) (x1 : Int32) (x2 : Int32) (o3 : Option v2) (o4 : Option v2) (o6 : Option v2)
    (h : (((m.1 40 0 1) ≤ x2 →
      Q none m) ∧
    (¬ (m.1 40 0 1) ≤ x2 →
      inb x2 10 ∧ 
        inb x2 10 ∧ 
          K 131 [some (vR 40 0), some (vI x1), some (vI (x2 + (nI 1))), o3, o4, none, o6] [] (mL m 59 0 x2.toNatClampNeg (m.2 60 0 x2.toNatClampNeg))))) :
    wp2i xs C tX12_onwards [8, 26, 40, 131] none Q K 2000 131 [some (vR 40 0), some (vI x1), some (vI x2), o3, o4, none, o6] [] m := h
set_option maxRecDepth 100000 in
theorem bX12_within_0 {xs : Nat × (Nat → Int32)} {C : Nat → List v2 → Mem → (Option v2 → Mem → Prop) → Prop} {Q : Option v2 → Mem → Prop} {K : Nat → L2 → List v2 → Mem → Prop} (m : Mem) (p1 : Int32) (p2 : Int32) (p3 : Int32) (p4 : Int32)
    (h : C 114 [vR 40 0, vI p1] (mI m 40 0 0 (nI 0)) (fun r1 m2 => ∃ w3 : Int32, r1 = some (vI w3) ∧
      ((w3 = 0 →
        Q (some (vL (-1 : Int64))) m2) ∧
      (¬ w3 = 0 →
        C 113 [vL p2.toInt64, vL (lN 0), vL (lN 10)] m2 (fun r4 m5 => ∃ w6 : Int32, r4 = some (vI w6) ∧
          ((w6 = 0 →
            Q (some (vL (-1 : Int64))) m5) ∧
          (¬ w6 = 0 →
            C 113 [vL p4.toInt64, vL (lN 0), vL (lN 1)] m5 (fun r7 m8 => ∃ w9 : Int32, r7 = some (vI w9) ∧
              ((¬ w9 = 0 →
                C 124 [vR 40 0] m8 (fun r10 m11 => ∃ w12 : Int32, r10 = some (vI w12) ∧
                  ((w12 ≤ 0 →
                    C 155 [vR 40 0] m11 (fun r13 m14 => r13 = none ∧
                      K 30 [some (vR 40 0), some (vI p1), some (vI p2), some (vI p3), some (vI p4), some (vI (nI 0)), none] [] m14)) ∧
                  (¬ w12 ≤ 0 →
                    Q (some (vL (-2 : Int64))) m11)))) ∧
              (w9 = 0 →
                Q (some (vL (-1 : Int64))) m8)))))))))) :
    wp2i xs C tX12_within [30] (some .long) Q K 2000 0 [some (vR 40 0), some (vI p1), some (vI p2), some (vI p3), some (vI p4), none, none] [] m := h
set_option maxRecDepth 100000 in
theorem bX12_within_30 {xs : Nat × (Nat → Int32)} {C : Nat → List v2 → Mem → (Option v2 → Mem → Prop) → Prop} {Q : Option v2 → Mem → Prop} {K : Nat → L2 → List v2 → Mem → Prop} (m : Mem) (x1 : Int32) (x2 : Int32) (x3 : Int32) (x4 : Int32) (x5 : Int32)
    (h : ((x2 ≤ x5 →
      inb x1 10 ∧ 
        C 134 [vR 40 0, vL (m.2 59 0 x1.toNatClampNeg), vL (m.2 40 0 26)] m (fun r1 m2 => ∃ w3 : Int64, r1 = some (vL w3) ∧
          ((¬ x4 = 0 →
            ¬ w3 = 0 ∧ 
              Q (some (vL ((m2.2 40 0 26) / w3))) m2) ∧
          (x4 = 0 →
            inb x1 10 ∧ 
              ¬ w3 = 0 ∧ 
                Q (some (vL ((m2.2 59 0 x1.toNatClampNeg) / w3))) m2)))) ∧
    (¬ x2 ≤ x5 →
      C 156 [vR 40 0, vI x3] m (fun r4 m5 => r4 = none ∧
        K 30 [some (vR 40 0), some (vI x1), some (vI x2), some (vI x3), some (vI x4), some (vI (x5 + (nI 1))), none] [] m5)))) :
    wp2i xs C tX12_within [30] (some .long) Q K 2000 30 [some (vR 40 0), some (vI x1), some (vI x2), some (vI x3), some (vI x4), some (vI x5), none] [] m := h
set_option maxRecDepth 100000 in
theorem bX12_bound_0 {xs : Nat × (Nat → Int32)} {C : Nat → List v2 → Mem → (Option v2 → Mem → Prop) → Prop} {Q : Option v2 → Mem → Prop} {K : Nat → L2 → List v2 → Mem → Prop} (m : Mem) (p1 : Int32) (p2 : Int32)
    (h : C 114 [vR 40 0, vI p1] (mI m 40 0 0 (nI 0)) (fun r1 m2 => ∃ w3 : Int32, r1 = some (vI w3) ∧
      ((w3 = 0 →
        Q (some (vI (-1 : Int32))) m2) ∧
      (¬ w3 = 0 →
        C 113 [vL p2.toInt64, vL (lN 0), vL (lN 12)] m2 (fun r4 m5 => ∃ w6 : Int32, r4 = some (vI w6) ∧
          ((¬ w6 = 0 →
            C 124 [vR 40 0] m5 (fun r7 m8 => ∃ w9 : Int32, r7 = some (vI w9) ∧
              ((w9 ≤ 0 →
                C 155 [vR 40 0] m8 (fun r10 m11 => r10 = none ∧
                  K 24 [some (vR 40 0), some (vI p1), some (vI p2), some (vI (nI 0))] [] m11)) ∧
              (¬ w9 ≤ 0 →
                Q (some (vI (-2 : Int32))) m8)))) ∧
          (w6 = 0 →
            Q (some (vI (-1 : Int32))) m5))))))) :
    wp2i xs C tX12_bound [24] (some .int) Q K 2000 0 [some (vR 40 0), some (vI p1), some (vI p2), none] [] m := h
set_option maxRecDepth 100000 in
theorem bX12_bound_24 {xs : Nat × (Nat → Int32)} {C : Nat → List v2 → Mem → (Option v2 → Mem → Prop) → Prop} {Q : Option v2 → Mem → Prop} {K : Nat → L2 → List v2 → Mem → Prop} (m : Mem) (x1 : Int32) (x2 : Int32) (x3 : Int32)
    (h : (((nI 10) < x3 →
      Q (some (vI (-3 : Int32))) m) ∧
    (¬ (nI 10) < x3 →
      inb x1 10 ∧ 
        (((lg_cmp ((lN 12) * (m.2 59 0 x1.toNatClampNeg)) (x2.toInt64 * (m.2 40 0 26))) < 0 →
          C 156 [vR 40 0, vI (nI 0)] m (fun r1 m2 => r1 = none ∧
            K 24 [some (vR 40 0), some (vI x1), some (vI x2), some (vI (x3 + (nI 1)))] [] m2)) ∧
        (¬ (lg_cmp ((lN 12) * (m.2 59 0 x1.toNatClampNeg)) (x2.toInt64 * (m.2 40 0 26))) < 0 →
          Q (some (vI x3)) m))))) :
    wp2i xs C tX12_bound [24] (some .int) Q K 2000 24 [some (vR 40 0), some (vI x1), some (vI x2), some (vI x3)] [] m := h
set_option maxRecDepth 100000 in
theorem bX12_sets_0 {xs : Nat × (Nat → Int32)} {C : Nat → List v2 → Mem → (Option v2 → Mem → Prop) → Prop} {Q : Option v2 → Mem → Prop} {K : Nat → L2 → List v2 → Mem → Prop} (m : Mem) (p1 : Int32)
    (h : C 113 [vL p1.toInt64, vL (lN 0), vL (lN 3)] (mI m 40 0 0 (nI 0)) (fun r1 m2 => ∃ w3 : Int32, r1 = some (vI w3) ∧
      ((¬ w3 = 0 →
        C 124 [vR 40 0] m2 (fun r4 m5 => ∃ w6 : Int32, r4 = some (vI w6) ∧
          ((w6 ≤ 0 →
            ((p1 ≤ (nI 1) →
              ¬ (nI 2) = 0 ∧ 
                ((¬ (p1 - p1 / (nI 2) * (nI 2)) = 0 →
                  C 131 [vR 40 0] m5 (fun r7 m8 => ∃ w9 : Int32, r7 = some (vI w9) ∧
                    C 132 [vR 40 0, vI (nI 0)] m8 (fun r10 m11 => ∃ w12 : Int32, r10 = some (vI w12) ∧
                      Q (some (vI (w9 &&& (w12 ^^^ (-1 : Int32))))) m11))) ∧
                ((p1 - p1 / (nI 2) * (nI 2)) = 0 →
                  C 133 [vR 40 0, vI (nI 0)] m5 (fun r13 m14 => ∃ w15 : Int32, r13 = some (vI w15) ∧
                    Q (some (vI w15)) m14)))) ∧
            (¬ p1 ≤ (nI 1) →
              ¬ (nI 2) = 0 ∧ 
                ((¬ (p1 - p1 / (nI 2) * (nI 2)) = 0 →
                  C 131 [vR 40 0] m5 (fun r16 m17 => ∃ w18 : Int32, r16 = some (vI w18) ∧
                    C 132 [vR 40 0, vI (nI 1)] m17 (fun r19 m20 => ∃ w21 : Int32, r19 = some (vI w21) ∧
                      Q (some (vI (w18 &&& (w21 ^^^ (-1 : Int32))))) m20))) ∧
                ((p1 - p1 / (nI 2) * (nI 2)) = 0 →
                  C 133 [vR 40 0, vI (nI 1)] m5 (fun r22 m23 => ∃ w24 : Int32, r22 = some (vI w24) ∧
                    Q (some (vI w24)) m23)))))) ∧
          (¬ w6 ≤ 0 →
            Q (some (vI (-2 : Int32))) m5)))) ∧
      (w3 = 0 →
        Q (some (vI (-1 : Int32))) m2)))) :
    wp2i xs C tX12_sets [] (some .int) Q K 2000 0 [some (vR 40 0), some (vI p1), none] [] m := h
set_option maxRecDepth 100000 in
theorem bX12_reachedFrom_0 {xs : Nat × (Nat → Int32)} {C : Nat → List v2 → Mem → (Option v2 → Mem → Prop) → Prop} {Q : Option v2 → Mem → Prop} {K : Nat → L2 → List v2 → Mem → Prop} (m : Mem) (p1 : Int32) (p2 : Int32)
    (h : K 6 [some (vR 40 0), some (vI p1), some (vI p2), some (vI ((nI 1) <<< (p1 &&& 31))), some (vI (nI 1)), none, none, none, none] [] m) :
    wp2i xs C tX12_reachedFrom [6, 12, 48] (some .int) Q K 2000 0 [some (vR 40 0), some (vI p1), some (vI p2), none, none, none, none, none, none] [] m := h
set_option maxRecDepth 100000 in
theorem bX12_reachedFrom_6 {xs : Nat × (Nat → Int32)} {C : Nat → List v2 → Mem → (Option v2 → Mem → Prop) → Prop} {Q : Option v2 → Mem → Prop} {K : Nat → L2 → List v2 → Mem → Prop} (m : Mem) (x1 : Int32) (x2 : Int32) (x3 : Int32) (x4 : Int32) (o5 : Option v2) (o6 : Option v2) (o7 : Option v2) (o8 : Option v2)
    (h : ((x4 = 0 →
      Q (some (vI x3)) m) ∧
    (¬ x4 = 0 →
      K 12 [some (vR 40 0), some (vI x1), some (vI x2), some (vI x3), some (vI x4), some (vI x3), some (vI (nI 0)), o7, o8] [] m))) :
    wp2i xs C tX12_reachedFrom [6, 12, 48] (some .int) Q K 2000 6 [some (vR 40 0), some (vI x1), some (vI x2), some (vI x3), some (vI x4), o5, o6, o7, o8] [] m := h
set_option maxRecDepth 100000 in
theorem bX12_reachedFrom_12 {xs : Nat × (Nat → Int32)} {C : Nat → List v2 → Mem → (Option v2 → Mem → Prop) → Prop} {Q : Option v2 → Mem → Prop} {K : Nat → L2 → List v2 → Mem → Prop} (m : Mem) (x1 : Int32) (x2 : Int32) (x3 : Int32) (x4 : Int32) (x5 : Int32) (x6 : Int32) (o7 : Option v2) (o8 : Option v2)
    (h : ((((nI 4) * (m.1 40 0 1)) ≤ x6 →
      ((x3 = x5 →
        K 6 [some (vR 40 0), some (vI x1), some (vI x2), some (vI x3), some (vI (nI 0)), some (vI x5), some (vI x6), o7, o8] [] m) ∧
      (¬ x3 = x5 →
        K 6 [some (vR 40 0), some (vI x1), some (vI x2), some (vI x3), some (vI (nI 1)), some (vI x5), some (vI x6), o7, o8] [] m))) ∧
    (¬ ((nI 4) * (m.1 40 0 1)) ≤ x6 →
      ¬ (nI 4) = 0 ∧ 
        ((¬ ((x3 >>> ((x6 / (nI 4)) &&& 31)) &&& (nI 1)) = (nI 1) →
          K 48 [some (vR 40 0), some (vI x1), some (vI x2), some (vI x3), some (vI x4), some (vI x5), some (vI x6), some (vI (nI 0)), some (vI (nI 0))] [] m) ∧
        (((x3 >>> ((x6 / (nI 4)) &&& 31)) &&& (nI 1)) = (nI 1) →
          ¬ (nI 4) = 0 ∧ 
            ¬ (nI 4) = 0 ∧ 
              inb (x6 / (nI 4)) 10 ∧ 
                (((m.1 41 0 (x6 / (nI 4)).toNatClampNeg) ≤ (x6 - x6 / (nI 4) * (nI 4)) →
                  K 48 [some (vR 40 0), some (vI x1), some (vI x2), some (vI x3), some (vI x4), some (vI x5), some (vI x6), some (vI (nI 0)), some (vI (nI 0))] [] m) ∧
                (¬ (m.1 41 0 (x6 / (nI 4)).toNatClampNeg) ≤ (x6 - x6 / (nI 4) * (nI 4)) →
                  C 126 [vR 40 0, vI x6, vI x2] m (fun r1 m2 => ∃ w3 : Int32, r1 = some (vI w3) ∧
                    ((w3 = 0 →
                      K 48 [some (vR 40 0), some (vI x1), some (vI x2), some (vI x3), some (vI x4), some (vI x5), some (vI x6), some (vI (nI 0)), some (vI (nI 0))] [] m2) ∧
                    (¬ w3 = 0 →
                      K 48 [some (vR 40 0), some (vI x1), some (vI x2), some (vI x3), some (vI x4), some (vI x5), some (vI x6), some (vI (nI 1)), some (vI (nI 0))] [] m2)))))))))) :
    wp2i xs C tX12_reachedFrom [6, 12, 48] (some .int) Q K 2000 12 [some (vR 40 0), some (vI x1), some (vI x2), some (vI x3), some (vI x4), some (vI x5), some (vI x6), o7, o8] [] m := h
set_option maxRecDepth 100000 in
theorem bX12_reachedFrom_48 {xs : Nat × (Nat → Int32)} {C : Nat → List v2 → Mem → (Option v2 → Mem → Prop) → Prop} {Q : Option v2 → Mem → Prop} {K : Nat → L2 → List v2 → Mem → Prop} (m : Mem) (x1 : Int32) (x2 : Int32) (x3 : Int32) (x4 : Int32) (x5 : Int32) (x6 : Int32) (x7 : Int32) (x8 : Int32)
    (h : inb x6 40 ∧ 
      (((m.1 44 0 x6.toNatClampNeg) ≤ x8 →
        K 12 [some (vR 40 0), some (vI x1), some (vI x2), some (vI x3), some (vI x4), some (vI x5), some (vI (x6 + (nI 1))), some (vI x7), some (vI x8)] [] m) ∧
      (¬ (m.1 44 0 x6.toNatClampNeg) ≤ x8 →
        ((x7 = 0 →
          K 12 [some (vR 40 0), some (vI x1), some (vI x2), some (vI x3), some (vI x4), some (vI x5), some (vI (x6 + (nI 1))), some (vI x7), some (vI x8)] [] m) ∧
        (¬ x7 = 0 →
          inb (((nI 4) * x6) + x8) 160 ∧ 
            K 48 [some (vR 40 0), some (vI x1), some (vI x2), some (vI (x3 ||| ((nI 1) <<< ((m.1 45 0 (((nI 4) * x6) + x8).toNatClampNeg) &&& 31)))), some (vI x4), some (vI x5), some (vI x6), some (vI x7), some (vI (x8 + (nI 1)))] [] m))))) :
    wp2i xs C tX12_reachedFrom [6, 12, 48] (some .int) Q K 2000 48 [some (vR 40 0), some (vI x1), some (vI x2), some (vI x3), some (vI x4), some (vI x5), some (vI x6), some (vI x7), some (vI x8)] [] m := h
set_option maxRecDepth 100000 in
theorem bX12_reached_0 {xs : Nat × (Nat → Int32)} {C : Nat → List v2 → Mem → (Option v2 → Mem → Prop) → Prop} {Q : Option v2 → Mem → Prop} {K : Nat → L2 → List v2 → Mem → Prop} (m : Mem) (p1 : Int32)
    (h : C 114 [vR 40 0, vI p1] (mI m 40 0 0 (nI 0)) (fun r1 m2 => ∃ w3 : Int32, r1 = some (vI w3) ∧
      ((w3 = 0 →
        Q (some (vI (-1 : Int32))) m2) ∧
      (¬ w3 = 0 →
        C 131 [vR 40 0] m2 (fun r4 m5 => ∃ w6 : Int32, r4 = some (vI w6) ∧
          C 160 [vR 40 0, vI p1, vI w6] m5 (fun r7 m8 => ∃ w9 : Int32, r7 = some (vI w9) ∧
            Q (some (vI w9)) m8)))))) :
    wp2i xs C tX12_reached [] (some .int) Q K 2000 0 [some (vR 40 0), some (vI p1)] [] m := h
set_option maxRecDepth 100000 in
theorem bX12_sureChosen_0 {xs : Nat × (Nat → Int32)} {C : Nat → List v2 → Mem → (Option v2 → Mem → Prop) → Prop} {Q : Option v2 → Mem → Prop} {K : Nat → L2 → List v2 → Mem → Prop} (m : Mem) (p1 : Int32)
    (h : K 4 [some (vR 40 0), some (vI p1), some (vI p1), some (vI (nI 1)), none, none, none, none, none] [] m) :
    wp2i xs C tX12_sureChosen [4, 21] (some .int) Q K 2000 0 [some (vR 40 0), some (vI p1), none, none, none, none, none, none, none] [] m := h
set_option maxRecDepth 100000 in
theorem bX12_sureChosen_4 {xs : Nat × (Nat → Int32)} {C : Nat → List v2 → Mem → (Option v2 → Mem → Prop) → Prop} {Q : Option v2 → Mem → Prop} {K : Nat → L2 → List v2 → Mem → Prop} (m : Mem) (x1 : Int32) (x2 : Int32) (x3 : Int32) (o4 : Option v2) (o5 : Option v2) (o6 : Option v2) (o7 : Option v2) (o8 : Option v2)
    (h : ((x3 = 0 →
      Q (some (vI x2)) m) ∧
    (¬ x3 = 0 →
      C 139 [vR 40 0, vI x2, vI (m.1 40 0 2)] m (fun r1 m2 => ∃ w3 : Int32, r1 = some (vI w3) ∧
        K 21 [some (vR 40 0), some (vI x1), some (vI x2), some (vI x3), some (vI (x2 ||| (m.1 40 0 2))), some (vI (nI 0)), some (vI w3), some (vI (nI 0)), o8] [] m2)))) :
    wp2i xs C tX12_sureChosen [4, 21] (some .int) Q K 2000 4 [some (vR 40 0), some (vI x1), some (vI x2), some (vI x3), o4, o5, o6, o7, o8] [] m := h
set_option maxRecDepth 100000 in
theorem bX12_sureChosen_21 {xs : Nat × (Nat → Int32)} {C : Nat → List v2 → Mem → (Option v2 → Mem → Prop) → Prop} {Q : Option v2 → Mem → Prop} {K : Nat → L2 → List v2 → Mem → Prop} (m : Mem) (x1 : Int32) (x2 : Int32) (x3 : Int32) (x4 : Int32) (x5 : Int32) (x6 : Int32) (x7 : Int32) (o8 : Option v2)
    (h : (((m.1 40 0 1) ≤ x7 →
      ((x5 = x2 →
        K 4 [some (vR 40 0), some (vI x1), some (vI x5), some (vI (nI 0)), some (vI x4), some (vI x5), some (vI x6), some (vI x7), o8] [] m) ∧
      (¬ x5 = x2 →
        K 4 [some (vR 40 0), some (vI x1), some (vI x5), some (vI (nI 1)), some (vI x4), some (vI x5), some (vI x6), some (vI x7), o8] [] m))) ∧
    (¬ (m.1 40 0 1) ≤ x7 →
      ((¬ ((x6 >>> (x7 &&& 31)) &&& (nI 1)) = (nI 1) →
        (((nI 0) = 0 →
          K 21 [some (vR 40 0), some (vI x1), some (vI x2), some (vI x3), some (vI x4), some (vI (x5 ||| (nI 0))), some (vI x6), some (vI (x7 + (nI 1))), some (vI (nI 0))] [] m) ∧
        (¬ (nI 0) = 0 →
          K 21 [some (vR 40 0), some (vI x1), some (vI x2), some (vI x3), some (vI x4), some (vI (x5 ||| ((nI 1) <<< (x7 &&& 31)))), some (vI x6), some (vI (x7 + (nI 1))), some (vI (nI 0))] [] m))) ∧
      (((x6 >>> (x7 &&& 31)) &&& (nI 1)) = (nI 1) →
        inb x7 10 ∧ 
          C 126 [vR 40 0, vI (((nI 4) * x7) + (m.1 48 0 x7.toNatClampNeg)), vI x4] m (fun r1 m2 => ∃ w3 : Int32, r1 = some (vI w3) ∧
            ((w3 = 0 →
              (((nI 0) = 0 →
                K 21 [some (vR 40 0), some (vI x1), some (vI x2), some (vI x3), some (vI x4), some (vI (x5 ||| (nI 0))), some (vI x6), some (vI (x7 + (nI 1))), some (vI (nI 0))] [] m2) ∧
              (¬ (nI 0) = 0 →
                K 21 [some (vR 40 0), some (vI x1), some (vI x2), some (vI x3), some (vI x4), some (vI (x5 ||| ((nI 1) <<< (x7 &&& 31)))), some (vI x6), some (vI (x7 + (nI 1))), some (vI (nI 0))] [] m2))) ∧
            (¬ w3 = 0 →
              (((nI 1) = 0 →
                K 21 [some (vR 40 0), some (vI x1), some (vI x2), some (vI x3), some (vI x4), some (vI (x5 ||| (nI 0))), some (vI x6), some (vI (x7 + (nI 1))), some (vI (nI 1))] [] m2) ∧
              (¬ (nI 1) = 0 →
                K 21 [some (vR 40 0), some (vI x1), some (vI x2), some (vI x3), some (vI x4), some (vI (x5 ||| ((nI 1) <<< (x7 &&& 31)))), some (vI x6), some (vI (x7 + (nI 1))), some (vI (nI 1))] [] m2)))))))))) :
    wp2i xs C tX12_sureChosen [4, 21] (some .int) Q K 2000 21 [some (vR 40 0), some (vI x1), some (vI x2), some (vI x3), some (vI x4), some (vI x5), some (vI x6), some (vI x7), o8] [] m := h
set_option maxRecDepth 100000 in
theorem bX12_costsChosen_0 {xs : Nat × (Nat → Int32)} {C : Nat → List v2 → Mem → (Option v2 → Mem → Prop) → Prop} {Q : Option v2 → Mem → Prop} {K : Nat → L2 → List v2 → Mem → Prop} (m : Mem) (p1 : Int32)
    (h : K 5 [some (vR 40 0), some (vI p1), some (vI (nI 0))] [] (mI m 40 0 12 (nI 0))) :
    wp2i xs C tX12_costsChosen [5, 32] none Q K 2000 0 [some (vR 40 0), some (vI p1), none] [] m := h
set_option maxRecDepth 100000 in
theorem bX12_costsChosen_5 {xs : Nat × (Nat → Int32)} {C : Nat → List v2 → Mem → (Option v2 → Mem → Prop) → Prop} {Q : Option v2 → Mem → Prop} {K : Nat → L2 → List v2 → Mem → Prop} (m : Mem) (x1 : Int32) (x2 : Int32)
    (h : (((m.1 40 0 1) ≤ x2 →
      K 32 [some (vR 40 0), some (vI x1), some (vI (nI 0))] [] m) ∧
    (¬ (m.1 40 0 1) ≤ x2 →
      ((¬ ((x1 >>> (x2 &&& 31)) &&& (nI 1)) = (nI 1) →
        K 5 [some (vR 40 0), some (vI x1), some (vI (x2 + (nI 1)))] [] m) ∧
      (((x1 >>> (x2 &&& 31)) &&& (nI 1)) = (nI 1) →
        inb (m.1 40 0 12) 10 ∧ 
          K 5 [some (vR 40 0), some (vI x1), some (vI (x2 + (nI 1)))] [] (mI (mI m 49 0 (m.1 40 0 12).toNatClampNeg x2) 40 0 12 (((mI m 49 0 (m.1 40 0 12).toNatClampNeg x2).1 40 0 12) + (nI 1)))))))) :
    wp2i xs C tX12_costsChosen [5, 32] none Q K 2000 5 [some (vR 40 0), some (vI x1), some (vI x2)] [] m := h
set_option maxRecDepth 100000 in
theorem bX12_costsChosen_32 {xs : Nat × (Nat → Int32)} {C : Nat → List v2 → Mem → (Option v2 → Mem → Prop) → Prop} {Q : Option v2 → Mem → Prop} {K : Nat → L2 → List v2 → Mem → Prop} (m : Mem) (x1 : Int32) (x2 : Int32)
    (h : (((m.1 40 0 12) ≤ x2 →
      C 137 [vR 40 0] m (fun r1 m2 => r1 = none ∧
        Q none m2)) ∧
    (¬ (m.1 40 0 12) ≤ x2 →
      inb x2 10 ∧ 
        C 138 [vR 40 0, vI x2, vI (m.1 49 0 x2.toNatClampNeg)] m (fun r3 m4 => r3 = none ∧
          inb x2 10 ∧ 
            inb x2 10 ∧ 
              inb (m4.1 49 0 x2.toNatClampNeg) 10 ∧ 
                inb (((nI 4) * (m4.1 49 0 x2.toNatClampNeg)) + (m4.1 48 0 (m4.1 49 0 x2.toNatClampNeg).toNatClampNeg)) 40 ∧ 
                  inb x2 6 ∧ 
                    K 32 [some (vR 40 0), some (vI x1), some (vI (x2 + (nI 1)))] [] (mL m4 51 0 x2.toNatClampNeg ((lN 12) * (m4.1 43 0 (((nI 4) * (m4.1 49 0 x2.toNatClampNeg)) + (m4.1 48 0 (m4.1 49 0 x2.toNatClampNeg).toNatClampNeg)).toNatClampNeg).toInt64)))))) :
    wp2i xs C tX12_costsChosen [5, 32] none Q K 2000 32 [some (vR 40 0), some (vI x1), some (vI x2)] [] m := h
set_option maxRecDepth 100000 in
theorem bX12_cost_0 {xs : Nat × (Nat → Int32)} {C : Nat → List v2 → Mem → (Option v2 → Mem → Prop) → Prop} {Q : Option v2 → Mem → Prop} {K : Nat → L2 → List v2 → Mem → Prop} (m : Mem) (p1 : Int32) (p2 : Int32)
    (h : C 114 [vR 40 0, vI p1] (mI m 40 0 0 (nI 0)) (fun r1 m2 => ∃ w3 : Int32, r1 = some (vI w3) ∧
      ((w3 = 0 →
        Q (some (vL (-1 : Int64))) m2) ∧
      (¬ w3 = 0 →
        C 113 [vL p2.toInt64, vL (lN 0), vL (lN 1)] m2 (fun r4 m5 => ∃ w6 : Int32, r4 = some (vI w6) ∧
          ((¬ w6 = 0 →
            C 124 [vR 40 0] m5 (fun r7 m8 => ∃ w9 : Int32, r7 = some (vI w9) ∧
              ((w9 ≤ 0 →
                C 133 [vR 40 0, vI (nI 0)] m8 (fun r10 m11 => ∃ w12 : Int32, r10 = some (vI w12) ∧
                  K 35 [some (vR 40 0), some (vI p1), some (vI p2), some (vI w12), some (vI (w12 &&& ((m11.1 40 0 2) ^^^ (-1 : Int32)))), some (vI (nI 0)), some (vI (nI 0)), none, none, none, none, none] [] m11)) ∧
              (¬ w9 ≤ 0 →
                Q (some (vL (-2 : Int64))) m8)))) ∧
          (w6 = 0 →
            Q (some (vL (-1 : Int64))) m5))))))) :
    wp2i xs C tX12_cost [35, 77, 93] (some .long) Q K 2000 0 [some (vR 40 0), some (vI p1), some (vI p2), none, none, none, none, none, none, none, none, none] [] m := h
set_option maxRecDepth 100000 in
theorem bX12_cost_35 {xs : Nat × (Nat → Int32)} {C : Nat → List v2 → Mem → (Option v2 → Mem → Prop) → Prop} {Q : Option v2 → Mem → Prop} {K : Nat → L2 → List v2 → Mem → Prop} (m : Mem) (x1 : Int32) (x2 : Int32) (x3 : Int32) (x4 : Int32) (x5 : Int32) (x6 : Int32)
    (h : (((m.1 40 0 1) ≤ x6 →
      ((¬ x5 = 0 →
        Q (some (vL (-3 : Int64))) m) ∧
      (x5 = 0 →
        C 143 [vR 40 0, vI x4] m (fun r1 m2 => ∃ w3 : Int32, r1 = some (vI w3) ∧
          ((w3 ≤ (nI 5) →
            ((¬ ((x3 >>> (x1 &&& 31)) &&& (nI 1)) = 0 →
              C 116 [vR 40 0, vI x1] m2 (fun r4 m5 => ∃ w6 : Int32, r4 = some (vI w6) ∧
                ((w6 = 0 →
                  K 77 [some (vR 40 0), some (vI x1), some (vI x2), some (vI x3), some (vI x4), some (vI x5), some (vI (nI 0)), none, none, none, none, none] [] m5) ∧
                (¬ w6 = 0 →
                  Q (some (vL x2.toInt64)) m5)))) ∧
            (((x3 >>> (x1 &&& 31)) &&& (nI 1)) = 0 →
              Q (some (vL (-4 : Int64))) m2))) ∧
          (¬ w3 ≤ (nI 5) →
            Q (some (vL (-3 : Int64))) m2)))))) ∧
    (¬ (m.1 40 0 1) ≤ x6 →
      ((¬ x5 = 0 →
        K 35 [some (vR 40 0), some (vI x1), some (vI x2), some (vI x3), some (vI x4), some (vI (nI 1)), some (vI (x6 + (nI 1))), none, none, none, none, none] [] m) ∧
      (x5 = 0 →
        C 117 [vR 40 0, vI x6] m (fun r7 m8 => ∃ w9 : Int32, r7 = some (vI w9) ∧
          ((w9 = 0 →
            K 35 [some (vR 40 0), some (vI x1), some (vI x2), some (vI x3), some (vI x4), some (vI (nI 0)), some (vI (x6 + (nI 1))), none, none, none, none, none] [] m8) ∧
          (¬ w9 = 0 →
            K 35 [some (vR 40 0), some (vI x1), some (vI x2), some (vI x3), some (vI x4), some (vI (nI 1)), some (vI (x6 + (nI 1))), none, none, none, none, none] [] m8)))))))) :
    wp2i xs C tX12_cost [35, 77, 93] (some .long) Q K 2000 35 [some (vR 40 0), some (vI x1), some (vI x2), some (vI x3), some (vI x4), some (vI x5), some (vI x6), none, none, none, none, none] [] m := h
set_option maxRecDepth 100000 in
theorem bX12_cost_77 {xs : Nat × (Nat → Int32)} {C : Nat → List v2 → Mem → (Option v2 → Mem → Prop) → Prop} {Q : Option v2 → Mem → Prop} {K : Nat → L2 → List v2 → Mem → Prop} (m : Mem) (x1 : Int32) (x2 : Int32) (x3 : Int32) (x4 : Int32) (x5 : Int32) (x6 : Int32)
    (h : (((nI 10) ≤ x6 →
      K 93 [some (vR 40 0), some (vI x1), some (vI x2), some (vI x3), some (vI x4), some (vI x5), some (vL (-1 : Int64)), none, some (vL (lN 1)), none, some (vI (nI 1)), none] [] m) ∧
    (¬ (nI 10) ≤ x6 →
      inb x6 10 ∧ 
        K 77 [some (vR 40 0), some (vI x1), some (vI x2), some (vI x3), some (vI x4), some (vI x5), some (vI (x6 + (nI 1))), none, none, none, none, none] [] (mI m 48 0 x6.toNatClampNeg (nI 0))))) :
    wp2i xs C tX12_cost [35, 77, 93] (some .long) Q K 2000 77 [some (vR 40 0), some (vI x1), some (vI x2), some (vI x3), some (vI x4), some (vI x5), some (vI x6), none, none, none, none, none] [] m := h
set_option maxRecDepth 100000 in
theorem bX12_cost_93 {xs : Nat × (Nat → Int32)} {C : Nat → List v2 → Mem → (Option v2 → Mem → Prop) → Prop} {Q : Option v2 → Mem → Prop} {K : Nat → L2 → List v2 → Mem → Prop} (m : Mem) (x1 : Int32) (x2 : Int32) (x3 : Int32) (x4 : Int32) (x5 : Int32) (x6 : Int64) (x8 : Int64) (x10 : Int32) (o11 : Option v2)
    (h : ((x10 = 0 →
      ((¬ x2 = 0 →
        Q (some (vL x8)) m) ∧
      (x2 = 0 →
        Q (some (vL x6)) m))) ∧
    (¬ x10 = 0 →
      C 162 [vR 40 0, vI x4] m (fun r1 m2 => ∃ w3 : Int32, r1 = some (vI w3) ∧
        ((¬ ((w3 >>> (x1 &&& 31)) &&& (nI 1)) = (nI 1) →
          C 142 [vR 40 0, vI x4, vI (nI 0)] m2 (fun r4 m5 => ∃ w6 : Int32, r4 = some (vI w6) ∧
            K 93 [some (vR 40 0), some (vI x1), some (vI x2), some (vI x3), some (vI x4), some (vI x5), some (vL x6), none, some (vL x8), none, some (vI w6), some (vI w3)] [] m5)) ∧
        (((w3 >>> (x1 &&& 31)) &&& (nI 1)) = (nI 1) →
          C 163 [vR 40 0, vI w3] m2 (fun r7 m8 => r7 = none ∧
            (((lg_cmp x6 (lN 0)) < 0 →
              inb x1 10 ∧ 
                inb x1 10 ∧ 
                  C 142 [vR 40 0, vI x4, vI (nI 0)] m8 (fun r9 m10 => ∃ w11 : Int32, r9 = some (vI w11) ∧
                    K 93 [some (vR 40 0), some (vI x1), some (vI x2), some (vI x3), some (vI x4), some (vI x5), some (vL (m8.2 52 0 x1.toNatClampNeg)), none, some (vL (m8.2 53 0 x1.toNatClampNeg)), none, some (vI w11), some (vI w3)] [] m10)) ∧
            (¬ (lg_cmp x6 (lN 0)) < 0 →
              inb x1 10 ∧ 
                inb x1 10 ∧ 
                  C 141 [vL (m8.2 52 0 x1.toNatClampNeg), vL (m8.2 53 0 x1.toNatClampNeg), vL x6, vL x8] m8 (fun r12 m13 => ∃ w14 : Int32, r12 = some (vI w14) ∧
                    ((w14 = 0 →
                      C 142 [vR 40 0, vI x4, vI (nI 0)] m13 (fun r15 m16 => ∃ w17 : Int32, r15 = some (vI w17) ∧
                        K 93 [some (vR 40 0), some (vI x1), some (vI x2), some (vI x3), some (vI x4), some (vI x5), some (vL x6), none, some (vL x8), none, some (vI w17), some (vI w3)] [] m16)) ∧
                    (¬ w14 = 0 →
                      inb x1 10 ∧ 
                        inb x1 10 ∧ 
                          C 142 [vR 40 0, vI x4, vI (nI 0)] m13 (fun r18 m19 => ∃ w20 : Int32, r18 = some (vI w20) ∧
                            K 93 [some (vR 40 0), some (vI x1), some (vI x2), some (vI x3), some (vI x4), some (vI x5), some (vL (m13.2 52 0 x1.toNatClampNeg)), none, some (vL (m13.2 53 0 x1.toNatClampNeg)), none, some (vI w20), some (vI w3)] [] m19))))))))))))) :
    wp2i xs C tX12_cost [35, 77, 93] (some .long) Q K 2000 93 [some (vR 40 0), some (vI x1), some (vI x2), some (vI x3), some (vI x4), some (vI x5), some (vL x6), none, some (vL x8), none, some (vI x10), o11] [] m := h
set_option maxRecDepth 100000 in
theorem bX12_together_0 {xs : Nat × (Nat → Int32)} {C : Nat → List v2 → Mem → (Option v2 → Mem → Prop) → Prop} {Q : Option v2 → Mem → Prop} {K : Nat → L2 → List v2 → Mem → Prop} (m : Mem) (p1 : Int32) (p2 : Int32)
    (h : C 160 [vR 40 0, vI p1, vI p2] m (fun r1 m2 => ∃ w3 : Int32, r1 = some (vI w3) ∧
      K 11 [some (vR 40 0), some (vI p1), some (vI p2), some (vI (w3 &&& p2)), some (vI (nI 0)), some (vI (nI 0)), none] [] m2)) :
    wp2i xs C tX12_together [11] (some .int) Q K 2000 0 [some (vR 40 0), some (vI p1), some (vI p2), none, none, none, none] [] m := h
set_option maxRecDepth 100000 in
theorem bX12_together_11 {xs : Nat × (Nat → Int32)} {C : Nat → List v2 → Mem → (Option v2 → Mem → Prop) → Prop} {Q : Option v2 → Mem → Prop} {K : Nat → L2 → List v2 → Mem → Prop} (m : Mem) (x1 : Int32) (x2 : Int32) (x3 : Int32) (x4 : Int32) (x5 : Int32) (o6 : Option v2)
    (h : (((m.1 40 0 1) ≤ x5 →
      Q (some (vI x4)) m) ∧
    (¬ (m.1 40 0 1) ≤ x5 →
      ((¬ ((x3 >>> (x5 &&& 31)) &&& (nI 1)) = (nI 1) →
        (((nI 0) = 0 →
          K 11 [some (vR 40 0), some (vI x1), some (vI x2), some (vI x3), some (vI (x4 ||| (nI 0))), some (vI (x5 + (nI 1))), some (vI (nI 0))] [] m) ∧
        (¬ (nI 0) = 0 →
          K 11 [some (vR 40 0), some (vI x1), some (vI x2), some (vI x3), some (vI (x4 ||| ((nI 1) <<< (x5 &&& 31)))), some (vI (x5 + (nI 1))), some (vI (nI 0))] [] m))) ∧
      (((x3 >>> (x5 &&& 31)) &&& (nI 1)) = (nI 1) →
        C 160 [vR 40 0, vI x5, vI x2] m (fun r1 m2 => ∃ w3 : Int32, r1 = some (vI w3) ∧
          ((¬ ((w3 >>> (x1 &&& 31)) &&& (nI 1)) = (nI 1) →
            (((nI 0) = 0 →
              K 11 [some (vR 40 0), some (vI x1), some (vI x2), some (vI x3), some (vI (x4 ||| (nI 0))), some (vI (x5 + (nI 1))), some (vI (nI 0))] [] m2) ∧
            (¬ (nI 0) = 0 →
              K 11 [some (vR 40 0), some (vI x1), some (vI x2), some (vI x3), some (vI (x4 ||| ((nI 1) <<< (x5 &&& 31)))), some (vI (x5 + (nI 1))), some (vI (nI 0))] [] m2))) ∧
          (((w3 >>> (x1 &&& 31)) &&& (nI 1)) = (nI 1) →
            (((nI 1) = 0 →
              K 11 [some (vR 40 0), some (vI x1), some (vI x2), some (vI x3), some (vI (x4 ||| (nI 0))), some (vI (x5 + (nI 1))), some (vI (nI 1))] [] m2) ∧
            (¬ (nI 1) = 0 →
              K 11 [some (vR 40 0), some (vI x1), some (vI x2), some (vI x3), some (vI (x4 ||| ((nI 1) <<< (x5 &&& 31)))), some (vI (x5 + (nI 1))), some (vI (nI 1))] [] m2)))))))))) :
    wp2i xs C tX12_together [11] (some .int) Q K 2000 11 [some (vR 40 0), some (vI x1), some (vI x2), some (vI x3), some (vI x4), some (vI x5), o6] [] m := h
set_option maxRecDepth 100000 in
theorem bX12_staying_0 {xs : Nat × (Nat → Int32)} {C : Nat → List v2 → Mem → (Option v2 → Mem → Prop) → Prop} {Q : Option v2 → Mem → Prop} {K : Nat → L2 → List v2 → Mem → Prop} (m : Mem) (p1 : Int32)
    (h : K 4 [some (vR 40 0), some (vI p1), some (vI (nI 0)), some (vI (nI 0)), none] [] m) :
    wp2i xs C tX12_staying [4] (some .int) Q K 2000 0 [some (vR 40 0), some (vI p1), none, none, none] [] m := h
set_option maxRecDepth 100000 in
theorem bX12_staying_4 {xs : Nat × (Nat → Int32)} {C : Nat → List v2 → Mem → (Option v2 → Mem → Prop) → Prop} {Q : Option v2 → Mem → Prop} {K : Nat → L2 → List v2 → Mem → Prop} (m : Mem) (x1 : Int32) (x2 : Int32) (x3 : Int32) (o4 : Option v2)
    (h : ((((nI 4) * (m.1 40 0 1)) ≤ x3 →
      Q (some (vI x2)) m) ∧
    (¬ ((nI 4) * (m.1 40 0 1)) ≤ x3 →
      ¬ (nI 4) = 0 ∧ 
        ¬ (nI 4) = 0 ∧ 
          inb (x3 / (nI 4)) 10 ∧ 
            (((m.1 41 0 (x3 / (nI 4)).toNatClampNeg) ≤ (x3 - x3 / (nI 4) * (nI 4)) →
              (((nI 0) = 0 →
                K 4 [some (vR 40 0), some (vI x1), some (vI (x2 ||| (nI 0))), some (vI (x3 + (nI 1))), some (vI (nI 0))] [] m) ∧
              (¬ (nI 0) = 0 →
                ¬ (nI 4) = 0 ∧ 
                  K 4 [some (vR 40 0), some (vI x1), some (vI (x2 ||| ((nI 1) <<< ((x3 / (nI 4)) &&& 31)))), some (vI (x3 + (nI 1))), some (vI (nI 0))] [] m))) ∧
            (¬ (m.1 41 0 (x3 / (nI 4)).toNatClampNeg) ≤ (x3 - x3 / (nI 4) * (nI 4)) →
              ¬ (nI 4) = 0 ∧ 
                ((¬ ((x1 >>> ((x3 / (nI 4)) &&& 31)) &&& (nI 1)) = (nI 1) →
                  (((nI 0) = 0 →
                    K 4 [some (vR 40 0), some (vI x1), some (vI (x2 ||| (nI 0))), some (vI (x3 + (nI 1))), some (vI (nI 0))] [] m) ∧
                  (¬ (nI 0) = 0 →
                    ¬ (nI 4) = 0 ∧ 
                      K 4 [some (vR 40 0), some (vI x1), some (vI (x2 ||| ((nI 1) <<< ((x3 / (nI 4)) &&& 31)))), some (vI (x3 + (nI 1))), some (vI (nI 0))] [] m))) ∧
                (((x1 >>> ((x3 / (nI 4)) &&& 31)) &&& (nI 1)) = (nI 1) →
                  C 126 [vR 40 0, vI x3, vI x1] m (fun r1 m2 => ∃ w3 : Int32, r1 = some (vI w3) ∧
                    ((w3 = 0 →
                      (((nI 0) = 0 →
                        K 4 [some (vR 40 0), some (vI x1), some (vI (x2 ||| (nI 0))), some (vI (x3 + (nI 1))), some (vI (nI 0))] [] m2) ∧
                      (¬ (nI 0) = 0 →
                        ¬ (nI 4) = 0 ∧ 
                          K 4 [some (vR 40 0), some (vI x1), some (vI (x2 ||| ((nI 1) <<< ((x3 / (nI 4)) &&& 31)))), some (vI (x3 + (nI 1))), some (vI (nI 0))] [] m2))) ∧
                    (¬ w3 = 0 →
                      (((nI 1) = 0 →
                        K 4 [some (vR 40 0), some (vI x1), some (vI (x2 ||| (nI 0))), some (vI (x3 + (nI 1))), some (vI (nI 1))] [] m2) ∧
                      (¬ (nI 1) = 0 →
                        ¬ (nI 4) = 0 ∧ 
                          K 4 [some (vR 40 0), some (vI x1), some (vI (x2 ||| ((nI 1) <<< ((x3 / (nI 4)) &&& 31)))), some (vI (x3 + (nI 1))), some (vI (nI 1))] [] m2)))))))))))) :
    wp2i xs C tX12_staying [4] (some .int) Q K 2000 4 [some (vR 40 0), some (vI x1), some (vI x2), some (vI x3), o4] [] m := h
set_option maxRecDepth 100000 in
theorem bX12_holeOf_0 {xs : Nat × (Nat → Int32)} {C : Nat → List v2 → Mem → (Option v2 → Mem → Prop) → Prop} {Q : Option v2 → Mem → Prop} {K : Nat → L2 → List v2 → Mem → Prop} (m : Mem) (p1 : Int32)
    (h : C 131 [vR 40 0] m (fun r1 m2 => ∃ w3 : Int32, r1 = some (vI w3) ∧
      K 5 [some (vR 40 0), some (vI p1), some (vI w3), some (vI (nI 1)), none] [] m2)) :
    wp2i xs C tX12_holeOf [5] (some .int) Q K 2000 0 [some (vR 40 0), some (vI p1), none, none, none] [] m := h
set_option maxRecDepth 100000 in
theorem bX12_holeOf_5 {xs : Nat × (Nat → Int32)} {C : Nat → List v2 → Mem → (Option v2 → Mem → Prop) → Prop} {Q : Option v2 → Mem → Prop} {K : Nat → L2 → List v2 → Mem → Prop} (m : Mem) (x1 : Int32) (x2 : Int32) (x3 : Int32) (o4 : Option v2)
    (h : ((x3 = 0 →
      ((¬ ((x2 >>> (x1 &&& 31)) &&& (nI 1)) = (nI 1) →
        Q (some (vI (nI 0))) m) ∧
      (((x2 >>> (x1 &&& 31)) &&& (nI 1)) = (nI 1) →
        Q (some (vI x2)) m))) ∧
    (¬ x3 = 0 →
      ((¬ ((x2 >>> (x1 &&& 31)) &&& (nI 1)) = (nI 1) →
        ((¬ ((x2 >>> (x1 &&& 31)) &&& (nI 1)) = (nI 1) →
          Q (some (vI (nI 0))) m) ∧
        (((x2 >>> (x1 &&& 31)) &&& (nI 1)) = (nI 1) →
          Q (some (vI x2)) m))) ∧
      (((x2 >>> (x1 &&& 31)) &&& (nI 1)) = (nI 1) →
        C 165 [vR 40 0, vI x1, vI x2] m (fun r1 m2 => ∃ w3 : Int32, r1 = some (vI w3) ∧
          C 166 [vR 40 0, vI w3] m2 (fun r4 m5 => ∃ w6 : Int32, r4 = some (vI w6) ∧
            ((w6 = x2 →
              K 5 [some (vR 40 0), some (vI x1), some (vI w6), some (vI (nI 0)), some (vI w6)] [] m5) ∧
            (¬ w6 = x2 →
              K 5 [some (vR 40 0), some (vI x1), some (vI w6), some (vI (nI 1)), some (vI w6)] [] m5))))))))) :
    wp2i xs C tX12_holeOf [5] (some .int) Q K 2000 5 [some (vR 40 0), some (vI x1), some (vI x2), some (vI x3), o4] [] m := h
set_option maxRecDepth 100000 in
theorem bX12_findHoles_0 {xs : Nat × (Nat → Int32)} {C : Nat → List v2 → Mem → (Option v2 → Mem → Prop) → Prop} {Q : Option v2 → Mem → Prop} {K : Nat → L2 → List v2 → Mem → Prop} (m : Mem) 
    (h : K 7 [some (vR 40 0), some (vI (nI 0)), some (vI (nI 0)), none] [] (mI m 40 0 30 (nI 0))) :
    wp2i xs C tX12_findHoles [7] none Q K 2000 0 [some (vR 40 0), none, none, none] [] m := h
set_option maxRecDepth 100000 in
theorem bX12_findHoles_7 {xs : Nat × (Nat → Int32)} {C : Nat → List v2 → Mem → (Option v2 → Mem → Prop) → Prop} {Q : Option v2 → Mem → Prop} {K : Nat → L2 → List v2 → Mem → Prop} (m : Mem) (x1 : Int32) (x2 : Int32) (o3 : Option v2)
    (h : (((m.1 40 0 1) ≤ x2 →
      Q none m) ∧
    (¬ (m.1 40 0 1) ≤ x2 →
      ((¬ ((x1 >>> (x2 &&& 31)) &&& (nI 1)) = (nI 1) →
        C 167 [vR 40 0, vI x2] m (fun r1 m2 => ∃ w3 : Int32, r1 = some (vI w3) ∧
          ((w3 = 0 →
            K 7 [some (vR 40 0), some (vI x1), some (vI (x2 + (nI 1))), some (vI w3)] [] m2) ∧
          (¬ w3 = 0 →
            inb (m2.1 40 0 30) 10 ∧ 
              K 7 [some (vR 40 0), some (vI (x1 ||| w3)), some (vI (x2 + (nI 1))), some (vI w3)] [] (mI (mI m2 63 0 (m2.1 40 0 30).toNatClampNeg w3) 40 0 30 (((mI m2 63 0 (m2.1 40 0 30).toNatClampNeg w3).1 40 0 30) + (nI 1))))))) ∧
      (((x1 >>> (x2 &&& 31)) &&& (nI 1)) = (nI 1) →
        (((nI 0) = 0 →
          K 7 [some (vR 40 0), some (vI x1), some (vI (x2 + (nI 1))), some (vI (nI 0))] [] m) ∧
        (¬ (nI 0) = 0 →
          inb (m.1 40 0 30) 10 ∧ 
            K 7 [some (vR 40 0), some (vI (x1 ||| (nI 0))), some (vI (x2 + (nI 1))), some (vI (nI 0))] [] (mI (mI m 63 0 (m.1 40 0 30).toNatClampNeg (nI 0)) 40 0 30 (((mI m 63 0 (m.1 40 0 30).toNatClampNeg (nI 0)).1 40 0 30) + (nI 1)))))))))) :
    wp2i xs C tX12_findHoles [7] none Q K 2000 7 [some (vR 40 0), some (vI x1), some (vI x2), o3] [] m := h
set_option maxRecDepth 100000 in
theorem bX12_hole_0 {xs : Nat × (Nat → Int32)} {C : Nat → List v2 → Mem → (Option v2 → Mem → Prop) → Prop} {Q : Option v2 → Mem → Prop} {K : Nat → L2 → List v2 → Mem → Prop} (m : Mem) (p1 : Int32) (p2 : Int32)
    (h : C 113 [vL p2.toInt64, vL (lN 0), vL (lN 2)] (mI m 40 0 0 (nI 0)) (fun r1 m2 => ∃ w3 : Int32, r1 = some (vI w3) ∧
      ((¬ w3 = 0 →
        C 124 [vR 40 0] m2 (fun r4 m5 => ∃ w6 : Int32, r4 = some (vI w6) ∧
          ((w6 ≤ 0 →
            C 168 [vR 40 0] m5 (fun r7 m8 => r7 = none ∧
              ((¬ p2 = 0 →
                ((p1 < 0 →
                  Q (some (vI (-1 : Int32))) m8) ∧
                (¬ p1 < 0 →
                  ((p1 < (m8.1 40 0 30) →
                    K 35 [some (vR 40 0), some (vI p1), some (vI p2), some (vI (nI 0)), some (vI (nI 0))] [] m8) ∧
                  (¬ p1 < (m8.1 40 0 30) →
                    Q (some (vI (-1 : Int32))) m8))))) ∧
              (p2 = 0 →
                Q (some (vI (m8.1 40 0 30))) m8)))) ∧
          (¬ w6 ≤ 0 →
            Q (some (vI (-2 : Int32))) m5)))) ∧
      (w3 = 0 →
        Q (some (vI (-1 : Int32))) m2)))) :
    wp2i xs C tX12_hole [35] (some .int) Q K 2000 0 [some (vR 40 0), some (vI p1), some (vI p2), none, none] [] m := h
set_option maxRecDepth 100000 in
theorem bX12_hole_35 {xs : Nat × (Nat → Int32)} {C : Nat → List v2 → Mem → (Option v2 → Mem → Prop) → Prop} {Q : Option v2 → Mem → Prop} {K : Nat → L2 → List v2 → Mem → Prop} (m : Mem) (x1 : Int32) (x2 : Int32) (x3 : Int32) (x4 : Int32)
    (h : ((((nI 4) * (m.1 40 0 1)) ≤ x4 →
      ((¬ x2 = (nI 1) →
        Q (some (vI x3)) m) ∧
      (x2 = (nI 1) →
        inb x1 10 ∧ 
          Q (some (vI (m.1 63 0 x1.toNatClampNeg))) m))) ∧
    (¬ ((nI 4) * (m.1 40 0 1)) ≤ x4 →
      ¬ (nI 4) = 0 ∧ 
        ¬ (nI 4) = 0 ∧ 
          inb (x4 / (nI 4)) 10 ∧ 
            (((m.1 41 0 (x4 / (nI 4)).toNatClampNeg) ≤ (x4 - x4 / (nI 4) * (nI 4)) →
              K 35 [some (vR 40 0), some (vI x1), some (vI x2), some (vI (x3 + (nI 0))), some (vI (x4 + (nI 1)))] [] m) ∧
            (¬ (m.1 41 0 (x4 / (nI 4)).toNatClampNeg) ≤ (x4 - x4 / (nI 4) * (nI 4)) →
              inb x1 10 ∧ 
                ¬ (nI 4) = 0 ∧ 
                  ((¬ (((m.1 63 0 x1.toNatClampNeg) >>> ((x4 / (nI 4)) &&& 31)) &&& (nI 1)) = (nI 1) →
                    K 35 [some (vR 40 0), some (vI x1), some (vI x2), some (vI (x3 + (nI 0))), some (vI (x4 + (nI 1)))] [] m) ∧
                  ((((m.1 63 0 x1.toNatClampNeg) >>> ((x4 / (nI 4)) &&& 31)) &&& (nI 1)) = (nI 1) →
                    inb x1 10 ∧ 
                      C 126 [vR 40 0, vI x4, vI (m.1 63 0 x1.toNatClampNeg)] m (fun r1 m2 => ∃ w3 : Int32, r1 = some (vI w3) ∧
                        ((w3 = 0 →
                          K 35 [some (vR 40 0), some (vI x1), some (vI x2), some (vI (x3 + (nI 0))), some (vI (x4 + (nI 1)))] [] m2) ∧
                        (¬ w3 = 0 →
                          K 35 [some (vR 40 0), some (vI x1), some (vI x2), some (vI (x3 + (nI 1))), some (vI (x4 + (nI 1)))] [] m2)))))))))) :
    wp2i xs C tX12_hole [35] (some .int) Q K 2000 35 [some (vR 40 0), some (vI x1), some (vI x2), some (vI x3), some (vI x4)] [] m := h
set_option maxRecDepth 100000 in
theorem bX12_partIn_0 {xs : Nat × (Nat → Int32)} {C : Nat → List v2 → Mem → (Option v2 → Mem → Prop) → Prop} {Q : Option v2 → Mem → Prop} {K : Nat → L2 → List v2 → Mem → Prop} (m : Mem) (p1 : Int32) (p2 : Int32)
    (h : K 4 [some (vR 40 0), some (vI p1), some (vI p2), some (vI (nI 0)), some (vI (nI 0))] [] m) :
    wp2i xs C tX12_partIn [4] (some .int) Q K 2000 0 [some (vR 40 0), some (vI p1), some (vI p2), none, none] [] m := h
set_option maxRecDepth 100000 in
theorem bX12_partIn_4 {xs : Nat × (Nat → Int32)} {C : Nat → List v2 → Mem → (Option v2 → Mem → Prop) → Prop} {Q : Option v2 → Mem → Prop} {K : Nat → L2 → List v2 → Mem → Prop} (m : Mem) (x1 : Int32) (x2 : Int32) (x3 : Int32) (x4 : Int32)
    (h : inb x1 40 ∧ 
      (((m.1 44 0 x1.toNatClampNeg) ≤ x4 →
        Q (some (vI x3)) m) ∧
      (¬ (m.1 44 0 x1.toNatClampNeg) ≤ x4 →
        inb (((nI 4) * x1) + x4) 160 ∧ 
          inb (m.1 45 0 (((nI 4) * x1) + x4).toNatClampNeg) 10 ∧ 
            ((¬ (m.1 64 0 (m.1 45 0 (((nI 4) * x1) + x4).toNatClampNeg).toNatClampNeg) = x2 →
              K 4 [some (vR 40 0), some (vI x1), some (vI x2), some (vI (x3 + (nI 0))), some (vI (x4 + (nI 1)))] [] m) ∧
            ((m.1 64 0 (m.1 45 0 (((nI 4) * x1) + x4).toNatClampNeg).toNatClampNeg) = x2 →
              inb (((nI 4) * x1) + x4) 160 ∧ 
                K 4 [some (vR 40 0), some (vI x1), some (vI x2), some (vI (x3 + (m.1 46 0 (((nI 4) * x1) + x4).toNatClampNeg))), some (vI (x4 + (nI 1)))] [] m))))) :
    wp2i xs C tX12_partIn [4] (some .int) Q K 2000 4 [some (vR 40 0), some (vI x1), some (vI x2), some (vI x3), some (vI x4)] [] m := h
set_option maxRecDepth 100000 in
theorem bX12_areLike_0 {xs : Nat × (Nat → Int32)} {C : Nat → List v2 → Mem → (Option v2 → Mem → Prop) → Prop} {Q : Option v2 → Mem → Prop} {K : Nat → L2 → List v2 → Mem → Prop} (m : Mem) (p1 : Int32) (p2 : Int32)
    (h : inb p1 40 ∧ 
      inb p2 40 ∧ 
        ((¬ (m.1 43 0 p1.toNatClampNeg) = (m.1 43 0 p2.toNatClampNeg) →
          K 34 [some (vR 40 0), some (vI p1), some (vI p2), some (vI (nI 0)), some (vI (nI 0))] [] m) ∧
        ((m.1 43 0 p1.toNatClampNeg) = (m.1 43 0 p2.toNatClampNeg) →
          inb p1 40 ∧ 
            ((¬ (m.1 42 0 p1.toNatClampNeg) = (nI 2) →
              inb p2 40 ∧ 
                ((¬ (m.1 42 0 p2.toNatClampNeg) = (nI 2) →
                  ((¬ (nI 0) = (nI 0) →
                    K 34 [some (vR 40 0), some (vI p1), some (vI p2), some (vI (nI 0)), some (vI (nI 0))] [] m) ∧
                  ((nI 0) = (nI 0) →
                    K 34 [some (vR 40 0), some (vI p1), some (vI p2), some (vI (nI 1)), some (vI (nI 0))] [] m))) ∧
                ((m.1 42 0 p2.toNatClampNeg) = (nI 2) →
                  ((¬ (nI 0) = (nI 1) →
                    K 34 [some (vR 40 0), some (vI p1), some (vI p2), some (vI (nI 0)), some (vI (nI 0))] [] m) ∧
                  ((nI 0) = (nI 1) →
                    K 34 [some (vR 40 0), some (vI p1), some (vI p2), some (vI (nI 1)), some (vI (nI 0))] [] m))))) ∧
            ((m.1 42 0 p1.toNatClampNeg) = (nI 2) →
              inb p2 40 ∧ 
                ((¬ (m.1 42 0 p2.toNatClampNeg) = (nI 2) →
                  ((¬ (nI 1) = (nI 0) →
                    K 34 [some (vR 40 0), some (vI p1), some (vI p2), some (vI (nI 0)), some (vI (nI 0))] [] m) ∧
                  ((nI 1) = (nI 0) →
                    K 34 [some (vR 40 0), some (vI p1), some (vI p2), some (vI (nI 1)), some (vI (nI 0))] [] m))) ∧
                ((m.1 42 0 p2.toNatClampNeg) = (nI 2) →
                  ((¬ (nI 1) = (nI 1) →
                    K 34 [some (vR 40 0), some (vI p1), some (vI p2), some (vI (nI 0)), some (vI (nI 0))] [] m) ∧
                  ((nI 1) = (nI 1) →
                    K 34 [some (vR 40 0), some (vI p1), some (vI p2), some (vI (nI 1)), some (vI (nI 0))] [] m))))))))) :
    wp2i xs C tX12_areLike [34] (some .boolean) Q K 2000 0 [some (vR 40 0), some (vI p1), some (vI p2), none, none] [] m := h
set_option maxRecDepth 100000 in
theorem bX12_areLike_34 {xs : Nat × (Nat → Int32)} {C : Nat → List v2 → Mem → (Option v2 → Mem → Prop) → Prop} {Q : Option v2 → Mem → Prop} {K : Nat → L2 → List v2 → Mem → Prop} (m : Mem) (x1 : Int32) (x2 : Int32) (x3 : Int32) (x4 : Int32)
    (h : (((nI 10) ≤ x4 →
      isB x3 ∧ Q (some (vI x3)) m) ∧
    (¬ (nI 10) ≤ x4 →
      ((x3 = 0 →
        isB x3 ∧ Q (some (vI x3)) m) ∧
      (¬ x3 = 0 →
        C 170 [vR 40 0, vI x1, vI x4] m (fun r1 m2 => ∃ w3 : Int32, r1 = some (vI w3) ∧
          C 170 [vR 40 0, vI x2, vI x4] m2 (fun r4 m5 => ∃ w6 : Int32, r4 = some (vI w6) ∧
            ((¬ w3 = w6 →
              K 34 [some (vR 40 0), some (vI x1), some (vI x2), some (vI (nI 0)), some (vI (x4 + (nI 1)))] [] m5) ∧
            (w3 = w6 →
              K 34 [some (vR 40 0), some (vI x1), some (vI x2), some (vI (nI 1)), some (vI (x4 + (nI 1)))] [] m5))))))))) :
    wp2i xs C tX12_areLike [34] (some .boolean) Q K 2000 34 [some (vR 40 0), some (vI x1), some (vI x2), some (vI x3), some (vI x4)] [] m := h
set_option maxRecDepth 100000 in
theorem bX12_hasAll_0 {xs : Nat × (Nat → Int32)} {C : Nat → List v2 → Mem → (Option v2 → Mem → Prop) → Prop} {Q : Option v2 → Mem → Prop} {K : Nat → L2 → List v2 → Mem → Prop} (m : Mem) (p1 : Int32) (p2 : Int32)
    (h : K 4 [some (vR 40 0), some (vI p1), some (vI p2), some (vI (nI 1)), some (vI (nI 0)), none, none] [] m) :
    wp2i xs C tX12_hasAll [4, 14] (some .boolean) Q K 2000 0 [some (vR 40 0), some (vI p1), some (vI p2), none, none, none, none] [] m := h
set_option maxRecDepth 100000 in
theorem bX12_hasAll_4 {xs : Nat × (Nat → Int32)} {C : Nat → List v2 → Mem → (Option v2 → Mem → Prop) → Prop} {Q : Option v2 → Mem → Prop} {K : Nat → L2 → List v2 → Mem → Prop} (m : Mem) (x1 : Int32) (x2 : Int32) (x3 : Int32) (x4 : Int32) (o5 : Option v2) (o6 : Option v2)
    (h : inb x1 10 ∧ 
      (((m.1 41 0 x1.toNatClampNeg) ≤ x4 →
        isB x3 ∧ Q (some (vI x3)) m) ∧
      (¬ (m.1 41 0 x1.toNatClampNeg) ≤ x4 →
        K 14 [some (vR 40 0), some (vI x1), some (vI x2), some (vI x3), some (vI x4), some (vI (nI 0)), some (vI (nI 0))] [] m))) :
    wp2i xs C tX12_hasAll [4, 14] (some .boolean) Q K 2000 4 [some (vR 40 0), some (vI x1), some (vI x2), some (vI x3), some (vI x4), o5, o6] [] m := h
set_option maxRecDepth 100000 in
theorem bX12_hasAll_14 {xs : Nat × (Nat → Int32)} {C : Nat → List v2 → Mem → (Option v2 → Mem → Prop) → Prop} {Q : Option v2 → Mem → Prop} {K : Nat → L2 → List v2 → Mem → Prop} (m : Mem) (x1 : Int32) (x2 : Int32) (x3 : Int32) (x4 : Int32) (x5 : Int32) (x6 : Int32)
    (h : inb x2 10 ∧ 
      (((m.1 41 0 x2.toNatClampNeg) ≤ x6 →
        ((x3 = 0 →
          K 4 [some (vR 40 0), some (vI x1), some (vI x2), some (vI (nI 0)), some (vI (x4 + (nI 1))), some (vI x5), some (vI x6)] [] m) ∧
        (¬ x3 = 0 →
          ((x5 = 0 →
            K 4 [some (vR 40 0), some (vI x1), some (vI x2), some (vI (nI 0)), some (vI (x4 + (nI 1))), some (vI x5), some (vI x6)] [] m) ∧
          (¬ x5 = 0 →
            K 4 [some (vR 40 0), some (vI x1), some (vI x2), some (vI (nI 1)), some (vI (x4 + (nI 1))), some (vI x5), some (vI x6)] [] m))))) ∧
      (¬ (m.1 41 0 x2.toNatClampNeg) ≤ x6 →
        ((¬ x5 = 0 →
          K 14 [some (vR 40 0), some (vI x1), some (vI x2), some (vI x3), some (vI x4), some (vI (nI 1)), some (vI (x6 + (nI 1)))] [] m) ∧
        (x5 = 0 →
          C 171 [vR 40 0, vI (((nI 4) * x1) + x4), vI (((nI 4) * x2) + x6)] m (fun r1 m2 => ∃ w3 : Int32, r1 = some (vI w3) ∧
            ((w3 = 0 →
              K 14 [some (vR 40 0), some (vI x1), some (vI x2), some (vI x3), some (vI x4), some (vI (nI 0)), some (vI (x6 + (nI 1)))] [] m2) ∧
            (¬ w3 = 0 →
              K 14 [some (vR 40 0), some (vI x1), some (vI x2), some (vI x3), some (vI x4), some (vI (nI 1)), some (vI (x6 + (nI 1)))] [] m2)))))))) :
    wp2i xs C tX12_hasAll [4, 14] (some .boolean) Q K 2000 14 [some (vR 40 0), some (vI x1), some (vI x2), some (vI x3), some (vI x4), some (vI x5), some (vI x6)] [] m := h
set_option maxRecDepth 100000 in
theorem bX12_findClasses_0 {xs : Nat × (Nat → Int32)} {C : Nat → List v2 → Mem → (Option v2 → Mem → Prop) → Prop} {Q : Option v2 → Mem → Prop} {K : Nat → L2 → List v2 → Mem → Prop} (m : Mem) 
    (h : K 2 [some (vR 40 0), some (vI (nI 0)), none, none, none, none] [] m) :
    wp2i xs C tX12_findClasses [2, 23, 30, 38, 92] (some .int) Q K 2000 0 [some (vR 40 0), none, none, none, none, none] [] m := h
set_option maxRecDepth 100000 in
theorem bX12_findClasses_2 {xs : Nat × (Nat → Int32)} {C : Nat → List v2 → Mem → (Option v2 → Mem → Prop) → Prop} {Q : Option v2 → Mem → Prop} {K : Nat → L2 → List v2 → Mem → Prop} (m : Mem) (x1 : Int32)
    (h : (((m.1 40 0 1) ≤ x1 →
      K 23 [some (vR 40 0), some (vI (nI 0)), some (vI (nI 0)), none, none, none] [] m) ∧
    (¬ (m.1 40 0 1) ≤ x1 →
      C 116 [vR 40 0, vI x1] m (fun r1 m2 => ∃ w3 : Int32, r1 = some (vI w3) ∧
        ((w3 = 0 →
          inb x1 10 ∧ 
            K 2 [some (vR 40 0), some (vI (x1 + (nI 1))), none, none, none, none] [] (mI m2 64 0 x1.toNatClampNeg (nI 0))) ∧
        (¬ w3 = 0 →
          inb x1 10 ∧ 
            K 2 [some (vR 40 0), some (vI (x1 + (nI 1))), none, none, none, none] [] (mI m2 64 0 x1.toNatClampNeg (nI 1)))))))) :
    wp2i xs C tX12_findClasses [2, 23, 30, 38, 92] (some .int) Q K 2000 2 [some (vR 40 0), some (vI x1), none, none, none, none] [] m := h
set_option maxRecDepth 100000 in
theorem bX12_findClasses_23 {xs : Nat × (Nat → Int32)} {C : Nat → List v2 → Mem → (Option v2 → Mem → Prop) → Prop} {Q : Option v2 → Mem → Prop} {K : Nat → L2 → List v2 → Mem → Prop} (m : Mem) (x1 : Int32) (x2 : Int32) (o3 : Option v2) (o4 : Option v2) (o5 : Option v2)
    (h : (((nI 12) ≤ x2 →
      Q (some (vI x1)) m) ∧
    (¬ (nI 12) ≤ x2 →
      K 30 [some (vR 40 0), some (vI (nI 0)), some (vI x2), some (vI (nI 0)), o4, o5] [] m))) :
    wp2i xs C tX12_findClasses [2, 23, 30, 38, 92] (some .int) Q K 2000 23 [some (vR 40 0), some (vI x1), some (vI x2), o3, o4, o5] [] m := h
set_option maxRecDepth 100000 in
theorem bX12_findClasses_30 {xs : Nat × (Nat → Int32)} {C : Nat → List v2 → Mem → (Option v2 → Mem → Prop) → Prop} {Q : Option v2 → Mem → Prop} {K : Nat → L2 → List v2 → Mem → Prop} (m : Mem) (x1 : Int32) (x2 : Int32) (x3 : Int32) (o4 : Option v2) (o5 : Option v2)
    (h : (((m.1 40 0 1) ≤ x3 →
      K 92 [some (vR 40 0), some (vI x1), some (vI x2), some (vI (nI 0)), o4, o5] [] m) ∧
    (¬ (m.1 40 0 1) ≤ x3 →
      K 38 [some (vR 40 0), some (vI x1), some (vI x2), some (vI x3), some (vI (-1 : Int32)), some (vI (nI 0))] [] m))) :
    wp2i xs C tX12_findClasses [2, 23, 30, 38, 92] (some .int) Q K 2000 30 [some (vR 40 0), some (vI x1), some (vI x2), some (vI x3), o4, o5] [] m := h
set_option maxRecDepth 100000 in
theorem bX12_findClasses_38 {xs : Nat × (Nat → Int32)} {C : Nat → List v2 → Mem → (Option v2 → Mem → Prop) → Prop} {Q : Option v2 → Mem → Prop} {K : Nat → L2 → List v2 → Mem → Prop} (m : Mem) (x1 : Int32) (x2 : Int32) (x3 : Int32) (x4 : Int32) (x5 : Int32)
    (h : ((x3 ≤ x5 →
      ((0 ≤ x4 →
        inb x3 10 ∧ 
          ((0 ≤ x4 →
            K 30 [some (vR 40 0), some (vI (x1 + (nI 0))), some (vI x2), some (vI (x3 + (nI 1))), some (vI x4), some (vI x5)] [] (mI m 65 0 x3.toNatClampNeg x4)) ∧
          (¬ 0 ≤ x4 →
            K 30 [some (vR 40 0), some (vI (x1 + (nI 1))), some (vI x2), some (vI (x3 + (nI 1))), some (vI x4), some (vI x5)] [] (mI m 65 0 x3.toNatClampNeg x4)))) ∧
      (¬ 0 ≤ x4 →
        inb x3 10 ∧ 
          ((0 ≤ x4 →
            K 30 [some (vR 40 0), some (vI (x1 + (nI 0))), some (vI x2), some (vI (x3 + (nI 1))), some (vI x4), some (vI x5)] [] (mI m 65 0 x3.toNatClampNeg x1)) ∧
          (¬ 0 ≤ x4 →
            K 30 [some (vR 40 0), some (vI (x1 + (nI 1))), some (vI x2), some (vI (x3 + (nI 1))), some (vI x4), some (vI x5)] [] (mI m 65 0 x3.toNatClampNeg x1)))))) ∧
    (¬ x3 ≤ x5 →
      ((0 ≤ x4 →
        ((0 ≤ x4 →
          inb x3 10 ∧ 
            ((0 ≤ x4 →
              K 30 [some (vR 40 0), some (vI (x1 + (nI 0))), some (vI x2), some (vI (x3 + (nI 1))), some (vI x4), some (vI x5)] [] (mI m 65 0 x3.toNatClampNeg x4)) ∧
            (¬ 0 ≤ x4 →
              K 30 [some (vR 40 0), some (vI (x1 + (nI 1))), some (vI x2), some (vI (x3 + (nI 1))), some (vI x4), some (vI x5)] [] (mI m 65 0 x3.toNatClampNeg x4)))) ∧
        (¬ 0 ≤ x4 →
          inb x3 10 ∧ 
            ((0 ≤ x4 →
              K 30 [some (vR 40 0), some (vI (x1 + (nI 0))), some (vI x2), some (vI (x3 + (nI 1))), some (vI x4), some (vI x5)] [] (mI m 65 0 x3.toNatClampNeg x1)) ∧
            (¬ 0 ≤ x4 →
              K 30 [some (vR 40 0), some (vI (x1 + (nI 1))), some (vI x2), some (vI (x3 + (nI 1))), some (vI x4), some (vI x5)] [] (mI m 65 0 x3.toNatClampNeg x1)))))) ∧
      (¬ 0 ≤ x4 →
        inb x3 10 ∧ 
          inb x5 10 ∧ 
            ((¬ (m.1 64 0 x3.toNatClampNeg) = (m.1 64 0 x5.toNatClampNeg) →
              K 38 [some (vR 40 0), some (vI x1), some (vI x2), some (vI x3), some (vI (-1 : Int32)), some (vI (x5 + (nI 1)))] [] m) ∧
            ((m.1 64 0 x3.toNatClampNeg) = (m.1 64 0 x5.toNatClampNeg) →
              C 172 [vR 40 0, vI x3, vI x5] m (fun r1 m2 => ∃ w3 : Int32, r1 = some (vI w3) ∧
                ((w3 = 0 →
                  K 38 [some (vR 40 0), some (vI x1), some (vI x2), some (vI x3), some (vI (-1 : Int32)), some (vI (x5 + (nI 1)))] [] m2) ∧
                (¬ w3 = 0 →
                  C 172 [vR 40 0, vI x5, vI x3] m2 (fun r4 m5 => ∃ w6 : Int32, r4 = some (vI w6) ∧
                    ((w6 = 0 →
                      K 38 [some (vR 40 0), some (vI x1), some (vI x2), some (vI x3), some (vI (-1 : Int32)), some (vI (x5 + (nI 1)))] [] m5) ∧
                    (¬ w6 = 0 →
                      inb x5 10 ∧ 
                        K 38 [some (vR 40 0), some (vI x1), some (vI x2), some (vI x3), some (vI (m5.1 65 0 x5.toNatClampNeg)), some (vI (x5 + (nI 1)))] [] m5))))))))))))) :
    wp2i xs C tX12_findClasses [2, 23, 30, 38, 92] (some .int) Q K 2000 38 [some (vR 40 0), some (vI x1), some (vI x2), some (vI x3), some (vI x4), some (vI x5)] [] m := h
set_option maxRecDepth 100000 in
theorem bX12_findClasses_92 {xs : Nat × (Nat → Int32)} {C : Nat → List v2 → Mem → (Option v2 → Mem → Prop) → Prop} {Q : Option v2 → Mem → Prop} {K : Nat → L2 → List v2 → Mem → Prop} (m : Mem) (x1 : Int32) (x2 : Int32) (x3 : Int32) (o4 : Option v2) (o5 : Option v2)
    (h : (((m.1 40 0 1) ≤ x3 →
      K 23 [some (vR 40 0), some (vI x1), some (vI (x2 + (nI 1))), some (vI x3), o4, o5] [] m) ∧
    (¬ (m.1 40 0 1) ≤ x3 →
      inb x3 10 ∧ 
        inb x3 10 ∧ 
          K 92 [some (vR 40 0), some (vI x1), some (vI x2), some (vI (x3 + (nI 1))), o4, o5] [] (mI m 64 0 x3.toNatClampNeg (m.1 65 0 x3.toNatClampNeg))))) :
    wp2i xs C tX12_findClasses [2, 23, 30, 38, 92] (some .int) Q K 2000 92 [some (vR 40 0), some (vI x1), some (vI x2), some (vI x3), o4, o5] [] m := h
set_option maxRecDepth 100000 in
theorem bX12_twin_0 {xs : Nat × (Nat → Int32)} {C : Nat → List v2 → Mem → (Option v2 → Mem → Prop) → Prop} {Q : Option v2 → Mem → Prop} {K : Nat → L2 → List v2 → Mem → Prop} (m : Mem) (p1 : Int32)
    (h : C 114 [vR 40 0, vI p1] (mI m 40 0 0 (nI 0)) (fun r1 m2 => ∃ w3 : Int32, r1 = some (vI w3) ∧
      ((¬ w3 = 0 →
        C 124 [vR 40 0] m2 (fun r4 m5 => ∃ w6 : Int32, r4 = some (vI w6) ∧
          ((w6 ≤ 0 →
            C 173 [vR 40 0] m5 (fun r7 m8 => ∃ w9 : Int32, r7 = some (vI w9) ∧
              inb p1 10 ∧ 
                Q (some (vI (m8.1 64 0 p1.toNatClampNeg))) m8)) ∧
          (¬ w6 ≤ 0 →
            Q (some (vI (-2 : Int32))) m5)))) ∧
      (w3 = 0 →
        Q (some (vI (-1 : Int32))) m2)))) :
    wp2i xs C tX12_twin [] (some .int) Q K 2000 0 [some (vR 40 0), some (vI p1), none] [] m := h
set_option maxRecDepth 100000 in
theorem bX12_count_0 {xs : Nat × (Nat → Int32)} {C : Nat → List v2 → Mem → (Option v2 → Mem → Prop) → Prop} {Q : Option v2 → Mem → Prop} {K : Nat → L2 → List v2 → Mem → Prop} (m : Mem) (p1 : Int32)
    (h : ((¬ p1 = 0 →
      ((¬ p1 = (nI 4) →
        C 113 [vL p1.toInt64, vL (lN 1), vL (lN 3)] (mI m 40 0 0 (nI 0)) (fun r1 m2 => ∃ w3 : Int32, r1 = some (vI w3) ∧
          ((¬ w3 = 0 →
            K 31 [some (vR 40 0), some (vI p1), some (vI (nI 0)), some (vI (nI 0)), none] [] m2) ∧
          (w3 = 0 →
            Q (some (vI (-1 : Int32))) m2)))) ∧
      (p1 = (nI 4) →
        C 124 [vR 40 0] (mI m 40 0 0 (nI 0)) (fun r4 m5 => ∃ w6 : Int32, r4 = some (vI w6) ∧
          ((w6 ≤ 0 →
            C 173 [vR 40 0] m5 (fun r7 m8 => ∃ w9 : Int32, r7 = some (vI w9) ∧
              Q (some (vI w9)) m8)) ∧
          (¬ w6 ≤ 0 →
            Q (some (vI (-2 : Int32))) m5)))))) ∧
    (p1 = 0 →
      Q (some (vI ((mI m 40 0 0 (nI 0)).1 40 0 1))) (mI m 40 0 0 (nI 0))))) :
    wp2i xs C tX12_count [31] (some .int) Q K 2000 0 [some (vR 40 0), some (vI p1), none, none, none] [] m := h
set_option maxRecDepth 100000 in
theorem bX12_count_31 {xs : Nat × (Nat → Int32)} {C : Nat → List v2 → Mem → (Option v2 → Mem → Prop) → Prop} {Q : Option v2 → Mem → Prop} {K : Nat → L2 → List v2 → Mem → Prop} (m : Mem) (x1 : Int32) (x2 : Int32) (x3 : Int32) (o4 : Option v2)
    (h : ((((nI 4) * (m.1 40 0 1)) ≤ x3 →
      Q (some (vI x2)) m) ∧
    (¬ ((nI 4) * (m.1 40 0 1)) ≤ x3 →
      ¬ (nI 4) = 0 ∧ 
        ¬ (nI 4) = 0 ∧ 
          inb (x3 / (nI 4)) 10 ∧ 
            (((m.1 41 0 (x3 / (nI 4)).toNatClampNeg) ≤ (x3 - x3 / (nI 4) * (nI 4)) →
              ((¬ (nI 0) = 0 →
                ((¬ x1 = (nI 1) →
                  ((¬ x1 = (nI 2) →
                    inb x3 40 ∧ 
                      ((¬ (m.1 42 0 x3.toNatClampNeg) = (nI 2) →
                        K 31 [some (vR 40 0), some (vI x1), some (vI (x2 + (nI 0))), some (vI (x3 + (nI 1))), some (vI (nI 0))] [] m) ∧
                      ((m.1 42 0 x3.toNatClampNeg) = (nI 2) →
                        K 31 [some (vR 40 0), some (vI x1), some (vI (x2 + (nI 1))), some (vI (x3 + (nI 1))), some (vI (nI 0))] [] m))) ∧
                  (x1 = (nI 2) →
                    inb x3 40 ∧ 
                      K 31 [some (vR 40 0), some (vI x1), some (vI (x2 + (m.1 44 0 x3.toNatClampNeg))), some (vI (x3 + (nI 1))), some (vI (nI 0))] [] m))) ∧
                (x1 = (nI 1) →
                  K 31 [some (vR 40 0), some (vI x1), some (vI (x2 + (nI 1))), some (vI (x3 + (nI 1))), some (vI (nI 0))] [] m))) ∧
              ((nI 0) = 0 →
                K 31 [some (vR 40 0), some (vI x1), some (vI (x2 + (nI 0))), some (vI (x3 + (nI 1))), some (vI (nI 0))] [] m))) ∧
            (¬ (m.1 41 0 (x3 / (nI 4)).toNatClampNeg) ≤ (x3 - x3 / (nI 4) * (nI 4)) →
              ((¬ (nI 1) = 0 →
                ((¬ x1 = (nI 1) →
                  ((¬ x1 = (nI 2) →
                    inb x3 40 ∧ 
                      ((¬ (m.1 42 0 x3.toNatClampNeg) = (nI 2) →
                        K 31 [some (vR 40 0), some (vI x1), some (vI (x2 + (nI 0))), some (vI (x3 + (nI 1))), some (vI (nI 1))] [] m) ∧
                      ((m.1 42 0 x3.toNatClampNeg) = (nI 2) →
                        K 31 [some (vR 40 0), some (vI x1), some (vI (x2 + (nI 1))), some (vI (x3 + (nI 1))), some (vI (nI 1))] [] m))) ∧
                  (x1 = (nI 2) →
                    inb x3 40 ∧ 
                      K 31 [some (vR 40 0), some (vI x1), some (vI (x2 + (m.1 44 0 x3.toNatClampNeg))), some (vI (x3 + (nI 1))), some (vI (nI 1))] [] m))) ∧
                (x1 = (nI 1) →
                  K 31 [some (vR 40 0), some (vI x1), some (vI (x2 + (nI 1))), some (vI (x3 + (nI 1))), some (vI (nI 1))] [] m))) ∧
              ((nI 1) = 0 →
                K 31 [some (vR 40 0), some (vI x1), some (vI (x2 + (nI 0))), some (vI (x3 + (nI 1))), some (vI (nI 1))] [] m))))))) :
    wp2i xs C tX12_count [31] (some .int) Q K 2000 31 [some (vR 40 0), some (vI x1), some (vI x2), some (vI x3), o4] [] m := h
set_option maxRecDepth 100000 in
theorem bX12_look_0 {xs : Nat × (Nat → Int32)} {C : Nat → List v2 → Mem → (Option v2 → Mem → Prop) → Prop} {Q : Option v2 → Mem → Prop} {K : Nat → L2 → List v2 → Mem → Prop} (m : Mem) (p1 : Int32) (p2 : Int32) (p3 : Int32)
    (h : C 115 [vR 40 0, vI p1, vI p2] (mI m 40 0 0 (nI 0)) (fun r1 m2 => ∃ w3 : Int32, r1 = some (vI w3) ∧
      ((w3 = 0 →
        Q (some (vI (-1 : Int32))) m2) ∧
      (¬ w3 = 0 →
        C 113 [vL p3.toInt64, vL (lN 0), vL (lN 10)] m2 (fun r4 m5 => ∃ w6 : Int32, r4 = some (vI w6) ∧
          ((¬ w6 = 0 →
            (((nI 3) ≤ p3 →
              ¬ (nI 4) = 0 ∧ 
                inb (((nI 4) * p1) + p2) 40 ∧ 
                  ((((p3 - (nI 3)) - (p3 - (nI 3)) / (nI 4) * (nI 4)) < (m5.1 44 0 (((nI 4) * p1) + p2).toNatClampNeg) →
                    (((nI 7) ≤ p3 →
                      inb (((nI 4) * (((nI 4) * p1) + p2)) + ((p3 - (nI 3)) - (p3 - (nI 3)) / (nI 4) * (nI 4))) 160 ∧ 
                        Q (some (vI (m5.1 46 0 (((nI 4) * (((nI 4) * p1) + p2)) + ((p3 - (nI 3)) - (p3 - (nI 3)) / (nI 4) * (nI 4))).toNatClampNeg))) m5) ∧
                    (¬ (nI 7) ≤ p3 →
                      inb (((nI 4) * (((nI 4) * p1) + p2)) + ((p3 - (nI 3)) - (p3 - (nI 3)) / (nI 4) * (nI 4))) 160 ∧ 
                        Q (some (vI (m5.1 45 0 (((nI 4) * (((nI 4) * p1) + p2)) + ((p3 - (nI 3)) - (p3 - (nI 3)) / (nI 4) * (nI 4))).toNatClampNeg))) m5))) ∧
                  (¬ ((p3 - (nI 3)) - (p3 - (nI 3)) / (nI 4) * (nI 4)) < (m5.1 44 0 (((nI 4) * p1) + p2).toNatClampNeg) →
                    Q (some (vI (-2 : Int32))) m5))) ∧
            (¬ (nI 3) ≤ p3 →
              ((¬ p3 = 0 →
                ((¬ p3 = (nI 1) →
                  inb (((nI 4) * p1) + p2) 40 ∧ 
                    Q (some (vI (m5.1 44 0 (((nI 4) * p1) + p2).toNatClampNeg))) m5) ∧
                (p3 = (nI 1) →
                  inb (((nI 4) * p1) + p2) 40 ∧ 
                    Q (some (vI (m5.1 43 0 (((nI 4) * p1) + p2).toNatClampNeg))) m5))) ∧
              (p3 = 0 →
                inb (((nI 4) * p1) + p2) 40 ∧ 
                  Q (some (vI (m5.1 42 0 (((nI 4) * p1) + p2).toNatClampNeg))) m5))))) ∧
          (w6 = 0 →
            Q (some (vI (-1 : Int32))) m5))))))) :
    wp2i xs C tX12_look [] (some .int) Q K 2000 0 [some (vR 40 0), some (vI p1), some (vI p2), some (vI p3), none, none] [] m := h
set_option maxRecDepth 100000 in
theorem bX12_isShelf_0 {xs : Nat × (Nat → Int32)} {C : Nat → List v2 → Mem → (Option v2 → Mem → Prop) → Prop} {Q : Option v2 → Mem → Prop} {K : Nat → L2 → List v2 → Mem → Prop} (m : Mem) (p0 : Int32)
    (h : ((p0 < 0 →
      isB (nI 0) ∧ Q (some (vI (nI 0))) m) ∧
    (¬ p0 < 0 →
      (((nI 8) ≤ p0 →
        isB (nI 0) ∧ Q (some (vI (nI 0))) m) ∧
      (¬ (nI 8) ≤ p0 →
        isB (nI 1) ∧ Q (some (vI (nI 1))) m))))) :
    wp2i xs C tX12_isShelf [] (some .boolean) Q K 2000 0 [some (vI p0)] [] m := h
set_option maxRecDepth 100000 in
theorem bX12_weightOf_0 {xs : Nat × (Nat → Int32)} {C : Nat → List v2 → Mem → (Option v2 → Mem → Prop) → Prop} {Q : Option v2 → Mem → Prop} {K : Nat → L2 → List v2 → Mem → Prop} (m : Mem) (p1 : Int32)
    (h : inb p1 40 ∧ 
      inb p1 40 ∧ 
        inb p1 40 ∧ 
          ((¬ (m.1 42 0 p1.toNatClampNeg) = 0 →
            inb p1 40 ∧ 
              ((¬ (m.1 42 0 p1.toNatClampNeg) = (nI 1) →
                inb p1 40 ∧ 
                  ((¬ (m.1 42 0 p1.toNatClampNeg) = (nI 2) →
                    Q (some (vI ((nI 2) * (((m.1 43 0 p1.toNatClampNeg) + ((nI 5) * (m.1 44 0 p1.toNatClampNeg))) + (nI 50))))) m) ∧
                  ((m.1 42 0 p1.toNatClampNeg) = (nI 2) →
                    Q (some (vI (((m.1 43 0 p1.toNatClampNeg) + ((nI 5) * (m.1 44 0 p1.toNatClampNeg))) + (nI 7)))) m))) ∧
              ((m.1 42 0 p1.toNatClampNeg) = (nI 1) →
                Q (some (vI (((m.1 43 0 p1.toNatClampNeg) + ((nI 5) * (m.1 44 0 p1.toNatClampNeg))) + (nI 50)))) m))) ∧
          ((m.1 42 0 p1.toNatClampNeg) = 0 →
            Q (some (vI ((m.1 43 0 p1.toNatClampNeg) + ((nI 5) * (m.1 44 0 p1.toNatClampNeg))))) m))) :
    wp2i xs C tX12_weightOf [] (some .int) Q K 2000 0 [some (vR 40 0), some (vI p1), none] [] m := h
set_option maxRecDepth 100000 in
theorem bX12_keep_0 {xs : Nat × (Nat → Int32)} {C : Nat → List v2 → Mem → (Option v2 → Mem → Prop) → Prop} {Q : Option v2 → Mem → Prop} {K : Nat → L2 → List v2 → Mem → Prop} (m : Mem) (p1 : Int32) (p2 : Int32) (p3 : Int32) (p4 : Int32)
    (h : C 177 [vI p1] (mI m 40 0 0 (nI 0)) (fun r1 m2 => ∃ w3 : Int32, r1 = some (vI w3) ∧
      ((w3 = 0 →
        K 32 [some (vR 40 0), some (vI p1), some (vI p2), some (vI p3), some (vI p4), none, none, none] [] m2) ∧
      (¬ w3 = 0 →
        C 113 [vL p2.toInt64, vL (lN 0), vL (lN 4)] m2 (fun r4 m5 => ∃ w6 : Int32, r4 = some (vI w6) ∧
          ((w6 = 0 →
            K 32 [some (vR 40 0), some (vI p1), some (vI p2), some (vI p3), some (vI p4), none, none, none] [] m5) ∧
          (¬ w6 = 0 →
            ((p2 = (nI 1) →
              K 18 [some (vR 40 0), some (vI p1), some (vI p2), some (vI p3), some (vI p4), none, none, none] [] m5) ∧
            (¬ p2 = (nI 1) →
              ((¬ p2 = (nI 3) →
                K 23 [some (vR 40 0), some (vI p1), some (vI p2), some (vI p3), some (vI p4), none, none, none] [] m5) ∧
              (p2 = (nI 3) →
                K 18 [some (vR 40 0), some (vI p1), some (vI p2), some (vI p3), some (vI p4), none, none, none] [] m5))))))))))) :
    wp2i xs C tX12_keep [18, 23, 30, 32, 33, 44, 49, 83, 90, 109, 110, 112, 159] (some .int) Q K 2000 0 [some (vR 40 0), some (vI p1), some (vI p2), some (vI p3), some (vI p4), none, none, none] [] m := h
set_option maxRecDepth 100000 in
theorem bX12_keep_18 {xs : Nat × (Nat → Int32)} {C : Nat → List v2 → Mem → (Option v2 → Mem → Prop) → Prop} {Q : Option v2 → Mem → Prop} {K : Nat → L2 → List v2 → Mem → Prop} (m : Mem) (x1 : Int32) (x2 : Int32) (x3 : Int32) (x4 : Int32)
    (h : C 115 [vR 40 0, vI x3, vI x4] m (fun r1 m2 => ∃ w3 : Int32, r1 = some (vI w3) ∧
      ((w3 = 0 →
        K 32 [some (vR 40 0), some (vI x1), some (vI x2), some (vI x3), some (vI x4), none, none, none] [] m2) ∧
      (¬ w3 = 0 →
        K 23 [some (vR 40 0), some (vI x1), some (vI x2), some (vI x3), some (vI x4), none, none, none] [] m2)))) :
    wp2i xs C tX12_keep [18, 23, 30, 32, 33, 44, 49, 83, 90, 109, 110, 112, 159] (some .int) Q K 2000 18 [some (vR 40 0), some (vI x1), some (vI x2), some (vI x3), some (vI x4), none, none, none] [] m := h
set_option maxRecDepth 100000 in
theorem bX12_keep_23 {xs : Nat × (Nat → Int32)} {C : Nat → List v2 → Mem → (Option v2 → Mem → Prop) → Prop} {Q : Option v2 → Mem → Prop} {K : Nat → L2 → List v2 → Mem → Prop} (m : Mem) (x1 : Int32) (x2 : Int32) (x3 : Int32) (x4 : Int32)
    (h : ((¬ x2 = (nI 2) →
      K 30 [some (vR 40 0), some (vI x1), some (vI x2), some (vI x3), some (vI x4), none, none, none] [] m) ∧
    (x2 = (nI 2) →
      C 114 [vR 40 0, vI x3] m (fun r1 m2 => ∃ w3 : Int32, r1 = some (vI w3) ∧
        ((w3 = 0 →
          K 32 [some (vR 40 0), some (vI x1), some (vI x2), some (vI x3), some (vI x4), none, none, none] [] m2) ∧
        (¬ w3 = 0 →
          K 30 [some (vR 40 0), some (vI x1), some (vI x2), some (vI x3), some (vI x4), none, none, none] [] m2)))))) :
    wp2i xs C tX12_keep [18, 23, 30, 32, 33, 44, 49, 83, 90, 109, 110, 112, 159] (some .int) Q K 2000 23 [some (vR 40 0), some (vI x1), some (vI x2), some (vI x3), some (vI x4), none, none, none] [] m := h
set_option maxRecDepth 100000 in
theorem bX12_keep_30 {xs : Nat × (Nat → Int32)} {C : Nat → List v2 → Mem → (Option v2 → Mem → Prop) → Prop} {Q : Option v2 → Mem → Prop} {K : Nat → L2 → List v2 → Mem → Prop} (m : Mem) (x1 : Int32) (x2 : Int32) (x3 : Int32) (x4 : Int32)
    (h : K 33 [some (vR 40 0), some (vI x1), some (vI x2), some (vI x3), some (vI x4), none, none, none] [vI (nI 1)] m) :
    wp2i xs C tX12_keep [18, 23, 30, 32, 33, 44, 49, 83, 90, 109, 110, 112, 159] (some .int) Q K 2000 30 [some (vR 40 0), some (vI x1), some (vI x2), some (vI x3), some (vI x4), none, none, none] [] m := h
set_option maxRecDepth 100000 in
theorem bX12_keep_32 {xs : Nat × (Nat → Int32)} {C : Nat → List v2 → Mem → (Option v2 → Mem → Prop) → Prop} {Q : Option v2 → Mem → Prop} {K : Nat → L2 → List v2 → Mem → Prop} (m : Mem) (x1 : Int32) (x2 : Int32) (x3 : Int32) (x4 : Int32)
    (h : K 33 [some (vR 40 0), some (vI x1), some (vI x2), some (vI x3), some (vI x4), none, none, none] [vI (nI 0)] m) :
    wp2i xs C tX12_keep [18, 23, 30, 32, 33, 44, 49, 83, 90, 109, 110, 112, 159] (some .int) Q K 2000 32 [some (vR 40 0), some (vI x1), some (vI x2), some (vI x3), some (vI x4), none, none, none] [] m := h
set_option maxRecDepth 100000 in
theorem bX12_keep_33 {xs : Nat × (Nat → Int32)} {C : Nat → List v2 → Mem → (Option v2 → Mem → Prop) → Prop} {Q : Option v2 → Mem → Prop} {K : Nat → L2 → List v2 → Mem → Prop} (m : Mem) (x1 : Int32) (x2 : Int32) (x3 : Int32) (x4 : Int32) (s0 : Int32)
    (h : ((¬ s0 = 0 →
      ((x2 = (nI 2) →
        K 44 [some (vR 40 0), some (vI x1), some (vI x2), some (vI x3), some (vI x4), some (vI s0), none, none] [] m) ∧
      (¬ x2 = (nI 2) →
        ((¬ x2 = (nI 4) →
          K 49 [some (vR 40 0), some (vI x1), some (vI x2), some (vI x3), some (vI x4), some (vI s0), none, none] [vI (nI 0)] m) ∧
        (x2 = (nI 4) →
          K 44 [some (vR 40 0), some (vI x1), some (vI x2), some (vI x3), some (vI x4), some (vI s0), none, none] [] m))))) ∧
    (s0 = 0 →
      Q (some (vI (-1 : Int32))) m))) :
    wp2i xs C tX12_keep [18, 23, 30, 32, 33, 44, 49, 83, 90, 109, 110, 112, 159] (some .int) Q K 2000 33 [some (vR 40 0), some (vI x1), some (vI x2), some (vI x3), some (vI x4), none, none, none] [vI s0] m := h
set_option maxRecDepth 100000 in
theorem bX12_keep_44 {xs : Nat × (Nat → Int32)} {C : Nat → List v2 → Mem → (Option v2 → Mem → Prop) → Prop} {Q : Option v2 → Mem → Prop} {K : Nat → L2 → List v2 → Mem → Prop} (m : Mem) (x1 : Int32) (x2 : Int32) (x3 : Int32) (x4 : Int32) (x5 : Int32)
    (h : C 151 [vR 40 0] m (fun r1 m2 => ∃ w3 : Int64, r1 = some (vL w3) ∧
      K 49 [some (vR 40 0), some (vI x1), some (vI x2), some (vI x3), some (vI x4), some (vI x5), none, none] [vI w3.toInt32] m2)) :
    wp2i xs C tX12_keep [18, 23, 30, 32, 33, 44, 49, 83, 90, 109, 110, 112, 159] (some .int) Q K 2000 44 [some (vR 40 0), some (vI x1), some (vI x2), some (vI x3), some (vI x4), some (vI x5), none, none] [] m := h
set_option maxRecDepth 100000 in
theorem bX12_keep_49 {xs : Nat × (Nat → Int32)} {C : Nat → List v2 → Mem → (Option v2 → Mem → Prop) → Prop} {Q : Option v2 → Mem → Prop} {K : Nat → L2 → List v2 → Mem → Prop} (m : Mem) (x1 : Int32) (x2 : Int32) (x3 : Int32) (x4 : Int32) (x5 : Int32) (s0 : Int32)
    (h : ((0 ≤ s0 →
      inb x1 8 ∧ 
        ((¬ x2 = (nI 3) →
          ((¬ x2 = (nI 4) →
            K 83 [some (vR 40 0), some (vI x1), some (vI x2), some (vI x3), some (vI x4), some (vI x5), some (vI s0), none] [vI (nI 0), vI x1, vR 67 0] (mI m 66 0 x1.toNatClampNeg x2)) ∧
          (x2 = (nI 4) →
            K 83 [some (vR 40 0), some (vI x1), some (vI x2), some (vI x3), some (vI x4), some (vI x5), some (vI s0), none] [vI ((nI 2) * ((mI m 66 0 x1.toNatClampNeg x2).1 40 0 1)), vI x1, vR 67 0] (mI m 66 0 x1.toNatClampNeg x2)))) ∧
        (x2 = (nI 3) →
          inb (((nI 4) * x3) + x4) 40 ∧ 
            K 83 [some (vR 40 0), some (vI x1), some (vI x2), some (vI x3), some (vI x4), some (vI x5), some (vI s0), none] [vI ((mI m 66 0 x1.toNatClampNeg x2).1 44 0 (((nI 4) * x3) + x4).toNatClampNeg), vI x1, vR 67 0] (mI m 66 0 x1.toNatClampNeg x2)))) ∧
    (¬ 0 ≤ s0 →
      Q (some (vI s0)) m))) :
    wp2i xs C tX12_keep [18, 23, 30, 32, 33, 44, 49, 83, 90, 109, 110, 112, 159] (some .int) Q K 2000 49 [some (vR 40 0), some (vI x1), some (vI x2), some (vI x3), some (vI x4), some (vI x5), none, none] [vI s0] m := h
set_option maxRecDepth 100000 in
theorem bX12_keep_83 {xs : Nat × (Nat → Int32)} {C : Nat → List v2 → Mem → (Option v2 → Mem → Prop) → Prop} {Q : Option v2 → Mem → Prop} {K : Nat → L2 → List v2 → Mem → Prop} (m : Mem) (x1 : Int32) (x2 : Int32) (x3 : Int32) (x4 : Int32) (x5 : Int32) (x6 : Int32) (s0 : Int32) (s1 : Int32)
    (h : inb s1 8 ∧ 
      ((x2 = (nI 1) →
        K 90 [some (vR 40 0), some (vI x1), some (vI x2), some (vI x3), some (vI x4), some (vI x5), some (vI x6), none] [] (mI m 67 0 s1.toNatClampNeg s0)) ∧
      (¬ x2 = (nI 1) →
        ((¬ x2 = (nI 2) →
          K 110 [some (vR 40 0), some (vI x1), some (vI x2), some (vI x3), some (vI x4), some (vI x5), some (vI x6), none] [] (mI m 67 0 s1.toNatClampNeg s0)) ∧
        (x2 = (nI 2) →
          K 90 [some (vR 40 0), some (vI x1), some (vI x2), some (vI x3), some (vI x4), some (vI x5), some (vI x6), none] [] (mI m 67 0 s1.toNatClampNeg s0)))))) :
    wp2i xs C tX12_keep [18, 23, 30, 32, 33, 44, 49, 83, 90, 109, 110, 112, 159] (some .int) Q K 2000 83 [some (vR 40 0), some (vI x1), some (vI x2), some (vI x3), some (vI x4), some (vI x5), some (vI x6), none] [vI s0, vI s1, vR 67 0] m := h
set_option maxRecDepth 100000 in
theorem bX12_keep_90 {xs : Nat × (Nat → Int32)} {C : Nat → List v2 → Mem → (Option v2 → Mem → Prop) → Prop} {Q : Option v2 → Mem → Prop} {K : Nat → L2 → List v2 → Mem → Prop} (m : Mem) (x1 : Int32) (x2 : Int32) (x3 : Int32) (x4 : Int32) (x5 : Int32) (x6 : Int32)
    (h : ((¬ x2 = (nI 1) →
      inb x3 20 ∧ 
        K 109 [some (vR 40 0), some (vI x1), some (vI x2), some (vI x3), some (vI x4), some (vI x5), some (vI x6), none] [vL (m.2 54 0 x3.toNatClampNeg), vI x1, vR 68 0] m) ∧
    (x2 = (nI 1) →
      C 178 [vR 40 0, vI (((nI 4) * x3) + x4)] m (fun r1 m2 => ∃ w3 : Int32, r1 = some (vI w3) ∧
        K 109 [some (vR 40 0), some (vI x1), some (vI x2), some (vI x3), some (vI x4), some (vI x5), some (vI x6), none] [vL w3.toInt64, vI x1, vR 68 0] m2)))) :
    wp2i xs C tX12_keep [18, 23, 30, 32, 33, 44, 49, 83, 90, 109, 110, 112, 159] (some .int) Q K 2000 90 [some (vR 40 0), some (vI x1), some (vI x2), some (vI x3), some (vI x4), some (vI x5), some (vI x6), none] [] m := h
set_option maxRecDepth 100000 in
theorem bX12_keep_109 {xs : Nat × (Nat → Int32)} {C : Nat → List v2 → Mem → (Option v2 → Mem → Prop) → Prop} {Q : Option v2 → Mem → Prop} {K : Nat → L2 → List v2 → Mem → Prop} (m : Mem) (x1 : Int32) (x2 : Int32) (x3 : Int32) (x4 : Int32) (x5 : Int32) (x6 : Int32) (s0 : Int64) (s1 : Int32)
    (h : inb s1 8 ∧ 
      K 110 [some (vR 40 0), some (vI x1), some (vI x2), some (vI x3), some (vI x4), some (vI x5), some (vI x6), none] [] (mL m 68 0 s1.toNatClampNeg s0)) :
    wp2i xs C tX12_keep [18, 23, 30, 32, 33, 44, 49, 83, 90, 109, 110, 112, 159] (some .int) Q K 2000 109 [some (vR 40 0), some (vI x1), some (vI x2), some (vI x3), some (vI x4), some (vI x5), some (vI x6), none] [vL s0, vI s1, vR 68 0] m := h
set_option maxRecDepth 100000 in
theorem bX12_keep_110 {xs : Nat × (Nat → Int32)} {C : Nat → List v2 → Mem → (Option v2 → Mem → Prop) → Prop} {Q : Option v2 → Mem → Prop} {K : Nat → L2 → List v2 → Mem → Prop} (m : Mem) (x1 : Int32) (x2 : Int32) (x3 : Int32) (x4 : Int32) (x5 : Int32) (x6 : Int32)
    (h : K 112 [some (vR 40 0), some (vI x1), some (vI x2), some (vI x3), some (vI x4), some (vI x5), some (vI x6), some (vI (nI 0))] [] m) :
    wp2i xs C tX12_keep [18, 23, 30, 32, 33, 44, 49, 83, 90, 109, 110, 112, 159] (some .int) Q K 2000 110 [some (vR 40 0), some (vI x1), some (vI x2), some (vI x3), some (vI x4), some (vI x5), some (vI x6), none] [] m := h
set_option maxRecDepth 100000 in
theorem bX12_keep_112 {xs : Nat × (Nat → Int32)} {C : Nat → List v2 → Mem → (Option v2 → Mem → Prop) → Prop} {Q : Option v2 → Mem → Prop} {K : Nat → L2 → List v2 → Mem → Prop} (m : Mem) (x1 : Int32) (x2 : Int32) (x3 : Int32) (x4 : Int32) (x5 : Int32) (x6 : Int32) (x7 : Int32)
    (h : inb x1 8 ∧ 
      (((m.1 67 0 x1.toNatClampNeg) ≤ x7 →
        Q (some (vI (nI 0))) m) ∧
      (¬ (m.1 67 0 x1.toNatClampNeg) ≤ x7 →
        ((¬ x2 = (nI 3) →
          ¬ (nI 2) = 0 ∧ 
            ((¬ (x7 - x7 / (nI 2) * (nI 2)) = 0 →
              ¬ (nI 2) = 0 ∧ 
                inb (x7 / (nI 2)) 20 ∧ 
                  K 159 [some (vR 40 0), some (vI x1), some (vI x2), some (vI x3), some (vI x4), some (vI x5), some (vI x6), some (vI x7)] [vL (m.2 55 0 (x7 / (nI 2)).toNatClampNeg), vI (((nI 60) * x1) + x7), vR 69 0] m) ∧
            ((x7 - x7 / (nI 2) * (nI 2)) = 0 →
              ¬ (nI 2) = 0 ∧ 
                inb (x7 / (nI 2)) 20 ∧ 
                  K 159 [some (vR 40 0), some (vI x1), some (vI x2), some (vI x3), some (vI x4), some (vI x5), some (vI x6), some (vI x7)] [vL (m.2 54 0 (x7 / (nI 2)).toNatClampNeg), vI (((nI 60) * x1) + x7), vR 69 0] m))) ∧
        (x2 = (nI 3) →
          inb ((((nI 16) * x3) + ((nI 4) * x4)) + x7) 160 ∧ 
            K 159 [some (vR 40 0), some (vI x1), some (vI x2), some (vI x3), some (vI x4), some (vI x5), some (vI x6), some (vI x7)] [vL (m.1 46 0 ((((nI 16) * x3) + ((nI 4) * x4)) + x7).toNatClampNeg).toInt64, vI (((nI 60) * x1) + x7), vR 69 0] m))))) :
    wp2i xs C tX12_keep [18, 23, 30, 32, 33, 44, 49, 83, 90, 109, 110, 112, 159] (some .int) Q K 2000 112 [some (vR 40 0), some (vI x1), some (vI x2), some (vI x3), some (vI x4), some (vI x5), some (vI x6), some (vI x7)] [] m := h
set_option maxRecDepth 100000 in
theorem bX12_keep_159 {xs : Nat × (Nat → Int32)} {C : Nat → List v2 → Mem → (Option v2 → Mem → Prop) → Prop} {Q : Option v2 → Mem → Prop} {K : Nat → L2 → List v2 → Mem → Prop} (m : Mem) (x1 : Int32) (x2 : Int32) (x3 : Int32) (x4 : Int32) (x5 : Int32) (x6 : Int32) (x7 : Int32) (s0 : Int64) (s1 : Int32)
    (h : inb s1 480 ∧ 
      K 112 [some (vR 40 0), some (vI x1), some (vI x2), some (vI x3), some (vI x4), some (vI x5), some (vI x6), some (vI (x7 + (nI 1)))] [] (mL m 69 0 s1.toNatClampNeg s0)) :
    wp2i xs C tX12_keep [18, 23, 30, 32, 33, 44, 49, 83, 90, 109, 110, 112, 159] (some .int) Q K 2000 159 [some (vR 40 0), some (vI x1), some (vI x2), some (vI x3), some (vI x4), some (vI x5), some (vI x6), some (vI x7)] [vL s0, vI s1, vR 69 0] m := h
set_option maxRecDepth 100000 in
theorem bX12_make_0 {xs : Nat × (Nat → Int32)} {C : Nat → List v2 → Mem → (Option v2 → Mem → Prop) → Prop} {Q : Option v2 → Mem → Prop} {K : Nat → L2 → List v2 → Mem → Prop} (m : Mem) (p1 : Int32) (p2 : Int32) (p3 : Int32)
    (h : C 177 [vI p1] (mI m 40 0 0 (nI 0)) (fun r1 m2 => ∃ w3 : Int32, r1 = some (vI w3) ∧
      ((w3 = 0 →
        Q (some (vI (-1 : Int32))) m2) ∧
      (¬ w3 = 0 →
        C 113 [vL p2.toInt64, vL (lN 3), vL (lN 4)] m2 (fun r4 m5 => ∃ w6 : Int32, r4 = some (vI w6) ∧
          ((w6 = 0 →
            Q (some (vI (-1 : Int32))) m5) ∧
          (¬ w6 = 0 →
            ((p3 ≤ (nI 60) →
              ((0 ≤ p3 →
                inb p1 8 ∧ 
                  inb p1 8 ∧ 
                    K 33 [some (vR 40 0), some (vI p1), some (vI p2), some (vI p3), some (vI (nI 0))] [] (mI (mI m5 66 0 p1.toNatClampNeg p2) 67 0 p1.toNatClampNeg p3)) ∧
              (¬ 0 ≤ p3 →
                Q (some (vI (-14 : Int32))) m5))) ∧
            (¬ p3 ≤ (nI 60) →
              Q (some (vI (-1 : Int32))) m5))))))))) :
    wp2i xs C tX12_make [33] (some .int) Q K 2000 0 [some (vR 40 0), some (vI p1), some (vI p2), some (vI p3), none] [] m := h
set_option maxRecDepth 100000 in
theorem bX12_make_33 {xs : Nat × (Nat → Int32)} {C : Nat → List v2 → Mem → (Option v2 → Mem → Prop) → Prop} {Q : Option v2 → Mem → Prop} {K : Nat → L2 → List v2 → Mem → Prop} (m : Mem) (x1 : Int32) (x2 : Int32) (x3 : Int32) (x4 : Int32)
    (h : ((x3 ≤ x4 →
      Q (some (vI (nI 0))) m) ∧
    (¬ x3 ≤ x4 →
      inb (((nI 60) * x1) + x4) 480 ∧ 
        K 33 [some (vR 40 0), some (vI x1), some (vI x2), some (vI x3), some (vI (x4 + (nI 1)))] [] (mL m 69 0 (((nI 60) * x1) + x4).toNatClampNeg (lN 0))))) :
    wp2i xs C tX12_make [33] (some .int) Q K 2000 33 [some (vR 40 0), some (vI x1), some (vI x2), some (vI x3), some (vI x4)] [] m := h
set_option maxRecDepth 100000 in
theorem bX12_element_0 {xs : Nat × (Nat → Int32)} {C : Nat → List v2 → Mem → (Option v2 → Mem → Prop) → Prop} {Q : Option v2 → Mem → Prop} {K : Nat → L2 → List v2 → Mem → Prop} (m : Mem) (p1 : Int32) (p2 : Int32)
    (h : C 177 [vI p1] m (fun r1 m2 => ∃ w3 : Int32, r1 = some (vI w3) ∧
      ((w3 = 0 →
        C 177 [vI p1] m2 (fun r4 m5 => ∃ w6 : Int32, r4 = some (vI w6) ∧
          ((¬ w6 = 0 →
            (((nI 0) = 0 →
              (((nI 0) = 0 →
                Q (some (vL (lN 0))) (mI m5 40 0 0 (nI 2))) ∧
              (¬ (nI 0) = 0 →
                inb (((nI 60) * p1) + p2) 480 ∧ 
                  Q (some (vL ((mI m5 40 0 0 (nI 2)).2 69 0 (((nI 60) * p1) + p2).toNatClampNeg))) (mI m5 40 0 0 (nI 2))))) ∧
            (¬ (nI 0) = 0 →
              (((nI 0) = 0 →
                Q (some (vL (lN 0))) (mI m5 40 0 0 (nI 0))) ∧
              (¬ (nI 0) = 0 →
                inb (((nI 60) * p1) + p2) 480 ∧ 
                  Q (some (vL ((mI m5 40 0 0 (nI 0)).2 69 0 (((nI 60) * p1) + p2).toNatClampNeg))) (mI m5 40 0 0 (nI 0))))))) ∧
          (w6 = 0 →
            (((nI 0) = 0 →
              Q (some (vL (lN 0))) (mI m5 40 0 0 (nI 1))) ∧
            (¬ (nI 0) = 0 →
              inb (((nI 60) * p1) + p2) 480 ∧ 
                Q (some (vL ((mI m5 40 0 0 (nI 1)).2 69 0 (((nI 60) * p1) + p2).toNatClampNeg))) (mI m5 40 0 0 (nI 1)))))))) ∧
      (¬ w3 = 0 →
        inb p1 8 ∧ 
          (((m2.1 66 0 p1.toNatClampNeg) ≤ (nI 2) →
            C 177 [vI p1] m2 (fun r7 m8 => ∃ w9 : Int32, r7 = some (vI w9) ∧
              ((¬ w9 = 0 →
                (((nI 0) = 0 →
                  (((nI 0) = 0 →
                    Q (some (vL (lN 0))) (mI m8 40 0 0 (nI 2))) ∧
                  (¬ (nI 0) = 0 →
                    inb (((nI 60) * p1) + p2) 480 ∧ 
                      Q (some (vL ((mI m8 40 0 0 (nI 2)).2 69 0 (((nI 60) * p1) + p2).toNatClampNeg))) (mI m8 40 0 0 (nI 2))))) ∧
                (¬ (nI 0) = 0 →
                  (((nI 0) = 0 →
                    Q (some (vL (lN 0))) (mI m8 40 0 0 (nI 0))) ∧
                  (¬ (nI 0) = 0 →
                    inb (((nI 60) * p1) + p2) 480 ∧ 
                      Q (some (vL ((mI m8 40 0 0 (nI 0)).2 69 0 (((nI 60) * p1) + p2).toNatClampNeg))) (mI m8 40 0 0 (nI 0))))))) ∧
              (w9 = 0 →
                (((nI 0) = 0 →
                  Q (some (vL (lN 0))) (mI m8 40 0 0 (nI 1))) ∧
                (¬ (nI 0) = 0 →
                  inb (((nI 60) * p1) + p2) 480 ∧ 
                    Q (some (vL ((mI m8 40 0 0 (nI 1)).2 69 0 (((nI 60) * p1) + p2).toNatClampNeg))) (mI m8 40 0 0 (nI 1)))))))) ∧
          (¬ (m2.1 66 0 p1.toNatClampNeg) ≤ (nI 2) →
            inb p1 8 ∧ 
              C 113 [vL p2.toInt64, vL (lN 0), vL ((m2.1 67 0 p1.toNatClampNeg) - (nI 1)).toInt64] m2 (fun r10 m11 => ∃ w12 : Int32, r10 = some (vI w12) ∧
                ((w12 = 0 →
                  C 177 [vI p1] m11 (fun r13 m14 => ∃ w15 : Int32, r13 = some (vI w15) ∧
                    ((¬ w15 = 0 →
                      (((nI 0) = 0 →
                        (((nI 0) = 0 →
                          Q (some (vL (lN 0))) (mI m14 40 0 0 (nI 2))) ∧
                        (¬ (nI 0) = 0 →
                          inb (((nI 60) * p1) + p2) 480 ∧ 
                            Q (some (vL ((mI m14 40 0 0 (nI 2)).2 69 0 (((nI 60) * p1) + p2).toNatClampNeg))) (mI m14 40 0 0 (nI 2))))) ∧
                      (¬ (nI 0) = 0 →
                        (((nI 0) = 0 →
                          Q (some (vL (lN 0))) (mI m14 40 0 0 (nI 0))) ∧
                        (¬ (nI 0) = 0 →
                          inb (((nI 60) * p1) + p2) 480 ∧ 
                            Q (some (vL ((mI m14 40 0 0 (nI 0)).2 69 0 (((nI 60) * p1) + p2).toNatClampNeg))) (mI m14 40 0 0 (nI 0))))))) ∧
                    (w15 = 0 →
                      (((nI 0) = 0 →
                        Q (some (vL (lN 0))) (mI m14 40 0 0 (nI 1))) ∧
                      (¬ (nI 0) = 0 →
                        inb (((nI 60) * p1) + p2) 480 ∧ 
                          Q (some (vL ((mI m14 40 0 0 (nI 1)).2 69 0 (((nI 60) * p1) + p2).toNatClampNeg))) (mI m14 40 0 0 (nI 1)))))))) ∧
                (¬ w12 = 0 →
                  C 177 [vI p1] m11 (fun r16 m17 => ∃ w18 : Int32, r16 = some (vI w18) ∧
                    ((¬ w18 = 0 →
                      (((nI 1) = 0 →
                        (((nI 1) = 0 →
                          Q (some (vL (lN 0))) (mI m17 40 0 0 (nI 2))) ∧
                        (¬ (nI 1) = 0 →
                          inb (((nI 60) * p1) + p2) 480 ∧ 
                            Q (some (vL ((mI m17 40 0 0 (nI 2)).2 69 0 (((nI 60) * p1) + p2).toNatClampNeg))) (mI m17 40 0 0 (nI 2))))) ∧
                      (¬ (nI 1) = 0 →
                        (((nI 1) = 0 →
                          Q (some (vL (lN 0))) (mI m17 40 0 0 (nI 0))) ∧
                        (¬ (nI 1) = 0 →
                          inb (((nI 60) * p1) + p2) 480 ∧ 
                            Q (some (vL ((mI m17 40 0 0 (nI 0)).2 69 0 (((nI 60) * p1) + p2).toNatClampNeg))) (mI m17 40 0 0 (nI 0))))))) ∧
                    (w18 = 0 →
                      (((nI 1) = 0 →
                        Q (some (vL (lN 0))) (mI m17 40 0 0 (nI 1))) ∧
                      (¬ (nI 1) = 0 →
                        inb (((nI 60) * p1) + p2) 480 ∧ 
                          Q (some (vL ((mI m17 40 0 0 (nI 1)).2 69 0 (((nI 60) * p1) + p2).toNatClampNeg))) (mI m17 40 0 0 (nI 1)))))))))))))))) :
    wp2i xs C tX12_element [] (some .long) Q K 2000 0 [some (vR 40 0), some (vI p1), some (vI p2), none] [] m := h
set_option maxRecDepth 100000 in
theorem bX12_hasPlaces_0 {xs : Nat × (Nat → Int32)} {C : Nat → List v2 → Mem → (Option v2 → Mem → Prop) → Prop} {Q : Option v2 → Mem → Prop} {K : Nat → L2 → List v2 → Mem → Prop} (m : Mem) (p1 : Int32) (p2 : Int32) (p3 : Int32)
    (h : ((p3 < 0 →
      isB (nI 0) ∧ Q (some (vI (nI 0))) m) ∧
    (¬ p3 < 0 →
      ((p2 < 0 →
        isB (nI 0) ∧ Q (some (vI (nI 0))) m) ∧
      (¬ p2 < 0 →
        inb p1 8 ∧ 
          (((m.1 67 0 p1.toNatClampNeg) < p2 →
            isB (nI 0) ∧ Q (some (vI (nI 0))) m) ∧
          (¬ (m.1 67 0 p1.toNatClampNeg) < p2 →
            inb p1 8 ∧ 
              ((((m.1 67 0 p1.toNatClampNeg) - p2) < p3 →
                isB (nI 0) ∧ Q (some (vI (nI 0))) m) ∧
              (¬ ((m.1 67 0 p1.toNatClampNeg) - p2) < p3 →
                isB (nI 1) ∧ Q (some (vI (nI 1))) m))))))))) :
    wp2i xs C tX12_hasPlaces [] (some .boolean) Q K 2000 0 [some (vR 40 0), some (vI p1), some (vI p2), some (vI p3)] [] m := h
set_option maxRecDepth 100000 in
theorem bX12_copy_0 {xs : Nat × (Nat → Int32)} {C : Nat → List v2 → Mem → (Option v2 → Mem → Prop) → Prop} {Q : Option v2 → Mem → Prop} {K : Nat → L2 → List v2 → Mem → Prop} (m : Mem) (p1 : Int32) (p2 : Int32) (p3 : Int32) (p4 : Int32) (p5 : Int32)
    (h : C 177 [vI p1] (mI m 40 0 0 (nI 0)) (fun r1 m2 => ∃ w3 : Int32, r1 = some (vI w3) ∧
      ((w3 = 0 →
        Q (some (vI (-1 : Int32))) m2) ∧
      (¬ w3 = 0 →
        C 177 [vI p3] m2 (fun r4 m5 => ∃ w6 : Int32, r4 = some (vI w6) ∧
          ((¬ w6 = 0 →
            inb p1 8 ∧ 
              (((m5.1 66 0 p1.toNatClampNeg) = 0 →
                Q (some (vI (-11 : Int32))) m5) ∧
              (¬ (m5.1 66 0 p1.toNatClampNeg) = 0 →
                inb p3 8 ∧ 
                  ((¬ (m5.1 66 0 p3.toNatClampNeg) = 0 →
                    inb p1 8 ∧ 
                      (((m5.1 66 0 p1.toNatClampNeg) < (nI 3) →
                        Q (some (vI (-12 : Int32))) m5) ∧
                      (¬ (m5.1 66 0 p1.toNatClampNeg) < (nI 3) →
                        inb p1 8 ∧ 
                          inb p3 8 ∧ 
                            (((m5.1 66 0 p1.toNatClampNeg) = (m5.1 66 0 p3.toNatClampNeg) →
                              C 182 [vR 40 0, vI p1, vI p2, vI p5] m5 (fun r7 m8 => ∃ w9 : Int32, r7 = some (vI w9) ∧
                                ((w9 = 0 →
                                  Q (some (vI (-13 : Int32))) m8) ∧
                                (¬ w9 = 0 →
                                  C 182 [vR 40 0, vI p3, vI p4, vI p5] m8 (fun r10 m11 => ∃ w12 : Int32, r10 = some (vI w12) ∧
                                    ((¬ w12 = 0 →
                                      K 56 [some (vR 40 0), some (vI p1), some (vI p2), some (vI p3), some (vI p4), some (vI p5), some (vI (nI 0))] [] m11) ∧
                                    (w12 = 0 →
                                      Q (some (vI (-13 : Int32))) m11))))))) ∧
                            (¬ (m5.1 66 0 p1.toNatClampNeg) = (m5.1 66 0 p3.toNatClampNeg) →
                              Q (some (vI (-12 : Int32))) m5))))) ∧
                  ((m5.1 66 0 p3.toNatClampNeg) = 0 →
                    Q (some (vI (-11 : Int32))) m5))))) ∧
          (w6 = 0 →
            Q (some (vI (-1 : Int32))) m5))))))) :
    wp2i xs C tX12_copy [56, 77] (some .int) Q K 2000 0 [some (vR 40 0), some (vI p1), some (vI p2), some (vI p3), some (vI p4), some (vI p5), none] [] m := h
set_option maxRecDepth 100000 in
theorem bX12_copy_56 {xs : Nat × (Nat → Int32)} {C : Nat → List v2 → Mem → (Option v2 → Mem → Prop) → Prop} {Q : Option v2 → Mem → Prop} {K : Nat → L2 → List v2 → Mem → Prop} (m : Mem) (x1 : Int32) (x2 : Int32) (x3 : Int32) (x4 : Int32) (x5 : Int32) (x6 : Int32)
    (h : ((x5 ≤ x6 →
      K 77 [some (vR 40 0), some (vI x1), some (vI x2), some (vI x3), some (vI x4), some (vI x5), some (vI (nI 0))] [] m) ∧
    (¬ x5 ≤ x6 →
      inb ((((nI 60) * x1) + x2) + x6) 480 ∧ 
        inb x6 60 ∧ 
          K 56 [some (vR 40 0), some (vI x1), some (vI x2), some (vI x3), some (vI x4), some (vI x5), some (vI (x6 + (nI 1)))] [] (mL m 70 0 x6.toNatClampNeg (m.2 69 0 ((((nI 60) * x1) + x2) + x6).toNatClampNeg))))) :
    wp2i xs C tX12_copy [56, 77] (some .int) Q K 2000 56 [some (vR 40 0), some (vI x1), some (vI x2), some (vI x3), some (vI x4), some (vI x5), some (vI x6)] [] m := h
set_option maxRecDepth 100000 in
theorem bX12_copy_77 {xs : Nat × (Nat → Int32)} {C : Nat → List v2 → Mem → (Option v2 → Mem → Prop) → Prop} {Q : Option v2 → Mem → Prop} {K : Nat → L2 → List v2 → Mem → Prop} (m : Mem) (x1 : Int32) (x2 : Int32) (x3 : Int32) (x4 : Int32) (x5 : Int32) (x6 : Int32)
    (h : ((x5 ≤ x6 →
      Q (some (vI x5)) m) ∧
    (¬ x5 ≤ x6 →
      inb x6 60 ∧ 
        inb ((((nI 60) * x3) + x4) + x6) 480 ∧ 
          K 77 [some (vR 40 0), some (vI x1), some (vI x2), some (vI x3), some (vI x4), some (vI x5), some (vI (x6 + (nI 1)))] [] (mL m 69 0 ((((nI 60) * x3) + x4) + x6).toNatClampNeg (m.2 70 0 x6.toNatClampNeg))))) :
    wp2i xs C tX12_copy [56, 77] (some .int) Q K 2000 77 [some (vR 40 0), some (vI x1), some (vI x2), some (vI x3), some (vI x4), some (vI x5), some (vI x6)] [] m := h
set_option maxRecDepth 100000 in
theorem bX12_weight_0 {xs : Nat × (Nat → Int32)} {C : Nat → List v2 → Mem → (Option v2 → Mem → Prop) → Prop} {Q : Option v2 → Mem → Prop} {K : Nat → L2 → List v2 → Mem → Prop} (m : Mem) (p1 : Int32)
    (h : C 177 [vI p1] (mI m 40 0 0 (nI 0)) (fun r1 m2 => ∃ w3 : Int32, r1 = some (vI w3) ∧
      ((¬ w3 = 0 →
        inb p1 8 ∧ 
          ((¬ (m2.1 66 0 p1.toNatClampNeg) = 0 →
            inb p1 8 ∧ 
              (((m2.1 66 0 p1.toNatClampNeg) ≤ (nI 2) →
                inb p1 8 ∧ 
                  Q (some (vL (m2.2 68 0 p1.toNatClampNeg))) m2) ∧
              (¬ (m2.1 66 0 p1.toNatClampNeg) ≤ (nI 2) →
                Q (some (vL (-12 : Int64))) m2))) ∧
          ((m2.1 66 0 p1.toNatClampNeg) = 0 →
            Q (some (vL (-11 : Int64))) m2))) ∧
      (w3 = 0 →
        Q (some (vL (-1 : Int64))) m2)))) :
    wp2i xs C tX12_weight [] (some .long) Q K 2000 0 [some (vR 40 0), some (vI p1)] [] m := h
set_option maxRecDepth 100000 in
theorem bX12_ratio_0 {xs : Nat × (Nat → Int32)} {C : Nat → List v2 → Mem → (Option v2 → Mem → Prop) → Prop} {Q : Option v2 → Mem → Prop} {K : Nat → L2 → List v2 → Mem → Prop} (m : Mem) (p1 : Int32) (p2 : Int32)
    (h : C 177 [vI p1] (mI m 40 0 0 (nI 0)) (fun r1 m2 => ∃ w3 : Int32, r1 = some (vI w3) ∧
      ((w3 = 0 →
        Q (some (vL (-1 : Int64))) m2) ∧
      (¬ w3 = 0 →
        C 177 [vI p2] m2 (fun r4 m5 => ∃ w6 : Int32, r4 = some (vI w6) ∧
          ((¬ w6 = 0 →
            inb p1 8 ∧ 
              (((m5.1 66 0 p1.toNatClampNeg) = 0 →
                Q (some (vL (-11 : Int64))) m5) ∧
              (¬ (m5.1 66 0 p1.toNatClampNeg) = 0 →
                inb p2 8 ∧ 
                  ((¬ (m5.1 66 0 p2.toNatClampNeg) = 0 →
                    inb p1 8 ∧ 
                      ((¬ (m5.1 66 0 p1.toNatClampNeg) = (nI 2) →
                        Q (some (vL (-12 : Int64))) m5) ∧
                      ((m5.1 66 0 p1.toNatClampNeg) = (nI 2) →
                        inb p2 8 ∧ 
                          (((m5.1 66 0 p2.toNatClampNeg) = (nI 2) →
                            inb p2 8 ∧ 
                              ((¬ (lg_cmp (m5.2 68 0 p2.toNatClampNeg) (lN 0)) = 0 →
                                inb p1 8 ∧ 
                                  inb p2 8 ∧ 
                                    ¬ (m5.2 68 0 p2.toNatClampNeg) = 0 ∧ 
                                      Q (some (vL ((m5.2 68 0 p1.toNatClampNeg) / (m5.2 68 0 p2.toNatClampNeg)))) m5) ∧
                              ((lg_cmp (m5.2 68 0 p2.toNatClampNeg) (lN 0)) = 0 →
                                Q (some (vL (-15 : Int64))) m5))) ∧
                          (¬ (m5.1 66 0 p2.toNatClampNeg) = (nI 2) →
                            Q (some (vL (-12 : Int64))) m5))))) ∧
                  ((m5.1 66 0 p2.toNatClampNeg) = 0 →
                    Q (some (vL (-11 : Int64))) m5))))) ∧
          (w6 = 0 →
            Q (some (vL (-1 : Int64))) m5))))))) :
    wp2i xs C tX12_ratio [] (some .long) Q K 2000 0 [some (vR 40 0), some (vI p1), some (vI p2)] [] m := h
