/-! CONDITIONS (by program: wip/whole/gen_vc.py) -/
theorem bX11_state_0 {xs : Nat × (Nat → Int32)} {C : Nat → List v2 → Mem → (Option v2 → Mem → Prop) → Prop} {Q : Option v2 → Mem → Prop} {K : Nat → L2 → List v2 → Mem → Prop} (m : Mem) 
    (h : (((m.1 1 0 0) < (nI 10) →
      C 66 [vR 1 0] m (fun r1 m2 => ∃ w3 : Int32, r1 = some (vI w3) ∧
        Q (some (vI w3)) m2)) ∧
    (¬ (m.1 1 0 0) < (nI 10) →
      Q (some (vI (-2 : Int32))) m))) :
    wp2i xs C tX11_state [] (some .int) Q K 2000 0 [some (vR 0 0)] [] m := h
theorem bX11_act_0 {xs : Nat × (Nat → Int32)} {C : Nat → List v2 → Mem → (Option v2 → Mem → Prop) → Prop} {Q : Option v2 → Mem → Prop} {K : Nat → L2 → List v2 → Mem → Prop} (m : Mem) (p1 : Int32) (p2 : Int32) (p3 : Int32)
    (h : C 60 [vR 1 0, vI p1] m (fun r1 m2 => ∃ w3 : Int32, r1 = some (vI w3) ∧
      ((w3 = 0 →
        Q (some (vI (-1 : Int32))) m2) ∧
      (¬ w3 = 0 →
        ((p2 < 0 →
          Q (some (vI (-1 : Int32))) m2) ∧
        (¬ p2 < 0 →
          (((nI 3) < p2 →
            Q (some (vI (-1 : Int32))) m2) ∧
          (¬ (nI 3) < p2 →
            ((p3 < 0 →
              Q (some (vI (-1 : Int32))) m2) ∧
            (¬ p3 < 0 →
              ((p3 ≤ (nI 1000) →
                inb p1 10 ∧ 
                  (((m2.1 2 0 p1.toNatClampNeg) < (nI 4) →
                    inb p1 10 ∧ 
                      (((m2.1 2 0 p1.toNatClampNeg) ≤ 0 →
                        C 67 [vR 1 0, vI p1, vI p2, vI p3] m2 (fun r4 m5 => ∃ w6 : Int32, r4 = some (vI w6) ∧
                          Q (some (vI w6)) m5)) ∧
                      (¬ (m2.1 2 0 p1.toNatClampNeg) ≤ 0 →
                        C 63 [vR 1 0, vI p1] m2 (fun r7 m8 => ∃ w9 : Int32, r7 = some (vI w9) ∧
                          ((¬ p2 = (nI 2) →
                            ((w9 = (nI 0) →
                              C 67 [vR 1 0, vI p1, vI p2, vI p3] m8 (fun r10 m11 => ∃ w12 : Int32, r10 = some (vI w12) ∧
                                Q (some (vI w12)) m11)) ∧
                            (¬ w9 = (nI 0) →
                              Q (some (vI (-3 : Int32))) m8))) ∧
                          (p2 = (nI 2) →
                            ((w9 = (nI 1) →
                              C 67 [vR 1 0, vI p1, vI p2, vI p3] m8 (fun r13 m14 => ∃ w15 : Int32, r13 = some (vI w15) ∧
                                Q (some (vI w15)) m14)) ∧
                            (¬ w9 = (nI 1) →
                              Q (some (vI (-3 : Int32))) m8)))))))) ∧
                  (¬ (m2.1 2 0 p1.toNatClampNeg) < (nI 4) →
                    Q (some (vI (-2 : Int32))) m2))) ∧
              (¬ p3 ≤ (nI 1000) →
                Q (some (vI (-1 : Int32))) m2)))))))))))) :
    wp2i xs C tX11_act [] (some .int) Q K 2000 0 [some (vR 0 0), some (vI p1), some (vI p2), some (vI p3)] [] m := h
theorem bX11_outcome_0 {xs : Nat × (Nat → Int32)} {C : Nat → List v2 → Mem → (Option v2 → Mem → Prop) → Prop} {Q : Option v2 → Mem → Prop} {K : Nat → L2 → List v2 → Mem → Prop} (m : Mem) (p1 : Int32) (p2 : Int32) (p3 : Int32) (p4 : Int32)
    (h : C 61 [vR 1 0, vI p1, vI p2] m (fun r1 m2 => ∃ w3 : Int32, r1 = some (vI w3) ∧
      ((w3 = 0 →
        Q (some (vI (-1 : Int32))) m2) ∧
      (¬ w3 = 0 →
        C 60 [vR 1 0, vI p3] m2 (fun r4 m5 => ∃ w6 : Int32, r4 = some (vI w6) ∧
          ((w6 = 0 →
            Q (some (vI (-1 : Int32))) m5) ∧
          (¬ w6 = 0 →
            ((p4 < (nI 1) →
              Q (some (vI (-1 : Int32))) m5) ∧
            (¬ p4 < (nI 1) →
              ((p4 ≤ (nI 12) →
                C 62 [vR 1 0, vI p1, vI p2] m5 (fun r7 m8 => ∃ q9 : Nat, r7 = some (vR 4 q9) ∧
                  ((¬ (m8.1 4 q9 0) = (nI 3) →
                    C 4 [vR 4 q9] m8 (fun r10 m11 => ∃ w12 : Int32, r10 = some (vI w12) ∧
                      (((m8.1 4 q9 2) < w12 →
                        (((nI 12) < ((m11.1 4 q9 3) + p4) →
                          Q (some (vI (-3 : Int32))) m11) ∧
                        (¬ (nI 12) < ((m11.1 4 q9 3) + p4) →
                          C 108 [vI (m11.1 4 q9 4), vI p3] m11 (fun r13 m14 => ∃ w15 : Int32, r13 = some (vI w15) ∧
                            ((w15 = 0 →
                              C 68 [vR 1 0, vR 4 q9, vI p3, vI p4] m14 (fun r16 m17 => ∃ w18 : Int32, r16 = some (vI w18) ∧
                                Q (some (vI w18)) m17)) ∧
                            (¬ w15 = 0 →
                              Q (some (vI (-3 : Int32))) m14)))))) ∧
                      (¬ (m8.1 4 q9 2) < w12 →
                        Q (some (vI (-2 : Int32))) m11)))) ∧
                  ((m8.1 4 q9 0) = (nI 3) →
                    ((p3 = p1 →
                      C 4 [vR 4 q9] m8 (fun r19 m20 => ∃ w21 : Int32, r19 = some (vI w21) ∧
                        (((m8.1 4 q9 2) < w21 →
                          (((nI 12) < ((m20.1 4 q9 3) + p4) →
                            Q (some (vI (-3 : Int32))) m20) ∧
                          (¬ (nI 12) < ((m20.1 4 q9 3) + p4) →
                            C 108 [vI (m20.1 4 q9 4), vI p3] m20 (fun r22 m23 => ∃ w24 : Int32, r22 = some (vI w24) ∧
                              ((w24 = 0 →
                                C 68 [vR 1 0, vR 4 q9, vI p3, vI p4] m23 (fun r25 m26 => ∃ w27 : Int32, r25 = some (vI w27) ∧
                                  Q (some (vI w27)) m26)) ∧
                              (¬ w24 = 0 →
                                Q (some (vI (-3 : Int32))) m23)))))) ∧
                        (¬ (m8.1 4 q9 2) < w21 →
                          Q (some (vI (-2 : Int32))) m20)))) ∧
                    (¬ p3 = p1 →
                      Q (some (vI (-1 : Int32))) m8)))))) ∧
              (¬ p4 ≤ (nI 12) →
                Q (some (vI (-1 : Int32))) m5))))))))))) :
    wp2i xs C tX11_outcome [] (some .int) Q K 2000 0 [some (vR 0 0), some (vI p1), some (vI p2), some (vI p3), some (vI p4), none] [] m := h
theorem bX11_drop_0 {xs : Nat × (Nat → Int32)} {C : Nat → List v2 → Mem → (Option v2 → Mem → Prop) → Prop} {Q : Option v2 → Mem → Prop} {K : Nat → L2 → List v2 → Mem → Prop} (m : Mem) (p1 : Int32)
    (h : C 60 [vR 1 0, vI p1] m (fun r1 m2 => ∃ w3 : Int32, r1 = some (vI w3) ∧
      ((¬ w3 = 0 →
        inb p1 10 ∧ 
          ((¬ (m2.1 2 0 p1.toNatClampNeg) = 0 →
            C 69 [vR 1 0, vI p1] m2 (fun r4 m5 => ∃ w6 : Int32, r4 = some (vI w6) ∧
              Q (some (vI w6)) m5)) ∧
          ((m2.1 2 0 p1.toNatClampNeg) = 0 →
            Q (some (vI (-2 : Int32))) m2))) ∧
      (w3 = 0 →
        Q (some (vI (-1 : Int32))) m2)))) :
    wp2i xs C tX11_drop [] (some .int) Q K 2000 0 [some (vR 0 0), some (vI p1)] [] m := h
theorem bX11_mark_0 {xs : Nat × (Nat → Int32)} {C : Nat → List v2 → Mem → (Option v2 → Mem → Prop) → Prop} {Q : Option v2 → Mem → Prop} {K : Nat → L2 → List v2 → Mem → Prop} (m : Mem) (p1 : Int32)
    (h : C 65 [vR 1 0] m (fun r1 m2 => ∃ w3 : Int32, r1 = some (vI w3) ∧
      (((p1 &&& (w3 ^^^ (-1 : Int32))) = 0 →
        C 70 [vR 1 0, vI p1] m2 (fun r4 m5 => r4 = none ∧
          C 186 [vI p1] m5 (fun r6 m7 => ∃ w8 : Int32, r6 = some (vI w8) ∧
            Q (some (vI w8)) m7))) ∧
      (¬ (p1 &&& (w3 ^^^ (-1 : Int32))) = 0 →
        Q (some (vI (-1 : Int32))) m2)))) :
    wp2i xs C tX11_mark [] (some .int) Q K 2000 0 [some (vR 0 0), some (vI p1)] [] m := h
theorem bX11_whole_0 {xs : Nat × (Nat → Int32)} {C : Nat → List v2 → Mem → (Option v2 → Mem → Prop) → Prop} {Q : Option v2 → Mem → Prop} {K : Nat → L2 → List v2 → Mem → Prop} (m : Mem) 
    (h : C 72 [vR 1 0] m (fun r1 m2 => ∃ w3 : Int32, r1 = some (vI w3) ∧
      Q (some (vI w3)) m2)) :
    wp2i xs C tX11_whole [] (some .int) Q K 2000 0 [some (vR 0 0)] [] m := h
theorem bX11_value_0 {xs : Nat × (Nat → Int32)} {C : Nat → List v2 → Mem → (Option v2 → Mem → Prop) → Prop} {Q : Option v2 → Mem → Prop} {K : Nat → L2 → List v2 → Mem → Prop} (m : Mem) (p1 : Int32) (p2 : Int32) (p3 : Int32)
    (h : C 60 [vR 1 0, vI p1] m (fun r1 m2 => ∃ w3 : Int32, r1 = some (vI w3) ∧
      ((w3 = 0 →
        Q (some (vL (-1 : Int64))) m2) ∧
      (¬ w3 = 0 →
        C 106 [vI p3] m2 (fun r4 m5 => ∃ w6 : Int32, r4 = some (vI w6) ∧
          ((¬ w6 = 0 →
            ((p2 = 0 →
              C 104 [vR 0 0, vR 7 0] m5 (fun r7 m8 => ∃ w9 : Int32, r7 = some (vI w9) ∧
                ((w9 = 0 →
                  inb p1 10 ∧ 
                    C 109 [vL (m8.2 15 0 p1.toNatClampNeg), vL (m8.2 7 0 7), vI p3] m8 (fun r10 m11 => ∃ w12 : Int64, r10 = some (vL w12) ∧
                      Q (some (vL w12)) m11)) ∧
                (¬ w9 = 0 →
                  Q (some (vL w9.toInt64)) m8)))) ∧
            (¬ p2 = 0 →
              C 104 [vR 0 0, vR 7 1] m5 (fun r13 m14 => ∃ w15 : Int32, r13 = some (vI w15) ∧
                ((w15 = 0 →
                  inb p1 10 ∧ 
                    C 109 [vL (m14.2 15 1 p1.toNatClampNeg), vL (m14.2 7 1 7), vI p3] m14 (fun r16 m17 => ∃ w18 : Int64, r16 = some (vL w18) ∧
                      Q (some (vL w18)) m17)) ∧
                (¬ w15 = 0 →
                  Q (some (vL w15.toInt64)) m14)))))) ∧
          (w6 = 0 →
            Q (some (vL (-1 : Int64))) m5))))))) :
    wp2i xs C tX11_value [] (some .long) Q K 2000 0 [some (vR 0 0), some (vI p1), some (vI p2), some (vI p3), none, none] [] m := h
theorem bX11_choice_0 {xs : Nat × (Nat → Int32)} {C : Nat → List v2 → Mem → (Option v2 → Mem → Prop) → Prop} {Q : Option v2 → Mem → Prop} {K : Nat → L2 → List v2 → Mem → Prop} (m : Mem) (p1 : Int32)
    (h : C 61 [vR 1 0, vI p1, vI (nI 0)] m (fun r1 m2 => ∃ w3 : Int32, r1 = some (vI w3) ∧
      ((¬ w3 = 0 →
        C 104 [vR 0 0, vR 7 0] m2 (fun r4 m5 => ∃ w6 : Int32, r4 = some (vI w6) ∧
          ((w6 = 0 →
            C 16 [vR 16 0] m5 (fun r7 m8 => r7 = none ∧
              C 18 [vR 16 0, vI p1] m8 (fun r9 m10 => ∃ w11 : Int32, r9 = some (vI w11) ∧
                Q (some (vI w11)) m10))) ∧
          (¬ w6 = 0 →
            Q (some (vI w6)) m5)))) ∧
      (w3 = 0 →
        Q (some (vI (-1 : Int32))) m2)))) :
    wp2i xs C tX11_choice [] (some .int) Q K 2000 0 [some (vR 0 0), some (vI p1), none] [] m := h
theorem bX11_distance_0 {xs : Nat × (Nat → Int32)} {C : Nat → List v2 → Mem → (Option v2 → Mem → Prop) → Prop} {Q : Option v2 → Mem → Prop} {K : Nat → L2 → List v2 → Mem → Prop} (m : Mem) (p1 : Int32)
    (h : C 60 [vR 1 0, vI p1] m (fun r1 m2 => ∃ w3 : Int32, r1 = some (vI w3) ∧
      ((¬ w3 = 0 →
        C 104 [vR 0 0, vR 7 0] m2 (fun r4 m5 => ∃ w6 : Int32, r4 = some (vI w6) ∧
          ((w6 = 0 →
            C 108 [vI (m5.1 7 0 9), vI p1] m5 (fun r7 m8 => ∃ w9 : Int32, r7 = some (vI w9) ∧
              ((w9 = 0 →
                C 16 [vR 16 0] m8 (fun r10 m11 => r10 = none ∧
                  inb p1 10 ∧ 
                    Q (some (vI (m11.1 17 0 p1.toNatClampNeg))) m11)) ∧
              (¬ w9 = 0 →
                Q (some (vI (-4 : Int32))) m8)))) ∧
          (¬ w6 = 0 →
            Q (some (vI w6)) m5)))) ∧
      (w3 = 0 →
        Q (some (vI (-1 : Int32))) m2)))) :
    wp2i xs C tX11_distance [] (some .int) Q K 2000 0 [some (vR 0 0), some (vI p1), none] [] m := h
theorem bX11_sum_0 {xs : Nat × (Nat → Int32)} {C : Nat → List v2 → Mem → (Option v2 → Mem → Prop) → Prop} {Q : Option v2 → Mem → Prop} {K : Nat → L2 → List v2 → Mem → Prop} (m : Mem) (p1 : Int32) (p2 : Int32) (p3 : Int32)
    (h : C 61 [vR 1 0, vI p1, vI p2] m (fun r1 m2 => ∃ w3 : Int32, r1 = some (vI w3) ∧
      ((w3 = 0 →
        Q (some (vL (-1 : Int64))) m2) ∧
      (¬ w3 = 0 →
        C 106 [vI p3] m2 (fun r4 m5 => ∃ w6 : Int32, r4 = some (vI w6) ∧
          ((¬ w6 = 0 →
            C 104 [vR 0 0, vR 7 0] m5 (fun r7 m8 => ∃ w9 : Int32, r7 = some (vI w9) ∧
              ((w9 = 0 →
                C 62 [vR 1 0, vI p1, vI p2] m8 (fun r10 m11 => ∃ q12 : Nat, r10 = some (vR 4 q12) ∧
                  C 7 [vR 4 q12, vR 15 0] m11 (fun r13 m14 => ∃ w15 : Int64, r13 = some (vL w15) ∧
                    C 109 [vL w15, vL ((lN 12) * (m14.2 7 0 7)), vI p3] m14 (fun r16 m17 => ∃ w18 : Int64, r16 = some (vL w18) ∧
                      Q (some (vL w18)) m17)))) ∧
              (¬ w9 = 0 →
                Q (some (vL w9.toInt64)) m8)))) ∧
          (w6 = 0 →
            Q (some (vL (-1 : Int64))) m5))))))) :
    wp2i xs C tX11_sum [] (some .long) Q K 2000 0 [some (vR 0 0), some (vI p1), some (vI p2), some (vI p3), none, none, none] [] m := h
theorem bX11_within_0 {xs : Nat × (Nat → Int32)} {C : Nat → List v2 → Mem → (Option v2 → Mem → Prop) → Prop} {Q : Option v2 → Mem → Prop} {K : Nat → L2 → List v2 → Mem → Prop} (m : Mem) (p1 : Int32) (p2 : Int32) (p3 : Int32) (p4 : Int32)
    (h : C 60 [vR 1 0, vI p1] m (fun r1 m2 => ∃ w3 : Int32, r1 = some (vI w3) ∧
      ((w3 = 0 →
        Q (some (vL (-1 : Int64))) m2) ∧
      (¬ w3 = 0 →
        ((p2 < 0 →
          Q (some (vL (-1 : Int64))) m2) ∧
        (¬ p2 < 0 →
          (((nI 10) < p2 →
            Q (some (vL (-1 : Int64))) m2) ∧
          (¬ (nI 10) < p2 →
            C 106 [vI p4] m2 (fun r4 m5 => ∃ w6 : Int32, r4 = some (vI w6) ∧
              ((¬ w6 = 0 →
                C 71 [vR 1 0] m5 (fun r7 m8 => ∃ w9 : Int32, r7 = some (vI w9) ∧
                  ((¬ w9 = 0 →
                    ((p3 = 0 →
                      C 27 [vR 18 0] m8 (fun r10 m11 => r10 = none ∧
                        inb p2 11 ∧ 
                          inb p1 10 ∧ 
                            inb p2 11 ∧ 
                              C 109 [vL (m11.2 15 (3 + 11 * 0 + p2.toNatClampNeg) p1.toNatClampNeg), vL (m11.2 20 0 p2.toNatClampNeg), vI p4] m11 (fun r12 m13 => ∃ w14 : Int64, r12 = some (vL w14) ∧
                                Q (some (vL w14)) m13))) ∧
                    (¬ p3 = 0 →
                      C 27 [vR 18 1] m8 (fun r15 m16 => r15 = none ∧
                        inb p2 11 ∧ 
                          inb p1 10 ∧ 
                            inb p2 11 ∧ 
                              C 109 [vL (m16.2 15 (3 + 11 * 1 + p2.toNatClampNeg) p1.toNatClampNeg), vL (m16.2 20 1 p2.toNatClampNeg), vI p4] m16 (fun r17 m18 => ∃ w19 : Int64, r17 = some (vL w19) ∧
                                Q (some (vL w19)) m18))))) ∧
                  (w9 = 0 →
                    Q (some (vL (-2 : Int64))) m8)))) ∧
              (w6 = 0 →
                Q (some (vL (-1 : Int64))) m5))))))))))) :
    wp2i xs C tX11_within [] (some .long) Q K 2000 0 [some (vR 0 0), some (vI p1), some (vI p2), some (vI p3), some (vI p4), none] [] m := h
theorem bX11_bound_0 {xs : Nat × (Nat → Int32)} {C : Nat → List v2 → Mem → (Option v2 → Mem → Prop) → Prop} {Q : Option v2 → Mem → Prop} {K : Nat → L2 → List v2 → Mem → Prop} (m : Mem) (p1 : Int32) (p2 : Int32)
    (h : C 60 [vR 1 0, vI p1] m (fun r1 m2 => ∃ w3 : Int32, r1 = some (vI w3) ∧
      ((w3 = 0 →
        Q (some (vI (-1 : Int32))) m2) ∧
      (¬ w3 = 0 →
        ((p2 < 0 →
          Q (some (vI (-1 : Int32))) m2) ∧
        (¬ p2 < 0 →
          ((p2 ≤ (nI 12) →
            C 71 [vR 1 0] m2 (fun r4 m5 => ∃ w6 : Int32, r4 = some (vI w6) ∧
              ((¬ w6 = 0 →
                C 27 [vR 18 0] m5 (fun r7 m8 => r7 = none ∧
                  K 23 [some (vR 0 0), some (vI p1), some (vI p2), some (vI (nI 0))] [] m8)) ∧
              (w6 = 0 →
                Q (some (vI (-2 : Int32))) m5)))) ∧
          (¬ p2 ≤ (nI 12) →
            Q (some (vI (-1 : Int32))) m2)))))))) :
    wp2i xs C tX11_bound [23] (some .int) Q K 2000 0 [some (vR 0 0), some (vI p1), some (vI p2), none] [] m := h
theorem bX11_bound_23 {xs : Nat × (Nat → Int32)} {C : Nat → List v2 → Mem → (Option v2 → Mem → Prop) → Prop} {Q : Option v2 → Mem → Prop} {K : Nat → L2 → List v2 → Mem → Prop} (m : Mem) (x1 : Int32) (x2 : Int32) (x3 : Int32)
    (h : (((nI 10) < x3 →
      Q (some (vI (-3 : Int32))) m) ∧
    (¬ (nI 10) < x3 →
      inb x3 11 ∧ 
        inb x1 10 ∧ 
          inb x3 11 ∧ 
            (((lg_cmp ((lN 12) * (m.2 15 (3 + 11 * 0 + x3.toNatClampNeg) x1.toNatClampNeg)) (x2.toInt64 * (m.2 20 0 x3.toNatClampNeg))) < 0 →
              K 23 [some (vR 0 0), some (vI x1), some (vI x2), some (vI (x3 + (nI 1)))] [] m) ∧
            (¬ (lg_cmp ((lN 12) * (m.2 15 (3 + 11 * 0 + x3.toNatClampNeg) x1.toNatClampNeg)) (x2.toInt64 * (m.2 20 0 x3.toNatClampNeg))) < 0 →
              Q (some (vI x3)) m))))) :
    wp2i xs C tX11_bound [23] (some .int) Q K 2000 23 [some (vR 0 0), some (vI x1), some (vI x2), some (vI x3)] [] m := h
theorem bX11_sets_0 {xs : Nat × (Nat → Int32)} {C : Nat → List v2 → Mem → (Option v2 → Mem → Prop) → Prop} {Q : Option v2 → Mem → Prop} {K : Nat → L2 → List v2 → Mem → Prop} (m : Mem) (p1 : Int32)
    (h : ((p1 < 0 →
      Q (some (vI (-1 : Int32))) m) ∧
    (¬ p1 < 0 →
      ((p1 ≤ (nI 3) →
        C 71 [vR 1 0] m (fun r1 m2 => ∃ w3 : Int32, r1 = some (vI w3) ∧
          ((¬ w3 = 0 →
            (((nI 2) ≤ p1 →
              C 49 [vR 7 1] m2 (fun r4 m5 => r4 = none ∧
                ¬ (nI 2) = 0 ∧ 
                  ((¬ (p1 - p1 / (nI 2) * (nI 2)) = 0 →
                    Q (some (vI (m5.1 7 1 9))) m5) ∧
                  ((p1 - p1 / (nI 2) * (nI 2)) = 0 →
                    Q (some (vI (m5.1 7 1 8))) m5)))) ∧
            (¬ (nI 2) ≤ p1 →
              C 49 [vR 7 0] m2 (fun r6 m7 => r6 = none ∧
                ¬ (nI 2) = 0 ∧ 
                  ((¬ (p1 - p1 / (nI 2) * (nI 2)) = 0 →
                    Q (some (vI (m7.1 7 0 9))) m7) ∧
                  ((p1 - p1 / (nI 2) * (nI 2)) = 0 →
                    Q (some (vI (m7.1 7 0 8))) m7)))))) ∧
          (w3 = 0 →
            Q (some (vI (-2 : Int32))) m2)))) ∧
      (¬ p1 ≤ (nI 3) →
        Q (some (vI (-1 : Int32))) m))))) :
    wp2i xs C tX11_sets [] (some .int) Q K 2000 0 [some (vR 0 0), some (vI p1), none] [] m := h
theorem bX11_reached_0 {xs : Nat × (Nat → Int32)} {C : Nat → List v2 → Mem → (Option v2 → Mem → Prop) → Prop} {Q : Option v2 → Mem → Prop} {K : Nat → L2 → List v2 → Mem → Prop} (m : Mem) (p1 : Int32)
    (h : C 60 [vR 1 0, vI p1] m (fun r1 m2 => ∃ w3 : Int32, r1 = some (vI w3) ∧
      ((¬ w3 = 0 →
        C 77 [vR 1 0, vI p1] m2 (fun r4 m5 => ∃ w6 : Int32, r4 = some (vI w6) ∧
          Q (some (vI w6)) m5)) ∧
      (w3 = 0 →
        Q (some (vI (-1 : Int32))) m2)))) :
    wp2i xs C tX11_reached [] (some .int) Q K 2000 0 [some (vR 0 0), some (vI p1)] [] m := h
theorem bX11_cost_0 {xs : Nat × (Nat → Int32)} {C : Nat → List v2 → Mem → (Option v2 → Mem → Prop) → Prop} {Q : Option v2 → Mem → Prop} {K : Nat → L2 → List v2 → Mem → Prop} (m : Mem) (p1 : Int32) (p2 : Int32)
    (h : C 60 [vR 1 0, vI p1] m (fun r1 m2 => ∃ w3 : Int32, r1 = some (vI w3) ∧
      ((w3 = 0 →
        Q (some (vL (-1 : Int64))) m2) ∧
      (¬ w3 = 0 →
        C 106 [vI p2] m2 (fun r4 m5 => ∃ w6 : Int32, r4 = some (vI w6) ∧
          ((¬ w6 = 0 →
            C 71 [vR 1 0] m5 (fun r7 m8 => ∃ w9 : Int32, r7 = some (vI w9) ∧
              ((¬ w9 = 0 →
                C 30 [vR 21 0] m8 (fun r10 m11 => r10 = none ∧
                  ((¬ (m11.1 21 0 7) = 0 →
                    C 108 [vI (m11.1 7 0 8), vI p1] m11 (fun r12 m13 => ∃ w14 : Int32, r12 = some (vI w14) ∧
                      ((¬ w14 = 0 →
                        inb p1 10 ∧ 
                          C 109 [vL (m13.2 15 2 p1.toNatClampNeg), vL (m13.2 21 0 6), vI p2] m13 (fun r15 m16 => ∃ w17 : Int64, r15 = some (vL w17) ∧
                            Q (some (vL w17)) m16)) ∧
                      (w14 = 0 →
                        Q (some (vL (-4 : Int64))) m13)))) ∧
                  ((m11.1 21 0 7) = 0 →
                    Q (some (vL (-3 : Int64))) m11)))) ∧
              (w9 = 0 →
                Q (some (vL (-2 : Int64))) m8)))) ∧
          (w6 = 0 →
            Q (some (vL (-1 : Int64))) m5))))))) :
    wp2i xs C tX11_cost [] (some .long) Q K 2000 0 [some (vR 0 0), some (vI p1), some (vI p2)] [] m := h
theorem bX11_hole_0 {xs : Nat × (Nat → Int32)} {C : Nat → List v2 → Mem → (Option v2 → Mem → Prop) → Prop} {Q : Option v2 → Mem → Prop} {K : Nat → L2 → List v2 → Mem → Prop} (m : Mem) (p1 : Int32) (p2 : Int32)
    (h : ((p2 < 0 →
      Q (some (vI (-1 : Int32))) m) ∧
    (¬ p2 < 0 →
      ((p2 ≤ (nI 2) →
        C 71 [vR 1 0] m (fun r1 m2 => ∃ w3 : Int32, r1 = some (vI w3) ∧
          ((¬ w3 = 0 →
            C 21 [vR 22 0] m2 (fun r4 m5 => r4 = none ∧
              ((¬ p2 = 0 →
                ((p1 < 0 →
                  Q (some (vI (-1 : Int32))) m5) ∧
                (¬ p1 < 0 →
                  ((p1 < (m5.1 22 0 5) →
                    ((¬ p2 = (nI 1) →
                      inb p1 10 ∧ 
                        C 25 [vR 22 0, vI (m5.1 25 0 p1.toNatClampNeg)] m5 (fun r6 m7 => ∃ w8 : Int32, r6 = some (vI w8) ∧
                          Q (some (vI w8)) m7)) ∧
                    (p2 = (nI 1) →
                      inb p1 10 ∧ 
                        Q (some (vI (m5.1 25 0 p1.toNatClampNeg))) m5))) ∧
                  (¬ p1 < (m5.1 22 0 5) →
                    Q (some (vI (-1 : Int32))) m5))))) ∧
              (p2 = 0 →
                Q (some (vI (m5.1 22 0 5))) m5)))) ∧
          (w3 = 0 →
            Q (some (vI (-2 : Int32))) m2)))) ∧
      (¬ p2 ≤ (nI 2) →
        Q (some (vI (-1 : Int32))) m))))) :
    wp2i xs C tX11_hole [] (some .int) Q K 2000 0 [some (vR 0 0), some (vI p1), some (vI p2)] [] m := h
theorem bX11_twin_0 {xs : Nat × (Nat → Int32)} {C : Nat → List v2 → Mem → (Option v2 → Mem → Prop) → Prop} {Q : Option v2 → Mem → Prop} {K : Nat → L2 → List v2 → Mem → Prop} (m : Mem) (p1 : Int32)
    (h : C 60 [vR 1 0, vI p1] m (fun r1 m2 => ∃ w3 : Int32, r1 = some (vI w3) ∧
      ((¬ w3 = 0 →
        C 71 [vR 1 0] m2 (fun r4 m5 => ∃ w6 : Int32, r4 = some (vI w6) ∧
          ((¬ w6 = 0 →
            C 42 [vR 26 0] m5 (fun r7 m8 => r7 = none ∧
              inb p1 10 ∧ 
                Q (some (vI (m8.1 29 0 p1.toNatClampNeg))) m8)) ∧
          (w6 = 0 →
            Q (some (vI (-2 : Int32))) m5)))) ∧
      (w3 = 0 →
        Q (some (vI (-1 : Int32))) m2)))) :
    wp2i xs C tX11_twin [] (some .int) Q K 2000 0 [some (vR 0 0), some (vI p1)] [] m := h
theorem bX11_count_0 {xs : Nat × (Nat → Int32)} {C : Nat → List v2 → Mem → (Option v2 → Mem → Prop) → Prop} {Q : Option v2 → Mem → Prop} {K : Nat → L2 → List v2 → Mem → Prop} (m : Mem) (p1 : Int32)
    (h : ((p1.toInt < 0 ∨ 4 < p1.toInt →
      Q (some (vI (-1 : Int32))) m) ∧
    (p1.toInt = (0 : Int) →
      Q (some (vI (m.1 1 0 0))) m) ∧
    (p1.toInt = 0 + 1 →
      C 73 [vR 1 0] m (fun r1 m2 => ∃ w3 : Int32, r1 = some (vI w3) ∧
        Q (some (vI w3)) m2)) ∧
    (p1.toInt = 0 + 1 + 1 →
      C 74 [vR 1 0] m (fun r4 m5 => ∃ w6 : Int32, r4 = some (vI w6) ∧
        Q (some (vI w6)) m5)) ∧
    (p1.toInt = 0 + 1 + 1 + 1 →
      C 75 [vR 1 0] m (fun r7 m8 => ∃ w9 : Int32, r7 = some (vI w9) ∧
        Q (some (vI w9)) m8)) ∧
    (p1.toInt = 0 + 1 + 1 + 1 + 1 →
      C 71 [vR 1 0] m (fun r10 m11 => ∃ w12 : Int32, r10 = some (vI w12) ∧
        ((¬ w12 = 0 →
          C 42 [vR 26 0] m11 (fun r13 m14 => r13 = none ∧
            Q (some (vI (m14.1 26 0 5))) m14)) ∧
        (w12 = 0 →
          Q (some (vI (-2 : Int32))) m11)))) ∧
    True)) :
    wp2i xs C tX11_count [] (some .int) Q K 2000 0 [some (vR 0 0), some (vI p1)] [] m := h
theorem bX11_look_0 {xs : Nat × (Nat → Int32)} {C : Nat → List v2 → Mem → (Option v2 → Mem → Prop) → Prop} {Q : Option v2 → Mem → Prop} {K : Nat → L2 → List v2 → Mem → Prop} (m : Mem) (p1 : Int32) (p2 : Int32) (p3 : Int32)
    (h : C 61 [vR 1 0, vI p1, vI p2] m (fun r1 m2 => ∃ w3 : Int32, r1 = some (vI w3) ∧
      ((w3 = 0 →
        Q (some (vI (-1 : Int32))) m2) ∧
      (¬ w3 = 0 →
        ((p3 < 0 →
          Q (some (vI (-1 : Int32))) m2) ∧
        (¬ p3 < 0 →
          ((p3 ≤ (nI 10) →
            C 62 [vR 1 0, vI p1, vI p2] m2 (fun r4 m5 => ∃ q6 : Nat, r4 = some (vR 4 q6) ∧
              ((p3.toInt < 0 ∨ 2 < p3.toInt →
                ¬ (nI 4) = 0 ∧ 
                  ((((p3 - (nI 3)) - (p3 - (nI 3)) / (nI 4) * (nI 4)) < (m5.1 4 q6 2) →
                    (((nI 4) ≤ (p3 - (nI 3)) →
                      inb ((p3 - (nI 3)) - (p3 - (nI 3)) / (nI 4) * (nI 4)) 4 ∧ 
                        Q (some (vI (m5.1 6 q6 ((p3 - (nI 3)) - (p3 - (nI 3)) / (nI 4) * (nI 4)).toNatClampNeg))) m5) ∧
                    (¬ (nI 4) ≤ (p3 - (nI 3)) →
                      inb ((p3 - (nI 3)) - (p3 - (nI 3)) / (nI 4) * (nI 4)) 4 ∧ 
                        Q (some (vI (m5.1 5 q6 ((p3 - (nI 3)) - (p3 - (nI 3)) / (nI 4) * (nI 4)).toNatClampNeg))) m5))) ∧
                  (¬ ((p3 - (nI 3)) - (p3 - (nI 3)) / (nI 4) * (nI 4)) < (m5.1 4 q6 2) →
                    Q (some (vI (-2 : Int32))) m5))) ∧
              (p3.toInt = (0 : Int) →
                Q (some (vI (m5.1 4 q6 0))) m5) ∧
              (p3.toInt = 0 + 1 →
                Q (some (vI (m5.1 4 q6 1))) m5) ∧
              (p3.toInt = 0 + 1 + 1 →
                Q (some (vI (m5.1 4 q6 2))) m5) ∧
              True))) ∧
          (¬ p3 ≤ (nI 10) →
            Q (some (vI (-1 : Int32))) m2)))))))) :
    wp2i xs C tX11_look [] (some .int) Q K 2000 0 [some (vR 0 0), some (vI p1), some (vI p2), some (vI p3), none, none] [] m := h
theorem bX11_keep_0 {xs : Nat × (Nat → Int32)} {C : Nat → List v2 → Mem → (Option v2 → Mem → Prop) → Prop} {Q : Option v2 → Mem → Prop} {K : Nat → L2 → List v2 → Mem → Prop} (m : Mem) (p1 : Int32) (p2 : Int32) (p3 : Int32) (p4 : Int32)
    (h : C 107 [vI p1] m (fun r1 m2 => ∃ w3 : Int32, r1 = some (vI w3) ∧
      ((w3 = 0 →
        Q (some (vI (-1 : Int32))) m2) ∧
      (¬ w3 = 0 →
        ((p2 < 0 →
          Q (some (vI (-1 : Int32))) m2) ∧
        (¬ p2 < 0 →
          ((p2 ≤ (nI 4) →
            ((p2 = (nI 1) →
              C 61 [vR 1 0, vI p3, vI p4] m2 (fun r4 m5 => ∃ w6 : Int32, r4 = some (vI w6) ∧
                ((¬ w6 = 0 →
                  ((¬ p2 = (nI 2) →
                    ((p2 = (nI 2) →
                      C 104 [vR 0 0, vR 7 0] m5 (fun r7 m8 => ∃ w9 : Int32, r7 = some (vI w9) ∧
                        ((w9 = 0 →
                          inb p1 8 ∧ 
                            C 105 [vR 0 0, vR 31 (p1.toNatClampNeg), vI p2, vI p3, vI p4] m8 (fun r10 m11 => r10 = none ∧
                              Q (some (vI (nI 0))) m11)) ∧
                        (¬ w9 = 0 →
                          Q (some (vI w9)) m8)))) ∧
                    (¬ p2 = (nI 2) →
                      ((¬ p2 = (nI 4) →
                        inb p1 8 ∧ 
                          C 105 [vR 0 0, vR 31 (p1.toNatClampNeg), vI p2, vI p3, vI p4] m5 (fun r12 m13 => r12 = none ∧
                            Q (some (vI (nI 0))) m13)) ∧
                      (p2 = (nI 4) →
                        C 104 [vR 0 0, vR 7 0] m5 (fun r14 m15 => ∃ w16 : Int32, r14 = some (vI w16) ∧
                          ((w16 = 0 →
                            inb p1 8 ∧ 
                              C 105 [vR 0 0, vR 31 (p1.toNatClampNeg), vI p2, vI p3, vI p4] m15 (fun r17 m18 => r17 = none ∧
                                Q (some (vI (nI 0))) m18)) ∧
                          (¬ w16 = 0 →
                            Q (some (vI w16)) m15)))))))) ∧
                  (p2 = (nI 2) →
                    C 60 [vR 1 0, vI p3] m5 (fun r19 m20 => ∃ w21 : Int32, r19 = some (vI w21) ∧
                      ((¬ w21 = 0 →
                        ((p2 = (nI 2) →
                          C 104 [vR 0 0, vR 7 0] m20 (fun r22 m23 => ∃ w24 : Int32, r22 = some (vI w24) ∧
                            ((w24 = 0 →
                              inb p1 8 ∧ 
                                C 105 [vR 0 0, vR 31 (p1.toNatClampNeg), vI p2, vI p3, vI p4] m23 (fun r25 m26 => r25 = none ∧
                                  Q (some (vI (nI 0))) m26)) ∧
                            (¬ w24 = 0 →
                              Q (some (vI w24)) m23)))) ∧
                        (¬ p2 = (nI 2) →
                          ((¬ p2 = (nI 4) →
                            inb p1 8 ∧ 
                              C 105 [vR 0 0, vR 31 (p1.toNatClampNeg), vI p2, vI p3, vI p4] m20 (fun r27 m28 => r27 = none ∧
                                Q (some (vI (nI 0))) m28)) ∧
                          (p2 = (nI 4) →
                            C 104 [vR 0 0, vR 7 0] m20 (fun r29 m30 => ∃ w31 : Int32, r29 = some (vI w31) ∧
                              ((w31 = 0 →
                                inb p1 8 ∧ 
                                  C 105 [vR 0 0, vR 31 (p1.toNatClampNeg), vI p2, vI p3, vI p4] m30 (fun r32 m33 => r32 = none ∧
                                    Q (some (vI (nI 0))) m33)) ∧
                              (¬ w31 = 0 →
                                Q (some (vI w31)) m30)))))))) ∧
                      (w21 = 0 →
                        Q (some (vI (-1 : Int32))) m20)))))) ∧
                (w6 = 0 →
                  Q (some (vI (-1 : Int32))) m5)))) ∧
            (¬ p2 = (nI 1) →
              ((¬ p2 = (nI 3) →
                ((¬ p2 = (nI 2) →
                  ((p2 = (nI 2) →
                    C 104 [vR 0 0, vR 7 0] m2 (fun r34 m35 => ∃ w36 : Int32, r34 = some (vI w36) ∧
                      ((w36 = 0 →
                        inb p1 8 ∧ 
                          C 105 [vR 0 0, vR 31 (p1.toNatClampNeg), vI p2, vI p3, vI p4] m35 (fun r37 m38 => r37 = none ∧
                            Q (some (vI (nI 0))) m38)) ∧
                      (¬ w36 = 0 →
                        Q (some (vI w36)) m35)))) ∧
                  (¬ p2 = (nI 2) →
                    ((¬ p2 = (nI 4) →
                      inb p1 8 ∧ 
                        C 105 [vR 0 0, vR 31 (p1.toNatClampNeg), vI p2, vI p3, vI p4] m2 (fun r39 m40 => r39 = none ∧
                          Q (some (vI (nI 0))) m40)) ∧
                    (p2 = (nI 4) →
                      C 104 [vR 0 0, vR 7 0] m2 (fun r41 m42 => ∃ w43 : Int32, r41 = some (vI w43) ∧
                        ((w43 = 0 →
                          inb p1 8 ∧ 
                            C 105 [vR 0 0, vR 31 (p1.toNatClampNeg), vI p2, vI p3, vI p4] m42 (fun r44 m45 => r44 = none ∧
                              Q (some (vI (nI 0))) m45)) ∧
                        (¬ w43 = 0 →
                          Q (some (vI w43)) m42)))))))) ∧
                (p2 = (nI 2) →
                  C 60 [vR 1 0, vI p3] m2 (fun r46 m47 => ∃ w48 : Int32, r46 = some (vI w48) ∧
                    ((¬ w48 = 0 →
                      ((p2 = (nI 2) →
                        C 104 [vR 0 0, vR 7 0] m47 (fun r49 m50 => ∃ w51 : Int32, r49 = some (vI w51) ∧
                          ((w51 = 0 →
                            inb p1 8 ∧ 
                              C 105 [vR 0 0, vR 31 (p1.toNatClampNeg), vI p2, vI p3, vI p4] m50 (fun r52 m53 => r52 = none ∧
                                Q (some (vI (nI 0))) m53)) ∧
                          (¬ w51 = 0 →
                            Q (some (vI w51)) m50)))) ∧
                      (¬ p2 = (nI 2) →
                        ((¬ p2 = (nI 4) →
                          inb p1 8 ∧ 
                            C 105 [vR 0 0, vR 31 (p1.toNatClampNeg), vI p2, vI p3, vI p4] m47 (fun r54 m55 => r54 = none ∧
                              Q (some (vI (nI 0))) m55)) ∧
                        (p2 = (nI 4) →
                          C 104 [vR 0 0, vR 7 0] m47 (fun r56 m57 => ∃ w58 : Int32, r56 = some (vI w58) ∧
                            ((w58 = 0 →
                              inb p1 8 ∧ 
                                C 105 [vR 0 0, vR 31 (p1.toNatClampNeg), vI p2, vI p3, vI p4] m57 (fun r59 m60 => r59 = none ∧
                                  Q (some (vI (nI 0))) m60)) ∧
                            (¬ w58 = 0 →
                              Q (some (vI w58)) m57)))))))) ∧
                    (w48 = 0 →
                      Q (some (vI (-1 : Int32))) m47)))))) ∧
              (p2 = (nI 3) →
                C 61 [vR 1 0, vI p3, vI p4] m2 (fun r61 m62 => ∃ w63 : Int32, r61 = some (vI w63) ∧
                  ((¬ w63 = 0 →
                    ((¬ p2 = (nI 2) →
                      ((p2 = (nI 2) →
                        C 104 [vR 0 0, vR 7 0] m62 (fun r64 m65 => ∃ w66 : Int32, r64 = some (vI w66) ∧
                          ((w66 = 0 →
                            inb p1 8 ∧ 
                              C 105 [vR 0 0, vR 31 (p1.toNatClampNeg), vI p2, vI p3, vI p4] m65 (fun r67 m68 => r67 = none ∧
                                Q (some (vI (nI 0))) m68)) ∧
                          (¬ w66 = 0 →
                            Q (some (vI w66)) m65)))) ∧
                      (¬ p2 = (nI 2) →
                        ((¬ p2 = (nI 4) →
                          inb p1 8 ∧ 
                            C 105 [vR 0 0, vR 31 (p1.toNatClampNeg), vI p2, vI p3, vI p4] m62 (fun r69 m70 => r69 = none ∧
                              Q (some (vI (nI 0))) m70)) ∧
                        (p2 = (nI 4) →
                          C 104 [vR 0 0, vR 7 0] m62 (fun r71 m72 => ∃ w73 : Int32, r71 = some (vI w73) ∧
                            ((w73 = 0 →
                              inb p1 8 ∧ 
                                C 105 [vR 0 0, vR 31 (p1.toNatClampNeg), vI p2, vI p3, vI p4] m72 (fun r74 m75 => r74 = none ∧
                                  Q (some (vI (nI 0))) m75)) ∧
                            (¬ w73 = 0 →
                              Q (some (vI w73)) m72)))))))) ∧
                    (p2 = (nI 2) →
                      C 60 [vR 1 0, vI p3] m62 (fun r76 m77 => ∃ w78 : Int32, r76 = some (vI w78) ∧
                        ((¬ w78 = 0 →
                          ((p2 = (nI 2) →
                            C 104 [vR 0 0, vR 7 0] m77 (fun r79 m80 => ∃ w81 : Int32, r79 = some (vI w81) ∧
                              ((w81 = 0 →
                                inb p1 8 ∧ 
                                  C 105 [vR 0 0, vR 31 (p1.toNatClampNeg), vI p2, vI p3, vI p4] m80 (fun r82 m83 => r82 = none ∧
                                    Q (some (vI (nI 0))) m83)) ∧
                              (¬ w81 = 0 →
                                Q (some (vI w81)) m80)))) ∧
                          (¬ p2 = (nI 2) →
                            ((¬ p2 = (nI 4) →
                              inb p1 8 ∧ 
                                C 105 [vR 0 0, vR 31 (p1.toNatClampNeg), vI p2, vI p3, vI p4] m77 (fun r84 m85 => r84 = none ∧
                                  Q (some (vI (nI 0))) m85)) ∧
                            (p2 = (nI 4) →
                              C 104 [vR 0 0, vR 7 0] m77 (fun r86 m87 => ∃ w88 : Int32, r86 = some (vI w88) ∧
                                ((w88 = 0 →
                                  inb p1 8 ∧ 
                                    C 105 [vR 0 0, vR 31 (p1.toNatClampNeg), vI p2, vI p3, vI p4] m87 (fun r89 m90 => r89 = none ∧
                                      Q (some (vI (nI 0))) m90)) ∧
                                (¬ w88 = 0 →
                                  Q (some (vI w88)) m87)))))))) ∧
                        (w78 = 0 →
                          Q (some (vI (-1 : Int32))) m77)))))) ∧
                  (w63 = 0 →
                    Q (some (vI (-1 : Int32))) m62)))))))) ∧
          (¬ p2 ≤ (nI 4) →
            Q (some (vI (-1 : Int32))) m2)))))))) :
    wp2i xs C tX11_keep [] (some .int) Q K 2000 0 [some (vR 0 0), some (vI p1), some (vI p2), some (vI p3), some (vI p4), none] [] m := h
theorem bX11_make_0 {xs : Nat × (Nat → Int32)} {C : Nat → List v2 → Mem → (Option v2 → Mem → Prop) → Prop} {Q : Option v2 → Mem → Prop} {K : Nat → L2 → List v2 → Mem → Prop} (m : Mem) (p1 : Int32) (p2 : Int32) (p3 : Int32)
    (h : C 107 [vI p1] m (fun r1 m2 => ∃ w3 : Int32, r1 = some (vI w3) ∧
      ((w3 = 0 →
        Q (some (vI (-1 : Int32))) m2) ∧
      (¬ w3 = 0 →
        ((p2 = (nI 3) →
          ((p3 ≤ (nI 60) →
            ((0 ≤ p3 →
              inb p1 8 ∧ 
                C 40 [vR 31 (p1.toNatClampNeg), vI p2, vI p3] m2 (fun r4 m5 => r4 = none ∧
                  Q (some (vI (nI 0))) m5)) ∧
            (¬ 0 ≤ p3 →
              Q (some (vI (-14 : Int32))) m2))) ∧
          (¬ p3 ≤ (nI 60) →
            Q (some (vI (-1 : Int32))) m2))) ∧
        (¬ p2 = (nI 3) →
          ((¬ p2 = (nI 4) →
            Q (some (vI (-1 : Int32))) m2) ∧
          (p2 = (nI 4) →
            ((p3 ≤ (nI 60) →
              ((0 ≤ p3 →
                inb p1 8 ∧ 
                  C 40 [vR 31 (p1.toNatClampNeg), vI p2, vI p3] m2 (fun r6 m7 => r6 = none ∧
                    Q (some (vI (nI 0))) m7)) ∧
              (¬ 0 ≤ p3 →
                Q (some (vI (-14 : Int32))) m2))) ∧
            (¬ p3 ≤ (nI 60) →
              Q (some (vI (-1 : Int32))) m2)))))))))) :
    wp2i xs C tX11_make [] (some .int) Q K 2000 0 [some (vR 0 0), some (vI p1), some (vI p2), some (vI p3)] [] m := h
theorem bX11_copy_0 {xs : Nat × (Nat → Int32)} {C : Nat → List v2 → Mem → (Option v2 → Mem → Prop) → Prop} {Q : Option v2 → Mem → Prop} {K : Nat → L2 → List v2 → Mem → Prop} (m : Mem) (p1 : Int32) (p2 : Int32) (p3 : Int32) (p4 : Int32) (p5 : Int32)
    (h : C 107 [vI p1] m (fun r1 m2 => ∃ w3 : Int32, r1 = some (vI w3) ∧
      ((w3 = 0 →
        Q (some (vI (-1 : Int32))) m2) ∧
      (¬ w3 = 0 →
        C 107 [vI p3] m2 (fun r4 m5 => ∃ w6 : Int32, r4 = some (vI w6) ∧
          ((¬ w6 = 0 →
            inb p1 8 ∧ 
              inb p3 8 ∧ 
                (((m5.1 31 (p1.toNatClampNeg) 0) = 0 →
                  Q (some (vI (-11 : Int32))) m5) ∧
                (¬ (m5.1 31 (p1.toNatClampNeg) 0) = 0 →
                  ((¬ (m5.1 31 (p3.toNatClampNeg) 0) = 0 →
                    C 35 [vR 31 (p1.toNatClampNeg)] m5 (fun r7 m8 => ∃ w9 : Int32, r7 = some (vI w9) ∧
                      ((w9 = 0 →
                        Q (some (vI (-12 : Int32))) m8) ∧
                      (¬ w9 = 0 →
                        (((m8.1 31 (p1.toNatClampNeg) 0) = (m8.1 31 (p3.toNatClampNeg) 0) →
                          C 36 [vR 31 (p1.toNatClampNeg), vI p2, vI p5] m8 (fun r10 m11 => ∃ w12 : Int32, r10 = some (vI w12) ∧
                            ((w12 = 0 →
                              Q (some (vI (-13 : Int32))) m11) ∧
                            (¬ w12 = 0 →
                              C 36 [vR 31 (p3.toNatClampNeg), vI p4, vI p5] m11 (fun r13 m14 => ∃ w15 : Int32, r13 = some (vI w15) ∧
                                ((¬ w15 = 0 →
                                  (¬ p2 < 0 ∧ ¬ p4 < 0 ∧ ¬ p5 < 0 ∧ p2.toNatClampNeg + p5.toNatClampNeg ≤ 60 ∧ p4.toNatClampNeg + p5.toNatClampNeg ≤ 60) ∧
                                    Q (some (vI p5)) (m14.1, (fun a b => if a = 32 ∧ b = ((p3.toNatClampNeg)) then (va_cpy (m14.2 32 ((p1.toNatClampNeg))) (m14.2 32 ((p3.toNatClampNeg))) p2.toNatClampNeg p4.toNatClampNeg p5.toNatClampNeg) else m14.2 a b))) ∧
                                (w15 = 0 →
                                  Q (some (vI (-13 : Int32))) m14))))))) ∧
                        (¬ (m8.1 31 (p1.toNatClampNeg) 0) = (m8.1 31 (p3.toNatClampNeg) 0) →
                          Q (some (vI (-12 : Int32))) m8)))))) ∧
                  ((m5.1 31 (p3.toNatClampNeg) 0) = 0 →
                    Q (some (vI (-11 : Int32))) m5))))) ∧
          (w6 = 0 →
            Q (some (vI (-1 : Int32))) m5))))))) :
    wp2i xs C tX11_copy [] (some .int) Q K 2000 0 [some (vR 0 0), some (vI p1), some (vI p2), some (vI p3), some (vI p4), some (vI p5), none, none] [] m := h
theorem bX11_weight_0 {xs : Nat × (Nat → Int32)} {C : Nat → List v2 → Mem → (Option v2 → Mem → Prop) → Prop} {Q : Option v2 → Mem → Prop} {K : Nat → L2 → List v2 → Mem → Prop} (m : Mem) (p1 : Int32)
    (h : C 107 [vI p1] m (fun r1 m2 => ∃ w3 : Int32, r1 = some (vI w3) ∧
      ((¬ w3 = 0 →
        inb p1 8 ∧ 
          (((m2.1 31 (p1.toNatClampNeg) 0).toInt < 0 ∨ 2 < (m2.1 31 (p1.toNatClampNeg) 0).toInt →
            Q (some (vL (-12 : Int64))) m2) ∧
          ((m2.1 31 (p1.toNatClampNeg) 0).toInt = (0 : Int) →
            Q (some (vL (-11 : Int64))) m2) ∧
          ((m2.1 31 (p1.toNatClampNeg) 0).toInt = 0 + 1 →
            C 8 [vR 4 (40 + (p1.toNatClampNeg))] m2 (fun r4 m5 => ∃ w6 : Int64, r4 = some (vL w6) ∧
              Q (some (vL w6)) m5)) ∧
          ((m2.1 31 (p1.toNatClampNeg) 0).toInt = 0 + 1 + 1 →
            Q (some (vL (m2.2 31 (p1.toNatClampNeg) 1))) m2) ∧
          True)) ∧
      (w3 = 0 →
        Q (some (vL (-1 : Int64))) m2)))) :
    wp2i xs C tX11_weight [] (some .long) Q K 2000 0 [some (vR 0 0), some (vI p1), none] [] m := h
theorem bX11_ratio_0 {xs : Nat × (Nat → Int32)} {C : Nat → List v2 → Mem → (Option v2 → Mem → Prop) → Prop} {Q : Option v2 → Mem → Prop} {K : Nat → L2 → List v2 → Mem → Prop} (m : Mem) (p1 : Int32) (p2 : Int32)
    (h : C 107 [vI p1] m (fun r1 m2 => ∃ w3 : Int32, r1 = some (vI w3) ∧
      ((w3 = 0 →
        Q (some (vL (-1 : Int64))) m2) ∧
      (¬ w3 = 0 →
        C 107 [vI p2] m2 (fun r4 m5 => ∃ w6 : Int32, r4 = some (vI w6) ∧
          ((¬ w6 = 0 →
            inb p1 8 ∧ 
              inb p2 8 ∧ 
                (((m5.1 31 (p1.toNatClampNeg) 0) = 0 →
                  Q (some (vL (-11 : Int64))) m5) ∧
                (¬ (m5.1 31 (p1.toNatClampNeg) 0) = 0 →
                  ((¬ (m5.1 31 (p2.toNatClampNeg) 0) = 0 →
                    ((¬ (m5.1 31 (p1.toNatClampNeg) 0) = (nI 2) →
                      Q (some (vL (-12 : Int64))) m5) ∧
                    ((m5.1 31 (p1.toNatClampNeg) 0) = (nI 2) →
                      (((m5.1 31 (p2.toNatClampNeg) 0) = (nI 2) →
                        ((¬ (lg_cmp (m5.2 31 (p2.toNatClampNeg) 1) (lN 0)) = 0 →
                          ¬ (m5.2 31 (p2.toNatClampNeg) 1) = 0 ∧ 
                            Q (some (vL ((m5.2 31 (p1.toNatClampNeg) 1) / (m5.2 31 (p2.toNatClampNeg) 1)))) m5) ∧
                        ((lg_cmp (m5.2 31 (p2.toNatClampNeg) 1) (lN 0)) = 0 →
                          Q (some (vL (-15 : Int64))) m5))) ∧
                      (¬ (m5.1 31 (p2.toNatClampNeg) 0) = (nI 2) →
                        Q (some (vL (-12 : Int64))) m5))))) ∧
                  ((m5.1 31 (p2.toNatClampNeg) 0) = 0 →
                    Q (some (vL (-11 : Int64))) m5))))) ∧
          (w6 = 0 →
            Q (some (vL (-1 : Int64))) m5))))))) :
    wp2i xs C tX11_ratio [] (some .long) Q K 2000 0 [some (vR 0 0), some (vI p1), some (vI p2), none, none] [] m := h
theorem bX11_refusalOf_0 {xs : Nat × (Nat → Int32)} {C : Nat → List v2 → Mem → (Option v2 → Mem → Prop) → Prop} {Q : Option v2 → Mem → Prop} {K : Nat → L2 → List v2 → Mem → Prop} (m : Mem) (p1 : Nat)
    (h : C 71 [vR 1 0] m (fun r1 m2 => ∃ w3 : Int32, r1 = some (vI w3) ∧
      ((¬ w3 = 0 →
        C 49 [vR 7 p1] m2 (fun r4 m5 => r4 = none ∧
          C 50 [vR 7 p1] m5 (fun r6 m7 => r6 = none ∧
            (((m7.1 7 p1 10) = 0 →
              Q (some (vI (-3 : Int32))) m7) ∧
            (¬ (m7.1 7 p1 10) = 0 →
              Q (some (vI (nI 0))) m7))))) ∧
      (w3 = 0 →
        Q (some (vI (-2 : Int32))) m2)))) :
    wp2i xs C tX11_refusalOf [] (some .int) Q K 2000 0 [some (vR 0 0), some (vR 7 p1)] [] m := h
theorem bX11_fillShelf_0 {xs : Nat × (Nat → Int32)} {C : Nat → List v2 → Mem → (Option v2 → Mem → Prop) → Prop} {Q : Option v2 → Mem → Prop} {K : Nat → L2 → List v2 → Mem → Prop} (m : Mem) (p1 : Nat) (p2 : Int32) (p3 : Int32) (p4 : Int32)
    (h : ((p2.toInt < 1 ∨ 4 < p2.toInt →
      Q none (mI m 31 p1 0 (nI 0))) ∧
    (p2.toInt = (1 : Int) →
      C 62 [vR 1 0, vI p3, vI p4] m (fun r1 m2 => ∃ q3 : Nat, r1 = some (vR 4 q3) ∧
        C 37 [vR 31 p1, vR 4 q3] m2 (fun r4 m5 => r4 = none ∧
          Q none m5))) ∧
    (p2.toInt = 1 + 1 →
      inb p3 10 ∧ 
        C 109 [vL (m.2 15 0 p3.toNatClampNeg), vL (m.2 7 0 7), vI (nI 0)] m (fun r6 m7 => ∃ w8 : Int64, r6 = some (vL w8) ∧
          C 38 [vR 31 p1, vL w8] m7 (fun r9 m10 => r9 = none ∧
            Q none m10))) ∧
    (p2.toInt = 1 + 1 + 1 →
      C 62 [vR 1 0, vI p3, vI p4] m (fun r11 m12 => ∃ q13 : Nat, r11 = some (vR 4 q13) ∧
        C 39 [vR 31 p1, vR 4 q13] m12 (fun r14 m15 => r14 = none ∧
          Q none m15))) ∧
    (p2.toInt = 1 + 1 + 1 + 1 →
      C 40 [vR 31 p1, vI (nI 4), vI ((nI 2) * (m.1 1 0 0))] m (fun r16 m17 => r16 = none ∧
        K 41 [some (vR 0 0), some (vR 31 p1), some (vI p2), some (vI p3), some (vI p4), some (vI (nI 0))] [] m17)) ∧
    True)) :
    wp2i xs C tX11_fillShelf [41] none Q K 2000 0 [some (vR 0 0), some (vR 31 p1), some (vI p2), some (vI p3), some (vI p4), none] [] m := h
theorem bX11_fillShelf_41 {xs : Nat × (Nat → Int32)} {C : Nat → List v2 → Mem → (Option v2 → Mem → Prop) → Prop} {Q : Option v2 → Mem → Prop} {K : Nat → L2 → List v2 → Mem → Prop} (m : Mem) (x1 : Nat) (x2 : Int32) (x3 : Int32) (x4 : Int32) (x5 : Int32)
    (h : (((m.1 1 0 0) ≤ x5 →
      Q none m) ∧
    (¬ (m.1 1 0 0) ≤ x5 →
      inb x5 10 ∧ 
        C 109 [vL (m.2 15 0 x5.toNatClampNeg), vL (m.2 7 0 7), vI (nI 0)] m (fun r1 m2 => ∃ w3 : Int64, r1 = some (vL w3) ∧
          inb ((nI 2) * x5) 60 ∧ 
            inb x5 10 ∧ 
              C 109 [vL ((mL m2 32 x1 ((nI 2) * x5).toNatClampNeg w3).2 15 0 x5.toNatClampNeg), vL ((mL m2 32 x1 ((nI 2) * x5).toNatClampNeg w3).2 7 0 7), vI (nI 1)] (mL m2 32 x1 ((nI 2) * x5).toNatClampNeg w3) (fun r4 m5 => ∃ w6 : Int64, r4 = some (vL w6) ∧
                inb (((nI 2) * x5) + (nI 1)) 60 ∧ 
                  K 41 [some (vR 0 0), some (vR 31 x1), some (vI x2), some (vI x3), some (vI x4), some (vI (x5 + (nI 1)))] [] (mL m5 32 x1 (((nI 2) * x5) + (nI 1)).toNatClampNeg w6)))))) :
    wp2i xs C tX11_fillShelf [41] none Q K 2000 41 [some (vR 0 0), some (vR 31 x1), some (vI x2), some (vI x3), some (vI x4), some (vI x5)] [] m := h
theorem bX11_isHalf_0 {xs : Nat × (Nat → Int32)} {C : Nat → List v2 → Mem → (Option v2 → Mem → Prop) → Prop} {Q : Option v2 → Mem → Prop} {K : Nat → L2 → List v2 → Mem → Prop} (m : Mem) (p0 : Int32)
    (h : ((p0 = 0 →
      isB (nI 1) ∧ Q (some (vI (nI 1))) m) ∧
    (¬ p0 = 0 →
      ((¬ p0 = (nI 1) →
        isB (nI 0) ∧ Q (some (vI (nI 0))) m) ∧
      (p0 = (nI 1) →
        isB (nI 1) ∧ Q (some (vI (nI 1))) m))))) :
    wp2i xs C tX11_isHalf [] (some .boolean) Q K 2000 0 [some (vI p0)] [] m := h
theorem bX11_isShelf_0 {xs : Nat × (Nat → Int32)} {C : Nat → List v2 → Mem → (Option v2 → Mem → Prop) → Prop} {Q : Option v2 → Mem → Prop} {K : Nat → L2 → List v2 → Mem → Prop} (m : Mem) (p0 : Int32)
    (h : ((p0 < 0 →
      isB (nI 0) ∧ Q (some (vI (nI 0))) m) ∧
    (¬ p0 < 0 →
      (((nI 8) ≤ p0 →
        isB (nI 0) ∧ Q (some (vI (nI 0))) m) ∧
      (¬ (nI 8) ≤ p0 →
        isB (nI 1) ∧ Q (some (vI (nI 1))) m))))) :
    wp2i xs C tX11_isShelf [] (some .boolean) Q K 2000 0 [some (vI p0)] [] m := h
theorem bX11_has_0 {xs : Nat × (Nat → Int32)} {C : Nat → List v2 → Mem → (Option v2 → Mem → Prop) → Prop} {Q : Option v2 → Mem → Prop} {K : Nat → L2 → List v2 → Mem → Prop} (m : Mem) (p0 : Int32) (p1 : Int32)
    (h : ((¬ ((p0 >>> (p1 &&& 31)) &&& (nI 1)) = (nI 1) →
      isB (nI 0) ∧ Q (some (vI (nI 0))) m) ∧
    (((p0 >>> (p1 &&& 31)) &&& (nI 1)) = (nI 1) →
      isB (nI 1) ∧ Q (some (vI (nI 1))) m))) :
    wp2i xs C tX11_has [] (some .boolean) Q K 2000 0 [some (vI p0), some (vI p1)] [] m := h
theorem bX11_lowestTerms_0 {xs : Nat × (Nat → Int32)} {C : Nat → List v2 → Mem → (Option v2 → Mem → Prop) → Prop} {Q : Option v2 → Mem → Prop} {K : Nat → L2 → List v2 → Mem → Prop} (m : Mem) (p0 : Int64) (p1 : Int64) (p2 : Int32)
    (h : C 110 [vL p0, vL p1] m (fun r1 m2 => ∃ w3 : Int64, r1 = some (vL w3) ∧
      ((¬ (lg_cmp w3 (lN 0)) = 0 →
        ((¬ p2 = 0 →
          ¬ w3 = 0 ∧ 
            Q (some (vL (p1 / w3))) m2) ∧
        (p2 = 0 →
          ¬ w3 = 0 ∧ 
            Q (some (vL (p0 / w3))) m2))) ∧
      ((lg_cmp w3 (lN 0)) = 0 →
        Q (some (vL (lN 0))) m2)))) :
    wp2i xs C tX11_lowestTerms [] (some .long) Q K 2000 0 [some (vL p0), none, some (vL p1), none, some (vI p2), none, none] [] m := h
theorem bX11_commonDivisor_0 {xs : Nat × (Nat → Int32)} {C : Nat → List v2 → Mem → (Option v2 → Mem → Prop) → Prop} {Q : Option v2 → Mem → Prop} {K : Nat → L2 → List v2 → Mem → Prop} (m : Mem) (p0 : Int64) (p1 : Int64)
    (h : K 6 [some (vL p0), none, some (vL p1), none, some (vL p0), none, some (vL p1), none, some (vI (nI 0)), none, none] [] m) :
    wp2i xs C tX11_commonDivisor [6] (some .long) Q K 2000 0 [some (vL p0), none, some (vL p1), none, none, none, none, none, none, none, none] [] m := h
theorem bX11_commonDivisor_6 {xs : Nat × (Nat → Int32)} {C : Nat → List v2 → Mem → (Option v2 → Mem → Prop) → Prop} {Q : Option v2 → Mem → Prop} {K : Nat → L2 → List v2 → Mem → Prop} (m : Mem) (x0 : Int64) (x2 : Int64) (x4 : Int64) (x6 : Int64) (x8 : Int32) (o9 : Option v2)
    (h : (((nI 1000000) ≤ x8 →
      Q (some (vL x4)) m) ∧
    (¬ (nI 1000000) ≤ x8 →
      (((lg_cmp x6 (lN 0)) = 0 →
        Q (some (vL x4)) m) ∧
      (¬ (lg_cmp x6 (lN 0)) = 0 →
        ¬ x6 = 0 ∧ 
          K 6 [some (vL x0), none, some (vL x2), none, some (vL x6), none, some (vL (x4 - x4 / x6 * x6)), none, some (vI (x8 + (nI 1))), some (vL (x4 - x4 / x6 * x6)), none] [] m))))) :
    wp2i xs C tX11_commonDivisor [6] (some .long) Q K 2000 6 [some (vL x0), none, some (vL x2), none, some (vL x4), none, some (vL x6), none, some (vI x8), o9, none] [] m := h
