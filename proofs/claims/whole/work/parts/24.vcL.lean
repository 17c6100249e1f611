set_option maxRecDepth 100000 in
set_option maxHeartbeats 4000000 in
theorem bL_law_13 {xs : Nat × (Nat → Int32)} {C : Nat → List v2 → Mem → (Option v2 → Mem → Prop) → Prop} {Q : Option v2 → Mem → Prop} {K : Nat → L2 → List v2 → Mem → Prop} (m : Mem) (x4 : Int32) (o5 : Option v2) (o6 : Option v2) (o7 : Option v2)
    (h : ((((Int32.ofNat xs.1) - (nI 6)) < x4 →
      isB (nI 1) ∧ Q (some (vI (nI 1))) m) ∧
    (¬ ((Int32.ofNat xs.1) - (nI 6)) < x4 →
      inb x4 xs.1 ∧ 
        ((((xs.2 x4.toNatClampNeg) &&& (nI 31)).toInt < 0 ∨ 24 < ((xs.2 x4.toNatClampNeg) &&& (nI 31)).toInt →
          K 13 [some (vR 99 0), some (vR 0 0), some (vR 40 0), some (vR 90 0), some (vI (x4 + (nI 6))), o5, o6, o7] [] m) ∧
        (((xs.2 x4.toNatClampNeg) &&& (nI 31)).toInt = (0 : Int) →
          C 79 [vR 0 0] m (fun r1 m2 => ∃ w3 : Int32, r1 = some (vI w3) ∧
            C 118 [vR 40 0] m2 (fun r4 m5 => ∃ w6 : Int32, r4 = some (vI w6) ∧
              ((w3 = w6 →
                K 13 [some (vR 99 0), some (vR 0 0), some (vR 40 0), some (vR 90 0), some (vI (x4 + (nI 6))), o5, o6, o7] [] m5) ∧
              (¬ w3 = w6 →
                isB (nI 0) ∧ Q (some (vI (nI 0))) m5))))) ∧
        (((xs.2 x4.toNatClampNeg) &&& (nI 31)).toInt = 0 + 1 →
          inb (x4 + (nI 1)) xs.1 ∧ 
            inb (x4 + (nI 2)) xs.1 ∧ 
              inb (x4 + (nI 3)) xs.1 ∧ 
                C 80 [vR 0 0, vI (xs.2 (x4 + (nI 1)).toNatClampNeg), vI (xs.2 (x4 + (nI 2)).toNatClampNeg), vI (xs.2 (x4 + (nI 3)).toNatClampNeg)] m (fun r7 m8 => ∃ w9 : Int32, r7 = some (vI w9) ∧
                  inb (x4 + (nI 1)) xs.1 ∧ 
                    inb (x4 + (nI 2)) xs.1 ∧ 
                      inb (x4 + (nI 3)) xs.1 ∧ 
                        C 119 [vR 40 0, vI (xs.2 (x4 + (nI 1)).toNatClampNeg), vI (xs.2 (x4 + (nI 2)).toNatClampNeg), vI (xs.2 (x4 + (nI 3)).toNatClampNeg)] m8 (fun r10 m11 => ∃ w12 : Int32, r10 = some (vI w12) ∧
                          ((w9 = w12 →
                            K 13 [some (vR 99 0), some (vR 0 0), some (vR 40 0), some (vR 90 0), some (vI (x4 + (nI 6))), o5, o6, o7] [] m11) ∧
                          (¬ w9 = w12 →
                            isB (nI 0) ∧ Q (some (vI (nI 0))) m11))))) ∧
        (((xs.2 x4.toNatClampNeg) &&& (nI 31)).toInt = 0 + 1 + 1 →
          inb (x4 + (nI 1)) xs.1 ∧ 
            inb (x4 + (nI 2)) xs.1 ∧ 
              inb (x4 + (nI 3)) xs.1 ∧ 
                inb (x4 + (nI 4)) xs.1 ∧ 
                  C 81 [vR 0 0, vI (xs.2 (x4 + (nI 1)).toNatClampNeg), vI (xs.2 (x4 + (nI 2)).toNatClampNeg), vI (xs.2 (x4 + (nI 3)).toNatClampNeg), vI (xs.2 (x4 + (nI 4)).toNatClampNeg)] m (fun r13 m14 => ∃ w15 : Int32, r13 = some (vI w15) ∧
                    inb (x4 + (nI 1)) xs.1 ∧ 
                      inb (x4 + (nI 2)) xs.1 ∧ 
                        inb (x4 + (nI 3)) xs.1 ∧ 
                          inb (x4 + (nI 4)) xs.1 ∧ 
                            C 121 [vR 40 0, vI (xs.2 (x4 + (nI 1)).toNatClampNeg), vI (xs.2 (x4 + (nI 2)).toNatClampNeg), vI (xs.2 (x4 + (nI 3)).toNatClampNeg), vI (xs.2 (x4 + (nI 4)).toNatClampNeg)] m14 (fun r16 m17 => ∃ w18 : Int32, r16 = some (vI w18) ∧
                              ((w15 = w18 →
                                K 13 [some (vR 99 0), some (vR 0 0), some (vR 40 0), some (vR 90 0), some (vI (x4 + (nI 6))), o5, o6, o7] [] m17) ∧
                              (¬ w15 = w18 →
                                isB (nI 0) ∧ Q (some (vI (nI 0))) m17))))) ∧
        (((xs.2 x4.toNatClampNeg) &&& (nI 31)).toInt = 0 + 1 + 1 + 1 →
          inb (x4 + (nI 1)) xs.1 ∧ 
            C 82 [vR 0 0, vI (xs.2 (x4 + (nI 1)).toNatClampNeg)] m (fun r19 m20 => ∃ w21 : Int32, r19 = some (vI w21) ∧
              inb (x4 + (nI 1)) xs.1 ∧ 
                C 122 [vR 40 0, vI (xs.2 (x4 + (nI 1)).toNatClampNeg)] m20 (fun r22 m23 => ∃ w24 : Int32, r22 = some (vI w24) ∧
                  ((w21 = w24 →
                    K 13 [some (vR 99 0), some (vR 0 0), some (vR 40 0), some (vR 90 0), some (vI (x4 + (nI 6))), o5, o6, o7] [] m23) ∧
                  (¬ w21 = w24 →
                    isB (nI 0) ∧ Q (some (vI (nI 0))) m23))))) ∧
        (((xs.2 x4.toNatClampNeg) &&& (nI 31)).toInt = 0 + 1 + 1 + 1 + 1 →
          inb (x4 + (nI 1)) xs.1 ∧ 
            C 83 [vR 0 0, vI (xs.2 (x4 + (nI 1)).toNatClampNeg)] m (fun r25 m26 => ∃ w27 : Int32, r25 = some (vI w27) ∧
              inb (x4 + (nI 1)) xs.1 ∧ 
                C 123 [vR 40 0, vI (xs.2 (x4 + (nI 1)).toNatClampNeg)] m26 (fun r28 m29 => ∃ w30 : Int32, r28 = some (vI w30) ∧
                  ((w27 = w30 →
                    K 13 [some (vR 99 0), some (vR 0 0), some (vR 40 0), some (vR 90 0), some (vI (x4 + (nI 6))), o5, o6, o7] [] m29) ∧
                  (¬ w27 = w30 →
                    isB (nI 0) ∧ Q (some (vI (nI 0))) m29))))) ∧
        (((xs.2 x4.toNatClampNeg) &&& (nI 31)).toInt = 0 + 1 + 1 + 1 + 1 + 1 →
          C 84 [vR 0 0] m (fun r31 m32 => ∃ w33 : Int32, r31 = some (vI w33) ∧
            C 125 [vR 40 0] m32 (fun r34 m35 => ∃ w36 : Int32, r34 = some (vI w36) ∧
              ((w33 = w36 →
                K 13 [some (vR 99 0), some (vR 0 0), some (vR 40 0), some (vR 90 0), some (vI (x4 + (nI 6))), o5, o6, o7] [] m35) ∧
              (¬ w33 = w36 →
                isB (nI 0) ∧ Q (some (vI (nI 0))) m35))))) ∧
        (((xs.2 x4.toNatClampNeg) &&& (nI 31)).toInt = 0 + 1 + 1 + 1 + 1 + 1 + 1 →
          inb (x4 + (nI 1)) xs.1 ∧ 
            inb (x4 + (nI 2)) xs.1 ∧ 
              (((xs.2 (x4 + (nI 2)).toNatClampNeg) = 0 →
                inb (x4 + (nI 3)) xs.1 ∧ 
                  C 85 [vR 0 0, vI (xs.2 (x4 + (nI 1)).toNatClampNeg), vI (nI 0), vI (xs.2 (x4 + (nI 3)).toNatClampNeg)] m (fun r37 m38 => ∃ w39 : Int64, r37 = some (vL w39) ∧
                    inb (x4 + (nI 1)) xs.1 ∧ 
                      inb (x4 + (nI 2)) xs.1 ∧ 
                        (((xs.2 (x4 + (nI 2)).toNatClampNeg) = 0 →
                          inb (x4 + (nI 3)) xs.1 ∧ 
                            C 146 [vR 40 0, vI (xs.2 (x4 + (nI 1)).toNatClampNeg), vI (nI 0), vI (xs.2 (x4 + (nI 3)).toNatClampNeg)] m38 (fun r40 m41 => ∃ w42 : Int64, r40 = some (vL w42) ∧
                              (((lg_cmp w39 w42) = 0 →
                                K 13 [some (vR 99 0), some (vR 0 0), some (vR 40 0), some (vR 90 0), some (vI (x4 + (nI 6))), o5, o6, o7] [] m41) ∧
                              (¬ (lg_cmp w39 w42) = 0 →
                                isB (nI 0) ∧ Q (some (vI (nI 0))) m41)))) ∧
                        (¬ (xs.2 (x4 + (nI 2)).toNatClampNeg) = 0 →
                          inb (x4 + (nI 3)) xs.1 ∧ 
                            C 146 [vR 40 0, vI (xs.2 (x4 + (nI 1)).toNatClampNeg), vI (nI 1), vI (xs.2 (x4 + (nI 3)).toNatClampNeg)] m38 (fun r43 m44 => ∃ w45 : Int64, r43 = some (vL w45) ∧
                              (((lg_cmp w39 w45) = 0 →
                                K 13 [some (vR 99 0), some (vR 0 0), some (vR 40 0), some (vR 90 0), some (vI (x4 + (nI 6))), o5, o6, o7] [] m44) ∧
                              (¬ (lg_cmp w39 w45) = 0 →
                                isB (nI 0) ∧ Q (some (vI (nI 0))) m44))))))) ∧
              (¬ (xs.2 (x4 + (nI 2)).toNatClampNeg) = 0 →
                inb (x4 + (nI 3)) xs.1 ∧ 
                  C 85 [vR 0 0, vI (xs.2 (x4 + (nI 1)).toNatClampNeg), vI (nI 1), vI (xs.2 (x4 + (nI 3)).toNatClampNeg)] m (fun r46 m47 => ∃ w48 : Int64, r46 = some (vL w48) ∧
                    inb (x4 + (nI 1)) xs.1 ∧ 
                      inb (x4 + (nI 2)) xs.1 ∧ 
                        (((xs.2 (x4 + (nI 2)).toNatClampNeg) = 0 →
                          inb (x4 + (nI 3)) xs.1 ∧ 
                            C 146 [vR 40 0, vI (xs.2 (x4 + (nI 1)).toNatClampNeg), vI (nI 0), vI (xs.2 (x4 + (nI 3)).toNatClampNeg)] m47 (fun r49 m50 => ∃ w51 : Int64, r49 = some (vL w51) ∧
                              (((lg_cmp w48 w51) = 0 →
                                K 13 [some (vR 99 0), some (vR 0 0), some (vR 40 0), some (vR 90 0), some (vI (x4 + (nI 6))), o5, o6, o7] [] m50) ∧
                              (¬ (lg_cmp w48 w51) = 0 →
                                isB (nI 0) ∧ Q (some (vI (nI 0))) m50)))) ∧
                        (¬ (xs.2 (x4 + (nI 2)).toNatClampNeg) = 0 →
                          inb (x4 + (nI 3)) xs.1 ∧ 
                            C 146 [vR 40 0, vI (xs.2 (x4 + (nI 1)).toNatClampNeg), vI (nI 1), vI (xs.2 (x4 + (nI 3)).toNatClampNeg)] m47 (fun r52 m53 => ∃ w54 : Int64, r52 = some (vL w54) ∧
                              (((lg_cmp w48 w54) = 0 →
                                K 13 [some (vR 99 0), some (vR 0 0), some (vR 40 0), some (vR 90 0), some (vI (x4 + (nI 6))), o5, o6, o7] [] m53) ∧
                              (¬ (lg_cmp w48 w54) = 0 →
                                isB (nI 0) ∧ Q (some (vI (nI 0))) m53))))))))) ∧
        (((xs.2 x4.toNatClampNeg) &&& (nI 31)).toInt = 0 + 1 + 1 + 1 + 1 + 1 + 1 + 1 →
          inb (x4 + (nI 1)) xs.1 ∧ 
            C 86 [vR 0 0, vI (xs.2 (x4 + (nI 1)).toNatClampNeg)] m (fun r55 m56 => ∃ w57 : Int32, r55 = some (vI w57) ∧
              inb (x4 + (nI 1)) xs.1 ∧ 
                C 152 [vR 40 0, vI (xs.2 (x4 + (nI 1)).toNatClampNeg)] m56 (fun r58 m59 => ∃ w60 : Int32, r58 = some (vI w60) ∧
                  ((w57 = w60 →
                    K 13 [some (vR 99 0), some (vR 0 0), some (vR 40 0), some (vR 90 0), some (vI (x4 + (nI 6))), o5, o6, o7] [] m59) ∧
                  (¬ w57 = w60 →
                    isB (nI 0) ∧ Q (some (vI (nI 0))) m59))))) ∧
        (((xs.2 x4.toNatClampNeg) &&& (nI 31)).toInt = 0 + 1 + 1 + 1 + 1 + 1 + 1 + 1 + 1 →
          inb (x4 + (nI 1)) xs.1 ∧ 
            C 87 [vR 0 0, vI (xs.2 (x4 + (nI 1)).toNatClampNeg)] m (fun r61 m62 => ∃ w63 : Int32, r61 = some (vI w63) ∧
              inb (x4 + (nI 1)) xs.1 ∧ 
                C 153 [vR 40 0, vI (xs.2 (x4 + (nI 1)).toNatClampNeg)] m62 (fun r64 m65 => ∃ w66 : Int32, r64 = some (vI w66) ∧
                  ((w63 = w66 →
                    K 13 [some (vR 99 0), some (vR 0 0), some (vR 40 0), some (vR 90 0), some (vI (x4 + (nI 6))), o5, o6, o7] [] m65) ∧
                  (¬ w63 = w66 →
                    isB (nI 0) ∧ Q (some (vI (nI 0))) m65))))) ∧
        (((xs.2 x4.toNatClampNeg) &&& (nI 31)).toInt = 0 + 1 + 1 + 1 + 1 + 1 + 1 + 1 + 1 + 1 →
          inb (x4 + (nI 1)) xs.1 ∧ 
            inb (x4 + (nI 2)) xs.1 ∧ 
              inb (x4 + (nI 3)) xs.1 ∧ 
                C 88 [vR 0 0, vI (xs.2 (x4 + (nI 1)).toNatClampNeg), vI (xs.2 (x4 + (nI 2)).toNatClampNeg), vI (xs.2 (x4 + (nI 3)).toNatClampNeg)] m (fun r67 m68 => ∃ w69 : Int64, r67 = some (vL w69) ∧
                  inb (x4 + (nI 1)) xs.1 ∧ 
                    inb (x4 + (nI 2)) xs.1 ∧ 
                      inb (x4 + (nI 3)) xs.1 ∧ 
                        C 154 [vR 40 0, vI (xs.2 (x4 + (nI 1)).toNatClampNeg), vI (xs.2 (x4 + (nI 2)).toNatClampNeg), vI (xs.2 (x4 + (nI 3)).toNatClampNeg)] m68 (fun r70 m71 => ∃ w72 : Int64, r70 = some (vL w72) ∧
                          (((lg_cmp w69 w72) = 0 →
                            K 13 [some (vR 99 0), some (vR 0 0), some (vR 40 0), some (vR 90 0), some (vI (x4 + (nI 6))), o5, o6, o7] [] m71) ∧
                          (¬ (lg_cmp w69 w72) = 0 →
                            isB (nI 0) ∧ Q (some (vI (nI 0))) m71))))) ∧
        (((xs.2 x4.toNatClampNeg) &&& (nI 31)).toInt = 0 + 1 + 1 + 1 + 1 + 1 + 1 + 1 + 1 + 1 + 1 →
          inb (x4 + (nI 1)) xs.1 ∧ 
            inb (x4 + (nI 2)) xs.1 ∧ 
              inb (x4 + (nI 3)) xs.1 ∧ 
                (((xs.2 (x4 + (nI 3)).toNatClampNeg) = 0 →
                  inb (x4 + (nI 4)) xs.1 ∧ 
                    C 89 [vR 0 0, vI (xs.2 (x4 + (nI 1)).toNatClampNeg), vI (xs.2 (x4 + (nI 2)).toNatClampNeg), vI (nI 0), vI (xs.2 (x4 + (nI 4)).toNatClampNeg)] m (fun r73 m74 => ∃ w75 : Int64, r73 = some (vL w75) ∧
                      inb (x4 + (nI 1)) xs.1 ∧ 
                        inb (x4 + (nI 2)) xs.1 ∧ 
                          inb (x4 + (nI 3)) xs.1 ∧ 
                            (((xs.2 (x4 + (nI 3)).toNatClampNeg) = 0 →
                              inb (x4 + (nI 4)) xs.1 ∧ 
                                C 157 [vR 40 0, vI (xs.2 (x4 + (nI 1)).toNatClampNeg), vI (xs.2 (x4 + (nI 2)).toNatClampNeg), vI (nI 0), vI (xs.2 (x4 + (nI 4)).toNatClampNeg)] m74 (fun r76 m77 => ∃ w78 : Int64, r76 = some (vL w78) ∧
                                  (((lg_cmp w75 w78) = 0 →
                                    K 13 [some (vR 99 0), some (vR 0 0), some (vR 40 0), some (vR 90 0), some (vI (x4 + (nI 6))), o5, o6, o7] [] m77) ∧
                                  (¬ (lg_cmp w75 w78) = 0 →
                                    isB (nI 0) ∧ Q (some (vI (nI 0))) m77)))) ∧
                            (¬ (xs.2 (x4 + (nI 3)).toNatClampNeg) = 0 →
                              inb (x4 + (nI 4)) xs.1 ∧ 
                                C 157 [vR 40 0, vI (xs.2 (x4 + (nI 1)).toNatClampNeg), vI (xs.2 (x4 + (nI 2)).toNatClampNeg), vI (nI 1), vI (xs.2 (x4 + (nI 4)).toNatClampNeg)] m74 (fun r79 m80 => ∃ w81 : Int64, r79 = some (vL w81) ∧
                                  (((lg_cmp w75 w81) = 0 →
                                    K 13 [some (vR 99 0), some (vR 0 0), some (vR 40 0), some (vR 90 0), some (vI (x4 + (nI 6))), o5, o6, o7] [] m80) ∧
                                  (¬ (lg_cmp w75 w81) = 0 →
                                    isB (nI 0) ∧ Q (some (vI (nI 0))) m80))))))) ∧
                (¬ (xs.2 (x4 + (nI 3)).toNatClampNeg) = 0 →
                  inb (x4 + (nI 4)) xs.1 ∧ 
                    C 89 [vR 0 0, vI (xs.2 (x4 + (nI 1)).toNatClampNeg), vI (xs.2 (x4 + (nI 2)).toNatClampNeg), vI (nI 1), vI (xs.2 (x4 + (nI 4)).toNatClampNeg)] m (fun r82 m83 => ∃ w84 : Int64, r82 = some (vL w84) ∧
                      inb (x4 + (nI 1)) xs.1 ∧ 
                        inb (x4 + (nI 2)) xs.1 ∧ 
                          inb (x4 + (nI 3)) xs.1 ∧ 
                            (((xs.2 (x4 + (nI 3)).toNatClampNeg) = 0 →
                              inb (x4 + (nI 4)) xs.1 ∧ 
                                C 157 [vR 40 0, vI (xs.2 (x4 + (nI 1)).toNatClampNeg), vI (xs.2 (x4 + (nI 2)).toNatClampNeg), vI (nI 0), vI (xs.2 (x4 + (nI 4)).toNatClampNeg)] m83 (fun r85 m86 => ∃ w87 : Int64, r85 = some (vL w87) ∧
                                  (((lg_cmp w84 w87) = 0 →
                                    K 13 [some (vR 99 0), some (vR 0 0), some (vR 40 0), some (vR 90 0), some (vI (x4 + (nI 6))), o5, o6, o7] [] m86) ∧
                                  (¬ (lg_cmp w84 w87) = 0 →
                                    isB (nI 0) ∧ Q (some (vI (nI 0))) m86)))) ∧
                            (¬ (xs.2 (x4 + (nI 3)).toNatClampNeg) = 0 →
                              inb (x4 + (nI 4)) xs.1 ∧ 
                                C 157 [vR 40 0, vI (xs.2 (x4 + (nI 1)).toNatClampNeg), vI (xs.2 (x4 + (nI 2)).toNatClampNeg), vI (nI 1), vI (xs.2 (x4 + (nI 4)).toNatClampNeg)] m83 (fun r88 m89 => ∃ w90 : Int64, r88 = some (vL w90) ∧
                                  (((lg_cmp w84 w90) = 0 →
                                    K 13 [some (vR 99 0), some (vR 0 0), some (vR 40 0), some (vR 90 0), some (vI (x4 + (nI 6))), o5, o6, o7] [] m89) ∧
                                  (¬ (lg_cmp w84 w90) = 0 →
                                    isB (nI 0) ∧ Q (some (vI (nI 0))) m89))))))))) ∧
        (((xs.2 x4.toNatClampNeg) &&& (nI 31)).toInt = 0 + 1 + 1 + 1 + 1 + 1 + 1 + 1 + 1 + 1 + 1 + 1 →
          inb (x4 + (nI 1)) xs.1 ∧ 
            inb (x4 + (nI 2)) xs.1 ∧ 
              C 90 [vR 0 0, vI (xs.2 (x4 + (nI 1)).toNatClampNeg), vI (xs.2 (x4 + (nI 2)).toNatClampNeg)] m (fun r91 m92 => ∃ w93 : Int32, r91 = some (vI w93) ∧
                inb (x4 + (nI 1)) xs.1 ∧ 
                  inb (x4 + (nI 2)) xs.1 ∧ 
                    C 158 [vR 40 0, vI (xs.2 (x4 + (nI 1)).toNatClampNeg), vI (xs.2 (x4 + (nI 2)).toNatClampNeg)] m92 (fun r94 m95 => ∃ w96 : Int32, r94 = some (vI w96) ∧
                      ((w93 = w96 →
                        K 13 [some (vR 99 0), some (vR 0 0), some (vR 40 0), some (vR 90 0), some (vI (x4 + (nI 6))), o5, o6, o7] [] m95) ∧
                      (¬ w93 = w96 →
                        isB (nI 0) ∧ Q (some (vI (nI 0))) m95))))) ∧
        (((xs.2 x4.toNatClampNeg) &&& (nI 31)).toInt = 0 + 1 + 1 + 1 + 1 + 1 + 1 + 1 + 1 + 1 + 1 + 1 + 1 →
          inb (x4 + (nI 1)) xs.1 ∧ 
            C 91 [vR 0 0, vI (xs.2 (x4 + (nI 1)).toNatClampNeg)] m (fun r97 m98 => ∃ w99 : Int32, r97 = some (vI w99) ∧
              inb (x4 + (nI 1)) xs.1 ∧ 
                C 159 [vR 40 0, vI (xs.2 (x4 + (nI 1)).toNatClampNeg)] m98 (fun r100 m101 => ∃ w102 : Int32, r100 = some (vI w102) ∧
                  ((w99 = w102 →
                    K 13 [some (vR 99 0), some (vR 0 0), some (vR 40 0), some (vR 90 0), some (vI (x4 + (nI 6))), o5, o6, o7] [] m101) ∧
                  (¬ w99 = w102 →
                    isB (nI 0) ∧ Q (some (vI (nI 0))) m101))))) ∧
        (((xs.2 x4.toNatClampNeg) &&& (nI 31)).toInt = 0 + 1 + 1 + 1 + 1 + 1 + 1 + 1 + 1 + 1 + 1 + 1 + 1 + 1 →
          inb (x4 + (nI 1)) xs.1 ∧ 
            C 92 [vR 0 0, vI (xs.2 (x4 + (nI 1)).toNatClampNeg)] m (fun r103 m104 => ∃ w105 : Int32, r103 = some (vI w105) ∧
              inb (x4 + (nI 1)) xs.1 ∧ 
                C 161 [vR 40 0, vI (xs.2 (x4 + (nI 1)).toNatClampNeg)] m104 (fun r106 m107 => ∃ w108 : Int32, r106 = some (vI w108) ∧
                  ((w105 = w108 →
                    K 13 [some (vR 99 0), some (vR 0 0), some (vR 40 0), some (vR 90 0), some (vI (x4 + (nI 6))), o5, o6, o7] [] m107) ∧
                  (¬ w105 = w108 →
                    isB (nI 0) ∧ Q (some (vI (nI 0))) m107))))) ∧
        (((xs.2 x4.toNatClampNeg) &&& (nI 31)).toInt = 0 + 1 + 1 + 1 + 1 + 1 + 1 + 1 + 1 + 1 + 1 + 1 + 1 + 1 + 1 →
          inb (x4 + (nI 1)) xs.1 ∧ 
            inb (x4 + (nI 2)) xs.1 ∧ 
              C 93 [vR 0 0, vI (xs.2 (x4 + (nI 1)).toNatClampNeg), vI (xs.2 (x4 + (nI 2)).toNatClampNeg)] m (fun r109 m110 => ∃ w111 : Int64, r109 = some (vL w111) ∧
                inb (x4 + (nI 1)) xs.1 ∧ 
                  inb (x4 + (nI 2)) xs.1 ∧ 
                    C 164 [vR 40 0, vI (xs.2 (x4 + (nI 1)).toNatClampNeg), vI (xs.2 (x4 + (nI 2)).toNatClampNeg)] m110 (fun r112 m113 => ∃ w114 : Int64, r112 = some (vL w114) ∧
                      (((lg_cmp w111 w114) = 0 →
                        K 13 [some (vR 99 0), some (vR 0 0), some (vR 40 0), some (vR 90 0), some (vI (x4 + (nI 6))), o5, o6, o7] [] m113) ∧
                      (¬ (lg_cmp w111 w114) = 0 →
                        isB (nI 0) ∧ Q (some (vI (nI 0))) m113))))) ∧
        (((xs.2 x4.toNatClampNeg) &&& (nI 31)).toInt = 0 + 1 + 1 + 1 + 1 + 1 + 1 + 1 + 1 + 1 + 1 + 1 + 1 + 1 + 1 + 1 →
          inb (x4 + (nI 1)) xs.1 ∧ 
            inb (x4 + (nI 2)) xs.1 ∧ 
              C 94 [vR 0 0, vI (xs.2 (x4 + (nI 1)).toNatClampNeg), vI (xs.2 (x4 + (nI 2)).toNatClampNeg)] m (fun r115 m116 => ∃ w117 : Int32, r115 = some (vI w117) ∧
                inb (x4 + (nI 1)) xs.1 ∧ 
                  inb (x4 + (nI 2)) xs.1 ∧ 
                    C 169 [vR 40 0, vI (xs.2 (x4 + (nI 1)).toNatClampNeg), vI (xs.2 (x4 + (nI 2)).toNatClampNeg)] m116 (fun r118 m119 => ∃ w120 : Int32, r118 = some (vI w120) ∧
                      ((w117 = w120 →
                        K 13 [some (vR 99 0), some (vR 0 0), some (vR 40 0), some (vR 90 0), some (vI (x4 + (nI 6))), o5, o6, o7] [] m119) ∧
                      (¬ w117 = w120 →
                        isB (nI 0) ∧ Q (some (vI (nI 0))) m119))))) ∧
        (((xs.2 x4.toNatClampNeg) &&& (nI 31)).toInt = 0 + 1 + 1 + 1 + 1 + 1 + 1 + 1 + 1 + 1 + 1 + 1 + 1 + 1 + 1 + 1 + 1 →
          inb (x4 + (nI 1)) xs.1 ∧ 
            C 95 [vR 0 0, vI (xs.2 (x4 + (nI 1)).toNatClampNeg)] m (fun r121 m122 => ∃ w123 : Int32, r121 = some (vI w123) ∧
              inb (x4 + (nI 1)) xs.1 ∧ 
                C 174 [vR 40 0, vI (xs.2 (x4 + (nI 1)).toNatClampNeg)] m122 (fun r124 m125 => ∃ w126 : Int32, r124 = some (vI w126) ∧
                  ((w123 = w126 →
                    K 13 [some (vR 99 0), some (vR 0 0), some (vR 40 0), some (vR 90 0), some (vI (x4 + (nI 6))), o5, o6, o7] [] m125) ∧
                  (¬ w123 = w126 →
                    isB (nI 0) ∧ Q (some (vI (nI 0))) m125))))) ∧
        (((xs.2 x4.toNatClampNeg) &&& (nI 31)).toInt = 0 + 1 + 1 + 1 + 1 + 1 + 1 + 1 + 1 + 1 + 1 + 1 + 1 + 1 + 1 + 1 + 1 + 1 →
          inb (x4 + (nI 1)) xs.1 ∧ 
            C 96 [vR 0 0, vI (xs.2 (x4 + (nI 1)).toNatClampNeg)] m (fun r127 m128 => ∃ w129 : Int32, r127 = some (vI w129) ∧
              inb (x4 + (nI 1)) xs.1 ∧ 
                C 175 [vR 40 0, vI (xs.2 (x4 + (nI 1)).toNatClampNeg)] m128 (fun r130 m131 => ∃ w132 : Int32, r130 = some (vI w132) ∧
                  ((w129 = w132 →
                    K 13 [some (vR 99 0), some (vR 0 0), some (vR 40 0), some (vR 90 0), some (vI (x4 + (nI 6))), o5, o6, o7] [] m131) ∧
                  (¬ w129 = w132 →
                    isB (nI 0) ∧ Q (some (vI (nI 0))) m131))))) ∧
        (((xs.2 x4.toNatClampNeg) &&& (nI 31)).toInt = 0 + 1 + 1 + 1 + 1 + 1 + 1 + 1 + 1 + 1 + 1 + 1 + 1 + 1 + 1 + 1 + 1 + 1 + 1 →
          inb (x4 + (nI 1)) xs.1 ∧ 
            inb (x4 + (nI 2)) xs.1 ∧ 
              inb (x4 + (nI 3)) xs.1 ∧ 
                C 97 [vR 0 0, vI (xs.2 (x4 + (nI 1)).toNatClampNeg), vI (xs.2 (x4 + (nI 2)).toNatClampNeg), vI (xs.2 (x4 + (nI 3)).toNatClampNeg)] m (fun r133 m134 => ∃ w135 : Int32, r133 = some (vI w135) ∧
                  inb (x4 + (nI 1)) xs.1 ∧ 
                    inb (x4 + (nI 2)) xs.1 ∧ 
                      inb (x4 + (nI 3)) xs.1 ∧ 
                        C 176 [vR 40 0, vI (xs.2 (x4 + (nI 1)).toNatClampNeg), vI (xs.2 (x4 + (nI 2)).toNatClampNeg), vI (xs.2 (x4 + (nI 3)).toNatClampNeg)] m134 (fun r136 m137 => ∃ w138 : Int32, r136 = some (vI w138) ∧
                          ((w135 = w138 →
                            K 13 [some (vR 99 0), some (vR 0 0), some (vR 40 0), some (vR 90 0), some (vI (x4 + (nI 6))), o5, o6, o7] [] m137) ∧
                          (¬ w135 = w138 →
                            isB (nI 0) ∧ Q (some (vI (nI 0))) m137))))) ∧
        (((xs.2 x4.toNatClampNeg) &&& (nI 31)).toInt = 0 + 1 + 1 + 1 + 1 + 1 + 1 + 1 + 1 + 1 + 1 + 1 + 1 + 1 + 1 + 1 + 1 + 1 + 1 + 1 →
          inb (x4 + (nI 1)) xs.1 ∧ 
            inb (x4 + (nI 2)) xs.1 ∧ 
              inb (x4 + (nI 3)) xs.1 ∧ 
                inb (x4 + (nI 4)) xs.1 ∧ 
                  C 98 [vR 0 0, vI (xs.2 (x4 + (nI 1)).toNatClampNeg), vI (xs.2 (x4 + (nI 2)).toNatClampNeg), vI (xs.2 (x4 + (nI 3)).toNatClampNeg), vI (xs.2 (x4 + (nI 4)).toNatClampNeg)] m (fun r139 m140 => ∃ w141 : Int32, r139 = some (vI w141) ∧
                    inb (x4 + (nI 1)) xs.1 ∧ 
                      inb (x4 + (nI 2)) xs.1 ∧ 
                        inb (x4 + (nI 3)) xs.1 ∧ 
                          inb (x4 + (nI 4)) xs.1 ∧ 
                            C 179 [vR 40 0, vI (xs.2 (x4 + (nI 1)).toNatClampNeg), vI (xs.2 (x4 + (nI 2)).toNatClampNeg), vI (xs.2 (x4 + (nI 3)).toNatClampNeg), vI (xs.2 (x4 + (nI 4)).toNatClampNeg)] m140 (fun r142 m143 => ∃ w144 : Int32, r142 = some (vI w144) ∧
                              ((w141 = w144 →
                                K 13 [some (vR 99 0), some (vR 0 0), some (vR 40 0), some (vR 90 0), some (vI (x4 + (nI 6))), o5, o6, o7] [] m143) ∧
                              (¬ w141 = w144 →
                                isB (nI 0) ∧ Q (some (vI (nI 0))) m143))))) ∧
        (((xs.2 x4.toNatClampNeg) &&& (nI 31)).toInt = 0 + 1 + 1 + 1 + 1 + 1 + 1 + 1 + 1 + 1 + 1 + 1 + 1 + 1 + 1 + 1 + 1 + 1 + 1 + 1 + 1 →
          inb (x4 + (nI 1)) xs.1 ∧ 
            inb (x4 + (nI 2)) xs.1 ∧ 
              inb (x4 + (nI 3)) xs.1 ∧ 
                C 99 [vR 0 0, vI (xs.2 (x4 + (nI 1)).toNatClampNeg), vI (xs.2 (x4 + (nI 2)).toNatClampNeg), vI (xs.2 (x4 + (nI 3)).toNatClampNeg)] m (fun r145 m146 => ∃ w147 : Int32, r145 = some (vI w147) ∧
                  inb (x4 + (nI 1)) xs.1 ∧ 
                    inb (x4 + (nI 2)) xs.1 ∧ 
                      inb (x4 + (nI 3)) xs.1 ∧ 
                        C 180 [vR 40 0, vI (xs.2 (x4 + (nI 1)).toNatClampNeg), vI (xs.2 (x4 + (nI 2)).toNatClampNeg), vI (xs.2 (x4 + (nI 3)).toNatClampNeg)] m146 (fun r148 m149 => ∃ w150 : Int32, r148 = some (vI w150) ∧
                          ((w147 = w150 →
                            K 13 [some (vR 99 0), some (vR 0 0), some (vR 40 0), some (vR 90 0), some (vI (x4 + (nI 6))), o5, o6, o7] [] m149) ∧
                          (¬ w147 = w150 →
                            isB (nI 0) ∧ Q (some (vI (nI 0))) m149))))) ∧
        (((xs.2 x4.toNatClampNeg) &&& (nI 31)).toInt = 0 + 1 + 1 + 1 + 1 + 1 + 1 + 1 + 1 + 1 + 1 + 1 + 1 + 1 + 1 + 1 + 1 + 1 + 1 + 1 + 1 + 1 →
          inb (x4 + (nI 1)) xs.1 ∧ 
            inb (x4 + (nI 2)) xs.1 ∧ 
              C 189 [vR 0 0, vI (xs.2 (x4 + (nI 1)).toNatClampNeg), vI (xs.2 (x4 + (nI 2)).toNatClampNeg), vR 90 0] m (fun r151 m152 => ∃ w153 : Int32, r151 = some (vI w153) ∧
                inb (x4 + (nI 1)) xs.1 ∧ 
                  inb (x4 + (nI 2)) xs.1 ∧ 
                    C 181 [vR 40 0, vI (xs.2 (x4 + (nI 1)).toNatClampNeg), vI (xs.2 (x4 + (nI 2)).toNatClampNeg)] m152 (fun r154 m155 => ∃ w156 : Int64, r154 = some (vL w156) ∧
                      C 112 [vR 40 0] m155 (fun r157 m158 => ∃ w159 : Int32, r157 = some (vI w159) ∧
                        ((w159 = w153 →
                          ((¬ w153 = 0 →
                            K 13 [some (vR 99 0), some (vR 0 0), some (vR 40 0), some (vR 90 0), some (vI (x4 + (nI 6))), some (vI w153), some (vL w156), none] [] m158) ∧
                          (w153 = 0 →
                            inb (nI 0) 1 ∧ 
                              (((lg_cmp (m158.2 90 0 (nI 0).toNatClampNeg) w156) = 0 →
                                K 13 [some (vR 99 0), some (vR 0 0), some (vR 40 0), some (vR 90 0), some (vI (x4 + (nI 6))), some (vI w153), some (vL w156), none] [] m158) ∧
                              (¬ (lg_cmp (m158.2 90 0 (nI 0).toNatClampNeg) w156) = 0 →
                                isB (nI 0) ∧ Q (some (vI (nI 0))) m158))))) ∧
                        (¬ w159 = w153 →
                          isB (nI 0) ∧ Q (some (vI (nI 0))) m158)))))) ∧
        (((xs.2 x4.toNatClampNeg) &&& (nI 31)).toInt = 0 + 1 + 1 + 1 + 1 + 1 + 1 + 1 + 1 + 1 + 1 + 1 + 1 + 1 + 1 + 1 + 1 + 1 + 1 + 1 + 1 + 1 + 1 →
          inb (x4 + (nI 1)) xs.1 ∧ 
            inb (x4 + (nI 2)) xs.1 ∧ 
              inb (x4 + (nI 3)) xs.1 ∧ 
                inb (x4 + (nI 4)) xs.1 ∧ 
                  inb (x4 + (nI 5)) xs.1 ∧ 
                    C 101 [vR 0 0, vI (xs.2 (x4 + (nI 1)).toNatClampNeg), vI (xs.2 (x4 + (nI 2)).toNatClampNeg), vI (xs.2 (x4 + (nI 3)).toNatClampNeg), vI (xs.2 (x4 + (nI 4)).toNatClampNeg), vI (xs.2 (x4 + (nI 5)).toNatClampNeg)] m (fun r160 m161 => ∃ w162 : Int32, r160 = some (vI w162) ∧
                      inb (x4 + (nI 1)) xs.1 ∧ 
                        inb (x4 + (nI 2)) xs.1 ∧ 
                          inb (x4 + (nI 3)) xs.1 ∧ 
                            inb (x4 + (nI 4)) xs.1 ∧ 
                              inb (x4 + (nI 5)) xs.1 ∧ 
                                C 183 [vR 40 0, vI (xs.2 (x4 + (nI 1)).toNatClampNeg), vI (xs.2 (x4 + (nI 2)).toNatClampNeg), vI (xs.2 (x4 + (nI 3)).toNatClampNeg), vI (xs.2 (x4 + (nI 4)).toNatClampNeg), vI (xs.2 (x4 + (nI 5)).toNatClampNeg)] m161 (fun r163 m164 => ∃ w165 : Int32, r163 = some (vI w165) ∧
                                  ((w162 = w165 →
                                    K 13 [some (vR 99 0), some (vR 0 0), some (vR 40 0), some (vR 90 0), some (vI (x4 + (nI 6))), o5, o6, o7] [] m164) ∧
                                  (¬ w162 = w165 →
                                    isB (nI 0) ∧ Q (some (vI (nI 0))) m164))))) ∧
        (((xs.2 x4.toNatClampNeg) &&& (nI 31)).toInt = 0 + 1 + 1 + 1 + 1 + 1 + 1 + 1 + 1 + 1 + 1 + 1 + 1 + 1 + 1 + 1 + 1 + 1 + 1 + 1 + 1 + 1 + 1 + 1 →
          inb (x4 + (nI 1)) xs.1 ∧ 
            C 102 [vR 0 0, vI (xs.2 (x4 + (nI 1)).toNatClampNeg)] m (fun r166 m167 => ∃ w168 : Int64, r166 = some (vL w168) ∧
              inb (x4 + (nI 1)) xs.1 ∧ 
                C 184 [vR 40 0, vI (xs.2 (x4 + (nI 1)).toNatClampNeg)] m167 (fun r169 m170 => ∃ w171 : Int64, r169 = some (vL w171) ∧
                  (((lg_cmp w168 w171) = 0 →
                    K 13 [some (vR 99 0), some (vR 0 0), some (vR 40 0), some (vR 90 0), some (vI (x4 + (nI 6))), o5, o6, o7] [] m170) ∧
                  (¬ (lg_cmp w168 w171) = 0 →
                    isB (nI 0) ∧ Q (some (vI (nI 0))) m170))))) ∧
        (((xs.2 x4.toNatClampNeg) &&& (nI 31)).toInt = 0 + 1 + 1 + 1 + 1 + 1 + 1 + 1 + 1 + 1 + 1 + 1 + 1 + 1 + 1 + 1 + 1 + 1 + 1 + 1 + 1 + 1 + 1 + 1 + 1 →
          inb (x4 + (nI 1)) xs.1 ∧ 
            inb (x4 + (nI 2)) xs.1 ∧ 
              C 103 [vR 0 0, vI (xs.2 (x4 + (nI 1)).toNatClampNeg), vI (xs.2 (x4 + (nI 2)).toNatClampNeg)] m (fun r172 m173 => ∃ w174 : Int64, r172 = some (vL w174) ∧
                inb (x4 + (nI 1)) xs.1 ∧ 
                  inb (x4 + (nI 2)) xs.1 ∧ 
                    C 185 [vR 40 0, vI (xs.2 (x4 + (nI 1)).toNatClampNeg), vI (xs.2 (x4 + (nI 2)).toNatClampNeg)] m173 (fun r175 m176 => ∃ w177 : Int64, r175 = some (vL w177) ∧
                      (((lg_cmp w174 w177) = 0 →
                        K 13 [some (vR 99 0), some (vR 0 0), some (vR 40 0), some (vR 90 0), some (vI (x4 + (nI 6))), o5, o6, o7] [] m176) ∧
                      (¬ (lg_cmp w174 w177) = 0 →
                        isB (nI 0) ∧ Q (some (vI (nI 0))) m176))))) ∧
        True)))) :
    wp2i xs C tL_law [13] (some .boolean) Q K 100 13 [some (vR 99 0), some (vR 0 0), some (vR 40 0), some (vR 90 0), some (vI x4), o5, o6, o7] [] m := h
