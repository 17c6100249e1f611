/-! CONDITIONS (by program: wip/whole/gen_vc.py) -/
theorem bX0_begin_0 {xs : Nat × (Nat → Int32)} {C : Nat → List v2 → Mem → (Option v2 → Mem → Prop) → Prop} {Q : Option v2 → Mem → Prop} {K : Nat → L2 → List v2 → Mem → Prop} (m : Mem) (p0 : Nat) (p1 : Int32) (p2 : Int32)
    (h : Q none (mI (mI (mI (mI (mI m 4 p0 0 p1) 4 p0 1 p2) 4 p0 2 (nI 0)) 4 p0 3 (nI 0)) 4 p0 4 (nI 0))) :
    wp2i xs C tX0_begin [] none Q K 2000 0 [some (vR 4 p0), some (vI p1), some (vI p2)] [] m := h
theorem bX0_addOutcome_0 {xs : Nat × (Nat → Int32)} {C : Nat → List v2 → Mem → (Option v2 → Mem → Prop) → Prop} {Q : Option v2 → Mem → Prop} {K : Nat → L2 → List v2 → Mem → Prop} (m : Mem) (p0 : Nat) (p1 : Int32) (p2 : Int32)
    (h : inb (m.1 4 p0 2) 4 ∧ 
      inb ((mI m 5 p0 (m.1 4 p0 2).toNatClampNeg p1).1 4 p0 2) 4 ∧ 
        Q none (mI (mI (mI (mI (mI m 5 p0 (m.1 4 p0 2).toNatClampNeg p1) 6 p0 ((mI m 5 p0 (m.1 4 p0 2).toNatClampNeg p1).1 4 p0 2).toNatClampNeg p2) 4 p0 2 (((mI (mI m 5 p0 (m.1 4 p0 2).toNatClampNeg p1) 6 p0 ((mI m 5 p0 (m.1 4 p0 2).toNatClampNeg p1).1 4 p0 2).toNatClampNeg p2).1 4 p0 2) + (nI 1))) 4 p0 3 (((mI (mI (mI m 5 p0 (m.1 4 p0 2).toNatClampNeg p1) 6 p0 ((mI m 5 p0 (m.1 4 p0 2).toNatClampNeg p1).1 4 p0 2).toNatClampNeg p2) 4 p0 2 (((mI (mI m 5 p0 (m.1 4 p0 2).toNatClampNeg p1) 6 p0 ((mI m 5 p0 (m.1 4 p0 2).toNatClampNeg p1).1 4 p0 2).toNatClampNeg p2).1 4 p0 2) + (nI 1))).1 4 p0 3) + p2)) 4 p0 4 (((mI (mI (mI (mI m 5 p0 (m.1 4 p0 2).toNatClampNeg p1) 6 p0 ((mI m 5 p0 (m.1 4 p0 2).toNatClampNeg p1).1 4 p0 2).toNatClampNeg p2) 4 p0 2 (((mI (mI m 5 p0 (m.1 4 p0 2).toNatClampNeg p1) 6 p0 ((mI m 5 p0 (m.1 4 p0 2).toNatClampNeg p1).1 4 p0 2).toNatClampNeg p2).1 4 p0 2) + (nI 1))) 4 p0 3 (((mI (mI (mI m 5 p0 (m.1 4 p0 2).toNatClampNeg p1) 6 p0 ((mI m 5 p0 (m.1 4 p0 2).toNatClampNeg p1).1 4 p0 2).toNatClampNeg p2) 4 p0 2 (((mI (mI m 5 p0 (m.1 4 p0 2).toNatClampNeg p1) 6 p0 ((mI m 5 p0 (m.1 4 p0 2).toNatClampNeg p1).1 4 p0 2).toNatClampNeg p2).1 4 p0 2) + (nI 1))).1 4 p0 3) + p2)).1 4 p0 4) ||| ((nI 1) <<< (p1 &&& 31))))) :
    wp2i xs C tX0_addOutcome [] none Q K 2000 0 [some (vR 4 p0), some (vI p1), some (vI p2)] [] m := h
theorem bX0_become_0 {xs : Nat × (Nat → Int32)} {C : Nat → List v2 → Mem → (Option v2 → Mem → Prop) → Prop} {Q : Option v2 → Mem → Prop} {K : Nat → L2 → List v2 → Mem → Prop} (m : Mem) (p0 : Nat) (p1 : Nat)
    (h : C 1 [vR 4 p0, vI (m.1 4 p1 0), vI (m.1 4 p1 1)] m (fun r1 m2 => r1 = none ∧
      K 8 [some (vR 4 p0), some (vR 4 p1), some (vI (nI 0))] [] m2)) :
    wp2i xs C tX0_become [8] none Q K 2000 0 [some (vR 4 p0), some (vR 4 p1), none] [] m := h
theorem bX0_become_8 {xs : Nat × (Nat → Int32)} {C : Nat → List v2 → Mem → (Option v2 → Mem → Prop) → Prop} {Q : Option v2 → Mem → Prop} {K : Nat → L2 → List v2 → Mem → Prop} (m : Mem) (x0 : Nat) (x1 : Nat) (x2 : Int32)
    (h : (((m.1 4 x1 2) ≤ x2 →
      Q none m) ∧
    (¬ (m.1 4 x1 2) ≤ x2 →
      inb x2 4 ∧ 
        inb x2 4 ∧ 
          C 2 [vR 4 x0, vI (m.1 5 x1 x2.toNatClampNeg), vI (m.1 6 x1 x2.toNatClampNeg)] m (fun r1 m2 => r1 = none ∧
            K 8 [some (vR 4 x0), some (vR 4 x1), some (vI (x2 + (nI 1)))] [] m2)))) :
    wp2i xs C tX0_become [8] none Q K 2000 8 [some (vR 4 x0), some (vR 4 x1), some (vI x2)] [] m := h
theorem bX0_room_0 {xs : Nat × (Nat → Int32)} {C : Nat → List v2 → Mem → (Option v2 → Mem → Prop) → Prop} {Q : Option v2 → Mem → Prop} {K : Nat → L2 → List v2 → Mem → Prop} (m : Mem) (p0 : Nat)
    (h : C 5 [vR 4 p0] m (fun r1 m2 => ∃ w3 : Int32, r1 = some (vI w3) ∧
      ((w3 = 0 →
        Q (some (vI (nI 4))) m2) ∧
      (¬ w3 = 0 →
        Q (some (vI (nI 1))) m2)))) :
    wp2i xs C tX0_room [] (some .int) Q K 2000 0 [some (vR 4 p0)] [] m := h
theorem bX0_isSingle_0 {xs : Nat × (Nat → Int32)} {C : Nat → List v2 → Mem → (Option v2 → Mem → Prop) → Prop} {Q : Option v2 → Mem → Prop} {K : Nat → L2 → List v2 → Mem → Prop} (m : Mem) (p0 : Nat)
    (h : (((m.1 4 p0 0) = (nI 1) →
      isB (nI 1) ∧ Q (some (vI (nI 1))) m) ∧
    (¬ (m.1 4 p0 0) = (nI 1) →
      ((¬ (m.1 4 p0 0) = (nI 3) →
        isB (nI 0) ∧ Q (some (vI (nI 0))) m) ∧
      ((m.1 4 p0 0) = (nI 3) →
        isB (nI 1) ∧ Q (some (vI (nI 1))) m))))) :
    wp2i xs C tX0_isSingle [] (some .boolean) Q K 2000 0 [some (vR 4 p0)] [] m := h
theorem bX0_staysIn_0 {xs : Nat × (Nat → Int32)} {C : Nat → List v2 → Mem → (Option v2 → Mem → Prop) → Prop} {Q : Option v2 → Mem → Prop} {K : Nat → L2 → List v2 → Mem → Prop} (m : Mem) (p0 : Nat) (p1 : Int32)
    (h : ((¬ ((m.1 4 p0 4) &&& (p1 ^^^ (-1 : Int32))) = 0 →
      isB (nI 0) ∧ Q (some (vI (nI 0))) m) ∧
    (((m.1 4 p0 4) &&& (p1 ^^^ (-1 : Int32))) = 0 →
      isB (nI 1) ∧ Q (some (vI (nI 1))) m))) :
    wp2i xs C tX0_staysIn [] (some .boolean) Q K 2000 0 [some (vR 4 p0), some (vI p1)] [] m := h
theorem bX0_mean_0 {xs : Nat × (Nat → Int32)} {C : Nat → List v2 → Mem → (Option v2 → Mem → Prop) → Prop} {Q : Option v2 → Mem → Prop} {K : Nat → L2 → List v2 → Mem → Prop} (m : Mem) (p0 : Nat) (p1 : Nat)
    (h : K 4 [some (vR 4 p0), some (vR 15 p1), some (vL (lN 0)), none, some (vI (nI 0))] [] m) :
    wp2i xs C tX0_mean [4] (some .long) Q K 2000 0 [some (vR 4 p0), some (vR 15 p1), none, none, none] [] m := h
theorem bX0_mean_4 {xs : Nat × (Nat → Int32)} {C : Nat → List v2 → Mem → (Option v2 → Mem → Prop) → Prop} {Q : Option v2 → Mem → Prop} {K : Nat → L2 → List v2 → Mem → Prop} (m : Mem) (x0 : Nat) (x1 : Nat) (x2 : Int64) (x4 : Int32)
    (h : (((m.1 4 x0 2) ≤ x4 →
      Q (some (vL x2)) m) ∧
    (¬ (m.1 4 x0 2) ≤ x4 →
      inb x4 4 ∧ 
        inb x4 4 ∧ 
          inb (m.1 5 x0 x4.toNatClampNeg) 10 ∧ 
            K 4 [some (vR 4 x0), some (vR 15 x1), some (vL (x2 + ((m.1 6 x0 x4.toNatClampNeg).toInt64 * (m.2 15 x1 (m.1 5 x0 x4.toNatClampNeg).toNatClampNeg)))), none, some (vI (x4 + (nI 1)))] [] m))) :
    wp2i xs C tX0_mean [4] (some .long) Q K 2000 4 [some (vR 4 x0), some (vR 15 x1), some (vL x2), none, some (vI x4)] [] m := h
theorem bX0_heaviness_0 {xs : Nat × (Nat → Int32)} {C : Nat → List v2 → Mem → (Option v2 → Mem → Prop) → Prop} {Q : Option v2 → Mem → Prop} {K : Nat → L2 → List v2 → Mem → Prop} (m : Mem) (p0 : Nat)
    (h : ((¬ (m.1 4 p0 0) = (nI 2) →
      C 5 [vR 4 p0] m (fun r1 m2 => ∃ w3 : Int32, r1 = some (vI w3) ∧
        ((¬ w3 = 0 →
          ((¬ (m2.1 4 p0 0) = (nI 3) →
            Q (some (vL (((m.1 4 p0 1) + ((nI 5) * (m.1 4 p0 2))) + (nI 50)).toInt64)) m2) ∧
          ((m2.1 4 p0 0) = (nI 3) →
            Q (some (vL ((nI 2) * (((m.1 4 p0 1) + ((nI 5) * (m.1 4 p0 2))) + (nI 50))).toInt64)) m2))) ∧
        (w3 = 0 →
          Q (some (vL ((m.1 4 p0 1) + ((nI 5) * (m.1 4 p0 2))).toInt64)) m2)))) ∧
    ((m.1 4 p0 0) = (nI 2) →
      Q (some (vL (((m.1 4 p0 1) + ((nI 5) * (m.1 4 p0 2))) + (nI 7)).toInt64)) m))) :
    wp2i xs C tX0_heaviness [] (some .long) Q K 2000 0 [some (vR 4 p0), none] [] m := h
theorem bX1_open_0 {xs : Nat × (Nat → Int32)} {C : Nat → List v2 → Mem → (Option v2 → Mem → Prop) → Prop} {Q : Option v2 → Mem → Prop} {K : Nat → L2 → List v2 → Mem → Prop} (m : Mem) (p0 : Nat) (p1 : Int32)
    (h : C 186 [vI p1] m (fun r1 m2 => ∃ w3 : Int32, r1 = some (vI w3) ∧
      ((w3 ≤ (nI 5) →
        K 11 [some (vR 10 p0), some (vI p1), some (vI (nI 0))] [] (mI m2 10 p0 3 (nI 0))) ∧
      (¬ w3 ≤ (nI 5) →
        isB (nI 0) ∧ Q (some (vI (nI 0))) m2)))) :
    wp2i xs C tX1_open [11] (some .boolean) Q K 2000 0 [some (vR 10 p0), some (vI p1), none] [] m := h
theorem bX1_open_11 {xs : Nat × (Nat → Int32)} {C : Nat → List v2 → Mem → (Option v2 → Mem → Prop) → Prop} {Q : Option v2 → Mem → Prop} {K : Nat → L2 → List v2 → Mem → Prop} (m : Mem) (x0 : Nat) (x1 : Int32) (x2 : Int32)
    (h : (((nI 10) ≤ x2 →
      isB (nI 1) ∧ Q (some (vI (nI 1))) m) ∧
    (¬ (nI 10) ≤ x2 →
      inb x2 10 ∧ 
        C 108 [vI x1, vI x2] (mI m 13 x0 x2.toNatClampNeg (-1 : Int32)) (fun r1 m2 => ∃ w3 : Int32, r1 = some (vI w3) ∧
          ((w3 = 0 →
            K 11 [some (vR 10 x0), some (vI x1), some (vI (x2 + (nI 1)))] [] m2) ∧
          (¬ w3 = 0 →
            inb x2 10 ∧ 
              inb ((mI m2 13 x0 x2.toNatClampNeg (m2.1 10 x0 3)).1 10 x0 3) 5 ∧ 
                K 11 [some (vR 10 x0), some (vI x1), some (vI (x2 + (nI 1)))] [] (mI (mI (mI m2 13 x0 x2.toNatClampNeg (m2.1 10 x0 3)) 14 x0 ((mI m2 13 x0 x2.toNatClampNeg (m2.1 10 x0 3)).1 10 x0 3).toNatClampNeg x2) 10 x0 3 (((mI (mI m2 13 x0 x2.toNatClampNeg (m2.1 10 x0 3)) 14 x0 ((mI m2 13 x0 x2.toNatClampNeg (m2.1 10 x0 3)).1 10 x0 3).toNatClampNeg x2).1 10 x0 3) + (nI 1))))))))) :
    wp2i xs C tX1_open [11] (some .boolean) Q K 2000 11 [some (vR 10 x0), some (vI x1), some (vI x2)] [] m := h
theorem bX1_write_0 {xs : Nat × (Nat → Int32)} {C : Nat → List v2 → Mem → (Option v2 → Mem → Prop) → Prop} {Q : Option v2 → Mem → Prop} {K : Nat → L2 → List v2 → Mem → Prop} (m : Mem) (p0 : Nat) (p1 : Int32) (p2 : Nat) (p3 : Int64)
    (h : inb p1 5 ∧ 
      C 187 [vR 12 (5 * p0 + p1.toNatClampNeg), vL (lN 0)] m (fun r1 m2 => r1 = none ∧
        inb p1 5 ∧ 
          inb p1 6 ∧ 
            K 15 [some (vR 10 p0), some (vI p1), some (vR 4 p2), some (vL p3), none, some (vI (nI 0)), none] [] (mL m2 12 (5 * p0 + p1.toNatClampNeg) p1.toNatClampNeg (lN 12)))) :
    wp2i xs C tX1_write [15] none Q K 2000 0 [some (vR 10 p0), some (vI p1), some (vR 4 p2), some (vL p3), none, none, none] [] m := h
theorem bX1_write_15 {xs : Nat × (Nat → Int32)} {C : Nat → List v2 → Mem → (Option v2 → Mem → Prop) → Prop} {Q : Option v2 → Mem → Prop} {K : Nat → L2 → List v2 → Mem → Prop} (m : Mem) (x0 : Nat) (x1 : Int32) (x2 : Nat) (x3 : Int64) (x5 : Int32) (o6 : Option v2)
    (h : (((m.1 4 x2 2) ≤ x5 →
      inb x1 5 ∧ 
        inb (m.1 10 x0 3) 6 ∧ 
          Q none (mL m 12 (5 * x0 + x1.toNatClampNeg) (m.1 10 x0 3).toNatClampNeg x3)) ∧
    (¬ (m.1 4 x2 2) ≤ x5 →
      inb x5 4 ∧ 
        inb (m.1 5 x2 x5.toNatClampNeg) 10 ∧ 
          (((m.1 13 x0 (m.1 5 x2 x5.toNatClampNeg).toNatClampNeg) < 0 →
            K 15 [some (vR 10 x0), some (vI x1), some (vR 4 x2), some (vL x3), none, some (vI (x5 + (nI 1))), some (vI (m.1 13 x0 (m.1 5 x2 x5.toNatClampNeg).toNatClampNeg))] [] m) ∧
          (¬ (m.1 13 x0 (m.1 5 x2 x5.toNatClampNeg).toNatClampNeg) < 0 →
            inb x1 5 ∧ 
              inb (m.1 13 x0 (m.1 5 x2 x5.toNatClampNeg).toNatClampNeg) 6 ∧ 
                inb x5 4 ∧ 
                  inb (m.1 13 x0 (m.1 5 x2 x5.toNatClampNeg).toNatClampNeg) 6 ∧ 
                    K 15 [some (vR 10 x0), some (vI x1), some (vR 4 x2), some (vL x3), none, some (vI (x5 + (nI 1))), some (vI (m.1 13 x0 (m.1 5 x2 x5.toNatClampNeg).toNatClampNeg))] [] (mL m 12 (5 * x0 + x1.toNatClampNeg) (m.1 13 x0 (m.1 5 x2 x5.toNatClampNeg).toNatClampNeg).toNatClampNeg ((m.2 12 (5 * x0 + x1.toNatClampNeg) (m.1 13 x0 (m.1 5 x2 x5.toNatClampNeg).toNatClampNeg).toNatClampNeg) - (m.1 6 x2 x5.toNatClampNeg).toInt64))))))) :
    wp2i xs C tX1_write [15] none Q K 2000 15 [some (vR 10 x0), some (vI x1), some (vR 4 x2), some (vL x3), none, some (vI x5), o6] [] m := h
theorem bX1_solve_0 {xs : Nat × (Nat → Int32)} {C : Nat → List v2 → Mem → (Option v2 → Mem → Prop) → Prop} {Q : Option v2 → Mem → Prop} {K : Nat → L2 → List v2 → Mem → Prop} (m : Mem) (p0 : Nat)
    (h : K 5 [some (vR 10 p0), some (vI (nI 0)), none, none, none] [] (mL m 10 p0 4 (lN 1))) :
    wp2i xs C tX1_solve [5, 18] none Q K 2000 0 [some (vR 10 p0), none, none, none, none] [] m := h
theorem bX1_solve_5 {xs : Nat × (Nat → Int32)} {C : Nat → List v2 → Mem → (Option v2 → Mem → Prop) → Prop} {Q : Option v2 → Mem → Prop} {K : Nat → L2 → List v2 → Mem → Prop} (m : Mem) (x0 : Nat) (x1 : Int32) (o2 : Option v2) (o4 : Option v2)
    (h : (((m.1 10 x0 3) ≤ x1 →
      Q none m) ∧
    (¬ (m.1 10 x0 3) ≤ x1 →
      inb x1 5 ∧ 
        inb x1 6 ∧ 
          K 18 [some (vR 10 x0), some (vI x1), some (vL (m.2 12 (5 * x0 + x1.toNatClampNeg) x1.toNatClampNeg)), none, some (vI (nI 0))] [] m))) :
    wp2i xs C tX1_solve [5, 18] none Q K 2000 5 [some (vR 10 x0), some (vI x1), o2, none, o4] [] m := h
theorem bX1_solve_18 {xs : Nat × (Nat → Int32)} {C : Nat → List v2 → Mem → (Option v2 → Mem → Prop) → Prop} {Q : Option v2 → Mem → Prop} {K : Nat → L2 → List v2 → Mem → Prop} (m : Mem) (x0 : Nat) (x1 : Int32) (x2 : Int64) (x4 : Int32)
    (h : (((m.1 10 x0 3) ≤ x4 →
      K 5 [some (vR 10 x0), some (vI (x1 + (nI 1))), some (vL x2), none, some (vI x4)] [] (mL m 10 x0 4 x2)) ∧
    (¬ (m.1 10 x0 3) ≤ x4 →
      ((x4 = x1 →
        K 18 [some (vR 10 x0), some (vI x1), some (vL x2), none, some (vI (x4 + (nI 1)))] [] m) ∧
      (¬ x4 = x1 →
        C 13 [vR 10 x0, vI x4, vI x1, vL x2] m (fun r1 m2 => r1 = none ∧
          K 18 [some (vR 10 x0), some (vI x1), some (vL x2), none, some (vI (x4 + (nI 1)))] [] m2)))))) :
    wp2i xs C tX1_solve [5, 18] none Q K 2000 18 [some (vR 10 x0), some (vI x1), some (vL x2), none, some (vI x4)] [] m := h
theorem bX1_clear_0 {xs : Nat × (Nat → Int32)} {C : Nat → List v2 → Mem → (Option v2 → Mem → Prop) → Prop} {Q : Option v2 → Mem → Prop} {K : Nat → L2 → List v2 → Mem → Prop} (m : Mem) (p0 : Nat) (p1 : Int32) (p2 : Int32) (p3 : Int64)
    (h : ((¬ (lg_cmp (m.2 10 p0 4) (lN 0)) = 0 →
      inb p1 5 ∧ 
        inb p2 6 ∧ 
          K 15 [some (vR 10 p0), some (vI p1), some (vI p2), some (vL p3), none, some (vL (m.2 12 (5 * p0 + p1.toNatClampNeg) p2.toNatClampNeg)), none, some (vI (nI 0))] [] m) ∧
    ((lg_cmp (m.2 10 p0 4) (lN 0)) = 0 →
      Q none m))) :
    wp2i xs C tX1_clear [15] none Q K 2000 0 [some (vR 10 p0), some (vI p1), some (vI p2), some (vL p3), none, none, none, none] [] m := h
theorem bX1_clear_15 {xs : Nat × (Nat → Int32)} {C : Nat → List v2 → Mem → (Option v2 → Mem → Prop) → Prop} {Q : Option v2 → Mem → Prop} {K : Nat → L2 → List v2 → Mem → Prop} (m : Mem) (x0 : Nat) (x1 : Int32) (x2 : Int32) (x3 : Int64) (x5 : Int64) (x7 : Int32)
    (h : (((m.1 10 x0 3) < x7 →
      Q none m) ∧
    (¬ (m.1 10 x0 3) < x7 →
      inb x1 5 ∧ 
        inb x1 5 ∧ 
          inb x7 6 ∧ 
            inb x2 5 ∧ 
              inb x7 6 ∧ 
                ¬ (m.2 10 x0 4) = 0 ∧ 
                  inb x7 6 ∧ 
                    K 15 [some (vR 10 x0), some (vI x1), some (vI x2), some (vL x3), none, some (vL x5), none, some (vI (x7 + (nI 1)))] [] (mL m 12 (5 * x0 + x1.toNatClampNeg) x7.toNatClampNeg (((x3 * (m.2 12 (5 * x0 + x1.toNatClampNeg) x7.toNatClampNeg)) - (x5 * (m.2 12 (5 * x0 + x2.toNatClampNeg) x7.toNatClampNeg))) / (m.2 10 x0 4)))))) :
    wp2i xs C tX1_clear [15] none Q K 2000 15 [some (vR 10 x0), some (vI x1), some (vI x2), some (vL x3), none, some (vL x5), none, some (vI x7)] [] m := h
theorem bX1_upperOf_0 {xs : Nat × (Nat → Int32)} {C : Nat → List v2 → Mem → (Option v2 → Mem → Prop) → Prop} {Q : Option v2 → Mem → Prop} {K : Nat → L2 → List v2 → Mem → Prop} (m : Mem) (p0 : Nat) (p1 : Int32)
    (h : inb p1 5 ∧ 
      inb (m.1 10 p0 3) 6 ∧ 
        Q (some (vL (m.2 12 (5 * p0 + p1.toNatClampNeg) (m.1 10 p0 3).toNatClampNeg))) m) :
    wp2i xs C tX1_upperOf [] (some .long) Q K 2000 0 [some (vR 10 p0), some (vI p1)] [] m := h
theorem bX6_isRow_0 {xs : Nat × (Nat → Int32)} {C : Nat → List v2 → Mem → (Option v2 → Mem → Prop) → Prop} {Q : Option v2 → Mem → Prop} {K : Nat → L2 → List v2 → Mem → Prop} (m : Mem) (p0 : Nat)
    (h : (((m.1 31 p0 0) = (nI 3) →
      isB (nI 1) ∧ Q (some (vI (nI 1))) m) ∧
    (¬ (m.1 31 p0 0) = (nI 3) →
      ((¬ (m.1 31 p0 0) = (nI 4) →
        isB (nI 0) ∧ Q (some (vI (nI 0))) m) ∧
      ((m.1 31 p0 0) = (nI 4) →
        isB (nI 1) ∧ Q (some (vI (nI 1))) m))))) :
    wp2i xs C tX6_isRow [] (some .boolean) Q K 2000 0 [some (vR 31 p0)] [] m := h
theorem bX6_hasPlaces_0 {xs : Nat × (Nat → Int32)} {C : Nat → List v2 → Mem → (Option v2 → Mem → Prop) → Prop} {Q : Option v2 → Mem → Prop} {K : Nat → L2 → List v2 → Mem → Prop} (m : Mem) (p0 : Nat) (p1 : Int32) (p2 : Int32)
    (h : ((p2 < 0 →
      isB (nI 0) ∧ Q (some (vI (nI 0))) m) ∧
    (¬ p2 < 0 →
      ((p1 < 0 →
        isB (nI 0) ∧ Q (some (vI (nI 0))) m) ∧
      (¬ p1 < 0 →
        ((((m.1 31 p0 2) - p2) < p1 →
          isB (nI 0) ∧ Q (some (vI (nI 0))) m) ∧
        (¬ ((m.1 31 p0 2) - p2) < p1 →
          isB (nI 1) ∧ Q (some (vI (nI 1))) m))))))) :
    wp2i xs C tX6_hasPlaces [] (some .boolean) Q K 2000 0 [some (vR 31 p0), some (vI p1), some (vI p2)] [] m := h
theorem bX6_holdAct_0 {xs : Nat × (Nat → Int32)} {C : Nat → List v2 → Mem → (Option v2 → Mem → Prop) → Prop} {Q : Option v2 → Mem → Prop} {K : Nat → L2 → List v2 → Mem → Prop} (m : Mem) (p0 : Nat) (p1 : Nat)
    (h : C 3 [vR 4 (40 + p0), vR 4 p1] (mI m 31 p0 0 (nI 1)) (fun r1 m2 => r1 = none ∧
      Q none m2)) :
    wp2i xs C tX6_holdAct [] none Q K 2000 0 [some (vR 31 p0), some (vR 4 p1)] [] m := h
theorem bX6_holdNumber_0 {xs : Nat × (Nat → Int32)} {C : Nat → List v2 → Mem → (Option v2 → Mem → Prop) → Prop} {Q : Option v2 → Mem → Prop} {K : Nat → L2 → List v2 → Mem → Prop} (m : Mem) (p0 : Nat) (p1 : Int64)
    (h : Q none (mL (mI m 31 p0 0 (nI 2)) 31 p0 1 p1)) :
    wp2i xs C tX6_holdNumber [] none Q K 2000 0 [some (vR 31 p0), some (vL p1), none] [] m := h
theorem bX6_holdParts_0 {xs : Nat × (Nat → Int32)} {C : Nat → List v2 → Mem → (Option v2 → Mem → Prop) → Prop} {Q : Option v2 → Mem → Prop} {K : Nat → L2 → List v2 → Mem → Prop} (m : Mem) (p0 : Nat) (p1 : Nat)
    (h : C 40 [vR 31 p0, vI (nI 3), vI (m.1 4 p1 2)] m (fun r1 m2 => r1 = none ∧
      K 7 [some (vR 31 p0), some (vR 4 p1), some (vI (nI 0))] [] m2)) :
    wp2i xs C tX6_holdParts [7] none Q K 2000 0 [some (vR 31 p0), some (vR 4 p1), none] [] m := h
theorem bX6_holdParts_7 {xs : Nat × (Nat → Int32)} {C : Nat → List v2 → Mem → (Option v2 → Mem → Prop) → Prop} {Q : Option v2 → Mem → Prop} {K : Nat → L2 → List v2 → Mem → Prop} (m : Mem) (x0 : Nat) (x1 : Nat) (x2 : Int32)
    (h : (((m.1 4 x1 2) ≤ x2 →
      Q none m) ∧
    (¬ (m.1 4 x1 2) ≤ x2 →
      inb x2 4 ∧ 
        inb x2 60 ∧ 
          K 7 [some (vR 31 x0), some (vR 4 x1), some (vI (x2 + (nI 1)))] [] (mL m 32 x0 x2.toNatClampNeg (m.1 6 x1 x2.toNatClampNeg).toInt64)))) :
    wp2i xs C tX6_holdParts [7] none Q K 2000 7 [some (vR 31 x0), some (vR 4 x1), some (vI x2)] [] m := h
theorem bX6_beginRow_0 {xs : Nat × (Nat → Int32)} {C : Nat → List v2 → Mem → (Option v2 → Mem → Prop) → Prop} {Q : Option v2 → Mem → Prop} {K : Nat → L2 → List v2 → Mem → Prop} (m : Mem) (p0 : Nat) (p1 : Int32) (p2 : Int32)
    (h : C 187 [vR 32 p0, vL (lN 0)] (mI (mI m 31 p0 0 p1) 31 p0 2 p2) (fun r1 m2 => r1 = none ∧
      Q none m2)) :
    wp2i xs C tX6_beginRow [] none Q K 2000 0 [some (vR 31 p0), some (vI p1), some (vI p2)] [] m := h
theorem bX9_grow_0 {xs : Nat × (Nat → Int32)} {C : Nat → List v2 → Mem → (Option v2 → Mem → Prop) → Prop} {Q : Option v2 → Mem → Prop} {K : Nat → L2 → List v2 → Mem → Prop} (m : Mem) (p0 : Nat) (p1 : Int32)
    (h : K 8 [some (vR 8 p0), some (vI p1), some (vI (m.1 1 0 1)), some (vI (nI 1)), some (vI (nI 0)), none, none] [] m) :
    wp2i xs C tX9_grow [8, 17] (some .int) Q K 2000 0 [some (vR 8 p0), some (vI p1), none, none, none, none, none] [] m := h
theorem bX9_grow_8 {xs : Nat × (Nat → Int32)} {C : Nat → List v2 → Mem → (Option v2 → Mem → Prop) → Prop} {Q : Option v2 → Mem → Prop} {K : Nat → L2 → List v2 → Mem → Prop} (m : Mem) (x0 : Nat) (x1 : Int32) (x2 : Int32) (x3 : Int32) (x4 : Int32) (o5 : Option v2) (o6 : Option v2)
    (h : (((nI 10) ≤ x4 →
      Q (some (vI x2)) m) ∧
    (¬ (nI 10) ≤ x4 →
      ((x3 = 0 →
        Q (some (vI x2)) m) ∧
      (¬ x3 = 0 →
        K 17 [some (vR 8 x0), some (vI x1), some (vI x2), some (vI x3), some (vI x4), some (vI x2), some (vI (nI 0))] [] m))))) :
    wp2i xs C tX9_grow [8, 17] (some .int) Q K 2000 8 [some (vR 8 x0), some (vI x1), some (vI x2), some (vI x3), some (vI x4), o5, o6] [] m := h
theorem bX9_grow_17 {xs : Nat × (Nat → Int32)} {C : Nat → List v2 → Mem → (Option v2 → Mem → Prop) → Prop} {Q : Option v2 → Mem → Prop} {K : Nat → L2 → List v2 → Mem → Prop} (m : Mem) (x0 : Nat) (x1 : Int32) (x2 : Int32) (x3 : Int32) (x4 : Int32) (x5 : Int32) (x6 : Int32)
    (h : (((m.1 1 0 0) ≤ x6 →
      ((x2 = x5 →
        K 8 [some (vR 8 x0), some (vI x1), some (vI x2), some (vI (nI 0)), some (vI (x4 + (nI 1))), some (vI x5), some (vI x6)] [] m) ∧
      (¬ x2 = x5 →
        K 8 [some (vR 8 x0), some (vI x1), some (vI x2), some (vI (nI 1)), some (vI (x4 + (nI 1))), some (vI x5), some (vI x6)] [] m))) ∧
    (¬ (m.1 1 0 0) ≤ x6 →
      C 108 [vI x2, vI x6] m (fun r1 m2 => ∃ w3 : Int32, r1 = some (vI w3) ∧
        ((¬ w3 = 0 →
          K 17 [some (vR 8 x0), some (vI x1), some (vI (x2 ||| (nI 0))), some (vI x3), some (vI x4), some (vI x5), some (vI (x6 + (nI 1)))] [] m2) ∧
        (w3 = 0 →
          C 58 [vR 8 x0, vI x6, vI x1, vI x2] m2 (fun r4 m5 => ∃ w6 : Int32, r4 = some (vI w6) ∧
            ((w6 = 0 →
              K 17 [some (vR 8 x0), some (vI x1), some (vI (x2 ||| (nI 0))), some (vI x3), some (vI x4), some (vI x5), some (vI (x6 + (nI 1)))] [] m5) ∧
            (¬ w6 = 0 →
              K 17 [some (vR 8 x0), some (vI x1), some (vI (x2 ||| ((nI 1) <<< (x6 &&& 31)))), some (vI x3), some (vI x4), some (vI x5), some (vI (x6 + (nI 1)))] [] m5))))))))) :
    wp2i xs C tX9_grow [8, 17] (some .int) Q K 2000 17 [some (vR 8 x0), some (vI x1), some (vI x2), some (vI x3), some (vI x4), some (vI x5), some (vI x6)] [] m := h
theorem bX9_join_0 {xs : Nat × (Nat → Int32)} {C : Nat → List v2 → Mem → (Option v2 → Mem → Prop) → Prop} {Q : Option v2 → Mem → Prop} {K : Nat → L2 → List v2 → Mem → Prop} (m : Mem) (p0 : Nat) (p1 : Int32) (p2 : Int32) (p3 : Int32)
    (h : C 64 [vR 1 0, vI p1, vI (m.1 8 p0 1)] m (fun r1 m2 => ∃ w3 : Int32, r1 = some (vI w3) ∧
      inb p1 10 ∧ 
        K 14 [some (vR 8 p0), some (vI p1), some (vI p2), some (vI p3), some (vI w3), some (vI (nI 0)), none, none] [] (mI m2 9 p0 p1.toNatClampNeg (nI 0)))) :
    wp2i xs C tX9_join [14] (some .boolean) Q K 2000 0 [some (vR 8 p0), some (vI p1), some (vI p2), some (vI p3), none, none, none, none] [] m := h
theorem bX9_join_14 {xs : Nat × (Nat → Int32)} {C : Nat → List v2 → Mem → (Option v2 → Mem → Prop) → Prop} {Q : Option v2 → Mem → Prop} {K : Nat → L2 → List v2 → Mem → Prop} (m : Mem) (x0 : Nat) (x1 : Int32) (x2 : Int32) (x3 : Int32) (x4 : Int32) (x5 : Int32) (o6 : Option v2) (o7 : Option v2)
    (h : inb x1 10 ∧ 
      (((m.1 2 0 x1.toNatClampNeg) ≤ x5 →
        ((¬ x4 = 0 →
          isB (nI 0) ∧ Q (some (vI (nI 0))) m) ∧
        (x4 = 0 →
          inb x1 10 ∧ 
            (((m.1 2 0 x1.toNatClampNeg) ≤ 0 →
              isB (nI 0) ∧ Q (some (vI (nI 0))) m) ∧
            (¬ (m.1 2 0 x1.toNatClampNeg) ≤ 0 →
              isB (nI 1) ∧ Q (some (vI (nI 1))) m))))) ∧
      (¬ (m.1 2 0 x1.toNatClampNeg) ≤ x5 →
        C 62 [vR 1 0, vI x1, vI x5] m (fun r1 m2 => ∃ q3 : Nat, r1 = some (vR 4 q3) ∧
          C 6 [vR 4 q3, vI x2] m2 (fun r4 m5 => ∃ w6 : Int32, r4 = some (vI w6) ∧
            ((w6 = 0 →
              (((nI 0) = 0 →
                ((¬ (nI 0) = x4 →
                  K 14 [some (vR 8 x0), some (vI x1), some (vI x2), some (vI x3), some (vI x4), some (vI (x5 + (nI 1))), some (vR 4 q3), some (vI (nI 0))] [] m5) ∧
                ((nI 0) = x4 →
                  isB x4 ∧ Q (some (vI x4)) m5))) ∧
              (¬ (nI 0) = 0 →
                ((x4 = 0 →
                  ((¬ (nI 0) = x4 →
                    K 14 [some (vR 8 x0), some (vI x1), some (vI x2), some (vI x3), some (vI x4), some (vI (x5 + (nI 1))), some (vR 4 q3), some (vI (nI 0))] [] m5) ∧
                  ((nI 0) = x4 →
                    isB x4 ∧ Q (some (vI x4)) m5))) ∧
                (¬ x4 = 0 →
                  inb x1 10 ∧ 
                    ((¬ (nI 0) = x4 →
                      K 14 [some (vR 8 x0), some (vI x1), some (vI x2), some (vI x3), some (vI x4), some (vI (x5 + (nI 1))), some (vR 4 q3), some (vI (nI 0))] [] (mI m5 9 x0 x1.toNatClampNeg x5)) ∧
                    ((nI 0) = x4 →
                      isB x4 ∧ Q (some (vI x4)) (mI m5 9 x0 x1.toNatClampNeg x5)))))))) ∧
            (¬ w6 = 0 →
              ((((m5.1 4 q3 4) &&& x3) = 0 →
                (((nI 0) = 0 →
                  ((¬ (nI 0) = x4 →
                    K 14 [some (vR 8 x0), some (vI x1), some (vI x2), some (vI x3), some (vI x4), some (vI (x5 + (nI 1))), some (vR 4 q3), some (vI (nI 0))] [] m5) ∧
                  ((nI 0) = x4 →
                    isB x4 ∧ Q (some (vI x4)) m5))) ∧
                (¬ (nI 0) = 0 →
                  ((x4 = 0 →
                    ((¬ (nI 0) = x4 →
                      K 14 [some (vR 8 x0), some (vI x1), some (vI x2), some (vI x3), some (vI x4), some (vI (x5 + (nI 1))), some (vR 4 q3), some (vI (nI 0))] [] m5) ∧
                    ((nI 0) = x4 →
                      isB x4 ∧ Q (some (vI x4)) m5))) ∧
                  (¬ x4 = 0 →
                    inb x1 10 ∧ 
                      ((¬ (nI 0) = x4 →
                        K 14 [some (vR 8 x0), some (vI x1), some (vI x2), some (vI x3), some (vI x4), some (vI (x5 + (nI 1))), some (vR 4 q3), some (vI (nI 0))] [] (mI m5 9 x0 x1.toNatClampNeg x5)) ∧
                      ((nI 0) = x4 →
                        isB x4 ∧ Q (some (vI x4)) (mI m5 9 x0 x1.toNatClampNeg x5)))))))) ∧
              (¬ ((m5.1 4 q3 4) &&& x3) = 0 →
                (((nI 1) = 0 →
                  ((¬ (nI 1) = x4 →
                    K 14 [some (vR 8 x0), some (vI x1), some (vI x2), some (vI x3), some (vI x4), some (vI (x5 + (nI 1))), some (vR 4 q3), some (vI (nI 1))] [] m5) ∧
                  ((nI 1) = x4 →
                    isB x4 ∧ Q (some (vI x4)) m5))) ∧
                (¬ (nI 1) = 0 →
                  ((x4 = 0 →
                    ((¬ (nI 1) = x4 →
                      K 14 [some (vR 8 x0), some (vI x1), some (vI x2), some (vI x3), some (vI x4), some (vI (x5 + (nI 1))), some (vR 4 q3), some (vI (nI 1))] [] m5) ∧
                    ((nI 1) = x4 →
                      isB x4 ∧ Q (some (vI x4)) m5))) ∧
                  (¬ x4 = 0 →
                    inb x1 10 ∧ 
                      ((¬ (nI 1) = x4 →
                        K 14 [some (vR 8 x0), some (vI x1), some (vI x2), some (vI x3), some (vI x4), some (vI (x5 + (nI 1))), some (vR 4 q3), some (vI (nI 1))] [] (mI m5 9 x0 x1.toNatClampNeg x5)) ∧
                      ((nI 1) = x4 →
                        isB x4 ∧ Q (some (vI x4)) (mI m5 9 x0 x1.toNatClampNeg x5)))))))))))))))) :
    wp2i xs C tX9_join [14] (some .boolean) Q K 2000 14 [some (vR 8 x0), some (vI x1), some (vI x2), some (vI x3), some (vI x4), some (vI x5), o6, o7] [] m := h
theorem bX10_hasState_0 {xs : Nat × (Nat → Int32)} {C : Nat → List v2 → Mem → (Option v2 → Mem → Prop) → Prop} {Q : Option v2 → Mem → Prop} {K : Nat → L2 → List v2 → Mem → Prop} (m : Mem) (p1 : Int32)
    (h : ((p1 < 0 →
      isB (nI 0) ∧ Q (some (vI (nI 0))) m) ∧
    (¬ p1 < 0 →
      (((m.1 1 0 0) ≤ p1 →
        isB (nI 0) ∧ Q (some (vI (nI 0))) m) ∧
      (¬ (m.1 1 0 0) ≤ p1 →
        isB (nI 1) ∧ Q (some (vI (nI 1))) m))))) :
    wp2i xs C tX10_hasState [] (some .boolean) Q K 2000 0 [some (vR 1 0), some (vI p1)] [] m := h
theorem bX10_hasAct_0 {xs : Nat × (Nat → Int32)} {C : Nat → List v2 → Mem → (Option v2 → Mem → Prop) → Prop} {Q : Option v2 → Mem → Prop} {K : Nat → L2 → List v2 → Mem → Prop} (m : Mem) (p1 : Int32) (p2 : Int32)
    (h : C 60 [vR 1 0, vI p1] m (fun r1 m2 => ∃ w3 : Int32, r1 = some (vI w3) ∧
      ((w3 = 0 →
        isB (nI 0) ∧ Q (some (vI (nI 0))) m2) ∧
      (¬ w3 = 0 →
        ((p2 < 0 →
          isB (nI 0) ∧ Q (some (vI (nI 0))) m2) ∧
        (¬ p2 < 0 →
          inb p1 10 ∧ 
            (((m2.1 2 0 p1.toNatClampNeg) ≤ p2 →
              isB (nI 0) ∧ Q (some (vI (nI 0))) m2) ∧
            (¬ (m2.1 2 0 p1.toNatClampNeg) ≤ p2 →
              isB (nI 1) ∧ Q (some (vI (nI 1))) m2)))))))) :
    wp2i xs C tX10_hasAct [] (some .boolean) Q K 2000 0 [some (vR 1 0), some (vI p1), some (vI p2)] [] m := h
theorem bX10_actAt_0 {xs : Nat × (Nat → Int32)} {C : Nat → List v2 → Mem → (Option v2 → Mem → Prop) → Prop} {Q : Option v2 → Mem → Prop} {K : Nat → L2 → List v2 → Mem → Prop} (m : Mem) (p1 : Int32) (p2 : Int32)
    (h : inb ((p1 * (nI 4)) + p2) 40 ∧ 
      Q (some (vR 4 (((p1 * (nI 4)) + p2).toNatClampNeg))) m) :
    wp2i xs C tX10_actAt [] (some (.object "ChanceCourt$Act")) Q K 2000 0 [some (vR 1 0), some (vI p1), some (vI p2)] [] m := h
theorem bX10_isFoes_0 {xs : Nat × (Nat → Int32)} {C : Nat → List v2 → Mem → (Option v2 → Mem → Prop) → Prop} {Q : Option v2 → Mem → Prop} {K : Nat → L2 → List v2 → Mem → Prop} (m : Mem) (p1 : Int32)
    (h : inb p1 10 ∧ 
      (((m.1 2 0 p1.toNatClampNeg) ≤ 0 →
        isB (nI 0) ∧ Q (some (vI (nI 0))) m) ∧
      (¬ (m.1 2 0 p1.toNatClampNeg) ≤ 0 →
        inb (p1 * (nI 4)) 40 ∧ 
          ((¬ (m.1 4 ((p1 * (nI 4)).toNatClampNeg) 0) = (nI 2) →
            isB (nI 0) ∧ Q (some (vI (nI 0))) m) ∧
          ((m.1 4 ((p1 * (nI 4)).toNatClampNeg) 0) = (nI 2) →
            isB (nI 1) ∧ Q (some (vI (nI 1))) m))))) :
    wp2i xs C tX10_isFoes [] (some .boolean) Q K 2000 0 [some (vR 1 0), some (vI p1)] [] m := h
theorem bX10_seeksMost_0 {xs : Nat × (Nat → Int32)} {C : Nat → List v2 → Mem → (Option v2 → Mem → Prop) → Prop} {Q : Option v2 → Mem → Prop} {K : Nat → L2 → List v2 → Mem → Prop} (m : Mem) (p1 : Int32) (p2 : Int32)
    (h : C 63 [vR 1 0, vI p1] m (fun r1 m2 => ∃ w3 : Int32, r1 = some (vI w3) ∧
      ((¬ w3 = p2 →
        isB (nI 0) ∧ Q (some (vI (nI 0))) m2) ∧
      (w3 = p2 →
        isB (nI 1) ∧ Q (some (vI (nI 1))) m2)))) :
    wp2i xs C tX10_seeksMost [] (some .boolean) Q K 2000 0 [some (vR 1 0), some (vI p1), some (vI p2)] [] m := h
theorem bX10_everyone_0 {xs : Nat × (Nat → Int32)} {C : Nat → List v2 → Mem → (Option v2 → Mem → Prop) → Prop} {Q : Option v2 → Mem → Prop} {K : Nat → L2 → List v2 → Mem → Prop} (m : Mem) 
    (h : Q (some (vI (((nI 1) <<< ((m.1 1 0 0) &&& 31)) - (nI 1)))) m) :
    wp2i xs C tX10_everyone [] (some .int) Q K 2000 0 [some (vR 1 0)] [] m := h
theorem bX10_addState_0 {xs : Nat × (Nat → Int32)} {C : Nat → List v2 → Mem → (Option v2 → Mem → Prop) → Prop} {Q : Option v2 → Mem → Prop} {K : Nat → L2 → List v2 → Mem → Prop} (m : Mem) 
    (h : Q (some (vI (((mI (mI m 1 0 2 ((m.1 1 0 2) + (nI 1))) 1 0 0 (((mI m 1 0 2 ((m.1 1 0 2) + (nI 1))).1 1 0 0) + (nI 1))).1 1 0 0) - (nI 1)))) (mI (mI m 1 0 2 ((m.1 1 0 2) + (nI 1))) 1 0 0 (((mI m 1 0 2 ((m.1 1 0 2) + (nI 1))).1 1 0 0) + (nI 1)))) :
    wp2i xs C tX10_addState [] (some .int) Q K 2000 0 [some (vR 1 0)] [] m := h
theorem bX10_addAct_0 {xs : Nat × (Nat → Int32)} {C : Nat → List v2 → Mem → (Option v2 → Mem → Prop) → Prop} {Q : Option v2 → Mem → Prop} {K : Nat → L2 → List v2 → Mem → Prop} (m : Mem) (p1 : Int32) (p2 : Int32) (p3 : Int32)
    (h : inb p1 10 ∧ 
      C 62 [vR 1 0, vI p1, vI ((mI m 1 0 2 ((m.1 1 0 2) + (nI 1))).1 2 0 p1.toNatClampNeg)] (mI m 1 0 2 ((m.1 1 0 2) + (nI 1))) (fun r1 m2 => ∃ q3 : Nat, r1 = some (vR 4 q3) ∧
        C 1 [vR 4 q3, vI p2, vI p3] m2 (fun r4 m5 => r4 = none ∧
          inb p1 10 ∧ 
            inb p1 10 ∧ 
              inb p1 10 ∧ 
                Q (some (vI (((mI m5 2 0 p1.toNatClampNeg ((m5.1 2 0 p1.toNatClampNeg) + (nI 1))).1 2 0 p1.toNatClampNeg) - (nI 1)))) (mI m5 2 0 p1.toNatClampNeg ((m5.1 2 0 p1.toNatClampNeg) + (nI 1)))))) :
    wp2i xs C tX10_addAct [] (some .int) Q K 2000 0 [some (vR 1 0), some (vI p1), some (vI p2), some (vI p3)] [] m := h
theorem bX10_addOutcome_0 {xs : Nat × (Nat → Int32)} {C : Nat → List v2 → Mem → (Option v2 → Mem → Prop) → Prop} {Q : Option v2 → Mem → Prop} {K : Nat → L2 → List v2 → Mem → Prop} (m : Mem) (p1 : Nat) (p2 : Int32) (p3 : Int32)
    (h : C 2 [vR 4 p1, vI p2, vI p3] (mI m 1 0 2 ((m.1 1 0 2) + (nI 1))) (fun r1 m2 => r1 = none ∧
      Q (some (vI (m2.1 4 p1 3))) m2)) :
    wp2i xs C tX10_addOutcome [] (some .int) Q K 2000 0 [some (vR 1 0), some (vR 4 p1), some (vI p2), some (vI p3)] [] m := h
theorem bX10_removeAct_0 {xs : Nat × (Nat → Int32)} {C : Nat → List v2 → Mem → (Option v2 → Mem → Prop) → Prop} {Q : Option v2 → Mem → Prop} {K : Nat → L2 → List v2 → Mem → Prop} (m : Mem) (p1 : Int32)
    (h : inb p1 10 ∧ 
      inb p1 10 ∧ 
        inb p1 10 ∧ 
          Q (some (vI ((mI (mI m 1 0 2 ((m.1 1 0 2) + (nI 1))) 2 0 p1.toNatClampNeg (((mI m 1 0 2 ((m.1 1 0 2) + (nI 1))).1 2 0 p1.toNatClampNeg) - (nI 1))).1 2 0 p1.toNatClampNeg))) (mI (mI m 1 0 2 ((m.1 1 0 2) + (nI 1))) 2 0 p1.toNatClampNeg (((mI m 1 0 2 ((m.1 1 0 2) + (nI 1))).1 2 0 p1.toNatClampNeg) - (nI 1)))) :
    wp2i xs C tX10_removeAct [] (some .int) Q K 2000 0 [some (vR 1 0), some (vI p1)] [] m := h
theorem bX10_setMarked_0 {xs : Nat × (Nat → Int32)} {C : Nat → List v2 → Mem → (Option v2 → Mem → Prop) → Prop} {Q : Option v2 → Mem → Prop} {K : Nat → L2 → List v2 → Mem → Prop} (m : Mem) (p1 : Int32)
    (h : Q none (mI (mI m 1 0 2 ((m.1 1 0 2) + (nI 1))) 1 0 1 p1)) :
    wp2i xs C tX10_setMarked [] none Q K 2000 0 [some (vR 1 0), some (vI p1)] [] m := h
theorem bX10_isWhole_0 {xs : Nat × (Nat → Int32)} {C : Nat → List v2 → Mem → (Option v2 → Mem → Prop) → Prop} {Q : Option v2 → Mem → Prop} {K : Nat → L2 → List v2 → Mem → Prop} (m : Mem) 
    (h : C 72 [vR 1 0] m (fun r1 m2 => ∃ w3 : Int32, r1 = some (vI w3) ∧
      ((¬ w3 = 0 →
        isB (nI 0) ∧ Q (some (vI (nI 0))) m2) ∧
      (w3 = 0 →
        isB (nI 1) ∧ Q (some (vI (nI 1))) m2)))) :
    wp2i xs C tX10_isWhole [] (some .boolean) Q K 2000 0 [some (vR 1 0)] [] m := h
theorem bX10_lacking_0 {xs : Nat × (Nat → Int32)} {C : Nat → List v2 → Mem → (Option v2 → Mem → Prop) → Prop} {Q : Option v2 → Mem → Prop} {K : Nat → L2 → List v2 → Mem → Prop} (m : Mem) 
    (h : K 4 [some (vR 1 0), some (vI (nI 0)), some (vI (nI 0)), none] [] m) :
    wp2i xs C tX10_lacking [4, 10] (some .int) Q K 2000 0 [some (vR 1 0), none, none, none] [] m := h
theorem bX10_lacking_4 {xs : Nat × (Nat → Int32)} {C : Nat → List v2 → Mem → (Option v2 → Mem → Prop) → Prop} {Q : Option v2 → Mem → Prop} {K : Nat → L2 → List v2 → Mem → Prop} (m : Mem) (x1 : Int32) (x2 : Int32) (o3 : Option v2)
    (h : (((m.1 1 0 0) ≤ x2 →
      Q (some (vI x1)) m) ∧
    (¬ (m.1 1 0 0) ≤ x2 →
      K 10 [some (vR 1 0), some (vI x1), some (vI x2), some (vI (nI 0))] [] m))) :
    wp2i xs C tX10_lacking [4, 10] (some .int) Q K 2000 4 [some (vR 1 0), some (vI x1), some (vI x2), o3] [] m := h
theorem bX10_lacking_10 {xs : Nat × (Nat → Int32)} {C : Nat → List v2 → Mem → (Option v2 → Mem → Prop) → Prop} {Q : Option v2 → Mem → Prop} {K : Nat → L2 → List v2 → Mem → Prop} (m : Mem) (x1 : Int32) (x2 : Int32) (x3 : Int32)
    (h : inb x2 10 ∧ 
      (((m.1 2 0 x2.toNatClampNeg) ≤ x3 →
        K 4 [some (vR 1 0), some (vI x1), some (vI (x2 + (nI 1))), some (vI x3)] [] m) ∧
      (¬ (m.1 2 0 x2.toNatClampNeg) ≤ x3 →
        C 62 [vR 1 0, vI x2, vI x3] m (fun r1 m2 => ∃ q3 : Nat, r1 = some (vR 4 q3) ∧
          K 10 [some (vR 1 0), some (vI (x1 + ((nI 12) - (m2.1 4 q3 3)))), some (vI x2), some (vI (x3 + (nI 1)))] [] m2)))) :
    wp2i xs C tX10_lacking [4, 10] (some .int) Q K 2000 10 [some (vR 1 0), some (vI x1), some (vI x2), some (vI x3)] [] m := h
theorem bX10_allActs_0 {xs : Nat × (Nat → Int32)} {C : Nat → List v2 → Mem → (Option v2 → Mem → Prop) → Prop} {Q : Option v2 → Mem → Prop} {K : Nat → L2 → List v2 → Mem → Prop} (m : Mem) 
    (h : K 4 [some (vR 1 0), some (vI (nI 0)), some (vI (nI 0))] [] m) :
    wp2i xs C tX10_allActs [4] (some .int) Q K 2000 0 [some (vR 1 0), none, none] [] m := h
theorem bX10_allActs_4 {xs : Nat × (Nat → Int32)} {C : Nat → List v2 → Mem → (Option v2 → Mem → Prop) → Prop} {Q : Option v2 → Mem → Prop} {K : Nat → L2 → List v2 → Mem → Prop} (m : Mem) (x1 : Int32) (x2 : Int32)
    (h : (((m.1 1 0 0) ≤ x2 →
      Q (some (vI x1)) m) ∧
    (¬ (m.1 1 0 0) ≤ x2 →
      inb x2 10 ∧ 
        K 4 [some (vR 1 0), some (vI (x1 + (m.1 2 0 x2.toNatClampNeg))), some (vI (x2 + (nI 1)))] [] m))) :
    wp2i xs C tX10_allActs [4] (some .int) Q K 2000 4 [some (vR 1 0), some (vI x1), some (vI x2)] [] m := h
theorem bX10_allOutcomes_0 {xs : Nat × (Nat → Int32)} {C : Nat → List v2 → Mem → (Option v2 → Mem → Prop) → Prop} {Q : Option v2 → Mem → Prop} {K : Nat → L2 → List v2 → Mem → Prop} (m : Mem) 
    (h : K 4 [some (vR 1 0), some (vI (nI 0)), some (vI (nI 0)), none] [] m) :
    wp2i xs C tX10_allOutcomes [4, 10] (some .int) Q K 2000 0 [some (vR 1 0), none, none, none] [] m := h
theorem bX10_allOutcomes_4 {xs : Nat × (Nat → Int32)} {C : Nat → List v2 → Mem → (Option v2 → Mem → Prop) → Prop} {Q : Option v2 → Mem → Prop} {K : Nat → L2 → List v2 → Mem → Prop} (m : Mem) (x1 : Int32) (x2 : Int32) (o3 : Option v2)
    (h : (((m.1 1 0 0) ≤ x2 →
      Q (some (vI x1)) m) ∧
    (¬ (m.1 1 0 0) ≤ x2 →
      K 10 [some (vR 1 0), some (vI x1), some (vI x2), some (vI (nI 0))] [] m))) :
    wp2i xs C tX10_allOutcomes [4, 10] (some .int) Q K 2000 4 [some (vR 1 0), some (vI x1), some (vI x2), o3] [] m := h
theorem bX10_allOutcomes_10 {xs : Nat × (Nat → Int32)} {C : Nat → List v2 → Mem → (Option v2 → Mem → Prop) → Prop} {Q : Option v2 → Mem → Prop} {K : Nat → L2 → List v2 → Mem → Prop} (m : Mem) (x1 : Int32) (x2 : Int32) (x3 : Int32)
    (h : inb x2 10 ∧ 
      (((m.1 2 0 x2.toNatClampNeg) ≤ x3 →
        K 4 [some (vR 1 0), some (vI x1), some (vI (x2 + (nI 1))), some (vI x3)] [] m) ∧
      (¬ (m.1 2 0 x2.toNatClampNeg) ≤ x3 →
        C 62 [vR 1 0, vI x2, vI x3] m (fun r1 m2 => ∃ q3 : Nat, r1 = some (vR 4 q3) ∧
          K 10 [some (vR 1 0), some (vI (x1 + (m2.1 4 q3 2))), some (vI x2), some (vI (x3 + (nI 1)))] [] m2)))) :
    wp2i xs C tX10_allOutcomes [4, 10] (some .int) Q K 2000 10 [some (vR 1 0), some (vI x1), some (vI x2), some (vI x3)] [] m := h
theorem bX10_foeActs_0 {xs : Nat × (Nat → Int32)} {C : Nat → List v2 → Mem → (Option v2 → Mem → Prop) → Prop} {Q : Option v2 → Mem → Prop} {K : Nat → L2 → List v2 → Mem → Prop} (m : Mem) 
    (h : K 4 [some (vR 1 0), some (vI (nI 0)), some (vI (nI 0))] [] m) :
    wp2i xs C tX10_foeActs [4] (some .int) Q K 2000 0 [some (vR 1 0), none, none] [] m := h
theorem bX10_foeActs_4 {xs : Nat × (Nat → Int32)} {C : Nat → List v2 → Mem → (Option v2 → Mem → Prop) → Prop} {Q : Option v2 → Mem → Prop} {K : Nat → L2 → List v2 → Mem → Prop} (m : Mem) (x1 : Int32) (x2 : Int32)
    (h : (((m.1 1 0 0) ≤ x2 →
      Q (some (vI x1)) m) ∧
    (¬ (m.1 1 0 0) ≤ x2 →
      C 63 [vR 1 0, vI x2] m (fun r1 m2 => ∃ w3 : Int32, r1 = some (vI w3) ∧
        ((w3 = 0 →
          K 4 [some (vR 1 0), some (vI (x1 + (nI 0))), some (vI (x2 + (nI 1)))] [] m2) ∧
        (¬ w3 = 0 →
          inb x2 10 ∧ 
            K 4 [some (vR 1 0), some (vI (x1 + (m2.1 2 0 x2.toNatClampNeg))), some (vI (x2 + (nI 1)))] [] m2)))))) :
    wp2i xs C tX10_foeActs [4] (some .int) Q K 2000 4 [some (vR 1 0), some (vI x1), some (vI x2)] [] m := h
theorem bX10_nextOf_0 {xs : Nat × (Nat → Int32)} {C : Nat → List v2 → Mem → (Option v2 → Mem → Prop) → Prop} {Q : Option v2 → Mem → Prop} {K : Nat → L2 → List v2 → Mem → Prop} (m : Mem) (p1 : Int32) (p2 : Int32)
    (h : K 4 [some (vR 1 0), some (vI p1), some (vI p2), some (vI (nI 0)), some (vI (nI 0)), none] [] m) :
    wp2i xs C tX10_nextOf [4] (some .int) Q K 2000 0 [some (vR 1 0), some (vI p1), some (vI p2), none, none, none] [] m := h
theorem bX10_nextOf_4 {xs : Nat × (Nat → Int32)} {C : Nat → List v2 → Mem → (Option v2 → Mem → Prop) → Prop} {Q : Option v2 → Mem → Prop} {K : Nat → L2 → List v2 → Mem → Prop} (m : Mem) (x1 : Int32) (x2 : Int32) (x3 : Int32) (x4 : Int32) (o5 : Option v2)
    (h : inb x1 10 ∧ 
      (((m.1 2 0 x1.toNatClampNeg) ≤ x4 →
        Q (some (vI x3)) m) ∧
      (¬ (m.1 2 0 x1.toNatClampNeg) ≤ x4 →
        C 62 [vR 1 0, vI x1, vI x4] m (fun r1 m2 => ∃ q3 : Nat, r1 = some (vR 4 q3) ∧
          C 6 [vR 4 q3, vI x2] m2 (fun r4 m5 => ∃ w6 : Int32, r4 = some (vI w6) ∧
            ((w6 = 0 →
              K 4 [some (vR 1 0), some (vI x1), some (vI x2), some (vI (x3 ||| (nI 0))), some (vI (x4 + (nI 1))), some (vR 4 q3)] [] m5) ∧
            (¬ w6 = 0 →
              K 4 [some (vR 1 0), some (vI x1), some (vI x2), some (vI (x3 ||| (m5.1 4 q3 4))), some (vI (x4 + (nI 1))), some (vR 4 q3)] [] m5))))))) :
    wp2i xs C tX10_nextOf [4] (some .int) Q K 2000 4 [some (vR 1 0), some (vI x1), some (vI x2), some (vI x3), some (vI x4), o5] [] m := h
theorem bX10_reachedFrom_0 {xs : Nat × (Nat → Int32)} {C : Nat → List v2 → Mem → (Option v2 → Mem → Prop) → Prop} {Q : Option v2 → Mem → Prop} {K : Nat → L2 → List v2 → Mem → Prop} (m : Mem) (p1 : Int32)
    (h : K 8 [some (vR 1 0), some (vI p1), some (vI ((nI 1) <<< (p1 &&& 31))), some (vI (nI 1)), some (vI (nI 0)), none, none] [] m) :
    wp2i xs C tX10_reachedFrom [8, 17] (some .int) Q K 2000 0 [some (vR 1 0), some (vI p1), none, none, none, none, none] [] m := h
theorem bX10_reachedFrom_8 {xs : Nat × (Nat → Int32)} {C : Nat → List v2 → Mem → (Option v2 → Mem → Prop) → Prop} {Q : Option v2 → Mem → Prop} {K : Nat → L2 → List v2 → Mem → Prop} (m : Mem) (x1 : Int32) (x2 : Int32) (x3 : Int32) (x4 : Int32) (o5 : Option v2) (o6 : Option v2)
    (h : (((nI 10) ≤ x4 →
      Q (some (vI x2)) m) ∧
    (¬ (nI 10) ≤ x4 →
      ((x3 = 0 →
        Q (some (vI x2)) m) ∧
      (¬ x3 = 0 →
        K 17 [some (vR 1 0), some (vI x1), some (vI x2), some (vI x3), some (vI x4), some (vI x2), some (vI (nI 0))] [] m))))) :
    wp2i xs C tX10_reachedFrom [8, 17] (some .int) Q K 2000 8 [some (vR 1 0), some (vI x1), some (vI x2), some (vI x3), some (vI x4), o5, o6] [] m := h
theorem bX10_reachedFrom_17 {xs : Nat × (Nat → Int32)} {C : Nat → List v2 → Mem → (Option v2 → Mem → Prop) → Prop} {Q : Option v2 → Mem → Prop} {K : Nat → L2 → List v2 → Mem → Prop} (m : Mem) (x1 : Int32) (x2 : Int32) (x3 : Int32) (x4 : Int32) (x5 : Int32) (x6 : Int32)
    (h : (((m.1 1 0 0) ≤ x6 →
      ((x2 = x5 →
        K 8 [some (vR 1 0), some (vI x1), some (vI x2), some (vI (nI 0)), some (vI (x4 + (nI 1))), some (vI x5), some (vI x6)] [] m) ∧
      (¬ x2 = x5 →
        K 8 [some (vR 1 0), some (vI x1), some (vI x2), some (vI (nI 1)), some (vI (x4 + (nI 1))), some (vI x5), some (vI x6)] [] m))) ∧
    (¬ (m.1 1 0 0) ≤ x6 →
      C 108 [vI x2, vI x6] m (fun r1 m2 => ∃ w3 : Int32, r1 = some (vI w3) ∧
        ((w3 = 0 →
          K 17 [some (vR 1 0), some (vI x1), some (vI (x2 ||| (nI 0))), some (vI x3), some (vI x4), some (vI x5), some (vI (x6 + (nI 1)))] [] m2) ∧
        (¬ w3 = 0 →
          C 65 [vR 1 0] m2 (fun r4 m5 => ∃ w6 : Int32, r4 = some (vI w6) ∧
            C 76 [vR 1 0, vI x6, vI w6] m5 (fun r7 m8 => ∃ w9 : Int32, r7 = some (vI w9) ∧
              K 17 [some (vR 1 0), some (vI x1), some (vI (x2 ||| w9)), some (vI x3), some (vI x4), some (vI x5), some (vI (x6 + (nI 1)))] [] m8)))))))) :
    wp2i xs C tX10_reachedFrom [8, 17] (some .int) Q K 2000 17 [some (vR 1 0), some (vI x1), some (vI x2), some (vI x3), some (vI x4), some (vI x5), some (vI x6)] [] m := h
theorem bJ6_bitCount_0f7a4_0 {xs : Nat × (Nat → Int32)} {C : Nat → List v2 → Mem → (Option v2 → Mem → Prop) → Prop} {Q : Option v2 → Mem → Prop} {K : Nat → L2 → List v2 → Mem → Prop} (m : Mem) (p0 : Int32)
    (h : Q (some (vI ((((((((p0 - (((p0.toUInt32 >>> ((nI 1).toUInt32 &&& Int32.toUInt32 31)).toInt32) &&& (nI 1431655765))) &&& (nI 858993459)) + ((((p0 - (((p0.toUInt32 >>> ((nI 1).toUInt32 &&& Int32.toUInt32 31)).toInt32) &&& (nI 1431655765))).toUInt32 >>> ((nI 2).toUInt32 &&& Int32.toUInt32 31)).toInt32) &&& (nI 858993459))) + (((((p0 - (((p0.toUInt32 >>> ((nI 1).toUInt32 &&& Int32.toUInt32 31)).toInt32) &&& (nI 1431655765))) &&& (nI 858993459)) + ((((p0 - (((p0.toUInt32 >>> ((nI 1).toUInt32 &&& Int32.toUInt32 31)).toInt32) &&& (nI 1431655765))).toUInt32 >>> ((nI 2).toUInt32 &&& Int32.toUInt32 31)).toInt32) &&& (nI 858993459))).toUInt32 >>> ((nI 4).toUInt32 &&& Int32.toUInt32 31)).toInt32)) &&& (nI 252645135)) + (((((((p0 - (((p0.toUInt32 >>> ((nI 1).toUInt32 &&& Int32.toUInt32 31)).toInt32) &&& (nI 1431655765))) &&& (nI 858993459)) + ((((p0 - (((p0.toUInt32 >>> ((nI 1).toUInt32 &&& Int32.toUInt32 31)).toInt32) &&& (nI 1431655765))).toUInt32 >>> ((nI 2).toUInt32 &&& Int32.toUInt32 31)).toInt32) &&& (nI 858993459))) + (((((p0 - (((p0.toUInt32 >>> ((nI 1).toUInt32 &&& Int32.toUInt32 31)).toInt32) &&& (nI 1431655765))) &&& (nI 858993459)) + ((((p0 - (((p0.toUInt32 >>> ((nI 1).toUInt32 &&& Int32.toUInt32 31)).toInt32) &&& (nI 1431655765))).toUInt32 >>> ((nI 2).toUInt32 &&& Int32.toUInt32 31)).toInt32) &&& (nI 858993459))).toUInt32 >>> ((nI 4).toUInt32 &&& Int32.toUInt32 31)).toInt32)) &&& (nI 252645135)).toUInt32 >>> ((nI 8).toUInt32 &&& Int32.toUInt32 31)).toInt32)) + ((((((((p0 - (((p0.toUInt32 >>> ((nI 1).toUInt32 &&& Int32.toUInt32 31)).toInt32) &&& (nI 1431655765))) &&& (nI 858993459)) + ((((p0 - (((p0.toUInt32 >>> ((nI 1).toUInt32 &&& Int32.toUInt32 31)).toInt32) &&& (nI 1431655765))).toUInt32 >>> ((nI 2).toUInt32 &&& Int32.toUInt32 31)).toInt32) &&& (nI 858993459))) + (((((p0 - (((p0.toUInt32 >>> ((nI 1).toUInt32 &&& Int32.toUInt32 31)).toInt32) &&& (nI 1431655765))) &&& (nI 858993459)) + ((((p0 - (((p0.toUInt32 >>> ((nI 1).toUInt32 &&& Int32.toUInt32 31)).toInt32) &&& (nI 1431655765))).toUInt32 >>> ((nI 2).toUInt32 &&& Int32.toUInt32 31)).toInt32) &&& (nI 858993459))).toUInt32 >>> ((nI 4).toUInt32 &&& Int32.toUInt32 31)).toInt32)) &&& (nI 252645135)) + (((((((p0 - (((p0.toUInt32 >>> ((nI 1).toUInt32 &&& Int32.toUInt32 31)).toInt32) &&& (nI 1431655765))) &&& (nI 858993459)) + ((((p0 - (((p0.toUInt32 >>> ((nI 1).toUInt32 &&& Int32.toUInt32 31)).toInt32) &&& (nI 1431655765))).toUInt32 >>> ((nI 2).toUInt32 &&& Int32.toUInt32 31)).toInt32) &&& (nI 858993459))) + (((((p0 - (((p0.toUInt32 >>> ((nI 1).toUInt32 &&& Int32.toUInt32 31)).toInt32) &&& (nI 1431655765))) &&& (nI 858993459)) + ((((p0 - (((p0.toUInt32 >>> ((nI 1).toUInt32 &&& Int32.toUInt32 31)).toInt32) &&& (nI 1431655765))).toUInt32 >>> ((nI 2).toUInt32 &&& Int32.toUInt32 31)).toInt32) &&& (nI 858993459))).toUInt32 >>> ((nI 4).toUInt32 &&& Int32.toUInt32 31)).toInt32)) &&& (nI 252645135)).toUInt32 >>> ((nI 8).toUInt32 &&& Int32.toUInt32 31)).toInt32)).toUInt32 >>> ((nI 16).toUInt32 &&& Int32.toUInt32 31)).toInt32)) &&& (nI 63)))) m) :
    wp2i xs C tJ6_bitCount_0f7a4 [] (some .int) Q K 2000 0 [some (vI p0)] [] m := h
theorem bJ7_fill_d0a16_0_t12 {xs : Nat × (Nat → Int32)} {C : Nat → List v2 → Mem → (Option v2 → Mem → Prop) → Prop} {Q : Option v2 → Mem → Prop} {K : Nat → L2 → List v2 → Mem → Prop} (m : Mem) (p0 : Nat) (p1 : Int64)
    (h : K 5 [some (vR 12 p0), some (vL p1), none, some (vI (nI 0)), some (vI (nI 6))] [] m) :
    wp2i xs C tJ7_fill_d0a16 [5] none Q K 2000 0 [some (vR 12 p0), some (vL p1), none, none, none] [] m := h
theorem bJ7_fill_d0a16_5_t12 {xs : Nat × (Nat → Int32)} {C : Nat → List v2 → Mem → (Option v2 → Mem → Prop) → Prop} {Q : Option v2 → Mem → Prop} {K : Nat → L2 → List v2 → Mem → Prop} (m : Mem) (x0 : Nat) (x1 : Int64) (x3 : Int32) (x4 : Int32)
    (h : ((x4 ≤ x3 →
      Q none m) ∧
    (¬ x4 ≤ x3 →
      inb x3 6 ∧ 
        K 5 [some (vR 12 x0), some (vL x1), none, some (vI (x3 + (nI 1))), some (vI x4)] [] (mL m 12 x0 x3.toNatClampNeg x1)))) :
    wp2i xs C tJ7_fill_d0a16 [5] none Q K 2000 5 [some (vR 12 x0), some (vL x1), none, some (vI x3), some (vI x4)] [] m := h
theorem bJ7_fill_d0a16_0_t15 {xs : Nat × (Nat → Int32)} {C : Nat → List v2 → Mem → (Option v2 → Mem → Prop) → Prop} {Q : Option v2 → Mem → Prop} {K : Nat → L2 → List v2 → Mem → Prop} (m : Mem) (p0 : Nat) (p1 : Int64)
    (h : K 5 [some (vR 15 p0), some (vL p1), none, some (vI (nI 0)), some (vI (nI 10))] [] m) :
    wp2i xs C tJ7_fill_d0a16 [5] none Q K 2000 0 [some (vR 15 p0), some (vL p1), none, none, none] [] m := h
theorem bJ7_fill_d0a16_5_t15 {xs : Nat × (Nat → Int32)} {C : Nat → List v2 → Mem → (Option v2 → Mem → Prop) → Prop} {Q : Option v2 → Mem → Prop} {K : Nat → L2 → List v2 → Mem → Prop} (m : Mem) (x0 : Nat) (x1 : Int64) (x3 : Int32) (x4 : Int32)
    (h : ((x4 ≤ x3 →
      Q none m) ∧
    (¬ x4 ≤ x3 →
      inb x3 10 ∧ 
        K 5 [some (vR 15 x0), some (vL x1), none, some (vI (x3 + (nI 1))), some (vI x4)] [] (mL m 15 x0 x3.toNatClampNeg x1)))) :
    wp2i xs C tJ7_fill_d0a16 [5] none Q K 2000 5 [some (vR 15 x0), some (vL x1), none, some (vI x3), some (vI x4)] [] m := h
theorem bJ7_fill_d0a16_0_t32 {xs : Nat × (Nat → Int32)} {C : Nat → List v2 → Mem → (Option v2 → Mem → Prop) → Prop} {Q : Option v2 → Mem → Prop} {K : Nat → L2 → List v2 → Mem → Prop} (m : Mem) (p0 : Nat) (p1 : Int64)
    (h : K 5 [some (vR 32 p0), some (vL p1), none, some (vI (nI 0)), some (vI (nI 60))] [] m) :
    wp2i xs C tJ7_fill_d0a16 [5] none Q K 2000 0 [some (vR 32 p0), some (vL p1), none, none, none] [] m := h
theorem bJ7_fill_d0a16_5_t32 {xs : Nat × (Nat → Int32)} {C : Nat → List v2 → Mem → (Option v2 → Mem → Prop) → Prop} {Q : Option v2 → Mem → Prop} {K : Nat → L2 → List v2 → Mem → Prop} (m : Mem) (x0 : Nat) (x1 : Int64) (x3 : Int32) (x4 : Int32)
    (h : ((x4 ≤ x3 →
      Q none m) ∧
    (¬ x4 ≤ x3 →
      inb x3 60 ∧ 
        K 5 [some (vR 32 x0), some (vL x1), none, some (vI (x3 + (nI 1))), some (vI x4)] [] (mL m 32 x0 x3.toNatClampNeg x1)))) :
    wp2i xs C tJ7_fill_d0a16 [5] none Q K 2000 5 [some (vR 32 x0), some (vL x1), none, some (vI x3), some (vI x4)] [] m := h
theorem bJ7_fill_53178_0_t17 {xs : Nat × (Nat → Int32)} {C : Nat → List v2 → Mem → (Option v2 → Mem → Prop) → Prop} {Q : Option v2 → Mem → Prop} {K : Nat → L2 → List v2 → Mem → Prop} (m : Mem) (p1 : Int32)
    (h : K 5 [some (vR 17 0), some (vI p1), some (vI (nI 0)), some (vI (nI 10))] [] m) :
    wp2i xs C tJ7_fill_53178 [5] none Q K 2000 0 [some (vR 17 0), some (vI p1), none, none] [] m := h
theorem bJ7_fill_53178_5_t17 {xs : Nat × (Nat → Int32)} {C : Nat → List v2 → Mem → (Option v2 → Mem → Prop) → Prop} {Q : Option v2 → Mem → Prop} {K : Nat → L2 → List v2 → Mem → Prop} (m : Mem) (x1 : Int32) (x2 : Int32) (x3 : Int32)
    (h : ((x3 ≤ x2 →
      Q none m) ∧
    (¬ x3 ≤ x2 →
      inb x2 10 ∧ 
        K 5 [some (vR 17 0), some (vI x1), some (vI (x2 + (nI 1))), some (vI x3)] [] (mI m 17 0 x2.toNatClampNeg x1)))) :
    wp2i xs C tJ7_fill_53178 [5] none Q K 2000 5 [some (vR 17 0), some (vI x1), some (vI x2), some (vI x3)] [] m := h
theorem bJ7_fill_53178_0_t23 {xs : Nat × (Nat → Int32)} {C : Nat → List v2 → Mem → (Option v2 → Mem → Prop) → Prop} {Q : Option v2 → Mem → Prop} {K : Nat → L2 → List v2 → Mem → Prop} (m : Mem) (p1 : Int32)
    (h : K 5 [some (vR 23 0), some (vI p1), some (vI (nI 0)), some (vI (nI 10))] [] m) :
    wp2i xs C tJ7_fill_53178 [5] none Q K 2000 0 [some (vR 23 0), some (vI p1), none, none] [] m := h
theorem bJ7_fill_53178_5_t23 {xs : Nat × (Nat → Int32)} {C : Nat → List v2 → Mem → (Option v2 → Mem → Prop) → Prop} {Q : Option v2 → Mem → Prop} {K : Nat → L2 → List v2 → Mem → Prop} (m : Mem) (x1 : Int32) (x2 : Int32) (x3 : Int32)
    (h : ((x3 ≤ x2 →
      Q none m) ∧
    (¬ x3 ≤ x2 →
      inb x2 10 ∧ 
        K 5 [some (vR 23 0), some (vI x1), some (vI (x2 + (nI 1))), some (vI x3)] [] (mI m 23 0 x2.toNatClampNeg x1)))) :
    wp2i xs C tJ7_fill_53178 [5] none Q K 2000 5 [some (vR 23 0), some (vI x1), some (vI x2), some (vI x3)] [] m := h
