/-! M2: the machine over tagged cells: (tag, index, slot). By program: wip/whole/gen_m2.py -/
abbrev v2 : Type := Int32 ⊕ (Int64 ⊕ (Nat × Nat))
abbrev vI (x : Int32) : v2 := .inl x
abbrev vL (x : Int64) : v2 := .inr (.inl x)
abbrev vR (t i : Nat) : v2 := .inr (.inr (t, i))
abbrev Mem : Type := (Nat → Nat → Nat → Int32) × (Nat → Nat → Nat → Int64)
abbrev L2 : Type := List (Option v2)
/-- 0 an object, 1 ints, 2 longs, 3 references, 4 none -/
def g_kind (t : Nat) : Nat := match t with
  | 0 => 0
  | 1 => 0
  | 2 => 1
  | 3 => 3
  | 4 => 0
  | 5 => 1
  | 6 => 1
  | 7 => 0
  | 8 => 0
  | 9 => 1
  | 10 => 0
  | 11 => 3
  | 12 => 2
  | 13 => 1
  | 14 => 1
  | 15 => 2
  | 16 => 0
  | 17 => 1
  | 18 => 0
  | 19 => 3
  | 20 => 2
  | 21 => 0
  | 22 => 0
  | 23 => 1
  | 24 => 1
  | 25 => 1
  | 26 => 0
  | 27 => 1
  | 28 => 2
  | 29 => 1
  | 30 => 3
  | 31 => 0
  | 32 => 2
  | 40 => 0
  | 41 => 1
  | 42 => 1
  | 43 => 1
  | 44 => 1
  | 45 => 1
  | 46 => 1
  | 47 => 2
  | 48 => 1
  | 49 => 1
  | 50 => 2
  | 51 => 2
  | 52 => 2
  | 53 => 2
  | 54 => 2
  | 55 => 2
  | 56 => 2
  | 57 => 2
  | 58 => 1
  | 59 => 2
  | 60 => 2
  | 61 => 2
  | 62 => 2
  | 63 => 1
  | 64 => 1
  | 65 => 1
  | 66 => 1
  | 67 => 1
  | 68 => 2
  | 69 => 2
  | 70 => 2
  | 90 => 2
  | _ => 4
def g_cls (t : Nat) : Nat := match t with
  | 0 => 11
  | 1 => 10
  | 4 => 0
  | 7 => 8
  | 8 => 9
  | 10 => 1
  | 16 => 2
  | 18 => 4
  | 21 => 5
  | 22 => 3
  | 26 => 7
  | 31 => 6
  | 40 => 12
  | _ => 99
def g_len (t : Nat) : Nat := match t with
  | 2 => 10
  | 3 => 40
  | 5 => 4
  | 6 => 4
  | 9 => 10
  | 11 => 5
  | 12 => 6
  | 13 => 10
  | 14 => 5
  | 15 => 10
  | 17 => 10
  | 19 => 11
  | 20 => 11
  | 23 => 10
  | 24 => 10
  | 25 => 10
  | 27 => 10
  | 28 => 40
  | 29 => 10
  | 30 => 8
  | 32 => 60
  | 41 => 10
  | 42 => 40
  | 43 => 40
  | 44 => 40
  | 45 => 160
  | 46 => 160
  | 47 => 36
  | 48 => 10
  | 49 => 10
  | 50 => 30
  | 51 => 6
  | 52 => 10
  | 53 => 10
  | 54 => 20
  | 55 => 20
  | 56 => 10
  | 57 => 10
  | 58 => 10
  | 59 => 10
  | 60 => 10
  | 61 => 10
  | 62 => 10
  | 63 => 10
  | 64 => 10
  | 65 => 10
  | 66 => 8
  | 67 => 8
  | 68 => 8
  | 69 => 480
  | 70 => 60
  | 90 => 1
  | _ => 0
def g_aty (t : Nat) : FieldType := match t with
  | 2 => .int
  | 3 => .object "ChanceCourt$Act"
  | 5 => .int
  | 6 => .int
  | 9 => .int
  | 11 => .array .long
  | 12 => .long
  | 13 => .int
  | 14 => .int
  | 15 => .long
  | 17 => .int
  | 19 => .array .long
  | 20 => .long
  | 23 => .int
  | 24 => .int
  | 25 => .int
  | 27 => .int
  | 28 => .long
  | 29 => .int
  | 30 => .object "ChanceCourt$Shelf"
  | 32 => .long
  | 41 => .int
  | 42 => .int
  | 43 => .int
  | 44 => .int
  | 45 => .int
  | 46 => .int
  | 47 => .long
  | 48 => .int
  | 49 => .int
  | 50 => .long
  | 51 => .long
  | 52 => .long
  | 53 => .long
  | 54 => .long
  | 55 => .long
  | 56 => .long
  | 57 => .long
  | 58 => .int
  | 59 => .long
  | 60 => .long
  | 61 => .long
  | 62 => .long
  | 63 => .int
  | 64 => .int
  | 65 => .int
  | 66 => .int
  | 67 => .int
  | 68 => .long
  | 69 => .long
  | 70 => .long
  | 90 => .long
  | _ => .int
def g_pos (t : Nat) : List Nat := match t with
  | 0 => [0]
  | 1 => [1]
  | 2 => [2]
  | 3 => [3]
  | 4 => [4, 7, 10, 13, 16, 19, 22, 25, 28, 31, 34, 37, 40, 43, 46, 49, 52, 55, 58, 61, 64, 67, 70, 73, 76, 79, 82, 85, 88, 91, 94, 97, 100, 103, 106, 109, 112, 115, 118, 121, 203, 208, 213, 218, 223, 228, 233, 238]
  | 5 => [5, 8, 11, 14, 17, 20, 23, 26, 29, 32, 35, 38, 41, 44, 47, 50, 53, 56, 59, 62, 65, 68, 71, 74, 77, 80, 83, 86, 89, 92, 95, 98, 101, 104, 107, 110, 113, 116, 119, 122, 204, 209, 214, 219, 224, 229, 234, 239]
  | 6 => [6, 9, 12, 15, 18, 21, 24, 27, 30, 33, 36, 39, 42, 45, 48, 51, 54, 57, 60, 63, 66, 69, 72, 75, 78, 81, 84, 87, 90, 93, 96, 99, 102, 105, 108, 111, 114, 117, 120, 123, 205, 210, 215, 220, 225, 230, 235, 240]
  | 7 => [124, 137]
  | 8 => [135, 148, 191]
  | 9 => [136, 149, 192]
  | 10 => [125, 138, 181]
  | 11 => [126, 139, 182]
  | 12 => [127, 128, 129, 130, 131, 140, 141, 142, 143, 144, 183, 184, 185, 186, 187]
  | 13 => [132, 145, 188]
  | 14 => [133, 146, 189]
  | 15 => [134, 147, 190, 154, 155, 156, 157, 158, 159, 160, 161, 162, 163, 164, 168, 169, 170, 171, 172, 173, 174, 175, 176, 177, 178]
  | 16 => [150]
  | 17 => [151]
  | 18 => [152, 166]
  | 19 => [153, 167]
  | 20 => [165, 179]
  | 21 => [180]
  | 22 => [193]
  | 23 => [194]
  | 24 => [195]
  | 25 => [196]
  | 26 => [197]
  | 27 => [198]
  | 28 => [199]
  | 29 => [200]
  | 30 => [201]
  | 31 => [202, 207, 212, 217, 222, 227, 232, 237]
  | 32 => [206, 211, 216, 221, 226, 231, 236, 241]
  | 40 => [242]
  | 41 => [243]
  | 42 => [244]
  | 43 => [245]
  | 44 => [246]
  | 45 => [247]
  | 46 => [248]
  | 47 => [249]
  | 48 => [250]
  | 49 => [251]
  | 50 => [252]
  | 51 => [253]
  | 52 => [254]
  | 53 => [255]
  | 54 => [256]
  | 55 => [257]
  | 56 => [258]
  | 57 => [259]
  | 58 => [260]
  | 59 => [261]
  | 60 => [262]
  | 61 => [263]
  | 62 => [264]
  | 63 => [265]
  | 64 => [266]
  | 65 => [267]
  | 66 => [268]
  | 67 => [269]
  | 68 => [270]
  | 69 => [271]
  | 70 => [272]
  | 90 => [273]
  | _ => []
def g_tof : List (Nat × Nat) := [(0, 0), (1, 0), (2, 0), (3, 0), (4, 0), (5, 0), (6, 0), (4, 1), (5, 1), (6, 1), (4, 2), (5, 2), (6, 2), (4, 3), (5, 3), (6, 3), (4, 4), (5, 4), (6, 4), (4, 5), (5, 5), (6, 5), (4, 6), (5, 6), (6, 6), (4, 7), (5, 7), (6, 7), (4, 8), (5, 8), (6, 8), (4, 9), (5, 9), (6, 9), (4, 10), (5, 10), (6, 10), (4, 11), (5, 11), (6, 11), (4, 12), (5, 12), (6, 12), (4, 13), (5, 13), (6, 13), (4, 14), (5, 14), (6, 14), (4, 15), (5, 15), (6, 15), (4, 16), (5, 16), (6, 16), (4, 17), (5, 17), (6, 17), (4, 18), (5, 18), (6, 18), (4, 19), (5, 19), (6, 19), (4, 20), (5, 20), (6, 20), (4, 21), (5, 21), (6, 21), (4, 22), (5, 22), (6, 22), (4, 23), (5, 23), (6, 23), (4, 24), (5, 24), (6, 24), (4, 25), (5, 25), (6, 25), (4, 26), (5, 26), (6, 26), (4, 27), (5, 27), (6, 27), (4, 28), (5, 28), (6, 28), (4, 29), (5, 29), (6, 29), (4, 30), (5, 30), (6, 30), (4, 31), (5, 31), (6, 31), (4, 32), (5, 32), (6, 32), (4, 33), (5, 33), (6, 33), (4, 34), (5, 34), (6, 34), (4, 35), (5, 35), (6, 35), (4, 36), (5, 36), (6, 36), (4, 37), (5, 37), (6, 37), (4, 38), (5, 38), (6, 38), (4, 39), (5, 39), (6, 39), (7, 0), (10, 0), (11, 0), (12, 0), (12, 1), (12, 2), (12, 3), (12, 4), (13, 0), (14, 0), (15, 0), (8, 0), (9, 0), (7, 1), (10, 1), (11, 1), (12, 5), (12, 6), (12, 7), (12, 8), (12, 9), (13, 1), (14, 1), (15, 1), (8, 1), (9, 1), (16, 0), (17, 0), (18, 0), (19, 0), (15, 3), (15, 4), (15, 5), (15, 6), (15, 7), (15, 8), (15, 9), (15, 10), (15, 11), (15, 12), (15, 13), (20, 0), (18, 1), (19, 1), (15, 14), (15, 15), (15, 16), (15, 17), (15, 18), (15, 19), (15, 20), (15, 21), (15, 22), (15, 23), (15, 24), (20, 1), (21, 0), (10, 2), (11, 2), (12, 10), (12, 11), (12, 12), (12, 13), (12, 14), (13, 2), (14, 2), (15, 2), (8, 2), (9, 2), (22, 0), (23, 0), (24, 0), (25, 0), (26, 0), (27, 0), (28, 0), (29, 0), (30, 0), (31, 0), (4, 40), (5, 40), (6, 40), (32, 0), (31, 1), (4, 41), (5, 41), (6, 41), (32, 1), (31, 2), (4, 42), (5, 42), (6, 42), (32, 2), (31, 3), (4, 43), (5, 43), (6, 43), (32, 3), (31, 4), (4, 44), (5, 44), (6, 44), (32, 4), (31, 5), (4, 45), (5, 45), (6, 45), (32, 5), (31, 6), (4, 46), (5, 46), (6, 46), (32, 6), (31, 7), (4, 47), (5, 47), (6, 47), (32, 7), (40, 0), (41, 0), (42, 0), (43, 0), (44, 0), (45, 0), (46, 0), (47, 0), (48, 0), (49, 0), (50, 0), (51, 0), (52, 0), (53, 0), (54, 0), (55, 0), (56, 0), (57, 0), (58, 0), (59, 0), (60, 0), (61, 0), (62, 0), (63, 0), (64, 0), (65, 0), (66, 0), (67, 0), (68, 0), (69, 0), (70, 0), (90, 0)]
/-- the fields that are references: to which cell -/
def g_rf (t k i : Nat) : Nat × Nat := match t, k with
  | 0, 0 => (1, 0)
  | 0, 1 => (7, 0)
  | 0, 2 => (7, 1)
  | 0, 3 => (16, 0)
  | 0, 4 => (18, 0)
  | 0, 5 => (18, 1)
  | 0, 6 => (21, 0)
  | 0, 7 => (22, 0)
  | 0, 8 => (26, 0)
  | 0, 9 => (30, 0)
  | 1, 3 => (2, 0)
  | 1, 4 => (3, 0)
  | 4, 5 => (5, i)
  | 4, 6 => (6, i)
  | 7, 0 => (1, 0)
  | 7, 2 => (8, i)
  | 7, 3 => (10, i)
  | 7, 6 => (15, i)
  | 8, 0 => (1, 0)
  | 8, 2 => (9, i)
  | 10, 0 => (11, i)
  | 10, 1 => (13, i)
  | 10, 2 => (14, i)
  | 16, 0 => (1, 0)
  | 16, 1 => (7, 0)
  | 16, 3 => (17, 0)
  | 18, 0 => (1, 0)
  | 18, 3 => (19, i)
  | 18, 4 => (20, i)
  | 21, 0 => (1, 0)
  | 21, 1 => (7, 0)
  | 21, 2 => (8, 2)
  | 21, 3 => (10, 2)
  | 21, 5 => (15, 2)
  | 22, 0 => (1, 0)
  | 22, 1 => (23, 0)
  | 22, 2 => (24, 0)
  | 22, 4 => (25, 0)
  | 26, 0 => (1, 0)
  | 26, 1 => (27, 0)
  | 26, 2 => (28, 0)
  | 26, 4 => (29, 0)
  | 31, 3 => (4, 40 + i)
  | 31, 4 => (32, i)
  | 40, 3 => (41, 0)
  | 40, 4 => (42, 0)
  | 40, 5 => (43, 0)
  | 40, 6 => (44, 0)
  | 40, 7 => (45, 0)
  | 40, 8 => (46, 0)
  | 40, 9 => (47, 0)
  | 40, 10 => (48, 0)
  | 40, 11 => (49, 0)
  | 40, 13 => (50, 0)
  | 40, 14 => (51, 0)
  | 40, 15 => (52, 0)
  | 40, 16 => (53, 0)
  | 40, 17 => (54, 0)
  | 40, 18 => (55, 0)
  | 40, 19 => (56, 0)
  | 40, 20 => (57, 0)
  | 40, 23 => (58, 0)
  | 40, 24 => (59, 0)
  | 40, 25 => (60, 0)
  | 40, 27 => (61, 0)
  | 40, 28 => (62, 0)
  | 40, 29 => (63, 0)
  | 40, 31 => (64, 0)
  | 40, 32 => (65, 0)
  | 40, 33 => (66, 0)
  | 40, 34 => (67, 0)
  | 40, 35 => (68, 0)
  | 40, 36 => (69, 0)
  | 40, 37 => (70, 0)
  | _, _ => (98, 0)
def g_ra (t i j : Nat) : Nat × Nat := match t with
  | 3 => (4, j)
  | 11 => (12, 5 * i + j)
  | 19 => (15, 3 + 11 * i + j)
  | 30 => (31, j)
  | _ => (98, 0)
def g_fk (ci k : Nat) : Nat := match a_ty ci k with
  | .int => 0
  | .boolean => 1
  | .long => 2
  | _ => 3
def g_n (ci : Nat) : Nat := match vwCl[ci]? with
  | some (_, _, N) => N
  | none => 0
def inb (j : Int32) (n : Nat) : Prop := ¬ (j < 0 ∨ n ≤ j.toNatClampNeg)
def mI (m : Mem) (t i k : Nat) (v : Int32) : Mem := (fun t' i' k' => if t' = t ∧ i' = i ∧ k' = k then v else m.1 t' i' k', m.2)
def mL (m : Mem) (t i k : Nat) (v : Int64) : Mem := (m.1, fun t' i' k' => if t' = t ∧ i' = i ∧ k' = k then v else m.2 t' i' k')
def isB (v : Int32) : Prop := v = 0 ∨ v = 1
def l_get (L : L2) (k : Nat) : Option v2 := match L[k]? with
  | some (some v) => some v
  | _ => none
def l_kill (L : L2) (k : Nat) : L2 := match k with
  | 0 => L
  | j + 1 => match l_get L j with
    | some (.inr (.inl _)) => L.set j none
    | _ => L
def l_set1 (L : L2) (k : Nat) (v : v2) : L2 := (l_kill L k).set k (some v)
def l_set2 (L : L2) (k : Nat) (v : v2) : L2 := ((l_kill L k).set k (some v)).set (k + 1) none
def c_words (S : List v2) : Nat := match S with
  | [] => 0
  | .inr (.inl _) :: r => 2 + c_words r
  | _ :: r => 1 + c_words r
def b_if (c : Bool) (P : Prop) : Prop := match c with
  | true => P
  | false => False
/-- a switch, case by case -/
def sws (go : Nat → Prop) (v : Int32) : Int → List Nat → Prop
  | _, [] => True
  | lo, j :: r => (v.toInt = lo → go j) ∧ sws go v (lo + 1) r
/-- what a call's answer is, by its kind -/
def c_ret (kd : Nat) (go : List v2 → Mem → Prop) (rest : List v2) : Option v2 → Mem → Prop := match kd with
  | 0 => fun r m => r = none ∧ go rest m
  | 1 => fun r m => ∃ x : Int32, r = some (vI x) ∧ go (vI x :: rest) m
  | 2 => fun r m => ∃ x : Int64, r = some (vL x) ∧ go (vL x :: rest) m
  | t + 3 => fun r m => ∃ i : Nat, r = some (vR t i) ∧ go (vR t i :: rest) m
def b_copy (t i t2 i2 : Nat) (sp dp n : Int32) (m : Mem) (go : Mem → Prop) : Prop := match g_kind t, g_kind t2 with
  | 1, 1 => (¬ sp < 0 ∧ ¬ dp < 0 ∧ ¬ n < 0 ∧ sp.toNatClampNeg + n.toNatClampNeg ≤ g_len t ∧ dp.toNatClampNeg + n.toNatClampNeg ≤ g_len t2) ∧ go (fun a b => if a = t2 ∧ b = i2 then va_cpy (m.1 t i) (m.1 t2 i2) sp.toNatClampNeg dp.toNatClampNeg n.toNatClampNeg else m.1 a b, m.2)
  | 2, 2 => (¬ sp < 0 ∧ ¬ dp < 0 ∧ ¬ n < 0 ∧ sp.toNatClampNeg + n.toNatClampNeg ≤ g_len t ∧ dp.toNatClampNeg + n.toNatClampNeg ≤ g_len t2) ∧ go (m.1, fun a b => if a = t2 ∧ b = i2 then va_cpy (m.2 t i) (m.2 t2 i2) sp.toNatClampNeg dp.toNatClampNeg n.toNatClampNeg else m.2 a b)
  | _, _ => False
/-- one instruction, goal first. go: what must hold behind it -/
def st2 (xs : Nat × (Nat → Int32)) (C : Nat → List v2 → Mem → (Option v2 → Mem → Prop) → Prop) (rt : Option FieldType) (Q : Option v2 → Mem → Prop) (go : Nat → L2 → List v2 → Mem → Prop) (x : xI) (i : Nat) (L : L2) (S : List v2) (m : Mem) : Prop := match x with
    | (ins, _, _, a, b, z, tg) => match ins with
      | .iconst n => go (i + 1) L (vI (Int32.ofInt n) :: S) m
      | .bipush n => go (i + 1) L (vI (Int8.ofInt n).toInt32 :: S) m
      | .sipush n => go (i + 1) L (vI (Int16.ofInt n).toInt32 :: S) m
      | .lconst n => go (i + 1) L (vL (Int64.ofNat (n : Nat)) :: S) m
      | .ldc _ => go (i + 1) L (vI (Int32.ofInt z) :: S) m
      | .ldc_w _ => go (i + 1) L (vI (Int32.ofInt z) :: S) m
      | .ldc2_w _ => go (i + 1) L (vL (Int64.ofInt z) :: S) m
      | .iadd => (match S with | .inl y :: .inl x :: R => go (i + 1) L (vI (x + y) :: R) m | _ => False)
      | .isub => (match S with | .inl y :: .inl x :: R => go (i + 1) L (vI (x - y) :: R) m | _ => False)
      | .imul => (match S with | .inl y :: .inl x :: R => go (i + 1) L (vI (x * y) :: R) m | _ => False)
      | .iand => (match S with | .inl y :: .inl x :: R => go (i + 1) L (vI (x &&& y) :: R) m | _ => False)
      | .ior => (match S with | .inl y :: .inl x :: R => go (i + 1) L (vI (x ||| y) :: R) m | _ => False)
      | .ixor => (match S with | .inl y :: .inl x :: R => go (i + 1) L (vI (x ^^^ y) :: R) m | _ => False)
      | .ishl => (match S with | .inl y :: .inl x :: R => go (i + 1) L (vI (x <<< (y &&& 31)) :: R) m | _ => False)
      | .ishr => (match S with | .inl y :: .inl x :: R => go (i + 1) L (vI (x >>> (y &&& 31)) :: R) m | _ => False)
      | .iushr => (match S with | .inl y :: .inl x :: R => go (i + 1) L (vI ((x.toUInt32 >>> (y.toUInt32 &&& Int32.toUInt32 31)).toInt32) :: R) m | _ => False)
      | .idiv => (match S with | .inl y :: .inl x :: R => ¬ y = 0 ∧ go (i + 1) L (vI (x / y) :: R) m | _ => False)
      | .irem => (match S with | .inl y :: .inl x :: R => ¬ y = 0 ∧ go (i + 1) L (vI (x - x / y * y) :: R) m | _ => False)
      | .ladd => (match S with | .inr (.inl y) :: .inr (.inl x) :: R => go (i + 1) L (vL (x + y) :: R) m | _ => False)
      | .lsub => (match S with | .inr (.inl y) :: .inr (.inl x) :: R => go (i + 1) L (vL (x - y) :: R) m | _ => False)
      | .lmul => (match S with | .inr (.inl y) :: .inr (.inl x) :: R => go (i + 1) L (vL (x * y) :: R) m | _ => False)
      | .lor => (match S with | .inr (.inl y) :: .inr (.inl x) :: R => go (i + 1) L (vL (x ||| y) :: R) m | _ => False)
      | .ldiv => (match S with | .inr (.inl y) :: .inr (.inl x) :: R => ¬ y = 0 ∧ go (i + 1) L (vL (x / y) :: R) m | _ => False)
      | .lrem => (match S with | .inr (.inl y) :: .inr (.inl x) :: R => ¬ y = 0 ∧ go (i + 1) L (vL (x - x / y * y) :: R) m | _ => False)
      | .lneg => (match S with | .inr (.inl x) :: R => go (i + 1) L (vL (-x) :: R) m | _ => False)
      | .lshl => (match S with | .inl y :: .inr (.inl x) :: R => go (i + 1) L (vL (x <<< (y.toInt64 &&& 63)) :: R) m | _ => False)
      | .lcmp => (match S with | .inr (.inl y) :: .inr (.inl x) :: R => go (i + 1) L (vI (lg_cmp x y) :: R) m | _ => False)
      | .i2l => (match S with | .inl x :: R => go (i + 1) L (vL x.toInt64 :: R) m | _ => False)
      | .l2i => (match S with | .inr (.inl x) :: R => go (i + 1) L (vI x.toInt32 :: R) m | _ => False)
      | .dup => (match S with | .inl x :: R => go (i + 1) L (vI x :: vI x :: R) m | .inr (.inr (t, q)) :: R => go (i + 1) L (vR t q :: vR t q :: R) m | _ => False)
      | .pop => (match S with | .inl _ :: R => go (i + 1) L R m | .inr (.inr _) :: R => go (i + 1) L R m | _ => False)
      | .dup2 => (match S with | .inr (.inl x) :: w :: R => go (i + 1) L (vL x :: vL x :: w :: R) m | .inl x :: .inr (.inr (t, q)) :: R => go (i + 1) L (vI x :: vR t q :: vI x :: vR t q :: R) m | _ => False)
      | .iload k => (match l_get L k with | some (.inl x) => go (i + 1) L (vI x :: S) m | _ => False)
      | .iload_n k => (match l_get L k with | some (.inl x) => go (i + 1) L (vI x :: S) m | _ => False)
      | .lload k => (match l_get L k with | some (.inr (.inl x)) => go (i + 1) L (vL x :: S) m | _ => False)
      | .lload_n k => (match l_get L k with | some (.inr (.inl x)) => go (i + 1) L (vL x :: S) m | _ => False)
      | .aload k => (match l_get L k with | some (.inr (.inr (t, q))) => go (i + 1) L (vR t q :: S) m | _ => False)
      | .aload_n k => (match l_get L k with | some (.inr (.inr (t, q))) => go (i + 1) L (vR t q :: S) m | _ => False)
      | .istore k => (match S with | .inl x :: R => b_if (decide (k < L.length)) (go (i + 1) (l_set1 L k (vI x)) R m) | _ => False)
      | .istore_n k => (match S with | .inl x :: R => b_if (decide ((k : Nat) < L.length)) (go (i + 1) (l_set1 L k (vI x)) R m) | _ => False)
      | .lstore k => (match S with | .inr (.inl x) :: R => b_if (decide (k + 1 < L.length)) (go (i + 1) (l_set2 L k (vL x)) R m) | _ => False)
      | .lstore_n k => (match S with | .inr (.inl x) :: R => b_if (decide ((k : Nat) + 1 < L.length)) (go (i + 1) (l_set2 L k (vL x)) R m) | _ => False)
      | .astore k => (match S with | .inr (.inr (t, q)) :: R => b_if (decide (k < L.length)) (go (i + 1) (l_set1 L k (vR t q)) R m) | _ => False)
      | .astore_n k => (match S with | .inr (.inr (t, q)) :: R => b_if (decide ((k : Nat) < L.length)) (go (i + 1) (l_set1 L k (vR t q)) R m) | _ => False)
      | .iinc k n => (match l_get L k with | some (.inl x) => b_if (decide (k < L.length)) (go (i + 1) (l_set1 L k (vI (x + Int32.ofInt n))) S m) | _ => False)
      | .goto _ => go a L S m
      | .ifCond .eq _ => (match S with | .inl x :: R => (x = 0 → go a L R m) ∧ (¬ x = 0 → go (i + 1) L R m) | _ => False)
      | .ifCond .ne _ => (match S with | .inl x :: R => (¬ x = 0 → go a L R m) ∧ (x = 0 → go (i + 1) L R m) | _ => False)
      | .ifCond .lt _ => (match S with | .inl x :: R => (x < 0 → go a L R m) ∧ (¬ x < 0 → go (i + 1) L R m) | _ => False)
      | .ifCond .ge _ => (match S with | .inl x :: R => (0 ≤ x → go a L R m) ∧ (¬ 0 ≤ x → go (i + 1) L R m) | _ => False)
      | .ifCond .gt _ => (match S with | .inl x :: R => (0 < x → go a L R m) ∧ (¬ 0 < x → go (i + 1) L R m) | _ => False)
      | .ifCond .le _ => (match S with | .inl x :: R => (x ≤ 0 → go a L R m) ∧ (¬ x ≤ 0 → go (i + 1) L R m) | _ => False)
      | .if_icmp .eq _ => (match S with | .inl y :: .inl x :: R => (x = y → go a L R m) ∧ (¬ x = y → go (i + 1) L R m) | _ => False)
      | .if_icmp .ne _ => (match S with | .inl y :: .inl x :: R => (¬ x = y → go a L R m) ∧ (x = y → go (i + 1) L R m) | _ => False)
      | .if_icmp .lt _ => (match S with | .inl y :: .inl x :: R => (x < y → go a L R m) ∧ (¬ x < y → go (i + 1) L R m) | _ => False)
      | .if_icmp .ge _ => (match S with | .inl y :: .inl x :: R => (y ≤ x → go a L R m) ∧ (¬ y ≤ x → go (i + 1) L R m) | _ => False)
      | .if_icmp .gt _ => (match S with | .inl y :: .inl x :: R => (y < x → go a L R m) ∧ (¬ y < x → go (i + 1) L R m) | _ => False)
      | .if_icmp .le _ => (match S with | .inl y :: .inl x :: R => (x ≤ y → go a L R m) ∧ (¬ x ≤ y → go (i + 1) L R m) | _ => False)
      | .tableswitch _ lo hi _ => (match S with | .inl x :: R => (match tg with | d :: r => b_if (decide (hi = lo + (r.length : Int) - 1)) ((x.toInt < lo ∨ hi < x.toInt → go d L R m) ∧ sws (fun j => go j L R m) x lo r) | [] => False) | _ => False)
      | .getfield _ => (match S with | .inr (.inr (t, q)) :: R => b_if (decide (g_kind t = 0) && decide (g_cls t = a) && decide (b < g_n a)) (match g_fk a b with | 2 => go (i + 1) L (vL (m.2 t q b) :: R) m | 3 => go (i + 1) L (vR (g_rf t b q).1 (g_rf t b q).2 :: R) m | _ => go (i + 1) L (vI (m.1 t q b) :: R) m) | _ => False)
      | .putfield _ => (match S with
        | .inl v :: .inr (.inr (t, q)) :: R => b_if (decide (g_kind t = 0) && decide (g_cls t = a) && decide (b < g_n a)) (match g_fk a b with | 0 => go (i + 1) L R (mI m t q b v) | 1 => isB v ∧ go (i + 1) L R (mI m t q b v) | _ => False)
        | .inr (.inl v) :: .inr (.inr (t, q)) :: R => b_if (decide (g_kind t = 0) && decide (g_cls t = a) && decide (b < g_n a)) (match g_fk a b with | 2 => go (i + 1) L R (mL m t q b v) | _ => False)
        | _ => False)
      | .iaload => (match S with | .inl j :: .inr (.inr (t, q)) :: R => (match decide (t = 99) with | true => inb j xs.1 ∧ go (i + 1) L (vI (xs.2 j.toNatClampNeg) :: R) m | false => b_if (decide (g_kind t = 1)) (inb j (g_len t) ∧ go (i + 1) L (vI (m.1 t q j.toNatClampNeg) :: R) m)) | _ => False)
      | .laload => (match S with | .inl j :: .inr (.inr (t, q)) :: R => b_if (decide (g_kind t = 2)) (inb j (g_len t) ∧ go (i + 1) L (vL (m.2 t q j.toNatClampNeg) :: R) m) | _ => False)
      | .aaload => (match S with | .inl j :: .inr (.inr (t, q)) :: R => b_if (decide (g_kind t = 3)) (inb j (g_len t) ∧ go (i + 1) L (vR (g_ra t q j.toNatClampNeg).1 (g_ra t q j.toNatClampNeg).2 :: R) m) | _ => False)
      | .iastore => (match S with | .inl v :: .inl j :: .inr (.inr (t, q)) :: R => b_if (decide (g_kind t = 1)) (inb j (g_len t) ∧ go (i + 1) L R (mI m t q j.toNatClampNeg v)) | _ => False)
      | .lastore => (match S with | .inr (.inl v) :: .inl j :: .inr (.inr (t, q)) :: R => b_if (decide (g_kind t = 2)) (inb j (g_len t) ∧ go (i + 1) L R (mL m t q j.toNatClampNeg v)) | _ => False)
      | .arraylength => (match S with | .inr (.inr (t, _)) :: R => (match decide (t = 99) with | true => go (i + 1) L (vI (Int32.ofNat xs.1) :: R) m | false => b_if (decide (g_kind t = 1) || decide (g_kind t = 2)) (go (i + 1) L (vI (Int32.ofNat (g_len t)) :: R) m)) | _ => False)
      | .invokevirtual _ => b_if (decide (b ≤ S.length) && decide (c_words (S.drop b) ≤ 8) && decide (1 ≤ b) && (match (S.take b).reverse with | .inr (.inr (t, _)) :: _ => decide (g_kind t = 0) && decide ((g_cls t : Int) = z) | _ => false)) (C a (S.take b).reverse m (c_ret (tg.headD 0) (fun R m' => go (i + 1) L R m') (S.drop b)))
      | .invokestatic _ => (match decide (a = idCopy) with
        | true => (match S with | .inl n :: .inl dp :: .inr (.inr (t2, i2)) :: .inl sp :: .inr (.inr (t, q)) :: R => b_if (decide (c_words R ≤ 8)) (b_copy t q t2 i2 sp dp n m (fun m' => go (i + 1) L R m')) | _ => False)
        | false => b_if (decide (b ≤ S.length) && decide (c_words (S.drop b) ≤ 8)) (C a (S.take b).reverse m (c_ret (tg.headD 0) (fun R m' => go (i + 1) L R m') (S.drop b))))
      | .ireturn => (match S with | [.inl v] => (match rt with | some .int => Q (some (vI v)) m | some .boolean => isB v ∧ Q (some (vI v)) m | _ => False) | _ => False)
      | .lreturn => (match S with | [.inr (.inl v)] => (match rt with | some .long => Q (some (vL v)) m | _ => False) | _ => False)
      | .areturn => (match S with | [.inr (.inr (t, q))] => (match rt with | some (.object _) => Q (some (vR t q)) m | _ => False) | _ => False)
      | .return_ => (match S with | [] => (match rt with | none => Q none m | _ => False) | _ => False)
      | _ => False
/-- one stretch: up to the next cut. K: what is known at the cuts -/
def wp2i (xs : Nat × (Nat → Int32)) (C : Nat → List v2 → Mem → (Option v2 → Mem → Prop) → Prop) (tbl : List xI) (cuts : List Nat) (rt : Option FieldType) (Q : Option v2 → Mem → Prop) (K : Nat → L2 → List v2 → Mem → Prop) : Nat → Nat → L2 → List v2 → Mem → Prop
  | 0, _, _, _, _ => False
  | k + 1, i, L, S, m => match tbl[i]? with
    | none => False
    | some x => st2 xs C rt Q (fun j L S m => match cuts.elem j with
      | true => K j L S m
      | false => wp2i xs C tbl cuts rt Q K k j L S m) x i L S m
def wp2 (kf : Nat) (xs : Nat × (Nat → Int32)) (C : Nat → List v2 → Mem → (Option v2 → Mem → Prop) → Prop) (tbl : List xI) (cuts : List Nat) (rt : Option FieldType) (Q : Option v2 → Mem → Prop) : Nat → Nat → L2 → List v2 → Mem → Prop
  | 0, _, _, _, _ => False
  | n + 1, i, L, S, m => wp2i xs C tbl cuts rt Q (wp2 kf xs C tbl cuts rt Q n) kf i L S m
def g_args : List v2 → L2
  | [] => []
  | .inr (.inl x) :: r => some (vL x) :: none :: g_args r
  | v :: r => some v :: g_args r
def g_locals (maxL : Nat) (vs : List v2) : L2 := g_args vs ++ List.replicate (maxL - (g_args vs).length) none
/-- a call at M2, at most d calls deep -/
def call2 (xs : Nat × (Nat → Int32)) : Nat → Nat → List v2 → Mem → (Option v2 → Mem → Prop) → Prop
  | 0, _, _, _, _ => False
  | d + 1, j, args, m, Q => ∃ M, MT[j]? = some M ∧ M.2.2.2.2.2.1 = (0, 0) ∧ args.length = M.2.2.2.2.1 ∧ (g_args args).length ≤ M.2.2.1 ∧ ∃ cuts n, wp2 2000 xs (call2 xs d) M.2.2.2.2.2.2 cuts M.2.2.2.1 Q n 0 (g_locals M.2.2.1 args) [] m
