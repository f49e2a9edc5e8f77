set_option maxRecDepth 100000 in
theorem b_St_takenIn_0 {g : Wg} {Q : Option Vl → Mm → Prop} {k0 : Nat} {x1 : Int32} {x2 : Int32} {mem : Mm} (hv :
    Go g h_St_takenIn Q 5 [(0, vO 2 k0 0), (1, vI x1), (2, vI x2), (3, vI 0), (4, vI 0)] [] mem) : Go g h_St_takenIn Q 0 [(0, vO 2 k0 0), (1, vI x1), (2, vI x2)] [] mem := Go.cutN o_St_takenIn [(5, [0, 1, 2, 3, 4])] 6 hv
set_option maxRecDepth 100000 in
theorem b_St_takenIn_5 {g : Wg} {Q : Option Vl → Mm → Prop} {k0 : Nat} {x1 : Int32} {x2 : Int32} {x3 : Int32} {x4 : Int32} {mem : Mm} (hv :
    ((mem (2, k0, 0) 6) ≤ x4 →
     Q (some (vI x3)) mem) ∧ (¬ (mem (2, k0, 0) 6) ≤ x4 →
     vp_in x4 24 ∧
     (¬ (mem (9, k0, x4.toNatClampNeg) 4) = x1 →
      Go g h_St_takenIn Q 5 [(0, vO 2 k0 0), (1, vI x1), (2, vI x2), (3, vI x3), (4, vI (x4 + 1))] [] mem) ∧ ((mem (9, k0, x4.toNatClampNeg) 4) = x1 →
      vp_in x4 24 ∧
      RunI g h_Ch_has [vO 9 k0 x4.toNatClampNeg, vI x2] mem (fun r1 m1 =>
       (r1 = 0 →
        Go g h_St_takenIn Q 5 [(0, vO 2 k0 0), (1, vI x1), (2, vI x2), (3, vI x3), (4, vI (x4 + 1))] [] m1) ∧ (¬ r1 = 0 →
        Go g h_St_takenIn Q 5 [(0, vO 2 k0 0), (1, vI x1), (2, vI x2), (3, vI (x3 + 1)), (4, vI (x4 + 1))] [] m1))))) : Go g h_St_takenIn Q 5 [(0, vO 2 k0 0), (1, vI x1), (2, vI x2), (3, vI x3), (4, vI x4)] [] mem := Go.cutN o_St_takenIn [(5, [0, 1, 2, 3, 4])] 23 hv
set_option maxRecDepth 100000 in
theorem b_Md_taken_0 {g : Wg} {Q : Option Vl → Mm → Prop} {x1 : Int32} {x2 : Int32} {mem : Mm} (hv :
    Go g h_Md_taken Q 5 [(0, vO 17 0 0), (1, vI x1), (2, vI x2), (3, vI 0), (4, vI 0)] [] mem) : Go g h_Md_taken Q 0 [(0, vO 17 0 0), (1, vI x1), (2, vI x2)] [] mem := Go.cutN o_Md_taken [(5, [0, 1, 2, 3, 4])] 6 hv
set_option maxRecDepth 100000 in
theorem b_Md_taken_5 {g : Wg} {Q : Option Vl → Mm → Prop} {x1 : Int32} {x2 : Int32} {x3 : Int32} {x4 : Int32} {mem : Mm} (hv :
    vp_in 8 429 ∧
    ((mem (18, 0, 0) (8 : Int32).toNatClampNeg) ≤ x4 →
     Q (some (vI x3)) mem) ∧ (¬ (mem (18, 0, 0) (8 : Int32).toNatClampNeg) ≤ x4 →
     RunI g h_Md_isIn [vO 17 0 0, vI x4, vI x1] mem (fun r1 m1 =>
      (r1 = 0 →
       Go g h_Md_taken Q 5 [(0, vO 17 0 0), (1, vI x1), (2, vI x2), (3, vI (x3 + 0)), (4, vI (x4 + 1))] [] m1) ∧ (¬ r1 = 0 →
       RunI g h_Md_of [vO 17 0 0, vI x4, vI 5] m1 (fun r2 m2 =>
        RunI g h_Md_has [vI r2, vI x2] m2 (fun r3 m3 =>
         (r3 = 0 →
          Go g h_Md_taken Q 5 [(0, vO 17 0 0), (1, vI x1), (2, vI x2), (3, vI (x3 + 0)), (4, vI (x4 + 1))] [] m3) ∧ (¬ r3 = 0 →
          Go g h_Md_taken Q 5 [(0, vO 17 0 0), (1, vI x1), (2, vI x2), (3, vI (x3 + 1)), (4, vI (x4 + 1))] [] m3))))))) : Go g h_Md_taken Q 5 [(0, vO 17 0 0), (1, vI x1), (2, vI x2), (3, vI x3), (4, vI x4)] [] mem := Go.cutN o_Md_taken [(5, [0, 1, 2, 3, 4])] 27 hv
set_option maxRecDepth 100000 in
theorem b_N_ofRoom_0 {g : Wg} {Q : Option Vl → Mm → Prop} {x1 : Int32} {x2 : Int32} {mem : Mm} (hv :
    RunI g h_St_hasRoom [vO 2 0 0, vI x1] mem (fun r1 m1 =>
     (¬ r1 = 0 →
      RunI g h_N_isWithin [vI x2, vI 10, vI 19] m1 (fun r2 m2 =>
       (r2 = 0 →
        RunI g h_N_isWithin [vI x2, vI 20, vI 29] m2 (fun r3 m3 =>
         (r3 = 0 →
          RunI g h_N_isWithin [vI x2, vI 30, vI 39] m3 (fun r4 m4 =>
           (r4 = 0 →
            vp_in x1 5 ∧
            (x2 = 0 →
             Q (some (vI (m4 (7, 0, x1.toNatClampNeg) 0))) m4) ∧ (¬ x2 = 0 →
             (x2 = 1 →
              Q (some (vI (m4 (7, 0, x1.toNatClampNeg) 1))) m4) ∧ (¬ x2 = 1 →
              (x2 = 2 →
               Q (some (vI (m4 (7, 0, x1.toNatClampNeg) 2))) m4) ∧ (¬ x2 = 2 →
               (x2 = 3 →
                Q (some (vI (m4 (7, 0, x1.toNatClampNeg) 3))) m4) ∧ (¬ x2 = 3 →
                (x2 = 4 →
                 RunI g h_St_carersOf [vO 2 0 0, vI x1] m4 (fun r5 m5 =>
                  Q (some (vI r5)) m5)) ∧ (¬ x2 = 4 →
                 (x2 = 5 →
                  RunI g h_St_childrenOf [vO 2 0 0, vI x1] m4 (fun r6 m6 =>
                   Q (some (vI r6)) m6)) ∧ (¬ x2 = 5 →
                  Q (some (vI ((-2)))) m4))))))) ∧ (¬ r4 = 0 →
            RunI g h_St_placesIn [vO 2 0 0, vI x1, vI (x2 - 30), vI 0] m4 (fun r7 m7 =>
             Q (some (vI r7)) m7)))) ∧ (¬ r3 = 0 →
          RunI g h_St_takenIn [vO 2 0 0, vI x1, vI (x2 - 20)] m3 (fun r8 m8 =>
           Q (some (vI r8)) m8)))) ∧ (¬ r2 = 0 →
        RunI g h_St_placesIn [vO 2 0 0, vI x1, vI (x2 - 10), vI 1] m2 (fun r9 m9 =>
         Q (some (vI r9)) m9)))) ∧ (r1 = 0 →
      Q (some (vI ((-1)))) m1))) : Go g h_N_ofRoom Q 0 [(0, vO 1 0 0), (1, vI x1), (2, vI x2)] [] mem := Go.cutN o_N_ofRoom [] 34 hv
set_option maxRecDepth 100000 in
theorem b_St_placesIn_0 {g : Wg} {Q : Option Vl → Mm → Prop} {k0 : Nat} {x1 : Int32} {x2 : Int32} {x3 : Int32} {mem : Mm} (hv :
    RunI g h_St_hasRoom [vO 2 k0 0, vI x1] mem (fun r1 m1 =>
     (¬ r1 = 0 →
      (¬ 2 = (0 : Int32)) ∧
      (¬ 2 = (0 : Int32)) ∧
      vp_in x1 5 ∧
      Go g h_St_placesIn Q 37 [(0, vO 2 k0 0), (1, vI x1), (3, vI x3), (4, vI (x2 / 2)), (5, vI ((x2 - x2 / 2 * 2) * 5)), (6, vI (m1 (7, k0, x1.toNatClampNeg) 2)), (7, vI ((x2 - x2 / 2 * 2) * 5))] [] m1) ∧ (r1 = 0 →
      Q (some (vI 0)) m1))) : Go g h_St_placesIn Q 0 [(0, vO 2 k0 0), (1, vI x1), (2, vI x2), (3, vI x3)] [] mem := Go.cutN o_St_placesIn [(37, [0, 1, 3, 4, 5, 6, 7]), (52, [0, 1, 3, 4, 5, 6, 7, 8, 9])] 24 hv
set_option maxRecDepth 100000 in
theorem b_St_placesIn_37 {g : Wg} {Q : Option Vl → Mm → Prop} {k0 : Nat} {x1 : Int32} {x3 : Int32} {x4 : Int32} {x5 : Int32} {x6 : Int32} {x7 : Int32} {mem : Mm} (hv :
    ((x5 + 5) ≤ x7 →
     Q (some (vI x6)) mem) ∧ (¬ (x5 + 5) ≤ x7 →
     Go g h_St_placesIn Q 52 [(0, vO 2 k0 0), (1, vI x1), (3, vI x3), (4, vI x4), (5, vI x5), (6, vI x6), (7, vI x7), (8, vI 0), (9, vI 0)] [] mem)) : Go g h_St_placesIn Q 37 [(0, vO 2 k0 0), (1, vI x1), (3, vI x3), (4, vI x4), (5, vI x5), (6, vI x6), (7, vI x7)] [] mem := Go.cutN o_St_placesIn [(37, [0, 1, 3, 4, 5, 6, 7]), (52, [0, 1, 3, 4, 5, 6, 7, 8, 9])] 11 hv
set_option maxRecDepth 100000 in
theorem b_St_placesIn_52 {g : Wg} {Q : Option Vl → Mm → Prop} {k0 : Nat} {x1 : Int32} {x3 : Int32} {x4 : Int32} {x5 : Int32} {x6 : Int32} {x7 : Int32} {x8 : Int32} {x9 : Int32} {mem : Mm} (hv :
    ((mem (2, k0, 0) 5) ≤ x9 →
     vp_in x1 5 ∧
     RunI g h_Mth_min [vI x6, vI ((mem (7, k0, x1.toNatClampNeg) 3) * x8)] mem (fun r1 m1 =>
      Go g h_St_placesIn Q 37 [(0, vO 2 k0 0), (1, vI x1), (3, vI x3), (4, vI x4), (5, vI x5), (6, vI r1), (7, vI (x7 + 1))] [] m1)) ∧ (¬ (mem (2, k0, 0) 5) ≤ x9 →
     vp_in x9 13 ∧
     (¬ (mem (8, k0, x9.toNatClampNeg) 0) = x1 →
      ((0 : Int32) = 0 →
       Go g h_St_placesIn Q 52 [(0, vO 2 k0 0), (1, vI x1), (3, vI x3), (4, vI x4), (5, vI x5), (6, vI x6), (7, vI x7), (8, vI x8), (9, vI (x9 + 1))] [] mem) ∧ (¬ (0 : Int32) = 0 →
       RunI g h_Ca_isOnDuty [vO 8 k0 x9.toNatClampNeg, vI x4, vI x7] mem (fun r2 m2 =>
        (r2 = 0 →
         Go g h_St_placesIn Q 52 [(0, vO 2 k0 0), (1, vI x1), (3, vI x3), (4, vI x4), (5, vI x5), (6, vI x6), (7, vI x7), (8, vI x8), (9, vI (x9 + 1))] [] m2) ∧ (¬ r2 = 0 →
         Go g h_St_placesIn Q 52 [(0, vO 2 k0 0), (1, vI x1), (3, vI x3), (4, vI x4), (5, vI x5), (6, vI x6), (7, vI x7), (8, vI (x8 + 1)), (9, vI (x9 + 1))] [] m2)))) ∧ ((mem (8, k0, x9.toNatClampNeg) 0) = x1 →
      (¬ x3 = 0 →
       ((1 : Int32) = 0 →
        Go g h_St_placesIn Q 52 [(0, vO 2 k0 0), (1, vI x1), (3, vI x3), (4, vI x4), (5, vI x5), (6, vI x6), (7, vI x7), (8, vI x8), (9, vI (x9 + 1))] [] mem) ∧ (¬ (1 : Int32) = 0 →
        RunI g h_Ca_isOnDuty [vO 8 k0 x9.toNatClampNeg, vI x4, vI x7] mem (fun r3 m3 =>
         (r3 = 0 →
          Go g h_St_placesIn Q 52 [(0, vO 2 k0 0), (1, vI x1), (3, vI x3), (4, vI x4), (5, vI x5), (6, vI x6), (7, vI x7), (8, vI x8), (9, vI (x9 + 1))] [] m3) ∧ (¬ r3 = 0 →
          Go g h_St_placesIn Q 52 [(0, vO 2 k0 0), (1, vI x1), (3, vI x3), (4, vI x4), (5, vI x5), (6, vI x6), (7, vI x7), (8, vI (x8 + 1)), (9, vI (x9 + 1))] [] m3)))) ∧ (x3 = 0 →
       (¬ (mem (8, k0, x9.toNatClampNeg) 4) = 0 →
        ((0 : Int32) = 0 →
         Go g h_St_placesIn Q 52 [(0, vO 2 k0 0), (1, vI x1), (3, vI x3), (4, vI x4), (5, vI x5), (6, vI x6), (7, vI x7), (8, vI x8), (9, vI (x9 + 1))] [] mem) ∧ (¬ (0 : Int32) = 0 →
         RunI g h_Ca_isOnDuty [vO 8 k0 x9.toNatClampNeg, vI x4, vI x7] mem (fun r4 m4 =>
          (r4 = 0 →
           Go g h_St_placesIn Q 52 [(0, vO 2 k0 0), (1, vI x1), (3, vI x3), (4, vI x4), (5, vI x5), (6, vI x6), (7, vI x7), (8, vI x8), (9, vI (x9 + 1))] [] m4) ∧ (¬ r4 = 0 →
           Go g h_St_placesIn Q 52 [(0, vO 2 k0 0), (1, vI x1), (3, vI x3), (4, vI x4), (5, vI x5), (6, vI x6), (7, vI x7), (8, vI (x8 + 1)), (9, vI (x9 + 1))] [] m4)))) ∧ ((mem (8, k0, x9.toNatClampNeg) 4) = 0 →
        ((1 : Int32) = 0 →
         Go g h_St_placesIn Q 52 [(0, vO 2 k0 0), (1, vI x1), (3, vI x3), (4, vI x4), (5, vI x5), (6, vI x6), (7, vI x7), (8, vI x8), (9, vI (x9 + 1))] [] mem) ∧ (¬ (1 : Int32) = 0 →
         RunI g h_Ca_isOnDuty [vO 8 k0 x9.toNatClampNeg, vI x4, vI x7] mem (fun r5 m5 =>
          (r5 = 0 →
           Go g h_St_placesIn Q 52 [(0, vO 2 k0 0), (1, vI x1), (3, vI x3), (4, vI x4), (5, vI x5), (6, vI x6), (7, vI x7), (8, vI x8), (9, vI (x9 + 1))] [] m5) ∧ (¬ r5 = 0 →
           Go g h_St_placesIn Q 52 [(0, vO 2 k0 0), (1, vI x1), (3, vI x3), (4, vI x4), (5, vI x5), (6, vI x6), (7, vI x7), (8, vI (x8 + 1)), (9, vI (x9 + 1))] [] m5)))))))) : Go g h_St_placesIn Q 52 [(0, vO 2 k0 0), (1, vI x1), (3, vI x3), (4, vI x4), (5, vI x5), (6, vI x6), (7, vI x7), (8, vI x8), (9, vI x9)] [] mem := Go.cutN o_St_placesIn [(37, [0, 1, 3, 4, 5, 6, 7]), (52, [0, 1, 3, 4, 5, 6, 7, 8, 9])] 33 hv
set_option maxRecDepth 100000 in
theorem b_Md_come_0 {g : Wg} {Q : Option Vl → Mm → Prop} {x1 : Int32} {x2 : Int32} {mem : Mm} (hv :
    Go g h_Md_come Q 8 [(0, vO 17 0 0), (1, vI x1), (2, vI x2), (3, vI 0), (4, vI 0), (5, vI 0)] [] mem) : Go g h_Md_come Q 0 [(0, vO 17 0 0), (1, vI x1), (2, vI x2)] [] mem := Go.cutN o_Md_come [(8, [0, 1, 2, 3, 4, 5]), (116, [0, 2, 3, 4, 5]), (137, [0, 2, 3, 4, 5, 6, 7]), (272, [0, 2, 3, 4, 6])] 8 hv
set_option maxRecDepth 100000 in
theorem b_Md_come_8 {g : Wg} {Q : Option Vl → Mm → Prop} {x1 : Int32} {x2 : Int32} {x3 : Int32} {x4 : Int32} {x5 : Int32} {mem : Mm} (hv :
    vp_in 8 429 ∧
    ((mem (18, 0, 0) (8 : Int32).toNatClampNeg) ≤ x5 →
     RunI g h_Md_places [vO 17 0 0, vI x1, vI x2, vI 0] mem (fun r1 m1 =>
      Go g h_Md_come Q 116 [(0, vO 17 0 0), (2, vI x2), (3, vI x3), (4, vI x4), (5, vI r1)] [] m1)) ∧ (¬ (mem (18, 0, 0) (8 : Int32).toNatClampNeg) ≤ x5 →
     RunI g h_Md_isIn [vO 17 0 0, vI x5, vI x1] mem (fun r2 m2 =>
      (r2 = 0 →
       (r2 = 0 →
        Go g h_Md_come Q 8 [(0, vO 17 0 0), (1, vI x1), (2, vI x2), (3, vI (x3 ||| 0)), (4, vI (x4 ||| 0)), (5, vI (x5 + 1))] [] m2) ∧ (¬ r2 = 0 →
        RunI g h_Md_of [vO 17 0 0, vI x5, vI 8] m2 (fun r3 m3 =>
         (¬ r3 = x2 →
          Go g h_Md_come Q 8 [(0, vO 17 0 0), (1, vI x1), (2, vI x2), (3, vI (x3 ||| 0)), (4, vI (x4 ||| 0)), (5, vI (x5 + 1))] [] m3) ∧ (r3 = x2 →
          Go g h_Md_come Q 8 [(0, vO 17 0 0), (1, vI x1), (2, vI x2), (3, vI (x3 ||| 0)), (4, vI (x4 ||| (1 <<< (x5 &&& 31)))), (5, vI (x5 + 1))] [] m3)))) ∧ (¬ r2 = 0 →
       RunI g h_Md_of [vO 17 0 0, vI x5, vI 6] m2 (fun r4 m4 =>
        (¬ r4 = 1 →
         (r2 = 0 →
          Go g h_Md_come Q 8 [(0, vO 17 0 0), (1, vI x1), (2, vI x2), (3, vI (x3 ||| 0)), (4, vI (x4 ||| 0)), (5, vI (x5 + 1))] [] m4) ∧ (¬ r2 = 0 →
          RunI g h_Md_of [vO 17 0 0, vI x5, vI 8] m4 (fun r5 m5 =>
           (¬ r5 = x2 →
            Go g h_Md_come Q 8 [(0, vO 17 0 0), (1, vI x1), (2, vI x2), (3, vI (x3 ||| 0)), (4, vI (x4 ||| 0)), (5, vI (x5 + 1))] [] m5) ∧ (r5 = x2 →
            Go g h_Md_come Q 8 [(0, vO 17 0 0), (1, vI x1), (2, vI x2), (3, vI (x3 ||| 0)), (4, vI (x4 ||| (1 <<< (x5 &&& 31)))), (5, vI (x5 + 1))] [] m5)))) ∧ (r4 = 1 →
         RunI g h_Md_of [vO 17 0 0, vI x5, vI 5] m4 (fun r6 m6 =>
          RunI g h_Md_has [vI r6, vI x2] m6 (fun r7 m7 =>
           (r7 = 0 →
            (r2 = 0 →
             Go g h_Md_come Q 8 [(0, vO 17 0 0), (1, vI x1), (2, vI x2), (3, vI (x3 ||| 0)), (4, vI (x4 ||| 0)), (5, vI (x5 + 1))] [] m7) ∧ (¬ r2 = 0 →
             RunI g h_Md_of [vO 17 0 0, vI x5, vI 8] m7 (fun r8 m8 =>
              (¬ r8 = x2 →
               Go g h_Md_come Q 8 [(0, vO 17 0 0), (1, vI x1), (2, vI x2), (3, vI (x3 ||| 0)), (4, vI (x4 ||| 0)), (5, vI (x5 + 1))] [] m8) ∧ (r8 = x2 →
               Go g h_Md_come Q 8 [(0, vO 17 0 0), (1, vI x1), (2, vI x2), (3, vI (x3 ||| 0)), (4, vI (x4 ||| (1 <<< (x5 &&& 31)))), (5, vI (x5 + 1))] [] m8)))) ∧ (¬ r7 = 0 →
            (r2 = 0 →
             Go g h_Md_come Q 8 [(0, vO 17 0 0), (1, vI x1), (2, vI x2), (3, vI (x3 ||| (1 <<< (x5 &&& 31)))), (4, vI (x4 ||| 0)), (5, vI (x5 + 1))] [] m7) ∧ (¬ r2 = 0 →
             RunI g h_Md_of [vO 17 0 0, vI x5, vI 8] m7 (fun r9 m9 =>
              (¬ r9 = x2 →
               Go g h_Md_come Q 8 [(0, vO 17 0 0), (1, vI x1), (2, vI x2), (3, vI (x3 ||| (1 <<< (x5 &&& 31)))), (4, vI (x4 ||| 0)), (5, vI (x5 + 1))] [] m9) ∧ (r9 = x2 →
               Go g h_Md_come Q 8 [(0, vO 17 0 0), (1, vI x1), (2, vI x2), (3, vI (x3 ||| (1 <<< (x5 &&& 31)))), (4, vI (x4 ||| (1 <<< (x5 &&& 31)))), (5, vI (x5 + 1))] [] m9)))))))))))) : Go g h_Md_come Q 8 [(0, vO 17 0 0), (1, vI x1), (2, vI x2), (3, vI x3), (4, vI x4), (5, vI x5)] [] mem := Go.cutN o_Md_come [(8, [0, 1, 2, 3, 4, 5]), (116, [0, 2, 3, 4, 5]), (137, [0, 2, 3, 4, 5, 6, 7]), (272, [0, 2, 3, 4, 6])] 52 hv
set_option maxRecDepth 100000 in
theorem b_Md_come_116 {g : Wg} {Q : Option Vl → Mm → Prop} {x2 : Int32} {x3 : Int32} {x4 : Int32} {x5 : Int32} {mem : Mm} (hv :
    RunI g h_Md_ones [vI x3] mem (fun r1 m1 =>
     RunI g h_Md_ones [vI x4] m1 (fun r2 m2 =>
      ((r1 + r2) ≤ x5 →
       Go g h_Md_come Q 272 [(0, vO 17 0 0), (2, vI x2), (3, vI x3), (4, vI x4), (6, vI 0)] [] m2) ∧ (¬ (r1 + r2) ≤ x5 →
       Go g h_Md_come Q 137 [(0, vO 17 0 0), (2, vI x2), (3, vI x3), (4, vI x4), (5, vI x5), (6, vI ((-1))), (7, vI 0)] [] m2)))) : Go g h_Md_come Q 116 [(0, vO 17 0 0), (2, vI x2), (3, vI x3), (4, vI x4), (5, vI x5)] [] mem := Go.cutN o_Md_come [(8, [0, 1, 2, 3, 4, 5]), (116, [0, 2, 3, 4, 5]), (137, [0, 2, 3, 4, 5, 6, 7]), (272, [0, 2, 3, 4, 6])] 13 hv
set_option maxRecDepth 100000 in
theorem b_Md_come_137 {g : Wg} {Q : Option Vl → Mm → Prop} {x2 : Int32} {x3 : Int32} {x4 : Int32} {x5 : Int32} {x6 : Int32} {x7 : Int32} {mem : Mm} (hv :
    vp_in 8 429 ∧
    ((mem (18, 0, 0) (8 : Int32).toNatClampNeg) ≤ x7 →
     vp_in x6 24 ∧
     vp_in x6 24 ∧
     RunI g h_Md_has [vI x3, vI x6] (mset mem 18 7 0 x6.toNatClampNeg ((mem (18, 7, 0) x6.toNatClampNeg) + 1)) (fun r1 m1 =>
      (r1 = 0 →
       Go g h_Md_come Q 116 [(0, vO 17 0 0), (2, vI x2), (3, vI (x3 &&& ((-1)))), (4, vI (x4 &&& ((1 <<< (x6 &&& 31)) ^^^ ((-1))))), (5, vI x5)] [] m1) ∧ (¬ r1 = 0 →
       RunI g h_Md_isVisiting [vO 17 0 0, vI x6, vI x2] m1 (fun r2 m2 =>
        (¬ r2 = 0 →
         Go g h_Md_come Q 116 [(0, vO 17 0 0), (2, vI x2), (3, vI (x3 &&& ((-1)))), (4, vI (x4 &&& ((1 <<< (x6 &&& 31)) ^^^ ((-1))))), (5, vI x5)] [] m2) ∧ (r2 = 0 →
         Go g h_Md_come Q 116 [(0, vO 17 0 0), (2, vI x2), (3, vI (x3 &&& ((1 <<< (x6 &&& 31)) ^^^ ((-1))))), (4, vI (x4 &&& ((1 <<< (x6 &&& 31)) ^^^ ((-1))))), (5, vI x5)] [] m2))))) ∧ (¬ (mem (18, 0, 0) (8 : Int32).toNatClampNeg) ≤ x7 →
     RunI g h_Md_has [vI x4, vI x7] mem (fun r3 m3 =>
      (¬ r3 = 0 →
       Go g h_Md_come Q 137 [(0, vO 17 0 0), (2, vI x2), (3, vI x3), (4, vI x4), (5, vI x5), (6, vI x7), (7, vI (x7 + 1))] [] m3) ∧ (r3 = 0 →
       (¬ x4 = 0 →
        Go g h_Md_come Q 137 [(0, vO 17 0 0), (2, vI x2), (3, vI x3), (4, vI x4), (5, vI x5), (6, vI x6), (7, vI (x7 + 1))] [] m3) ∧ (x4 = 0 →
        RunI g h_Md_has [vI x3, vI x7] m3 (fun r4 m4 =>
         (r4 = 0 →
          Go g h_Md_come Q 137 [(0, vO 17 0 0), (2, vI x2), (3, vI x3), (4, vI x4), (5, vI x5), (6, vI x6), (7, vI (x7 + 1))] [] m4) ∧ (¬ r4 = 0 →
          (x6 < 0 →
           Go g h_Md_come Q 137 [(0, vO 17 0 0), (2, vI x2), (3, vI x3), (4, vI x4), (5, vI x5), (6, vI x7), (7, vI (x7 + 1))] [] m4) ∧ (¬ x6 < 0 →
           RunI g h_Md_of [vO 17 0 0, vI x7, vI 13] m4 (fun r5 m5 =>
            RunI g h_Md_of [vO 17 0 0, vI x6, vI 13] m5 (fun r6 m6 =>
             (r5 ≤ r6 →
              Go g h_Md_come Q 137 [(0, vO 17 0 0), (2, vI x2), (3, vI x3), (4, vI x4), (5, vI x5), (6, vI x6), (7, vI (x7 + 1))] [] m6) ∧ (¬ r5 ≤ r6 →
              Go g h_Md_come Q 137 [(0, vO 17 0 0), (2, vI x2), (3, vI x3), (4, vI x4), (5, vI x5), (6, vI x7), (7, vI (x7 + 1))] [] m6))))))))))) : Go g h_Md_come Q 137 [(0, vO 17 0 0), (2, vI x2), (3, vI x3), (4, vI x4), (5, vI x5), (6, vI x6), (7, vI x7)] [] mem := Go.cutN o_Md_come [(8, [0, 1, 2, 3, 4, 5]), (116, [0, 2, 3, 4, 5]), (137, [0, 2, 3, 4, 5, 6, 7]), (272, [0, 2, 3, 4, 6])] 43 hv
set_option maxRecDepth 100000 in
theorem b_Md_come_272 {g : Wg} {Q : Option Vl → Mm → Prop} {x2 : Int32} {x3 : Int32} {x4 : Int32} {x6 : Int32} {mem : Mm} (hv :
    vp_in 8 429 ∧
    ((mem (18, 0, 0) (8 : Int32).toNatClampNeg) ≤ x6 →
     Q none mem) ∧ (¬ (mem (18, 0, 0) (8 : Int32).toNatClampNeg) ≤ x6 →
     vp_in x6 24 ∧
     RunI g h_Md_has [vI x3, vI x6] mem (fun r1 m1 =>
      (r1 = 0 →
       vp_in x6 24 ∧
       vp_in x6 24 ∧
       RunI g h_Md_has [vI x4, vI x6] (mset m1 18 6 0 x6.toNatClampNeg ((mem (18, 6, 0) x6.toNatClampNeg) ||| 0)) (fun r2 m2 =>
        (r2 = 0 →
         vp_in x6 24 ∧
         let u3 : Mm := mset m2 18 6 0 x6.toNatClampNeg (((mset m1 18 6 0 x6.toNatClampNeg ((mem (18, 6, 0) x6.toNatClampNeg) ||| 0)) (18, 6, 0) x6.toNatClampNeg) ||| 0)
         Go g h_Md_come Q 272 [(0, vO 17 0 0), (2, vI x2), (3, vI x3), (4, vI x4), (6, vI (x6 + 1))] [] u3) ∧ (¬ r2 = 0 →
         vp_in x6 24 ∧
         let u4 : Mm := mset m2 18 6 0 x6.toNatClampNeg (((mset m1 18 6 0 x6.toNatClampNeg ((mem (18, 6, 0) x6.toNatClampNeg) ||| 0)) (18, 6, 0) x6.toNatClampNeg) ||| 1024)
         Go g h_Md_come Q 272 [(0, vO 17 0 0), (2, vI x2), (3, vI x3), (4, vI x4), (6, vI (x6 + 1))] [] u4))) ∧ (¬ r1 = 0 →
       vp_in x6 24 ∧
       vp_in x6 24 ∧
       RunI g h_Md_has [vI x4, vI x6] (mset m1 18 6 0 x6.toNatClampNeg ((mem (18, 6, 0) x6.toNatClampNeg) ||| (1 <<< (x2 &&& 31)))) (fun r5 m5 =>
        (r5 = 0 →
         vp_in x6 24 ∧
         let u6 : Mm := mset m5 18 6 0 x6.toNatClampNeg (((mset m1 18 6 0 x6.toNatClampNeg ((mem (18, 6, 0) x6.toNatClampNeg) ||| (1 <<< (x2 &&& 31)))) (18, 6, 0) x6.toNatClampNeg) ||| 0)
         Go g h_Md_come Q 272 [(0, vO 17 0 0), (2, vI x2), (3, vI x3), (4, vI x4), (6, vI (x6 + 1))] [] u6) ∧ (¬ r5 = 0 →
         vp_in x6 24 ∧
         let u7 : Mm := mset m5 18 6 0 x6.toNatClampNeg (((mset m1 18 6 0 x6.toNatClampNeg ((mem (18, 6, 0) x6.toNatClampNeg) ||| (1 <<< (x2 &&& 31)))) (18, 6, 0) x6.toNatClampNeg) ||| 1024)
         Go g h_Md_come Q 272 [(0, vO 17 0 0), (2, vI x2), (3, vI x3), (4, vI x4), (6, vI (x6 + 1))] [] u7)))))) : Go g h_Md_come Q 272 [(0, vO 17 0 0), (2, vI x2), (3, vI x3), (4, vI x4), (6, vI x6)] [] mem := Go.cutN o_Md_come [(8, [0, 1, 2, 3, 4, 5]), (116, [0, 2, 3, 4, 5]), (137, [0, 2, 3, 4, 5, 6, 7]), (272, [0, 2, 3, 4, 6])] 38 hv
set_option maxRecDepth 100000 in
theorem b_Md_readOrder_0 {g : Wg} {Q : Option Vl → Mm → Prop}  {mem : Mm} (hv :
    ((mem (17, 0, 0) 8) ≤ (mem (17, 0, 0) 12) →
     (((mset (mset mem 17 0 0 13 0) 17 0 0 12 (((mset mem 17 0 0 13 0) (17, 0, 0) 12) + 1)) (17, 0, 0) 13) = 97 →
      ((1 : Int32) = 0 ∨ (1 : Int32) = 1) ∧ Q (some (vI 1)) (mset (mset mem 17 0 0 13 0) 17 0 0 12 (((mset mem 17 0 0 13 0) (17, 0, 0) 12) + 1))) ∧ (¬ ((mset (mset mem 17 0 0 13 0) 17 0 0 12 (((mset mem 17 0 0 13 0) (17, 0, 0) 12) + 1)) (17, 0, 0) 13) = 97 →
      (((mset (mset mem 17 0 0 13 0) 17 0 0 12 (((mset mem 17 0 0 13 0) (17, 0, 0) 12) + 1)) (17, 0, 0) 13) = 99 →
       RunI g h_Md_number [vO 17 0 0, vI 0] (mset (mset mem 17 0 0 13 0) 17 0 0 12 (((mset mem 17 0 0 13 0) (17, 0, 0) 12) + 1)) (fun r1 m1 =>
        (r1 = 0 →
         ((0 : Int32) = 0 ∨ (0 : Int32) = 1) ∧ Q (some (vI 0)) m1) ∧ (¬ r1 = 0 →
         RunI g h_Md_sign [vO 17 0 0, vI 47] m1 (fun r2 m2 =>
          (r2 = 0 →
           ((0 : Int32) = 0 ∨ (0 : Int32) = 1) ∧ Q (some (vI 0)) m2) ∧ (¬ r2 = 0 →
           RunI g h_Md_number [vO 17 0 0, vI 1] m2 (fun r3 m3 =>
            (r3 = 0 →
             ((0 : Int32) = 0 ∨ (0 : Int32) = 1) ∧ Q (some (vI 0)) m3) ∧ (¬ r3 = 0 →
             RunI g h_Md_sign [vO 17 0 0, vI 58] m3 (fun r4 m4 =>
              (r4 = 0 →
               ((0 : Int32) = 0 ∨ (0 : Int32) = 1) ∧ Q (some (vI 0)) m4) ∧ (¬ r4 = 0 →
               RunI g h_Md_number [vO 17 0 0, vI 2] m4 (fun r5 m5 =>
                (r5 = 0 →
                 ((0 : Int32) = 0 ∨ (0 : Int32) = 1) ∧ Q (some (vI 0)) m5) ∧ (¬ r5 = 0 →
                 ((1 : Int32) = 0 ∨ (1 : Int32) = 1) ∧ Q (some (vI 1)) m5))))))))))) ∧ (¬ ((mset (mset mem 17 0 0 13 0) 17 0 0 12 (((mset mem 17 0 0 13 0) (17, 0, 0) 12) + 1)) (17, 0, 0) 13) = 99 →
       (((mset (mset mem 17 0 0 13 0) 17 0 0 12 (((mset mem 17 0 0 13 0) (17, 0, 0) 12) + 1)) (17, 0, 0) 13) = 115 →
        RunI g h_Md_number [vO 17 0 0, vI 0] (mset (mset mem 17 0 0 13 0) 17 0 0 12 (((mset mem 17 0 0 13 0) (17, 0, 0) 12) + 1)) (fun r6 m6 =>
         ((r6 : Int32) = 0 ∨ (r6 : Int32) = 1) ∧ Q (some (vI r6)) m6)) ∧ (¬ ((mset (mset mem 17 0 0 13 0) 17 0 0 12 (((mset mem 17 0 0 13 0) (17, 0, 0) 12) + 1)) (17, 0, 0) 13) = 115 →
        (((mset (mset mem 17 0 0 13 0) 17 0 0 12 (((mset mem 17 0 0 13 0) (17, 0, 0) 12) + 1)) (17, 0, 0) 13) = 118 →
         RunI g h_Md_childAt [vO 17 0 0, vI 0] (mset (mset mem 17 0 0 13 0) 17 0 0 12 (((mset mem 17 0 0 13 0) (17, 0, 0) 12) + 1)) (fun r7 m7 =>
          ((r7 : Int32) = 0 ∨ (r7 : Int32) = 1) ∧ Q (some (vI r7)) m7)) ∧ (¬ ((mset (mset mem 17 0 0 13 0) 17 0 0 12 (((mset mem 17 0 0 13 0) (17, 0, 0) 12) + 1)) (17, 0, 0) 13) = 118 →
         (((mset (mset mem 17 0 0 13 0) 17 0 0 12 (((mset mem 17 0 0 13 0) (17, 0, 0) 12) + 1)) (17, 0, 0) 13) = 119 →
          RunI g h_Md_number [vO 17 0 0, vI 0] (mset (mset mem 17 0 0 13 0) 17 0 0 12 (((mset mem 17 0 0 13 0) (17, 0, 0) 12) + 1)) (fun r8 m8 =>
           ((r8 : Int32) = 0 ∨ (r8 : Int32) = 1) ∧ Q (some (vI r8)) m8)) ∧ (¬ ((mset (mset mem 17 0 0 13 0) 17 0 0 12 (((mset mem 17 0 0 13 0) (17, 0, 0) 12) + 1)) (17, 0, 0) 13) = 119 →
          (((mset (mset mem 17 0 0 13 0) 17 0 0 12 (((mset mem 17 0 0 13 0) (17, 0, 0) 12) + 1)) (17, 0, 0) 13) = 120 →
           RunI g h_Md_childAt [vO 17 0 0, vI 0] (mset (mset mem 17 0 0 13 0) 17 0 0 12 (((mset mem 17 0 0 13 0) (17, 0, 0) 12) + 1)) (fun r9 m9 =>
            (r9 = 0 →
             ((0 : Int32) = 0 ∨ (0 : Int32) = 1) ∧ Q (some (vI 0)) m9) ∧ (¬ r9 = 0 →
             RunI g h_Md_sign [vO 17 0 0, vI 61] m9 (fun r10 m10 =>
              (r10 = 0 →
               ((0 : Int32) = 0 ∨ (0 : Int32) = 1) ∧ Q (some (vI 0)) m10) ∧ (¬ r10 = 0 →
               RunI g h_Md_childAt [vO 17 0 0, vI 2] m10 (fun r11 m11 =>
                (r11 = 0 →
                 ((0 : Int32) = 0 ∨ (0 : Int32) = 1) ∧ Q (some (vI 0)) m11) ∧ (¬ r11 = 0 →
                 ((1 : Int32) = 0 ∨ (1 : Int32) = 1) ∧ Q (some (vI 1)) m11))))))) ∧ (¬ ((mset (mset mem 17 0 0 13 0) 17 0 0 12 (((mset mem 17 0 0 13 0) (17, 0, 0) 12) + 1)) (17, 0, 0) 13) = 120 →
           let u12 : Mm := mset (mset (mset mem 17 0 0 13 0) 17 0 0 12 (((mset mem 17 0 0 13 0) (17, 0, 0) 12) + 1)) 17 0 0 12 (((mset (mset mem 17 0 0 13 0) 17 0 0 12 (((mset mem 17 0 0 13 0) (17, 0, 0) 12) + 1)) (17, 0, 0) 12) - 1)
           ((0 : Int32) = 0 ∨ (0 : Int32) = 1) ∧ Q (some (vI 0)) u12))))))) ∧ (¬ (mem (17, 0, 0) 8) ≤ (mem (17, 0, 0) 12) →
     vp_in (mem (17, 0, 0) 12) 80 ∧
     let u13 : Mm := mset (mset mem 17 0 0 13 (mem (18, 4, 0) (mem (17, 0, 0) 12).toNatClampNeg)) 17 0 0 12 (((mset mem 17 0 0 13 (mem (18, 4, 0) (mem (17, 0, 0) 12).toNatClampNeg)) (17, 0, 0) 12) + 1)
     ((u13 (17, 0, 0) 13) = 97 →
      ((1 : Int32) = 0 ∨ (1 : Int32) = 1) ∧ Q (some (vI 1)) u13) ∧ (¬ (u13 (17, 0, 0) 13) = 97 →
      ((u13 (17, 0, 0) 13) = 99 →
       RunI g h_Md_number [vO 17 0 0, vI 0] u13 (fun r14 m14 =>
        (r14 = 0 →
         ((0 : Int32) = 0 ∨ (0 : Int32) = 1) ∧ Q (some (vI 0)) m14) ∧ (¬ r14 = 0 →
         RunI g h_Md_sign [vO 17 0 0, vI 47] m14 (fun r15 m15 =>
          (r15 = 0 →
           ((0 : Int32) = 0 ∨ (0 : Int32) = 1) ∧ Q (some (vI 0)) m15) ∧ (¬ r15 = 0 →
           RunI g h_Md_number [vO 17 0 0, vI 1] m15 (fun r16 m16 =>
            (r16 = 0 →
             ((0 : Int32) = 0 ∨ (0 : Int32) = 1) ∧ Q (some (vI 0)) m16) ∧ (¬ r16 = 0 →
             RunI g h_Md_sign [vO 17 0 0, vI 58] m16 (fun r17 m17 =>
              (r17 = 0 →
               ((0 : Int32) = 0 ∨ (0 : Int32) = 1) ∧ Q (some (vI 0)) m17) ∧ (¬ r17 = 0 →
               RunI g h_Md_number [vO 17 0 0, vI 2] m17 (fun r18 m18 =>
                (r18 = 0 →
                 ((0 : Int32) = 0 ∨ (0 : Int32) = 1) ∧ Q (some (vI 0)) m18) ∧ (¬ r18 = 0 →
                 ((1 : Int32) = 0 ∨ (1 : Int32) = 1) ∧ Q (some (vI 1)) m18))))))))))) ∧ (¬ (u13 (17, 0, 0) 13) = 99 →
       ((u13 (17, 0, 0) 13) = 115 →
        RunI g h_Md_number [vO 17 0 0, vI 0] u13 (fun r19 m19 =>
         ((r19 : Int32) = 0 ∨ (r19 : Int32) = 1) ∧ Q (some (vI r19)) m19)) ∧ (¬ (u13 (17, 0, 0) 13) = 115 →
        ((u13 (17, 0, 0) 13) = 118 →
         RunI g h_Md_childAt [vO 17 0 0, vI 0] u13 (fun r20 m20 =>
          ((r20 : Int32) = 0 ∨ (r20 : Int32) = 1) ∧ Q (some (vI r20)) m20)) ∧ (¬ (u13 (17, 0, 0) 13) = 118 →
         ((u13 (17, 0, 0) 13) = 119 →
          RunI g h_Md_number [vO 17 0 0, vI 0] u13 (fun r21 m21 =>
           ((r21 : Int32) = 0 ∨ (r21 : Int32) = 1) ∧ Q (some (vI r21)) m21)) ∧ (¬ (u13 (17, 0, 0) 13) = 119 →
          ((u13 (17, 0, 0) 13) = 120 →
           RunI g h_Md_childAt [vO 17 0 0, vI 0] u13 (fun r22 m22 =>
            (r22 = 0 →
             ((0 : Int32) = 0 ∨ (0 : Int32) = 1) ∧ Q (some (vI 0)) m22) ∧ (¬ r22 = 0 →
             RunI g h_Md_sign [vO 17 0 0, vI 61] m22 (fun r23 m23 =>
              (r23 = 0 →
               ((0 : Int32) = 0 ∨ (0 : Int32) = 1) ∧ Q (some (vI 0)) m23) ∧ (¬ r23 = 0 →
               RunI g h_Md_childAt [vO 17 0 0, vI 2] m23 (fun r24 m24 =>
                (r24 = 0 →
                 ((0 : Int32) = 0 ∨ (0 : Int32) = 1) ∧ Q (some (vI 0)) m24) ∧ (¬ r24 = 0 →
                 ((1 : Int32) = 0 ∨ (1 : Int32) = 1) ∧ Q (some (vI 1)) m24))))))) ∧ (¬ (u13 (17, 0, 0) 13) = 120 →
           ((0 : Int32) = 0 ∨ (0 : Int32) = 1) ∧ Q (some (vI 0)) (mset u13 17 0 0 12 ((u13 (17, 0, 0) 12) - 1)))))))))) : Go g h_Md_readOrder Q 0 [(0, vO 17 0 0)] [] mem := Go.cutN o_Md_readOrder [] 46 hv
set_option maxRecDepth 100000 in
theorem b_Ca_copyFrom_0 {g : Wg} {Q : Option Vl → Mm → Prop} {k0 : Nat} {i0 : Nat} {k1 : Nat} {i1 : Nat} {mem : Mm} (hv :
    let u1 : Mm := mset (mset mem 8 k0 i0 0 (mem (8, k1, i1) 0)) 8 k0 i0 1 ((mset mem 8 k0 i0 0 (mem (8, k1, i1) 0)) (8, k1, i1) 1)
    let u2 : Mm := mset (mset u1 8 k0 i0 2 (u1 (8, k1, i1) 2)) 8 k0 i0 3 ((mset u1 8 k0 i0 2 (u1 (8, k1, i1) 2)) (8, k1, i1) 3)
    ((u2 (8, k1, i1) 4) = (0 : Int32) ∨ (u2 (8, k1, i1) 4) = 1) ∧
    Q none (mset u2 8 k0 i0 4 (u2 (8, k1, i1) 4))) : Go g h_Ca_copyFrom Q 0 [(0, vO 8 k0 i0), (1, vO 8 k1 i1)] [] mem := Go.cutN o_Ca_copyFrom [] 22 hv
