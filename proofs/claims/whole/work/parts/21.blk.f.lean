/-! WHAT THE SMALL MACHINE ASKS between cuts (laid by a program; each row is its own evaluation) -/
set_option maxRecDepth 100000 in
theorem b_Md_count_0 {g : Wg} {Q : Option Vl → Mm → Prop} {x1 : Int32} {mem : Mm} (hv :
    (x1 = 0 →
     vp_in (5 + x1) 429 ∧
     Q (some (vI (mem (18, 0, 0) (5 + x1).toNatClampNeg))) mem) ∧ (¬ x1 = 0 →
     (x1 = 1 →
      vp_in (5 + x1) 429 ∧
      Q (some (vI (mem (18, 0, 0) (5 + x1).toNatClampNeg))) mem) ∧ (¬ x1 = 1 →
      (x1 = 2 →
       vp_in (5 + x1) 429 ∧
       Q (some (vI (mem (18, 0, 0) (5 + x1).toNatClampNeg))) mem) ∧ (¬ x1 = 2 →
       (x1 = 3 →
        vp_in (5 + x1) 429 ∧
        Q (some (vI (mem (18, 0, 0) (5 + x1).toNatClampNeg))) mem) ∧ (¬ x1 = 3 →
        (x1 = 4 →
         RunI g h_Md_inState [vO 17 0 0, vI (x1 - 4)] mem (fun r1 m1 =>
          Q (some (vI r1)) m1)) ∧ (¬ x1 = 4 →
         (x1 = 5 →
          RunI g h_Md_inState [vO 17 0 0, vI (x1 - 4)] mem (fun r2 m2 =>
           Q (some (vI r2)) m2)) ∧ (¬ x1 = 5 →
          (x1 = 6 →
           RunI g h_Md_inState [vO 17 0 0, vI (x1 - 4)] mem (fun r3 m3 =>
            Q (some (vI r3)) m3)) ∧ (¬ x1 = 6 →
           (x1 = 7 →
            RunI g h_Md_settledSet [vO 17 0 0] mem (fun r4 m4 =>
             Q (some (vI r4)) m4)) ∧ (¬ x1 = 7 →
            (x1 = 8 →
             vp_in ((9 + x1) - 8) 429 ∧
             Q (some (vI (mem (18, 0, 0) ((9 + x1) - 8).toNatClampNeg))) mem) ∧ (¬ x1 = 8 →
             (x1 = 9 →
              vp_in ((9 + x1) - 8) 429 ∧
              Q (some (vI (mem (18, 0, 0) ((9 + x1) - 8).toNatClampNeg))) mem) ∧ (¬ x1 = 9 →
              (x1 = 10 →
               vp_in ((9 + x1) - 8) 429 ∧
               Q (some (vI (mem (18, 0, 0) ((9 + x1) - 8).toNatClampNeg))) mem) ∧ (¬ x1 = 10 →
               (x1 = 11 →
                RunI g h_Md_plannedMany [vO 17 0 0] mem (fun r5 m5 =>
                 Q (some (vI r5)) m5)) ∧ (¬ x1 = 11 →
                (x1 = 12 →
                 Q (some (vI (mem (17, 0, 0) 8))) mem) ∧ (¬ x1 = 12 →
                 (x1 = 13 →
                  Q (some (vI (mem (17, 0, 0) 3))) mem) ∧ (¬ x1 = 13 →
                  RunI g h_Md_in [vI x1, vI 14, vI 18] mem (fun r6 m6 =>
                   (r6 = 0 →
                    Q (some (vI ((-2)))) m6) ∧ (¬ r6 = 0 →
                    vp_in (x1 - 14) 429 ∧
                    Q (some (vI (m6 (18, 0, 0) (x1 - 14).toNatClampNeg))) m6))))))))))))))))) : Go g h_Md_count Q 0 [(0, vO 17 0 0), (1, vI x1)] [] mem := Go.cutN o_Md_count [] 16 hv
set_option maxRecDepth 100000 in
theorem b_Md_giveBack_0 {g : Wg} {Q : Option Vl → Mm → Prop} {x1 : Int32} {x2 : Int32} {mem : Mm} (hv :
    RunI g h_Md_isChild [vO 17 0 0, vI x1] mem (fun r1 m1 =>
     (r1 = 0 →
      Q (some (vI ((-1)))) m1) ∧ (¬ r1 = 0 →
      RunI g h_Md_isSession [vI x2] m1 (fun r2 m2 =>
       (¬ r2 = 0 →
        RunI g h_Md_of [vO 17 0 0, vI x1, vI 3] m2 (fun r3 m3 =>
         (¬ r3 = 1 →
          Q (some (vI ((-5)))) m3) ∧ (r3 = 1 →
          RunI g h_Md_of [vO 17 0 0, vI x1, vI 5] m3 (fun r4 m4 =>
           RunI g h_Md_has [vI r4, vI x2] m4 (fun r5 m5 =>
            (r5 = 0 →
             Q (some (vI ((-5)))) m5) ∧ (¬ r5 = 0 →
             RunI g h_Md_of [vO 17 0 0, vI x1, vI 5] m5 (fun r6 m6 =>
              RunI g h_Md_ones [vI r6] m6 (fun r7 m7 =>
               vp_in 2 429 ∧
               ((m7 (18, 0, 0) 2) ≤ (r7 - 1) →
                RunV g h_Md_record [vO 17 0 0] m7 (fun m8 =>
                 RunI g h_Md_of [vO 17 0 0, vI x1, vI 5] m8 (fun r9 m9 =>
                  RunV g h_Md_put3 [vO 17 0 0, vI x1, vI 5, vI (r9 ^^^ (1 <<< (x2 &&& 31)))] m9 (fun m10 =>
                   RunI g h_Md_of [vO 17 0 0, vI x1, vI 5] m10 (fun r11 m11 =>
                    RunI g h_Md_ones [vI r11] m11 (fun r12 m12 =>
                     Q (some (vI r12)) m12)))))) ∧ (¬ (m7 (18, 0, 0) 2) ≤ (r7 - 1) →
                Q (some (vI ((-5)))) m7))))))))) ∧ (r2 = 0 →
        Q (some (vI ((-1)))) m2))))) : Go g h_Md_giveBack Q 0 [(0, vO 17 0 0), (1, vI x1), (2, vI x2)] [] mem := Go.cutN o_Md_giveBack [] 53 hv
set_option maxRecDepth 100000 in
theorem b_Md_guests_0 {g : Wg} {Q : Option Vl → Mm → Prop} {x1 : Int32} {x2 : Int32} {mem : Mm} (hv :
    Go g h_Md_guests Q 5 [(0, vO 17 0 0), (1, vI x1), (2, vI x2), (3, vI 0), (4, vI 0)] [] mem) : Go g h_Md_guests Q 0 [(0, vO 17 0 0), (1, vI x1), (2, vI x2)] [] mem := Go.cutN o_Md_guests [(5, [0, 1, 2, 3, 4])] 6 hv
set_option maxRecDepth 100000 in
theorem b_Md_guests_5 {g : Wg} {Q : Option Vl → Mm → Prop} {x1 : Int32} {x2 : Int32} {x3 : Int32} {x4 : Int32} {mem : Mm} (hv :
    vp_in 8 429 ∧
    ((mem (18, 0, 0) 8) ≤ x4 →
     Q (some (vI x3)) mem) ∧ (¬ (mem (18, 0, 0) 8) ≤ x4 →
     RunI g h_Md_isIn [vO 17 0 0, vI x4, vI x1] mem (fun r1 m1 =>
      (r1 = 0 →
       Go g h_Md_guests Q 5 [(0, vO 17 0 0), (1, vI x1), (2, vI x2), (3, vI (x3 + 0)), (4, vI (x4 + 1))] [] m1) ∧ (¬ r1 = 0 →
       RunI g h_Md_of [vO 17 0 0, vI x4, vI 8] m1 (fun r2 m2 =>
        (¬ r2 = x2 →
         Go g h_Md_guests Q 5 [(0, vO 17 0 0), (1, vI x1), (2, vI x2), (3, vI (x3 + 0)), (4, vI (x4 + 1))] [] m2) ∧ (r2 = x2 →
         RunI g h_Md_of [vO 17 0 0, vI x4, vI 5] m2 (fun r3 m3 =>
          RunI g h_Md_has [vI r3, vI x2] m3 (fun r4 m4 =>
           (¬ r4 = 0 →
            Go g h_Md_guests Q 5 [(0, vO 17 0 0), (1, vI x1), (2, vI x2), (3, vI (x3 + 0)), (4, vI (x4 + 1))] [] m4) ∧ (r4 = 0 →
            Go g h_Md_guests Q 5 [(0, vO 17 0 0), (1, vI x1), (2, vI x2), (3, vI (x3 + 1)), (4, vI (x4 + 1))] [] m4))))))))) : Go g h_Md_guests Q 5 [(0, vO 17 0 0), (1, vI x1), (2, vI x2), (3, vI x3), (4, vI x4)] [] mem := Go.cutN o_Md_guests [(5, [0, 1, 2, 3, 4])] 33 hv
set_option maxRecDepth 100000 in
theorem b_Md_leave_0 {g : Wg} {Q : Option Vl → Mm → Prop} {x1 : Int32} {mem : Mm} (hv :
    RunI g h_Md_isChild [vO 17 0 0, vI x1] mem (fun r1 m1 =>
     (¬ r1 = 0 →
      RunI g h_Md_of [vO 17 0 0, vI x1, vI 3] m1 (fun r2 m2 =>
       (¬ r2 = 2 →
        RunV g h_Md_record [vO 17 0 0] m2 (fun m3 =>
         RunV g h_Md_becomes [vO 17 0 0, vI x1, vI 2] m3 (fun m4 =>
          RunI g h_Md_inState [vO 17 0 0, vI 1] m4 (fun r5 m5 =>
           RunI g h_Md_ones [vI r5] m5 (fun r6 m6 =>
            Q (some (vI r6)) m6))))) ∧ (r2 = 2 →
        Q (some (vI ((-5)))) m2))) ∧ (r1 = 0 →
      Q (some (vI ((-1)))) m1))) : Go g h_Md_leave Q 0 [(0, vO 17 0 0), (1, vI x1)] [] mem := Go.cutN o_Md_leave [] 22 hv
set_option maxRecDepth 100000 in
theorem b_Md_ofCarer_0 {g : Wg} {Q : Option Vl → Mm → Prop} {x1 : Int32} {x2 : Int32} {mem : Mm} (hv :
    RunI g h_Md_isCarer [vO 17 0 0, vI x1] mem (fun r1 m1 =>
     (¬ r1 = 0 →
      RunI g h_Md_in [vI x2, vI 0, vI 4] m1 (fun r2 m2 =>
       (r2 = 0 →
        Q (some (vI ((-2)))) m2) ∧ (¬ r2 = 0 →
        vp_in ((33 + (5 * x1)) + x2) 429 ∧
        Q (some (vI (m2 (18, 0, 0) ((33 + (5 * x1)) + x2).toNatClampNeg))) m2))) ∧ (r1 = 0 →
      Q (some (vI ((-1)))) m1))) : Go g h_Md_ofCarer Q 0 [(0, vO 17 0 0), (1, vI x1), (2, vI x2)] [] mem := Go.cutN o_Md_ofCarer [] 22 hv
set_option maxRecDepth 100000 in
theorem b_Md_ofChild_0 {g : Wg} {Q : Option Vl → Mm → Prop} {x1 : Int32} {x2 : Int32} {mem : Mm} (hv :
    RunI g h_Md_isChild [vO 17 0 0, vI x1] mem (fun r1 m1 =>
     (¬ r1 = 0 →
      RunI g h_Md_in [vI x2, vI 0, vI 12] m1 (fun r2 m2 =>
       (¬ r2 = 0 →
        (¬ x2 = 4 →
         RunI g h_Md_of [vO 17 0 0, vI x1, vI x2] m2 (fun r3 m3 =>
          Q (some (vI r3)) m3)) ∧ (x2 = 4 →
         RunI g h_Md_of [vO 17 0 0, vI x1, vI 3] m2 (fun r4 m4 =>
          (r4 = 1 →
           RunI g h_Md_of [vO 17 0 0, vI x1, vI x2] m4 (fun r5 m5 =>
            Q (some (vI r5)) m5)) ∧ (¬ r4 = 1 →
           Q (some (vI ((-6)))) m4)))) ∧ (r2 = 0 →
        Q (some (vI ((-2)))) m2))) ∧ (r1 = 0 →
      Q (some (vI ((-1)))) m1))) : Go g h_Md_ofChild Q 0 [(0, vO 17 0 0), (1, vI x1), (2, vI x2)] [] mem := Go.cutN o_Md_ofChild [] 24 hv
set_option maxRecDepth 100000 in
theorem b_Md_pays_0 {g : Wg} {Q : Option Vl → Mm → Prop} {x1 : Int32} {mem : Mm} (hv :
    vp_in x1 24 ∧
    RunI g h_Md_ones [vI ((mem (18, 6, 0) x1.toNatClampNeg) &&& 1023)] mem (fun r1 m1 =>
     RunI g h_Md_priceFor [vO 17 0 0, vI x1] m1 (fun r2 m2 =>
      RunI g h_Md_of [vO 17 0 0, vI x1, vI 9] m2 (fun r3 m3 =>
       RunV g h_Md_put3 [vO 17 0 0, vI x1, vI 9, vI (r3 + r1)] m3 (fun m4 =>
        RunI g h_Md_of [vO 17 0 0, vI x1, vI 11] m4 (fun r5 m5 =>
         RunV g h_Md_put3 [vO 17 0 0, vI x1, vI 11, vI (r5 + (r1 * r2))] m5 (fun m6 =>
          vp_in 9 429 ∧
          vp_in 9 429 ∧
          RunI g h_Md_of [vO 17 0 0, vI x1, vI 10] (mset m6 18 0 0 9 ((m6 (18, 0, 0) 9) + (r1 * r2))) (fun r7 m7 =>
           vp_in x1 24 ∧
           RunV g h_Md_put3 [vO 17 0 0, vI x1, vI 10, vI (r7 + (m7 (18, 7, 0) x1.toNatClampNeg))] m7 (fun m8 =>
            vp_in 11 429 ∧
            vp_in x1 24 ∧
            vp_in 11 429 ∧
            Q none (mset m8 18 0 0 11 ((m8 (18, 0, 0) 11) + (m8 (18, 7, 0) x1.toNatClampNeg)))))))))))) : Go g h_Md_pays Q 0 [(0, vO 17 0 0), (1, vI x1)] [] mem := Go.cutN o_Md_pays [] 68 hv
set_option maxRecDepth 100000 in
theorem b_Md_places_0 {g : Wg} {Q : Option Vl → Mm → Prop} {x1 : Int32} {x2 : Int32} {x3 : Int32} {mem : Mm} (hv :
    vp_in ((13 + (4 * x1)) + 2) 429 ∧
    Go g h_Md_places Q 18 [(0, vO 17 0 0), (1, vI x1), (2, vI x2), (3, vI x3), (4, vI (mem (18, 0, 0) ((13 + (4 * x1)) + 2).toNatClampNeg)), (5, vI 0)] [] mem) : Go g h_Md_places Q 0 [(0, vO 17 0 0), (1, vI x1), (2, vI x2), (3, vI x3)] [] mem := Go.cutN o_Md_places [(18, [0, 1, 2, 3, 4, 5])] 15 hv
set_option maxRecDepth 100000 in
theorem b_Md_places_18 {g : Wg} {Q : Option Vl → Mm → Prop} {x1 : Int32} {x2 : Int32} {x3 : Int32} {x4 : Int32} {x5 : Int32} {mem : Mm} (hv :
    (5 ≤ x5 →
     Q (some (vI x4)) mem) ∧ (¬ 5 ≤ x5 →
     vp_in ((13 + (4 * x1)) + 3) 429 ∧
     (¬ 2 = (0 : Int32)) ∧
     RunI g h_Md_carersAt [vO 17 0 0, vI x1, vI x2, vI (((x2 - x2 / 2 * 2) * 5) + x5), vI x3] mem (fun r1 m1 =>
      (x4 ≤ ((mem (18, 0, 0) ((13 + (4 * x1)) + 3).toNatClampNeg) * r1) →
       Go g h_Md_places Q 18 [(0, vO 17 0 0), (1, vI x1), (2, vI x2), (3, vI x3), (4, vI x4), (5, vI (x5 + 1))] [] m1) ∧ (¬ x4 ≤ ((mem (18, 0, 0) ((13 + (4 * x1)) + 3).toNatClampNeg) * r1) →
       Go g h_Md_places Q 18 [(0, vO 17 0 0), (1, vI x1), (2, vI x2), (3, vI x3), (4, vI ((mem (18, 0, 0) ((13 + (4 * x1)) + 3).toNatClampNeg) * r1)), (5, vI (x5 + 1))] [] m1)))) : Go g h_Md_places Q 18 [(0, vO 17 0 0), (1, vI x1), (2, vI x2), (3, vI x3), (4, vI x4), (5, vI x5)] [] mem := Go.cutN o_Md_places [(18, [0, 1, 2, 3, 4, 5])] 37 hv
set_option maxRecDepth 100000 in
theorem b_Md_placesWith_0 {g : Wg} {Q : Option Vl → Mm → Prop} {x1 : Int32} {x2 : Int32} {x3 : Int32} {x4 : Int32} {mem : Mm} (hv :
    Go g h_Md_placesWith Q 6 [(0, vO 17 0 0), (1, vI x1), (2, vI x2), (3, vI x3), (4, vI x4), (5, vI 0), (6, vI 0)] [] mem) : Go g h_Md_placesWith Q 0 [(0, vO 17 0 0), (1, vI x1), (2, vI x2), (3, vI x3), (4, vI x4)] [] mem := Go.cutN o_Md_placesWith [(6, [0, 1, 2, 3, 4, 5, 6]), (31, [0, 1, 2, 3, 4, 5, 6, 7, 8])] 6 hv
set_option maxRecDepth 100000 in
theorem b_Md_placesWith_6 {g : Wg} {Q : Option Vl → Mm → Prop} {x1 : Int32} {x2 : Int32} {x3 : Int32} {x4 : Int32} {x5 : Int32} {x6 : Int32} {mem : Mm} (hv :
    (10 ≤ x6 →
     Q (some (vI x5)) mem) ∧ (¬ 10 ≤ x6 →
     vp_in ((13 + (4 * x1)) + 2) 429 ∧
     Go g h_Md_placesWith Q 31 [(0, vO 17 0 0), (1, vI x1), (2, vI x2), (3, vI x3), (4, vI x4), (5, vI x5), (6, vI x6), (7, vI (mem (18, 0, 0) ((13 + (4 * x1)) + 2).toNatClampNeg)), (8, vI 0)] [] mem)) : Go g h_Md_placesWith Q 6 [(0, vO 17 0 0), (1, vI x1), (2, vI x2), (3, vI x3), (4, vI x4), (5, vI x5), (6, vI x6)] [] mem := Go.cutN o_Md_placesWith [(6, [0, 1, 2, 3, 4, 5, 6]), (31, [0, 1, 2, 3, 4, 5, 6, 7, 8])] 18 hv
set_option maxRecDepth 100000 in
theorem b_Md_placesWith_31 {g : Wg} {Q : Option Vl → Mm → Prop} {x1 : Int32} {x2 : Int32} {x3 : Int32} {x4 : Int32} {x5 : Int32} {x6 : Int32} {x7 : Int32} {x8 : Int32} {mem : Mm} (hv :
    (5 ≤ x8 →
     Go g h_Md_placesWith Q 6 [(0, vO 17 0 0), (1, vI x1), (2, vI x2), (3, vI x3), (4, vI x4), (5, vI (x5 + x7)), (6, vI (x6 + 1))] [] mem) ∧ (¬ 5 ≤ x8 →
     (¬ 2 = (0 : Int32)) ∧
     RunI g h_Md_carersAt [vO 17 0 0, vI x1, vI x6, vI (((x6 - x6 / 2 * 2) * 5) + x8), vI 1] mem (fun r1 m1 =>
      (¬ 2 = (0 : Int32)) ∧
      RunI g h_Md_has [vI x2, vI (x6 / 2)] m1 (fun r2 m2 =>
       (r2 = 0 →
        vp_in ((13 + (4 * x1)) + 3) 429 ∧
        (x7 ≤ ((m2 (18, 0, 0) ((13 + (4 * x1)) + 3).toNatClampNeg) * (r1 + 0)) →
         Go g h_Md_placesWith Q 31 [(0, vO 17 0 0), (1, vI x1), (2, vI x2), (3, vI x3), (4, vI x4), (5, vI x5), (6, vI x6), (7, vI x7), (8, vI (x8 + 1))] [] m2) ∧ (¬ x7 ≤ ((m2 (18, 0, 0) ((13 + (4 * x1)) + 3).toNatClampNeg) * (r1 + 0)) →
         Go g h_Md_placesWith Q 31 [(0, vO 17 0 0), (1, vI x1), (2, vI x2), (3, vI x3), (4, vI x4), (5, vI x5), (6, vI x6), (7, vI ((m2 (18, 0, 0) ((13 + (4 * x1)) + 3).toNatClampNeg) * (r1 + 0))), (8, vI (x8 + 1))] [] m2)) ∧ (¬ r2 = 0 →
        RunI g h_Md_in [vI (((x6 - x6 / 2 * 2) * 5) + x8), vI x3, vI (x4 - 1)] m2 (fun r3 m3 =>
         (r3 = 0 →
          vp_in ((13 + (4 * x1)) + 3) 429 ∧
          (x7 ≤ ((m3 (18, 0, 0) ((13 + (4 * x1)) + 3).toNatClampNeg) * (r1 + 0)) →
           Go g h_Md_placesWith Q 31 [(0, vO 17 0 0), (1, vI x1), (2, vI x2), (3, vI x3), (4, vI x4), (5, vI x5), (6, vI x6), (7, vI x7), (8, vI (x8 + 1))] [] m3) ∧ (¬ x7 ≤ ((m3 (18, 0, 0) ((13 + (4 * x1)) + 3).toNatClampNeg) * (r1 + 0)) →
           Go g h_Md_placesWith Q 31 [(0, vO 17 0 0), (1, vI x1), (2, vI x2), (3, vI x3), (4, vI x4), (5, vI x5), (6, vI x6), (7, vI ((m3 (18, 0, 0) ((13 + (4 * x1)) + 3).toNatClampNeg) * (r1 + 0))), (8, vI (x8 + 1))] [] m3)) ∧ (¬ r3 = 0 →
          vp_in ((13 + (4 * x1)) + 3) 429 ∧
          (x7 ≤ ((m3 (18, 0, 0) ((13 + (4 * x1)) + 3).toNatClampNeg) * (r1 + 1)) →
           Go g h_Md_placesWith Q 31 [(0, vO 17 0 0), (1, vI x1), (2, vI x2), (3, vI x3), (4, vI x4), (5, vI x5), (6, vI x6), (7, vI x7), (8, vI (x8 + 1))] [] m3) ∧ (¬ x7 ≤ ((m3 (18, 0, 0) ((13 + (4 * x1)) + 3).toNatClampNeg) * (r1 + 1)) →
           Go g h_Md_placesWith Q 31 [(0, vO 17 0 0), (1, vI x1), (2, vI x2), (3, vI x3), (4, vI x4), (5, vI x5), (6, vI x6), (7, vI ((m3 (18, 0, 0) ((13 + (4 * x1)) + 3).toNatClampNeg) * (r1 + 1))), (8, vI (x8 + 1))] [] m3)))))))) : Go g h_Md_placesWith Q 31 [(0, vO 17 0 0), (1, vI x1), (2, vI x2), (3, vI x3), (4, vI x4), (5, vI x5), (6, vI x6), (7, vI x7), (8, vI x8)] [] mem := Go.cutN o_Md_placesWith [(6, [0, 1, 2, 3, 4, 5, 6]), (31, [0, 1, 2, 3, 4, 5, 6, 7, 8])] 57 hv
set_option maxRecDepth 100000 in
theorem b_Md_sick_0 {g : Wg} {Q : Option Vl → Mm → Prop} {x1 : Int32} {mem : Mm} (hv :
    RunI g h_Md_isCarer [vO 17 0 0, vI x1] mem (fun r1 m1 =>
     (¬ r1 = 0 →
      vp_in ((33 + (5 * x1)) + 4) 429 ∧
      (¬ (m1 (18, 0, 0) ((33 + (5 * x1)) + 4).toNatClampNeg) = 1 →
       RunV g h_Md_record [vO 17 0 0] m1 (fun m2 =>
        vp_in ((33 + (5 * x1)) + 4) 429 ∧
        Go g h_Md_sick Q 52 [(0, vO 17 0 0), (2, vI 0), (3, vI 0)] [] (mset m2 18 0 0 ((33 + (5 * x1)) + 4).toNatClampNeg 1))) ∧ ((m1 (18, 0, 0) ((33 + (5 * x1)) + 4).toNatClampNeg) = 1 →
       Q (some (vI ((-5)))) m1)) ∧ (r1 = 0 →
      Q (some (vI ((-1)))) m1))) : Go g h_Md_sick Q 0 [(0, vO 17 0 0), (1, vI x1)] [] mem := Go.cutN o_Md_sick [(52, [0, 2, 3])] 35 hv
set_option maxRecDepth 100000 in
theorem b_Md_sick_52 {g : Wg} {Q : Option Vl → Mm → Prop} {x2 : Int32} {x3 : Int32} {mem : Mm} (hv :
    vp_in 7 429 ∧
    ((mem (18, 0, 0) 7) ≤ x3 →
     Q (some (vI x2)) mem) ∧ (¬ (mem (18, 0, 0) 7) ≤ x3 →
     vp_in ((33 + (5 * x3)) + 4) 429 ∧
     Go g h_Md_sick Q 52 [(0, vO 17 0 0), (2, vI (x2 + (mem (18, 0, 0) ((33 + (5 * x3)) + 4).toNatClampNeg))), (3, vI (x3 + 1))] [] mem)) : Go g h_Md_sick Q 52 [(0, vO 17 0 0), (2, vI x2), (3, vI x3)] [] mem := Go.cutN o_Md_sick [(52, [0, 2, 3])] 23 hv
set_option maxRecDepth 100000 in
theorem b_Md_taken_0 {g : Wg} {Q : Option Vl → Mm → Prop} {x1 : Int32} {x2 : Int32} {mem : Mm} (hv :
    Go g h_Md_taken Q 5 [(0, vO 17 0 0), (1, vI x1), (2, vI x2), (3, vI 0), (4, vI 0)] [] mem) : Go g h_Md_taken Q 0 [(0, vO 17 0 0), (1, vI x1), (2, vI x2)] [] mem := Go.cutN o_Md_taken [(5, [0, 1, 2, 3, 4])] 6 hv
set_option maxRecDepth 100000 in
theorem b_Md_taken_5 {g : Wg} {Q : Option Vl → Mm → Prop} {x1 : Int32} {x2 : Int32} {x3 : Int32} {x4 : Int32} {mem : Mm} (hv :
    vp_in 8 429 ∧
    ((mem (18, 0, 0) 8) ≤ x4 →
     Q (some (vI x3)) mem) ∧ (¬ (mem (18, 0, 0) 8) ≤ x4 →
     RunI g h_Md_isIn [vO 17 0 0, vI x4, vI x1] mem (fun r1 m1 =>
      (r1 = 0 →
       Go g h_Md_taken Q 5 [(0, vO 17 0 0), (1, vI x1), (2, vI x2), (3, vI (x3 + 0)), (4, vI (x4 + 1))] [] m1) ∧ (¬ r1 = 0 →
       RunI g h_Md_of [vO 17 0 0, vI x4, vI 5] m1 (fun r2 m2 =>
        RunI g h_Md_has [vI r2, vI x2] m2 (fun r3 m3 =>
         (r3 = 0 →
          Go g h_Md_taken Q 5 [(0, vO 17 0 0), (1, vI x1), (2, vI x2), (3, vI (x3 + 0)), (4, vI (x4 + 1))] [] m3) ∧ (¬ r3 = 0 →
          Go g h_Md_taken Q 5 [(0, vO 17 0 0), (1, vI x1), (2, vI x2), (3, vI (x3 + 1)), (4, vI (x4 + 1))] [] m3))))))) : Go g h_Md_taken Q 5 [(0, vO 17 0 0), (1, vI x1), (2, vI x2), (3, vI x3), (4, vI x4)] [] mem := Go.cutN o_Md_taken [(5, [0, 1, 2, 3, 4])] 27 hv
set_option maxRecDepth 100000 in
theorem b_Md_allPlaces_0 {g : Wg} {Q : Option Vl → Mm → Prop} {x1 : Int32} {mem : Mm} (hv :
    Go g h_Md_allPlaces Q 4 [(0, vO 17 0 0), (1, vI x1), (2, vI 0), (3, vI 0)] [] mem) : Go g h_Md_allPlaces Q 0 [(0, vO 17 0 0), (1, vI x1)] [] mem := Go.cutN o_Md_allPlaces [(4, [0, 1, 2, 3])] 6 hv
set_option maxRecDepth 100000 in
theorem b_Md_allPlaces_4 {g : Wg} {Q : Option Vl → Mm → Prop} {x1 : Int32} {x2 : Int32} {x3 : Int32} {mem : Mm} (hv :
    (10 ≤ x3 →
     Q (some (vI x2)) mem) ∧ (¬ 10 ≤ x3 →
     RunI g h_Md_places [vO 17 0 0, vI x1, vI x3, vI 1] mem (fun r1 m1 =>
      Go g h_Md_allPlaces Q 4 [(0, vO 17 0 0), (1, vI x1), (2, vI (x2 + r1)), (3, vI (x3 + 1))] [] m1))) : Go g h_Md_allPlaces Q 4 [(0, vO 17 0 0), (1, vI x1), (2, vI x2), (3, vI x3)] [] mem := Go.cutN o_Md_allPlaces [(4, [0, 1, 2, 3])] 15 hv
set_option maxRecDepth 100000 in
theorem b_Md_come_0 {g : Wg} {Q : Option Vl → Mm → Prop} {x1 : Int32} {x2 : Int32} {mem : Mm} (hv :
    Go g h_Md_come Q 8 [(0, vO 17 0 0), (1, vI x1), (2, vI x2), (3, vI 0), (4, vI 0), (5, vI 0)] [] mem) : Go g h_Md_come Q 0 [(0, vO 17 0 0), (1, vI x1), (2, vI x2)] [] mem := Go.cutN o_Md_come [(8, [0, 1, 2, 3, 4, 5]), (116, [0, 2, 3, 4, 5]), (137, [0, 2, 3, 4, 5, 6, 7]), (272, [0, 2, 3, 4, 6])] 8 hv
set_option maxRecDepth 100000 in
theorem b_Md_come_8 {g : Wg} {Q : Option Vl → Mm → Prop} {x1 : Int32} {x2 : Int32} {x3 : Int32} {x4 : Int32} {x5 : Int32} {mem : Mm} (hv :
    vp_in 8 429 ∧
    ((mem (18, 0, 0) 8) ≤ x5 →
     RunI g h_Md_places [vO 17 0 0, vI x1, vI x2, vI 0] mem (fun r1 m1 =>
      Go g h_Md_come Q 116 [(0, vO 17 0 0), (2, vI x2), (3, vI x3), (4, vI x4), (5, vI r1)] [] m1)) ∧ (¬ (mem (18, 0, 0) 8) ≤ x5 →
     RunI g h_Md_isIn [vO 17 0 0, vI x5, vI x1] mem (fun r2 m2 =>
      (r2 = 0 →
       (r2 = 0 →
        Go g h_Md_come Q 8 [(0, vO 17 0 0), (1, vI x1), (2, vI x2), (3, vI (x3 ||| 0)), (4, vI (x4 ||| 0)), (5, vI (x5 + 1))] [] m2) ∧ (¬ r2 = 0 →
        RunI g h_Md_of [vO 17 0 0, vI x5, vI 8] m2 (fun r3 m3 =>
         (¬ r3 = x2 →
          Go g h_Md_come Q 8 [(0, vO 17 0 0), (1, vI x1), (2, vI x2), (3, vI (x3 ||| 0)), (4, vI (x4 ||| 0)), (5, vI (x5 + 1))] [] m3) ∧ (r3 = x2 →
          Go g h_Md_come Q 8 [(0, vO 17 0 0), (1, vI x1), (2, vI x2), (3, vI (x3 ||| 0)), (4, vI (x4 ||| (1 <<< (x5 &&& 31)))), (5, vI (x5 + 1))] [] m3)))) ∧ (¬ r2 = 0 →
       RunI g h_Md_of [vO 17 0 0, vI x5, vI 6] m2 (fun r4 m4 =>
        (¬ r4 = 1 →
         (r2 = 0 →
          Go g h_Md_come Q 8 [(0, vO 17 0 0), (1, vI x1), (2, vI x2), (3, vI (x3 ||| 0)), (4, vI (x4 ||| 0)), (5, vI (x5 + 1))] [] m4) ∧ (¬ r2 = 0 →
          RunI g h_Md_of [vO 17 0 0, vI x5, vI 8] m4 (fun r5 m5 =>
           (¬ r5 = x2 →
            Go g h_Md_come Q 8 [(0, vO 17 0 0), (1, vI x1), (2, vI x2), (3, vI (x3 ||| 0)), (4, vI (x4 ||| 0)), (5, vI (x5 + 1))] [] m5) ∧ (r5 = x2 →
            Go g h_Md_come Q 8 [(0, vO 17 0 0), (1, vI x1), (2, vI x2), (3, vI (x3 ||| 0)), (4, vI (x4 ||| (1 <<< (x5 &&& 31)))), (5, vI (x5 + 1))] [] m5)))) ∧ (r4 = 1 →
         RunI g h_Md_of [vO 17 0 0, vI x5, vI 5] m4 (fun r6 m6 =>
          RunI g h_Md_has [vI r6, vI x2] m6 (fun r7 m7 =>
           (r7 = 0 →
            (r2 = 0 →
             Go g h_Md_come Q 8 [(0, vO 17 0 0), (1, vI x1), (2, vI x2), (3, vI (x3 ||| 0)), (4, vI (x4 ||| 0)), (5, vI (x5 + 1))] [] m7) ∧ (¬ r2 = 0 →
             RunI g h_Md_of [vO 17 0 0, vI x5, vI 8] m7 (fun r8 m8 =>
              (¬ r8 = x2 →
               Go g h_Md_come Q 8 [(0, vO 17 0 0), (1, vI x1), (2, vI x2), (3, vI (x3 ||| 0)), (4, vI (x4 ||| 0)), (5, vI (x5 + 1))] [] m8) ∧ (r8 = x2 →
               Go g h_Md_come Q 8 [(0, vO 17 0 0), (1, vI x1), (2, vI x2), (3, vI (x3 ||| 0)), (4, vI (x4 ||| (1 <<< (x5 &&& 31)))), (5, vI (x5 + 1))] [] m8)))) ∧ (¬ r7 = 0 →
            (r2 = 0 →
             Go g h_Md_come Q 8 [(0, vO 17 0 0), (1, vI x1), (2, vI x2), (3, vI (x3 ||| (1 <<< (x5 &&& 31)))), (4, vI (x4 ||| 0)), (5, vI (x5 + 1))] [] m7) ∧ (¬ r2 = 0 →
             RunI g h_Md_of [vO 17 0 0, vI x5, vI 8] m7 (fun r9 m9 =>
              (¬ r9 = x2 →
               Go g h_Md_come Q 8 [(0, vO 17 0 0), (1, vI x1), (2, vI x2), (3, vI (x3 ||| (1 <<< (x5 &&& 31)))), (4, vI (x4 ||| 0)), (5, vI (x5 + 1))] [] m9) ∧ (r9 = x2 →
               Go g h_Md_come Q 8 [(0, vO 17 0 0), (1, vI x1), (2, vI x2), (3, vI (x3 ||| (1 <<< (x5 &&& 31)))), (4, vI (x4 ||| (1 <<< (x5 &&& 31)))), (5, vI (x5 + 1))] [] m9)))))))))))) : Go g h_Md_come Q 8 [(0, vO 17 0 0), (1, vI x1), (2, vI x2), (3, vI x3), (4, vI x4), (5, vI x5)] [] mem := Go.cutN o_Md_come [(8, [0, 1, 2, 3, 4, 5]), (116, [0, 2, 3, 4, 5]), (137, [0, 2, 3, 4, 5, 6, 7]), (272, [0, 2, 3, 4, 6])] 52 hv
set_option maxRecDepth 100000 in
theorem b_Md_come_116 {g : Wg} {Q : Option Vl → Mm → Prop} {x2 : Int32} {x3 : Int32} {x4 : Int32} {x5 : Int32} {mem : Mm} (hv :
    RunI g h_Md_ones [vI x3] mem (fun r1 m1 =>
     RunI g h_Md_ones [vI x4] m1 (fun r2 m2 =>
      ((r1 + r2) ≤ x5 →
       Go g h_Md_come Q 272 [(0, vO 17 0 0), (2, vI x2), (3, vI x3), (4, vI x4), (6, vI 0)] [] m2) ∧ (¬ (r1 + r2) ≤ x5 →
       Go g h_Md_come Q 137 [(0, vO 17 0 0), (2, vI x2), (3, vI x3), (4, vI x4), (5, vI x5), (6, vI ((-1))), (7, vI 0)] [] m2)))) : Go g h_Md_come Q 116 [(0, vO 17 0 0), (2, vI x2), (3, vI x3), (4, vI x4), (5, vI x5)] [] mem := Go.cutN o_Md_come [(8, [0, 1, 2, 3, 4, 5]), (116, [0, 2, 3, 4, 5]), (137, [0, 2, 3, 4, 5, 6, 7]), (272, [0, 2, 3, 4, 6])] 13 hv
set_option maxRecDepth 100000 in
theorem b_Md_come_137 {g : Wg} {Q : Option Vl → Mm → Prop} {x2 : Int32} {x3 : Int32} {x4 : Int32} {x5 : Int32} {x6 : Int32} {x7 : Int32} {mem : Mm} (hv :
    vp_in 8 429 ∧
    ((mem (18, 0, 0) 8) ≤ x7 →
     vp_in x6 24 ∧
     vp_in x6 24 ∧
     RunI g h_Md_has [vI x3, vI x6] (mset mem 18 7 0 x6.toNatClampNeg ((mem (18, 7, 0) x6.toNatClampNeg) + 1)) (fun r1 m1 =>
      (r1 = 0 →
       Go g h_Md_come Q 116 [(0, vO 17 0 0), (2, vI x2), (3, vI (x3 &&& ((-1)))), (4, vI (x4 &&& ((1 <<< (x6 &&& 31)) ^^^ ((-1))))), (5, vI x5)] [] m1) ∧ (¬ r1 = 0 →
       RunI g h_Md_isVisiting [vO 17 0 0, vI x6, vI x2] m1 (fun r2 m2 =>
        (¬ r2 = 0 →
         Go g h_Md_come Q 116 [(0, vO 17 0 0), (2, vI x2), (3, vI (x3 &&& ((-1)))), (4, vI (x4 &&& ((1 <<< (x6 &&& 31)) ^^^ ((-1))))), (5, vI x5)] [] m2) ∧ (r2 = 0 →
         Go g h_Md_come Q 116 [(0, vO 17 0 0), (2, vI x2), (3, vI (x3 &&& ((1 <<< (x6 &&& 31)) ^^^ ((-1))))), (4, vI (x4 &&& ((1 <<< (x6 &&& 31)) ^^^ ((-1))))), (5, vI x5)] [] m2))))) ∧ (¬ (mem (18, 0, 0) 8) ≤ x7 →
     RunI g h_Md_has [vI x4, vI x7] mem (fun r3 m3 =>
      (¬ r3 = 0 →
       Go g h_Md_come Q 137 [(0, vO 17 0 0), (2, vI x2), (3, vI x3), (4, vI x4), (5, vI x5), (6, vI x7), (7, vI (x7 + 1))] [] m3) ∧ (r3 = 0 →
       (¬ x4 = 0 →
        Go g h_Md_come Q 137 [(0, vO 17 0 0), (2, vI x2), (3, vI x3), (4, vI x4), (5, vI x5), (6, vI x6), (7, vI (x7 + 1))] [] m3) ∧ (x4 = 0 →
        RunI g h_Md_has [vI x3, vI x7] m3 (fun r4 m4 =>
         (r4 = 0 →
          Go g h_Md_come Q 137 [(0, vO 17 0 0), (2, vI x2), (3, vI x3), (4, vI x4), (5, vI x5), (6, vI x6), (7, vI (x7 + 1))] [] m4) ∧ (¬ r4 = 0 →
          (x6 < 0 →
           Go g h_Md_come Q 137 [(0, vO 17 0 0), (2, vI x2), (3, vI x3), (4, vI x4), (5, vI x5), (6, vI x7), (7, vI (x7 + 1))] [] m4) ∧ (¬ x6 < 0 →
           RunI g h_Md_of [vO 17 0 0, vI x7, vI 13] m4 (fun r5 m5 =>
            RunI g h_Md_of [vO 17 0 0, vI x6, vI 13] m5 (fun r6 m6 =>
             (r5 ≤ r6 →
              Go g h_Md_come Q 137 [(0, vO 17 0 0), (2, vI x2), (3, vI x3), (4, vI x4), (5, vI x5), (6, vI x6), (7, vI (x7 + 1))] [] m6) ∧ (¬ r5 ≤ r6 →
              Go g h_Md_come Q 137 [(0, vO 17 0 0), (2, vI x2), (3, vI x3), (4, vI x4), (5, vI x5), (6, vI x7), (7, vI (x7 + 1))] [] m6))))))))))) : Go g h_Md_come Q 137 [(0, vO 17 0 0), (2, vI x2), (3, vI x3), (4, vI x4), (5, vI x5), (6, vI x6), (7, vI x7)] [] mem := Go.cutN o_Md_come [(8, [0, 1, 2, 3, 4, 5]), (116, [0, 2, 3, 4, 5]), (137, [0, 2, 3, 4, 5, 6, 7]), (272, [0, 2, 3, 4, 6])] 43 hv
set_option maxRecDepth 100000 in
theorem b_Md_come_272 {g : Wg} {Q : Option Vl → Mm → Prop} {x2 : Int32} {x3 : Int32} {x4 : Int32} {x6 : Int32} {mem : Mm} (hv :
    vp_in 8 429 ∧
    ((mem (18, 0, 0) 8) ≤ x6 →
     Q none mem) ∧ (¬ (mem (18, 0, 0) 8) ≤ x6 →
     vp_in x6 24 ∧
     RunI g h_Md_has [vI x3, vI x6] mem (fun r1 m1 =>
      (r1 = 0 →
       vp_in x6 24 ∧
       vp_in x6 24 ∧
       RunI g h_Md_has [vI x4, vI x6] (mset m1 18 6 0 x6.toNatClampNeg ((mem (18, 6, 0) x6.toNatClampNeg) ||| 0)) (fun r2 m2 =>
        (r2 = 0 →
         vp_in x6 24 ∧
         let u3 : Mm := mset m2 18 6 0 x6.toNatClampNeg (((mset m1 18 6 0 x6.toNatClampNeg ((mem (18, 6, 0) x6.toNatClampNeg) ||| 0)) (18, 6, 0) x6.toNatClampNeg) ||| 0)
         Go g h_Md_come Q 272 [(0, vO 17 0 0), (2, vI x2), (3, vI x3), (4, vI x4), (6, vI (x6 + 1))] [] u3) ∧ (¬ r2 = 0 →
         vp_in x6 24 ∧
         let u4 : Mm := mset m2 18 6 0 x6.toNatClampNeg (((mset m1 18 6 0 x6.toNatClampNeg ((mem (18, 6, 0) x6.toNatClampNeg) ||| 0)) (18, 6, 0) x6.toNatClampNeg) ||| 1024)
         Go g h_Md_come Q 272 [(0, vO 17 0 0), (2, vI x2), (3, vI x3), (4, vI x4), (6, vI (x6 + 1))] [] u4))) ∧ (¬ r1 = 0 →
       vp_in x6 24 ∧
       vp_in x6 24 ∧
       RunI g h_Md_has [vI x4, vI x6] (mset m1 18 6 0 x6.toNatClampNeg ((mem (18, 6, 0) x6.toNatClampNeg) ||| (1 <<< (x2 &&& 31)))) (fun r5 m5 =>
        (r5 = 0 →
         vp_in x6 24 ∧
         let u6 : Mm := mset m5 18 6 0 x6.toNatClampNeg (((mset m1 18 6 0 x6.toNatClampNeg ((mem (18, 6, 0) x6.toNatClampNeg) ||| (1 <<< (x2 &&& 31)))) (18, 6, 0) x6.toNatClampNeg) ||| 0)
         Go g h_Md_come Q 272 [(0, vO 17 0 0), (2, vI x2), (3, vI x3), (4, vI x4), (6, vI (x6 + 1))] [] u6) ∧ (¬ r5 = 0 →
         vp_in x6 24 ∧
         let u7 : Mm := mset m5 18 6 0 x6.toNatClampNeg (((mset m1 18 6 0 x6.toNatClampNeg ((mem (18, 6, 0) x6.toNatClampNeg) ||| (1 <<< (x2 &&& 31)))) (18, 6, 0) x6.toNatClampNeg) ||| 1024)
         Go g h_Md_come Q 272 [(0, vO 17 0 0), (2, vI x2), (3, vI x3), (4, vI x4), (6, vI (x6 + 1))] [] u7)))))) : Go g h_Md_come Q 272 [(0, vO 17 0 0), (2, vI x2), (3, vI x3), (4, vI x4), (6, vI x6)] [] mem := Go.cutN o_Md_come [(8, [0, 1, 2, 3, 4, 5]), (116, [0, 2, 3, 4, 5]), (137, [0, 2, 3, 4, 5, 6, 7]), (272, [0, 2, 3, 4, 6])] 38 hv
set_option maxRecDepth 100000 in
theorem b_Md_free_0 {g : Wg} {Q : Option Vl → Mm → Prop} {x1 : Int32} {x2 : Int32} {mem : Mm} (hv :
    RunI g h_Md_isRoom [vO 17 0 0, vI x1] mem (fun r1 m1 =>
     (r1 = 0 →
      Q (some (vI ((-1)))) m1) ∧ (¬ r1 = 0 →
      RunI g h_Md_isSession [vI x2] m1 (fun r2 m2 =>
       (¬ r2 = 0 →
        RunI g h_Md_places [vO 17 0 0, vI x1, vI x2, vI 1] m2 (fun r3 m3 =>
         RunI g h_Md_taken [vO 17 0 0, vI x1, vI x2] m3 (fun r4 m4 =>
          (0 ≤ (r3 - r4) →
           Q (some (vI (r3 - r4))) m4) ∧ (¬ 0 ≤ (r3 - r4) →
           Q (some (vI 0)) m4)))) ∧ (r2 = 0 →
        Q (some (vI ((-1)))) m2))))) : Go g h_Md_free Q 0 [(0, vO 17 0 0), (1, vI x1), (2, vI x2)] [] mem := Go.cutN o_Md_free [] 24 hv
set_option maxRecDepth 100000 in
theorem b_Md_isFree_0 {g : Wg} {Q : Option Vl → Mm → Prop} {x1 : Int32} {x2 : Int32} {mem : Mm} (hv :
    RunI g h_Md_taken [vO 17 0 0, vI x1, vI x2] mem (fun r1 m1 =>
     RunI g h_Md_places [vO 17 0 0, vI x1, vI x2, vI 1] m1 (fun r2 m2 =>
      (r2 ≤ r1 →
       ((0 : Int32) = 0 ∨ (0 : Int32) = 1) ∧ Q (some (vI 0)) m2) ∧ (¬ r2 ≤ r1 →
       ((1 : Int32) = 0 ∨ (1 : Int32) = 1) ∧ Q (some (vI 1)) m2)))) : Go g h_Md_isFree Q 0 [(0, vO 17 0 0), (1, vI x1), (2, vI x2)] [] mem := Go.cutN o_Md_isFree [] 14 hv
set_option maxRecDepth 100000 in
theorem b_Md_ofRoom_0 {g : Wg} {Q : Option Vl → Mm → Prop} {x1 : Int32} {x2 : Int32} {mem : Mm} (hv :
    RunI g h_Md_isRoom [vO 17 0 0, vI x1] mem (fun r1 m1 =>
     (¬ r1 = 0 →
      RunI g h_Md_in [vI x2, vI 0, vI 3] m1 (fun r2 m2 =>
       (r2 = 0 →
        RunI g h_Md_in [vI x2, vI 10, vI 39] m2 (fun r3 m3 =>
         (r3 = 0 →
          Go g h_Md_ofRoom Q 97 [(0, vO 17 0 0), (1, vI x1), (2, vI x2), (3, vI 0), (4, vI 0)] [] m3) ∧ (¬ r3 = 0 →
          (20 ≤ x2 →
           (30 ≤ x2 →
            RunI g h_Md_places [vO 17 0 0, vI x1, vI (x2 - 30), vI 0] m3 (fun r4 m4 =>
             Q (some (vI r4)) m4)) ∧ (¬ 30 ≤ x2 →
            RunI g h_Md_taken [vO 17 0 0, vI x1, vI (x2 - 20)] m3 (fun r5 m5 =>
             Q (some (vI r5)) m5))) ∧ (¬ 20 ≤ x2 →
           RunI g h_Md_places [vO 17 0 0, vI x1, vI (x2 - 10), vI 1] m3 (fun r6 m6 =>
            Q (some (vI r6)) m6))))) ∧ (¬ r2 = 0 →
        vp_in ((13 + (4 * x1)) + x2) 429 ∧
        Q (some (vI (m2 (18, 0, 0) ((13 + (4 * x1)) + x2).toNatClampNeg))) m2))) ∧ (r1 = 0 →
      Q (some (vI ((-1)))) m1))) : Go g h_Md_ofRoom Q 0 [(0, vO 17 0 0), (1, vI x1), (2, vI x2)] [] mem := Go.cutN o_Md_ofRoom [(97, [0, 1, 2, 3, 4]), (150, [0, 1, 2, 3, 4])] 29 hv
set_option maxRecDepth 100000 in
theorem b_Md_ofRoom_97 {g : Wg} {Q : Option Vl → Mm → Prop} {x1 : Int32} {x2 : Int32} {x3 : Int32} {x4 : Int32} {mem : Mm} (hv :
    vp_in 7 429 ∧
    ((mem (18, 0, 0) 7) ≤ x4 →
     Go g h_Md_ofRoom Q 150 [(0, vO 17 0 0), (1, vI x1), (2, vI x2), (3, vI x3), (4, vI 0)] [] mem) ∧ (¬ (mem (18, 0, 0) 7) ≤ x4 →
     (¬ x2 = 4 →
      Go g h_Md_ofRoom Q 150 [(0, vO 17 0 0), (1, vI x1), (2, vI x2), (3, vI x3), (4, vI 0)] [] mem) ∧ (x2 = 4 →
      vp_in (33 + (5 * x4)) 429 ∧
      (¬ (mem (18, 0, 0) (33 + (5 * x4)).toNatClampNeg) = x1 →
       Go g h_Md_ofRoom Q 97 [(0, vO 17 0 0), (1, vI x1), (2, vI x2), (3, vI (x3 ||| 0)), (4, vI (x4 + 1))] [] mem) ∧ ((mem (18, 0, 0) (33 + (5 * x4)).toNatClampNeg) = x1 →
       Go g h_Md_ofRoom Q 97 [(0, vO 17 0 0), (1, vI x1), (2, vI x2), (3, vI (x3 ||| (1 <<< (x4 &&& 31)))), (4, vI (x4 + 1))] [] mem)))) : Go g h_Md_ofRoom Q 97 [(0, vO 17 0 0), (1, vI x1), (2, vI x2), (3, vI x3), (4, vI x4)] [] mem := Go.cutN o_Md_ofRoom [(97, [0, 1, 2, 3, 4]), (150, [0, 1, 2, 3, 4])] 30 hv
set_option maxRecDepth 100000 in
theorem b_Md_ofRoom_150 {g : Wg} {Q : Option Vl → Mm → Prop} {x1 : Int32} {x2 : Int32} {x3 : Int32} {x4 : Int32} {mem : Mm} (hv :
    vp_in 8 429 ∧
    ((mem (18, 0, 0) 8) ≤ x4 →
     RunI g h_Md_in [vI x2, vI 4, vI 5] mem (fun r1 m1 =>
      (r1 = 0 →
       Q (some (vI ((-2)))) m1) ∧ (¬ r1 = 0 →
       Q (some (vI x3)) m1))) ∧ (¬ (mem (18, 0, 0) 8) ≤ x4 →
     (¬ x2 = 5 →
      RunI g h_Md_in [vI x2, vI 4, vI 5] mem (fun r2 m2 =>
       (r2 = 0 →
        Q (some (vI ((-2)))) m2) ∧ (¬ r2 = 0 →
        Q (some (vI x3)) m2))) ∧ (x2 = 5 →
      RunI g h_Md_isIn [vO 17 0 0, vI x4, vI x1] mem (fun r3 m3 =>
       (r3 = 0 →
        Go g h_Md_ofRoom Q 150 [(0, vO 17 0 0), (1, vI x1), (2, vI x2), (3, vI (x3 ||| 0)), (4, vI (x4 + 1))] [] m3) ∧ (¬ r3 = 0 →
        Go g h_Md_ofRoom Q 150 [(0, vO 17 0 0), (1, vI x1), (2, vI x2), (3, vI (x3 ||| (1 <<< (x4 &&& 31)))), (4, vI (x4 + 1))] [] m3))))) : Go g h_Md_ofRoom Q 150 [(0, vO 17 0 0), (1, vI x1), (2, vI x2), (3, vI x3), (4, vI x4)] [] mem := Go.cutN o_Md_ofRoom [(97, [0, 1, 2, 3, 4]), (150, [0, 1, 2, 3, 4])] 25 hv
set_option maxRecDepth 100000 in
theorem b_Md_readOrder_0 {g : Wg} {Q : Option Vl → Mm → Prop}  {mem : Mm} (hv :
    ((mem (17, 0, 0) 8) ≤ (mem (17, 0, 0) 12) →
     (((mset (mset mem 17 0 0 13 0) 17 0 0 12 (((mset mem 17 0 0 13 0) (17, 0, 0) 12) + 1)) (17, 0, 0) 13) = 97 →
      ((1 : Int32) = 0 ∨ (1 : Int32) = 1) ∧ Q (some (vI 1)) (mset (mset mem 17 0 0 13 0) 17 0 0 12 (((mset mem 17 0 0 13 0) (17, 0, 0) 12) + 1))) ∧ (¬ ((mset (mset mem 17 0 0 13 0) 17 0 0 12 (((mset mem 17 0 0 13 0) (17, 0, 0) 12) + 1)) (17, 0, 0) 13) = 97 →
      (((mset (mset mem 17 0 0 13 0) 17 0 0 12 (((mset mem 17 0 0 13 0) (17, 0, 0) 12) + 1)) (17, 0, 0) 13) = 99 →
       RunI g h_Md_number [vO 17 0 0, vI 0] (mset (mset mem 17 0 0 13 0) 17 0 0 12 (((mset mem 17 0 0 13 0) (17, 0, 0) 12) + 1)) (fun r1 m1 =>
        (r1 = 0 →
         ((0 : Int32) = 0 ∨ (0 : Int32) = 1) ∧ Q (some (vI 0)) m1) ∧ (¬ r1 = 0 →
         RunI g h_Md_sign [vO 17 0 0, vI 47] m1 (fun r2 m2 =>
          (r2 = 0 →
           ((0 : Int32) = 0 ∨ (0 : Int32) = 1) ∧ Q (some (vI 0)) m2) ∧ (¬ r2 = 0 →
           RunI g h_Md_number [vO 17 0 0, vI 1] m2 (fun r3 m3 =>
            (r3 = 0 →
             ((0 : Int32) = 0 ∨ (0 : Int32) = 1) ∧ Q (some (vI 0)) m3) ∧ (¬ r3 = 0 →
             RunI g h_Md_sign [vO 17 0 0, vI 58] m3 (fun r4 m4 =>
              (r4 = 0 →
               ((0 : Int32) = 0 ∨ (0 : Int32) = 1) ∧ Q (some (vI 0)) m4) ∧ (¬ r4 = 0 →
               RunI g h_Md_number [vO 17 0 0, vI 2] m4 (fun r5 m5 =>
                (r5 = 0 →
                 ((0 : Int32) = 0 ∨ (0 : Int32) = 1) ∧ Q (some (vI 0)) m5) ∧ (¬ r5 = 0 →
                 ((1 : Int32) = 0 ∨ (1 : Int32) = 1) ∧ Q (some (vI 1)) m5))))))))))) ∧ (¬ ((mset (mset mem 17 0 0 13 0) 17 0 0 12 (((mset mem 17 0 0 13 0) (17, 0, 0) 12) + 1)) (17, 0, 0) 13) = 99 →
       (((mset (mset mem 17 0 0 13 0) 17 0 0 12 (((mset mem 17 0 0 13 0) (17, 0, 0) 12) + 1)) (17, 0, 0) 13) = 115 →
        RunI g h_Md_number [vO 17 0 0, vI 0] (mset (mset mem 17 0 0 13 0) 17 0 0 12 (((mset mem 17 0 0 13 0) (17, 0, 0) 12) + 1)) (fun r6 m6 =>
         ((r6 : Int32) = 0 ∨ (r6 : Int32) = 1) ∧ Q (some (vI r6)) m6)) ∧ (¬ ((mset (mset mem 17 0 0 13 0) 17 0 0 12 (((mset mem 17 0 0 13 0) (17, 0, 0) 12) + 1)) (17, 0, 0) 13) = 115 →
        (((mset (mset mem 17 0 0 13 0) 17 0 0 12 (((mset mem 17 0 0 13 0) (17, 0, 0) 12) + 1)) (17, 0, 0) 13) = 118 →
         RunI g h_Md_childAt [vO 17 0 0, vI 0] (mset (mset mem 17 0 0 13 0) 17 0 0 12 (((mset mem 17 0 0 13 0) (17, 0, 0) 12) + 1)) (fun r7 m7 =>
          ((r7 : Int32) = 0 ∨ (r7 : Int32) = 1) ∧ Q (some (vI r7)) m7)) ∧ (¬ ((mset (mset mem 17 0 0 13 0) 17 0 0 12 (((mset mem 17 0 0 13 0) (17, 0, 0) 12) + 1)) (17, 0, 0) 13) = 118 →
         (((mset (mset mem 17 0 0 13 0) 17 0 0 12 (((mset mem 17 0 0 13 0) (17, 0, 0) 12) + 1)) (17, 0, 0) 13) = 119 →
          RunI g h_Md_number [vO 17 0 0, vI 0] (mset (mset mem 17 0 0 13 0) 17 0 0 12 (((mset mem 17 0 0 13 0) (17, 0, 0) 12) + 1)) (fun r8 m8 =>
           ((r8 : Int32) = 0 ∨ (r8 : Int32) = 1) ∧ Q (some (vI r8)) m8)) ∧ (¬ ((mset (mset mem 17 0 0 13 0) 17 0 0 12 (((mset mem 17 0 0 13 0) (17, 0, 0) 12) + 1)) (17, 0, 0) 13) = 119 →
          (((mset (mset mem 17 0 0 13 0) 17 0 0 12 (((mset mem 17 0 0 13 0) (17, 0, 0) 12) + 1)) (17, 0, 0) 13) = 120 →
           RunI g h_Md_childAt [vO 17 0 0, vI 0] (mset (mset mem 17 0 0 13 0) 17 0 0 12 (((mset mem 17 0 0 13 0) (17, 0, 0) 12) + 1)) (fun r9 m9 =>
            (r9 = 0 →
             ((0 : Int32) = 0 ∨ (0 : Int32) = 1) ∧ Q (some (vI 0)) m9) ∧ (¬ r9 = 0 →
             RunI g h_Md_sign [vO 17 0 0, vI 61] m9 (fun r10 m10 =>
              (r10 = 0 →
               ((0 : Int32) = 0 ∨ (0 : Int32) = 1) ∧ Q (some (vI 0)) m10) ∧ (¬ r10 = 0 →
               RunI g h_Md_childAt [vO 17 0 0, vI 2] m10 (fun r11 m11 =>
                (r11 = 0 →
                 ((0 : Int32) = 0 ∨ (0 : Int32) = 1) ∧ Q (some (vI 0)) m11) ∧ (¬ r11 = 0 →
                 ((1 : Int32) = 0 ∨ (1 : Int32) = 1) ∧ Q (some (vI 1)) m11))))))) ∧ (¬ ((mset (mset mem 17 0 0 13 0) 17 0 0 12 (((mset mem 17 0 0 13 0) (17, 0, 0) 12) + 1)) (17, 0, 0) 13) = 120 →
           let u12 : Mm := mset (mset (mset mem 17 0 0 13 0) 17 0 0 12 (((mset mem 17 0 0 13 0) (17, 0, 0) 12) + 1)) 17 0 0 12 (((mset (mset mem 17 0 0 13 0) 17 0 0 12 (((mset mem 17 0 0 13 0) (17, 0, 0) 12) + 1)) (17, 0, 0) 12) - 1)
           ((0 : Int32) = 0 ∨ (0 : Int32) = 1) ∧ Q (some (vI 0)) u12))))))) ∧ (¬ (mem (17, 0, 0) 8) ≤ (mem (17, 0, 0) 12) →
     vp_in (mem (17, 0, 0) 12) 80 ∧
     let u13 : Mm := mset (mset mem 17 0 0 13 (mem (18, 4, 0) (mem (17, 0, 0) 12).toNatClampNeg)) 17 0 0 12 (((mset mem 17 0 0 13 (mem (18, 4, 0) (mem (17, 0, 0) 12).toNatClampNeg)) (17, 0, 0) 12) + 1)
     ((u13 (17, 0, 0) 13) = 97 →
      ((1 : Int32) = 0 ∨ (1 : Int32) = 1) ∧ Q (some (vI 1)) u13) ∧ (¬ (u13 (17, 0, 0) 13) = 97 →
      ((u13 (17, 0, 0) 13) = 99 →
       RunI g h_Md_number [vO 17 0 0, vI 0] u13 (fun r14 m14 =>
        (r14 = 0 →
         ((0 : Int32) = 0 ∨ (0 : Int32) = 1) ∧ Q (some (vI 0)) m14) ∧ (¬ r14 = 0 →
         RunI g h_Md_sign [vO 17 0 0, vI 47] m14 (fun r15 m15 =>
          (r15 = 0 →
           ((0 : Int32) = 0 ∨ (0 : Int32) = 1) ∧ Q (some (vI 0)) m15) ∧ (¬ r15 = 0 →
           RunI g h_Md_number [vO 17 0 0, vI 1] m15 (fun r16 m16 =>
            (r16 = 0 →
             ((0 : Int32) = 0 ∨ (0 : Int32) = 1) ∧ Q (some (vI 0)) m16) ∧ (¬ r16 = 0 →
             RunI g h_Md_sign [vO 17 0 0, vI 58] m16 (fun r17 m17 =>
              (r17 = 0 →
               ((0 : Int32) = 0 ∨ (0 : Int32) = 1) ∧ Q (some (vI 0)) m17) ∧ (¬ r17 = 0 →
               RunI g h_Md_number [vO 17 0 0, vI 2] m17 (fun r18 m18 =>
                (r18 = 0 →
                 ((0 : Int32) = 0 ∨ (0 : Int32) = 1) ∧ Q (some (vI 0)) m18) ∧ (¬ r18 = 0 →
                 ((1 : Int32) = 0 ∨ (1 : Int32) = 1) ∧ Q (some (vI 1)) m18))))))))))) ∧ (¬ (u13 (17, 0, 0) 13) = 99 →
       ((u13 (17, 0, 0) 13) = 115 →
        RunI g h_Md_number [vO 17 0 0, vI 0] u13 (fun r19 m19 =>
         ((r19 : Int32) = 0 ∨ (r19 : Int32) = 1) ∧ Q (some (vI r19)) m19)) ∧ (¬ (u13 (17, 0, 0) 13) = 115 →
        ((u13 (17, 0, 0) 13) = 118 →
         RunI g h_Md_childAt [vO 17 0 0, vI 0] u13 (fun r20 m20 =>
          ((r20 : Int32) = 0 ∨ (r20 : Int32) = 1) ∧ Q (some (vI r20)) m20)) ∧ (¬ (u13 (17, 0, 0) 13) = 118 →
         ((u13 (17, 0, 0) 13) = 119 →
          RunI g h_Md_number [vO 17 0 0, vI 0] u13 (fun r21 m21 =>
           ((r21 : Int32) = 0 ∨ (r21 : Int32) = 1) ∧ Q (some (vI r21)) m21)) ∧ (¬ (u13 (17, 0, 0) 13) = 119 →
          ((u13 (17, 0, 0) 13) = 120 →
           RunI g h_Md_childAt [vO 17 0 0, vI 0] u13 (fun r22 m22 =>
            (r22 = 0 →
             ((0 : Int32) = 0 ∨ (0 : Int32) = 1) ∧ Q (some (vI 0)) m22) ∧ (¬ r22 = 0 →
             RunI g h_Md_sign [vO 17 0 0, vI 61] m22 (fun r23 m23 =>
              (r23 = 0 →
               ((0 : Int32) = 0 ∨ (0 : Int32) = 1) ∧ Q (some (vI 0)) m23) ∧ (¬ r23 = 0 →
               RunI g h_Md_childAt [vO 17 0 0, vI 2] m23 (fun r24 m24 =>
                (r24 = 0 →
                 ((0 : Int32) = 0 ∨ (0 : Int32) = 1) ∧ Q (some (vI 0)) m24) ∧ (¬ r24 = 0 →
                 ((1 : Int32) = 0 ∨ (1 : Int32) = 1) ∧ Q (some (vI 1)) m24))))))) ∧ (¬ (u13 (17, 0, 0) 13) = 120 →
           ((0 : Int32) = 0 ∨ (0 : Int32) = 1) ∧ Q (some (vI 0)) (mset u13 17 0 0 12 ((u13 (17, 0, 0) 12) - 1)))))))))) : Go g h_Md_readOrder Q 0 [(0, vO 17 0 0)] [] mem := Go.cutN o_Md_readOrder [] 46 hv
set_option maxRecDepth 100000 in
theorem b_Md_visit_0 {g : Wg} {Q : Option Vl → Mm → Prop} {x1 : Int32} {x2 : Int32} {mem : Mm} (hv :
    RunI g h_Md_isChild [vO 17 0 0, vI x1] mem (fun r1 m1 =>
     (r1 = 0 →
      Q (some (vI ((-1)))) m1) ∧ (¬ r1 = 0 →
      RunI g h_Md_isSession [vI x2] m1 (fun r2 m2 =>
       (¬ r2 = 0 →
        RunI g h_Md_of [vO 17 0 0, vI x1, vI 3] m2 (fun r3 m3 =>
         (¬ r3 = 1 →
          Q (some (vI ((-5)))) m3) ∧ (r3 = 1 →
          RunI g h_Md_of [vO 17 0 0, vI x1, vI 6] m3 (fun r4 m4 =>
           (r4 = 1 →
            Q (some (vI ((-5)))) m4) ∧ (¬ r4 = 1 →
            RunI g h_Md_of [vO 17 0 0, vI x1, vI 8] m4 (fun r5 m5 =>
             (r5 < 0 →
              RunI g h_Md_of [vO 17 0 0, vI x1, vI 4] m5 (fun r6 m6 =>
               RunI g h_Md_of [vO 17 0 0, vI x1, vI 5] m6 (fun r7 m7 =>
                RunI g h_Md_has [vI r7, vI x2] m7 (fun r8 m8 =>
                 (¬ r8 = 0 →
                  RunV g h_Md_record [vO 17 0 0] m8 (fun m9 =>
                   RunV g h_Md_put3 [vO 17 0 0, vI x1, vI 8, vI x2] m9 (fun m10 =>
                    RunI g h_Md_plannedMany [vO 17 0 0] m10 (fun r11 m11 =>
                     Q (some (vI r11)) m11)))) ∧ (r8 = 0 →
                  RunI g h_Md_taken [vO 17 0 0, vI r6, vI x2] m8 (fun r12 m12 =>
                   RunI g h_Md_guests [vO 17 0 0, vI r6, vI x2] m12 (fun r13 m13 =>
                    RunI g h_Md_places [vO 17 0 0, vI r6, vI x2, vI 1] m13 (fun r14 m14 =>
                     ((r12 + r13) < r14 →
                      RunV g h_Md_record [vO 17 0 0] m14 (fun m15 =>
                       RunV g h_Md_put3 [vO 17 0 0, vI x1, vI 8, vI x2] m15 (fun m16 =>
                        RunI g h_Md_plannedMany [vO 17 0 0] m16 (fun r17 m17 =>
                         Q (some (vI r17)) m17)))) ∧ (¬ (r12 + r13) < r14 →
                      Q (some (vI ((-5)))) m14))))))))) ∧ (¬ r5 < 0 →
              Q (some (vI ((-5)))) m5))))))) ∧ (r2 = 0 →
        Q (some (vI ((-1)))) m2))))) : Go g h_Md_visit Q 0 [(0, vO 17 0 0), (1, vI x1), (2, vI x2)] [] mem := Go.cutN o_Md_visit [] 62 hv
set_option maxRecDepth 100000 in
theorem b_Md_canSwap_0 {g : Wg} {Q : Option Vl → Mm → Prop} {x1 : Int32} {x2 : Int32} {x3 : Int32} {x4 : Int32} {mem : Mm} (hv :
    (x1 = x3 →
     ((0 : Int32) = 0 ∨ (0 : Int32) = 1) ∧ Q (some (vI 0)) mem) ∧ (¬ x1 = x3 →
     RunI g h_Md_of [vO 17 0 0, vI x1, vI 3] mem (fun r1 m1 =>
      (¬ r1 = 1 →
       ((0 : Int32) = 0 ∨ (0 : Int32) = 1) ∧ Q (some (vI 0)) m1) ∧ (r1 = 1 →
       RunI g h_Md_of [vO 17 0 0, vI x3, vI 3] m1 (fun r2 m2 =>
        (r2 = 1 →
         RunI g h_Md_of [vO 17 0 0, vI x1, vI 5] m2 (fun r3 m3 =>
          RunI g h_Md_has [vI r3, vI x2] m3 (fun r4 m4 =>
           (r4 = 0 →
            ((0 : Int32) = 0 ∨ (0 : Int32) = 1) ∧ Q (some (vI 0)) m4) ∧ (¬ r4 = 0 →
            RunI g h_Md_of [vO 17 0 0, vI x3, vI 5] m4 (fun r5 m5 =>
             RunI g h_Md_has [vI r5, vI x2] m5 (fun r6 m6 =>
              (¬ r6 = 0 →
               ((0 : Int32) = 0 ∨ (0 : Int32) = 1) ∧ Q (some (vI 0)) m6) ∧ (r6 = 0 →
               RunI g h_Md_of [vO 17 0 0, vI x3, vI 5] m6 (fun r7 m7 =>
                RunI g h_Md_has [vI r7, vI x4] m7 (fun r8 m8 =>
                 (r8 = 0 →
                  ((0 : Int32) = 0 ∨ (0 : Int32) = 1) ∧ Q (some (vI 0)) m8) ∧ (¬ r8 = 0 →
                  RunI g h_Md_of [vO 17 0 0, vI x1, vI 5] m8 (fun r9 m9 =>
                   RunI g h_Md_has [vI r9, vI x4] m9 (fun r10 m10 =>
                    (r10 = 0 →
                     RunI g h_Md_of [vO 17 0 0, vI x1, vI 4] m10 (fun r11 m11 =>
                      RunI g h_Md_of [vO 17 0 0, vI x3, vI 4] m11 (fun r12 m12 =>
                       (r11 = r12 →
                        ((1 : Int32) = 0 ∨ (1 : Int32) = 1) ∧ Q (some (vI 1)) m12) ∧ (¬ r11 = r12 →
                        RunI g h_Md_of [vO 17 0 0, vI x1, vI 4] m12 (fun r13 m13 =>
                         RunI g h_Md_isFree [vO 17 0 0, vI r13, vI x4] m13 (fun r14 m14 =>
                          (r14 = 0 →
                           ((0 : Int32) = 0 ∨ (0 : Int32) = 1) ∧ Q (some (vI 0)) m14) ∧ (¬ r14 = 0 →
                           RunI g h_Md_of [vO 17 0 0, vI x3, vI 4] m14 (fun r15 m15 =>
                            RunI g h_Md_isFree [vO 17 0 0, vI r15, vI x2] m15 (fun r16 m16 =>
                             (r16 = 0 →
                              ((0 : Int32) = 0 ∨ (0 : Int32) = 1) ∧ Q (some (vI 0)) m16) ∧ (¬ r16 = 0 →
                              ((1 : Int32) = 0 ∨ (1 : Int32) = 1) ∧ Q (some (vI 1)) m16)))))))))) ∧ (¬ r10 = 0 →
                     ((0 : Int32) = 0 ∨ (0 : Int32) = 1) ∧ Q (some (vI 0)) m10))))))))))))) ∧ (¬ r2 = 1 →
         ((0 : Int32) = 0 ∨ (0 : Int32) = 1) ∧ Q (some (vI 0)) m2)))))) : Go g h_Md_canSwap Q 0 [(0, vO 17 0 0), (1, vI x1), (2, vI x2), (3, vI x3), (4, vI x4)] [] mem := Go.cutN o_Md_canSwap [] 72 hv
set_option maxRecDepth 100000 in
theorem b_Md_comeAll_0 {g : Wg} {Q : Option Vl → Mm → Prop}  {mem : Mm} (hv :
    Go g h_Md_comeAll Q 2 [(0, vO 17 0 0), (1, vI 0)] [] mem) : Go g h_Md_comeAll Q 0 [(0, vO 17 0 0)] [] mem := Go.cutN o_Md_comeAll [(2, [0, 1]), (30, [0, 1])] 4 hv
set_option maxRecDepth 100000 in
theorem b_Md_comeAll_2 {g : Wg} {Q : Option Vl → Mm → Prop} {x1 : Int32} {mem : Mm} (hv :
    (24 ≤ x1 →
     Go g h_Md_comeAll Q 30 [(0, vO 17 0 0), (1, vI 0)] [] mem) ∧ (¬ 24 ≤ x1 →
     vp_in x1 24 ∧
     vp_in x1 24 ∧
     Go g h_Md_comeAll Q 2 [(0, vO 17 0 0), (1, vI (x1 + 1))] [] (mset (mset mem 18 6 0 x1.toNatClampNeg 0) 18 7 0 x1.toNatClampNeg 0))) : Go g h_Md_comeAll Q 2 [(0, vO 17 0 0), (1, vI x1)] [] mem := Go.cutN o_Md_comeAll [(2, [0, 1]), (30, [0, 1])] 17 hv
set_option maxRecDepth 100000 in
theorem b_Md_comeAll_30 {g : Wg} {Q : Option Vl → Mm → Prop} {x1 : Int32} {mem : Mm} (hv :
    vp_in 6 429 ∧
    ((10 * (mem (18, 0, 0) 6)) ≤ x1 →
     Q none mem) ∧ (¬ (10 * (mem (18, 0, 0) 6)) ≤ x1 →
     (¬ 10 = (0 : Int32)) ∧
     (¬ 10 = (0 : Int32)) ∧
     RunV g h_Md_come [vO 17 0 0, vI (x1 / 10), vI (x1 - x1 / 10 * 10)] mem (fun m1 =>
      Go g h_Md_comeAll Q 30 [(0, vO 17 0 0), (1, vI (x1 + 1))] [] m1))) : Go g h_Md_comeAll Q 30 [(0, vO 17 0 0), (1, vI x1)] [] mem := Go.cutN o_Md_comeAll [(2, [0, 1]), (30, [0, 1])] 20 hv
set_option maxRecDepth 100000 in
theorem b_Md_freeOf_0 {g : Wg} {Q : Option Vl → Mm → Prop} {x1 : Int32} {x2 : Int32} {mem : Mm} (hv :
    Go g h_Md_freeOf Q 5 [(0, vO 17 0 0), (1, vI x1), (2, vI x2), (3, vI 0), (4, vI 0)] [] mem) : Go g h_Md_freeOf Q 0 [(0, vO 17 0 0), (1, vI x1), (2, vI x2)] [] mem := Go.cutN o_Md_freeOf [(5, [0, 1, 2, 3, 4])] 6 hv
set_option maxRecDepth 100000 in
theorem b_Md_freeOf_5 {g : Wg} {Q : Option Vl → Mm → Prop} {x1 : Int32} {x2 : Int32} {x3 : Int32} {x4 : Int32} {mem : Mm} (hv :
    (10 ≤ x4 →
     Q (some (vI x3)) mem) ∧ (¬ 10 ≤ x4 →
     RunI g h_Md_has [vI x2, vI x4] mem (fun r1 m1 =>
      (r1 = 0 →
       Go g h_Md_freeOf Q 5 [(0, vO 17 0 0), (1, vI x1), (2, vI x2), (3, vI (x3 ||| 0)), (4, vI (x4 + 1))] [] m1) ∧ (¬ r1 = 0 →
       RunI g h_Md_isFree [vO 17 0 0, vI x1, vI x4] m1 (fun r2 m2 =>
        (r2 = 0 →
         Go g h_Md_freeOf Q 5 [(0, vO 17 0 0), (1, vI x1), (2, vI x2), (3, vI (x3 ||| 0)), (4, vI (x4 + 1))] [] m2) ∧ (¬ r2 = 0 →
         Go g h_Md_freeOf Q 5 [(0, vO 17 0 0), (1, vI x1), (2, vI x2), (3, vI (x3 ||| (1 <<< (x4 &&& 31)))), (4, vI (x4 + 1))] [] m2)))))) : Go g h_Md_freeOf Q 5 [(0, vO 17 0 0), (1, vI x1), (2, vI x2), (3, vI x3), (4, vI x4)] [] mem := Go.cutN o_Md_freeOf [(5, [0, 1, 2, 3, 4])] 23 hv
set_option maxRecDepth 100000 in
theorem b_Md_isGood_0 {g : Wg} {Q : Option Vl → Mm → Prop}  {mem : Mm} (hv :
    RunI g h_Md_readOrder [vO 17 0 0] (mset mem 17 0 0 12 0) (fun r1 m1 =>
     Go g h_Md_isGood Q 10 [(0, vO 17 0 0), (1, vI r1)] [] m1)) : Go g h_Md_isGood Q 0 [(0, vO 17 0 0)] [] mem := Go.cutN o_Md_isGood [(10, [0, 1])] 8 hv
set_option maxRecDepth 100000 in
theorem b_Md_isGood_10 {g : Wg} {Q : Option Vl → Mm → Prop} {x1 : Int32} {mem : Mm} (hv :
    (x1 = 0 →
     ((x1 : Int32) = 0 ∨ (x1 : Int32) = 1) ∧ Q (some (vI x1)) mem) ∧ (¬ x1 = 0 →
     ((mem (17, 0, 0) 8) ≤ (mem (17, 0, 0) 12) →
      ((x1 : Int32) = 0 ∨ (x1 : Int32) = 1) ∧ Q (some (vI x1)) mem) ∧ (¬ (mem (17, 0, 0) 8) ≤ (mem (17, 0, 0) 12) →
      RunI g h_Md_sign [vO 17 0 0, vI 59] mem (fun r1 m1 =>
       (r1 = 0 →
        Go g h_Md_isGood Q 10 [(0, vO 17 0 0), (1, vI 0)] [] m1) ∧ (¬ r1 = 0 →
        RunI g h_Md_readOrder [vO 17 0 0] m1 (fun r2 m2 =>
         (r2 = 0 →
          Go g h_Md_isGood Q 10 [(0, vO 17 0 0), (1, vI 0)] [] m2) ∧ (¬ r2 = 0 →
          Go g h_Md_isGood Q 10 [(0, vO 17 0 0), (1, vI 1)] [] m2))))))) : Go g h_Md_isGood Q 10 [(0, vO 17 0 0), (1, vI x1)] [] mem := Go.cutN o_Md_isGood [(10, [0, 1])] 20 hv
set_option maxRecDepth 100000 in
theorem b_Md_moreBy_0 {g : Wg} {Q : Option Vl → Mm → Prop} {x1 : Int32} {x2 : Int32} {x3 : Int32} {x4 : Int32} {mem : Mm} (hv :
    RunI g h_Md_isRoom [vO 17 0 0, vI x1] mem (fun r1 m1 =>
     (¬ r1 = 0 →
      RunI g h_Md_isShift [vI x2, vI x3, vI x4] m1 (fun r2 m2 =>
       (r2 = 0 →
        Q (some (vI ((-2)))) m2) ∧ (¬ r2 = 0 →
        RunI g h_Md_placesWith [vO 17 0 0, vI x1, vI x2, vI x3, vI x4] m2 (fun r3 m3 =>
         RunI g h_Md_allPlaces [vO 17 0 0, vI x1] m3 (fun r4 m4 =>
          Q (some (vI (r3 - r4))) m4))))) ∧ (r1 = 0 →
      Q (some (vI ((-1)))) m1))) : Go g h_Md_moreBy Q 0 [(0, vO 17 0 0), (1, vI x1), (2, vI x2), (3, vI x3), (4, vI x4)] [] mem := Go.cutN o_Md_moreBy [] 22 hv
set_option maxRecDepth 100000 in
theorem b_Md_fault_0 {g : Wg} {Q : Option Vl → Mm → Prop}  {mem : Mm} (hv :
    RunI g h_Md_isGood [vO 17 0 0] mem (fun r1 m1 =>
     (r1 = 0 →
      Q (some (vI (m1 (17, 0, 0) 12))) m1) ∧ (¬ r1 = 0 →
      Q (some (vI ((-6)))) m1))) : Go g h_Md_fault Q 0 [(0, vO 17 0 0)] [] mem := Go.cutN o_Md_fault [] 7 hv
set_option maxRecDepth 100000 in
theorem b_Md_gets_0 {g : Wg} {Q : Option Vl → Mm → Prop} {x1 : Int32} {mem : Mm} (hv :
    RunI g h_Md_of [vO 17 0 0, vI x1, vI 0] mem (fun r1 m1 =>
     RunI g h_Md_roomOf [vO 17 0 0, vI r1] m1 (fun r2 m2 =>
      (0 ≤ r2 →
       RunI g h_Md_of [vO 17 0 0, vI x1, vI 2] m2 (fun r3 m3 =>
        RunI g h_Md_freeOf [vO 17 0 0, vI r2, vI r3] m3 (fun r4 m4 =>
         RunI g h_Md_ones [vI r4] m4 (fun r5 m5 =>
          vp_in 2 429 ∧
          (r5 < (m5 (18, 0, 0) 2) →
           Q (some (vI 0)) m5) ∧ (¬ r5 < (m5 (18, 0, 0) 2) →
           Q (some (vI r4)) m5))))) ∧ (¬ 0 ≤ r2 →
       RunI g h_Md_ones [vI 0] m2 (fun r6 m6 =>
        vp_in 2 429 ∧
        (r6 < (m6 (18, 0, 0) 2) →
         Q (some (vI 0)) m6) ∧ (¬ r6 < (m6 (18, 0, 0) 2) →
         Q (some (vI 0)) m6)))))) : Go g h_Md_gets Q 0 [(0, vO 17 0 0), (1, vI x1)] [] mem := Go.cutN o_Md_gets [] 28 hv
set_option maxRecDepth 100000 in
theorem b_Md_moves_0 {g : Wg} {Q : Option Vl → Mm → Prop} {x1 : Int32} {mem : Mm} (hv :
    RunI g h_Md_of [vO 17 0 0, vI x1, vI 0] mem (fun r1 m1 =>
     RunI g h_Md_of [vO 17 0 0, vI x1, vI 4] m1 (fun r2 m2 =>
      RunI g h_Md_of [vO 17 0 0, vI x1, vI 3] m2 (fun r3 m3 =>
       (¬ r3 = 1 →
        Q none m3) ∧ (r3 = 1 →
        vp_in (13 + (4 * r2)) 429 ∧
        vp_in ((13 + (4 * r2)) + 1) 429 ∧
        RunI g h_Md_in [vI r1, vI (m3 (18, 0, 0) (13 + (4 * r2)).toNatClampNeg), vI ((m3 (18, 0, 0) ((13 + (4 * r2)) + 1).toNatClampNeg) - 1)] m3 (fun r4 m4 =>
         (r4 = 0 →
          RunI g h_Md_roomOf [vO 17 0 0, vI r1] m4 (fun r5 m5 =>
           (0 ≤ r5 →
            RunI g h_Md_of [vO 17 0 0, vI x1, vI 5] m5 (fun r6 m6 =>
             RunI g h_Md_freeOf [vO 17 0 0, vI r5, vI r6] m6 (fun r7 m7 =>
              (0 ≤ r5 →
               RunI g h_Md_ones [vI r7] m7 (fun r8 m8 =>
                vp_in 2 429 ∧
                (r8 < (m8 (18, 0, 0) 2) →
                 RunV g h_Md_becomes [vO 17 0 0, vI x1, vI 0] m8 (fun m9 =>
                  RunV g h_Md_put3 [vO 17 0 0, vI x1, vI 7, vI 0] m9 (fun m10 =>
                   vp_in 5 429 ∧
                   RunV g h_Md_put3 [vO 17 0 0, vI x1, vI 12, vI (m10 (18, 0, 0) 5)] m10 (fun m11 =>
                    Q none m11)))) ∧ (¬ r8 < (m8 (18, 0, 0) 2) →
                 RunV g h_Md_put3 [vO 17 0 0, vI x1, vI 4, vI r5] m8 (fun m12 =>
                  RunV g h_Md_put3 [vO 17 0 0, vI x1, vI 5, vI r7] m12 (fun m13 =>
                   Q none m13))))) ∧ (¬ 0 ≤ r5 →
               RunV g h_Md_becomes [vO 17 0 0, vI x1, vI 2] m7 (fun m14 =>
                Q none m14))))) ∧ (¬ 0 ≤ r5 →
            (0 ≤ r5 →
             RunI g h_Md_ones [vI 0] m5 (fun r15 m15 =>
              vp_in 2 429 ∧
              (r15 < (m15 (18, 0, 0) 2) →
               RunV g h_Md_becomes [vO 17 0 0, vI x1, vI 0] m15 (fun m16 =>
                RunV g h_Md_put3 [vO 17 0 0, vI x1, vI 7, vI 0] m16 (fun m17 =>
                 vp_in 5 429 ∧
                 RunV g h_Md_put3 [vO 17 0 0, vI x1, vI 12, vI (m17 (18, 0, 0) 5)] m17 (fun m18 =>
                  Q none m18)))) ∧ (¬ r15 < (m15 (18, 0, 0) 2) →
               RunV g h_Md_put3 [vO 17 0 0, vI x1, vI 4, vI r5] m15 (fun m19 =>
                RunV g h_Md_put3 [vO 17 0 0, vI x1, vI 5, vI 0] m19 (fun m20 =>
                 Q none m20))))) ∧ (¬ 0 ≤ r5 →
             RunV g h_Md_becomes [vO 17 0 0, vI x1, vI 2] m5 (fun m21 =>
              Q none m21))))) ∧ (¬ r4 = 0 →
          Q none m4))))))) : Go g h_Md_moves Q 0 [(0, vO 17 0 0), (1, vI x1)] [] mem := Go.cutN o_Md_moves [] 77 hv
set_option maxRecDepth 100000 in
theorem b_Md_partners_0 {g : Wg} {Q : Option Vl → Mm → Prop} {x1 : Int32} {x2 : Int32} {x3 : Int32} {mem : Mm} (hv :
    RunI g h_Md_isChild [vO 17 0 0, vI x1] mem (fun r1 m1 =>
     (r1 = 0 →
      Q (some (vI ((-1)))) m1) ∧ (¬ r1 = 0 →
      RunI g h_Md_isSession [vI x2] m1 (fun r2 m2 =>
       (r2 = 0 →
        Q (some (vI ((-1)))) m2) ∧ (¬ r2 = 0 →
        RunI g h_Md_isSession [vI x3] m2 (fun r3 m3 =>
         (¬ r3 = 0 →
          Go g h_Md_partners Q 30 [(0, vO 17 0 0), (1, vI x1), (2, vI x2), (3, vI x3), (4, vI 0), (5, vI 0)] [] m3) ∧ (r3 = 0 →
          Q (some (vI ((-1)))) m3))))))) : Go g h_Md_partners Q 0 [(0, vO 17 0 0), (1, vI x1), (2, vI x2), (3, vI x3)] [] mem := Go.cutN o_Md_partners [(30, [0, 1, 2, 3, 4, 5])] 16 hv
set_option maxRecDepth 100000 in
theorem b_Md_partners_30 {g : Wg} {Q : Option Vl → Mm → Prop} {x1 : Int32} {x2 : Int32} {x3 : Int32} {x4 : Int32} {x5 : Int32} {mem : Mm} (hv :
    vp_in 8 429 ∧
    ((mem (18, 0, 0) 8) ≤ x5 →
     Q (some (vI x4)) mem) ∧ (¬ (mem (18, 0, 0) 8) ≤ x5 →
     RunI g h_Md_canSwap [vO 17 0 0, vI x1, vI x2, vI x5, vI x3] mem (fun r1 m1 =>
      (r1 = 0 →
       Go g h_Md_partners Q 30 [(0, vO 17 0 0), (1, vI x1), (2, vI x2), (3, vI x3), (4, vI (x4 ||| 0)), (5, vI (x5 + 1))] [] m1) ∧ (¬ r1 = 0 →
       Go g h_Md_partners Q 30 [(0, vO 17 0 0), (1, vI x1), (2, vI x2), (3, vI x3), (4, vI (x4 ||| (1 <<< (x5 &&& 31)))), (5, vI (x5 + 1))] [] m1)))) : Go g h_Md_partners Q 30 [(0, vO 17 0 0), (1, vI x1), (2, vI x2), (3, vI x3), (4, vI x4), (5, vI x5)] [] mem := Go.cutN o_Md_partners [(30, [0, 1, 2, 3, 4, 5])] 24 hv
set_option maxRecDepth 100000 in
theorem b_Md_sentHome_0 {g : Wg} {Q : Option Vl → Mm → Prop} {x1 : Int32} {mem : Mm} (hv :
    (x1 = ((-6)) →
     (¬ x1 = ((-6)) →
      vp_in ((33 + (5 * x1)) + 4) 429 ∧
      (¬ x1 = ((-6)) →
       vp_in ((33 + (5 * x1)) + 4) 429 ∧
       RunV g h_Md_comeAll [vO 17 0 0] (mset mem 18 0 0 ((33 + (5 * x1)) + 4).toNatClampNeg 1) (fun m1 =>
        vp_in ((33 + (5 * x1)) + 4) 429 ∧
        Go g h_Md_sentHome Q 76 [(0, vO 17 0 0), (4, vI 0), (5, vI 0)] [] (mset m1 18 0 0 ((33 + (5 * x1)) + 4).toNatClampNeg (mem (18, 0, 0) ((33 + (5 * x1)) + 4).toNatClampNeg)))) ∧ (x1 = ((-6)) →
       vp_in ((33 + (5 * x1)) + 4) 429 ∧
       RunV g h_Md_comeAll [vO 17 0 0] (mset mem 18 0 0 ((33 + (5 * x1)) + 4).toNatClampNeg (mem (18, 0, 0) ((33 + (5 * x1)) + 4).toNatClampNeg)) (fun m2 =>
        vp_in ((33 + (5 * x1)) + 4) 429 ∧
        Go g h_Md_sentHome Q 76 [(0, vO 17 0 0), (4, vI 0), (5, vI 0)] [] (mset m2 18 0 0 ((33 + (5 * x1)) + 4).toNatClampNeg (mem (18, 0, 0) ((33 + (5 * x1)) + 4).toNatClampNeg))))) ∧ (x1 = ((-6)) →
      vp_in 0 429 ∧
      (¬ x1 = ((-6)) →
       vp_in 0 429 ∧
       RunV g h_Md_comeAll [vO 17 0 0] (mset mem 18 0 0 0 1) (fun m3 =>
        vp_in 0 429 ∧
        Go g h_Md_sentHome Q 76 [(0, vO 17 0 0), (4, vI 0), (5, vI 0)] [] (mset m3 18 0 0 0 (mem (18, 0, 0) 0)))) ∧ (x1 = ((-6)) →
       vp_in 0 429 ∧
       RunV g h_Md_comeAll [vO 17 0 0] (mset mem 18 0 0 0 (mem (18, 0, 0) 0)) (fun m4 =>
        vp_in 0 429 ∧
        Go g h_Md_sentHome Q 76 [(0, vO 17 0 0), (4, vI 0), (5, vI 0)] [] (mset m4 18 0 0 0 (mem (18, 0, 0) 0)))))) ∧ (¬ x1 = ((-6)) →
     RunI g h_Md_isCarer [vO 17 0 0, vI x1] mem (fun r5 m5 =>
      (¬ r5 = 0 →
       (¬ x1 = ((-6)) →
        vp_in ((33 + (5 * x1)) + 4) 429 ∧
        (¬ x1 = ((-6)) →
         vp_in ((33 + (5 * x1)) + 4) 429 ∧
         RunV g h_Md_comeAll [vO 17 0 0] (mset m5 18 0 0 ((33 + (5 * x1)) + 4).toNatClampNeg 1) (fun m6 =>
          vp_in ((33 + (5 * x1)) + 4) 429 ∧
          Go g h_Md_sentHome Q 76 [(0, vO 17 0 0), (4, vI 0), (5, vI 0)] [] (mset m6 18 0 0 ((33 + (5 * x1)) + 4).toNatClampNeg (m5 (18, 0, 0) ((33 + (5 * x1)) + 4).toNatClampNeg)))) ∧ (x1 = ((-6)) →
         vp_in ((33 + (5 * x1)) + 4) 429 ∧
         RunV g h_Md_comeAll [vO 17 0 0] (mset m5 18 0 0 ((33 + (5 * x1)) + 4).toNatClampNeg (m5 (18, 0, 0) ((33 + (5 * x1)) + 4).toNatClampNeg)) (fun m7 =>
          vp_in ((33 + (5 * x1)) + 4) 429 ∧
          Go g h_Md_sentHome Q 76 [(0, vO 17 0 0), (4, vI 0), (5, vI 0)] [] (mset m7 18 0 0 ((33 + (5 * x1)) + 4).toNatClampNeg (m5 (18, 0, 0) ((33 + (5 * x1)) + 4).toNatClampNeg))))) ∧ (x1 = ((-6)) →
        vp_in 0 429 ∧
        (¬ x1 = ((-6)) →
         vp_in 0 429 ∧
         RunV g h_Md_comeAll [vO 17 0 0] (mset m5 18 0 0 0 1) (fun m8 =>
          vp_in 0 429 ∧
          Go g h_Md_sentHome Q 76 [(0, vO 17 0 0), (4, vI 0), (5, vI 0)] [] (mset m8 18 0 0 0 (m5 (18, 0, 0) 0)))) ∧ (x1 = ((-6)) →
         vp_in 0 429 ∧
         RunV g h_Md_comeAll [vO 17 0 0] (mset m5 18 0 0 0 (m5 (18, 0, 0) 0)) (fun m9 =>
          vp_in 0 429 ∧
          Go g h_Md_sentHome Q 76 [(0, vO 17 0 0), (4, vI 0), (5, vI 0)] [] (mset m9 18 0 0 0 (m5 (18, 0, 0) 0)))))) ∧ (r5 = 0 →
       Q (some (vI ((-1)))) m5)))) : Go g h_Md_sentHome Q 0 [(0, vO 17 0 0), (1, vI x1)] [] mem := Go.cutN o_Md_sentHome [(76, [0, 4, 5])] 45 hv
set_option maxRecDepth 100000 in
theorem b_Md_sentHome_76 {g : Wg} {Q : Option Vl → Mm → Prop} {x4 : Int32} {x5 : Int32} {mem : Mm} (hv :
    vp_in 8 429 ∧
    ((mem (18, 0, 0) 8) ≤ x5 →
     Q (some (vI x4)) mem) ∧ (¬ (mem (18, 0, 0) 8) ≤ x5 →
     vp_in x5 24 ∧
     Go g h_Md_sentHome Q 76 [(0, vO 17 0 0), (4, vI (x4 + (mem (18, 7, 0) x5.toNatClampNeg))), (5, vI (x5 + 1))] [] mem)) : Go g h_Md_sentHome Q 76 [(0, vO 17 0 0), (4, vI x4), (5, vI x5)] [] mem := Go.cutN o_Md_sentHome [(76, [0, 4, 5])] 17 hv
set_option maxRecDepth 100000 in
theorem b_Md_swap_0 {g : Wg} {Q : Option Vl → Mm → Prop} {x1 : Int32} {x2 : Int32} {x3 : Int32} {x4 : Int32} {mem : Mm} (hv :
    RunI g h_Md_isChild [vO 17 0 0, vI x1] mem (fun r1 m1 =>
     (r1 = 0 →
      Q (some (vI ((-1)))) m1) ∧ (¬ r1 = 0 →
      RunI g h_Md_isSession [vI x2] m1 (fun r2 m2 =>
       (r2 = 0 →
        Q (some (vI ((-1)))) m2) ∧ (¬ r2 = 0 →
        RunI g h_Md_isChild [vO 17 0 0, vI x3] m2 (fun r3 m3 =>
         (r3 = 0 →
          Q (some (vI ((-1)))) m3) ∧ (¬ r3 = 0 →
          RunI g h_Md_isSession [vI x4] m3 (fun r4 m4 =>
           (r4 = 0 →
            Q (some (vI ((-1)))) m4) ∧ (¬ r4 = 0 →
            (¬ x1 = x3 →
             RunI g h_Md_canSwap [vO 17 0 0, vI x1, vI x2, vI x3, vI x4] m4 (fun r5 m5 =>
              (¬ r5 = 0 →
               RunV g h_Md_record [vO 17 0 0] m5 (fun m6 =>
                RunI g h_Md_of [vO 17 0 0, vI x1, vI 5] m6 (fun r7 m7 =>
                 RunV g h_Md_put3 [vO 17 0 0, vI x1, vI 5, vI (r7 ^^^ ((1 <<< (x2 &&& 31)) ||| (1 <<< (x4 &&& 31))))] m7 (fun m8 =>
                  RunI g h_Md_of [vO 17 0 0, vI x3, vI 5] m8 (fun r9 m9 =>
                   RunV g h_Md_put3 [vO 17 0 0, vI x3, vI 5, vI (r9 ^^^ ((1 <<< (x2 &&& 31)) ||| (1 <<< (x4 &&& 31))))] m9 (fun m10 =>
                    Q (some (vI 1)) m10)))))) ∧ (r5 = 0 →
               Q (some (vI ((-5)))) m5))) ∧ (x1 = x3 →
             Q (some (vI ((-1)))) m4)))))))))) : Go g h_Md_swap Q 0 [(0, vO 17 0 0), (1, vI x1), (2, vI x2), (3, vI x3), (4, vI x4)] [] mem := Go.cutN o_Md_swap [] 57 hv
set_option maxRecDepth 100000 in
theorem b_Md_firstOne_0 {g : Wg} {Q : Option Vl → Mm → Prop}  {mem : Mm} (hv :
    vp_in 8 429 ∧
    Go g h_Md_firstOne Q 14 [(0, vO 17 0 0), (1, vI ((-1))), (2, vI 0), (3, vI ((mem (18, 0, 0) 8) - 1))] [] mem) : Go g h_Md_firstOne Q 0 [(0, vO 17 0 0)] [] mem := Go.cutN o_Md_firstOne [(14, [0, 1, 2, 3])] 13 hv
set_option maxRecDepth 100000 in
theorem b_Md_firstOne_14 {g : Wg} {Q : Option Vl → Mm → Prop} {x1 : Int32} {x2 : Int32} {x3 : Int32} {mem : Mm} (hv :
    (x3 < 0 →
     Q (some (vI x1)) mem) ∧ (¬ x3 < 0 →
     RunI g h_Md_of [vO 17 0 0, vI x3, vI 3] mem (fun r1 m1 =>
      (¬ r1 = 0 →
       Go g h_Md_firstOne Q 14 [(0, vO 17 0 0), (1, vI x1), (2, vI x2), (3, vI (x3 + (-1)))] [] m1) ∧ (r1 = 0 →
       RunI g h_Md_gets [vO 17 0 0, vI x3] m1 (fun r2 m2 =>
        (r2 = 0 →
         Go g h_Md_firstOne Q 14 [(0, vO 17 0 0), (1, vI x1), (2, vI x2), (3, vI (x3 + (-1)))] [] m2) ∧ (¬ r2 = 0 →
         RunI g h_Md_hasSibling [vO 17 0 0, vI x3] m2 (fun r3 m3 =>
          (¬ r3 = 0 →
           RunI g h_Md_hasSibling [vO 17 0 0, vI x3] m3 (fun r4 m4 =>
            Go g h_Md_firstOne Q 14 [(0, vO 17 0 0), (1, vI x3), (2, vI r4), (3, vI (x3 + (-1)))] [] m4)) ∧ (r3 = 0 →
           (¬ x2 = 0 →
            Go g h_Md_firstOne Q 14 [(0, vO 17 0 0), (1, vI x1), (2, vI x2), (3, vI (x3 + (-1)))] [] m3) ∧ (x2 = 0 →
            RunI g h_Md_hasSibling [vO 17 0 0, vI x3] m3 (fun r5 m5 =>
             Go g h_Md_firstOne Q 14 [(0, vO 17 0 0), (1, vI x3), (2, vI r5), (3, vI (x3 + (-1)))] [] m5)))))))))) : Go g h_Md_firstOne Q 14 [(0, vO 17 0 0), (1, vI x1), (2, vI x2), (3, vI x3)] [] mem := Go.cutN o_Md_firstOne [(14, [0, 1, 2, 3])] 27 hv
set_option maxRecDepth 100000 in
theorem b_Md_oneWeek_0 {g : Wg} {Q : Option Vl → Mm → Prop}  {mem : Mm} (hv :
    RunV g h_Md_comeAll [vO 17 0 0] mem (fun m1 =>
     Go g h_Md_oneWeek Q 6 [(0, vO 17 0 0), (1, vI 0)] [] m1)) : Go g h_Md_oneWeek Q 0 [(0, vO 17 0 0)] [] mem := Go.cutN o_Md_oneWeek [(6, [0, 1]), (30, [0, 1]), (64, [0, 1]), (131, [0, 1]), (164, [0, 1]), (188, [0, 1])] 6 hv
set_option maxRecDepth 100000 in
theorem b_Md_oneWeek_6 {g : Wg} {Q : Option Vl → Mm → Prop} {x1 : Int32} {mem : Mm} (hv :
    vp_in 8 429 ∧
    ((mem (18, 0, 0) 8) ≤ x1 →
     Go g h_Md_oneWeek Q 30 [(0, vO 17 0 0), (1, vI 0)] [] mem) ∧ (¬ (mem (18, 0, 0) 8) ≤ x1 →
     RunV g h_Md_pays [vO 17 0 0, vI x1] mem (fun m1 =>
      Go g h_Md_oneWeek Q 6 [(0, vO 17 0 0), (1, vI (x1 + 1))] [] m1))) : Go g h_Md_oneWeek Q 6 [(0, vO 17 0 0), (1, vI x1)] [] mem := Go.cutN o_Md_oneWeek [(6, [0, 1]), (30, [0, 1]), (64, [0, 1]), (131, [0, 1]), (164, [0, 1]), (188, [0, 1])] 13 hv
set_option maxRecDepth 100000 in
theorem b_Md_oneWeek_30 {g : Wg} {Q : Option Vl → Mm → Prop} {x1 : Int32} {mem : Mm} (hv :
    vp_in 8 429 ∧
    ((mem (18, 0, 0) 8) ≤ x1 →
     vp_in 5 429 ∧
     vp_in 5 429 ∧
     Go g h_Md_oneWeek Q 64 [(0, vO 17 0 0), (1, vI 0)] [] (mset mem 18 0 0 5 ((mem (18, 0, 0) 5) + 1))) ∧ (¬ (mem (18, 0, 0) 8) ≤ x1 →
     RunV g h_Md_settles [vO 17 0 0, vI x1] mem (fun m1 =>
      Go g h_Md_oneWeek Q 30 [(0, vO 17 0 0), (1, vI (x1 + 1))] [] m1))) : Go g h_Md_oneWeek Q 30 [(0, vO 17 0 0), (1, vI x1)] [] mem := Go.cutN o_Md_oneWeek [(6, [0, 1]), (30, [0, 1]), (64, [0, 1]), (131, [0, 1]), (164, [0, 1]), (188, [0, 1])] 18 hv
set_option maxRecDepth 100000 in
theorem b_Md_oneWeek_64 {g : Wg} {Q : Option Vl → Mm → Prop} {x1 : Int32} {mem : Mm} (hv :
    vp_in 8 429 ∧
    ((mem (18, 0, 0) 8) ≤ x1 →
     Go g h_Md_oneWeek Q 131 [(0, vO 17 0 0), (1, vI 0)] [] mem) ∧ (¬ (mem (18, 0, 0) 8) ≤ x1 →
     RunI g h_Md_of [vO 17 0 0, vI x1, vI 0] mem (fun r1 m1 =>
      vp_in 5 429 ∧
      (¬ 4 = (0 : Int32)) ∧
      (¬ ((m1 (18, 0, 0) 5) - (m1 (18, 0, 0) 5) / 4 * 4) = 0 →
       RunV g h_Md_put3 [vO 17 0 0, vI x1, vI 0, vI (r1 + 0)] m1 (fun m2 =>
        RunV g h_Md_put3 [vO 17 0 0, vI x1, vI 8, vI ((-6))] m2 (fun m3 =>
         Go g h_Md_oneWeek Q 64 [(0, vO 17 0 0), (1, vI (x1 + 1))] [] m3))) ∧ (((m1 (18, 0, 0) 5) - (m1 (18, 0, 0) 5) / 4 * 4) = 0 →
       RunI g h_Md_of [vO 17 0 0, vI x1, vI 3] m1 (fun r4 m4 =>
        (r4 = 2 →
         RunV g h_Md_put3 [vO 17 0 0, vI x1, vI 0, vI (r1 + 0)] m4 (fun m5 =>
          RunV g h_Md_put3 [vO 17 0 0, vI x1, vI 8, vI ((-6))] m5 (fun m6 =>
           Go g h_Md_oneWeek Q 64 [(0, vO 17 0 0), (1, vI (x1 + 1))] [] m6))) ∧ (¬ r4 = 2 →
         RunV g h_Md_put3 [vO 17 0 0, vI x1, vI 0, vI (r1 + 1)] m4 (fun m7 =>
          RunV g h_Md_put3 [vO 17 0 0, vI x1, vI 8, vI ((-6))] m7 (fun m8 =>
           Go g h_Md_oneWeek Q 64 [(0, vO 17 0 0), (1, vI (x1 + 1))] [] m8)))))))) : Go g h_Md_oneWeek Q 64 [(0, vO 17 0 0), (1, vI x1)] [] mem := Go.cutN o_Md_oneWeek [(6, [0, 1]), (30, [0, 1]), (64, [0, 1]), (131, [0, 1]), (164, [0, 1]), (188, [0, 1])] 39 hv
set_option maxRecDepth 100000 in
theorem b_Md_oneWeek_131 {g : Wg} {Q : Option Vl → Mm → Prop} {x1 : Int32} {mem : Mm} (hv :
    vp_in 7 429 ∧
    ((mem (18, 0, 0) 7) ≤ x1 →
     Go g h_Md_oneWeek Q 164 [(0, vO 17 0 0), (1, vI 0)] [] mem) ∧ (¬ (mem (18, 0, 0) 7) ≤ x1 →
     vp_in ((33 + (5 * x1)) + 4) 429 ∧
     Go g h_Md_oneWeek Q 131 [(0, vO 17 0 0), (1, vI (x1 + 1))] [] (mset mem 18 0 0 ((33 + (5 * x1)) + 4).toNatClampNeg 0))) : Go g h_Md_oneWeek Q 131 [(0, vO 17 0 0), (1, vI x1)] [] mem := Go.cutN o_Md_oneWeek [(6, [0, 1]), (30, [0, 1]), (64, [0, 1]), (131, [0, 1]), (164, [0, 1]), (188, [0, 1])] 21 hv
set_option maxRecDepth 100000 in
theorem b_Md_oneWeek_164 {g : Wg} {Q : Option Vl → Mm → Prop} {x1 : Int32} {mem : Mm} (hv :
    vp_in 8 429 ∧
    ((mem (18, 0, 0) 8) ≤ x1 →
     Go g h_Md_oneWeek Q 188 [(0, vO 17 0 0), (1, vI 0)] [] mem) ∧ (¬ (mem (18, 0, 0) 8) ≤ x1 →
     RunV g h_Md_moves [vO 17 0 0, vI x1] mem (fun m1 =>
      Go g h_Md_oneWeek Q 164 [(0, vO 17 0 0), (1, vI (x1 + 1))] [] m1))) : Go g h_Md_oneWeek Q 164 [(0, vO 17 0 0), (1, vI x1)] [] mem := Go.cutN o_Md_oneWeek [(6, [0, 1]), (30, [0, 1]), (64, [0, 1]), (131, [0, 1]), (164, [0, 1]), (188, [0, 1])] 13 hv
set_option maxRecDepth 100000 in
theorem b_Md_oneWeek_188 {g : Wg} {Q : Option Vl → Mm → Prop} {x1 : Int32} {mem : Mm} (hv :
    vp_in 8 429 ∧
    ((mem (18, 0, 0) 8) ≤ x1 →
     Q none mem) ∧ (¬ (mem (18, 0, 0) 8) ≤ x1 →
     RunI g h_Md_of [vO 17 0 0, vI x1, vI 3] mem (fun r1 m1 =>
      (¬ r1 = 0 →
       Go g h_Md_oneWeek Q 188 [(0, vO 17 0 0), (1, vI (x1 + 1))] [] m1) ∧ (r1 = 0 →
       vp_in 5 429 ∧
       RunI g h_Md_of [vO 17 0 0, vI x1, vI 12] m1 (fun r2 m2 =>
        vp_in 4 429 ∧
        (((m1 (18, 0, 0) 5) - r2) ≤ (m2 (18, 0, 0) 4) →
         Go g h_Md_oneWeek Q 188 [(0, vO 17 0 0), (1, vI (x1 + 1))] [] m2) ∧ (¬ ((m1 (18, 0, 0) 5) - r2) ≤ (m2 (18, 0, 0) 4) →
         RunV g h_Md_becomes [vO 17 0 0, vI x1, vI 2] m2 (fun m3 =>
          Go g h_Md_oneWeek Q 188 [(0, vO 17 0 0), (1, vI (x1 + 1))] [] m3))))))) : Go g h_Md_oneWeek Q 188 [(0, vO 17 0 0), (1, vI x1)] [] mem := Go.cutN o_Md_oneWeek [(6, [0, 1]), (30, [0, 1]), (64, [0, 1]), (131, [0, 1]), (164, [0, 1]), (188, [0, 1])] 33 hv
set_option maxRecDepth 100000 in
theorem b_Md_wouldGet_0 {g : Wg} {Q : Option Vl → Mm → Prop} {x1 : Int32} {mem : Mm} (hv :
    RunI g h_Md_isChild [vO 17 0 0, vI x1] mem (fun r1 m1 =>
     (¬ r1 = 0 →
      RunI g h_Md_of [vO 17 0 0, vI x1, vI 3] m1 (fun r2 m2 =>
       (¬ r2 = 0 →
        Q (some (vI ((-5)))) m2) ∧ (r2 = 0 →
        RunI g h_Md_gets [vO 17 0 0, vI x1] m2 (fun r3 m3 =>
         Q (some (vI r3)) m3)))) ∧ (r1 = 0 →
      Q (some (vI ((-1)))) m1))) : Go g h_Md_wouldGet Q 0 [(0, vO 17 0 0), (1, vI x1)] [] mem := Go.cutN o_Md_wouldGet [] 15 hv
set_option maxRecDepth 100000 in
theorem b_Md_admits_0 {g : Wg} {Q : Option Vl → Mm → Prop}  {mem : Mm} (hv :
    RunI g h_Md_firstOne [vO 17 0 0] mem (fun r1 m1 =>
     Go g h_Md_admits Q 7 [(0, vO 17 0 0), (1, vI 0), (2, vI r1)] [] m1)) : Go g h_Md_admits Q 0 [(0, vO 17 0 0)] [] mem := Go.cutN o_Md_admits [(7, [0, 1, 2])] 7 hv
set_option maxRecDepth 100000 in
theorem b_Md_admits_7 {g : Wg} {Q : Option Vl → Mm → Prop} {x1 : Int32} {x2 : Int32} {mem : Mm} (hv :
    (x2 < 0 →
     Q (some (vI x1)) mem) ∧ (¬ x2 < 0 →
     RunI g h_Md_gets [vO 17 0 0, vI x2] mem (fun r1 m1 =>
      RunI g h_Md_of [vO 17 0 0, vI x2, vI 0] m1 (fun r2 m2 =>
       RunI g h_Md_roomOf [vO 17 0 0, vI r2] m2 (fun r3 m3 =>
        RunV g h_Md_put3 [vO 17 0 0, vI x2, vI 4, vI r3] m3 (fun m4 =>
         RunV g h_Md_put3 [vO 17 0 0, vI x2, vI 5, vI r1] m4 (fun m5 =>
          RunV g h_Md_put3 [vO 17 0 0, vI x2, vI 3, vI 1] m5 (fun m6 =>
           vp_in 3 429 ∧
           (¬ (m6 (18, 0, 0) 3) = 0 →
            RunV g h_Md_put3 [vO 17 0 0, vI x2, vI 6, vI 0] m6 (fun m7 =>
             vp_in 12 429 ∧
             RunV g h_Md_put3 [vO 17 0 0, vI x2, vI 13, vI (m7 (18, 0, 0) 12)] m7 (fun m8 =>
              vp_in 12 429 ∧
              vp_in 12 429 ∧
              RunI g h_Md_firstOne [vO 17 0 0] (mset m8 18 0 0 12 ((m8 (18, 0, 0) 12) + 1)) (fun r9 m9 =>
               Go g h_Md_admits Q 7 [(0, vO 17 0 0), (1, vI (x1 ||| (1 <<< (x2 &&& 31)))), (2, vI r9)] [] m9)))) ∧ ((m6 (18, 0, 0) 3) = 0 →
            RunV g h_Md_put3 [vO 17 0 0, vI x2, vI 6, vI 1] m6 (fun m10 =>
             vp_in 12 429 ∧
             RunV g h_Md_put3 [vO 17 0 0, vI x2, vI 13, vI (m10 (18, 0, 0) 12)] m10 (fun m11 =>
              vp_in 12 429 ∧
              vp_in 12 429 ∧
              RunI g h_Md_firstOne [vO 17 0 0] (mset m11 18 0 0 12 ((m11 (18, 0, 0) 12) + 1)) (fun r12 m12 =>
               Go g h_Md_admits Q 7 [(0, vO 17 0 0), (1, vI (x1 ||| (1 <<< (x2 &&& 31)))), (2, vI r12)] [] m12)))))))))))) : Go g h_Md_admits Q 7 [(0, vO 17 0 0), (1, vI x1), (2, vI x2)] [] mem := Go.cutN o_Md_admits [(7, [0, 1, 2])] 65 hv
set_option maxRecDepth 100000 in
theorem b_Md_income_0 {g : Wg} {Q : Option Vl → Mm → Prop} {x1 : Int32} {mem : Mm} (hv :
    RunI g h_Md_in [vI x1, vI 1, vI 52] mem (fun r1 m1 =>
     (¬ r1 = 0 →
      RunV g h_Md_keep [vO 17 0 0] m1 (fun m2 =>
       Go g h_Md_income Q 19 [(0, vO 17 0 0), (1, vI x1), (2, vI 0)] [] m2)) ∧ (r1 = 0 →
      Q (some (vI ((-2)))) m1))) : Go g h_Md_income Q 0 [(0, vO 17 0 0), (1, vI x1)] [] mem := Go.cutN o_Md_income [(19, [0, 1, 2])] 11 hv
set_option maxRecDepth 100000 in
theorem b_Md_income_19 {g : Wg} {Q : Option Vl → Mm → Prop} {x1 : Int32} {x2 : Int32} {mem : Mm} (hv :
    (x1 ≤ x2 →
     vp_in 9 429 ∧
     vp_in 9 429 ∧
     RunV g h_Md_bringBack [vO 17 0 0] mem (fun m1 =>
      Q (some (vI ((mem (18, 0, 0) 9) - (mem (18, 1, 0) 9)))) m1)) ∧ (¬ x1 ≤ x2 →
     RunV g h_Md_oneWeek [vO 17 0 0] mem (fun m2 =>
      Go g h_Md_income Q 19 [(0, vO 17 0 0), (1, vI x1), (2, vI (x2 + 1))] [] m2))) : Go g h_Md_income Q 19 [(0, vO 17 0 0), (1, vI x1), (2, vI x2)] [] mem := Go.cutN o_Md_income [(19, [0, 1, 2])] 18 hv
set_option maxRecDepth 100000 in
theorem b_Md_weeks_0 {g : Wg} {Q : Option Vl → Mm → Prop} {x1 : Int32} {mem : Mm} (hv :
    RunI g h_Md_in [vI x1, vI 1, vI 52] mem (fun r1 m1 =>
     (¬ r1 = 0 →
      RunV g h_Md_record [vO 17 0 0] m1 (fun m2 =>
       Go g h_Md_weeks Q 19 [(0, vO 17 0 0), (1, vI x1), (2, vI 0)] [] m2)) ∧ (r1 = 0 →
      Q (some (vI ((-2)))) m1))) : Go g h_Md_weeks Q 0 [(0, vO 17 0 0), (1, vI x1)] [] mem := Go.cutN o_Md_weeks [(19, [0, 1, 2])] 11 hv
set_option maxRecDepth 100000 in
theorem b_Md_weeks_19 {g : Wg} {Q : Option Vl → Mm → Prop} {x1 : Int32} {x2 : Int32} {mem : Mm} (hv :
    (x1 ≤ x2 →
     vp_in 5 429 ∧
     Q (some (vI (mem (18, 0, 0) 5))) mem) ∧ (¬ x1 ≤ x2 →
     RunV g h_Md_oneWeek [vO 17 0 0] mem (fun m1 =>
      Go g h_Md_weeks Q 19 [(0, vO 17 0 0), (1, vI x1), (2, vI (x2 + 1))] [] m1))) : Go g h_Md_weeks Q 19 [(0, vO 17 0 0), (1, vI x1), (2, vI x2)] [] mem := Go.cutN o_Md_weeks [(19, [0, 1, 2])] 9 hv
set_option maxRecDepth 100000 in
theorem b_Md_admit_0 {g : Wg} {Q : Option Vl → Mm → Prop}  {mem : Mm} (hv :
    RunV g h_Md_record [vO 17 0 0] mem (fun m1 =>
     RunI g h_Md_admits [vO 17 0 0] m1 (fun r2 m2 =>
      RunI g h_Md_ones [vI r2] m2 (fun r3 m3 =>
       Q (some (vI r3)) m3)))) : Go g h_Md_admit Q 0 [(0, vO 17 0 0)] [] mem := Go.cutN o_Md_admit [] 7 hv
set_option maxRecDepth 100000 in
theorem b_Md_wouldAdmit_0 {g : Wg} {Q : Option Vl → Mm → Prop}  {mem : Mm} (hv :
    RunV g h_Md_keep [vO 17 0 0] mem (fun m1 =>
     RunI g h_Md_admits [vO 17 0 0] m1 (fun r2 m2 =>
      RunV g h_Md_bringBack [vO 17 0 0] m2 (fun m3 =>
       Q (some (vI r2)) m3)))) : Go g h_Md_wouldAdmit Q 0 [(0, vO 17 0 0)] [] mem := Go.cutN o_Md_wouldAdmit [] 10 hv
set_option maxRecDepth 100000 in
theorem b_Md_doOrder_0 {g : Wg} {Q : Option Vl → Mm → Prop}  {mem : Mm} (hv :
    ((mem (17, 0, 0) 13) = 97 →
     RunI g h_Md_admit [vO 17 0 0] mem (fun r1 m1 =>
      Q (some (vI r1)) m1)) ∧ (¬ (mem (17, 0, 0) 13) = 97 →
     ((mem (17, 0, 0) 13) = 99 →
      vp_in 0 4 ∧
      vp_in 1 4 ∧
      vp_in 2 4 ∧
      RunI g h_Md_child [vO 17 0 0, vI (mem (18, 8, 0) 0), vI (mem (18, 8, 0) 1), vI (mem (18, 8, 0) 2)] mem (fun r2 m2 =>
       Q (some (vI r2)) m2)) ∧ (¬ (mem (17, 0, 0) 13) = 99 →
      ((mem (17, 0, 0) 13) = 115 →
       vp_in 0 4 ∧
       RunI g h_Md_sick [vO 17 0 0, vI (mem (18, 8, 0) 0)] mem (fun r3 m3 =>
        Q (some (vI r3)) m3)) ∧ (¬ (mem (17, 0, 0) 13) = 115 →
       ((mem (17, 0, 0) 13) = 118 →
        vp_in 0 4 ∧
        vp_in 1 4 ∧
        RunI g h_Md_visit [vO 17 0 0, vI (mem (18, 8, 0) 0), vI (mem (18, 8, 0) 1)] mem (fun r4 m4 =>
         Q (some (vI r4)) m4)) ∧ (¬ (mem (17, 0, 0) 13) = 118 →
        ((mem (17, 0, 0) 13) = 120 →
         vp_in 0 4 ∧
         vp_in 1 4 ∧
         vp_in 2 4 ∧
         vp_in 3 4 ∧
         RunI g h_Md_swap [vO 17 0 0, vI (mem (18, 8, 0) 0), vI (mem (18, 8, 0) 1), vI (mem (18, 8, 0) 2), vI (mem (18, 8, 0) 3)] mem (fun r5 m5 =>
          Q (some (vI r5)) m5)) ∧ (¬ (mem (17, 0, 0) 13) = 120 →
         vp_in 0 4 ∧
         RunI g h_Md_weeks [vO 17 0 0, vI (mem (18, 8, 0) 0)] mem (fun r6 m6 =>
          Q (some (vI r6)) m6))))))) : Go g h_Md_doOrder Q 0 [(0, vO 17 0 0)] [] mem := Go.cutN o_Md_doOrder [] 23 hv
set_option maxRecDepth 100000 in
theorem b_Md_carryOut_0 {g : Wg} {Q : Option Vl → Mm → Prop}  {mem : Mm} (hv :
    RunI g h_Md_isGood [vO 17 0 0] mem (fun r1 m1 =>
     (¬ r1 = 0 →
      RunV g h_Md_record [vO 17 0 0] m1 (fun m2 =>
       ((1 : Int32) = 0 ∨ (1 : Int32) = 1) ∧
       Go g h_Md_carryOut Q 28 [(0, vO 17 0 0), (1, vI 0), (2, vI 1)] [] (mset (mset m2 17 0 0 4 1) 17 0 0 12 0))) ∧ (r1 = 0 →
      Q (some (vI ((-3)))) m1))) : Go g h_Md_carryOut Q 0 [(0, vO 17 0 0)] [] mem := Go.cutN o_Md_carryOut [(28, [0, 1, 2])] 17 hv
set_option maxRecDepth 100000 in
theorem b_Md_carryOut_28 {g : Wg} {Q : Option Vl → Mm → Prop} {x1 : Int32} {x2 : Int32} {mem : Mm} (hv :
    (x2 = 0 →
     ((0 : Int32) = 0 ∨ (0 : Int32) = 1) ∧
     Q (some (vI x1)) (mset (mset mem 17 0 0 4 0) 17 0 0 8 0)) ∧ (¬ x2 = 0 →
     ((mem (17, 0, 0) 8) ≤ (mem (17, 0, 0) 12) →
      ((0 : Int32) = 0 ∨ (0 : Int32) = 1) ∧
      Q (some (vI x1)) (mset (mset mem 17 0 0 4 0) 17 0 0 8 0)) ∧ (¬ (mem (17, 0, 0) 8) ≤ (mem (17, 0, 0) 12) →
      RunI g h_Md_sign [vO 17 0 0, vI 59] mem (fun r1 m1 =>
       RunI g h_Md_readOrder [vO 17 0 0] m1 (fun r2 m2 =>
        RunI g h_Md_doOrder [vO 17 0 0] m2 (fun r3 m3 =>
         (r3 < 0 →
          ((0 : Int32) = 0 →
           Go g h_Md_carryOut Q 28 [(0, vO 17 0 0), (1, vI (x1 + 0)), (2, vI 0)] [] m3) ∧ (¬ (0 : Int32) = 0 →
           Go g h_Md_carryOut Q 28 [(0, vO 17 0 0), (1, vI (x1 + 1)), (2, vI 0)] [] m3)) ∧ (¬ r3 < 0 →
          ((1 : Int32) = 0 →
           Go g h_Md_carryOut Q 28 [(0, vO 17 0 0), (1, vI (x1 + 0)), (2, vI 1)] [] m3) ∧ (¬ (1 : Int32) = 0 →
           Go g h_Md_carryOut Q 28 [(0, vO 17 0 0), (1, vI (x1 + 1)), (2, vI 1)] [] m3)))))))) : Go g h_Md_carryOut Q 28 [(0, vO 17 0 0), (1, vI x1), (2, vI x2)] [] mem := Go.cutN o_Md_carryOut [(28, [0, 1, 2])] 30 hv
