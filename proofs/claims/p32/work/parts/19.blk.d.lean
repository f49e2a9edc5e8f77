/-! WHAT THE SMALL MACHINE ASKS between cuts (laid by a program; each row is its own evaluation) -/
set_option maxRecDepth 100000 in
theorem b_N_holds_0 {g : Wg} {Q : Option Vl → Mm → Prop} {x0 : Int32} {x1 : Int32} {mem : Mm} (hv :
    (¬ ((x0 >>> (x1 &&& 31)) &&& 1) = 1 →
     ((0 : Int32) = 0 ∨ (0 : Int32) = 1) ∧ Q (some (vI 0)) mem) ∧ (((x0 >>> (x1 &&& 31)) &&& 1) = 1 →
     ((1 : Int32) = 0 ∨ (1 : Int32) = 1) ∧ Q (some (vI 1)) mem)) : Go g h_N_holds Q 0 [(0, vI x0), (1, vI x1)] [] mem := Go.cutN o_N_holds [] 11 hv
set_option maxRecDepth 100000 in
theorem b_N_isWithin_0 {g : Wg} {Q : Option Vl → Mm → Prop} {x0 : Int32} {x1 : Int32} {x2 : Int32} {mem : Mm} (hv :
    (x0 < x1 →
     ((0 : Int32) = 0 ∨ (0 : Int32) = 1) ∧ Q (some (vI 0)) mem) ∧ (¬ x0 < x1 →
     (x2 < x0 →
      ((0 : Int32) = 0 ∨ (0 : Int32) = 1) ∧ Q (some (vI 0)) mem) ∧ (¬ x2 < x0 →
      ((1 : Int32) = 0 ∨ (1 : Int32) = 1) ∧ Q (some (vI 1)) mem))) : Go g h_N_isWithin Q 0 [(0, vI x0), (1, vI x1), (2, vI x2)] [] mem := Go.cutN o_N_isWithin [] 10 hv
set_option maxRecDepth 100000 in
theorem b_N_count_0 {g : Wg} {Q : Option Vl → Mm → Prop} {x1 : Int32} {mem : Mm} (hv :
    RunI g h_N_isWithin [vI x1, vI 4, vI 6] mem (fun r1 m1 =>
     (r1 = 0 →
      RunI g h_N_isWithin [vI x1, vI 14, vI 18] m1 (fun r2 m2 =>
       (r2 = 0 →
        (x1 = 0 →
         Q (some (vI (m2 (2, 0, 0) 7))) m2) ∧ (¬ x1 = 0 →
         (x1 = 1 →
          Q (some (vI (m2 (2, 0, 0) 4))) m2) ∧ (¬ x1 = 1 →
          (x1 = 2 →
           Q (some (vI (m2 (2, 0, 0) 5))) m2) ∧ (¬ x1 = 2 →
           (x1 = 3 →
            Q (some (vI (m2 (2, 0, 0) 6))) m2) ∧ (¬ x1 = 3 →
            (x1 = 4 →
             Q (some (vI ((-2)))) m2) ∧ (¬ x1 = 4 →
             (x1 = 5 →
              Q (some (vI ((-2)))) m2) ∧ (¬ x1 = 5 →
              (x1 = 6 →
               Q (some (vI ((-2)))) m2) ∧ (¬ x1 = 6 →
               (x1 = 7 →
                RunI g h_St_settledChildren [vO 2 0 0] m2 (fun r3 m3 =>
                 Q (some (vI r3)) m3)) ∧ (¬ x1 = 7 →
                (x1 = 8 →
                 Q (some (vI (m2 (2, 0, 0) 9))) m2) ∧ (¬ x1 = 8 →
                 (x1 = 9 →
                  Q (some (vI (m2 (2, 0, 0) 10))) m2) ∧ (¬ x1 = 9 →
                  (x1 = 10 →
                   Q (some (vI (m2 (2, 0, 0) 11))) m2) ∧ (¬ x1 = 10 →
                   (x1 = 11 →
                    RunI g h_St_plannedVisits [vO 2 0 0] m2 (fun r4 m4 =>
                     Q (some (vI r4)) m4)) ∧ (¬ x1 = 11 →
                    (x1 = 12 →
                     Q (some (vI (m2 (14, 0, 0) 1))) m2) ∧ (¬ x1 = 12 →
                     (x1 = 13 →
                      Q (some (vI (m2 (10, 0, 0) 2))) m2) ∧ (¬ x1 = 13 →
                      Q (some (vI ((-2)))) m2))))))))))))))) ∧ (¬ r2 = 0 →
        vp_in (x1 - 14) 5 ∧
        Q (some (vI (m2 (3, 0, 0) (x1 - 14).toNatClampNeg))) m2))) ∧ (¬ r1 = 0 →
      RunI g h_St_childrenInState [vO 2 0 0, vI (x1 - 4)] m1 (fun r5 m5 =>
       Q (some (vI r5)) m5)))) : Go g h_N_count Q 0 [(0, vO 1 0 0), (1, vI x1)] [] mem := Go.cutN o_N_count [] 19 hv
set_option maxRecDepth 100000 in
theorem b_N_isSession_0 {g : Wg} {Q : Option Vl → Mm → Prop} {x0 : Int32} {mem : Mm} (hv :
    RunI g h_N_isWithin [vI x0, vI 0, vI 9] mem (fun r1 m1 =>
     ((r1 : Int32) = 0 ∨ (r1 : Int32) = 1) ∧ Q (some (vI r1)) m1)) : Go g h_N_isSession Q 0 [(0, vI x0)] [] mem := Go.cutN o_N_isSession [] 6 hv
set_option maxRecDepth 100000 in
theorem b_N_isShift_0 {g : Wg} {Q : Option Vl → Mm → Prop} {x0 : Int32} {x1 : Int32} {x2 : Int32} {mem : Mm} (hv :
    RunI g h_N_isWithin [vI x0, vI 1, vI 31] mem (fun r1 m1 =>
     (r1 = 0 →
      ((0 : Int32) = 0 ∨ (0 : Int32) = 1) ∧ Q (some (vI 0)) m1) ∧ (¬ r1 = 0 →
      RunI g h_N_isWithin [vI x1, vI 0, vI 9] m1 (fun r2 m2 =>
       (r2 = 0 →
        ((0 : Int32) = 0 ∨ (0 : Int32) = 1) ∧ Q (some (vI 0)) m2) ∧ (¬ r2 = 0 →
        (x2 ≤ x1 →
         ((0 : Int32) = 0 ∨ (0 : Int32) = 1) ∧ Q (some (vI 0)) m2) ∧ (¬ x2 ≤ x1 →
         (10 < x2 →
          ((0 : Int32) = 0 ∨ (0 : Int32) = 1) ∧ Q (some (vI 0)) m2) ∧ (¬ 10 < x2 →
          ((1 : Int32) = 0 ∨ (1 : Int32) = 1) ∧ Q (some (vI 1)) m2))))))) : Go g h_N_isShift Q 0 [(0, vI x0), (1, vI x1), (2, vI x2)] [] mem := Go.cutN o_N_isShift [] 20 hv
set_option maxRecDepth 100000 in
theorem b_N_isSlot_0 {g : Wg} {Q : Option Vl → Mm → Prop} {x0 : Int32} {mem : Mm} (hv :
    RunI g h_N_isWithin [vI x0, vI 0, vI 1] mem (fun r1 m1 =>
     ((r1 : Int32) = 0 ∨ (r1 : Int32) = 1) ∧ Q (some (vI r1)) m1)) : Go g h_N_isSlot Q 0 [(0, vI x0)] [] mem := Go.cutN o_N_isSlot [] 6 hv
set_option maxRecDepth 100000 in
theorem b_N_ofCarer_0 {g : Wg} {Q : Option Vl → Mm → Prop} {x1 : Int32} {x2 : Int32} {mem : Mm} (hv :
    RunI g h_St_hasCarer [vO 2 0 0, vI x1] mem (fun r1 m1 =>
     (¬ r1 = 0 →
      vp_in x1 13 ∧
      (x2 = 0 →
       Q (some (vI (m1 (8, 0, x1.toNatClampNeg) 0))) m1) ∧ (¬ x2 = 0 →
       (x2 = 1 →
        Q (some (vI (m1 (8, 0, x1.toNatClampNeg) 1))) m1) ∧ (¬ x2 = 1 →
        (x2 = 2 →
         Q (some (vI (m1 (8, 0, x1.toNatClampNeg) 2))) m1) ∧ (¬ x2 = 2 →
         (x2 = 3 →
          Q (some (vI (m1 (8, 0, x1.toNatClampNeg) 3))) m1) ∧ (¬ x2 = 3 →
          (x2 = 4 →
           ((m1 (8, 0, x1.toNatClampNeg) 4) = 0 →
            Q (some (vI 0)) m1) ∧ (¬ (m1 (8, 0, x1.toNatClampNeg) 4) = 0 →
            Q (some (vI 1)) m1)) ∧ (¬ x2 = 4 →
           Q (some (vI ((-2)))) m1)))))) ∧ (r1 = 0 →
      Q (some (vI ((-1)))) m1))) : Go g h_N_ofCarer Q 0 [(0, vO 1 0 0), (1, vI x1), (2, vI x2)] [] mem := Go.cutN o_N_ofCarer [] 20 hv
set_option maxRecDepth 100000 in
theorem b_N_ofChild_0 {g : Wg} {Q : Option Vl → Mm → Prop} {x1 : Int32} {x2 : Int32} {mem : Mm} (hv :
    RunI g h_St_hasChild [vO 2 0 0, vI x1] mem (fun r1 m1 =>
     (¬ r1 = 0 →
      vp_in x1 24 ∧
      (x2 = 0 →
       Q (some (vI (m1 (9, 0, x1.toNatClampNeg) 0))) m1) ∧ (¬ x2 = 0 →
       (x2 = 1 →
        Q (some (vI (m1 (9, 0, x1.toNatClampNeg) 1))) m1) ∧ (¬ x2 = 1 →
        (x2 = 2 →
         Q (some (vI (m1 (9, 0, x1.toNatClampNeg) 2))) m1) ∧ (¬ x2 = 2 →
         (x2 = 3 →
          Q (some (vI (m1 (9, 0, x1.toNatClampNeg) 3))) m1) ∧ (¬ x2 = 3 →
          (x2 = 4 →
           Q (some (vI (m1 (9, 0, x1.toNatClampNeg) 4))) m1) ∧ (¬ x2 = 4 →
           (x2 = 5 →
            Q (some (vI (m1 (9, 0, x1.toNatClampNeg) 5))) m1) ∧ (¬ x2 = 5 →
            (x2 = 6 →
             ((m1 (9, 0, x1.toNatClampNeg) 6) = 0 →
              Q (some (vI 0)) m1) ∧ (¬ (m1 (9, 0, x1.toNatClampNeg) 6) = 0 →
              Q (some (vI 1)) m1)) ∧ (¬ x2 = 6 →
             (x2 = 7 →
              Q (some (vI (m1 (9, 0, x1.toNatClampNeg) 7))) m1) ∧ (¬ x2 = 7 →
              (x2 = 8 →
               Q (some (vI (m1 (9, 0, x1.toNatClampNeg) 8))) m1) ∧ (¬ x2 = 8 →
               (x2 = 9 →
                Q (some (vI (m1 (9, 0, x1.toNatClampNeg) 9))) m1) ∧ (¬ x2 = 9 →
                (x2 = 10 →
                 Q (some (vI (m1 (9, 0, x1.toNatClampNeg) 10))) m1) ∧ (¬ x2 = 10 →
                 (x2 = 11 →
                  Q (some (vI (m1 (9, 0, x1.toNatClampNeg) 11))) m1) ∧ (¬ x2 = 11 →
                  (x2 = 12 →
                   Q (some (vI (m1 (9, 0, x1.toNatClampNeg) 12))) m1) ∧ (¬ x2 = 12 →
                   Q (some (vI ((-2)))) m1)))))))))))))) ∧ (r1 = 0 →
      Q (some (vI ((-1)))) m1))) : Go g h_N_ofChild Q 0 [(0, vO 1 0 0), (1, vI x1), (2, vI x2)] [] mem := Go.cutN o_N_ofChild [] 20 hv
set_option maxRecDepth 100000 in
theorem b_N_free_0 {g : Wg} {Q : Option Vl → Mm → Prop} {x1 : Int32} {x2 : Int32} {mem : Mm} (hv :
    RunI g h_St_hasRoom [vO 2 0 0, vI x1] mem (fun r1 m1 =>
     (r1 = 0 →
      Q (some (vI ((-1)))) m1) ∧ (¬ r1 = 0 →
      RunI g h_N_isSession [vI x2] m1 (fun r2 m2 =>
       (¬ r2 = 0 →
        RunI g h_St_placesIn [vO 2 0 0, vI x1, vI x2, vI 1] m2 (fun r3 m3 =>
         RunI g h_St_takenIn [vO 2 0 0, vI x1, vI x2] m3 (fun r4 m4 =>
          Q (some (vI (if (0 : Int32) < (r3 - r4) then r3 - r4 else 0))) m4))) ∧ (r2 = 0 →
        Q (some (vI ((-1)))) m2))))) : Go g h_N_free Q 0 [(0, vO 1 0 0), (1, vI x1), (2, vI x2)] [] mem := Go.cutN o_N_free [] 24 hv
set_option maxRecDepth 100000 in
theorem b_N_ofRoom_0 {g : Wg} {Q : Option Vl → Mm → Prop} {x1 : Int32} {x2 : Int32} {mem : Mm} (hv :
    RunI g h_St_hasRoom [vO 2 0 0, vI x1] mem (fun r1 m1 =>
     (¬ r1 = 0 →
      RunI g h_N_isWithin [vI x2, vI 10, vI 19] m1 (fun r2 m2 =>
       (r2 = 0 →
        RunI g h_N_isWithin [vI x2, vI 20, vI 29] m2 (fun r3 m3 =>
         (r3 = 0 →
          RunI g h_N_isWithin [vI x2, vI 30, vI 39] m3 (fun r4 m4 =>
           (r4 = 0 →
            vp_in x1 5 ∧
            (x2 = 0 →
             Q (some (vI (m4 (7, 0, x1.toNatClampNeg) 0))) m4) ∧ (¬ x2 = 0 →
             (x2 = 1 →
              Q (some (vI (m4 (7, 0, x1.toNatClampNeg) 1))) m4) ∧ (¬ x2 = 1 →
              (x2 = 2 →
               Q (some (vI (m4 (7, 0, x1.toNatClampNeg) 2))) m4) ∧ (¬ x2 = 2 →
               (x2 = 3 →
                Q (some (vI (m4 (7, 0, x1.toNatClampNeg) 3))) m4) ∧ (¬ x2 = 3 →
                (x2 = 4 →
                 RunI g h_St_carersOf [vO 2 0 0, vI x1] m4 (fun r5 m5 =>
                  Q (some (vI r5)) m5)) ∧ (¬ x2 = 4 →
                 (x2 = 5 →
                  RunI g h_St_childrenOf [vO 2 0 0, vI x1] m4 (fun r6 m6 =>
                   Q (some (vI r6)) m6)) ∧ (¬ x2 = 5 →
                  Q (some (vI ((-2)))) m4))))))) ∧ (¬ r4 = 0 →
            RunI g h_St_placesIn [vO 2 0 0, vI x1, vI (x2 - 30), vI 0] m4 (fun r7 m7 =>
             Q (some (vI r7)) m7)))) ∧ (¬ r3 = 0 →
          RunI g h_St_takenIn [vO 2 0 0, vI x1, vI (x2 - 20)] m3 (fun r8 m8 =>
           Q (some (vI r8)) m8)))) ∧ (¬ r2 = 0 →
        RunI g h_St_placesIn [vO 2 0 0, vI x1, vI (x2 - 10), vI 1] m2 (fun r9 m9 =>
         Q (some (vI r9)) m9)))) ∧ (r1 = 0 →
      Q (some (vI ((-1)))) m1))) : Go g h_N_ofRoom Q 0 [(0, vO 1 0 0), (1, vI x1), (2, vI x2)] [] mem := Go.cutN o_N_ofRoom [] 34 hv
set_option maxRecDepth 100000 in
theorem b_N_save_0 {g : Wg} {Q : Option Vl → Mm → Prop} {x1 : Int32} {mem : Mm} (hv :
    RunI g h_N_isSlot [vI x1] mem (fun r1 m1 =>
     (¬ r1 = 0 →
      vp_in x1 2 ∧
      RunV g h_St_copyFrom [vO 2 (9 + x1.toNatClampNeg) 0, vO 2 0 0] m1 (fun m2 =>
       vp_in x1 2 ∧
       Q (some (vI ((mset m2 13 0 0 x1.toNatClampNeg (vp_nar .boolean 1)) (2, 0, 0) 7))) (mset m2 13 0 0 x1.toNatClampNeg (vp_nar .boolean 1)))) ∧ (r1 = 0 →
      Q (some (vI ((-2)))) m1))) : Go g h_N_save Q 0 [(0, vO 1 0 0), (1, vI x1)] [] mem := Go.cutN o_N_save [] 20 hv
set_option maxRecDepth 100000 in
theorem b_N_carer_0 {g : Wg} {Q : Option Vl → Mm → Prop} {x1 : Int32} {x2 : Int32} {x3 : Int32} {x4 : Int32} {mem : Mm} (hv :
    RunV g h_Hi_note [vO 10 0 0, vO 2 0 0] mem (fun m1 =>
     RunI g h_St_addCarer [vO 2 0 0, vI x1, vI x2, vI x3, vI x4] m1 (fun r2 m2 =>
      RunI g h_Hi_keepIfDone [vO 10 0 0, vI r2] m2 (fun r3 m3 =>
       Q (some (vI r3)) m3)))) : Go g h_N_carer Q 0 [(0, vO 1 0 0), (1, vI x1), (2, vI x2), (3, vI x3), (4, vI x4)] [] mem := Go.cutN o_N_carer [] 17 hv
set_option maxRecDepth 100000 in
theorem b_N_giveBack_0 {g : Wg} {Q : Option Vl → Mm → Prop} {x1 : Int32} {x2 : Int32} {mem : Mm} (hv :
    RunV g h_Hi_note [vO 10 0 0, vO 2 0 0] mem (fun m1 =>
     RunI g h_Se_handBack [vO 2 0 0, vI x1, vI x2] m1 (fun r2 m2 =>
      RunI g h_Hi_keepIfDone [vO 10 0 0, vI r2] m2 (fun r3 m3 =>
       Q (some (vI r3)) m3)))) : Go g h_N_giveBack Q 0 [(0, vO 1 0 0), (1, vI x1), (2, vI x2)] [] mem := Go.cutN o_N_giveBack [] 15 hv
set_option maxRecDepth 100000 in
theorem b_N_moreBy_0 {g : Wg} {Q : Option Vl → Mm → Prop} {x1 : Int32} {x2 : Int32} {x3 : Int32} {x4 : Int32} {mem : Mm} (hv :
    RunI g h_St_hasRoom [vO 2 0 0, vI x1] mem (fun r1 m1 =>
     (¬ r1 = 0 →
      RunI g h_N_isShift [vI x2, vI x3, vI x4] m1 (fun r2 m2 =>
       (¬ r2 = 0 →
        RunV g h_St_copyFrom [vO 2 1 0, vO 2 0 0] m2 (fun m3 =>
         RunI g h_St_hire [vO 2 1 0, vI x1, vI x2, vI x3, vI x4] m3 (fun r4 m4 =>
          RunI g h_St_placesInAll [vO 2 1 0, vI x1] m4 (fun r5 m5 =>
           RunI g h_St_placesInAll [vO 2 0 0, vI x1] m5 (fun r6 m6 =>
            Q (some (vI (r5 - r6))) m6))))) ∧ (r2 = 0 →
        Q (some (vI ((-2)))) m2))) ∧ (r1 = 0 →
      Q (some (vI ((-1)))) m1))) : Go g h_N_moreBy Q 0 [(0, vO 1 0 0), (1, vI x1), (2, vI x2), (3, vI x3), (4, vI x4)] [] mem := Go.cutN o_N_moreBy [] 34 hv
set_option maxRecDepth 100000 in
theorem b_N_restore_0 {g : Wg} {Q : Option Vl → Mm → Prop} {x1 : Int32} {mem : Mm} (hv :
    RunI g h_N_isSlot [vI x1] mem (fun r1 m1 =>
     (¬ r1 = 0 →
      vp_in x1 2 ∧
      (¬ (m1 (13, 0, 0) x1.toNatClampNeg) = 0 →
       RunV g h_Hi_note [vO 10 0 0, vO 2 0 0] m1 (fun m2 =>
        vp_in x1 2 ∧
        RunV g h_St_copyFrom [vO 2 0 0, vO 2 (9 + x1.toNatClampNeg) 0] m2 (fun m3 =>
         RunI g h_Hi_keepIfDone [vO 10 0 0, vI (m3 (2, 0, 0) 7)] m3 (fun r4 m4 =>
          Q (some (vI r4)) m4)))) ∧ ((m1 (13, 0, 0) x1.toNatClampNeg) = 0 →
       Q (some (vI ((-5)))) m1)) ∧ (r1 = 0 →
      Q (some (vI ((-2)))) m1))) : Go g h_N_restore Q 0 [(0, vO 1 0 0), (1, vI x1)] [] mem := Go.cutN o_N_restore [] 28 hv
set_option maxRecDepth 100000 in
theorem b_N_room_0 {g : Wg} {Q : Option Vl → Mm → Prop} {x1 : Int32} {x2 : Int32} {x3 : Int32} {x4 : Int32} {mem : Mm} (hv :
    RunV g h_Hi_note [vO 10 0 0, vO 2 0 0] mem (fun m1 =>
     RunI g h_St_addRoom [vO 2 0 0, vI x1, vI x2, vI x3, vI x4] m1 (fun r2 m2 =>
      RunI g h_Hi_keepIfDone [vO 10 0 0, vI r2] m2 (fun r3 m3 =>
       Q (some (vI r3)) m3)))) : Go g h_N_room Q 0 [(0, vO 1 0 0), (1, vI x1), (2, vI x2), (3, vI x3), (4, vI x4)] [] mem := Go.cutN o_N_room [] 17 hv
set_option maxRecDepth 100000 in
theorem b_N_set_0 {g : Wg} {Q : Option Vl → Mm → Prop} {x1 : Int32} {x2 : Int32} {mem : Mm} (hv :
    RunV g h_Hi_note [vO 10 0 0, vO 2 0 0] mem (fun m1 =>
     RunI g h_St_changeSetting [vO 2 0 0, vI x1, vI x2] m1 (fun r2 m2 =>
      RunI g h_Hi_keepIfDone [vO 10 0 0, vI r2] m2 (fun r3 m3 =>
       Q (some (vI r3)) m3)))) : Go g h_N_set Q 0 [(0, vO 1 0 0), (1, vI x1), (2, vI x2)] [] mem := Go.cutN o_N_set [] 15 hv
set_option maxRecDepth 100000 in
theorem b_N_sick_0 {g : Wg} {Q : Option Vl → Mm → Prop} {x1 : Int32} {mem : Mm} (hv :
    RunV g h_Hi_note [vO 10 0 0, vO 2 0 0] mem (fun m1 =>
     RunI g h_St_reportSick [vO 2 0 0, vI x1] m1 (fun r2 m2 =>
      RunI g h_Hi_keepIfDone [vO 10 0 0, vI r2] m2 (fun r3 m3 =>
       Q (some (vI r3)) m3)))) : Go g h_N_sick Q 0 [(0, vO 1 0 0), (1, vI x1)] [] mem := Go.cutN o_N_sick [] 14 hv
set_option maxRecDepth 100000 in
theorem b_N_undo_0 {g : Wg} {Q : Option Vl → Mm → Prop}  {mem : Mm} (hv :
    RunI g h_Hi_takeBack [vO 10 0 0, vO 2 0 0] mem (fun r1 m1 =>
     Q (some (vI r1)) m1)) : Go g h_N_undo Q 0 [(0, vO 1 0 0)] [] mem := Go.cutN o_N_undo [] 7 hv
set_option maxRecDepth 100000 in
theorem b_N_child_0 {g : Wg} {Q : Option Vl → Mm → Prop} {x1 : Int32} {x2 : Int32} {x3 : Int32} {mem : Mm} (hv :
    RunV g h_Hi_note [vO 10 0 0, vO 2 0 0] mem (fun m1 =>
     RunI g h_St_addChild [vO 2 0 0, vI x1, vI x2, vI x3] m1 (fun r2 m2 =>
      RunI g h_Hi_keepIfDone [vO 10 0 0, vI r2] m2 (fun r3 m3 =>
       Q (some (vI r3)) m3)))) : Go g h_N_child Q 0 [(0, vO 1 0 0), (1, vI x1), (2, vI x2), (3, vI x3)] [] mem := Go.cutN o_N_child [] 16 hv
set_option maxRecDepth 100000 in
theorem b_N_partners_0 {g : Wg} {Q : Option Vl → Mm → Prop} {x1 : Int32} {x2 : Int32} {x3 : Int32} {mem : Mm} (hv :
    RunI g h_St_hasChild [vO 2 0 0, vI x1] mem (fun r1 m1 =>
     (r1 = 0 →
      Q (some (vI ((-1)))) m1) ∧ (¬ r1 = 0 →
      RunI g h_N_isSession [vI x2] m1 (fun r2 m2 =>
       (r2 = 0 →
        Q (some (vI ((-1)))) m2) ∧ (¬ r2 = 0 →
        RunI g h_N_isSession [vI x3] m2 (fun r3 m3 =>
         (¬ r3 = 0 →
          Go g h_N_partners Q 33 [(0, vO 1 0 0), (1, vI x1), (2, vI x2), (3, vI x3), (4, vI 0), (5, vI 0)] [] m3) ∧ (r3 = 0 →
          Q (some (vI ((-1)))) m3))))))) : Go g h_N_partners Q 0 [(0, vO 1 0 0), (1, vI x1), (2, vI x2), (3, vI x3)] [] mem := Go.cutN o_N_partners [(33, [0, 1, 2, 3, 4, 5])] 17 hv
set_option maxRecDepth 100000 in
theorem b_N_partners_33 {g : Wg} {Q : Option Vl → Mm → Prop} {x1 : Int32} {x2 : Int32} {x3 : Int32} {x4 : Int32} {x5 : Int32} {mem : Mm} (hv :
    ((mem (2, 0, 0) 6) ≤ x5 →
     Q (some (vI x4)) mem) ∧ (¬ (mem (2, 0, 0) 6) ≤ x5 →
     (x5 = x1 →
      Go g h_N_partners Q 33 [(0, vO 1 0 0), (1, vI x1), (2, vI x2), (3, vI x3), (4, vI x4), (5, vI (x5 + 1))] [] mem) ∧ (¬ x5 = x1 →
      RunI g h_Se_canExchange [vO 2 0 0, vI x1, vI x2, vI x5, vI x3] mem (fun r1 m1 =>
       (r1 = 0 →
        Go g h_N_partners Q 33 [(0, vO 1 0 0), (1, vI x1), (2, vI x2), (3, vI x3), (4, vI x4), (5, vI (x5 + 1))] [] m1) ∧ (¬ r1 = 0 →
        Go g h_N_partners Q 33 [(0, vO 1 0 0), (1, vI x1), (2, vI x2), (3, vI x3), (4, vI (x4 ||| (1 <<< (x5 &&& 31)))), (5, vI (x5 + 1))] [] m1))))) : Go g h_N_partners Q 33 [(0, vO 1 0 0), (1, vI x1), (2, vI x2), (3, vI x3), (4, vI x4), (5, vI x5)] [] mem := Go.cutN o_N_partners [(33, [0, 1, 2, 3, 4, 5])] 26 hv
set_option maxRecDepth 100000 in
theorem b_N_sentHome_0 {g : Wg} {Q : Option Vl → Mm → Prop} {x1 : Int32} {mem : Mm} (hv :
    (x1 = ((-6)) →
     RunV g h_St_copyFrom [vO 2 1 0, vO 2 0 0] mem (fun m1 =>
      RunI g h_St_reportSick [vO 2 1 0, vI x1] m1 (fun r2 m2 =>
       RunI g h_Wk_countTooMany [vO 2 1 0] m2 (fun r3 m3 =>
        Q (some (vI r3)) m3)))) ∧ (¬ x1 = ((-6)) →
     RunI g h_St_hasCarer [vO 2 0 0, vI x1] mem (fun r4 m4 =>
      (¬ r4 = 0 →
       RunV g h_St_copyFrom [vO 2 1 0, vO 2 0 0] m4 (fun m5 =>
        RunI g h_St_reportSick [vO 2 1 0, vI x1] m5 (fun r6 m6 =>
         RunI g h_Wk_countTooMany [vO 2 1 0] m6 (fun r7 m7 =>
          Q (some (vI r7)) m7)))) ∧ (r4 = 0 →
       Q (some (vI ((-1)))) m4)))) : Go g h_N_sentHome Q 0 [(0, vO 1 0 0), (1, vI x1)] [] mem := Go.cutN o_N_sentHome [] 23 hv
set_option maxRecDepth 100000 in
theorem b_N_visit_0 {g : Wg} {Q : Option Vl → Mm → Prop} {x1 : Int32} {x2 : Int32} {mem : Mm} (hv :
    RunV g h_Hi_note [vO 10 0 0, vO 2 0 0] mem (fun m1 =>
     RunI g h_Se_planVisit [vO 2 0 0, vI x1, vI x2] m1 (fun r2 m2 =>
      RunI g h_Hi_keepIfDone [vO 10 0 0, vI r2] m2 (fun r3 m3 =>
       Q (some (vI r3)) m3)))) : Go g h_N_visit Q 0 [(0, vO 1 0 0), (1, vI x1), (2, vI x2)] [] mem := Go.cutN o_N_visit [] 15 hv
set_option maxRecDepth 100000 in
theorem b_N_wouldGet_0 {g : Wg} {Q : Option Vl → Mm → Prop} {x1 : Int32} {mem : Mm} (hv :
    RunI g h_St_hasChild [vO 2 0 0, vI x1] mem (fun r1 m1 =>
     (¬ r1 = 0 →
      vp_in x1 24 ∧
      ((m1 (9, 0, x1.toNatClampNeg) 3) = 0 →
       RunI g h_Ad_sessionsFor [vO 2 0 0, vI x1] m1 (fun r2 m2 =>
        Q (some (vI r2)) m2)) ∧ (¬ (m1 (9, 0, x1.toNatClampNeg) 3) = 0 →
       Q (some (vI ((-5)))) m1)) ∧ (r1 = 0 →
      Q (some (vI ((-1)))) m1))) : Go g h_N_wouldGet Q 0 [(0, vO 1 0 0), (1, vI x1)] [] mem := Go.cutN o_N_wouldGet [] 18 hv
set_option maxRecDepth 100000 in
theorem b_N_swap_0 {g : Wg} {Q : Option Vl → Mm → Prop} {x1 : Int32} {x2 : Int32} {x3 : Int32} {x4 : Int32} {mem : Mm} (hv :
    RunV g h_Hi_note [vO 10 0 0, vO 2 0 0] mem (fun m1 =>
     RunI g h_Se_exchange [vO 2 0 0, vI x1, vI x2, vI x3, vI x4] m1 (fun r2 m2 =>
      RunI g h_Hi_keepIfDone [vO 10 0 0, vI r2] m2 (fun r3 m3 =>
       Q (some (vI r3)) m3)))) : Go g h_N_swap Q 0 [(0, vO 1 0 0), (1, vI x1), (2, vI x2), (3, vI x3), (4, vI x4)] [] mem := Go.cutN o_N_swap [] 17 hv
set_option maxRecDepth 100000 in
theorem b_N_admit_0 {g : Wg} {Q : Option Vl → Mm → Prop}  {mem : Mm} (hv :
    RunV g h_Hi_note [vO 10 0 0, vO 2 0 0] mem (fun m1 =>
     RunI g h_Ad_admitAll [vO 2 0 0] m1 (fun r2 m2 =>
      RunI g h_Hi_keepIfDone [vO 10 0 0, vI r2] m2 (fun r3 m3 =>
       Q (some (vI r3)) m3)))) : Go g h_N_admit Q 0 [(0, vO 1 0 0)] [] mem := Go.cutN o_N_admit [] 13 hv
set_option maxRecDepth 100000 in
theorem b_N_income_0 {g : Wg} {Q : Option Vl → Mm → Prop} {x1 : Int32} {mem : Mm} (hv :
    RunV g h_St_copyFrom [vO 2 1 0, vO 2 0 0] mem (fun m1 =>
     RunI g h_Wk_passWeeks [vO 2 1 0, vI x1] m1 (fun r2 m2 =>
      (0 ≤ r2 →
       Q (some (vI ((m2 (2, 1, 0) 9) - (m2 (2, 0, 0) 9)))) m2) ∧ (¬ 0 ≤ r2 →
       Q (some (vI r2)) m2)))) : Go g h_N_income Q 0 [(0, vO 1 0 0), (1, vI x1)] [] mem := Go.cutN o_N_income [] 21 hv
set_option maxRecDepth 100000 in
theorem b_N_weeks_0 {g : Wg} {Q : Option Vl → Mm → Prop} {x1 : Int32} {mem : Mm} (hv :
    RunV g h_Hi_note [vO 10 0 0, vO 2 0 0] mem (fun m1 =>
     RunI g h_Wk_passWeeks [vO 2 0 0, vI x1] m1 (fun r2 m2 =>
      RunI g h_Hi_keepIfDone [vO 10 0 0, vI r2] m2 (fun r3 m3 =>
       Q (some (vI r3)) m3)))) : Go g h_N_weeks Q 0 [(0, vO 1 0 0), (1, vI x1)] [] mem := Go.cutN o_N_weeks [] 14 hv
set_option maxRecDepth 100000 in
theorem b_N_wouldAdmit_0 {g : Wg} {Q : Option Vl → Mm → Prop}  {mem : Mm} (hv :
    RunV g h_St_copyFrom [vO 2 1 0, vO 2 0 0] mem (fun m1 =>
     RunI g h_Ad_admitAll [vO 2 1 0] m1 (fun r2 m2 =>
      RunI g h_St_childrenInState [vO 2 1 0, vI 1] m2 (fun r3 m3 =>
       RunI g h_St_childrenInState [vO 2 0 0, vI 1] m3 (fun r4 m4 =>
        Q (some (vI (r3 &&& (r4 ^^^ ((-1)))))) m4))))) : Go g h_N_wouldAdmit Q 0 [(0, vO 1 0 0)] [] mem := Go.cutN o_N_wouldAdmit [] 22 hv
