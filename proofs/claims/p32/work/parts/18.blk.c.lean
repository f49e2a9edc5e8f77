/-! WHAT THE SMALL MACHINE ASKS between cuts (laid by a program; each row is its own evaluation) -/
set_option maxRecDepth 100000 in
theorem b_Ad_hasPlacedSibling_0 {g : Wg} {Q : Option Vl → Mm → Prop} {k0 : Nat} {x1 : Int32} {mem : Mm} (hv :
    vp_in x1 24 ∧
    Go g h_Ad_hasPlacedSibling Q 12 [(0, vO 2 k0 0), (2, vI (mem (9, k0, x1.toNatClampNeg) 1)), (3, vI 0)] [] mem) : Go g h_Ad_hasPlacedSibling Q 0 [(0, vO 2 k0 0), (1, vI x1)] [] mem := Go.cutN o_Ad_hasPlacedSibling [(12, [0, 2, 3])] 10 hv
set_option maxRecDepth 100000 in
theorem b_Ad_hasPlacedSibling_12 {g : Wg} {Q : Option Vl → Mm → Prop} {k0 : Nat} {x2 : Int32} {x3 : Int32} {mem : Mm} (hv :
    ((mem (2, k0, 0) 6) ≤ x3 →
     ((0 : Int32) = 0 ∨ (0 : Int32) = 1) ∧ Q (some (vI 0)) mem) ∧ (¬ (mem (2, k0, 0) 6) ≤ x3 →
     vp_in x3 24 ∧
     (¬ (mem (9, k0, x3.toNatClampNeg) 3) = 1 →
      Go g h_Ad_hasPlacedSibling Q 12 [(0, vO 2 k0 0), (2, vI x2), (3, vI (x3 + 1))] [] mem) ∧ ((mem (9, k0, x3.toNatClampNeg) 3) = 1 →
      vp_in x3 24 ∧
      (¬ (mem (9, k0, x3.toNatClampNeg) 1) = x2 →
       Go g h_Ad_hasPlacedSibling Q 12 [(0, vO 2 k0 0), (2, vI x2), (3, vI (x3 + 1))] [] mem) ∧ ((mem (9, k0, x3.toNatClampNeg) 1) = x2 →
       ((1 : Int32) = 0 ∨ (1 : Int32) = 1) ∧ Q (some (vI 1)) mem)))) : Go g h_Ad_hasPlacedSibling Q 12 [(0, vO 2 k0 0), (2, vI x2), (3, vI x3)] [] mem := Go.cutN o_Ad_hasPlacedSibling [(12, [0, 2, 3])] 22 hv
set_option maxRecDepth 100000 in
theorem b_Wk_beginWeek_0 {g : Wg} {Q : Option Vl → Mm → Prop} {k0 : Nat} {mem : Mm} (hv :
    Go g h_Wk_beginWeek Q 12 [(0, vO 2 k0 0), (1, vI 0)] [] (mset mem 2 k0 0 7 ((mem (2, k0, 0) 7) + 1))) : Go g h_Wk_beginWeek Q 0 [(0, vO 2 k0 0)] [] mem := Go.cutN o_Wk_beginWeek [(12, [0, 1]), (38, [0, 1])] 10 hv
set_option maxRecDepth 100000 in
theorem b_Wk_beginWeek_12 {g : Wg} {Q : Option Vl → Mm → Prop} {k0 : Nat} {x1 : Int32} {mem : Mm} (hv :
    ((mem (2, k0, 0) 5) ≤ x1 →
     Go g h_Wk_beginWeek Q 38 [(0, vO 2 k0 0), (1, vI 0)] [] mem) ∧ (¬ (mem (2, k0, 0) 5) ≤ x1 →
     vp_in x1 13 ∧
     ((0 : Int32) = 0 ∨ (0 : Int32) = 1) ∧
     Go g h_Wk_beginWeek Q 12 [(0, vO 2 k0 0), (1, vI (x1 + 1))] [] (mset mem 8 k0 x1.toNatClampNeg 4 0))) : Go g h_Wk_beginWeek Q 12 [(0, vO 2 k0 0), (1, vI x1)] [] mem := Go.cutN o_Wk_beginWeek [(12, [0, 1]), (38, [0, 1])] 14 hv
set_option maxRecDepth 100000 in
theorem b_Wk_beginWeek_38 {g : Wg} {Q : Option Vl → Mm → Prop} {k0 : Nat} {x1 : Int32} {mem : Mm} (hv :
    ((mem (2, k0, 0) 6) ≤ x1 →
     Q none mem) ∧ (¬ (mem (2, k0, 0) 6) ≤ x1 →
     vp_in x1 24 ∧
     (¬ 4 = (0 : Int32)) ∧
     (¬ (((mset mem 9 k0 x1.toNatClampNeg 8 ((-6))) (2, k0, 0) 7) - ((mset mem 9 k0 x1.toNatClampNeg 8 ((-6))) (2, k0, 0) 7) / 4 * 4) = 0 →
      Go g h_Wk_beginWeek Q 38 [(0, vO 2 k0 0), (1, vI (x1 + 1))] [] (mset mem 9 k0 x1.toNatClampNeg 8 ((-6)))) ∧ ((((mset mem 9 k0 x1.toNatClampNeg 8 ((-6))) (2, k0, 0) 7) - ((mset mem 9 k0 x1.toNatClampNeg 8 ((-6))) (2, k0, 0) 7) / 4 * 4) = 0 →
      (((mset mem 9 k0 x1.toNatClampNeg 8 ((-6))) (9, k0, x1.toNatClampNeg) 3) = 2 →
       Go g h_Wk_beginWeek Q 38 [(0, vO 2 k0 0), (1, vI (x1 + 1))] [] (mset mem 9 k0 x1.toNatClampNeg 8 ((-6)))) ∧ (¬ ((mset mem 9 k0 x1.toNatClampNeg 8 ((-6))) (9, k0, x1.toNatClampNeg) 3) = 2 →
       let u1 : Mm := mset (mset mem 9 k0 x1.toNatClampNeg 8 ((-6))) 9 k0 x1.toNatClampNeg 0 (((mset mem 9 k0 x1.toNatClampNeg 8 ((-6))) (9, k0, x1.toNatClampNeg) 0) + 1)
       Go g h_Wk_beginWeek Q 38 [(0, vO 2 k0 0), (1, vI (x1 + 1))] [] u1)))) : Go g h_Wk_beginWeek Q 38 [(0, vO 2 k0 0), (1, vI x1)] [] mem := Go.cutN o_Wk_beginWeek [(12, [0, 1]), (38, [0, 1])] 31 hv
set_option maxRecDepth 100000 in
theorem b_Wk_feeFor_0 {g : Wg} {Q : Option Vl → Mm → Prop} {k0 : Nat} {x1 : Int32} {mem : Mm} (hv :
    vp_in x1 24 ∧
    vp_in 0 5 ∧
    Go g h_Wk_feeFor Q 20 [(0, vO 2 k0 0), (1, vI x1), (2, vI (mem (9, k0, x1.toNatClampNeg) 1)), (3, vI (mem (3, k0, 0) 0)), (4, vI 0)] [] mem) : Go g h_Wk_feeFor Q 0 [(0, vO 2 k0 0), (1, vI x1)] [] mem := Go.cutN o_Wk_feeFor [(20, [0, 1, 2, 3, 4])] 15 hv
set_option maxRecDepth 100000 in
theorem b_Wk_feeFor_20 {g : Wg} {Q : Option Vl → Mm → Prop} {k0 : Nat} {x1 : Int32} {x2 : Int32} {x3 : Int32} {x4 : Int32} {mem : Mm} (hv :
    (x1 ≤ x4 →
     Q (some (vI x3)) mem) ∧ (¬ x1 ≤ x4 →
     vp_in x4 24 ∧
     ((mem (9, k0, x4.toNatClampNeg) 6) = 0 →
      Go g h_Wk_feeFor Q 20 [(0, vO 2 k0 0), (1, vI x1), (2, vI x2), (3, vI x3), (4, vI (x4 + 1))] [] mem) ∧ (¬ (mem (9, k0, x4.toNatClampNeg) 6) = 0 →
      (¬ (mem (9, k0, x4.toNatClampNeg) 1) = x2 →
       Go g h_Wk_feeFor Q 20 [(0, vO 2 k0 0), (1, vI x1), (2, vI x2), (3, vI x3), (4, vI (x4 + 1))] [] mem) ∧ ((mem (9, k0, x4.toNatClampNeg) 1) = x2 →
       vp_in 1 5 ∧
       (¬ 100 = (0 : Int32)) ∧
       Q (some (vI ((x3 * (100 - (mem (3, k0, 0) 1))) / 100))) mem)))) : Go g h_Wk_feeFor Q 20 [(0, vO 2 k0 0), (1, vI x1), (2, vI x2), (3, vI x3), (4, vI x4)] [] mem := Go.cutN o_Wk_feeFor [(20, [0, 1, 2, 3, 4])] 27 hv
set_option maxRecDepth 100000 in
theorem b_Wk_settle_0 {g : Wg} {Q : Option Vl → Mm → Prop} {k0 : Nat} {mem : Mm} (hv :
    Go g h_Wk_settle Q 2 [(0, vO 2 k0 0), (1, vI 0)] [] mem) : Go g h_Wk_settle Q 0 [(0, vO 2 k0 0)] [] mem := Go.cutN o_Wk_settle [(2, [0, 1])] 4 hv
set_option maxRecDepth 100000 in
theorem b_Wk_settle_2 {g : Wg} {Q : Option Vl → Mm → Prop} {k0 : Nat} {x1 : Int32} {mem : Mm} (hv :
    ((mem (2, k0, 0) 6) ≤ x1 →
     Q none mem) ∧ (¬ (mem (2, k0, 0) 6) ≤ x1 →
     vp_in x1 24 ∧
     (¬ (mem (9, k0, x1.toNatClampNeg) 3) = 1 →
      Go g h_Wk_settle Q 2 [(0, vO 2 k0 0), (1, vI (x1 + 1))] [] mem) ∧ ((mem (9, k0, x1.toNatClampNeg) 3) = 1 →
      vp_in 3 5 ∧
      ((mem (9, k0, x1.toNatClampNeg) 7) < (mem (3, k0, 0) 3) →
       Go g h_Wk_settle Q 2 [(0, vO 2 k0 0), (1, vI (x1 + 1))] [] mem) ∧ (¬ (mem (9, k0, x1.toNatClampNeg) 7) < (mem (3, k0, 0) 3) →
       ((1 : Int32) = 0 ∨ (1 : Int32) = 1) ∧
       Go g h_Wk_settle Q 2 [(0, vO 2 k0 0), (1, vI (x1 + 1))] [] (mset mem 9 k0 x1.toNatClampNeg 6 1))))) : Go g h_Wk_settle Q 2 [(0, vO 2 k0 0), (1, vI x1)] [] mem := Go.cutN o_Wk_settle [(2, [0, 1])] 27 hv
set_option maxRecDepth 100000 in
theorem b_Wk_bookCame_0 {g : Wg} {Q : Option Vl → Mm → Prop} {k0 : Nat} {x1 : Int32} {mem : Mm} (hv :
    vp_in x1 24 ∧
    (¬ (mem (9, k0, x1.toNatClampNeg) 6) = 0 →
     RunI g h_Wk_feeFor [vO 2 k0 0, vI x1] mem (fun r1 m1 =>
      let u2 : Mm := mset (mset m1 9 k0 x1.toNatClampNeg 9 ((m1 (9, k0, x1.toNatClampNeg) 9) + 1)) 9 k0 x1.toNatClampNeg 11 (((mset m1 9 k0 x1.toNatClampNeg 9 ((m1 (9, k0, x1.toNatClampNeg) 9) + 1)) (9, k0, x1.toNatClampNeg) 11) + r1)
      Q none (mset u2 2 k0 0 9 ((u2 (2, k0, 0) 9) + r1)))) ∧ ((mem (9, k0, x1.toNatClampNeg) 6) = 0 →
     let u3 : Mm := mset (mset mem 9 k0 x1.toNatClampNeg 7 ((mem (9, k0, x1.toNatClampNeg) 7) + 1)) 2 k0 0 10 (((mset mem 9 k0 x1.toNatClampNeg 7 ((mem (9, k0, x1.toNatClampNeg) 7) + 1)) (2, k0, 0) 10) + 1)
     Q none u3)) : Go g h_Wk_bookCame Q 0 [(0, vO 2 k0 0), (1, vI x1)] [] mem := Go.cutN o_Wk_bookCame [] 32 hv
set_option maxRecDepth 100000 in
theorem b_Wk_dropImpatient_0 {g : Wg} {Q : Option Vl → Mm → Prop} {k0 : Nat} {mem : Mm} (hv :
    Go g h_Wk_dropImpatient Q 2 [(0, vO 2 k0 0), (1, vI 0)] [] mem) : Go g h_Wk_dropImpatient Q 0 [(0, vO 2 k0 0)] [] mem := Go.cutN o_Wk_dropImpatient [(2, [0, 1])] 4 hv
set_option maxRecDepth 100000 in
theorem b_Wk_dropImpatient_2 {g : Wg} {Q : Option Vl → Mm → Prop} {k0 : Nat} {x1 : Int32} {mem : Mm} (hv :
    ((mem (2, k0, 0) 6) ≤ x1 →
     Q none mem) ∧ (¬ (mem (2, k0, 0) 6) ≤ x1 →
     vp_in x1 24 ∧
     vp_in 4 5 ∧
     (((mem (2, k0, 0) 7) - (mem (9, k0, x1.toNatClampNeg) 12)) ≤ (mem (3, k0, 0) 4) →
      (¬ (mem (9, k0, x1.toNatClampNeg) 3) = 0 →
       Go g h_Wk_dropImpatient Q 2 [(0, vO 2 k0 0), (1, vI (x1 + 1))] [] mem) ∧ ((mem (9, k0, x1.toNatClampNeg) 3) = 0 →
       ((0 : Int32) = 0 →
        Go g h_Wk_dropImpatient Q 2 [(0, vO 2 k0 0), (1, vI (x1 + 1))] [] mem) ∧ (¬ (0 : Int32) = 0 →
        RunV g h_Ch_quitRoom [vO 9 k0 x1.toNatClampNeg, vI 2] mem (fun m1 =>
         Go g h_Wk_dropImpatient Q 2 [(0, vO 2 k0 0), (1, vI (x1 + 1))] [] m1)))) ∧ (¬ ((mem (2, k0, 0) 7) - (mem (9, k0, x1.toNatClampNeg) 12)) ≤ (mem (3, k0, 0) 4) →
      (¬ (mem (9, k0, x1.toNatClampNeg) 3) = 0 →
       Go g h_Wk_dropImpatient Q 2 [(0, vO 2 k0 0), (1, vI (x1 + 1))] [] mem) ∧ ((mem (9, k0, x1.toNatClampNeg) 3) = 0 →
       ((1 : Int32) = 0 →
        Go g h_Wk_dropImpatient Q 2 [(0, vO 2 k0 0), (1, vI (x1 + 1))] [] mem) ∧ (¬ (1 : Int32) = 0 →
        RunV g h_Ch_quitRoom [vO 9 k0 x1.toNatClampNeg, vI 2] mem (fun m2 =>
         Go g h_Wk_dropImpatient Q 2 [(0, vO 2 k0 0), (1, vI (x1 + 1))] [] m2)))))) : Go g h_Wk_dropImpatient Q 2 [(0, vO 2 k0 0), (1, vI x1)] [] mem := Go.cutN o_Wk_dropImpatient [(2, [0, 1])] 34 hv
set_option maxRecDepth 100000 in
theorem b_Wk_nextSentHome_0 {g : Wg} {Q : Option Vl → Mm → Prop} {k0 : Nat} {x1 : Int32} {mem : Mm} (hv :
    Go g h_Wk_nextSentHome Q 12 [(0, vO 2 k0 0), (1, vI x1), (2, vI ((-6))), (3, vI ((-6))), (4, vI ((-1))), (5, vI 0)] [] mem) : Go g h_Wk_nextSentHome Q 0 [(0, vO 2 k0 0), (1, vI x1)] [] mem := Go.cutN o_Wk_nextSentHome [(12, [0, 1, 2, 3, 4, 5])] 10 hv
set_option maxRecDepth 100000 in
theorem b_Wk_nextSentHome_12 {g : Wg} {Q : Option Vl → Mm → Prop} {k0 : Nat} {x1 : Int32} {x2 : Int32} {x3 : Int32} {x4 : Int32} {x5 : Int32} {mem : Mm} (hv :
    ((mem (2, k0, 0) 6) ≤ x5 →
     (x2 = ((-6)) →
      Q (some (vI x3)) mem) ∧ (¬ x2 = ((-6)) →
      Q (some (vI x2)) mem)) ∧ (¬ (mem (2, k0, 0) 6) ≤ x5 →
     vp_in x5 24 ∧
     RunI g h_N_holds [vI x1, vI x5] mem (fun r1 m1 =>
      (r1 = 0 →
       RunI g h_N_holds [vI x1, vI x5] m1 (fun r2 m2 =>
        (r2 = 0 →
         Go g h_Wk_nextSentHome Q 12 [(0, vO 2 k0 0), (1, vI x1), (2, vI x2), (3, vI x3), (4, vI x4), (5, vI (x5 + 1))] [] m2) ∧ (¬ r2 = 0 →
         ((m2 (9, k0, x5.toNatClampNeg) 13) ≤ x4 →
          Go g h_Wk_nextSentHome Q 12 [(0, vO 2 k0 0), (1, vI x1), (2, vI x2), (3, vI x3), (4, vI x4), (5, vI (x5 + 1))] [] m2) ∧ (¬ (m2 (9, k0, x5.toNatClampNeg) 13) ≤ x4 →
          Go g h_Wk_nextSentHome Q 12 [(0, vO 2 k0 0), (1, vI x1), (2, vI x2), (3, vI x5), (4, vI (m2 (9, k0, x5.toNatClampNeg) 13)), (5, vI (x5 + 1))] [] m2)))) ∧ (¬ r1 = 0 →
       (¬ (m1 (9, k0, x5.toNatClampNeg) 6) = 0 →
        RunI g h_N_holds [vI x1, vI x5] m1 (fun r3 m3 =>
         (r3 = 0 →
          Go g h_Wk_nextSentHome Q 12 [(0, vO 2 k0 0), (1, vI x1), (2, vI x2), (3, vI x3), (4, vI x4), (5, vI (x5 + 1))] [] m3) ∧ (¬ r3 = 0 →
          ((m3 (9, k0, x5.toNatClampNeg) 13) ≤ x4 →
           Go g h_Wk_nextSentHome Q 12 [(0, vO 2 k0 0), (1, vI x1), (2, vI x2), (3, vI x3), (4, vI x4), (5, vI (x5 + 1))] [] m3) ∧ (¬ (m3 (9, k0, x5.toNatClampNeg) 13) ≤ x4 →
           Go g h_Wk_nextSentHome Q 12 [(0, vO 2 k0 0), (1, vI x1), (2, vI x2), (3, vI x5), (4, vI (m3 (9, k0, x5.toNatClampNeg) 13)), (5, vI (x5 + 1))] [] m3)))) ∧ ((m1 (9, k0, x5.toNatClampNeg) 6) = 0 →
        RunI g h_N_holds [vI x1, vI x5] m1 (fun r4 m4 =>
         (r4 = 0 →
          Go g h_Wk_nextSentHome Q 12 [(0, vO 2 k0 0), (1, vI x1), (2, vI x5), (3, vI x3), (4, vI x4), (5, vI (x5 + 1))] [] m4) ∧ (¬ r4 = 0 →
          ((m4 (9, k0, x5.toNatClampNeg) 13) ≤ x4 →
           Go g h_Wk_nextSentHome Q 12 [(0, vO 2 k0 0), (1, vI x1), (2, vI x5), (3, vI x3), (4, vI x4), (5, vI (x5 + 1))] [] m4) ∧ (¬ (m4 (9, k0, x5.toNatClampNeg) 13) ≤ x4 →
           Go g h_Wk_nextSentHome Q 12 [(0, vO 2 k0 0), (1, vI x1), (2, vI x5), (3, vI x5), (4, vI (m4 (9, k0, x5.toNatClampNeg) 13)), (5, vI (x5 + 1))] [] m4)))))))) : Go g h_Wk_nextSentHome Q 12 [(0, vO 2 k0 0), (1, vI x1), (2, vI x2), (3, vI x3), (4, vI x4), (5, vI x5)] [] mem := Go.cutN o_Wk_nextSentHome [(12, [0, 1, 2, 3, 4, 5])] 35 hv
set_option maxRecDepth 100000 in
theorem b_Se_handBack_0 {g : Wg} {Q : Option Vl → Mm → Prop} {k0 : Nat} {x1 : Int32} {x2 : Int32} {mem : Mm} (hv :
    RunI g h_St_hasChild [vO 2 k0 0, vI x1] mem (fun r1 m1 =>
     (r1 = 0 →
      Q (some (vI ((-1)))) m1) ∧ (¬ r1 = 0 →
      RunI g h_N_isSession [vI x2] m1 (fun r2 m2 =>
       (¬ r2 = 0 →
        vp_in x1 24 ∧
        RunI g h_Ch_has [vO 9 k0 x1.toNatClampNeg, vI x2] m2 (fun r3 m3 =>
         (¬ r3 = 0 →
          RunI g h_Int_bitCount [vI (m3 (9, k0, x1.toNatClampNeg) 5)] m3 (fun r4 m4 =>
           vp_in 2 5 ∧
           ((m4 (3, k0, 0) 2) ≤ (r4 - 1) →
            let u5 : Mm := mset m4 9 k0 x1.toNatClampNeg 5 ((m4 (9, k0, x1.toNatClampNeg) 5) &&& ((1 <<< (x2 &&& 31)) ^^^ ((-1))))
            Q (some (vI (r4 - 1))) u5) ∧ (¬ (m4 (3, k0, 0) 2) ≤ (r4 - 1) →
            Q (some (vI ((-5)))) m4))) ∧ (r3 = 0 →
          Q (some (vI ((-5)))) m3))) ∧ (r2 = 0 →
        Q (some (vI ((-1)))) m2))))) : Go g h_Se_handBack Q 0 [(0, vO 2 k0 0), (1, vI x1), (2, vI x2)] [] mem := Go.cutN o_Se_handBack [] 41 hv
set_option maxRecDepth 100000 in
theorem b_Se_hasPlaceForVisit_0 {g : Wg} {Q : Option Vl → Mm → Prop} {k0 : Nat} {x1 : Int32} {x2 : Int32} {mem : Mm} (hv :
    RunI g h_St_takenIn [vO 2 k0 0, vI x1, vI x2] mem (fun r1 m1 =>
     Go g h_Se_hasPlaceForVisit Q 10 [(0, vO 2 k0 0), (1, vI x1), (2, vI x2), (3, vI r1), (4, vI 0)] [] m1)) : Go g h_Se_hasPlaceForVisit Q 0 [(0, vO 2 k0 0), (1, vI x1), (2, vI x2)] [] mem := Go.cutN o_Se_hasPlaceForVisit [(10, [0, 1, 2, 3, 4])] 9 hv
set_option maxRecDepth 100000 in
theorem b_Se_hasPlaceForVisit_10 {g : Wg} {Q : Option Vl → Mm → Prop} {k0 : Nat} {x1 : Int32} {x2 : Int32} {x3 : Int32} {x4 : Int32} {mem : Mm} (hv :
    ((mem (2, k0, 0) 6) ≤ x4 →
     RunI g h_St_placesIn [vO 2 k0 0, vI x1, vI x2, vI 1] mem (fun r1 m1 =>
      (r1 ≤ x3 →
       ((0 : Int32) = 0 ∨ (0 : Int32) = 1) ∧ Q (some (vI 0)) m1) ∧ (¬ r1 ≤ x3 →
       ((1 : Int32) = 0 ∨ (1 : Int32) = 1) ∧ Q (some (vI 1)) m1))) ∧ (¬ (mem (2, k0, 0) 6) ≤ x4 →
     vp_in x4 24 ∧
     (¬ (mem (9, k0, x4.toNatClampNeg) 4) = x1 →
      Go g h_Se_hasPlaceForVisit Q 10 [(0, vO 2 k0 0), (1, vI x1), (2, vI x2), (3, vI x3), (4, vI (x4 + 1))] [] mem) ∧ ((mem (9, k0, x4.toNatClampNeg) 4) = x1 →
      (¬ (mem (9, k0, x4.toNatClampNeg) 8) = x2 →
       Go g h_Se_hasPlaceForVisit Q 10 [(0, vO 2 k0 0), (1, vI x1), (2, vI x2), (3, vI x3), (4, vI (x4 + 1))] [] mem) ∧ ((mem (9, k0, x4.toNatClampNeg) 8) = x2 →
       RunI g h_Ch_has [vO 9 k0 x4.toNatClampNeg, vI x2] mem (fun r2 m2 =>
        (¬ r2 = 0 →
         Go g h_Se_hasPlaceForVisit Q 10 [(0, vO 2 k0 0), (1, vI x1), (2, vI x2), (3, vI x3), (4, vI (x4 + 1))] [] m2) ∧ (r2 = 0 →
         Go g h_Se_hasPlaceForVisit Q 10 [(0, vO 2 k0 0), (1, vI x1), (2, vI x2), (3, vI (x3 + 1)), (4, vI (x4 + 1))] [] m2)))))) : Go g h_Se_hasPlaceForVisit Q 10 [(0, vO 2 k0 0), (1, vI x1), (2, vI x2), (3, vI x3), (4, vI x4)] [] mem := Go.cutN o_Se_hasPlaceForVisit [(10, [0, 1, 2, 3, 4])] 26 hv
set_option maxRecDepth 100000 in
theorem b_Wk_comersTo_0 {g : Wg} {Q : Option Vl → Mm → Prop} {k0 : Nat} {x1 : Int32} {x2 : Int32} {mem : Mm} (hv :
    Go g h_Wk_comersTo Q 5 [(0, vO 2 k0 0), (1, vI x1), (2, vI x2), (3, vI 0), (4, vI 0)] [] mem) : Go g h_Wk_comersTo Q 0 [(0, vO 2 k0 0), (1, vI x1), (2, vI x2)] [] mem := Go.cutN o_Wk_comersTo [(5, [0, 1, 2, 3, 4])] 6 hv
set_option maxRecDepth 100000 in
theorem b_Wk_comersTo_5 {g : Wg} {Q : Option Vl → Mm → Prop} {k0 : Nat} {x1 : Int32} {x2 : Int32} {x3 : Int32} {x4 : Int32} {mem : Mm} (hv :
    ((mem (2, k0, 0) 6) ≤ x4 →
     Q (some (vI x3)) mem) ∧ (¬ (mem (2, k0, 0) 6) ≤ x4 →
     vp_in x4 24 ∧
     (¬ (mem (9, k0, x4.toNatClampNeg) 4) = x1 →
      Go g h_Wk_comersTo Q 5 [(0, vO 2 k0 0), (1, vI x1), (2, vI x2), (3, vI x3), (4, vI (x4 + 1))] [] mem) ∧ ((mem (9, k0, x4.toNatClampNeg) 4) = x1 →
      RunI g h_Ch_comesTo [vO 9 k0 x4.toNatClampNeg, vI x2] mem (fun r1 m1 =>
       (r1 = 0 →
        Go g h_Wk_comersTo Q 5 [(0, vO 2 k0 0), (1, vI x1), (2, vI x2), (3, vI x3), (4, vI (x4 + 1))] [] m1) ∧ (¬ r1 = 0 →
        Go g h_Wk_comersTo Q 5 [(0, vO 2 k0 0), (1, vI x1), (2, vI x2), (3, vI (x3 ||| (1 <<< (x4 &&& 31)))), (4, vI (x4 + 1))] [] m1))))) : Go g h_Wk_comersTo Q 5 [(0, vO 2 k0 0), (1, vI x1), (2, vI x2), (3, vI x3), (4, vI x4)] [] mem := Go.cutN o_Wk_comersTo [(5, [0, 1, 2, 3, 4])] 27 hv
set_option maxRecDepth 100000 in
theorem b_Wk_tooMany_0 {g : Wg} {Q : Option Vl → Mm → Prop} {k0 : Nat} {x1 : Int32} {x2 : Int32} {x3 : Int32} {mem : Mm} (hv :
    (¬ x3 = 0 →
     RunI g h_Int_bitCount [vI x3] mem (fun r1 m1 =>
      RunI g h_St_placesIn [vO 2 k0 0, vI x1, vI x2, vI 0] m1 (fun r2 m2 =>
       Q (some (vI (if (0 : Int32) < (r1 - r2) then r1 - r2 else 0))) m2))) ∧ (x3 = 0 →
     Q (some (vI 0)) mem)) : Go g h_Wk_tooMany Q 0 [(0, vO 2 k0 0), (1, vI x1), (2, vI x2), (3, vI x3)] [] mem := Go.cutN o_Wk_tooMany [] 14 hv
set_option maxRecDepth 100000 in
theorem b_Ad_sessionsFor_0 {g : Wg} {Q : Option Vl → Mm → Prop} {k0 : Nat} {x1 : Int32} {mem : Mm} (hv :
    vp_in x1 24 ∧
    RunI g h_St_roomOfAge [vO 2 k0 0, vI (mem (9, k0, x1.toNatClampNeg) 0)] mem (fun r1 m1 =>
     (¬ r1 = ((-6)) →
      vp_in x1 24 ∧
      RunI g h_St_openOnes [vO 2 k0 0, vI r1, vI (m1 (9, k0, x1.toNatClampNeg) 2)] m1 (fun r2 m2 =>
       RunI g h_Int_bitCount [vI r2] m2 (fun r3 m3 =>
        vp_in 2 5 ∧
        (r3 < (m3 (3, k0, 0) 2) →
         Q (some (vI 0)) m3) ∧ (¬ r3 < (m3 (3, k0, 0) 2) →
         Q (some (vI r2)) m3)))) ∧ (r1 = ((-6)) →
      Q (some (vI 0)) m1))) : Go g h_Ad_sessionsFor Q 0 [(0, vO 2 k0 0), (1, vI x1)] [] mem := Go.cutN o_Ad_sessionsFor [] 31 hv
set_option maxRecDepth 100000 in
theorem b_Se_canExchange_0 {g : Wg} {Q : Option Vl → Mm → Prop} {k0 : Nat} {x1 : Int32} {x2 : Int32} {x3 : Int32} {x4 : Int32} {mem : Mm} (hv :
    vp_in x1 24 ∧
    vp_in x3 24 ∧
    RunI g h_Ch_has [vO 9 k0 x1.toNatClampNeg, vI x2] mem (fun r1 m1 =>
     (r1 = 0 →
      ((0 : Int32) = 0 ∨ (0 : Int32) = 1) ∧ Q (some (vI 0)) m1) ∧ (¬ r1 = 0 →
      RunI g h_Ch_has [vO 9 k0 x3.toNatClampNeg, vI x2] m1 (fun r2 m2 =>
       (r2 = 0 →
        RunI g h_Ch_has [vO 9 k0 x3.toNatClampNeg, vI x4] m2 (fun r3 m3 =>
         (r3 = 0 →
          ((0 : Int32) = 0 ∨ (0 : Int32) = 1) ∧ Q (some (vI 0)) m3) ∧ (¬ r3 = 0 →
          RunI g h_Ch_has [vO 9 k0 x1.toNatClampNeg, vI x4] m3 (fun r4 m4 =>
           (r4 = 0 →
            (¬ (m4 (9, k0, x1.toNatClampNeg) 4) = (m4 (9, k0, x3.toNatClampNeg) 4) →
             RunI g h_St_isOpen [vO 2 k0 0, vI (m4 (9, k0, x1.toNatClampNeg) 4), vI x4] m4 (fun r5 m5 =>
              (r5 = 0 →
               ((0 : Int32) = 0 ∨ (0 : Int32) = 1) ∧ Q (some (vI 0)) m5) ∧ (¬ r5 = 0 →
               RunI g h_St_isOpen [vO 2 k0 0, vI (m5 (9, k0, x3.toNatClampNeg) 4), vI x2] m5 (fun r6 m6 =>
                (r6 = 0 →
                 ((0 : Int32) = 0 ∨ (0 : Int32) = 1) ∧ Q (some (vI 0)) m6) ∧ (¬ r6 = 0 →
                 ((1 : Int32) = 0 ∨ (1 : Int32) = 1) ∧ Q (some (vI 1)) m6))))) ∧ ((m4 (9, k0, x1.toNatClampNeg) 4) = (m4 (9, k0, x3.toNatClampNeg) 4) →
             ((1 : Int32) = 0 ∨ (1 : Int32) = 1) ∧ Q (some (vI 1)) m4)) ∧ (¬ r4 = 0 →
            ((0 : Int32) = 0 ∨ (0 : Int32) = 1) ∧ Q (some (vI 0)) m4))))) ∧ (¬ r2 = 0 →
        ((0 : Int32) = 0 ∨ (0 : Int32) = 1) ∧ Q (some (vI 0)) m2))))) : Go g h_Se_canExchange Q 0 [(0, vO 2 k0 0), (1, vI x1), (2, vI x2), (3, vI x3), (4, vI x4)] [] mem := Go.cutN o_Se_canExchange [] 47 hv
set_option maxRecDepth 100000 in
theorem b_Se_planVisit_0 {g : Wg} {Q : Option Vl → Mm → Prop} {k0 : Nat} {x1 : Int32} {x2 : Int32} {mem : Mm} (hv :
    RunI g h_St_hasChild [vO 2 k0 0, vI x1] mem (fun r1 m1 =>
     (r1 = 0 →
      Q (some (vI ((-1)))) m1) ∧ (¬ r1 = 0 →
      RunI g h_N_isSession [vI x2] m1 (fun r2 m2 =>
       (¬ r2 = 0 →
        vp_in x1 24 ∧
        (¬ (m2 (9, k0, x1.toNatClampNeg) 3) = 1 →
         Q (some (vI ((-5)))) m2) ∧ ((m2 (9, k0, x1.toNatClampNeg) 3) = 1 →
         (¬ (m2 (9, k0, x1.toNatClampNeg) 6) = 0 →
          Q (some (vI ((-5)))) m2) ∧ ((m2 (9, k0, x1.toNatClampNeg) 6) = 0 →
          ((m2 (9, k0, x1.toNatClampNeg) 8) = ((-6)) →
           RunI g h_Ch_has [vO 9 k0 x1.toNatClampNeg, vI x2] m2 (fun r3 m3 =>
            (¬ r3 = 0 →
             RunI g h_St_plannedVisits [vO 2 k0 0] (mset m3 9 k0 x1.toNatClampNeg 8 x2) (fun r4 m4 =>
              Q (some (vI r4)) m4)) ∧ (r3 = 0 →
             RunI g h_Se_hasPlaceForVisit [vO 2 k0 0, vI (m3 (9, k0, x1.toNatClampNeg) 4), vI x2] m3 (fun r5 m5 =>
              (¬ r5 = 0 →
               RunI g h_St_plannedVisits [vO 2 k0 0] (mset m5 9 k0 x1.toNatClampNeg 8 x2) (fun r6 m6 =>
                Q (some (vI r6)) m6)) ∧ (r5 = 0 →
               Q (some (vI ((-5)))) m5))))) ∧ (¬ (m2 (9, k0, x1.toNatClampNeg) 8) = ((-6)) →
           Q (some (vI ((-5)))) m2)))) ∧ (r2 = 0 →
        Q (some (vI ((-1)))) m2))))) : Go g h_Se_planVisit Q 0 [(0, vO 2 k0 0), (1, vI x1), (2, vI x2)] [] mem := Go.cutN o_Se_planVisit [] 40 hv
set_option maxRecDepth 100000 in
theorem b_Wk_countTooMany_0 {g : Wg} {Q : Option Vl → Mm → Prop} {k0 : Nat} {mem : Mm} (hv :
    Go g h_Wk_countTooMany Q 4 [(0, vO 2 k0 0), (1, vI 0), (2, vI 0)] [] mem) : Go g h_Wk_countTooMany Q 0 [(0, vO 2 k0 0)] [] mem := Go.cutN o_Wk_countTooMany [(4, [0, 1, 2]), (14, [0, 1, 2, 3])] 6 hv
set_option maxRecDepth 100000 in
theorem b_Wk_countTooMany_4 {g : Wg} {Q : Option Vl → Mm → Prop} {k0 : Nat} {x1 : Int32} {x2 : Int32} {mem : Mm} (hv :
    ((mem (2, k0, 0) 4) ≤ x2 →
     Q (some (vI x1)) mem) ∧ (¬ (mem (2, k0, 0) 4) ≤ x2 →
     Go g h_Wk_countTooMany Q 14 [(0, vO 2 k0 0), (1, vI x1), (2, vI x2), (3, vI 0)] [] mem)) : Go g h_Wk_countTooMany Q 4 [(0, vO 2 k0 0), (1, vI x1), (2, vI x2)] [] mem := Go.cutN o_Wk_countTooMany [(4, [0, 1, 2]), (14, [0, 1, 2, 3])] 8 hv
set_option maxRecDepth 100000 in
theorem b_Wk_countTooMany_14 {g : Wg} {Q : Option Vl → Mm → Prop} {k0 : Nat} {x1 : Int32} {x2 : Int32} {x3 : Int32} {mem : Mm} (hv :
    (10 ≤ x3 →
     Go g h_Wk_countTooMany Q 4 [(0, vO 2 k0 0), (1, vI x1), (2, vI (x2 + 1))] [] mem) ∧ (¬ 10 ≤ x3 →
     RunI g h_Wk_comersTo [vO 2 k0 0, vI x2, vI x3] mem (fun r1 m1 =>
      RunI g h_Wk_tooMany [vO 2 k0 0, vI x2, vI x3, vI r1] m1 (fun r2 m2 =>
       Go g h_Wk_countTooMany Q 14 [(0, vO 2 k0 0), (1, vI (x1 + r2)), (2, vI x2), (3, vI (x3 + 1))] [] m2)))) : Go g h_Wk_countTooMany Q 14 [(0, vO 2 k0 0), (1, vI x1), (2, vI x2), (3, vI x3)] [] mem := Go.cutN o_Wk_countTooMany [(4, [0, 1, 2]), (14, [0, 1, 2, 3])] 18 hv
set_option maxRecDepth 100000 in
theorem b_Wk_holdSession_0 {g : Wg} {Q : Option Vl → Mm → Prop} {k0 : Nat} {x1 : Int32} {x2 : Int32} {mem : Mm} (hv :
    RunI g h_Wk_comersTo [vO 2 k0 0, vI x1, vI x2] mem (fun r1 m1 =>
     RunI g h_Wk_tooMany [vO 2 k0 0, vI x1, vI x2, vI r1] m1 (fun r2 m2 =>
      Go g h_Wk_holdSession Q 16 [(0, vO 2 k0 0), (3, vI r1), (4, vI r2)] [] m2))) : Go g h_Wk_holdSession Q 0 [(0, vO 2 k0 0), (1, vI x1), (2, vI x2)] [] mem := Go.cutN o_Wk_holdSession [(16, [0, 3, 4]), (82, [0, 3, 4])] 13 hv
set_option maxRecDepth 100000 in
theorem b_Wk_holdSession_16 {g : Wg} {Q : Option Vl → Mm → Prop} {k0 : Nat} {x3 : Int32} {x4 : Int32} {mem : Mm} (hv :
    (x4 ≤ 0 →
     Go g h_Wk_holdSession Q 82 [(0, vO 2 k0 0), (3, vI x3), (4, vI 0)] [] mem) ∧ (¬ x4 ≤ 0 →
     RunI g h_Wk_nextSentHome [vO 2 k0 0, vI x3] mem (fun r1 m1 =>
      RunI g h_St_hasChild [vO 2 k0 0, vI r1] m1 (fun r2 m2 =>
       (¬ r2 = 0 →
        vp_in r1 24 ∧
        let u3 : Mm := mset (mset m2 9 k0 r1.toNatClampNeg 10 ((m2 (9, k0, r1.toNatClampNeg) 10) + 1)) 2 k0 0 11 (((mset m2 9 k0 r1.toNatClampNeg 10 ((m2 (9, k0, r1.toNatClampNeg) 10) + 1)) (2, k0, 0) 11) + 1)
        Go g h_Wk_holdSession Q 16 [(0, vO 2 k0 0), (3, vI (x3 &&& ((1 <<< (r1 &&& 31)) ^^^ ((-1))))), (4, vI (x4 + (-1)))] [] u3) ∧ (r2 = 0 →
        Q none m2))))) : Go g h_Wk_holdSession Q 16 [(0, vO 2 k0 0), (3, vI x3), (4, vI x4)] [] mem := Go.cutN o_Wk_holdSession [(16, [0, 3, 4]), (82, [0, 3, 4])] 37 hv
set_option maxRecDepth 100000 in
theorem b_Wk_holdSession_82 {g : Wg} {Q : Option Vl → Mm → Prop} {k0 : Nat} {x3 : Int32} {x4 : Int32} {mem : Mm} (hv :
    ((mem (2, k0, 0) 6) ≤ x4 →
     Q none mem) ∧ (¬ (mem (2, k0, 0) 6) ≤ x4 →
     RunI g h_N_holds [vI x3, vI x4] mem (fun r1 m1 =>
      (r1 = 0 →
       Go g h_Wk_holdSession Q 82 [(0, vO 2 k0 0), (3, vI x3), (4, vI (x4 + 1))] [] m1) ∧ (¬ r1 = 0 →
       RunV g h_Wk_bookCame [vO 2 k0 0, vI x4] m1 (fun m2 =>
        Go g h_Wk_holdSession Q 82 [(0, vO 2 k0 0), (3, vI x3), (4, vI (x4 + 1))] [] m2))))) : Go g h_Wk_holdSession Q 82 [(0, vO 2 k0 0), (3, vI x3), (4, vI x4)] [] mem := Go.cutN o_Wk_holdSession [(16, [0, 3, 4]), (82, [0, 3, 4])] 15 hv
set_option maxRecDepth 100000 in
theorem b_Wk_move_0 {g : Wg} {Q : Option Vl → Mm → Prop} {k0 : Nat} {k1 : Nat} {i1 : Nat} {mem : Mm} (hv :
    RunI g h_St_roomOfAge [vO 2 k0 0, vI (mem (9, k1, i1) 0)] mem (fun r1 m1 =>
     (¬ r1 = ((-6)) →
      RunI g h_St_openOnes [vO 2 k0 0, vI r1, vI (m1 (9, k1, i1) 5)] m1 (fun r2 m2 =>
       RunI g h_Int_bitCount [vI r2] m2 (fun r3 m3 =>
        vp_in 2 5 ∧
        (r3 < (m3 (3, k0, 0) 2) →
         RunV g h_Ch_waitAgain [vO 9 k1 i1, vI (m3 (2, k0, 0) 7)] m3 (fun m4 =>
          Q none m4)) ∧ (¬ r3 < (m3 (3, k0, 0) 2) →
         Q none (mset (mset m3 9 k1 i1 4 r1) 9 k1 i1 5 r2))))) ∧ (r1 = ((-6)) →
      RunV g h_Ch_quitRoom [vO 9 k1 i1, vI 2] m1 (fun m5 =>
       Q none m5)))) : Go g h_Wk_move Q 0 [(0, vO 2 k0 0), (1, vO 9 k1 i1)] [] mem := Go.cutN o_Wk_move [] 30 hv
set_option maxRecDepth 100000 in
theorem b_Ad_nextOnList_0 {g : Wg} {Q : Option Vl → Mm → Prop} {k0 : Nat} {mem : Mm} (hv :
    Go g h_Ad_nextOnList Q 5 [(0, vO 2 k0 0), (1, vI ((-6))), (2, vI 0)] [] mem) : Go g h_Ad_nextOnList Q 0 [(0, vO 2 k0 0)] [] mem := Go.cutN o_Ad_nextOnList [(5, [0, 1, 2])] 6 hv
set_option maxRecDepth 100000 in
theorem b_Ad_nextOnList_5 {g : Wg} {Q : Option Vl → Mm → Prop} {k0 : Nat} {x1 : Int32} {x2 : Int32} {mem : Mm} (hv :
    ((mem (2, k0, 0) 6) ≤ x2 →
     Q (some (vI x1)) mem) ∧ (¬ (mem (2, k0, 0) 6) ≤ x2 →
     RunI g h_Ad_hasPlacedSibling [vO 2 k0 0, vI x2] mem (fun r1 m1 =>
      (¬ r1 = 0 →
       ((1 : Int32) = 0 →
        Go g h_Ad_nextOnList Q 5 [(0, vO 2 k0 0), (1, vI x1), (2, vI (x2 + 1))] [] m1) ∧ (¬ (1 : Int32) = 0 →
        vp_in x2 24 ∧
        (¬ (m1 (9, k0, x2.toNatClampNeg) 3) = 0 →
         Go g h_Ad_nextOnList Q 5 [(0, vO 2 k0 0), (1, vI x1), (2, vI (x2 + 1))] [] m1) ∧ ((m1 (9, k0, x2.toNatClampNeg) 3) = 0 →
         RunI g h_Ad_sessionsFor [vO 2 k0 0, vI x2] m1 (fun r2 m2 =>
          (r2 = 0 →
           Go g h_Ad_nextOnList Q 5 [(0, vO 2 k0 0), (1, vI x1), (2, vI (x2 + 1))] [] m2) ∧ (¬ r2 = 0 →
           (r1 = 0 →
            Go g h_Ad_nextOnList Q 5 [(0, vO 2 k0 0), (1, vI x2), (2, vI (x2 + 1))] [] m2) ∧ (¬ r1 = 0 →
            Q (some (vI x2)) m2)))))) ∧ (r1 = 0 →
       (¬ x1 = ((-6)) →
        ((0 : Int32) = 0 →
         Go g h_Ad_nextOnList Q 5 [(0, vO 2 k0 0), (1, vI x1), (2, vI (x2 + 1))] [] m1) ∧ (¬ (0 : Int32) = 0 →
         vp_in x2 24 ∧
         (¬ (m1 (9, k0, x2.toNatClampNeg) 3) = 0 →
          Go g h_Ad_nextOnList Q 5 [(0, vO 2 k0 0), (1, vI x1), (2, vI (x2 + 1))] [] m1) ∧ ((m1 (9, k0, x2.toNatClampNeg) 3) = 0 →
          RunI g h_Ad_sessionsFor [vO 2 k0 0, vI x2] m1 (fun r3 m3 =>
           (r3 = 0 →
            Go g h_Ad_nextOnList Q 5 [(0, vO 2 k0 0), (1, vI x1), (2, vI (x2 + 1))] [] m3) ∧ (¬ r3 = 0 →
            (r1 = 0 →
             Go g h_Ad_nextOnList Q 5 [(0, vO 2 k0 0), (1, vI x2), (2, vI (x2 + 1))] [] m3) ∧ (¬ r1 = 0 →
             Q (some (vI x2)) m3)))))) ∧ (x1 = ((-6)) →
        ((1 : Int32) = 0 →
         Go g h_Ad_nextOnList Q 5 [(0, vO 2 k0 0), (1, vI x1), (2, vI (x2 + 1))] [] m1) ∧ (¬ (1 : Int32) = 0 →
         vp_in x2 24 ∧
         (¬ (m1 (9, k0, x2.toNatClampNeg) 3) = 0 →
          Go g h_Ad_nextOnList Q 5 [(0, vO 2 k0 0), (1, vI x1), (2, vI (x2 + 1))] [] m1) ∧ ((m1 (9, k0, x2.toNatClampNeg) 3) = 0 →
          RunI g h_Ad_sessionsFor [vO 2 k0 0, vI x2] m1 (fun r4 m4 =>
           (r4 = 0 →
            Go g h_Ad_nextOnList Q 5 [(0, vO 2 k0 0), (1, vI x1), (2, vI (x2 + 1))] [] m4) ∧ (¬ r4 = 0 →
            (r1 = 0 →
             Go g h_Ad_nextOnList Q 5 [(0, vO 2 k0 0), (1, vI x2), (2, vI (x2 + 1))] [] m4) ∧ (¬ r1 = 0 →
             Q (some (vI x2)) m4)))))))))) : Go g h_Ad_nextOnList Q 5 [(0, vO 2 k0 0), (1, vI x1), (2, vI x2)] [] mem := Go.cutN o_Ad_nextOnList [(5, [0, 1, 2])] 36 hv
set_option maxRecDepth 100000 in
theorem b_Ad_place_0 {g : Wg} {Q : Option Vl → Mm → Prop} {k0 : Nat} {x1 : Int32} {mem : Mm} (hv :
    vp_in x1 24 ∧
    RunI g h_Ad_sessionsFor [vO 2 k0 0, vI x1] mem (fun r1 m1 =>
     RunI g h_St_roomOfAge [vO 2 k0 0, vI ((mset m1 9 k0 x1.toNatClampNeg 5 r1) (9, k0, x1.toNatClampNeg) 0)] (mset m1 9 k0 x1.toNatClampNeg 5 r1) (fun r2 m2 =>
      vp_in 3 5 ∧
      (¬ ((mset (mset m2 9 k0 x1.toNatClampNeg 4 r2) 9 k0 x1.toNatClampNeg 3 1) (3, k0, 0) 3) = 0 →
       ((0 : Int32) = 0 ∨ (0 : Int32) = 1) ∧
       let u3 : Mm := mset (mset (mset m2 9 k0 x1.toNatClampNeg 4 r2) 9 k0 x1.toNatClampNeg 3 1) 9 k0 x1.toNatClampNeg 6 0
       Q none (mset (mset u3 2 k0 0 8 ((u3 (2, k0, 0) 8) + 1)) 9 k0 x1.toNatClampNeg 13 (u3 (2, k0, 0) 8))) ∧ (((mset (mset m2 9 k0 x1.toNatClampNeg 4 r2) 9 k0 x1.toNatClampNeg 3 1) (3, k0, 0) 3) = 0 →
       ((1 : Int32) = 0 ∨ (1 : Int32) = 1) ∧
       let u4 : Mm := mset (mset (mset m2 9 k0 x1.toNatClampNeg 4 r2) 9 k0 x1.toNatClampNeg 3 1) 9 k0 x1.toNatClampNeg 6 1
       Q none (mset (mset u4 2 k0 0 8 ((u4 (2, k0, 0) 8) + 1)) 9 k0 x1.toNatClampNeg 13 (u4 (2, k0, 0) 8)))))) : Go g h_Ad_place Q 0 [(0, vO 2 k0 0), (1, vI x1)] [] mem := Go.cutN o_Ad_place [] 39 hv
set_option maxRecDepth 100000 in
theorem b_Se_exchange_0 {g : Wg} {Q : Option Vl → Mm → Prop} {k0 : Nat} {x1 : Int32} {x2 : Int32} {x3 : Int32} {x4 : Int32} {mem : Mm} (hv :
    RunI g h_St_hasChild [vO 2 k0 0, vI x1] mem (fun r1 m1 =>
     (r1 = 0 →
      Q (some (vI ((-1)))) m1) ∧ (¬ r1 = 0 →
      RunI g h_St_hasChild [vO 2 k0 0, vI x3] m1 (fun r2 m2 =>
       (r2 = 0 →
        Q (some (vI ((-1)))) m2) ∧ (¬ r2 = 0 →
        (¬ x1 = x3 →
         RunI g h_N_isSession [vI x2] m2 (fun r3 m3 =>
          (r3 = 0 →
           Q (some (vI ((-1)))) m3) ∧ (¬ r3 = 0 →
           RunI g h_N_isSession [vI x4] m3 (fun r4 m4 =>
            (¬ r4 = 0 →
             RunI g h_Se_canExchange [vO 2 k0 0, vI x1, vI x2, vI x3, vI x4] m4 (fun r5 m5 =>
              (¬ r5 = 0 →
               vp_in x1 24 ∧
               let u6 : Mm := mset m5 9 k0 x1.toNatClampNeg 5 ((m5 (9, k0, x1.toNatClampNeg) 5) ^^^ ((1 <<< (x2 &&& 31)) ||| (1 <<< (x4 &&& 31))))
               vp_in x3 24 ∧
               let u7 : Mm := mset u6 9 k0 x3.toNatClampNeg 5 ((u6 (9, k0, x3.toNatClampNeg) 5) ^^^ ((1 <<< (x2 &&& 31)) ||| (1 <<< (x4 &&& 31))))
               Q (some (vI 1)) u7) ∧ (r5 = 0 →
               Q (some (vI ((-5)))) m5))) ∧ (r4 = 0 →
             Q (some (vI ((-1)))) m4))))) ∧ (x1 = x3 →
         Q (some (vI ((-1)))) m2)))))) : Go g h_Se_exchange Q 0 [(0, vO 2 k0 0), (1, vI x1), (2, vI x2), (3, vI x3), (4, vI x4)] [] mem := Go.cutN o_Se_exchange [] 53 hv
set_option maxRecDepth 100000 in
theorem b_Wk_holdSessions_0 {g : Wg} {Q : Option Vl → Mm → Prop} {k0 : Nat} {mem : Mm} (hv :
    Go g h_Wk_holdSessions Q 2 [(0, vO 2 k0 0), (1, vI 0)] [] mem) : Go g h_Wk_holdSessions Q 0 [(0, vO 2 k0 0)] [] mem := Go.cutN o_Wk_holdSessions [(2, [0, 1]), (12, [0, 1, 2])] 4 hv
set_option maxRecDepth 100000 in
theorem b_Wk_holdSessions_2 {g : Wg} {Q : Option Vl → Mm → Prop} {k0 : Nat} {x1 : Int32} {mem : Mm} (hv :
    ((mem (2, k0, 0) 4) ≤ x1 →
     Q none mem) ∧ (¬ (mem (2, k0, 0) 4) ≤ x1 →
     Go g h_Wk_holdSessions Q 12 [(0, vO 2 k0 0), (1, vI x1), (2, vI 0)] [] mem)) : Go g h_Wk_holdSessions Q 2 [(0, vO 2 k0 0), (1, vI x1)] [] mem := Go.cutN o_Wk_holdSessions [(2, [0, 1]), (12, [0, 1, 2])] 8 hv
set_option maxRecDepth 100000 in
theorem b_Wk_holdSessions_12 {g : Wg} {Q : Option Vl → Mm → Prop} {k0 : Nat} {x1 : Int32} {x2 : Int32} {mem : Mm} (hv :
    (10 ≤ x2 →
     Go g h_Wk_holdSessions Q 2 [(0, vO 2 k0 0), (1, vI (x1 + 1))] [] mem) ∧ (¬ 10 ≤ x2 →
     RunV g h_Wk_holdSession [vO 2 k0 0, vI x1, vI x2] mem (fun m1 =>
      Go g h_Wk_holdSessions Q 12 [(0, vO 2 k0 0), (1, vI x1), (2, vI (x2 + 1))] [] m1))) : Go g h_Wk_holdSessions Q 12 [(0, vO 2 k0 0), (1, vI x1), (2, vI x2)] [] mem := Go.cutN o_Wk_holdSessions [(2, [0, 1]), (12, [0, 1, 2])] 11 hv
set_option maxRecDepth 100000 in
theorem b_Wk_moveGrown_0 {g : Wg} {Q : Option Vl → Mm → Prop} {k0 : Nat} {mem : Mm} (hv :
    Go g h_Wk_moveGrown Q 2 [(0, vO 2 k0 0), (1, vI 0)] [] mem) : Go g h_Wk_moveGrown Q 0 [(0, vO 2 k0 0)] [] mem := Go.cutN o_Wk_moveGrown [(2, [0, 1])] 4 hv
set_option maxRecDepth 100000 in
theorem b_Wk_moveGrown_2 {g : Wg} {Q : Option Vl → Mm → Prop} {k0 : Nat} {x1 : Int32} {mem : Mm} (hv :
    ((mem (2, k0, 0) 6) ≤ x1 →
     Q none mem) ∧ (¬ (mem (2, k0, 0) 6) ≤ x1 →
     vp_in x1 24 ∧
     RunI g h_St_hasRoom [vO 2 k0 0, vI (mem (9, k0, x1.toNatClampNeg) 4)] mem (fun r1 m1 =>
      (r1 = 0 →
       Go g h_Wk_moveGrown Q 2 [(0, vO 2 k0 0), (1, vI (x1 + 1))] [] m1) ∧ (¬ r1 = 0 →
       vp_in (m1 (9, k0, x1.toNatClampNeg) 4) 5 ∧
       RunI g h_Rm_isFor [vO 7 k0 ((m1 (9, k0, x1.toNatClampNeg) 4).toNatClampNeg), vI (m1 (9, k0, x1.toNatClampNeg) 0)] m1 (fun r2 m2 =>
        (¬ r2 = 0 →
         Go g h_Wk_moveGrown Q 2 [(0, vO 2 k0 0), (1, vI (x1 + 1))] [] m2) ∧ (r2 = 0 →
         RunV g h_Wk_move [vO 2 k0 0, vO 9 k0 x1.toNatClampNeg] m2 (fun m3 =>
          Go g h_Wk_moveGrown Q 2 [(0, vO 2 k0 0), (1, vI (x1 + 1))] [] m3))))))) : Go g h_Wk_moveGrown Q 2 [(0, vO 2 k0 0), (1, vI x1)] [] mem := Go.cutN o_Wk_moveGrown [(2, [0, 1])] 30 hv
set_option maxRecDepth 100000 in
theorem b_Ad_admitAll_0 {g : Wg} {Q : Option Vl → Mm → Prop} {k0 : Nat} {mem : Mm} (hv :
    Go g h_Ad_admitAll Q 4 [(0, vO 2 k0 0), (1, vI 0), (2, vI 0)] [] mem) : Go g h_Ad_admitAll Q 0 [(0, vO 2 k0 0)] [] mem := Go.cutN o_Ad_admitAll [(4, [0, 1, 2])] 6 hv
set_option maxRecDepth 100000 in
theorem b_Ad_admitAll_4 {g : Wg} {Q : Option Vl → Mm → Prop} {k0 : Nat} {x1 : Int32} {x2 : Int32} {mem : Mm} (hv :
    (24 ≤ x2 →
     Q (some (vI x1)) mem) ∧ (¬ 24 ≤ x2 →
     RunI g h_Ad_nextOnList [vO 2 k0 0] mem (fun r1 m1 =>
      RunI g h_St_hasChild [vO 2 k0 0, vI r1] m1 (fun r2 m2 =>
       (¬ r2 = 0 →
        RunV g h_Ad_place [vO 2 k0 0, vI r1] m2 (fun m3 =>
         Go g h_Ad_admitAll Q 4 [(0, vO 2 k0 0), (1, vI (x1 + 1)), (2, vI (x2 + 1))] [] m3)) ∧ (r2 = 0 →
        Q (some (vI x1)) m2))))) : Go g h_Ad_admitAll Q 4 [(0, vO 2 k0 0), (1, vI x1), (2, vI x2)] [] mem := Go.cutN o_Ad_admitAll [(4, [0, 1, 2])] 18 hv
set_option maxRecDepth 100000 in
theorem b_Wk_passWeeks_0 {g : Wg} {Q : Option Vl → Mm → Prop} {k0 : Nat} {x1 : Int32} {mem : Mm} (hv :
    RunI g h_N_isWithin [vI x1, vI 1, vI 52] mem (fun r1 m1 =>
     (¬ r1 = 0 →
      Go g h_Wk_passWeeks Q 15 [(0, vO 2 k0 0), (1, vI x1), (2, vI 0)] [] m1) ∧ (r1 = 0 →
      Q (some (vI ((-2)))) m1))) : Go g h_Wk_passWeeks Q 0 [(0, vO 2 k0 0), (1, vI x1)] [] mem := Go.cutN o_Wk_passWeeks [(15, [0, 1, 2])] 9 hv
set_option maxRecDepth 100000 in
theorem b_Wk_passWeeks_15 {g : Wg} {Q : Option Vl → Mm → Prop} {k0 : Nat} {x1 : Int32} {x2 : Int32} {mem : Mm} (hv :
    (x1 ≤ x2 →
     Q (some (vI (mem (2, k0, 0) 7))) mem) ∧ (¬ x1 ≤ x2 →
     RunV g h_Wk_holdSessions [vO 2 k0 0] mem (fun m1 =>
      RunV g h_Wk_settle [vO 2 k0 0] m1 (fun m2 =>
       RunV g h_Wk_beginWeek [vO 2 k0 0] m2 (fun m3 =>
        RunV g h_Wk_moveGrown [vO 2 k0 0] m3 (fun m4 =>
         RunV g h_Wk_dropImpatient [vO 2 k0 0] m4 (fun m5 =>
          Go g h_Wk_passWeeks Q 15 [(0, vO 2 k0 0), (1, vI x1), (2, vI (x2 + 1))] [] m5))))))) : Go g h_Wk_passWeeks Q 15 [(0, vO 2 k0 0), (1, vI x1), (2, vI x2)] [] mem := Go.cutN o_Wk_passWeeks [(15, [0, 1, 2])] 17 hv
