/-! WHAT THE SMALL MACHINE ASKS between cuts (laid by a program; each row is its own evaluation) -/
set_option maxRecDepth 100000 in
theorem b_St_carersOf_0 {g : Wg} {Q : Option Vl → Mm → Prop} {k0 : Nat} {x1 : Int32} {mem : Mm} (hv :
    Go g h_St_carersOf Q 4 [(0, vO 2 k0 0), (1, vI x1), (2, vI 0), (3, vI 0)] [] mem) : Go g h_St_carersOf Q 0 [(0, vO 2 k0 0), (1, vI x1)] [] mem := Go.cutN o_St_carersOf [(4, [0, 1, 2, 3])] 6 hv
set_option maxRecDepth 100000 in
theorem b_St_carersOf_4 {g : Wg} {Q : Option Vl → Mm → Prop} {k0 : Nat} {x1 : Int32} {x2 : Int32} {x3 : Int32} {mem : Mm} (hv :
    ((mem (2, k0, 0) 5) ≤ x3 →
     Q (some (vI x2)) mem) ∧ (¬ (mem (2, k0, 0) 5) ≤ x3 →
     vp_in x3 13 ∧
     (¬ (mem (8, k0, x3.toNatClampNeg) 0) = x1 →
      Go g h_St_carersOf Q 4 [(0, vO 2 k0 0), (1, vI x1), (2, vI x2), (3, vI (x3 + 1))] [] mem) ∧ ((mem (8, k0, x3.toNatClampNeg) 0) = x1 →
      Go g h_St_carersOf Q 4 [(0, vO 2 k0 0), (1, vI x1), (2, vI (x2 ||| (1 <<< (x3 &&& 31)))), (3, vI (x3 + 1))] [] mem))) : Go g h_St_carersOf Q 4 [(0, vO 2 k0 0), (1, vI x1), (2, vI x2), (3, vI x3)] [] mem := Go.cutN o_St_carersOf [(4, [0, 1, 2, 3])] 21 hv
set_option maxRecDepth 100000 in
theorem b_St_childrenInState_0 {g : Wg} {Q : Option Vl → Mm → Prop} {k0 : Nat} {x1 : Int32} {mem : Mm} (hv :
    Go g h_St_childrenInState Q 4 [(0, vO 2 k0 0), (1, vI x1), (2, vI 0), (3, vI 0)] [] mem) : Go g h_St_childrenInState Q 0 [(0, vO 2 k0 0), (1, vI x1)] [] mem := Go.cutN o_St_childrenInState [(4, [0, 1, 2, 3])] 6 hv
set_option maxRecDepth 100000 in
theorem b_St_childrenInState_4 {g : Wg} {Q : Option Vl → Mm → Prop} {k0 : Nat} {x1 : Int32} {x2 : Int32} {x3 : Int32} {mem : Mm} (hv :
    ((mem (2, k0, 0) 6) ≤ x3 →
     Q (some (vI x2)) mem) ∧ (¬ (mem (2, k0, 0) 6) ≤ x3 →
     vp_in x3 24 ∧
     (¬ (mem (9, k0, x3.toNatClampNeg) 3) = x1 →
      Go g h_St_childrenInState Q 4 [(0, vO 2 k0 0), (1, vI x1), (2, vI x2), (3, vI (x3 + 1))] [] mem) ∧ ((mem (9, k0, x3.toNatClampNeg) 3) = x1 →
      Go g h_St_childrenInState Q 4 [(0, vO 2 k0 0), (1, vI x1), (2, vI (x2 ||| (1 <<< (x3 &&& 31)))), (3, vI (x3 + 1))] [] mem))) : Go g h_St_childrenInState Q 4 [(0, vO 2 k0 0), (1, vI x1), (2, vI x2), (3, vI x3)] [] mem := Go.cutN o_St_childrenInState [(4, [0, 1, 2, 3])] 21 hv
set_option maxRecDepth 100000 in
theorem b_St_childrenOf_0 {g : Wg} {Q : Option Vl → Mm → Prop} {k0 : Nat} {x1 : Int32} {mem : Mm} (hv :
    Go g h_St_childrenOf Q 4 [(0, vO 2 k0 0), (1, vI x1), (2, vI 0), (3, vI 0)] [] mem) : Go g h_St_childrenOf Q 0 [(0, vO 2 k0 0), (1, vI x1)] [] mem := Go.cutN o_St_childrenOf [(4, [0, 1, 2, 3])] 6 hv
set_option maxRecDepth 100000 in
theorem b_St_childrenOf_4 {g : Wg} {Q : Option Vl → Mm → Prop} {k0 : Nat} {x1 : Int32} {x2 : Int32} {x3 : Int32} {mem : Mm} (hv :
    ((mem (2, k0, 0) 6) ≤ x3 →
     Q (some (vI x2)) mem) ∧ (¬ (mem (2, k0, 0) 6) ≤ x3 →
     vp_in x3 24 ∧
     (¬ (mem (9, k0, x3.toNatClampNeg) 4) = x1 →
      Go g h_St_childrenOf Q 4 [(0, vO 2 k0 0), (1, vI x1), (2, vI x2), (3, vI (x3 + 1))] [] mem) ∧ ((mem (9, k0, x3.toNatClampNeg) 4) = x1 →
      Go g h_St_childrenOf Q 4 [(0, vO 2 k0 0), (1, vI x1), (2, vI (x2 ||| (1 <<< (x3 &&& 31)))), (3, vI (x3 + 1))] [] mem))) : Go g h_St_childrenOf Q 4 [(0, vO 2 k0 0), (1, vI x1), (2, vI x2), (3, vI x3)] [] mem := Go.cutN o_St_childrenOf [(4, [0, 1, 2, 3])] 21 hv
set_option maxRecDepth 100000 in
theorem b_St_hasCarer_0 {g : Wg} {Q : Option Vl → Mm → Prop} {k0 : Nat} {x1 : Int32} {mem : Mm} (hv :
    (x1 < 0 →
     ((0 : Int32) = 0 ∨ (0 : Int32) = 1) ∧ Q (some (vI 0)) mem) ∧ (¬ x1 < 0 →
     ((mem (2, k0, 0) 5) ≤ x1 →
      ((0 : Int32) = 0 ∨ (0 : Int32) = 1) ∧ Q (some (vI 0)) mem) ∧ (¬ (mem (2, k0, 0) 5) ≤ x1 →
      ((1 : Int32) = 0 ∨ (1 : Int32) = 1) ∧ Q (some (vI 1)) mem))) : Go g h_St_hasCarer Q 0 [(0, vO 2 k0 0), (1, vI x1)] [] mem := Go.cutN o_St_hasCarer [] 11 hv
set_option maxRecDepth 100000 in
theorem b_St_hasChild_0 {g : Wg} {Q : Option Vl → Mm → Prop} {k0 : Nat} {x1 : Int32} {mem : Mm} (hv :
    (x1 < 0 →
     ((0 : Int32) = 0 ∨ (0 : Int32) = 1) ∧ Q (some (vI 0)) mem) ∧ (¬ x1 < 0 →
     ((mem (2, k0, 0) 6) ≤ x1 →
      ((0 : Int32) = 0 ∨ (0 : Int32) = 1) ∧ Q (some (vI 0)) mem) ∧ (¬ (mem (2, k0, 0) 6) ≤ x1 →
      ((1 : Int32) = 0 ∨ (1 : Int32) = 1) ∧ Q (some (vI 1)) mem))) : Go g h_St_hasChild Q 0 [(0, vO 2 k0 0), (1, vI x1)] [] mem := Go.cutN o_St_hasChild [] 11 hv
set_option maxRecDepth 100000 in
theorem b_St_hasRoom_0 {g : Wg} {Q : Option Vl → Mm → Prop} {k0 : Nat} {x1 : Int32} {mem : Mm} (hv :
    (x1 < 0 →
     ((0 : Int32) = 0 ∨ (0 : Int32) = 1) ∧ Q (some (vI 0)) mem) ∧ (¬ x1 < 0 →
     ((mem (2, k0, 0) 4) ≤ x1 →
      ((0 : Int32) = 0 ∨ (0 : Int32) = 1) ∧ Q (some (vI 0)) mem) ∧ (¬ (mem (2, k0, 0) 4) ≤ x1 →
      ((1 : Int32) = 0 ∨ (1 : Int32) = 1) ∧ Q (some (vI 1)) mem))) : Go g h_St_hasRoom Q 0 [(0, vO 2 k0 0), (1, vI x1)] [] mem := Go.cutN o_St_hasRoom [] 11 hv
set_option maxRecDepth 100000 in
theorem b_St_hire_0 {g : Wg} {Q : Option Vl → Mm → Prop} {k0 : Nat} {x1 : Int32} {x2 : Int32} {x3 : Int32} {x4 : Int32} {mem : Mm} (hv :
    ((mem (2, k0, 0) 5) ≤ 12 →
     vp_in (mem (2, k0, 0) 5) 13 ∧
     let u1 : Mm := mset (mset mem 8 k0 ((mem (2, k0, 0) 5).toNatClampNeg) 0 x1) 8 k0 ((mem (2, k0, 0) 5).toNatClampNeg) 1 x2
     let u2 : Mm := mset (mset u1 8 k0 ((mem (2, k0, 0) 5).toNatClampNeg) 2 x3) 8 k0 ((mem (2, k0, 0) 5).toNatClampNeg) 3 x4
     ((0 : Int32) = 0 ∨ (0 : Int32) = 1) ∧
     let u3 : Mm := mset (mset u2 8 k0 ((mem (2, k0, 0) 5).toNatClampNeg) 4 0) 2 k0 0 5 (((mset u2 8 k0 ((mem (2, k0, 0) 5).toNatClampNeg) 4 0) (2, k0, 0) 5) + 1)
     Q (some (vI ((mset u2 8 k0 ((mem (2, k0, 0) 5).toNatClampNeg) 4 0) (2, k0, 0) 5))) u3) ∧ (¬ (mem (2, k0, 0) 5) ≤ 12 →
     Q (some (vI ((-4)))) mem)) : Go g h_St_hire Q 0 [(0, vO 2 k0 0), (1, vI x1), (2, vI x2), (3, vI x3), (4, vI x4)] [] mem := Go.cutN o_St_hire [] 34 hv
set_option maxRecDepth 100000 in
theorem b_St_plannedVisits_0 {g : Wg} {Q : Option Vl → Mm → Prop} {k0 : Nat} {mem : Mm} (hv :
    Go g h_St_plannedVisits Q 4 [(0, vO 2 k0 0), (1, vI 0), (2, vI 0)] [] mem) : Go g h_St_plannedVisits Q 0 [(0, vO 2 k0 0)] [] mem := Go.cutN o_St_plannedVisits [(4, [0, 1, 2])] 6 hv
set_option maxRecDepth 100000 in
theorem b_St_plannedVisits_4 {g : Wg} {Q : Option Vl → Mm → Prop} {k0 : Nat} {x1 : Int32} {x2 : Int32} {mem : Mm} (hv :
    ((mem (2, k0, 0) 6) ≤ x2 →
     Q (some (vI x1)) mem) ∧ (¬ (mem (2, k0, 0) 6) ≤ x2 →
     vp_in x2 24 ∧
     ((mem (9, k0, x2.toNatClampNeg) 8) = ((-6)) →
      Go g h_St_plannedVisits Q 4 [(0, vO 2 k0 0), (1, vI x1), (2, vI (x2 + 1))] [] mem) ∧ (¬ (mem (9, k0, x2.toNatClampNeg) 8) = ((-6)) →
      Go g h_St_plannedVisits Q 4 [(0, vO 2 k0 0), (1, vI (x1 + 1)), (2, vI (x2 + 1))] [] mem))) : Go g h_St_plannedVisits Q 4 [(0, vO 2 k0 0), (1, vI x1), (2, vI x2)] [] mem := Go.cutN o_St_plannedVisits [(4, [0, 1, 2])] 16 hv
set_option maxRecDepth 100000 in
theorem b_St_settledChildren_0 {g : Wg} {Q : Option Vl → Mm → Prop} {k0 : Nat} {mem : Mm} (hv :
    Go g h_St_settledChildren Q 4 [(0, vO 2 k0 0), (1, vI 0), (2, vI 0)] [] mem) : Go g h_St_settledChildren Q 0 [(0, vO 2 k0 0)] [] mem := Go.cutN o_St_settledChildren [(4, [0, 1, 2])] 6 hv
set_option maxRecDepth 100000 in
theorem b_St_settledChildren_4 {g : Wg} {Q : Option Vl → Mm → Prop} {k0 : Nat} {x1 : Int32} {x2 : Int32} {mem : Mm} (hv :
    ((mem (2, k0, 0) 6) ≤ x2 →
     Q (some (vI x1)) mem) ∧ (¬ (mem (2, k0, 0) 6) ≤ x2 →
     vp_in x2 24 ∧
     ((mem (9, k0, x2.toNatClampNeg) 6) = 0 →
      Go g h_St_settledChildren Q 4 [(0, vO 2 k0 0), (1, vI x1), (2, vI (x2 + 1))] [] mem) ∧ (¬ (mem (9, k0, x2.toNatClampNeg) 6) = 0 →
      Go g h_St_settledChildren Q 4 [(0, vO 2 k0 0), (1, vI (x1 ||| (1 <<< (x2 &&& 31)))), (2, vI (x2 + 1))] [] mem))) : Go g h_St_settledChildren Q 4 [(0, vO 2 k0 0), (1, vI x1), (2, vI x2)] [] mem := Go.cutN o_St_settledChildren [(4, [0, 1, 2])] 20 hv
set_option maxRecDepth 100000 in
theorem b_St_addRoom_0 {g : Wg} {Q : Option Vl → Mm → Prop} {k0 : Nat} {x1 : Int32} {x2 : Int32} {x3 : Int32} {x4 : Int32} {mem : Mm} (hv :
    RunI g h_N_isWithin [vI x1, vI 0, vI 71] mem (fun r1 m1 =>
     (r1 = 0 →
      Q (some (vI ((-2)))) m1) ∧ (¬ r1 = 0 →
      (x2 ≤ x1 →
       Q (some (vI ((-2)))) m1) ∧ (¬ x2 ≤ x1 →
       (x2 ≤ 72 →
        RunI g h_N_isWithin [vI x3, vI 1, vI 40] m1 (fun r2 m2 =>
         (r2 = 0 →
          Q (some (vI ((-2)))) m2) ∧ (¬ r2 = 0 →
          RunI g h_N_isWithin [vI x4, vI 1, vI 12] m2 (fun r3 m3 =>
           (¬ r3 = 0 →
            ((m3 (2, k0, 0) 4) < 5 →
             vp_in (m3 (2, k0, 0) 4) 5 ∧
             let u4 : Mm := mset (mset m3 7 k0 ((m3 (2, k0, 0) 4).toNatClampNeg) 0 x1) 7 k0 ((m3 (2, k0, 0) 4).toNatClampNeg) 1 x2
             let u5 : Mm := mset (mset u4 7 k0 ((m3 (2, k0, 0) 4).toNatClampNeg) 2 x3) 7 k0 ((m3 (2, k0, 0) 4).toNatClampNeg) 3 x4
             Q (some (vI (u5 (2, k0, 0) 4))) (mset u5 2 k0 0 4 ((u5 (2, k0, 0) 4) + 1))) ∧ (¬ (m3 (2, k0, 0) 4) < 5 →
             Q (some (vI ((-4)))) m3)) ∧ (r3 = 0 →
            Q (some (vI ((-2)))) m3))))) ∧ (¬ x2 ≤ 72 →
        Q (some (vI ((-2)))) m1))))) : Go g h_St_addRoom Q 0 [(0, vO 2 k0 0), (1, vI x1), (2, vI x2), (3, vI x3), (4, vI x4)] [] mem := Go.cutN o_St_addRoom [] 52 hv
set_option maxRecDepth 100000 in
theorem b_St_changeSetting_0 {g : Wg} {Q : Option Vl → Mm → Prop} {k0 : Nat} {x1 : Int32} {x2 : Int32} {mem : Mm} (hv :
    RunI g h_N_isWithin [vI x1, vI 0, vI 4] mem (fun r1 m1 =>
     (¬ r1 = 0 →
      vp_in x1 5 ∧
      vp_in x1 5 ∧
      RunI g h_N_isWithin [vI x2, vI (staV 0 x1.toNatClampNeg), vI (staV 1 x1.toNatClampNeg)] m1 (fun r2 m2 =>
       (¬ r2 = 0 →
        vp_in x1 5 ∧
        vp_in x1 5 ∧
        Q (some (vI (m2 (3, k0, 0) x1.toNatClampNeg))) (mset m2 3 k0 0 x1.toNatClampNeg x2)) ∧ (r2 = 0 →
        Q (some (vI ((-2)))) m2))) ∧ (r1 = 0 →
      Q (some (vI ((-2)))) m1))) : Go g h_St_changeSetting Q 0 [(0, vO 2 k0 0), (1, vI x1), (2, vI x2)] [] mem := Go.cutN o_St_changeSetting [] 27 hv
set_option maxRecDepth 100000 in
theorem b_St_copyFrom_0 {g : Wg} {Q : Option Vl → Mm → Prop} {k0 : Nat} {k1 : Nat} {mem : Mm} (hv :
    ((0 : Int32) = 0 ∧ (0 : Int32) = 0 ∧ (5 : Int32) = 5) ∧
    let u1 : Mm := fun o => if o = (3, k0, 0) then va_cpy (mem (3, k1, 0)) (mem (3, k0, 0)) 0 0 5 else mem o
    let u2 : Mm := mset (mset u1 2 k0 0 4 (u1 (2, k1, 0) 4)) 2 k0 0 5 ((mset u1 2 k0 0 4 (u1 (2, k1, 0) 4)) (2, k1, 0) 5)
    let u3 : Mm := mset (mset u2 2 k0 0 6 (u2 (2, k1, 0) 6)) 2 k0 0 7 ((mset u2 2 k0 0 6 (u2 (2, k1, 0) 6)) (2, k1, 0) 7)
    let u4 : Mm := mset (mset u3 2 k0 0 8 (u3 (2, k1, 0) 8)) 2 k0 0 9 ((mset u3 2 k0 0 8 (u3 (2, k1, 0) 8)) (2, k1, 0) 9)
    let u5 : Mm := mset (mset u4 2 k0 0 10 (u4 (2, k1, 0) 10)) 2 k0 0 11 ((mset u4 2 k0 0 10 (u4 (2, k1, 0) 10)) (2, k1, 0) 11)
    Go g h_St_copyFrom Q 80 [(0, vO 2 k0 0), (1, vO 2 k1 0), (2, vI 0)] [] u5) : Go g h_St_copyFrom Q 0 [(0, vO 2 k0 0), (1, vO 2 k1 0)] [] mem := Go.cutN o_St_copyFrom [(80, [0, 1, 2]), (111, [0, 1, 2]), (142, [0, 1, 2])] 44 hv
set_option maxRecDepth 100000 in
theorem b_St_copyFrom_80 {g : Wg} {Q : Option Vl → Mm → Prop} {k0 : Nat} {k1 : Nat} {x2 : Int32} {mem : Mm} (hv :
    ((mem (2, k0, 0) 4) ≤ x2 →
     Go g h_St_copyFrom Q 111 [(0, vO 2 k0 0), (1, vO 2 k1 0), (2, vI 0)] [] mem) ∧ (¬ (mem (2, k0, 0) 4) ≤ x2 →
     vp_in x2 5 ∧
     vp_in x2 5 ∧
     RunV g h_Rm_copyFrom [vO 7 k0 x2.toNatClampNeg, vO 7 k1 x2.toNatClampNeg] mem (fun m1 =>
      Go g h_St_copyFrom Q 80 [(0, vO 2 k0 0), (1, vO 2 k1 0), (2, vI (x2 + 1))] [] m1))) : Go g h_St_copyFrom Q 80 [(0, vO 2 k0 0), (1, vO 2 k1 0), (2, vI x2)] [] mem := Go.cutN o_St_copyFrom [(80, [0, 1, 2]), (111, [0, 1, 2]), (142, [0, 1, 2])] 17 hv
set_option maxRecDepth 100000 in
theorem b_St_copyFrom_111 {g : Wg} {Q : Option Vl → Mm → Prop} {k0 : Nat} {k1 : Nat} {x2 : Int32} {mem : Mm} (hv :
    ((mem (2, k0, 0) 5) ≤ x2 →
     Go g h_St_copyFrom Q 142 [(0, vO 2 k0 0), (1, vO 2 k1 0), (2, vI 0)] [] mem) ∧ (¬ (mem (2, k0, 0) 5) ≤ x2 →
     vp_in x2 13 ∧
     vp_in x2 13 ∧
     RunV g h_Ca_copyFrom [vO 8 k0 x2.toNatClampNeg, vO 8 k1 x2.toNatClampNeg] mem (fun m1 =>
      Go g h_St_copyFrom Q 111 [(0, vO 2 k0 0), (1, vO 2 k1 0), (2, vI (x2 + 1))] [] m1))) : Go g h_St_copyFrom Q 111 [(0, vO 2 k0 0), (1, vO 2 k1 0), (2, vI x2)] [] mem := Go.cutN o_St_copyFrom [(80, [0, 1, 2]), (111, [0, 1, 2]), (142, [0, 1, 2])] 17 hv
set_option maxRecDepth 100000 in
theorem b_St_copyFrom_142 {g : Wg} {Q : Option Vl → Mm → Prop} {k0 : Nat} {k1 : Nat} {x2 : Int32} {mem : Mm} (hv :
    ((mem (2, k0, 0) 6) ≤ x2 →
     Q none mem) ∧ (¬ (mem (2, k0, 0) 6) ≤ x2 →
     vp_in x2 24 ∧
     vp_in x2 24 ∧
     RunV g h_Ch_copyFrom [vO 9 k0 x2.toNatClampNeg, vO 9 k1 x2.toNatClampNeg] mem (fun m1 =>
      Go g h_St_copyFrom Q 142 [(0, vO 2 k0 0), (1, vO 2 k1 0), (2, vI (x2 + 1))] [] m1))) : Go g h_St_copyFrom Q 142 [(0, vO 2 k0 0), (1, vO 2 k1 0), (2, vI x2)] [] mem := Go.cutN o_St_copyFrom [(80, [0, 1, 2]), (111, [0, 1, 2]), (142, [0, 1, 2])] 17 hv
set_option maxRecDepth 100000 in
theorem b_St_placesIn_0 {g : Wg} {Q : Option Vl → Mm → Prop} {k0 : Nat} {x1 : Int32} {x2 : Int32} {x3 : Int32} {mem : Mm} (hv :
    RunI g h_St_hasRoom [vO 2 k0 0, vI x1] mem (fun r1 m1 =>
     (¬ r1 = 0 →
      (¬ 2 = (0 : Int32)) ∧
      (¬ 2 = (0 : Int32)) ∧
      vp_in x1 5 ∧
      Go g h_St_placesIn Q 37 [(0, vO 2 k0 0), (1, vI x1), (3, vI x3), (4, vI (x2 / 2)), (5, vI ((x2 - x2 / 2 * 2) * 5)), (6, vI (m1 (7, k0, x1.toNatClampNeg) 2)), (7, vI ((x2 - x2 / 2 * 2) * 5))] [] m1) ∧ (r1 = 0 →
      Q (some (vI 0)) m1))) : Go g h_St_placesIn Q 0 [(0, vO 2 k0 0), (1, vI x1), (2, vI x2), (3, vI x3)] [] mem := Go.cutN o_St_placesIn [(37, [0, 1, 3, 4, 5, 6, 7]), (52, [0, 1, 3, 4, 5, 6, 7, 8, 9])] 24 hv
set_option maxRecDepth 100000 in
theorem b_St_placesIn_37 {g : Wg} {Q : Option Vl → Mm → Prop} {k0 : Nat} {x1 : Int32} {x3 : Int32} {x4 : Int32} {x5 : Int32} {x6 : Int32} {x7 : Int32} {mem : Mm} (hv :
    ((x5 + 5) ≤ x7 →
     Q (some (vI x6)) mem) ∧ (¬ (x5 + 5) ≤ x7 →
     Go g h_St_placesIn Q 52 [(0, vO 2 k0 0), (1, vI x1), (3, vI x3), (4, vI x4), (5, vI x5), (6, vI x6), (7, vI x7), (8, vI 0), (9, vI 0)] [] mem)) : Go g h_St_placesIn Q 37 [(0, vO 2 k0 0), (1, vI x1), (3, vI x3), (4, vI x4), (5, vI x5), (6, vI x6), (7, vI x7)] [] mem := Go.cutN o_St_placesIn [(37, [0, 1, 3, 4, 5, 6, 7]), (52, [0, 1, 3, 4, 5, 6, 7, 8, 9])] 11 hv
set_option maxRecDepth 100000 in
theorem b_St_placesIn_52 {g : Wg} {Q : Option Vl → Mm → Prop} {k0 : Nat} {x1 : Int32} {x3 : Int32} {x4 : Int32} {x5 : Int32} {x6 : Int32} {x7 : Int32} {x8 : Int32} {x9 : Int32} {mem : Mm} (hv :
    ((mem (2, k0, 0) 5) ≤ x9 →
     vp_in x1 5 ∧
     Go g h_St_placesIn Q 37 [(0, vO 2 k0 0), (1, vI x1), (3, vI x3), (4, vI x4), (5, vI x5), (6, vI (if ((mem (7, k0, x1.toNatClampNeg) 3) * x8) < x6 then (mem (7, k0, x1.toNatClampNeg) 3) * x8 else x6)), (7, vI (x7 + 1))] [] mem) ∧ (¬ (mem (2, k0, 0) 5) ≤ x9 →
     vp_in x9 13 ∧
     (¬ (mem (8, k0, x9.toNatClampNeg) 0) = x1 →
      ((0 : Int32) = 0 →
       Go g h_St_placesIn Q 52 [(0, vO 2 k0 0), (1, vI x1), (3, vI x3), (4, vI x4), (5, vI x5), (6, vI x6), (7, vI x7), (8, vI x8), (9, vI (x9 + 1))] [] mem) ∧ (¬ (0 : Int32) = 0 →
       RunI g h_Ca_isOnDuty [vO 8 k0 x9.toNatClampNeg, vI x4, vI x7] mem (fun r1 m1 =>
        (r1 = 0 →
         Go g h_St_placesIn Q 52 [(0, vO 2 k0 0), (1, vI x1), (3, vI x3), (4, vI x4), (5, vI x5), (6, vI x6), (7, vI x7), (8, vI x8), (9, vI (x9 + 1))] [] m1) ∧ (¬ r1 = 0 →
         Go g h_St_placesIn Q 52 [(0, vO 2 k0 0), (1, vI x1), (3, vI x3), (4, vI x4), (5, vI x5), (6, vI x6), (7, vI x7), (8, vI (x8 + 1)), (9, vI (x9 + 1))] [] m1)))) ∧ ((mem (8, k0, x9.toNatClampNeg) 0) = x1 →
      (¬ x3 = 0 →
       ((1 : Int32) = 0 →
        Go g h_St_placesIn Q 52 [(0, vO 2 k0 0), (1, vI x1), (3, vI x3), (4, vI x4), (5, vI x5), (6, vI x6), (7, vI x7), (8, vI x8), (9, vI (x9 + 1))] [] mem) ∧ (¬ (1 : Int32) = 0 →
        RunI g h_Ca_isOnDuty [vO 8 k0 x9.toNatClampNeg, vI x4, vI x7] mem (fun r2 m2 =>
         (r2 = 0 →
          Go g h_St_placesIn Q 52 [(0, vO 2 k0 0), (1, vI x1), (3, vI x3), (4, vI x4), (5, vI x5), (6, vI x6), (7, vI x7), (8, vI x8), (9, vI (x9 + 1))] [] m2) ∧ (¬ r2 = 0 →
          Go g h_St_placesIn Q 52 [(0, vO 2 k0 0), (1, vI x1), (3, vI x3), (4, vI x4), (5, vI x5), (6, vI x6), (7, vI x7), (8, vI (x8 + 1)), (9, vI (x9 + 1))] [] m2)))) ∧ (x3 = 0 →
       (¬ (mem (8, k0, x9.toNatClampNeg) 4) = 0 →
        ((0 : Int32) = 0 →
         Go g h_St_placesIn Q 52 [(0, vO 2 k0 0), (1, vI x1), (3, vI x3), (4, vI x4), (5, vI x5), (6, vI x6), (7, vI x7), (8, vI x8), (9, vI (x9 + 1))] [] mem) ∧ (¬ (0 : Int32) = 0 →
         RunI g h_Ca_isOnDuty [vO 8 k0 x9.toNatClampNeg, vI x4, vI x7] mem (fun r3 m3 =>
          (r3 = 0 →
           Go g h_St_placesIn Q 52 [(0, vO 2 k0 0), (1, vI x1), (3, vI x3), (4, vI x4), (5, vI x5), (6, vI x6), (7, vI x7), (8, vI x8), (9, vI (x9 + 1))] [] m3) ∧ (¬ r3 = 0 →
           Go g h_St_placesIn Q 52 [(0, vO 2 k0 0), (1, vI x1), (3, vI x3), (4, vI x4), (5, vI x5), (6, vI x6), (7, vI x7), (8, vI (x8 + 1)), (9, vI (x9 + 1))] [] m3)))) ∧ ((mem (8, k0, x9.toNatClampNeg) 4) = 0 →
        ((1 : Int32) = 0 →
         Go g h_St_placesIn Q 52 [(0, vO 2 k0 0), (1, vI x1), (3, vI x3), (4, vI x4), (5, vI x5), (6, vI x6), (7, vI x7), (8, vI x8), (9, vI (x9 + 1))] [] mem) ∧ (¬ (1 : Int32) = 0 →
         RunI g h_Ca_isOnDuty [vO 8 k0 x9.toNatClampNeg, vI x4, vI x7] mem (fun r4 m4 =>
          (r4 = 0 →
           Go g h_St_placesIn Q 52 [(0, vO 2 k0 0), (1, vI x1), (3, vI x3), (4, vI x4), (5, vI x5), (6, vI x6), (7, vI x7), (8, vI x8), (9, vI (x9 + 1))] [] m4) ∧ (¬ r4 = 0 →
           Go g h_St_placesIn Q 52 [(0, vO 2 k0 0), (1, vI x1), (3, vI x3), (4, vI x4), (5, vI x5), (6, vI x6), (7, vI x7), (8, vI (x8 + 1)), (9, vI (x9 + 1))] [] m4)))))))) : Go g h_St_placesIn Q 52 [(0, vO 2 k0 0), (1, vI x1), (3, vI x3), (4, vI x4), (5, vI x5), (6, vI x6), (7, vI x7), (8, vI x8), (9, vI x9)] [] mem := Go.cutN o_St_placesIn [(37, [0, 1, 3, 4, 5, 6, 7]), (52, [0, 1, 3, 4, 5, 6, 7, 8, 9])] 33 hv
set_option maxRecDepth 100000 in
theorem b_St_reportSick_0 {g : Wg} {Q : Option Vl → Mm → Prop} {k0 : Nat} {x1 : Int32} {mem : Mm} (hv :
    RunI g h_St_hasCarer [vO 2 k0 0, vI x1] mem (fun r1 m1 =>
     (¬ r1 = 0 →
      vp_in x1 13 ∧
      ((m1 (8, k0, x1.toNatClampNeg) 4) = 0 →
       vp_in x1 13 ∧
       ((1 : Int32) = 0 ∨ (1 : Int32) = 1) ∧
       Go g h_St_reportSick Q 39 [(0, vO 2 k0 0), (2, vI 0), (3, vI 0)] [] (mset m1 8 k0 x1.toNatClampNeg 4 1)) ∧ (¬ (m1 (8, k0, x1.toNatClampNeg) 4) = 0 →
       Q (some (vI ((-5)))) m1)) ∧ (r1 = 0 →
      Q (some (vI ((-1)))) m1))) : Go g h_St_reportSick Q 0 [(0, vO 2 k0 0), (1, vI x1)] [] mem := Go.cutN o_St_reportSick [(39, [0, 2, 3])] 22 hv
set_option maxRecDepth 100000 in
theorem b_St_reportSick_39 {g : Wg} {Q : Option Vl → Mm → Prop} {k0 : Nat} {x2 : Int32} {x3 : Int32} {mem : Mm} (hv :
    ((mem (2, k0, 0) 5) ≤ x3 →
     Q (some (vI x2)) mem) ∧ (¬ (mem (2, k0, 0) 5) ≤ x3 →
     vp_in x3 13 ∧
     ((mem (8, k0, x3.toNatClampNeg) 4) = 0 →
      Go g h_St_reportSick Q 39 [(0, vO 2 k0 0), (2, vI x2), (3, vI (x3 + 1))] [] mem) ∧ (¬ (mem (8, k0, x3.toNatClampNeg) 4) = 0 →
      Go g h_St_reportSick Q 39 [(0, vO 2 k0 0), (2, vI (x2 + 1)), (3, vI (x3 + 1))] [] mem))) : Go g h_St_reportSick Q 39 [(0, vO 2 k0 0), (2, vI x2), (3, vI x3)] [] mem := Go.cutN o_St_reportSick [(39, [0, 2, 3])] 15 hv
set_option maxRecDepth 100000 in
theorem b_St_roomOfAge_0 {g : Wg} {Q : Option Vl → Mm → Prop} {k0 : Nat} {x1 : Int32} {mem : Mm} (hv :
    Go g h_St_roomOfAge Q 2 [(0, vO 2 k0 0), (1, vI x1), (2, vI 0)] [] mem) : Go g h_St_roomOfAge Q 0 [(0, vO 2 k0 0), (1, vI x1)] [] mem := Go.cutN o_St_roomOfAge [(2, [0, 1, 2])] 4 hv
set_option maxRecDepth 100000 in
theorem b_St_roomOfAge_2 {g : Wg} {Q : Option Vl → Mm → Prop} {k0 : Nat} {x1 : Int32} {x2 : Int32} {mem : Mm} (hv :
    ((mem (2, k0, 0) 4) ≤ x2 →
     Q (some (vI ((-6)))) mem) ∧ (¬ (mem (2, k0, 0) 4) ≤ x2 →
     vp_in x2 5 ∧
     RunI g h_Rm_isFor [vO 7 k0 x2.toNatClampNeg, vI x1] mem (fun r1 m1 =>
      (r1 = 0 →
       Go g h_St_roomOfAge Q 2 [(0, vO 2 k0 0), (1, vI x1), (2, vI (x2 + 1))] [] m1) ∧ (¬ r1 = 0 →
       Q (some (vI x2)) m1)))) : Go g h_St_roomOfAge Q 2 [(0, vO 2 k0 0), (1, vI x1), (2, vI x2)] [] mem := Go.cutN o_St_roomOfAge [(2, [0, 1, 2])] 15 hv
set_option maxRecDepth 100000 in
theorem b_St_takenIn_0 {g : Wg} {Q : Option Vl → Mm → Prop} {k0 : Nat} {x1 : Int32} {x2 : Int32} {mem : Mm} (hv :
    Go g h_St_takenIn Q 5 [(0, vO 2 k0 0), (1, vI x1), (2, vI x2), (3, vI 0), (4, vI 0)] [] mem) : Go g h_St_takenIn Q 0 [(0, vO 2 k0 0), (1, vI x1), (2, vI x2)] [] mem := Go.cutN o_St_takenIn [(5, [0, 1, 2, 3, 4])] 6 hv
set_option maxRecDepth 100000 in
theorem b_St_takenIn_5 {g : Wg} {Q : Option Vl → Mm → Prop} {k0 : Nat} {x1 : Int32} {x2 : Int32} {x3 : Int32} {x4 : Int32} {mem : Mm} (hv :
    ((mem (2, k0, 0) 6) ≤ x4 →
     Q (some (vI x3)) mem) ∧ (¬ (mem (2, k0, 0) 6) ≤ x4 →
     vp_in x4 24 ∧
     (¬ (mem (9, k0, x4.toNatClampNeg) 4) = x1 →
      Go g h_St_takenIn Q 5 [(0, vO 2 k0 0), (1, vI x1), (2, vI x2), (3, vI x3), (4, vI (x4 + 1))] [] mem) ∧ ((mem (9, k0, x4.toNatClampNeg) 4) = x1 →
      vp_in x4 24 ∧
      RunI g h_Ch_has [vO 9 k0 x4.toNatClampNeg, vI x2] mem (fun r1 m1 =>
       (r1 = 0 →
        Go g h_St_takenIn Q 5 [(0, vO 2 k0 0), (1, vI x1), (2, vI x2), (3, vI x3), (4, vI (x4 + 1))] [] m1) ∧ (¬ r1 = 0 →
        Go g h_St_takenIn Q 5 [(0, vO 2 k0 0), (1, vI x1), (2, vI x2), (3, vI (x3 + 1)), (4, vI (x4 + 1))] [] m1))))) : Go g h_St_takenIn Q 5 [(0, vO 2 k0 0), (1, vI x1), (2, vI x2), (3, vI x3), (4, vI x4)] [] mem := Go.cutN o_St_takenIn [(5, [0, 1, 2, 3, 4])] 23 hv
set_option maxRecDepth 100000 in
theorem b_St_addCarer_0 {g : Wg} {Q : Option Vl → Mm → Prop} {k0 : Nat} {x1 : Int32} {x2 : Int32} {x3 : Int32} {x4 : Int32} {mem : Mm} (hv :
    RunI g h_St_hasRoom [vO 2 k0 0, vI x1] mem (fun r1 m1 =>
     (¬ r1 = 0 →
      RunI g h_N_isShift [vI x2, vI x3, vI x4] m1 (fun r2 m2 =>
       (¬ r2 = 0 →
        ((m2 (2, k0, 0) 5) < 12 →
         RunI g h_St_hire [vO 2 k0 0, vI x1, vI x2, vI x3, vI x4] m2 (fun r3 m3 =>
          Q (some (vI r3)) m3)) ∧ (¬ (m2 (2, k0, 0) 5) < 12 →
         Q (some (vI ((-4)))) m2)) ∧ (r2 = 0 →
        Q (some (vI ((-2)))) m2))) ∧ (r1 = 0 →
      Q (some (vI ((-1)))) m1))) : Go g h_St_addCarer Q 0 [(0, vO 2 k0 0), (1, vI x1), (2, vI x2), (3, vI x3), (4, vI x4)] [] mem := Go.cutN o_St_addCarer [] 21 hv
set_option maxRecDepth 100000 in
theorem b_St_isOpen_0 {g : Wg} {Q : Option Vl → Mm → Prop} {k0 : Nat} {x1 : Int32} {x2 : Int32} {mem : Mm} (hv :
    RunI g h_St_takenIn [vO 2 k0 0, vI x1, vI x2] mem (fun r1 m1 =>
     RunI g h_St_placesIn [vO 2 k0 0, vI x1, vI x2, vI 1] m1 (fun r2 m2 =>
      (r2 ≤ r1 →
       ((0 : Int32) = 0 ∨ (0 : Int32) = 1) ∧ Q (some (vI 0)) m2) ∧ (¬ r2 ≤ r1 →
       ((1 : Int32) = 0 ∨ (1 : Int32) = 1) ∧ Q (some (vI 1)) m2)))) : Go g h_St_isOpen Q 0 [(0, vO 2 k0 0), (1, vI x1), (2, vI x2)] [] mem := Go.cutN o_St_isOpen [] 14 hv
set_option maxRecDepth 100000 in
theorem b_St_openOnes_0 {g : Wg} {Q : Option Vl → Mm → Prop} {k0 : Nat} {x1 : Int32} {x2 : Int32} {mem : Mm} (hv :
    Go g h_St_openOnes Q 5 [(0, vO 2 k0 0), (1, vI x1), (2, vI x2), (3, vI 0), (4, vI 0)] [] mem) : Go g h_St_openOnes Q 0 [(0, vO 2 k0 0), (1, vI x1), (2, vI x2)] [] mem := Go.cutN o_St_openOnes [(5, [0, 1, 2, 3, 4])] 6 hv
set_option maxRecDepth 100000 in
theorem b_St_openOnes_5 {g : Wg} {Q : Option Vl → Mm → Prop} {k0 : Nat} {x1 : Int32} {x2 : Int32} {x3 : Int32} {x4 : Int32} {mem : Mm} (hv :
    (10 ≤ x4 →
     Q (some (vI x3)) mem) ∧ (¬ 10 ≤ x4 →
     RunI g h_N_holds [vI x2, vI x4] mem (fun r1 m1 =>
      (r1 = 0 →
       Go g h_St_openOnes Q 5 [(0, vO 2 k0 0), (1, vI x1), (2, vI x2), (3, vI x3), (4, vI (x4 + 1))] [] m1) ∧ (¬ r1 = 0 →
       RunI g h_St_takenIn [vO 2 k0 0, vI x1, vI x4] m1 (fun r2 m2 =>
        RunI g h_St_placesIn [vO 2 k0 0, vI x1, vI x4, vI 1] m2 (fun r3 m3 =>
         (r3 ≤ r2 →
          Go g h_St_openOnes Q 5 [(0, vO 2 k0 0), (1, vI x1), (2, vI x2), (3, vI x3), (4, vI (x4 + 1))] [] m3) ∧ (¬ r3 ≤ r2 →
          Go g h_St_openOnes Q 5 [(0, vO 2 k0 0), (1, vI x1), (2, vI x2), (3, vI (x3 ||| (1 <<< (x4 &&& 31)))), (4, vI (x4 + 1))] [] m3))))))) : Go g h_St_openOnes Q 5 [(0, vO 2 k0 0), (1, vI x1), (2, vI x2), (3, vI x3), (4, vI x4)] [] mem := Go.cutN o_St_openOnes [(5, [0, 1, 2, 3, 4])] 29 hv
set_option maxRecDepth 100000 in
theorem b_St_placesInAll_0 {g : Wg} {Q : Option Vl → Mm → Prop} {k0 : Nat} {x1 : Int32} {mem : Mm} (hv :
    Go g h_St_placesInAll Q 4 [(0, vO 2 k0 0), (1, vI x1), (2, vI 0), (3, vI 0)] [] mem) : Go g h_St_placesInAll Q 0 [(0, vO 2 k0 0), (1, vI x1)] [] mem := Go.cutN o_St_placesInAll [(4, [0, 1, 2, 3])] 6 hv
set_option maxRecDepth 100000 in
theorem b_St_placesInAll_4 {g : Wg} {Q : Option Vl → Mm → Prop} {k0 : Nat} {x1 : Int32} {x2 : Int32} {x3 : Int32} {mem : Mm} (hv :
    (10 ≤ x3 →
     Q (some (vI x2)) mem) ∧ (¬ 10 ≤ x3 →
     RunI g h_St_placesIn [vO 2 k0 0, vI x1, vI x3, vI 1] mem (fun r1 m1 =>
      Go g h_St_placesInAll Q 4 [(0, vO 2 k0 0), (1, vI x1), (2, vI (x2 + r1)), (3, vI (x3 + 1))] [] m1))) : Go g h_St_placesInAll Q 4 [(0, vO 2 k0 0), (1, vI x1), (2, vI x2), (3, vI x3)] [] mem := Go.cutN o_St_placesInAll [(4, [0, 1, 2, 3])] 15 hv
set_option maxRecDepth 100000 in
theorem b_St_addChild_0 {g : Wg} {Q : Option Vl → Mm → Prop} {k0 : Nat} {x1 : Int32} {x2 : Int32} {x3 : Int32} {mem : Mm} (hv :
    RunI g h_N_isWithin [vI x1, vI 0, vI 72] mem (fun r1 m1 =>
     (r1 = 0 →
      Q (some (vI ((-2)))) m1) ∧ (¬ r1 = 0 →
      RunI g h_N_isWithin [vI x2, vI 0, vI 15] m1 (fun r2 m2 =>
       (¬ r2 = 0 →
        RunI g h_N_isWithin [vI x3, vI 1, vI 1023] m2 (fun r3 m3 =>
         (¬ r3 = 0 →
          ((m3 (2, k0, 0) 6) < 24 →
           vp_in (m3 (2, k0, 0) 6) 24 ∧
           RunV g h_Ch_come [vO 9 k0 ((m3 (2, k0, 0) 6).toNatClampNeg), vI x1, vI x2, vI x3, vI (m3 (2, k0, 0) 7)] m3 (fun m4 =>
            Q (some (vI (m4 (2, k0, 0) 6))) (mset m4 2 k0 0 6 ((m4 (2, k0, 0) 6) + 1)))) ∧ (¬ (m3 (2, k0, 0) 6) < 24 →
           Q (some (vI ((-4)))) m3)) ∧ (r3 = 0 →
          Q (some (vI ((-2)))) m3))) ∧ (r2 = 0 →
        Q (some (vI ((-2)))) m2))))) : Go g h_St_addChild Q 0 [(0, vO 2 k0 0), (1, vI x1), (2, vI x2), (3, vI x3)] [] mem := Go.cutN o_St_addChild [] 39 hv
