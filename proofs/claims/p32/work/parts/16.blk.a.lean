/-! WHAT THE SMALL MACHINE ASKS between cuts (laid by a program; each row is its own evaluation) -/
set_option maxRecDepth 100000 in
theorem b_Ca_copyFrom_0 {g : Wg} {Q : Option Vl → Mm → Prop} {k0 : Nat} {i0 : Nat} {k1 : Nat} {i1 : Nat} {mem : Mm} (hv :
    let u1 : Mm := mset (mset mem 8 k0 i0 0 (mem (8, k1, i1) 0)) 8 k0 i0 1 ((mset mem 8 k0 i0 0 (mem (8, k1, i1) 0)) (8, k1, i1) 1)
    let u2 : Mm := mset (mset u1 8 k0 i0 2 (u1 (8, k1, i1) 2)) 8 k0 i0 3 ((mset u1 8 k0 i0 2 (u1 (8, k1, i1) 2)) (8, k1, i1) 3)
    (((u2 (8, k1, i1) 4) : Int32) = 0 ∨ ((u2 (8, k1, i1) 4) : Int32) = 1) ∧
    Q none (mset u2 8 k0 i0 4 (u2 (8, k1, i1) 4))) : Go g h_Ca_copyFrom Q 0 [(0, vO 8 k0 i0), (1, vO 8 k1 i1)] [] mem := Go.cutN o_Ca_copyFrom [] 22 hv
set_option maxRecDepth 100000 in
theorem b_Ca_isOnDuty_0 {g : Wg} {Q : Option Vl → Mm → Prop} {k0 : Nat} {i0 : Nat} {x1 : Int32} {x2 : Int32} {mem : Mm} (hv :
    (¬ (((mem (8, k0, i0) 1) >>> (x1 &&& 31)) &&& 1) = 1 →
     ((0 : Int32) = 0 ∨ (0 : Int32) = 1) ∧ Q (some (vI 0)) mem) ∧ ((((mem (8, k0, i0) 1) >>> (x1 &&& 31)) &&& 1) = 1 →
     (x2 < (mem (8, k0, i0) 2) →
      ((0 : Int32) = 0 ∨ (0 : Int32) = 1) ∧ Q (some (vI 0)) mem) ∧ (¬ x2 < (mem (8, k0, i0) 2) →
      ((mem (8, k0, i0) 3) ≤ x2 →
       ((0 : Int32) = 0 ∨ (0 : Int32) = 1) ∧ Q (some (vI 0)) mem) ∧ (¬ (mem (8, k0, i0) 3) ≤ x2 →
       ((1 : Int32) = 0 ∨ (1 : Int32) = 1) ∧ Q (some (vI 1)) mem)))) : Go g h_Ca_isOnDuty Q 0 [(0, vO 8 k0 i0), (1, vI x1), (2, vI x2)] [] mem := Go.cutN o_Ca_isOnDuty [] 20 hv
set_option maxRecDepth 100000 in
theorem b_Ch_copyFrom_0 {g : Wg} {Q : Option Vl → Mm → Prop} {k0 : Nat} {i0 : Nat} {k1 : Nat} {i1 : Nat} {mem : Mm} (hv :
    let u1 : Mm := mset (mset mem 9 k0 i0 0 (mem (9, k1, i1) 0)) 9 k0 i0 1 ((mset mem 9 k0 i0 0 (mem (9, k1, i1) 0)) (9, k1, i1) 1)
    let u2 : Mm := mset (mset u1 9 k0 i0 2 (u1 (9, k1, i1) 2)) 9 k0 i0 3 ((mset u1 9 k0 i0 2 (u1 (9, k1, i1) 2)) (9, k1, i1) 3)
    let u3 : Mm := mset (mset u2 9 k0 i0 4 (u2 (9, k1, i1) 4)) 9 k0 i0 5 ((mset u2 9 k0 i0 4 (u2 (9, k1, i1) 4)) (9, k1, i1) 5)
    (((u3 (9, k1, i1) 6) : Int32) = 0 ∨ ((u3 (9, k1, i1) 6) : Int32) = 1) ∧
    let u4 : Mm := mset (mset u3 9 k0 i0 6 (u3 (9, k1, i1) 6)) 9 k0 i0 7 ((mset u3 9 k0 i0 6 (u3 (9, k1, i1) 6)) (9, k1, i1) 7)
    let u5 : Mm := mset (mset u4 9 k0 i0 8 (u4 (9, k1, i1) 8)) 9 k0 i0 9 ((mset u4 9 k0 i0 8 (u4 (9, k1, i1) 8)) (9, k1, i1) 9)
    let u6 : Mm := mset (mset u5 9 k0 i0 10 (u5 (9, k1, i1) 10)) 9 k0 i0 11 ((mset u5 9 k0 i0 10 (u5 (9, k1, i1) 10)) (9, k1, i1) 11)
    let u7 : Mm := mset (mset u6 9 k0 i0 12 (u6 (9, k1, i1) 12)) 9 k0 i0 13 ((mset u6 9 k0 i0 12 (u6 (9, k1, i1) 12)) (9, k1, i1) 13)
    Q none u7) : Go g h_Ch_copyFrom Q 0 [(0, vO 9 k0 i0), (1, vO 9 k1 i1)] [] mem := Go.cutN o_Ch_copyFrom [] 58 hv
set_option maxRecDepth 100000 in
theorem b_Ch_has_0 {g : Wg} {Q : Option Vl → Mm → Prop} {k0 : Nat} {i0 : Nat} {x1 : Int32} {mem : Mm} (hv :
    (¬ (((mem (9, k0, i0) 5) >>> (x1 &&& 31)) &&& 1) = 1 →
     ((0 : Int32) = 0 ∨ (0 : Int32) = 1) ∧ Q (some (vI 0)) mem) ∧ ((((mem (9, k0, i0) 5) >>> (x1 &&& 31)) &&& 1) = 1 →
     ((1 : Int32) = 0 ∨ (1 : Int32) = 1) ∧ Q (some (vI 1)) mem)) : Go g h_Ch_has Q 0 [(0, vO 9 k0 i0), (1, vI x1)] [] mem := Go.cutN o_Ch_has [] 12 hv
set_option maxRecDepth 100000 in
theorem b_Ch_quitRoom_0 {g : Wg} {Q : Option Vl → Mm → Prop} {k0 : Nat} {i0 : Nat} {x1 : Int32} {mem : Mm} (hv :
    ((0 : Int32) = 0 ∨ (0 : Int32) = 1) ∧
    let u1 : Mm := mset (mset (mset (mset (mset mem 9 k0 i0 3 x1) 9 k0 i0 4 ((-6))) 9 k0 i0 5 0) 9 k0 i0 6 0) 9 k0 i0 8 ((-6))
    Q none u1) : Go g h_Ch_quitRoom Q 0 [(0, vO 9 k0 i0), (1, vI x1)] [] mem := Go.cutN o_Ch_quitRoom [] 17 hv
set_option maxRecDepth 100000 in
theorem b_Hi_keepIfDone_0 {g : Wg} {Q : Option Vl → Mm → Prop} {x1 : Int32} {mem : Mm} (hv :
    (0 ≤ x1 →
     (6 ≤ (mem (10, 0, 0) 2) →
      (¬ 7 = (0 : Int32)) ∧
      Q (some (vI x1)) (mset mem 10 0 0 1 (((mem (10, 0, 0) 1) + 1) - ((mem (10, 0, 0) 1) + 1) / 7 * 7))) ∧ (¬ 6 ≤ (mem (10, 0, 0) 2) →
      Q (some (vI x1)) (mset mem 10 0 0 2 ((mem (10, 0, 0) 2) + 1)))) ∧ (¬ 0 ≤ x1 →
     Q (some (vI x1)) mem)) : Go g h_Hi_keepIfDone Q 0 [(0, vO 10 0 0), (1, vI x1)] [] mem := Go.cutN o_Hi_keepIfDone [] 17 hv
set_option maxRecDepth 100000 in
theorem b_Int_bitCount_0 {g : Wg} {Q : Option Vl → Mm → Prop} {x0 : Int32} {mem : Mm} (hv :
    Q (some (vI ((((((((x0 - (((x0.toUInt32 >>> ((1 : Int32).toUInt32 &&& Int32.toUInt32 31)).toInt32) &&& 1431655765)) &&& 858993459) + ((((x0 - (((x0.toUInt32 >>> ((1 : Int32).toUInt32 &&& Int32.toUInt32 31)).toInt32) &&& 1431655765)).toUInt32 >>> ((2 : Int32).toUInt32 &&& Int32.toUInt32 31)).toInt32) &&& 858993459)) + (((((x0 - (((x0.toUInt32 >>> ((1 : Int32).toUInt32 &&& Int32.toUInt32 31)).toInt32) &&& 1431655765)) &&& 858993459) + ((((x0 - (((x0.toUInt32 >>> ((1 : Int32).toUInt32 &&& Int32.toUInt32 31)).toInt32) &&& 1431655765)).toUInt32 >>> ((2 : Int32).toUInt32 &&& Int32.toUInt32 31)).toInt32) &&& 858993459)).toUInt32 >>> ((4 : Int32).toUInt32 &&& Int32.toUInt32 31)).toInt32)) &&& 252645135) + (((((((x0 - (((x0.toUInt32 >>> ((1 : Int32).toUInt32 &&& Int32.toUInt32 31)).toInt32) &&& 1431655765)) &&& 858993459) + ((((x0 - (((x0.toUInt32 >>> ((1 : Int32).toUInt32 &&& Int32.toUInt32 31)).toInt32) &&& 1431655765)).toUInt32 >>> ((2 : Int32).toUInt32 &&& Int32.toUInt32 31)).toInt32) &&& 858993459)) + (((((x0 - (((x0.toUInt32 >>> ((1 : Int32).toUInt32 &&& Int32.toUInt32 31)).toInt32) &&& 1431655765)) &&& 858993459) + ((((x0 - (((x0.toUInt32 >>> ((1 : Int32).toUInt32 &&& Int32.toUInt32 31)).toInt32) &&& 1431655765)).toUInt32 >>> ((2 : Int32).toUInt32 &&& Int32.toUInt32 31)).toInt32) &&& 858993459)).toUInt32 >>> ((4 : Int32).toUInt32 &&& Int32.toUInt32 31)).toInt32)) &&& 252645135).toUInt32 >>> ((8 : Int32).toUInt32 &&& Int32.toUInt32 31)).toInt32)) + ((((((((x0 - (((x0.toUInt32 >>> ((1 : Int32).toUInt32 &&& Int32.toUInt32 31)).toInt32) &&& 1431655765)) &&& 858993459) + ((((x0 - (((x0.toUInt32 >>> ((1 : Int32).toUInt32 &&& Int32.toUInt32 31)).toInt32) &&& 1431655765)).toUInt32 >>> ((2 : Int32).toUInt32 &&& Int32.toUInt32 31)).toInt32) &&& 858993459)) + (((((x0 - (((x0.toUInt32 >>> ((1 : Int32).toUInt32 &&& Int32.toUInt32 31)).toInt32) &&& 1431655765)) &&& 858993459) + ((((x0 - (((x0.toUInt32 >>> ((1 : Int32).toUInt32 &&& Int32.toUInt32 31)).toInt32) &&& 1431655765)).toUInt32 >>> ((2 : Int32).toUInt32 &&& Int32.toUInt32 31)).toInt32) &&& 858993459)).toUInt32 >>> ((4 : Int32).toUInt32 &&& Int32.toUInt32 31)).toInt32)) &&& 252645135) + (((((((x0 - (((x0.toUInt32 >>> ((1 : Int32).toUInt32 &&& Int32.toUInt32 31)).toInt32) &&& 1431655765)) &&& 858993459) + ((((x0 - (((x0.toUInt32 >>> ((1 : Int32).toUInt32 &&& Int32.toUInt32 31)).toInt32) &&& 1431655765)).toUInt32 >>> ((2 : Int32).toUInt32 &&& Int32.toUInt32 31)).toInt32) &&& 858993459)) + (((((x0 - (((x0.toUInt32 >>> ((1 : Int32).toUInt32 &&& Int32.toUInt32 31)).toInt32) &&& 1431655765)) &&& 858993459) + ((((x0 - (((x0.toUInt32 >>> ((1 : Int32).toUInt32 &&& Int32.toUInt32 31)).toInt32) &&& 1431655765)).toUInt32 >>> ((2 : Int32).toUInt32 &&& Int32.toUInt32 31)).toInt32) &&& 858993459)).toUInt32 >>> ((4 : Int32).toUInt32 &&& Int32.toUInt32 31)).toInt32)) &&& 252645135).toUInt32 >>> ((8 : Int32).toUInt32 &&& Int32.toUInt32 31)).toInt32)).toUInt32 >>> ((16 : Int32).toUInt32 &&& Int32.toUInt32 31)).toInt32)) &&& 63))) mem) : Go g h_Int_bitCount Q 0 [(0, vI x0)] [] mem := Go.cutN o_Int_bitCount [] 43 hv
set_option maxRecDepth 100000 in
theorem b_Mth_max_0 {g : Wg} {Q : Option Vl → Mm → Prop} {x0 : Int32} {x1 : Int32} {mem : Mm} (hv :
    (x0 < x1 →
     Q (some (vI x1)) mem) ∧ (¬ x0 < x1 →
     Q (some (vI x0)) mem)) : Go g h_Mth_max Q 0 [(0, vI x0), (1, vI x1)] [] mem := Go.cutN o_Mth_max [] 7 hv
set_option maxRecDepth 100000 in
theorem b_Mth_min_0 {g : Wg} {Q : Option Vl → Mm → Prop} {x0 : Int32} {x1 : Int32} {mem : Mm} (hv :
    (x1 < x0 →
     Q (some (vI x1)) mem) ∧ (¬ x1 < x0 →
     Q (some (vI x0)) mem)) : Go g h_Mth_min Q 0 [(0, vI x0), (1, vI x1)] [] mem := Go.cutN o_Mth_min [] 7 hv
set_option maxRecDepth 100000 in
theorem b_Rm_copyFrom_0 {g : Wg} {Q : Option Vl → Mm → Prop} {k0 : Nat} {i0 : Nat} {k1 : Nat} {i1 : Nat} {mem : Mm} (hv :
    let u1 : Mm := mset (mset mem 7 k0 i0 0 (mem (7, k1, i1) 0)) 7 k0 i0 1 ((mset mem 7 k0 i0 0 (mem (7, k1, i1) 0)) (7, k1, i1) 1)
    let u2 : Mm := mset (mset u1 7 k0 i0 2 (u1 (7, k1, i1) 2)) 7 k0 i0 3 ((mset u1 7 k0 i0 2 (u1 (7, k1, i1) 2)) (7, k1, i1) 3)
    Q none u2) : Go g h_Rm_copyFrom Q 0 [(0, vO 7 k0 i0), (1, vO 7 k1 i1)] [] mem := Go.cutN o_Rm_copyFrom [] 18 hv
set_option maxRecDepth 100000 in
theorem b_Rm_isFor_0 {g : Wg} {Q : Option Vl → Mm → Prop} {k0 : Nat} {i0 : Nat} {x1 : Int32} {mem : Mm} (hv :
    (x1 < (mem (7, k0, i0) 0) →
     ((0 : Int32) = 0 ∨ (0 : Int32) = 1) ∧ Q (some (vI 0)) mem) ∧ (¬ x1 < (mem (7, k0, i0) 0) →
     ((mem (7, k0, i0) 1) ≤ x1 →
      ((0 : Int32) = 0 ∨ (0 : Int32) = 1) ∧ Q (some (vI 0)) mem) ∧ (¬ (mem (7, k0, i0) 1) ≤ x1 →
      ((1 : Int32) = 0 ∨ (1 : Int32) = 1) ∧ Q (some (vI 1)) mem))) : Go g h_Rm_isFor Q 0 [(0, vO 7 k0 i0), (1, vI x1)] [] mem := Go.cutN o_Rm_isFor [] 12 hv
set_option maxRecDepth 100000 in
theorem b_Ch_comesTo_0 {g : Wg} {Q : Option Vl → Mm → Prop} {k0 : Nat} {i0 : Nat} {x1 : Int32} {mem : Mm} (hv :
    ((mem (9, k0, i0) 6) = 0 →
     (¬ (mem (9, k0, i0) 8) = x1 →
      ((0 : Int32) = 0 ∨ (0 : Int32) = 1) ∧ Q (some (vI 0)) mem) ∧ ((mem (9, k0, i0) 8) = x1 →
      ((1 : Int32) = 0 ∨ (1 : Int32) = 1) ∧ Q (some (vI 1)) mem)) ∧ (¬ (mem (9, k0, i0) 6) = 0 →
     RunI g h_Ch_has [vO 9 k0 i0, vI x1] mem (fun r1 m1 =>
      ((r1 : Int32) = 0 ∨ (r1 : Int32) = 1) ∧ Q (some (vI r1)) m1))) : Go g h_Ch_comesTo Q 0 [(0, vO 9 k0 i0), (1, vI x1)] [] mem := Go.cutN o_Ch_comesTo [] 11 hv
set_option maxRecDepth 100000 in
theorem b_Ch_waitAgain_0 {g : Wg} {Q : Option Vl → Mm → Prop} {k0 : Nat} {i0 : Nat} {x1 : Int32} {mem : Mm} (hv :
    RunV g h_Ch_quitRoom [vO 9 k0 i0, vI 0] mem (fun m1 =>
     Q none (mset (mset m1 9 k0 i0 7 0) 9 k0 i0 12 x1))) : Go g h_Ch_waitAgain Q 0 [(0, vO 9 k0 i0), (1, vI x1)] [] mem := Go.cutN o_Ch_waitAgain [] 11 hv
set_option maxRecDepth 100000 in
theorem b_Ch_come_0 {g : Wg} {Q : Option Vl → Mm → Prop} {k0 : Nat} {i0 : Nat} {x1 : Int32} {x2 : Int32} {x3 : Int32} {x4 : Int32} {mem : Mm} (hv :
    let u1 : Mm := mset (mset (mset (mset (mset mem 9 k0 i0 0 x1) 9 k0 i0 1 x2) 9 k0 i0 2 x3) 9 k0 i0 9 0) 9 k0 i0 10 0
    RunV g h_Ch_waitAgain [vO 9 k0 i0, vI x4] (mset (mset u1 9 k0 i0 11 0) 9 k0 i0 13 0) (fun m2 =>
     Q none m2)) : Go g h_Ch_come Q 0 [(0, vO 9 k0 i0), (1, vI x1), (2, vI x2), (3, vI x3), (4, vI x4)] [] mem := Go.cutN o_Ch_come [] 26 hv
set_option maxRecDepth 100000 in
theorem b_Hi_note_0 {g : Wg} {Q : Option Vl → Mm → Prop} {k1 : Nat} {mem : Mm} (hv :
    (¬ 7 = (0 : Int32)) ∧
    vp_in (((mem (10, 0, 0) 1) + (mem (10, 0, 0) 2)) - ((mem (10, 0, 0) 1) + (mem (10, 0, 0) 2)) / 7 * 7) 7 ∧
    RunV g h_St_copyFrom [vO 2 (2 + (((mem (10, 0, 0) 1) + (mem (10, 0, 0) 2)) - ((mem (10, 0, 0) 1) + (mem (10, 0, 0) 2)) / 7 * 7).toNatClampNeg) 0, vO 2 k1 0] mem (fun m1 =>
     Q none m1)) : Go g h_Hi_note Q 0 [(0, vO 10 0 0), (1, vO 2 k1 0)] [] mem := Go.cutN o_Hi_note [] 14 hv
set_option maxRecDepth 100000 in
theorem b_Hi_takeBack_0 {g : Wg} {Q : Option Vl → Mm → Prop} {k1 : Nat} {mem : Mm} (hv :
    (¬ (mem (10, 0, 0) 2) = 0 →
     (¬ 7 = (0 : Int32)) ∧
     vp_in ((((mset mem 10 0 0 2 ((mem (10, 0, 0) 2) - 1)) (10, 0, 0) 1) + ((mset mem 10 0 0 2 ((mem (10, 0, 0) 2) - 1)) (10, 0, 0) 2)) - (((mset mem 10 0 0 2 ((mem (10, 0, 0) 2) - 1)) (10, 0, 0) 1) + ((mset mem 10 0 0 2 ((mem (10, 0, 0) 2) - 1)) (10, 0, 0) 2)) / 7 * 7) 7 ∧
     RunV g h_St_copyFrom [vO 2 k1 0, vO 2 (2 + ((((mset mem 10 0 0 2 ((mem (10, 0, 0) 2) - 1)) (10, 0, 0) 1) + ((mset mem 10 0 0 2 ((mem (10, 0, 0) 2) - 1)) (10, 0, 0) 2)) - (((mset mem 10 0 0 2 ((mem (10, 0, 0) 2) - 1)) (10, 0, 0) 1) + ((mset mem 10 0 0 2 ((mem (10, 0, 0) 2) - 1)) (10, 0, 0) 2)) / 7 * 7).toNatClampNeg) 0] (mset mem 10 0 0 2 ((mem (10, 0, 0) 2) - 1)) (fun m1 =>
      Q (some (vI (m1 (10, 0, 0) 2))) m1)) ∧ ((mem (10, 0, 0) 2) = 0 →
     Q (some (vI ((-5)))) mem)) : Go g h_Hi_takeBack Q 0 [(0, vO 10 0 0), (1, vO 2 k1 0)] [] mem := Go.cutN o_Hi_takeBack [] 25 hv
