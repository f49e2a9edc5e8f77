/-! WHAT THE SMALL MACHINE ASKS between cuts (laid by a program; each row is its own evaluation) -/
set_option maxRecDepth 100000 in
theorem b_Ca_copyFrom_0 {g : Wg} {Q : Option Vl → Mm → Prop} {k0 : Nat} {i0 : Nat} {k1 : Nat} {i1 : Nat} {mem : Mm} (hv :
    let u1 : Mm := mset (mset mem 8 k0 i0 0 (mem (8, k1, i1) 0)) 8 k0 i0 1 ((mset mem 8 k0 i0 0 (mem (8, k1, i1) 0)) (8, k1, i1) 1)
    let u2 : Mm := mset (mset u1 8 k0 i0 2 (u1 (8, k1, i1) 2)) 8 k0 i0 3 ((mset u1 8 k0 i0 2 (u1 (8, k1, i1) 2)) (8, k1, i1) 3)
    (((u2 (8, k1, i1) 4) : Int32) = 0 ∨ ((u2 (8, k1, i1) 4) : Int32) = 1) ∧
    Q none (mset u2 8 k0 i0 4 (u2 (8, k1, i1) 4))) : Go g h_Ca_copyFrom Q 0 [(0, vO 8 k0 i0), (1, vO 8 k1 i1)] [] mem := Go.cutN o_Ca_copyFrom [] 22 hv
set_option maxRecDepth 100000 in
theorem b_Ca_isOnDuty_0 {g : Wg} {Q : Option Vl → Mm → Prop} {k0 : Nat} {i0 : Nat} {x1 : Int32} {x2 : Int32} {mem : Mm} (hv :
    (¬ (((mem (8, k0, i0) 1) >>> (x1 &&& 31)) &&& 1) = 1 →
     ((0 : Int32) = 0 ∨ (0 : Int32) = 1) ∧ Q (some (vI 0)) mem) ∧ ((((mem (8, k0, i0) 1) >>> (x1 &&& 31)) &&& 1) = 1 →
     (x2 < (mem (8, k0, i0) 2) →
      ((0 : Int32) = 0 ∨ (0 : Int32) = 1) ∧ Q (some (vI 0)) mem) ∧ (¬ x2 < (mem (8, k0, i0) 2) →
      ((mem (8, k0, i0) 3) ≤ x2 →
       ((0 : Int32) = 0 ∨ (0 : Int32) = 1) ∧ Q (some (vI 0)) mem) ∧ (¬ (mem (8, k0, i0) 3) ≤ x2 →
       ((1 : Int32) = 0 ∨ (1 : Int32) = 1) ∧ Q (some (vI 1)) mem)))) : Go g h_Ca_isOnDuty Q 0 [(0, vO 8 k0 i0), (1, vI x1), (2, vI x2)] [] mem := Go.cutN o_Ca_isOnDuty [] 20 hv
set_option maxRecDepth 100000 in
theorem b_Ch_copyFrom_0 {g : Wg} {Q : Option Vl → Mm → Prop} {k0 : Nat} {i0 : Nat} {k1 : Nat} {i1 : Nat} {mem : Mm} (hv :
    let u1 : Mm := mset (mset mem 9 k0 i0 0 (mem (9, k1, i1) 0)) 9 k0 i0 1 ((mset mem 9 k0 i0 0 (mem (9, k1, i1) 0)) (9, k1, i1) 1)
    let u2 : Mm := mset (mset u1 9 k0 i0 2 (u1 (9, k1, i1) 2)) 9 k0 i0 3 ((mset u1 9 k0 i0 2 (u1 (9, k1, i1) 2)) (9, k1, i1) 3)
    let u3 : Mm := mset (mset u2 9 k0 i0 4 (u2 (9, k1, i1) 4)) 9 k0 i0 5 ((mset u2 9 k0 i0 4 (u2 (9, k1, i1) 4)) (9, k1, i1) 5)
    (((u3 (9, k1, i1) 6) : Int32) = 0 ∨ ((u3 (9, k1, i1) 6) : Int32) = 1) ∧
    let u4 : Mm := mset (mset u3 9 k0 i0 6 (u3 (9, k1, i1) 6)) 9 k0 i0 7 ((mset u3 9 k0 i0 6 (u3 (9, k1, i1) 6)) (9, k1, i1) 7)
    let u5 : Mm := mset (mset u4 9 k0 i0 8 (u4 (9, k1, i1) 8)) 9 k0 i0 9 ((mset u4 9 k0 i0 8 (u4 (9, k1, i1) 8)) (9, k1, i1) 9)
    let u6 : Mm := mset (mset u5 9 k0 i0 10 (u5 (9, k1, i1) 10)) 9 k0 i0 11 ((mset u5 9 k0 i0 10 (u5 (9, k1, i1) 10)) (9, k1, i1) 11)
    let u7 : Mm := mset (mset u6 9 k0 i0 12 (u6 (9, k1, i1) 12)) 9 k0 i0 13 ((mset u6 9 k0 i0 12 (u6 (9, k1, i1) 12)) (9, k1, i1) 13)
    Q none u7) : Go g h_Ch_copyFrom Q 0 [(0, vO 9 k0 i0), (1, vO 9 k1 i1)] [] mem := Go.cutN o_Ch_copyFrom [] 58 hv
set_option maxRecDepth 100000 in
theorem b_Ch_has_0 {g : Wg} {Q : Option Vl → Mm → Prop} {k0 : Nat} {i0 : Nat} {x1 : Int32} {mem : Mm} (hv :
    (¬ (((mem (9, k0, i0) 5) >>> (x1 &&& 31)) &&& 1) = 1 →
     ((0 : Int32) = 0 ∨ (0 : Int32) = 1) ∧ Q (some (vI 0)) mem) ∧ ((((mem (9, k0, i0) 5) >>> (x1 &&& 31)) &&& 1) = 1 →
     ((1 : Int32) = 0 ∨ (1 : Int32) = 1) ∧ Q (some (vI 1)) mem)) : Go g h_Ch_has Q 0 [(0, vO 9 k0 i0), (1, vI x1)] [] mem := Go.cutN o_Ch_has [] 12 hv
set_option maxRecDepth 100000 in
theorem b_Ch_quitRoom_0 {g : Wg} {Q : Option Vl → Mm → Prop} {k0 : Nat} {i0 : Nat} {x1 : Int32} {mem : Mm} (hv :
    ((0 : Int32) = 0 ∨ (0 : Int32) = 1) ∧
    let u1 : Mm := mset (mset (mset (mset (mset mem 9 k0 i0 3 x1) 9 k0 i0 4 ((-6))) 9 k0 i0 5 0) 9 k0 i0 6 0) 9 k0 i0 8 ((-6))
    Q none u1) : Go g h_Ch_quitRoom Q 0 [(0, vO 9 k0 i0), (1, vI x1)] [] mem := Go.cutN o_Ch_quitRoom [] 17 hv
set_option maxRecDepth 100000 in
theorem b_Hi_keepIfDone_0 {g : Wg} {Q : Option Vl → Mm → Prop} {x1 : Int32} {mem : Mm} (hv :
    (0 ≤ x1 →
     (6 ≤ (mem (10, 0, 0) 2) →
      (¬ 7 = (0 : Int32)) ∧
      Q (some (vI x1)) (mset mem 10 0 0 1 (((mem (10, 0, 0) 1) + 1) - ((mem (10, 0, 0) 1) + 1) / 7 * 7))) ∧ (¬ 6 ≤ (mem (10, 0, 0) 2) →
      Q (some (vI x1)) (mset mem 10 0 0 2 ((mem (10, 0, 0) 2) + 1)))) ∧ (¬ 0 ≤ x1 →
     Q (some (vI x1)) mem)) : Go g h_Hi_keepIfDone Q 0 [(0, vO 10 0 0), (1, vI x1)] [] mem := Go.cutN o_Hi_keepIfDone [] 17 hv
set_option maxRecDepth 100000 in
theorem b_Int_bitCount_0 {g : Wg} {Q : Option Vl → Mm → Prop} {x0 : Int32} {mem : Mm} (hv :
    Q (some (vI ((((((((x0 - (((x0.toUInt32 >>> ((1 : Int32).toUInt32 &&& Int32.toUInt32 31)).toInt32) &&& 1431655765)) &&& 858993459) + ((((x0 - (((x0.toUInt32 >>> ((1 : Int32).toUInt32 &&& Int32.toUInt32 31)).toInt32) &&& 1431655765)).toUInt32 >>> ((2 : Int32).toUInt32 &&& Int32.toUInt32 31)).toInt32) &&& 858993459)) + (((((x0 - (((x0.toUInt32 >>> ((1 : Int32).toUInt32 &&& Int32.toUInt32 31)).toInt32) &&& 1431655765)) &&& 858993459) + ((((x0 - (((x0.toUInt32 >>> ((1 : Int32).toUInt32 &&& Int32.toUInt32 31)).toInt32) &&& 1431655765)).toUInt32 >>> ((2 : Int32).toUInt32 &&& Int32.toUInt32 31)).toInt32) &&& 858993459)).toUInt32 >>> ((4 : Int32).toUInt32 &&& Int32.toUInt32 31)).toInt32)) &&& 252645135) + (((((((x0 - (((x0.toUInt32 >>> ((1 : Int32).toUInt32 &&& Int32.toUInt32 31)).toInt32) &&& 1431655765)) &&& 858993459) + ((((x0 - (((x0.toUInt32 >>> ((1 : Int32).toUInt32 &&& Int32.toUInt32 31)).toInt32) &&& 1431655765)).toUInt32 >>> ((2 : Int32).toUInt32 &&& Int32.toUInt32 31)).toInt32) &&& 858993459)) + (((((x0 - (((x0.toUInt32 >>> ((1 : Int32).toUInt32 &&& Int32.toUInt32 31)).toInt32) &&& 1431655765)) &&& 858993459) + ((((x0 - (((x0.toUInt32 >>> ((1 : Int32).toUInt32 &&& Int32.toUInt32 31)).toInt32) &&& 1431655765)).toUInt32 >>> ((2 : Int32).toUInt32 &&& Int32.toUInt32 31)).toInt32) &&& 858993459)).toUInt32 >>> ((4 : Int32).toUInt32 &&& Int32.toUInt32 31)).toInt32)) &&& 252645135).toUInt32 >>> ((8 : Int32).toUInt32 &&& Int32.toUInt32 31)).toInt32)) + ((((((((x0 - (((x0.toUInt32 >>> ((1 : Int32).toUInt32 &&& Int32.toUInt32 31)).toInt32) &&& 1431655765)) &&& 858993459) + ((((x0 - (((x0.toUInt32 >>> ((1 : Int32).toUInt32 &&& Int32.toUInt32 31)).toInt32) &&& 1431655765)).toUInt32 >>> ((2 : Int32).toUInt32 &&& Int32.toUInt32 31)).toInt32) &&& 858993459)) + (((((x0 - (((x0.toUInt32 >>> ((1 : Int32).toUInt32 &&& Int32.toUInt32 31)).toInt32) &&& 1431655765)) &&& 858993459) + ((((x0 - (((x0.toUInt32 >>> ((1 : Int32).toUInt32 &&& Int32.toUInt32 31)).toInt32) &&& 1431655765)).toUInt32 >>> ((2 : Int32).toUInt32 &&& Int32.toUInt32 31)).toInt32) &&& 858993459)).toUInt32 >>> ((4 : Int32).toUInt32 &&& Int32.toUInt32 31)).toInt32)) &&& 252645135) + (((((((x0 - (((x0.toUInt32 >>> ((1 : Int32).toUInt32 &&& Int32.toUInt32 31)).toInt32) &&& 1431655765)) &&& 858993459) + ((((x0 - (((x0.toUInt32 >>> ((1 : Int32).toUInt32 &&& Int32.toUInt32 31)).toInt32) &&& 1431655765)).toUInt32 >>> ((2 : Int32).toUInt32 &&& Int32.toUInt32 31)).toInt32) &&& 858993459)) + (((((x0 - (((x0.toUInt32 >>> ((1 : Int32).toUInt32 &&& Int32.toUInt32 31)).toInt32) &&& 1431655765)) &&& 858993459) + ((((x0 - (((x0.toUInt32 >>> ((1 : Int32).toUInt32 &&& Int32.toUInt32 31)).toInt32) &&& 1431655765)).toUInt32 >>> ((2 : Int32).toUInt32 &&& Int32.toUInt32 31)).toInt32) &&& 858993459)).toUInt32 >>> ((4 : Int32).toUInt32 &&& Int32.toUInt32 31)).toInt32)) &&& 252645135).toUInt32 >>> ((8 : Int32).toUInt32 &&& Int32.toUInt32 31)).toInt32)).toUInt32 >>> ((16 : Int32).toUInt32 &&& Int32.toUInt32 31)).toInt32)) &&& 63))) mem) : Go g h_Int_bitCount Q 0 [(0, vI x0)] [] mem := Go.cutN o_Int_bitCount [] 43 hv
set_option maxRecDepth 100000 in
theorem b_Mth_max_0 {g : Wg} {Q : Option Vl → Mm → Prop} {x0 : Int32} {x1 : Int32} {mem : Mm} (hv :
    (x0 < x1 →
     Q (some (vI x1)) mem) ∧ (¬ x0 < x1 →
     Q (some (vI x0)) mem)) : Go g h_Mth_max Q 0 [(0, vI x0), (1, vI x1)] [] mem := Go.cutN o_Mth_max [] 7 hv
set_option maxRecDepth 100000 in
theorem b_Mth_min_0 {g : Wg} {Q : Option Vl → Mm → Prop} {x0 : Int32} {x1 : Int32} {mem : Mm} (hv :
    (x1 < x0 →
     Q (some (vI x1)) mem) ∧ (¬ x1 < x0 →
     Q (some (vI x0)) mem)) : Go g h_Mth_min Q 0 [(0, vI x0), (1, vI x1)] [] mem := Go.cutN o_Mth_min [] 7 hv
set_option maxRecDepth 100000 in
theorem b_Pd_clear_0 {g : Wg} {Q : Option Vl → Mm → Prop}  {mem : Mm} (hv :
    Q (some (vI (mem (14, 0, 0) 1))) (mset mem 14 0 0 1 0)) : Go g h_Pd_clear Q 0 [(0, vO 14 0 0)] [] mem := Go.cutN o_Pd_clear [] 9 hv
set_option maxRecDepth 100000 in
theorem b_Pd_formOf_0 {g : Wg} {Q : Option Vl → Mm → Prop} {x0 : Int32} {mem : Mm} (hv :
    (x0 = 97 →
     Q (some (vO 21 4 0)) mem) ∧ (¬ x0 = 97 →
     (x0 = 99 →
      Q (some (vO 21 0 0)) mem) ∧ (¬ x0 = 99 →
      (x0 = 115 →
       Q (some (vO 21 3 0)) mem) ∧ (¬ x0 = 115 →
       (x0 = 118 →
        Q (some (vO 21 1 0)) mem) ∧ (¬ x0 = 118 →
        (x0 = 119 →
         Q (some (vO 21 3 0)) mem) ∧ (¬ x0 = 119 →
         (x0 = 120 →
          Q (some (vO 21 2 0)) mem) ∧ (¬ x0 = 120 →
          Q (some (vO 0 0 0)) mem))))))) : Go g h_Pd_formOf Q 0 [(0, vI x0)] [] mem := Go.cutN o_Pd_formOf [] 5 hv
set_option maxRecDepth 100000 in
theorem b_Pd_keepNumber_0 {g : Wg} {Q : Option Vl → Mm → Prop} {x1 : Int32} {mem : Mm} (hv :
    ((mem (14, 0, 0) 5) < 4 →
     vp_in (mem (14, 0, 0) 5) 4 ∧
     let u1 : Mm := mset (mset mem 16 0 0 (mem (14, 0, 0) 5).toNatClampNeg x1) 14 0 0 5 (((mset mem 16 0 0 (mem (14, 0, 0) 5).toNatClampNeg x1) (14, 0, 0) 5) + 1)
     Q none u1) ∧ (¬ (mem (14, 0, 0) 5) < 4 →
     Q none mem)) : Go g h_Pd_keepNumber Q 0 [(0, vO 14 0 0), (1, vI x1)] [] mem := Go.cutN o_Pd_keepNumber [] 18 hv
set_option maxRecDepth 100000 in
theorem b_Pd_readSign_0 {g : Wg} {Q : Option Vl → Mm → Prop} {x1 : Int32} {mem : Mm} (hv :
    ((mem (14, 0, 0) 1) ≤ (mem (14, 0, 0) 2) →
     ((0 : Int32) = 0 ∨ (0 : Int32) = 1) ∧ Q (some (vI 0)) mem) ∧ (¬ (mem (14, 0, 0) 1) ≤ (mem (14, 0, 0) 2) →
     vp_in (mem (14, 0, 0) 2) 80 ∧
     ((mem (15, 0, 0) (mem (14, 0, 0) 2).toNatClampNeg) = x1 →
      ((1 : Int32) = 0 ∨ (1 : Int32) = 1) ∧ Q (some (vI 1)) (mset mem 14 0 0 2 ((mem (14, 0, 0) 2) + 1))) ∧ (¬ (mem (15, 0, 0) (mem (14, 0, 0) 2).toNatClampNeg) = x1 →
      ((0 : Int32) = 0 ∨ (0 : Int32) = 1) ∧ Q (some (vI 0)) mem))) : Go g h_Pd_readSign Q 0 [(0, vO 14 0 0), (1, vI x1)] [] mem := Go.cutN o_Pd_readSign [] 21 hv
set_option maxRecDepth 100000 in
theorem b_Pd_rewind_0 {g : Wg} {Q : Option Vl → Mm → Prop}  {mem : Mm} (hv :
    Q none (mset mem 14 0 0 2 0)) : Go g h_Pd_rewind Q 0 [(0, vO 14 0 0)] [] mem := Go.cutN o_Pd_rewind [] 5 hv
set_option maxRecDepth 100000 in
theorem b_Pre_checkIndex_0 {g : Wg} {Q : Option Vl → Mm → Prop} {x0 : Int32} {x1 : Int32} {k2 : Nat} {mem : Mm} (hv :
    (x0 < 0 →
     False) ∧ (¬ x0 < 0 →
     (x0 < x1 →
      Q (some (vI x0)) mem) ∧ (¬ x0 < x1 →
      False))) : Go g h_Pre_checkIndex Q 0 [(0, vI x0), (1, vI x1), (2, vO 25 k2 0)] [] mem := Go.cutN o_Pre_checkIndex [] 10 hv
set_option maxRecDepth 100000 in
theorem b_Rm_copyFrom_0 {g : Wg} {Q : Option Vl → Mm → Prop} {k0 : Nat} {i0 : Nat} {k1 : Nat} {i1 : Nat} {mem : Mm} (hv :
    let u1 : Mm := mset (mset mem 7 k0 i0 0 (mem (7, k1, i1) 0)) 7 k0 i0 1 ((mset mem 7 k0 i0 0 (mem (7, k1, i1) 0)) (7, k1, i1) 1)
    let u2 : Mm := mset (mset u1 7 k0 i0 2 (u1 (7, k1, i1) 2)) 7 k0 i0 3 ((mset u1 7 k0 i0 2 (u1 (7, k1, i1) 2)) (7, k1, i1) 3)
    Q none u2) : Go g h_Rm_copyFrom Q 0 [(0, vO 7 k0 i0), (1, vO 7 k1 i1)] [] mem := Go.cutN o_Rm_copyFrom [] 18 hv
set_option maxRecDepth 100000 in
theorem b_Rm_isFor_0 {g : Wg} {Q : Option Vl → Mm → Prop} {k0 : Nat} {i0 : Nat} {x1 : Int32} {mem : Mm} (hv :
    (x1 < (mem (7, k0, i0) 0) →
     ((0 : Int32) = 0 ∨ (0 : Int32) = 1) ∧ Q (some (vI 0)) mem) ∧ (¬ x1 < (mem (7, k0, i0) 0) →
     ((mem (7, k0, i0) 1) ≤ x1 →
      ((0 : Int32) = 0 ∨ (0 : Int32) = 1) ∧ Q (some (vI 0)) mem) ∧ (¬ (mem (7, k0, i0) 1) ≤ x1 →
      ((1 : Int32) = 0 ∨ (1 : Int32) = 1) ∧ Q (some (vI 1)) mem))) : Go g h_Rm_isFor Q 0 [(0, vO 7 k0 i0), (1, vI x1)] [] mem := Go.cutN o_Rm_isFor [] 12 hv
set_option maxRecDepth 100000 in
theorem b_Str_coder_0 {g : Wg} {Q : Option Vl → Mm → Prop} {k0 : Nat} {mem : Mm} (hv :
    ((1 : Int32) = 0 →
     (1 : Int32) = 0 ∧ Q (some (vI 1)) mem) ∧ (¬ (1 : Int32) = 0 →
     (0 : Int32) = 0 ∧ Q (some (vI 0)) mem)) : Go g h_Str_coder Q 0 [(0, vO 21 k0 0)] [] mem := Go.cutN o_Str_coder [] 7 hv
set_option maxRecDepth 100000 in
theorem b_Str_isLatin1_0 {g : Wg} {Q : Option Vl → Mm → Prop} {k0 : Nat} {mem : Mm} (hv :
    ((1 : Int32) = 0 →
     ((0 : Int32) = 0 ∨ (0 : Int32) = 1) ∧ Q (some (vI 0)) mem) ∧ (¬ (1 : Int32) = 0 →
     (¬ (0 : Int32) = 0 →
      ((0 : Int32) = 0 ∨ (0 : Int32) = 1) ∧ Q (some (vI 0)) mem) ∧ ((0 : Int32) = 0 →
      ((1 : Int32) = 0 ∨ (1 : Int32) = 1) ∧ Q (some (vI 1)) mem))) : Go g h_Str_isLatin1 Q 0 [(0, vO 21 k0 0)] [] mem := Go.cutN o_Str_isLatin1 [] 9 hv
set_option maxRecDepth 100000 in
theorem b_Ch_comesTo_0 {g : Wg} {Q : Option Vl → Mm → Prop} {k0 : Nat} {i0 : Nat} {x1 : Int32} {mem : Mm} (hv :
    ((mem (9, k0, i0) 6) = 0 →
     (¬ (mem (9, k0, i0) 8) = x1 →
      ((0 : Int32) = 0 ∨ (0 : Int32) = 1) ∧ Q (some (vI 0)) mem) ∧ ((mem (9, k0, i0) 8) = x1 →
      ((1 : Int32) = 0 ∨ (1 : Int32) = 1) ∧ Q (some (vI 1)) mem)) ∧ (¬ (mem (9, k0, i0) 6) = 0 →
     RunI g h_Ch_has [vO 9 k0 i0, vI x1] mem (fun r1 m1 =>
      ((r1 : Int32) = 0 ∨ (r1 : Int32) = 1) ∧ Q (some (vI r1)) m1))) : Go g h_Ch_comesTo Q 0 [(0, vO 9 k0 i0), (1, vI x1)] [] mem := Go.cutN o_Ch_comesTo [] 11 hv
set_option maxRecDepth 100000 in
theorem b_Ch_waitAgain_0 {g : Wg} {Q : Option Vl → Mm → Prop} {k0 : Nat} {i0 : Nat} {x1 : Int32} {mem : Mm} (hv :
    RunV g h_Ch_quitRoom [vO 9 k0 i0, vI 0] mem (fun m1 =>
     Q none (mset (mset m1 9 k0 i0 7 0) 9 k0 i0 12 x1))) : Go g h_Ch_waitAgain Q 0 [(0, vO 9 k0 i0), (1, vI x1)] [] mem := Go.cutN o_Ch_waitAgain [] 11 hv
set_option maxRecDepth 100000 in
theorem b_Pd_countIn_0 {g : Wg} {Q : Option Vl → Mm → Prop} {j0 : Int64} {mem : Mm} (hv :
    Go g h_Pd_countIn Q 4 [(2, vI 0), (3, vJ j0)] [] mem) : Go g h_Pd_countIn Q 0 [(0, vJ j0)] [] mem := Go.cutN o_Pd_countIn [(4, [2, 3])] 6 hv
set_option maxRecDepth 100000 in
theorem b_Pd_countIn_4 {g : Wg} {Q : Option Vl → Mm → Prop} {x2 : Int32} {j3 : Int64} {mem : Mm} (hv :
    (8 ≤ x2 →
     (¬ (lg_cmp j3 0) = 0 →
      Q (some (vI 0)) mem) ∧ ((lg_cmp j3 0) = 0 →
      Q (some (vI x2)) mem)) ∧ (¬ 8 ≤ x2 →
     ((lg_cmp (j3 &&& 255) 0) = 0 →
      (¬ (lg_cmp j3 0) = 0 →
       Q (some (vI 0)) mem) ∧ ((lg_cmp j3 0) = 0 →
       Q (some (vI x2)) mem)) ∧ (¬ (lg_cmp (j3 &&& 255) 0) = 0 →
      RunI g h_N_isWithin [vI ((j3 &&& 255).toInt32), vI 33, vI 126] mem (fun r1 m1 =>
       (¬ r1 = 0 →
        Go g h_Pd_countIn Q 4 [(2, vI (x2 + 1)), (3, vJ ((j3.toUInt64 >>> ((8 : Int32).toInt64.toUInt64 &&& Int64.toUInt64 63)).toInt64))] [] m1) ∧ (r1 = 0 →
        Q (some (vI 0)) m1))))) : Go g h_Pd_countIn Q 4 [(2, vI x2), (3, vJ j3)] [] mem := Go.cutN o_Pd_countIn [(4, [2, 3])] 25 hv
set_option maxRecDepth 100000 in
theorem b_Pd_isAtDigit_0 {g : Wg} {Q : Option Vl → Mm → Prop}  {mem : Mm} (hv :
    ((mem (14, 0, 0) 1) ≤ (mem (14, 0, 0) 2) →
     ((0 : Int32) = 0 ∨ (0 : Int32) = 1) ∧ Q (some (vI 0)) mem) ∧ (¬ (mem (14, 0, 0) 1) ≤ (mem (14, 0, 0) 2) →
     vp_in (mem (14, 0, 0) 2) 80 ∧
     RunI g h_N_isWithin [vI (mem (15, 0, 0) (mem (14, 0, 0) 2).toNatClampNeg), vI 48, vI 57] mem (fun r1 m1 =>
      (r1 = 0 →
       ((0 : Int32) = 0 ∨ (0 : Int32) = 1) ∧ Q (some (vI 0)) m1) ∧ (¬ r1 = 0 →
       ((1 : Int32) = 0 ∨ (1 : Int32) = 1) ∧ Q (some (vI 1)) m1)))) : Go g h_Pd_isAtDigit Q 0 [(0, vO 14 0 0)] [] mem := Go.cutN o_Pd_isAtDigit [] 18 hv
set_option maxRecDepth 100000 in
theorem b_Str_checkIndex_0 {g : Wg} {Q : Option Vl → Mm → Prop} {x0 : Int32} {x1 : Int32} {mem : Mm} (hv :
    RunI g h_Pre_checkIndex [vI x0, vI x1, vO 25 0 0] mem (fun r1 m1 =>
     Q none m1)) : Go g h_Str_checkIndex Q 0 [(0, vI x0), (1, vI x1)] [] mem := Go.cutN o_Str_checkIndex [] 7 hv
set_option maxRecDepth 100000 in
theorem b_Str_length_0 {g : Wg} {Q : Option Vl → Mm → Prop} {k0 : Nat} {mem : Mm} (hv :
    RunI g h_Str_coder [vO 21 k0 0] mem (fun r1 m1 =>
     Q (some (vI ((Int32.ofNat (strN k0)) >>> (r1 &&& 31)))) m1)) : Go g h_Str_length Q 0 [(0, vO 21 k0 0)] [] mem := Go.cutN o_Str_length [] 8 hv
set_option maxRecDepth 100000 in
theorem b_Ch_come_0 {g : Wg} {Q : Option Vl → Mm → Prop} {k0 : Nat} {i0 : Nat} {x1 : Int32} {x2 : Int32} {x3 : Int32} {x4 : Int32} {mem : Mm} (hv :
    let u1 : Mm := mset (mset (mset (mset (mset mem 9 k0 i0 0 x1) 9 k0 i0 1 x2) 9 k0 i0 2 x3) 9 k0 i0 9 0) 9 k0 i0 10 0
    RunV g h_Ch_waitAgain [vO 9 k0 i0, vI x4] (mset (mset u1 9 k0 i0 11 0) 9 k0 i0 13 0) (fun m2 =>
     Q none m2)) : Go g h_Ch_come Q 0 [(0, vO 9 k0 i0), (1, vI x1), (2, vI x2), (3, vI x3), (4, vI x4)] [] mem := Go.cutN o_Ch_come [] 26 hv
set_option maxRecDepth 100000 in
theorem b_Hi_note_0 {g : Wg} {Q : Option Vl → Mm → Prop} {k1 : Nat} {mem : Mm} (hv :
    (¬ 7 = (0 : Int32)) ∧
    vp_in (((mem (10, 0, 0) 1) + (mem (10, 0, 0) 2)) - ((mem (10, 0, 0) 1) + (mem (10, 0, 0) 2)) / 7 * 7) 7 ∧
    RunV g h_St_copyFrom [vO 2 (2 + (((mem (10, 0, 0) 1) + (mem (10, 0, 0) 2)) - ((mem (10, 0, 0) 1) + (mem (10, 0, 0) 2)) / 7 * 7).toNatClampNeg) 0, vO 2 k1 0] mem (fun m1 =>
     Q none m1)) : Go g h_Hi_note Q 0 [(0, vO 10 0 0), (1, vO 2 k1 0)] [] mem := Go.cutN o_Hi_note [] 14 hv
set_option maxRecDepth 100000 in
theorem b_Hi_takeBack_0 {g : Wg} {Q : Option Vl → Mm → Prop} {k1 : Nat} {mem : Mm} (hv :
    (¬ (mem (10, 0, 0) 2) = 0 →
     (¬ 7 = (0 : Int32)) ∧
     vp_in ((((mset mem 10 0 0 2 ((mem (10, 0, 0) 2) - 1)) (10, 0, 0) 1) + ((mset mem 10 0 0 2 ((mem (10, 0, 0) 2) - 1)) (10, 0, 0) 2)) - (((mset mem 10 0 0 2 ((mem (10, 0, 0) 2) - 1)) (10, 0, 0) 1) + ((mset mem 10 0 0 2 ((mem (10, 0, 0) 2) - 1)) (10, 0, 0) 2)) / 7 * 7) 7 ∧
     RunV g h_St_copyFrom [vO 2 k1 0, vO 2 (2 + ((((mset mem 10 0 0 2 ((mem (10, 0, 0) 2) - 1)) (10, 0, 0) 1) + ((mset mem 10 0 0 2 ((mem (10, 0, 0) 2) - 1)) (10, 0, 0) 2)) - (((mset mem 10 0 0 2 ((mem (10, 0, 0) 2) - 1)) (10, 0, 0) 1) + ((mset mem 10 0 0 2 ((mem (10, 0, 0) 2) - 1)) (10, 0, 0) 2)) / 7 * 7).toNatClampNeg) 0] (mset mem 10 0 0 2 ((mem (10, 0, 0) 2) - 1)) (fun m1 =>
      Q (some (vI (m1 (10, 0, 0) 2))) m1)) ∧ ((mem (10, 0, 0) 2) = 0 →
     Q (some (vI ((-5)))) mem)) : Go g h_Hi_takeBack Q 0 [(0, vO 10 0 0), (1, vO 2 k1 0)] [] mem := Go.cutN o_Hi_takeBack [] 25 hv
set_option maxRecDepth 100000 in
theorem b_Pd_append_0 {g : Wg} {Q : Option Vl → Mm → Prop} {j1 : Int64} {mem : Mm} (hv :
    RunI g h_Pd_countIn [vJ j1] mem (fun r1 m1 =>
     (¬ r1 = 0 →
      (((m1 (14, 0, 0) 1) + r1) ≤ 80 →
       Go g h_Pd_append Q 31 [(0, vO 14 0 0), (1, vJ j1), (4, vI (r1 - 1))] [] m1) ∧ (¬ ((m1 (14, 0, 0) 1) + r1) ≤ 80 →
       Q (some (vI ((-4)))) m1)) ∧ (r1 = 0 →
      Q (some (vI ((-2)))) m1))) : Go g h_Pd_append Q 0 [(0, vO 14 0 0), (1, vJ j1)] [] mem := Go.cutN o_Pd_append [(31, [0, 1, 4])] 17 hv
set_option maxRecDepth 100000 in
theorem b_Pd_append_31 {g : Wg} {Q : Option Vl → Mm → Prop} {j1 : Int64} {x4 : Int32} {mem : Mm} (hv :
    (x4 < 0 →
     Q (some (vI (mem (14, 0, 0) 1))) mem) ∧ (¬ x4 < 0 →
     vp_in (mem (14, 0, 0) 1) 80 ∧
     let u1 : Mm := mset mem 15 0 0 (mem (14, 0, 0) 1).toNatClampNeg (vp_nar .char ((((((j1.toUInt64 >>> ((8 * x4).toInt64.toUInt64 &&& Int64.toUInt64 63)).toInt64) &&& 255).toInt32).toUInt32 % 65536).toInt32))
     Go g h_Pd_append Q 31 [(0, vO 14 0 0), (1, vJ j1), (4, vI (x4 + (-1)))] [] (mset u1 14 0 0 1 ((u1 (14, 0, 0) 1) + 1)))) : Go g h_Pd_append Q 31 [(0, vO 14 0 0), (1, vJ j1), (4, vI x4)] [] mem := Go.cutN o_Pd_append [(31, [0, 1, 4])] 26 hv
set_option maxRecDepth 100000 in
theorem b_Pd_readDigit_0 {g : Wg} {Q : Option Vl → Mm → Prop}  {mem : Mm} (hv :
    RunI g h_Pd_isAtDigit [vO 14 0 0] mem (fun r1 m1 =>
     (¬ r1 = 0 →
      vp_in (m1 (14, 0, 0) 2) 80 ∧
      RunV g h_Pd_keepNumber [vO 14 0 0, vI ((m1 (15, 0, 0) (m1 (14, 0, 0) 2).toNatClampNeg) - 48)] m1 (fun m2 =>
       ((1 : Int32) = 0 ∨ (1 : Int32) = 1) ∧ Q (some (vI 1)) (mset m2 14 0 0 2 ((m2 (14, 0, 0) 2) + 1)))) ∧ (r1 = 0 →
      ((0 : Int32) = 0 ∨ (0 : Int32) = 1) ∧ Q (some (vI 0)) m1))) : Go g h_Pd_readDigit Q 0 [(0, vO 14 0 0)] [] mem := Go.cutN o_Pd_readDigit [] 21 hv
set_option maxRecDepth 100000 in
theorem b_Pd_readNumber_0 {g : Wg} {Q : Option Vl → Mm → Prop}  {mem : Mm} (hv :
    RunI g h_Pd_isAtDigit [vO 14 0 0] mem (fun r1 m1 =>
     (¬ r1 = 0 →
      vp_in (m1 (14, 0, 0) 2) 80 ∧
      Go g h_Pd_readNumber Q 32 [(0, vO 14 0 0), (1, vI ((m1 (15, 0, 0) (m1 (14, 0, 0) 2).toNatClampNeg) - 48))] [] (mset m1 14 0 0 2 ((m1 (14, 0, 0) 2) + 1))) ∧ (r1 = 0 →
      ((0 : Int32) = 0 ∨ (0 : Int32) = 1) ∧ Q (some (vI 0)) m1))) : Go g h_Pd_readNumber Q 0 [(0, vO 14 0 0)] [] mem := Go.cutN o_Pd_readNumber [(32, [0, 1])] 19 hv
set_option maxRecDepth 100000 in
theorem b_Pd_readNumber_32 {g : Wg} {Q : Option Vl → Mm → Prop} {x1 : Int32} {mem : Mm} (hv :
    ((mem (14, 0, 0) 1) ≤ (mem (14, 0, 0) 2) →
     RunV g h_Pd_keepNumber [vO 14 0 0, vI x1] mem (fun m1 =>
      ((1 : Int32) = 0 ∨ (1 : Int32) = 1) ∧ Q (some (vI 1)) m1)) ∧ (¬ (mem (14, 0, 0) 1) ≤ (mem (14, 0, 0) 2) →
     RunI g h_Pd_isAtDigit [vO 14 0 0] mem (fun r2 m2 =>
      (r2 = 0 →
       RunV g h_Pd_keepNumber [vO 14 0 0, vI x1] m2 (fun m3 =>
        ((1 : Int32) = 0 ∨ (1 : Int32) = 1) ∧ Q (some (vI 1)) m3)) ∧ (¬ r2 = 0 →
       vp_in (m2 (14, 0, 0) 2) 80 ∧
       (x1 = 0 →
        ((0 : Int32) = 0 ∨ (0 : Int32) = 1) ∧ Q (some (vI 0)) m2) ∧ (¬ x1 = 0 →
        ((((x1 * 10) + (m2 (15, 0, 0) (m2 (14, 0, 0) 2).toNatClampNeg)) - 48) ≤ 1023 →
         Go g h_Pd_readNumber Q 32 [(0, vO 14 0 0), (1, vI (((x1 * 10) + (m2 (15, 0, 0) (m2 (14, 0, 0) 2).toNatClampNeg)) - 48))] [] (mset m2 14 0 0 2 ((m2 (14, 0, 0) 2) + 1))) ∧ (¬ (((x1 * 10) + (m2 (15, 0, 0) (m2 (14, 0, 0) 2).toNatClampNeg)) - 48) ≤ 1023 →
         ((0 : Int32) = 0 ∨ (0 : Int32) = 1) ∧ Q (some (vI 0)) m2)))))) : Go g h_Pd_readNumber Q 32 [(0, vO 14 0 0), (1, vI x1)] [] mem := Go.cutN o_Pd_readNumber [(32, [0, 1])] 36 hv
set_option maxRecDepth 100000 in
theorem b_Sl_charAt_0 {g : Wg} {Q : Option Vl → Mm → Prop} {k0 : Nat} {x1 : Int32} {mem : Mm} (hv :
    RunV g h_Str_checkIndex [vI x1, vI (Int32.ofNat (strN k0))] mem (fun m1 =>
     vp_in x1 (strN k0) ∧
     ((0 : Int32) ≤ (((((strB k0).getD x1.toNatClampNeg 0) &&& 255).toUInt32 % 65536).toInt32) ∧ ((((((strB k0).getD x1.toNatClampNeg 0) &&& 255).toUInt32 % 65536).toInt32) : Int32) ≤ 65535) ∧ Q (some (vI (((((strB k0).getD x1.toNatClampNeg 0) &&& 255).toUInt32 % 65536).toInt32))) m1)) : Go g h_Sl_charAt Q 0 [(0, vO 23 k0 0), (1, vI x1)] [] mem := Go.cutN o_Sl_charAt [] 12 hv
set_option maxRecDepth 100000 in
theorem b_Pd_readPart_0 {g : Wg} {Q : Option Vl → Mm → Prop} {x1 : Int32} {mem : Mm} (hv :
    (¬ x1 = 78 →
     (¬ x1 = 68 →
      RunI g h_Pd_readSign [vO 14 0 0, vI x1] mem (fun r1 m1 =>
       ((r1 : Int32) = 0 ∨ (r1 : Int32) = 1) ∧ Q (some (vI r1)) m1)) ∧ (x1 = 68 →
      RunI g h_Pd_readDigit [vO 14 0 0] mem (fun r2 m2 =>
       ((r2 : Int32) = 0 ∨ (r2 : Int32) = 1) ∧ Q (some (vI r2)) m2))) ∧ (x1 = 78 →
     RunI g h_Pd_readNumber [vO 14 0 0] mem (fun r3 m3 =>
      ((r3 : Int32) = 0 ∨ (r3 : Int32) = 1) ∧ Q (some (vI r3)) m3))) : Go g h_Pd_readPart Q 0 [(0, vO 14 0 0), (1, vI x1)] [] mem := Go.cutN o_Pd_readPart [] 11 hv
set_option maxRecDepth 100000 in
theorem b_Str_charAt_0 {g : Wg} {Q : Option Vl → Mm → Prop} {k0 : Nat} {x1 : Int32} {mem : Mm} (hv :
    RunI g h_Str_isLatin1 [vO 21 k0 0] mem (fun r1 m1 =>
     (r1 = 0 →
      False) ∧ (¬ r1 = 0 →
      RunI g h_Sl_charAt [vO 23 k0 0, vI x1] m1 (fun r2 m2 =>
       ((0 : Int32) ≤ r2 ∧ (r2 : Int32) ≤ 65535) ∧ Q (some (vI r2)) m2)))) : Go g h_Str_charAt Q 0 [(0, vO 21 k0 0), (1, vI x1)] [] mem := Go.cutN o_Str_charAt [] 9 hv
set_option maxRecDepth 100000 in
theorem b_Pd_readOrder_0 {g : Wg} {Q : Option Vl → Mm → Prop}  {mem : Mm} (hv :
    ((mem (14, 0, 0) 2) < (mem (14, 0, 0) 1) →
     vp_in (mem (14, 0, 0) 2) 80 ∧
     ((0 : Int32) ≤ (mem (15, 0, 0) (mem (14, 0, 0) 2).toNatClampNeg) ∧ ((mem (15, 0, 0) (mem (14, 0, 0) 2).toNatClampNeg) : Int32) ≤ 65535) ∧
     RunO g h_Pd_formOf [vI ((mset mem 14 0 0 3 (mem (15, 0, 0) (mem (14, 0, 0) 2).toNatClampNeg)) (14, 0, 0) 3)] (mset mem 14 0 0 3 (mem (15, 0, 0) (mem (14, 0, 0) 2).toNatClampNeg)) (fun t1 k1 i1 m1 =>
      Go g h_Pd_readOrder Q 33 [(0, vO 14 0 0)] [vO t1 k1 i1] m1)) ∧ (¬ (mem (14, 0, 0) 2) < (mem (14, 0, 0) 1) →
     ((0 : Int32) = 0 ∨ (0 : Int32) = 1) ∧ Q (some (vI 0)) mem)) : Go g h_Pd_readOrder Q 0 [(0, vO 14 0 0)] [] mem := Go.cutN o_Pd_readOrder [(33, [0]), (40, [0, 1]), (57, [0, 1, 2])] 16 hv
set_option maxRecDepth 100000 in
theorem b_Pd_readOrder_33 {g : Wg} {Q : Option Vl → Mm → Prop} {ks0 : Nat} {mem : Mm} (hv :
    Go g h_Pd_readOrder Q 40 [(0, vO 14 0 0), (1, vO 21 ks0 0)] [] mem) : Go g h_Pd_readOrder Q 33 [(0, vO 14 0 0)] [vO 21 ks0 0] mem := Go.cutN o_Pd_readOrder [(33, [0]), (40, [0, 1]), (57, [0, 1, 2])] 5 hv
set_option maxRecDepth 100000 in
theorem b_Pd_readOrder_40 {g : Wg} {Q : Option Vl → Mm → Prop} {k1 : Nat} {mem : Mm} (hv :
    Go g h_Pd_readOrder Q 57 [(0, vO 14 0 0), (1, vO 21 k1 0), (2, vI 0)] [] (mset (mset mem 14 0 0 2 ((mem (14, 0, 0) 2) + 1)) 14 0 0 5 0)) : Go g h_Pd_readOrder Q 40 [(0, vO 14 0 0), (1, vO 21 k1 0)] [] mem := Go.cutN o_Pd_readOrder [(33, [0]), (40, [0, 1]), (57, [0, 1, 2])] 13 hv
set_option maxRecDepth 100000 in
theorem b_Pd_readOrder_57 {g : Wg} {Q : Option Vl → Mm → Prop} {k1 : Nat} {x2 : Int32} {mem : Mm} (hv :
    RunI g h_Str_length [vO 21 k1 0] mem (fun r1 m1 =>
     (r1 ≤ x2 →
      ((1 : Int32) = 0 ∨ (1 : Int32) = 1) ∧ Q (some (vI 1)) m1) ∧ (¬ r1 ≤ x2 →
      RunI g h_Str_charAt [vO 21 k1 0, vI x2] m1 (fun r2 m2 =>
       RunI g h_Pd_readPart [vO 14 0 0, vI r2] m2 (fun r3 m3 =>
        (¬ r3 = 0 →
         Go g h_Pd_readOrder Q 57 [(0, vO 14 0 0), (1, vO 21 k1 0), (2, vI (x2 + 1))] [] m3) ∧ (r3 = 0 →
         ((0 : Int32) = 0 ∨ (0 : Int32) = 1) ∧ Q (some (vI 0)) m3)))))) : Go g h_Pd_readOrder Q 57 [(0, vO 14 0 0), (1, vO 21 k1 0), (2, vI x2)] [] mem := Go.cutN o_Pd_readOrder [(33, [0]), (40, [0, 1]), (57, [0, 1, 2])] 14 hv
set_option maxRecDepth 100000 in
theorem b_Pd_readOrder_33n {g : Wg} {Q : Option Vl → Mm → Prop} {mem : Mm} (hv :
    ((0 : Int32) = 0 ∨ (0 : Int32) = 1) ∧ Q (some (vI 0)) mem) : Go g h_Pd_readOrder Q 33 [(0, vO 14 0 0)] [vO 0 0 0] mem := Go.cutN o_Pd_readOrder [(33, [0]), (40, [0, 1]), (57, [0, 1, 2])] 6 hv
set_option maxRecDepth 100000 in
theorem b_Pd_findFault_0 {g : Wg} {Q : Option Vl → Mm → Prop}  {mem : Mm} (hv :
    RunV g h_Pd_rewind [vO 14 0 0] mem (fun m1 =>
     Go g h_Pd_findFault Q 6 [(0, vO 14 0 0), (1, vI 0)] [] m1)) : Go g h_Pd_findFault Q 0 [(0, vO 14 0 0)] [] mem := Go.cutN o_Pd_findFault [(6, [0, 1])] 6 hv
set_option maxRecDepth 100000 in
theorem b_Pd_findFault_6 {g : Wg} {Q : Option Vl → Mm → Prop} {x1 : Int32} {mem : Mm} (hv :
    (80 ≤ x1 →
     Q (some (vI (mem (14, 0, 0) 2))) mem) ∧ (¬ 80 ≤ x1 →
     RunI g h_Pd_readOrder [vO 14 0 0] mem (fun r1 m1 =>
      (¬ r1 = 0 →
       (¬ (m1 (14, 0, 0) 2) = (m1 (14, 0, 0) 1) →
        RunI g h_Pd_readSign [vO 14 0 0, vI 59] m1 (fun r2 m2 =>
         (¬ r2 = 0 →
          Go g h_Pd_findFault Q 6 [(0, vO 14 0 0), (1, vI (x1 + 1))] [] m2) ∧ (r2 = 0 →
          Q (some (vI (m2 (14, 0, 0) 2))) m2))) ∧ ((m1 (14, 0, 0) 2) = (m1 (14, 0, 0) 1) →
        Q (some (vI ((-6)))) m1)) ∧ (r1 = 0 →
       Q (some (vI (m1 (14, 0, 0) 2))) m1)))) : Go g h_Pd_findFault Q 6 [(0, vO 14 0 0), (1, vI x1)] [] mem := Go.cutN o_Pd_findFault [(6, [0, 1])] 19 hv
set_option maxRecDepth 100000 in
theorem b_Pd_readNextOrder_0 {g : Wg} {Q : Option Vl → Mm → Prop}  {mem : Mm} (hv :
    ((mem (14, 0, 0) 2) ≤ 0 →
     RunI g h_Pd_readOrder [vO 14 0 0] mem (fun r1 m1 =>
      ((r1 : Int32) = 0 ∨ (r1 : Int32) = 1) ∧ Q (some (vI r1)) m1)) ∧ (¬ (mem (14, 0, 0) 2) ≤ 0 →
     RunI g h_Pd_readSign [vO 14 0 0, vI 59] mem (fun r2 m2 =>
      (¬ r2 = 0 →
       RunI g h_Pd_readOrder [vO 14 0 0] m2 (fun r3 m3 =>
        ((r3 : Int32) = 0 ∨ (r3 : Int32) = 1) ∧ Q (some (vI r3)) m3)) ∧ (r2 = 0 →
       ((0 : Int32) = 0 ∨ (0 : Int32) = 1) ∧ Q (some (vI 0)) m2)))) : Go g h_Pd_readNextOrder Q 0 [(0, vO 14 0 0)] [] mem := Go.cutN o_Pd_readNextOrder [] 11 hv
