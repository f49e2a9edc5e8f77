/-! WHAT THE SMALL MACHINE ASKS between cuts (laid by a program; each row is its own evaluation) -/
set_option maxRecDepth 100000 in
theorem b_Md_bringBack_0 {g : Wg} {Q : Option Vl → Mm → Prop}  {mem : Mm} (hv :
    Go g h_Md_bringBack Q 2 [(0, vO 17 0 0), (1, vI 0)] [] mem) : Go g h_Md_bringBack Q 0 [(0, vO 17 0 0)] [] mem := Go.cutN o_Md_bringBack [(2, [0, 1])] 4 hv
set_option maxRecDepth 100000 in
theorem b_Md_bringBack_2 {g : Wg} {Q : Option Vl → Mm → Prop} {x1 : Int32} {mem : Mm} (hv :
    (429 ≤ x1 →
     Q none mem) ∧ (¬ 429 ≤ x1 →
     vp_in x1 429 ∧
     vp_in x1 429 ∧
     Go g h_Md_bringBack Q 2 [(0, vO 17 0 0), (1, vI (x1 + 1))] [] (mset mem 18 0 0 x1.toNatClampNeg (mem (18, 1, 0) x1.toNatClampNeg)))) : Go g h_Md_bringBack Q 2 [(0, vO 17 0 0), (1, vI x1)] [] mem := Go.cutN o_Md_bringBack [(2, [0, 1])] 15 hv
set_option maxRecDepth 100000 in
theorem b_Md_has_0 {g : Wg} {Q : Option Vl → Mm → Prop} {x0 : Int32} {x1 : Int32} {mem : Mm} (hv :
    (¬ ((x0 >>> (x1 &&& 31)) &&& 1) = 1 →
     ((0 : Int32) = 0 ∨ (0 : Int32) = 1) ∧ Q (some (vI 0)) mem) ∧ (((x0 >>> (x1 &&& 31)) &&& 1) = 1 →
     ((1 : Int32) = 0 ∨ (1 : Int32) = 1) ∧ Q (some (vI 1)) mem)) : Go g h_Md_has Q 0 [(0, vI x0), (1, vI x1)] [] mem := Go.cutN o_Md_has [] 11 hv
set_option maxRecDepth 100000 in
theorem b_Md_hires_0 {g : Wg} {Q : Option Vl → Mm → Prop} {x1 : Int32} {x2 : Int32} {x3 : Int32} {x4 : Int32} {mem : Mm} (hv :
    vp_in 7 429 ∧
    vp_in (33 + (5 * (mem (18, 0, 0) 7))) 429 ∧
    vp_in ((33 + (5 * (mem (18, 0, 0) 7))) + 1) 429 ∧
    let u1 : Mm := mset (mset mem 18 0 0 (33 + (5 * (mem (18, 0, 0) 7))).toNatClampNeg x1) 18 0 0 ((33 + (5 * (mem (18, 0, 0) 7))) + 1).toNatClampNeg x2
    vp_in ((33 + (5 * (mem (18, 0, 0) 7))) + 2) 429 ∧
    vp_in ((33 + (5 * (mem (18, 0, 0) 7))) + 3) 429 ∧
    let u2 : Mm := mset (mset u1 18 0 0 ((33 + (5 * (mem (18, 0, 0) 7))) + 2).toNatClampNeg x3) 18 0 0 ((33 + (5 * (mem (18, 0, 0) 7))) + 3).toNatClampNeg x4
    vp_in ((33 + (5 * (mem (18, 0, 0) 7))) + 4) 429 ∧
    vp_in 7 429 ∧
    vp_in 7 429 ∧
    let u3 : Mm := mset (mset u2 18 0 0 ((33 + (5 * (mem (18, 0, 0) 7))) + 4).toNatClampNeg 0) 18 0 0 7 (((mset u2 18 0 0 ((33 + (5 * (mem (18, 0, 0) 7))) + 4).toNatClampNeg 0) (18, 0, 0) 7) + 1)
    Q none u3) : Go g h_Md_hires Q 0 [(0, vO 17 0 0), (1, vI x1), (2, vI x2), (3, vI x3), (4, vI x4)] [] mem := Go.cutN o_Md_hires [] 52 hv
set_option maxRecDepth 100000 in
theorem b_Md_in_0 {g : Wg} {Q : Option Vl → Mm → Prop} {x0 : Int32} {x1 : Int32} {x2 : Int32} {mem : Mm} (hv :
    (x0 < x1 →
     ((0 : Int32) = 0 ∨ (0 : Int32) = 1) ∧ Q (some (vI 0)) mem) ∧ (¬ x0 < x1 →
     (x2 < x0 →
      ((0 : Int32) = 0 ∨ (0 : Int32) = 1) ∧ Q (some (vI 0)) mem) ∧ (¬ x2 < x0 →
      ((1 : Int32) = 0 ∨ (1 : Int32) = 1) ∧ Q (some (vI 1)) mem))) : Go g h_Md_in Q 0 [(0, vI x0), (1, vI x1), (2, vI x2)] [] mem := Go.cutN o_Md_in [] 10 hv
set_option maxRecDepth 100000 in
theorem b_Md_keep_0 {g : Wg} {Q : Option Vl → Mm → Prop}  {mem : Mm} (hv :
    Go g h_Md_keep Q 2 [(0, vO 17 0 0), (1, vI 0)] [] mem) : Go g h_Md_keep Q 0 [(0, vO 17 0 0)] [] mem := Go.cutN o_Md_keep [(2, [0, 1])] 4 hv
set_option maxRecDepth 100000 in
theorem b_Md_keep_2 {g : Wg} {Q : Option Vl → Mm → Prop} {x1 : Int32} {mem : Mm} (hv :
    (429 ≤ x1 →
     Q none mem) ∧ (¬ 429 ≤ x1 →
     vp_in x1 429 ∧
     vp_in x1 429 ∧
     Go g h_Md_keep Q 2 [(0, vO 17 0 0), (1, vI (x1 + 1))] [] (mset mem 18 1 0 x1.toNatClampNeg (mem (18, 0, 0) x1.toNatClampNeg)))) : Go g h_Md_keep Q 2 [(0, vO 17 0 0), (1, vI x1)] [] mem := Go.cutN o_Md_keep [(2, [0, 1])] 15 hv
set_option maxRecDepth 100000 in
theorem b_Md_of_0 {g : Wg} {Q : Option Vl → Mm → Prop} {x1 : Int32} {x2 : Int32} {mem : Mm} (hv :
    vp_in ((93 + (14 * x1)) + x2) 429 ∧
    Q (some (vI (mem (18, 0, 0) ((93 + (14 * x1)) + x2).toNatClampNeg))) mem) : Go g h_Md_of Q 0 [(0, vO 17 0 0), (1, vI x1), (2, vI x2)] [] mem := Go.cutN o_Md_of [] 12 hv
set_option maxRecDepth 100000 in
theorem b_Md_ones_0 {g : Wg} {Q : Option Vl → Mm → Prop} {x0 : Int32} {mem : Mm} (hv :
    Go g h_Md_ones Q 4 [(1, vI 0), (2, vI x0)] [] mem) : Go g h_Md_ones Q 0 [(0, vI x0)] [] mem := Go.cutN o_Md_ones [(4, [1, 2])] 6 hv
set_option maxRecDepth 100000 in
theorem b_Md_ones_4 {g : Wg} {Q : Option Vl → Mm → Prop} {x1 : Int32} {x2 : Int32} {mem : Mm} (hv :
    (x2 = 0 →
     Q (some (vI x1)) mem) ∧ (¬ x2 = 0 →
     Go g h_Md_ones Q 4 [(1, vI (x1 + 1)), (2, vI (x2 &&& (x2 - 1)))] [] mem)) : Go g h_Md_ones Q 4 [(1, vI x1), (2, vI x2)] [] mem := Go.cutN o_Md_ones [(4, [1, 2])] 12 hv
set_option maxRecDepth 100000 in
theorem b_Md_put3_0 {g : Wg} {Q : Option Vl → Mm → Prop} {x1 : Int32} {x2 : Int32} {x3 : Int32} {mem : Mm} (hv :
    vp_in ((93 + (14 * x1)) + x2) 429 ∧
    Q none (mset mem 18 0 0 ((93 + (14 * x1)) + x2).toNatClampNeg x3)) : Go g h_Md_put3 Q 0 [(0, vO 17 0 0), (1, vI x1), (2, vI x2), (3, vI x3)] [] mem := Go.cutN o_Md_put3 [] 13 hv
set_option maxRecDepth 100000 in
theorem b_Md_record_0 {g : Wg} {Q : Option Vl → Mm → Prop}  {mem : Mm} (hv :
    ((mem (17, 0, 0) 4) = 0 →
     (¬ (mem (17, 0, 0) 3) = 6 →
      Go g h_Md_record Q 60 [(0, vO 17 0 0), (1, vI 0)] [] mem) ∧ ((mem (17, 0, 0) 3) = 6 →
      Go g h_Md_record Q 19 [(0, vO 17 0 0), (1, vI 0)] [] mem)) ∧ (¬ (mem (17, 0, 0) 4) = 0 →
     Q none mem)) : Go g h_Md_record Q 0 [(0, vO 17 0 0)] [] mem := Go.cutN o_Md_record [(19, [0, 1]), (60, [0, 1])] 11 hv
set_option maxRecDepth 100000 in
theorem b_Md_record_19 {g : Wg} {Q : Option Vl → Mm → Prop} {x1 : Int32} {mem : Mm} (hv :
    (2145 ≤ x1 →
     Go g h_Md_record Q 60 [(0, vO 17 0 0), (1, vI 0)] [] (mset mem 17 0 0 3 ((mem (17, 0, 0) 3) - 1))) ∧ (¬ 2145 ≤ x1 →
     vp_in (x1 + 429) 2574 ∧
     vp_in x1 2574 ∧
     Go g h_Md_record Q 19 [(0, vO 17 0 0), (1, vI (x1 + 1))] [] (mset mem 18 2 0 x1.toNatClampNeg (mem (18, 2, 0) (x1 + 429).toNatClampNeg)))) : Go g h_Md_record Q 19 [(0, vO 17 0 0), (1, vI x1)] [] mem := Go.cutN o_Md_record [(19, [0, 1]), (60, [0, 1])] 17 hv
set_option maxRecDepth 100000 in
theorem b_Md_record_60 {g : Wg} {Q : Option Vl → Mm → Prop} {x1 : Int32} {mem : Mm} (hv :
    (429 ≤ x1 →
     Q none (mset mem 17 0 0 3 ((mem (17, 0, 0) 3) + 1))) ∧ (¬ 429 ≤ x1 →
     vp_in x1 429 ∧
     vp_in ((429 * (mem (17, 0, 0) 3)) + x1) 2574 ∧
     Go g h_Md_record Q 60 [(0, vO 17 0 0), (1, vI (x1 + 1))] [] (mset mem 18 2 0 ((429 * (mem (17, 0, 0) 3)) + x1).toNatClampNeg (mem (18, 0, 0) x1.toNatClampNeg)))) : Go g h_Md_record Q 60 [(0, vO 17 0 0), (1, vI x1)] [] mem := Go.cutN o_Md_record [(19, [0, 1]), (60, [0, 1])] 20 hv
set_option maxRecDepth 100000 in
theorem b_Md_sign_0 {g : Wg} {Q : Option Vl → Mm → Prop} {x1 : Int32} {mem : Mm} (hv :
    ((mem (17, 0, 0) 8) ≤ (mem (17, 0, 0) 12) →
     ((0 : Int32) = 0 →
      ((0 : Int32) = 0 ∨ (0 : Int32) = 1) ∧ Q (some (vI 0)) (mset mem 17 0 0 12 ((mem (17, 0, 0) 12) + 0))) ∧ (¬ (0 : Int32) = 0 →
      ((0 : Int32) = 0 ∨ (0 : Int32) = 1) ∧ Q (some (vI 0)) (mset mem 17 0 0 12 ((mem (17, 0, 0) 12) + 1)))) ∧ (¬ (mem (17, 0, 0) 8) ≤ (mem (17, 0, 0) 12) →
     vp_in (mem (17, 0, 0) 12) 80 ∧
     (¬ (mem (18, 4, 0) (mem (17, 0, 0) 12).toNatClampNeg) = x1 →
      ((0 : Int32) = 0 →
       ((0 : Int32) = 0 ∨ (0 : Int32) = 1) ∧ Q (some (vI 0)) (mset mem 17 0 0 12 ((mem (17, 0, 0) 12) + 0))) ∧ (¬ (0 : Int32) = 0 →
       ((0 : Int32) = 0 ∨ (0 : Int32) = 1) ∧ Q (some (vI 0)) (mset mem 17 0 0 12 ((mem (17, 0, 0) 12) + 1)))) ∧ ((mem (18, 4, 0) (mem (17, 0, 0) 12).toNatClampNeg) = x1 →
      ((1 : Int32) = 0 →
       ((1 : Int32) = 0 ∨ (1 : Int32) = 1) ∧ Q (some (vI 1)) (mset mem 17 0 0 12 ((mem (17, 0, 0) 12) + 0))) ∧ (¬ (1 : Int32) = 0 →
       ((1 : Int32) = 0 ∨ (1 : Int32) = 1) ∧ Q (some (vI 1)) (mset mem 17 0 0 12 ((mem (17, 0, 0) 12) + 1)))))) : Go g h_Md_sign Q 0 [(0, vO 17 0 0), (1, vI x1)] [] mem := Go.cutN o_Md_sign [] 27 hv
set_option maxRecDepth 100000 in
theorem b_Md_undo_0 {g : Wg} {Q : Option Vl → Mm → Prop}  {mem : Mm} (hv :
    (¬ (mem (17, 0, 0) 3) = 0 →
     Go g h_Md_undo Q 22 [(0, vO 17 0 0), (1, vI 0)] [] (mset mem 17 0 0 3 ((mem (17, 0, 0) 3) - 1))) ∧ ((mem (17, 0, 0) 3) = 0 →
     Q (some (vI ((-5)))) mem)) : Go g h_Md_undo Q 0 [(0, vO 17 0 0)] [] mem := Go.cutN o_Md_undo [(22, [0, 1])] 13 hv
set_option maxRecDepth 100000 in
theorem b_Md_undo_22 {g : Wg} {Q : Option Vl → Mm → Prop} {x1 : Int32} {mem : Mm} (hv :
    (429 ≤ x1 →
     Q (some (vI (mem (17, 0, 0) 3))) mem) ∧ (¬ 429 ≤ x1 →
     vp_in ((429 * (mem (17, 0, 0) 3)) + x1) 2574 ∧
     vp_in x1 429 ∧
     Go g h_Md_undo Q 22 [(0, vO 17 0 0), (1, vI (x1 + 1))] [] (mset mem 18 0 0 x1.toNatClampNeg (mem (18, 2, 0) ((429 * (mem (17, 0, 0) 3)) + x1).toNatClampNeg)))) : Go g h_Md_undo Q 22 [(0, vO 17 0 0), (1, vI x1)] [] mem := Go.cutN o_Md_undo [(22, [0, 1])] 20 hv
set_option maxRecDepth 100000 in
theorem b_Md_wipe_0 {g : Wg} {Q : Option Vl → Mm → Prop}  {mem : Mm} (hv :
    Q (some (vI (mem (17, 0, 0) 8))) (mset mem 17 0 0 8 0)) : Go g h_Md_wipe Q 0 [(0, vO 17 0 0)] [] mem := Go.cutN o_Md_wipe [] 9 hv
set_option maxRecDepth 100000 in
theorem b_Md_becomes_0 {g : Wg} {Q : Option Vl → Mm → Prop} {x1 : Int32} {x2 : Int32} {mem : Mm} (hv :
    RunV g h_Md_put3 [vO 17 0 0, vI x1, vI 3, vI x2] mem (fun m1 =>
     RunV g h_Md_put3 [vO 17 0 0, vI x1, vI 5, vI 0] m1 (fun m2 =>
      RunV g h_Md_put3 [vO 17 0 0, vI x1, vI 6, vI 0] m2 (fun m3 =>
       RunV g h_Md_put3 [vO 17 0 0, vI x1, vI 8, vI ((-6))] m3 (fun m4 =>
        Q none m4))))) : Go g h_Md_becomes Q 0 [(0, vO 17 0 0), (1, vI x1), (2, vI x2)] [] mem := Go.cutN o_Md_becomes [] 22 hv
set_option maxRecDepth 100000 in
theorem b_Md_carersAt_0 {g : Wg} {Q : Option Vl → Mm → Prop} {x1 : Int32} {x2 : Int32} {x3 : Int32} {x4 : Int32} {mem : Mm} (hv :
    Go g h_Md_carersAt Q 6 [(0, vO 17 0 0), (1, vI x1), (2, vI x2), (3, vI x3), (4, vI x4), (5, vI 0), (6, vI 0)] [] mem) : Go g h_Md_carersAt Q 0 [(0, vO 17 0 0), (1, vI x1), (2, vI x2), (3, vI x3), (4, vI x4)] [] mem := Go.cutN o_Md_carersAt [(6, [0, 1, 2, 3, 4, 5, 6])] 6 hv
set_option maxRecDepth 100000 in
theorem b_Md_carersAt_6 {g : Wg} {Q : Option Vl → Mm → Prop} {x1 : Int32} {x2 : Int32} {x3 : Int32} {x4 : Int32} {x5 : Int32} {x6 : Int32} {mem : Mm} (hv :
    vp_in 7 429 ∧
    ((mem (18, 0, 0) 7) ≤ x6 →
     Q (some (vI x5)) mem) ∧ (¬ (mem (18, 0, 0) 7) ≤ x6 →
     vp_in (33 + (5 * x6)) 429 ∧
     (¬ (mem (18, 0, 0) (33 + (5 * x6)).toNatClampNeg) = x1 →
      ((0 : Int32) = 0 →
       Go g h_Md_carersAt Q 6 [(0, vO 17 0 0), (1, vI x1), (2, vI x2), (3, vI x3), (4, vI x4), (5, vI (x5 + 0)), (6, vI (x6 + 1))] [] mem) ∧ (¬ (0 : Int32) = 0 →
       (¬ x4 = 0 →
        Go g h_Md_carersAt Q 6 [(0, vO 17 0 0), (1, vI x1), (2, vI x2), (3, vI x3), (4, vI x4), (5, vI (x5 + 1)), (6, vI (x6 + 1))] [] mem) ∧ (x4 = 0 →
        vp_in ((33 + (5 * x6)) + 4) 429 ∧
        (¬ (mem (18, 0, 0) ((33 + (5 * x6)) + 4).toNatClampNeg) = 0 →
         Go g h_Md_carersAt Q 6 [(0, vO 17 0 0), (1, vI x1), (2, vI x2), (3, vI x3), (4, vI x4), (5, vI (x5 + 0)), (6, vI (x6 + 1))] [] mem) ∧ ((mem (18, 0, 0) ((33 + (5 * x6)) + 4).toNatClampNeg) = 0 →
         Go g h_Md_carersAt Q 6 [(0, vO 17 0 0), (1, vI x1), (2, vI x2), (3, vI x3), (4, vI x4), (5, vI (x5 + 1)), (6, vI (x6 + 1))] [] mem)))) ∧ ((mem (18, 0, 0) (33 + (5 * x6)).toNatClampNeg) = x1 →
      vp_in ((33 + (5 * x6)) + 1) 429 ∧
      (¬ 2 = (0 : Int32)) ∧
      RunI g h_Md_has [vI (mem (18, 0, 0) ((33 + (5 * x6)) + 1).toNatClampNeg), vI (x2 / 2)] mem (fun r1 m1 =>
       (r1 = 0 →
        ((0 : Int32) = 0 →
         Go g h_Md_carersAt Q 6 [(0, vO 17 0 0), (1, vI x1), (2, vI x2), (3, vI x3), (4, vI x4), (5, vI (x5 + 0)), (6, vI (x6 + 1))] [] m1) ∧ (¬ (0 : Int32) = 0 →
         (¬ x4 = 0 →
          Go g h_Md_carersAt Q 6 [(0, vO 17 0 0), (1, vI x1), (2, vI x2), (3, vI x3), (4, vI x4), (5, vI (x5 + 1)), (6, vI (x6 + 1))] [] m1) ∧ (x4 = 0 →
          vp_in ((33 + (5 * x6)) + 4) 429 ∧
          (¬ (m1 (18, 0, 0) ((33 + (5 * x6)) + 4).toNatClampNeg) = 0 →
           Go g h_Md_carersAt Q 6 [(0, vO 17 0 0), (1, vI x1), (2, vI x2), (3, vI x3), (4, vI x4), (5, vI (x5 + 0)), (6, vI (x6 + 1))] [] m1) ∧ ((m1 (18, 0, 0) ((33 + (5 * x6)) + 4).toNatClampNeg) = 0 →
           Go g h_Md_carersAt Q 6 [(0, vO 17 0 0), (1, vI x1), (2, vI x2), (3, vI x3), (4, vI x4), (5, vI (x5 + 1)), (6, vI (x6 + 1))] [] m1)))) ∧ (¬ r1 = 0 →
        vp_in ((33 + (5 * x6)) + 2) 429 ∧
        vp_in ((33 + (5 * x6)) + 3) 429 ∧
        RunI g h_Md_in [vI x3, vI (m1 (18, 0, 0) ((33 + (5 * x6)) + 2).toNatClampNeg), vI ((m1 (18, 0, 0) ((33 + (5 * x6)) + 3).toNatClampNeg) - 1)] m1 (fun r2 m2 =>
         (r2 = 0 →
          ((0 : Int32) = 0 →
           Go g h_Md_carersAt Q 6 [(0, vO 17 0 0), (1, vI x1), (2, vI x2), (3, vI x3), (4, vI x4), (5, vI (x5 + 0)), (6, vI (x6 + 1))] [] m2) ∧ (¬ (0 : Int32) = 0 →
           (¬ x4 = 0 →
            Go g h_Md_carersAt Q 6 [(0, vO 17 0 0), (1, vI x1), (2, vI x2), (3, vI x3), (4, vI x4), (5, vI (x5 + 1)), (6, vI (x6 + 1))] [] m2) ∧ (x4 = 0 →
            vp_in ((33 + (5 * x6)) + 4) 429 ∧
            (¬ (m2 (18, 0, 0) ((33 + (5 * x6)) + 4).toNatClampNeg) = 0 →
             Go g h_Md_carersAt Q 6 [(0, vO 17 0 0), (1, vI x1), (2, vI x2), (3, vI x3), (4, vI x4), (5, vI (x5 + 0)), (6, vI (x6 + 1))] [] m2) ∧ ((m2 (18, 0, 0) ((33 + (5 * x6)) + 4).toNatClampNeg) = 0 →
             Go g h_Md_carersAt Q 6 [(0, vO 17 0 0), (1, vI x1), (2, vI x2), (3, vI x3), (4, vI x4), (5, vI (x5 + 1)), (6, vI (x6 + 1))] [] m2)))) ∧ (¬ r2 = 0 →
          ((1 : Int32) = 0 →
           Go g h_Md_carersAt Q 6 [(0, vO 17 0 0), (1, vI x1), (2, vI x2), (3, vI x3), (4, vI x4), (5, vI (x5 + 0)), (6, vI (x6 + 1))] [] m2) ∧ (¬ (1 : Int32) = 0 →
           (¬ x4 = 0 →
            Go g h_Md_carersAt Q 6 [(0, vO 17 0 0), (1, vI x1), (2, vI x2), (3, vI x3), (4, vI x4), (5, vI (x5 + 1)), (6, vI (x6 + 1))] [] m2) ∧ (x4 = 0 →
            vp_in ((33 + (5 * x6)) + 4) 429 ∧
            (¬ (m2 (18, 0, 0) ((33 + (5 * x6)) + 4).toNatClampNeg) = 0 →
             Go g h_Md_carersAt Q 6 [(0, vO 17 0 0), (1, vI x1), (2, vI x2), (3, vI x3), (4, vI x4), (5, vI (x5 + 0)), (6, vI (x6 + 1))] [] m2) ∧ ((m2 (18, 0, 0) ((33 + (5 * x6)) + 4).toNatClampNeg) = 0 →
             Go g h_Md_carersAt Q 6 [(0, vO 17 0 0), (1, vI x1), (2, vI x2), (3, vI x3), (4, vI x4), (5, vI (x5 + 1)), (6, vI (x6 + 1))] [] m2)))))))))) : Go g h_Md_carersAt Q 6 [(0, vO 17 0 0), (1, vI x1), (2, vI x2), (3, vI x3), (4, vI x4), (5, vI x5), (6, vI x6)] [] mem := Go.cutN o_Md_carersAt [(6, [0, 1, 2, 3, 4, 5, 6])] 69 hv
set_option maxRecDepth 100000 in
theorem b_Md_child_0 {g : Wg} {Q : Option Vl → Mm → Prop} {x1 : Int32} {x2 : Int32} {x3 : Int32} {mem : Mm} (hv :
    RunI g h_Md_in [vI x1, vI 0, vI 72] mem (fun r1 m1 =>
     (r1 = 0 →
      Q (some (vI ((-2)))) m1) ∧ (¬ r1 = 0 →
      RunI g h_Md_in [vI x2, vI 0, vI 15] m1 (fun r2 m2 =>
       (r2 = 0 →
        Q (some (vI ((-2)))) m2) ∧ (¬ r2 = 0 →
        RunI g h_Md_in [vI x3, vI 1, vI 1023] m2 (fun r3 m3 =>
         (¬ r3 = 0 →
          vp_in 8 429 ∧
          (¬ (m3 (18, 0, 0) 8) = 24 →
           RunV g h_Md_record [vO 17 0 0] m3 (fun m4 =>
            vp_in 8 429 ∧
            Go g h_Md_child Q 65 [(0, vO 17 0 0), (1, vI x1), (2, vI x2), (3, vI x3), (4, vI (m4 (18, 0, 0) 8)), (5, vI 0)] [] m4)) ∧ ((m3 (18, 0, 0) 8) = 24 →
           Q (some (vI ((-4)))) m3)) ∧ (r3 = 0 →
          Q (some (vI ((-2)))) m3))))))) : Go g h_Md_child Q 0 [(0, vO 17 0 0), (1, vI x1), (2, vI x2), (3, vI x3)] [] mem := Go.cutN o_Md_child [(65, [0, 1, 2, 3, 4, 5])] 32 hv
set_option maxRecDepth 100000 in
theorem b_Md_child_65 {g : Wg} {Q : Option Vl → Mm → Prop} {x1 : Int32} {x2 : Int32} {x3 : Int32} {x4 : Int32} {x5 : Int32} {mem : Mm} (hv :
    (14 ≤ x5 →
     RunV g h_Md_put3 [vO 17 0 0, vI x4, vI 0, vI x1] mem (fun m1 =>
      RunV g h_Md_put3 [vO 17 0 0, vI x4, vI 1, vI x2] m1 (fun m2 =>
       RunV g h_Md_put3 [vO 17 0 0, vI x4, vI 2, vI x3] m2 (fun m3 =>
        RunV g h_Md_put3 [vO 17 0 0, vI x4, vI 8, vI ((-6))] m3 (fun m4 =>
         vp_in 5 429 ∧
         RunV g h_Md_put3 [vO 17 0 0, vI x4, vI 12, vI (m4 (18, 0, 0) 5)] m4 (fun m5 =>
          vp_in 8 429 ∧
          vp_in 8 429 ∧
          Q (some (vI x4)) (mset m5 18 0 0 8 ((m5 (18, 0, 0) 8) + 1)))))))) ∧ (¬ 14 ≤ x5 →
     RunV g h_Md_put3 [vO 17 0 0, vI x4, vI x5, vI 0] mem (fun m6 =>
      Go g h_Md_child Q 65 [(0, vO 17 0 0), (1, vI x1), (2, vI x2), (3, vI x3), (4, vI x4), (5, vI (x5 + 1))] [] m6))) : Go g h_Md_child Q 65 [(0, vO 17 0 0), (1, vI x1), (2, vI x2), (3, vI x3), (4, vI x4), (5, vI x5)] [] mem := Go.cutN o_Md_child [(65, [0, 1, 2, 3, 4, 5])] 42 hv
set_option maxRecDepth 100000 in
theorem b_Md_digit_0 {g : Wg} {Q : Option Vl → Mm → Prop} {x1 : Int32} {mem : Mm} (hv :
    ((mem (17, 0, 0) 8) ≤ (mem (17, 0, 0) 12) →
     ((0 : Int32) = 0 →
      vp_in x1 4 ∧
      ((0 : Int32) = 0 →
       let u1 : Mm := mset (mset mem 18 8 0 x1.toNatClampNeg 0) 17 0 0 12 (((mset mem 18 8 0 x1.toNatClampNeg 0) (17, 0, 0) 12) + 0)
       ((0 : Int32) = 0 ∨ (0 : Int32) = 1) ∧ Q (some (vI 0)) u1) ∧ (¬ (0 : Int32) = 0 →
       let u2 : Mm := mset (mset mem 18 8 0 x1.toNatClampNeg 0) 17 0 0 12 (((mset mem 18 8 0 x1.toNatClampNeg 0) (17, 0, 0) 12) + 1)
       ((0 : Int32) = 0 ∨ (0 : Int32) = 1) ∧ Q (some (vI 0)) u2)) ∧ (¬ (0 : Int32) = 0 →
      vp_in (mem (17, 0, 0) 12) 80 ∧
      vp_in x1 4 ∧
      ((0 : Int32) = 0 →
       let u3 : Mm := mset (mset mem 18 8 0 x1.toNatClampNeg ((mem (18, 4, 0) (mem (17, 0, 0) 12).toNatClampNeg) - 48)) 17 0 0 12 (((mset mem 18 8 0 x1.toNatClampNeg ((mem (18, 4, 0) (mem (17, 0, 0) 12).toNatClampNeg) - 48)) (17, 0, 0) 12) + 0)
       ((0 : Int32) = 0 ∨ (0 : Int32) = 1) ∧ Q (some (vI 0)) u3) ∧ (¬ (0 : Int32) = 0 →
       let u4 : Mm := mset (mset mem 18 8 0 x1.toNatClampNeg ((mem (18, 4, 0) (mem (17, 0, 0) 12).toNatClampNeg) - 48)) 17 0 0 12 (((mset mem 18 8 0 x1.toNatClampNeg ((mem (18, 4, 0) (mem (17, 0, 0) 12).toNatClampNeg) - 48)) (17, 0, 0) 12) + 1)
       ((0 : Int32) = 0 ∨ (0 : Int32) = 1) ∧ Q (some (vI 0)) u4))) ∧ (¬ (mem (17, 0, 0) 8) ≤ (mem (17, 0, 0) 12) →
     vp_in (mem (17, 0, 0) 12) 80 ∧
     RunI g h_Md_in [vI (mem (18, 4, 0) (mem (17, 0, 0) 12).toNatClampNeg), vI 48, vI 57] mem (fun r5 m5 =>
      (r5 = 0 →
       ((0 : Int32) = 0 →
        vp_in x1 4 ∧
        ((0 : Int32) = 0 →
         let u6 : Mm := mset (mset m5 18 8 0 x1.toNatClampNeg 0) 17 0 0 12 (((mset m5 18 8 0 x1.toNatClampNeg 0) (17, 0, 0) 12) + 0)
         ((0 : Int32) = 0 ∨ (0 : Int32) = 1) ∧ Q (some (vI 0)) u6) ∧ (¬ (0 : Int32) = 0 →
         let u7 : Mm := mset (mset m5 18 8 0 x1.toNatClampNeg 0) 17 0 0 12 (((mset m5 18 8 0 x1.toNatClampNeg 0) (17, 0, 0) 12) + 1)
         ((0 : Int32) = 0 ∨ (0 : Int32) = 1) ∧ Q (some (vI 0)) u7)) ∧ (¬ (0 : Int32) = 0 →
        vp_in (m5 (17, 0, 0) 12) 80 ∧
        vp_in x1 4 ∧
        ((0 : Int32) = 0 →
         let u8 : Mm := mset (mset m5 18 8 0 x1.toNatClampNeg ((m5 (18, 4, 0) (m5 (17, 0, 0) 12).toNatClampNeg) - 48)) 17 0 0 12 (((mset m5 18 8 0 x1.toNatClampNeg ((m5 (18, 4, 0) (m5 (17, 0, 0) 12).toNatClampNeg) - 48)) (17, 0, 0) 12) + 0)
         ((0 : Int32) = 0 ∨ (0 : Int32) = 1) ∧ Q (some (vI 0)) u8) ∧ (¬ (0 : Int32) = 0 →
         let u9 : Mm := mset (mset m5 18 8 0 x1.toNatClampNeg ((m5 (18, 4, 0) (m5 (17, 0, 0) 12).toNatClampNeg) - 48)) 17 0 0 12 (((mset m5 18 8 0 x1.toNatClampNeg ((m5 (18, 4, 0) (m5 (17, 0, 0) 12).toNatClampNeg) - 48)) (17, 0, 0) 12) + 1)
         ((0 : Int32) = 0 ∨ (0 : Int32) = 1) ∧ Q (some (vI 0)) u9))) ∧ (¬ r5 = 0 →
       ((1 : Int32) = 0 →
        vp_in x1 4 ∧
        ((1 : Int32) = 0 →
         let u10 : Mm := mset (mset m5 18 8 0 x1.toNatClampNeg 0) 17 0 0 12 (((mset m5 18 8 0 x1.toNatClampNeg 0) (17, 0, 0) 12) + 0)
         ((1 : Int32) = 0 ∨ (1 : Int32) = 1) ∧ Q (some (vI 1)) u10) ∧ (¬ (1 : Int32) = 0 →
         let u11 : Mm := mset (mset m5 18 8 0 x1.toNatClampNeg 0) 17 0 0 12 (((mset m5 18 8 0 x1.toNatClampNeg 0) (17, 0, 0) 12) + 1)
         ((1 : Int32) = 0 ∨ (1 : Int32) = 1) ∧ Q (some (vI 1)) u11)) ∧ (¬ (1 : Int32) = 0 →
        vp_in (m5 (17, 0, 0) 12) 80 ∧
        vp_in x1 4 ∧
        ((1 : Int32) = 0 →
         let u12 : Mm := mset (mset m5 18 8 0 x1.toNatClampNeg ((m5 (18, 4, 0) (m5 (17, 0, 0) 12).toNatClampNeg) - 48)) 17 0 0 12 (((mset m5 18 8 0 x1.toNatClampNeg ((m5 (18, 4, 0) (m5 (17, 0, 0) 12).toNatClampNeg) - 48)) (17, 0, 0) 12) + 0)
         ((1 : Int32) = 0 ∨ (1 : Int32) = 1) ∧ Q (some (vI 1)) u12) ∧ (¬ (1 : Int32) = 0 →
         let u13 : Mm := mset (mset m5 18 8 0 x1.toNatClampNeg ((m5 (18, 4, 0) (m5 (17, 0, 0) 12).toNatClampNeg) - 48)) 17 0 0 12 (((mset m5 18 8 0 x1.toNatClampNeg ((m5 (18, 4, 0) (m5 (17, 0, 0) 12).toNatClampNeg) - 48)) (17, 0, 0) 12) + 1)
         ((1 : Int32) = 0 ∨ (1 : Int32) = 1) ∧ Q (some (vI 1)) u13)))))) : Go g h_Md_digit Q 0 [(0, vO 17 0 0), (1, vI x1)] [] mem := Go.cutN o_Md_digit [] 43 hv
set_option maxRecDepth 100000 in
theorem b_Md_hasSibling_0 {g : Wg} {Q : Option Vl → Mm → Prop} {x1 : Int32} {mem : Mm} (hv :
    Go g h_Md_hasSibling Q 4 [(0, vO 17 0 0), (1, vI x1), (2, vI 0), (3, vI 0)] [] mem) : Go g h_Md_hasSibling Q 0 [(0, vO 17 0 0), (1, vI x1)] [] mem := Go.cutN o_Md_hasSibling [(4, [0, 1, 2, 3])] 6 hv
set_option maxRecDepth 100000 in
theorem b_Md_hasSibling_4 {g : Wg} {Q : Option Vl → Mm → Prop} {x1 : Int32} {x2 : Int32} {x3 : Int32} {mem : Mm} (hv :
    vp_in 8 429 ∧
    ((mem (18, 0, 0) 8) ≤ x3 →
     ((x2 : Int32) = 0 ∨ (x2 : Int32) = 1) ∧ Q (some (vI x2)) mem) ∧ (¬ (mem (18, 0, 0) 8) ≤ x3 →
     (¬ x2 = 0 →
      Go g h_Md_hasSibling Q 4 [(0, vO 17 0 0), (1, vI x1), (2, vI 1), (3, vI (x3 + 1))] [] mem) ∧ (x2 = 0 →
      RunI g h_Md_of [vO 17 0 0, vI x3, vI 3] mem (fun r1 m1 =>
       (¬ r1 = 1 →
        Go g h_Md_hasSibling Q 4 [(0, vO 17 0 0), (1, vI x1), (2, vI 0), (3, vI (x3 + 1))] [] m1) ∧ (r1 = 1 →
        RunI g h_Md_of [vO 17 0 0, vI x3, vI 1] m1 (fun r2 m2 =>
         RunI g h_Md_of [vO 17 0 0, vI x1, vI 1] m2 (fun r3 m3 =>
          (¬ r2 = r3 →
           Go g h_Md_hasSibling Q 4 [(0, vO 17 0 0), (1, vI x1), (2, vI 0), (3, vI (x3 + 1))] [] m3) ∧ (r2 = r3 →
           Go g h_Md_hasSibling Q 4 [(0, vO 17 0 0), (1, vI x1), (2, vI 1), (3, vI (x3 + 1))] [] m3)))))))) : Go g h_Md_hasSibling Q 4 [(0, vO 17 0 0), (1, vI x1), (2, vI x2), (3, vI x3)] [] mem := Go.cutN o_Md_hasSibling [(4, [0, 1, 2, 3])] 30 hv
set_option maxRecDepth 100000 in
theorem b_Md_inState_0 {g : Wg} {Q : Option Vl → Mm → Prop} {x1 : Int32} {mem : Mm} (hv :
    Go g h_Md_inState Q 4 [(0, vO 17 0 0), (1, vI x1), (2, vI 0), (3, vI 0)] [] mem) : Go g h_Md_inState Q 0 [(0, vO 17 0 0), (1, vI x1)] [] mem := Go.cutN o_Md_inState [(4, [0, 1, 2, 3])] 6 hv
set_option maxRecDepth 100000 in
theorem b_Md_inState_4 {g : Wg} {Q : Option Vl → Mm → Prop} {x1 : Int32} {x2 : Int32} {x3 : Int32} {mem : Mm} (hv :
    vp_in 8 429 ∧
    ((mem (18, 0, 0) 8) ≤ x3 →
     Q (some (vI x2)) mem) ∧ (¬ (mem (18, 0, 0) 8) ≤ x3 →
     RunI g h_Md_of [vO 17 0 0, vI x3, vI 3] mem (fun r1 m1 =>
      (¬ r1 = x1 →
       Go g h_Md_inState Q 4 [(0, vO 17 0 0), (1, vI x1), (2, vI (x2 ||| 0)), (3, vI (x3 + 1))] [] m1) ∧ (r1 = x1 →
       Go g h_Md_inState Q 4 [(0, vO 17 0 0), (1, vI x1), (2, vI (x2 ||| (1 <<< (x3 &&& 31)))), (3, vI (x3 + 1))] [] m1)))) : Go g h_Md_inState Q 4 [(0, vO 17 0 0), (1, vI x1), (2, vI x2), (3, vI x3)] [] mem := Go.cutN o_Md_inState [(4, [0, 1, 2, 3])] 23 hv
set_option maxRecDepth 100000 in
theorem b_Md_isCarer_0 {g : Wg} {Q : Option Vl → Mm → Prop} {x1 : Int32} {mem : Mm} (hv :
    vp_in 7 429 ∧
    RunI g h_Md_in [vI x1, vI 0, vI ((mem (18, 0, 0) 7) - 1)] mem (fun r1 m1 =>
     ((r1 : Int32) = 0 ∨ (r1 : Int32) = 1) ∧ Q (some (vI r1)) m1)) : Go g h_Md_isCarer Q 0 [(0, vO 17 0 0), (1, vI x1)] [] mem := Go.cutN o_Md_isCarer [] 11 hv
set_option maxRecDepth 100000 in
theorem b_Md_isChild_0 {g : Wg} {Q : Option Vl → Mm → Prop} {x1 : Int32} {mem : Mm} (hv :
    vp_in 8 429 ∧
    RunI g h_Md_in [vI x1, vI 0, vI ((mem (18, 0, 0) 8) - 1)] mem (fun r1 m1 =>
     ((r1 : Int32) = 0 ∨ (r1 : Int32) = 1) ∧ Q (some (vI r1)) m1)) : Go g h_Md_isChild Q 0 [(0, vO 17 0 0), (1, vI x1)] [] mem := Go.cutN o_Md_isChild [] 11 hv
set_option maxRecDepth 100000 in
theorem b_Md_isIn_0 {g : Wg} {Q : Option Vl → Mm → Prop} {x1 : Int32} {x2 : Int32} {mem : Mm} (hv :
    RunI g h_Md_of [vO 17 0 0, vI x1, vI 3] mem (fun r1 m1 =>
     (¬ r1 = 1 →
      ((0 : Int32) = 0 ∨ (0 : Int32) = 1) ∧ Q (some (vI 0)) m1) ∧ (r1 = 1 →
      RunI g h_Md_of [vO 17 0 0, vI x1, vI 4] m1 (fun r2 m2 =>
       (¬ r2 = x2 →
        ((0 : Int32) = 0 ∨ (0 : Int32) = 1) ∧ Q (some (vI 0)) m2) ∧ (r2 = x2 →
        ((1 : Int32) = 0 ∨ (1 : Int32) = 1) ∧ Q (some (vI 1)) m2))))) : Go g h_Md_isIn Q 0 [(0, vO 17 0 0), (1, vI x1), (2, vI x2)] [] mem := Go.cutN o_Md_isIn [] 16 hv
set_option maxRecDepth 100000 in
theorem b_Md_isRoom_0 {g : Wg} {Q : Option Vl → Mm → Prop} {x1 : Int32} {mem : Mm} (hv :
    vp_in 6 429 ∧
    RunI g h_Md_in [vI x1, vI 0, vI ((mem (18, 0, 0) 6) - 1)] mem (fun r1 m1 =>
     ((r1 : Int32) = 0 ∨ (r1 : Int32) = 1) ∧ Q (some (vI r1)) m1)) : Go g h_Md_isRoom Q 0 [(0, vO 17 0 0), (1, vI x1)] [] mem := Go.cutN o_Md_isRoom [] 11 hv
set_option maxRecDepth 100000 in
theorem b_Md_isSession_0 {g : Wg} {Q : Option Vl → Mm → Prop} {x0 : Int32} {mem : Mm} (hv :
    RunI g h_Md_in [vI x0, vI 0, vI 9] mem (fun r1 m1 =>
     ((r1 : Int32) = 0 ∨ (r1 : Int32) = 1) ∧ Q (some (vI r1)) m1)) : Go g h_Md_isSession Q 0 [(0, vI x0)] [] mem := Go.cutN o_Md_isSession [] 6 hv
set_option maxRecDepth 100000 in
theorem b_Md_isShift_0 {g : Wg} {Q : Option Vl → Mm → Prop} {x0 : Int32} {x1 : Int32} {x2 : Int32} {mem : Mm} (hv :
    RunI g h_Md_in [vI x0, vI 1, vI 31] mem (fun r1 m1 =>
     (r1 = 0 →
      ((0 : Int32) = 0 ∨ (0 : Int32) = 1) ∧ Q (some (vI 0)) m1) ∧ (¬ r1 = 0 →
      RunI g h_Md_in [vI x1, vI 0, vI 9] m1 (fun r2 m2 =>
       (r2 = 0 →
        ((0 : Int32) = 0 ∨ (0 : Int32) = 1) ∧ Q (some (vI 0)) m2) ∧ (¬ r2 = 0 →
        RunI g h_Md_in [vI x2, vI (x1 + 1), vI 10] m2 (fun r3 m3 =>
         (r3 = 0 →
          ((0 : Int32) = 0 ∨ (0 : Int32) = 1) ∧ Q (some (vI 0)) m3) ∧ (¬ r3 = 0 →
          ((1 : Int32) = 0 ∨ (1 : Int32) = 1) ∧ Q (some (vI 1)) m3))))))) : Go g h_Md_isShift Q 0 [(0, vI x0), (1, vI x1), (2, vI x2)] [] mem := Go.cutN o_Md_isShift [] 21 hv
set_option maxRecDepth 100000 in
theorem b_Md_isVisiting_0 {g : Wg} {Q : Option Vl → Mm → Prop} {x1 : Int32} {x2 : Int32} {mem : Mm} (hv :
    RunI g h_Md_of [vO 17 0 0, vI x1, vI 6] mem (fun r1 m1 =>
     (¬ r1 = 0 →
      ((0 : Int32) = 0 ∨ (0 : Int32) = 1) ∧ Q (some (vI 0)) m1) ∧ (r1 = 0 →
      RunI g h_Md_of [vO 17 0 0, vI x1, vI 8] m1 (fun r2 m2 =>
       (¬ r2 = x2 →
        ((0 : Int32) = 0 ∨ (0 : Int32) = 1) ∧ Q (some (vI 0)) m2) ∧ (r2 = x2 →
        ((1 : Int32) = 0 ∨ (1 : Int32) = 1) ∧ Q (some (vI 1)) m2))))) : Go g h_Md_isVisiting Q 0 [(0, vO 17 0 0), (1, vI x1), (2, vI x2)] [] mem := Go.cutN o_Md_isVisiting [] 15 hv
set_option maxRecDepth 100000 in
theorem b_Md_number_0 {g : Wg} {Q : Option Vl → Mm → Prop} {x1 : Int32} {mem : Mm} (hv :
    Go g h_Md_number Q 7 [(0, vO 17 0 0), (1, vI x1), (2, vI (mem (17, 0, 0) 12)), (3, vI 0)] [] mem) : Go g h_Md_number Q 0 [(0, vO 17 0 0), (1, vI x1)] [] mem := Go.cutN o_Md_number [(7, [0, 1, 2, 3])] 7 hv
set_option maxRecDepth 100000 in
theorem b_Md_number_7 {g : Wg} {Q : Option Vl → Mm → Prop} {x1 : Int32} {x2 : Int32} {x3 : Int32} {mem : Mm} (hv :
    ((mem (17, 0, 0) 8) ≤ (mem (17, 0, 0) 12) →
     vp_in x1 4 ∧
     (((mset mem 18 8 0 x1.toNatClampNeg x3) (17, 0, 0) 12) ≤ x2 →
      ((0 : Int32) = 0 ∨ (0 : Int32) = 1) ∧ Q (some (vI 0)) (mset mem 18 8 0 x1.toNatClampNeg x3)) ∧ (¬ ((mset mem 18 8 0 x1.toNatClampNeg x3) (17, 0, 0) 12) ≤ x2 →
      ((1 : Int32) = 0 ∨ (1 : Int32) = 1) ∧ Q (some (vI 1)) (mset mem 18 8 0 x1.toNatClampNeg x3))) ∧ (¬ (mem (17, 0, 0) 8) ≤ (mem (17, 0, 0) 12) →
     vp_in (mem (17, 0, 0) 12) 80 ∧
     RunI g h_Md_in [vI (mem (18, 4, 0) (mem (17, 0, 0) 12).toNatClampNeg), vI 48, vI 57] mem (fun r1 m1 =>
      (r1 = 0 →
       vp_in x1 4 ∧
       (((mset m1 18 8 0 x1.toNatClampNeg x3) (17, 0, 0) 12) ≤ x2 →
        ((0 : Int32) = 0 ∨ (0 : Int32) = 1) ∧ Q (some (vI 0)) (mset m1 18 8 0 x1.toNatClampNeg x3)) ∧ (¬ ((mset m1 18 8 0 x1.toNatClampNeg x3) (17, 0, 0) 12) ≤ x2 →
        ((1 : Int32) = 0 ∨ (1 : Int32) = 1) ∧ Q (some (vI 1)) (mset m1 18 8 0 x1.toNatClampNeg x3))) ∧ (¬ r1 = 0 →
       vp_in (m1 (17, 0, 0) 12) 80 ∧
       (1023 < (((10 * x3) + (m1 (18, 4, 0) (m1 (17, 0, 0) 12).toNatClampNeg)) - 48) →
        vp_in x1 4 ∧
        (((mset m1 18 8 0 x1.toNatClampNeg x3) (17, 0, 0) 12) ≤ x2 →
         ((0 : Int32) = 0 ∨ (0 : Int32) = 1) ∧ Q (some (vI 0)) (mset m1 18 8 0 x1.toNatClampNeg x3)) ∧ (¬ ((mset m1 18 8 0 x1.toNatClampNeg x3) (17, 0, 0) 12) ≤ x2 →
         ((1 : Int32) = 0 ∨ (1 : Int32) = 1) ∧ Q (some (vI 1)) (mset m1 18 8 0 x1.toNatClampNeg x3))) ∧ (¬ 1023 < (((10 * x3) + (m1 (18, 4, 0) (m1 (17, 0, 0) 12).toNatClampNeg)) - 48) →
        ((m1 (17, 0, 0) 12) = x2 →
         vp_in (m1 (17, 0, 0) 12) 80 ∧
         Go g h_Md_number Q 7 [(0, vO 17 0 0), (1, vI x1), (2, vI x2), (3, vI (((10 * x3) + (m1 (18, 4, 0) (m1 (17, 0, 0) 12).toNatClampNeg)) - 48))] [] (mset m1 17 0 0 12 ((m1 (17, 0, 0) 12) + 1))) ∧ (¬ (m1 (17, 0, 0) 12) = x2 →
         vp_in x2 80 ∧
         ((m1 (18, 4, 0) x2.toNatClampNeg) = 48 →
          vp_in x1 4 ∧
          (((mset m1 18 8 0 x1.toNatClampNeg x3) (17, 0, 0) 12) ≤ x2 →
           ((0 : Int32) = 0 ∨ (0 : Int32) = 1) ∧ Q (some (vI 0)) (mset m1 18 8 0 x1.toNatClampNeg x3)) ∧ (¬ ((mset m1 18 8 0 x1.toNatClampNeg x3) (17, 0, 0) 12) ≤ x2 →
           ((1 : Int32) = 0 ∨ (1 : Int32) = 1) ∧ Q (some (vI 1)) (mset m1 18 8 0 x1.toNatClampNeg x3))) ∧ (¬ (m1 (18, 4, 0) x2.toNatClampNeg) = 48 →
          vp_in (m1 (17, 0, 0) 12) 80 ∧
          Go g h_Md_number Q 7 [(0, vO 17 0 0), (1, vI x1), (2, vI x2), (3, vI (((10 * x3) + (m1 (18, 4, 0) (m1 (17, 0, 0) 12).toNatClampNeg)) - 48))] [] (mset m1 17 0 0 12 ((m1 (17, 0, 0) 12) + 1))))))))) : Go g h_Md_number Q 7 [(0, vO 17 0 0), (1, vI x1), (2, vI x2), (3, vI x3)] [] mem := Go.cutN o_Md_number [(7, [0, 1, 2, 3])] 58 hv
set_option maxRecDepth 100000 in
theorem b_Md_plannedMany_0 {g : Wg} {Q : Option Vl → Mm → Prop}  {mem : Mm} (hv :
    Go g h_Md_plannedMany Q 4 [(0, vO 17 0 0), (1, vI 0), (2, vI 0)] [] mem) : Go g h_Md_plannedMany Q 0 [(0, vO 17 0 0)] [] mem := Go.cutN o_Md_plannedMany [(4, [0, 1, 2])] 6 hv
set_option maxRecDepth 100000 in
theorem b_Md_plannedMany_4 {g : Wg} {Q : Option Vl → Mm → Prop} {x1 : Int32} {x2 : Int32} {mem : Mm} (hv :
    vp_in 8 429 ∧
    ((mem (18, 0, 0) 8) ≤ x2 →
     Q (some (vI x1)) mem) ∧ (¬ (mem (18, 0, 0) 8) ≤ x2 →
     RunI g h_Md_of [vO 17 0 0, vI x2, vI 8] mem (fun r1 m1 =>
      (r1 < 0 →
       Go g h_Md_plannedMany Q 4 [(0, vO 17 0 0), (1, vI (x1 + 0)), (2, vI (x2 + 1))] [] m1) ∧ (¬ r1 < 0 →
       Go g h_Md_plannedMany Q 4 [(0, vO 17 0 0), (1, vI (x1 + 1)), (2, vI (x2 + 1))] [] m1)))) : Go g h_Md_plannedMany Q 4 [(0, vO 17 0 0), (1, vI x1), (2, vI x2)] [] mem := Go.cutN o_Md_plannedMany [(4, [0, 1, 2])] 20 hv
set_option maxRecDepth 100000 in
theorem b_Md_priceFor_0 {g : Wg} {Q : Option Vl → Mm → Prop} {x1 : Int32} {mem : Mm} (hv :
    Go g h_Md_priceFor Q 4 [(0, vO 17 0 0), (1, vI x1), (2, vI 0), (3, vI 0)] [] mem) : Go g h_Md_priceFor Q 0 [(0, vO 17 0 0), (1, vI x1)] [] mem := Go.cutN o_Md_priceFor [(4, [0, 1, 2, 3])] 6 hv
set_option maxRecDepth 100000 in
theorem b_Md_priceFor_4 {g : Wg} {Q : Option Vl → Mm → Prop} {x1 : Int32} {x2 : Int32} {x3 : Int32} {mem : Mm} (hv :
    (x1 ≤ x3 →
     (x2 = 0 →
      vp_in 0 429 ∧
      Q (some (vI (mem (18, 0, 0) 0))) mem) ∧ (¬ x2 = 0 →
      vp_in 0 429 ∧
      vp_in 1 429 ∧
      (¬ 100 = (0 : Int32)) ∧
      Q (some (vI (((mem (18, 0, 0) 0) * (100 - (mem (18, 0, 0) 1))) / 100))) mem)) ∧ (¬ x1 ≤ x3 →
     (¬ x2 = 0 →
      Go g h_Md_priceFor Q 4 [(0, vO 17 0 0), (1, vI x1), (2, vI 1), (3, vI (x3 + 1))] [] mem) ∧ (x2 = 0 →
      RunI g h_Md_of [vO 17 0 0, vI x3, vI 3] mem (fun r1 m1 =>
       (¬ r1 = 1 →
        Go g h_Md_priceFor Q 4 [(0, vO 17 0 0), (1, vI x1), (2, vI 0), (3, vI (x3 + 1))] [] m1) ∧ (r1 = 1 →
        RunI g h_Md_of [vO 17 0 0, vI x3, vI 6] m1 (fun r2 m2 =>
         (¬ r2 = 1 →
          Go g h_Md_priceFor Q 4 [(0, vO 17 0 0), (1, vI x1), (2, vI 0), (3, vI (x3 + 1))] [] m2) ∧ (r2 = 1 →
          RunI g h_Md_of [vO 17 0 0, vI x3, vI 1] m2 (fun r3 m3 =>
           RunI g h_Md_of [vO 17 0 0, vI x1, vI 1] m3 (fun r4 m4 =>
            (¬ r3 = r4 →
             Go g h_Md_priceFor Q 4 [(0, vO 17 0 0), (1, vI x1), (2, vI 0), (3, vI (x3 + 1))] [] m4) ∧ (r3 = r4 →
             Go g h_Md_priceFor Q 4 [(0, vO 17 0 0), (1, vI x1), (2, vI 1), (3, vI (x3 + 1))] [] m4)))))))))) : Go g h_Md_priceFor Q 4 [(0, vO 17 0 0), (1, vI x1), (2, vI x2), (3, vI x3)] [] mem := Go.cutN o_Md_priceFor [(4, [0, 1, 2, 3])] 33 hv
set_option maxRecDepth 100000 in
theorem b_Md_put_0 {g : Wg} {Q : Option Vl → Mm → Prop} {j1 : Int64} {mem : Mm} (hv :
    ((lg_cmp j1 0) = 0 →
     Go g h_Md_put Q 18 [(0, vO 17 0 0), (1, vJ j1), (3, vI 0), (4, vI 0), (5, vJ j1)] [] mem) ∧ (¬ (lg_cmp j1 0) = 0 →
     Go g h_Md_put Q 18 [(0, vO 17 0 0), (1, vJ j1), (3, vI 0), (4, vI 1), (5, vJ j1)] [] mem)) : Go g h_Md_put Q 0 [(0, vO 17 0 0), (1, vJ j1)] [] mem := Go.cutN o_Md_put [(18, [0, 1, 3, 4, 5]), (86, [0, 1, 7])] 13 hv
set_option maxRecDepth 100000 in
theorem b_Md_put_18 {g : Wg} {Q : Option Vl → Mm → Prop} {j1 : Int64} {x3 : Int32} {x4 : Int32} {j5 : Int64} {mem : Mm} (hv :
    (x4 = 0 →
     (¬ x4 = 0 →
      (((mem (17, 0, 0) 8) + x3) ≤ 80 →
       Go g h_Md_put Q 86 [(0, vO 17 0 0), (1, vJ j1), (7, vI (x3 - 1))] [] mem) ∧ (¬ ((mem (17, 0, 0) 8) + x3) ≤ 80 →
       Q (some (vI ((-4)))) mem)) ∧ (x4 = 0 →
      Q (some (vI ((-2)))) mem)) ∧ (¬ x4 = 0 →
     ((lg_cmp j5 0) = 0 →
      (¬ x4 = 0 →
       (((mem (17, 0, 0) 8) + x3) ≤ 80 →
        Go g h_Md_put Q 86 [(0, vO 17 0 0), (1, vJ j1), (7, vI (x3 - 1))] [] mem) ∧ (¬ ((mem (17, 0, 0) 8) + x3) ≤ 80 →
        Q (some (vI ((-4)))) mem)) ∧ (x4 = 0 →
       Q (some (vI ((-2)))) mem)) ∧ (¬ (lg_cmp j5 0) = 0 →
      RunI g h_Md_in [vI ((j5 &&& 255).toInt32), vI 33, vI 126] mem (fun r1 m1 =>
       Go g h_Md_put Q 18 [(0, vO 17 0 0), (1, vJ j1), (3, vI (x3 + 1)), (4, vI r1), (5, vJ ((j5.toUInt64 >>> ((8 : Int32).toInt64.toUInt64 &&& Int64.toUInt64 63)).toInt64))] [] m1)))) : Go g h_Md_put Q 18 [(0, vO 17 0 0), (1, vJ j1), (3, vI x3), (4, vI x4), (5, vJ j5)] [] mem := Go.cutN o_Md_put [(18, [0, 1, 3, 4, 5]), (86, [0, 1, 7])] 22 hv
set_option maxRecDepth 100000 in
theorem b_Md_put_86 {g : Wg} {Q : Option Vl → Mm → Prop} {j1 : Int64} {x7 : Int32} {mem : Mm} (hv :
    (x7 < 0 →
     Q (some (vI (mem (17, 0, 0) 8))) mem) ∧ (¬ x7 < 0 →
     vp_in (mem (17, 0, 0) 8) 80 ∧
     let u1 : Mm := mset mem 18 4 0 (mem (17, 0, 0) 8).toNatClampNeg ((((j1.toUInt64 >>> ((8 * x7).toInt64.toUInt64 &&& Int64.toUInt64 63)).toInt64) &&& 255).toInt32)
     Go g h_Md_put Q 86 [(0, vO 17 0 0), (1, vJ j1), (7, vI (x7 + (-1)))] [] (mset u1 17 0 0 8 ((u1 (17, 0, 0) 8) + 1)))) : Go g h_Md_put Q 86 [(0, vO 17 0 0), (1, vJ j1), (7, vI x7)] [] mem := Go.cutN o_Md_put [(18, [0, 1, 3, 4, 5]), (86, [0, 1, 7])] 25 hv
set_option maxRecDepth 100000 in
theorem b_Md_restore_0 {g : Wg} {Q : Option Vl → Mm → Prop} {x1 : Int32} {mem : Mm} (hv :
    RunI g h_Md_in [vI x1, vI 0, vI 1] mem (fun r1 m1 =>
     (¬ r1 = 0 →
      vp_in x1 2 ∧
      (¬ (m1 (19, 0, 0) x1.toNatClampNeg) = 0 →
       RunV g h_Md_record [vO 17 0 0] m1 (fun m2 =>
        Go g h_Md_restore Q 30 [(0, vO 17 0 0), (1, vI x1), (2, vI 0)] [] m2)) ∧ ((m1 (19, 0, 0) x1.toNatClampNeg) = 0 →
       Q (some (vI ((-5)))) m1)) ∧ (r1 = 0 →
      Q (some (vI ((-2)))) m1))) : Go g h_Md_restore Q 0 [(0, vO 17 0 0), (1, vI x1)] [] mem := Go.cutN o_Md_restore [(30, [0, 1, 2])] 16 hv
set_option maxRecDepth 100000 in
theorem b_Md_restore_30 {g : Wg} {Q : Option Vl → Mm → Prop} {x1 : Int32} {x2 : Int32} {mem : Mm} (hv :
    (429 ≤ x2 →
     vp_in 5 429 ∧
     Q (some (vI (mem (18, 0, 0) 5))) mem) ∧ (¬ 429 ≤ x2 →
     vp_in ((429 * x1) + x2) 858 ∧
     vp_in x2 429 ∧
     Go g h_Md_restore Q 30 [(0, vO 17 0 0), (1, vI x1), (2, vI (x2 + 1))] [] (mset mem 18 0 0 x2.toNatClampNeg (mem (18, 3, 0) ((429 * x1) + x2).toNatClampNeg)))) : Go g h_Md_restore Q 30 [(0, vO 17 0 0), (1, vI x1), (2, vI x2)] [] mem := Go.cutN o_Md_restore [(30, [0, 1, 2])] 19 hv
set_option maxRecDepth 100000 in
theorem b_Md_room_0 {g : Wg} {Q : Option Vl → Mm → Prop} {x1 : Int32} {x2 : Int32} {x3 : Int32} {x4 : Int32} {mem : Mm} (hv :
    RunI g h_Md_in [vI x1, vI 0, vI 71] mem (fun r1 m1 =>
     (r1 = 0 →
      Q (some (vI ((-2)))) m1) ∧ (¬ r1 = 0 →
      RunI g h_Md_in [vI x2, vI (x1 + 1), vI 72] m1 (fun r2 m2 =>
       (r2 = 0 →
        Q (some (vI ((-2)))) m2) ∧ (¬ r2 = 0 →
        RunI g h_Md_in [vI x3, vI 1, vI 40] m2 (fun r3 m3 =>
         (r3 = 0 →
          Q (some (vI ((-2)))) m3) ∧ (¬ r3 = 0 →
          RunI g h_Md_in [vI x4, vI 1, vI 12] m3 (fun r4 m4 =>
           (¬ r4 = 0 →
            vp_in 6 429 ∧
            (¬ (m4 (18, 0, 0) 6) = 5 →
             RunV g h_Md_record [vO 17 0 0] m4 (fun m5 =>
              vp_in 6 429 ∧
              vp_in (13 + (4 * (m5 (18, 0, 0) 6))) 429 ∧
              vp_in ((13 + (4 * (m5 (18, 0, 0) 6))) + 1) 429 ∧
              let u6 : Mm := mset (mset m5 18 0 0 (13 + (4 * (m5 (18, 0, 0) 6))).toNatClampNeg x1) 18 0 0 ((13 + (4 * (m5 (18, 0, 0) 6))) + 1).toNatClampNeg x2
              vp_in ((13 + (4 * (m5 (18, 0, 0) 6))) + 2) 429 ∧
              vp_in ((13 + (4 * (m5 (18, 0, 0) 6))) + 3) 429 ∧
              let u7 : Mm := mset (mset u6 18 0 0 ((13 + (4 * (m5 (18, 0, 0) 6))) + 2).toNatClampNeg x3) 18 0 0 ((13 + (4 * (m5 (18, 0, 0) 6))) + 3).toNatClampNeg x4
              vp_in 6 429 ∧
              vp_in 6 429 ∧
              vp_in 6 429 ∧
              Q (some (vI (((mset u7 18 0 0 6 ((u7 (18, 0, 0) 6) + 1)) (18, 0, 0) 6) - 1))) (mset u7 18 0 0 6 ((u7 (18, 0, 0) 6) + 1)))) ∧ ((m4 (18, 0, 0) 6) = 5 →
             Q (some (vI ((-4)))) m4)) ∧ (r4 = 0 →
            Q (some (vI ((-2)))) m4))))))))) : Go g h_Md_room Q 0 [(0, vO 17 0 0), (1, vI x1), (2, vI x2), (3, vI x3), (4, vI x4)] [] mem := Go.cutN o_Md_room [] 81 hv
set_option maxRecDepth 100000 in
theorem b_Md_roomOf_0 {g : Wg} {Q : Option Vl → Mm → Prop} {x1 : Int32} {mem : Mm} (hv :
    vp_in 6 429 ∧
    Go g h_Md_roomOf Q 12 [(0, vO 17 0 0), (1, vI x1), (2, vI ((-1))), (3, vI ((mem (18, 0, 0) 6) - 1))] [] mem) : Go g h_Md_roomOf Q 0 [(0, vO 17 0 0), (1, vI x1)] [] mem := Go.cutN o_Md_roomOf [(12, [0, 1, 2, 3])] 11 hv
set_option maxRecDepth 100000 in
theorem b_Md_roomOf_12 {g : Wg} {Q : Option Vl → Mm → Prop} {x1 : Int32} {x2 : Int32} {x3 : Int32} {mem : Mm} (hv :
    (x3 < 0 →
     Q (some (vI x2)) mem) ∧ (¬ x3 < 0 →
     vp_in (13 + (4 * x3)) 429 ∧
     vp_in ((13 + (4 * x3)) + 1) 429 ∧
     RunI g h_Md_in [vI x1, vI (mem (18, 0, 0) (13 + (4 * x3)).toNatClampNeg), vI ((mem (18, 0, 0) ((13 + (4 * x3)) + 1).toNatClampNeg) - 1)] mem (fun r1 m1 =>
      (r1 = 0 →
       Go g h_Md_roomOf Q 12 [(0, vO 17 0 0), (1, vI x1), (2, vI x2), (3, vI (x3 + (-1)))] [] m1) ∧ (¬ r1 = 0 →
       Go g h_Md_roomOf Q 12 [(0, vO 17 0 0), (1, vI x1), (2, vI x3), (3, vI (x3 + (-1)))] [] m1)))) : Go g h_Md_roomOf Q 12 [(0, vO 17 0 0), (1, vI x1), (2, vI x2), (3, vI x3)] [] mem := Go.cutN o_Md_roomOf [(12, [0, 1, 2, 3])] 32 hv
set_option maxRecDepth 100000 in
theorem b_Md_save_0 {g : Wg} {Q : Option Vl → Mm → Prop} {x1 : Int32} {mem : Mm} (hv :
    RunI g h_Md_in [vI x1, vI 0, vI 1] mem (fun r1 m1 =>
     (¬ r1 = 0 →
      Go g h_Md_save Q 14 [(0, vO 17 0 0), (1, vI x1), (2, vI 0)] [] m1) ∧ (r1 = 0 →
      Q (some (vI ((-2)))) m1))) : Go g h_Md_save Q 0 [(0, vO 17 0 0), (1, vI x1)] [] mem := Go.cutN o_Md_save [(14, [0, 1, 2])] 9 hv
set_option maxRecDepth 100000 in
theorem b_Md_save_14 {g : Wg} {Q : Option Vl → Mm → Prop} {x1 : Int32} {x2 : Int32} {mem : Mm} (hv :
    (429 ≤ x2 →
     vp_in x1 2 ∧
     vp_in 5 429 ∧
     Q (some (vI ((mset mem 19 0 0 x1.toNatClampNeg (vp_nar .boolean 1)) (18, 0, 0) 5))) (mset mem 19 0 0 x1.toNatClampNeg (vp_nar .boolean 1))) ∧ (¬ 429 ≤ x2 →
     vp_in x2 429 ∧
     vp_in ((429 * x1) + x2) 858 ∧
     Go g h_Md_save Q 14 [(0, vO 17 0 0), (1, vI x1), (2, vI (x2 + 1))] [] (mset mem 18 3 0 ((429 * x1) + x2).toNatClampNeg (mem (18, 0, 0) x2.toNatClampNeg)))) : Go g h_Md_save Q 14 [(0, vO 17 0 0), (1, vI x1), (2, vI x2)] [] mem := Go.cutN o_Md_save [(14, [0, 1, 2])] 19 hv
set_option maxRecDepth 100000 in
theorem b_Md_set_0 {g : Wg} {Q : Option Vl → Mm → Prop} {x1 : Int32} {x2 : Int32} {mem : Mm} (hv :
    RunI g h_Md_in [vI x1, vI 0, vI 4] mem (fun r1 m1 =>
     (r1 = 0 →
      Q (some (vI ((-2)))) m1) ∧ (¬ r1 = 0 →
      (¬ x1 = 2 →
       vp_in x1 5 ∧
       RunI g h_Md_in [vI x2, vI 0, vI (m1 (18, 5, 0) x1.toNatClampNeg)] m1 (fun r2 m2 =>
        (¬ r2 = 0 →
         RunV g h_Md_record [vO 17 0 0] m2 (fun m3 =>
          vp_in x1 429 ∧
          vp_in x1 429 ∧
          Q (some (vI (m3 (18, 0, 0) x1.toNatClampNeg))) (mset m3 18 0 0 x1.toNatClampNeg x2))) ∧ (r2 = 0 →
         Q (some (vI ((-2)))) m2))) ∧ (x1 = 2 →
       vp_in x1 5 ∧
       RunI g h_Md_in [vI x2, vI 1, vI (m1 (18, 5, 0) x1.toNatClampNeg)] m1 (fun r4 m4 =>
        (¬ r4 = 0 →
         RunV g h_Md_record [vO 17 0 0] m4 (fun m5 =>
          vp_in x1 429 ∧
          vp_in x1 429 ∧
          Q (some (vI (m5 (18, 0, 0) x1.toNatClampNeg))) (mset m5 18 0 0 x1.toNatClampNeg x2))) ∧ (r4 = 0 →
         Q (some (vI ((-2)))) m4)))))) : Go g h_Md_set Q 0 [(0, vO 17 0 0), (1, vI x1), (2, vI x2)] [] mem := Go.cutN o_Md_set [] 32 hv
set_option maxRecDepth 100000 in
theorem b_Md_settledSet_0 {g : Wg} {Q : Option Vl → Mm → Prop}  {mem : Mm} (hv :
    Go g h_Md_settledSet Q 4 [(0, vO 17 0 0), (1, vI 0), (2, vI 0)] [] mem) : Go g h_Md_settledSet Q 0 [(0, vO 17 0 0)] [] mem := Go.cutN o_Md_settledSet [(4, [0, 1, 2])] 6 hv
set_option maxRecDepth 100000 in
theorem b_Md_settledSet_4 {g : Wg} {Q : Option Vl → Mm → Prop} {x1 : Int32} {x2 : Int32} {mem : Mm} (hv :
    vp_in 8 429 ∧
    ((mem (18, 0, 0) 8) ≤ x2 →
     Q (some (vI x1)) mem) ∧ (¬ (mem (18, 0, 0) 8) ≤ x2 →
     RunI g h_Md_of [vO 17 0 0, vI x2, vI 6] mem (fun r1 m1 =>
      (¬ r1 = 1 →
       Go g h_Md_settledSet Q 4 [(0, vO 17 0 0), (1, vI (x1 ||| 0)), (2, vI (x2 + 1))] [] m1) ∧ (r1 = 1 →
       Go g h_Md_settledSet Q 4 [(0, vO 17 0 0), (1, vI (x1 ||| (1 <<< (x2 &&& 31)))), (2, vI (x2 + 1))] [] m1)))) : Go g h_Md_settledSet Q 4 [(0, vO 17 0 0), (1, vI x1), (2, vI x2)] [] mem := Go.cutN o_Md_settledSet [(4, [0, 1, 2])] 23 hv
set_option maxRecDepth 100000 in
theorem b_Md_settles_0 {g : Wg} {Q : Option Vl → Mm → Prop} {x1 : Int32} {mem : Mm} (hv :
    vp_in x1 24 ∧
    RunI g h_Md_of [vO 17 0 0, vI x1, vI 7] mem (fun r1 m1 =>
     RunV g h_Md_put3 [vO 17 0 0, vI x1, vI 7, vI (r1 + ((mem (18, 6, 0) x1.toNatClampNeg) >>> (10 &&& 31)))] m1 (fun m2 =>
      vp_in 10 429 ∧
      vp_in 10 429 ∧
      RunI g h_Md_of [vO 17 0 0, vI x1, vI 3] (mset m2 18 0 0 10 ((m2 (18, 0, 0) 10) + ((mem (18, 6, 0) x1.toNatClampNeg) >>> (10 &&& 31)))) (fun r3 m3 =>
       (¬ r3 = 1 →
        Q none m3) ∧ (r3 = 1 →
        RunI g h_Md_of [vO 17 0 0, vI x1, vI 7] m3 (fun r4 m4 =>
         vp_in 3 429 ∧
         (r4 < (m4 (18, 0, 0) 3) →
          Q none m4) ∧ (¬ r4 < (m4 (18, 0, 0) 3) →
          RunV g h_Md_put3 [vO 17 0 0, vI x1, vI 6, vI 1] m4 (fun m5 =>
           Q none m5)))))))) : Go g h_Md_settles Q 0 [(0, vO 17 0 0), (1, vI x1)] [] mem := Go.cutN o_Md_settles [] 47 hv
set_option maxRecDepth 100000 in
theorem b_Md_carer_0 {g : Wg} {Q : Option Vl → Mm → Prop} {x1 : Int32} {x2 : Int32} {x3 : Int32} {x4 : Int32} {mem : Mm} (hv :
    RunI g h_Md_isRoom [vO 17 0 0, vI x1] mem (fun r1 m1 =>
     (¬ r1 = 0 →
      RunI g h_Md_isShift [vI x2, vI x3, vI x4] m1 (fun r2 m2 =>
       (¬ r2 = 0 →
        vp_in 7 429 ∧
        (¬ (m2 (18, 0, 0) 7) = 12 →
         RunV g h_Md_record [vO 17 0 0] m2 (fun m3 =>
          RunV g h_Md_hires [vO 17 0 0, vI x1, vI x2, vI x3, vI x4] m3 (fun m4 =>
           vp_in 7 429 ∧
           Q (some (vI ((m4 (18, 0, 0) 7) - 1))) m4))) ∧ ((m2 (18, 0, 0) 7) = 12 →
         Q (some (vI ((-4)))) m2)) ∧ (r2 = 0 →
        Q (some (vI ((-2)))) m2))) ∧ (r1 = 0 →
      Q (some (vI ((-1)))) m1))) : Go g h_Md_carer Q 0 [(0, vO 17 0 0), (1, vI x1), (2, vI x2), (3, vI x3), (4, vI x4)] [] mem := Go.cutN o_Md_carer [] 31 hv
set_option maxRecDepth 100000 in
theorem b_Md_childAt_0 {g : Wg} {Q : Option Vl → Mm → Prop} {x1 : Int32} {mem : Mm} (hv :
    RunI g h_Md_number [vO 17 0 0, vI x1] mem (fun r1 m1 =>
     (r1 = 0 →
      ((0 : Int32) = 0 ∨ (0 : Int32) = 1) ∧ Q (some (vI 0)) m1) ∧ (¬ r1 = 0 →
      RunI g h_Md_sign [vO 17 0 0, vI 64] m1 (fun r2 m2 =>
       (r2 = 0 →
        ((0 : Int32) = 0 ∨ (0 : Int32) = 1) ∧ Q (some (vI 0)) m2) ∧ (¬ r2 = 0 →
        RunI g h_Md_digit [vO 17 0 0, vI (x1 + 1)] m2 (fun r3 m3 =>
         (r3 = 0 →
          ((0 : Int32) = 0 ∨ (0 : Int32) = 1) ∧ Q (some (vI 0)) m3) ∧ (¬ r3 = 0 →
          ((1 : Int32) = 0 ∨ (1 : Int32) = 1) ∧ Q (some (vI 1)) m3))))))) : Go g h_Md_childAt Q 0 [(0, vO 17 0 0), (1, vI x1)] [] mem := Go.cutN o_Md_childAt [] 18 hv
