/-! THE LAW: from a fresh object to its end -/
theorem wek_0 {N : Nu} (hR : nR N = 0) (hC : nC N = 0) (hK : nK N = 0) : wekN N = nset N 2 0 7 (N 2 0 7 + 1) := by
  have e1 : hlsN N = N := by
    unfold hlsN
    rw [hR]
    rfl
  have e2 : runN stlN (hlsN N) (nK N) = N := by
    rw [e1, hK]
    rfl
  have e3 : bgwN N = nset N 2 0 7 (N 2 0 7 + 1) := by
    unfold bgwN
    rw [hC, hK]
    rfl
  unfold wekN
  rw [e2, e3, hK]
  rfl
theorem adm_0 {N : Nu} (hK : nK N = 0) : admN 24 N = N ∧ admC 24 N = 0 := by
  have h : ¬ nxtN N < nK N := by rw [hK]; exact Nat.not_lt_zero _
  exact ⟨if_neg h, if_neg h⟩
theorem hir_lq {N A : Nu} (h : Lq N A) (hO : Ok N) {r d f t : Int32} : Lq (hirN N r d f t) (hirN A r d f t) := by
  have h12 := hO.1.2
  have hC : nC A = nC N := h.sm.nC
  have oN := @hirN_o N r d f t
  have oA := @hirN_o A r d f t
  have e4 : nR (hirN N r d f t) = nR N := by
    show (hirN N r d f t 2 0 4).toNatClampNeg = _
    rw [oN ⟨by simp, by simp⟩]
  have e6 : nK (hirN N r d f t) = nK N := by
    show (hirN N r d f t 2 0 6).toNatClampNeg = _
    rw [oN ⟨by simp, by simp⟩]
  have e5 := hirN_nC (N := N) (r := r) (d := d) (f := f) (t := t) (by omega)
  intro a i j q
  unfold Lv at q
  rw [e4, e5, e6] at q
  rcases q with ⟨rfl, rfl, q1, q2⟩ | ⟨rfl, rfl, q1⟩ | ⟨rfl, q1, q2⟩ | ⟨rfl, q1, q2⟩ | ⟨rfl, q1, q2⟩
  · by_cases e : j = 5
    · subst e
      have x1 : hirN A r d f t 2 0 5 = nI (nC A + 1) := by simp [hirN, nset_ap]
      have x2 : hirN N r d f t 2 0 5 = nI (nC N + 1) := by simp [hirN, nset_ap]
      rw [x1, x2, hC]
    · rw [oN ⟨by simp, by simp [e]⟩, oA ⟨by simp, by simp [e]⟩]
      exact h.c2 q1 q2
  · rw [oN ⟨by simp, by simp⟩, oA ⟨by simp, by simp⟩]
    exact h.c3 q1
  · rw [oN ⟨by simp, by simp⟩, oA ⟨by simp, by simp⟩]
    exact h.c7 q1 q2
  · by_cases e : i = nC N
    · subst e
      have x1 : ∀ M : Nu, ∀ j, j < 5 → hirN M r d f t 8 (nC M) j = if j = 0 then r else if j = 1 then d else if j = 2 then f else if j = 3 then t else 0 := by
        intro M j hj
        rcases (show j = 0 ∨ j = 1 ∨ j = 2 ∨ j = 3 ∨ j = 4 by omega) with rfl | rfl | rfl | rfl | rfl <;> simp [hirN, nset_ap]
      have x2 := x1 A j q2
      rw [hC] at x2
      rw [x2, x1 N j q2]
    · rw [oN ⟨by simp [e], by simp⟩, oA ⟨by rw [hC]; simp [e], by simp⟩]
      exact h.c8 (by omega) q2
  · rw [oN ⟨by simp, by simp⟩, oA ⟨by simp, by simp⟩]
    exact h.c9 q1 q2
section LAW
variable {g : Wg} {m mem : Mm} {P : Int32 → Mm → Prop} {N : Nu} {b : Nat}
/-- behind the turns: saving, weeks, undoing, restoring -/
theorem L_403 (hG : Gd b N) (hH : Hx m) (hb : b < 2 ^ 27) (hp : ∀ m, P 1 m) : Go g h_Lw_law (QI P) 403 [(1, vO 1 0 0), (3, vI 1)] [] (wr m 0 N) := by
  have hO := hG.1
  have st : ∀ {C : Nu}, Lq N C → setI (fun j => C 9 j 3 = 1) (nK C) = setI (fun j => N 9 j 3 = 1) (nK N) := by
    intro C hl
    rw [hl.sm.nK]
    exact setI_congr fun j hj => by rw [hl.c9 hj (j := 3) (by decide)]
  have hw5 := weks_pos (w := 5) hG (by omega)
  have hG5 := gd_weks hG 5 (by omega)
  refine b_Lw_law_403 (Q_week hO (Q_st (st := 1) hO (Or.inr (Or.inl rfl)) (Q_paid hO ⟨fun q => absurd q (by decide), fun _ => C_save1 hO hH fun m1 x1 l1 f1 => ⟨fun q => absurd rfl q, fun _ => C_weeks (w := 5) hO x1 (by decide) (by decide) hw5 fun m2 d2 => ⟨fun q => absurd (weks_78 5).1 q, fun _ => ?_⟩⟩⟩)))
  obtain ⟨⟨old, sz, hn2, l2⟩, r2, g2⟩ := d2
  have hGr : Gd b (rd m2 (2 + (old + sz) % 7)) := hG.lq l2
  refine C_undo hn2 rfl hGr.1 fun B m3 lB s3 => ?_
  have lNB : Lq N B := lB.trans l2
  have hGB := hG.lq lNB
  have hsz : sz < 2 ^ 31 := by have := hn2.2.1; omega
  have hw3 := weks_pos (w := 3) hGB (by omega)
  refine ⟨fun q => absurd q (nI_pos hsz), fun _ => Q_st (st := 1) hGB.1 (Or.inr (Or.inl rfl)) ⟨fun q => absurd (st lNB) q, fun _ => C_weeks (w := 3) hGB.1 s3.1 (by decide) (by decide) hw3 fun m4 d4 => ⟨fun q => absurd ?_ q, fun _ => ?_⟩⟩⟩
  · rw [(weks_78 3).1, lNB.c2 (j := 7) (by decide) (by decide)]
    rfl
  · have hG3 := gd_weks hGB 3 (by omega)
    have er : rd m4 10 = rd m1 10 := d4.sf.2.1.trans (s3.2.1.trans r2)
    have ef : m4 (13, 0, 0) 1 = 1 := by
      rw [d4.sf.2.2, s3.2.2, g2]
      exact f1
    have hGs : Gd b (rd m1 10) := hG.lq l1
    have h7 : rd m1 10 2 0 7 = N 2 0 7 := l1.c2 (by decide) (by decide)
    have hpos : ¬ rd m1 10 2 0 7 < 0 := by
      obtain ⟨p, w, -, hw, -, q7⟩ := hGs.2.2.1
      rw [q7]
      exact nI_pos (by omega)
    refine C_restore1 hG3.1 d4.sf.1 ef er hGs.1 hpos fun C m5 lC s5 => ⟨fun q => absurd h7 q, fun _ => ?_⟩
    have lNC : Lq N C := lC.trans l1
    have hGC := hG.lq lNC
    refine b_Lw_law_495 ⟨fun q => absurd q (by decide), fun _ => Q_st (st := 1) hGC.1 (Or.inr (Or.inl rfl)) ⟨fun q => absurd (st lNC) q, fun _ => Q_paid hGC.1 ⟨fun q => absurd (lNC.c2 (by decide) (by decide)) q, fun _ => S_Lw_rooms hGC.1 ⟨fun q => absurd q (by decide), fun _ => S_Lw_children hGC ⟨fun q => absurd q (by decide), fun _ => ⟨Or.inr rfl, qi (hp _)⟩⟩⟩⟩⟩⟩
/-- the turns -/
theorem L_350 (hL : (gX g).2.1 ≤ 260) (hG : Gd b N) (hH : Hx m) (hC : 0 < nC N) (hb : b < 2 ^ 20) (hp : ∀ m, P 1 m) : Go g h_Lw_law (QI P) 350 [(0, vO 20 0 0), (1, vO 1 0 0), (3, vI 1), (4, vI 0)] [] (wr m 0 N) := by
  refine loopN (G := fun t => ∀ m N, Hx m → Gd (b + 100 * t) N → 0 < nC N → Go g h_Lw_law (QI P) 350 [(0, vO 20 0 0), (1, vO 1 0 0), (3, vI 1), (4, vI (nI t))] [] (wr m 0 N)) 30 ?_ ?_ 0 (Nat.zero_le _) m N hH hG hC
  · intro m N hH hG hC
    exact b_Lw_law_350 ⟨fun _ => L_403 hG hH (by omega) hp, fun h => absurd (by decide) h⟩
  intro t ht ih m N hH hG hC
  refine b_Lw_law_350 ⟨fun h => absurd h (nI_ge (b := 30) ht (by omega)), fun _ => ⟨fun h => absurd h (by decide), fun _ => ?_⟩⟩
  rw [show (14 : Int32) + nI t = nI (14 + t) from nI_add 14 t]
  refine S_Lw_cell hL (by omega) fun n hn => S_Lw_acts hG hH hC (by omega) hn fun m' N' hH' hG' hC' => ⟨fun q => absurd q (by decide), fun _ => S_Lw_rooms hG'.1 ⟨fun q => absurd q (by decide), fun _ => S_Lw_children hG' ⟨fun q => absurd q (by decide), fun _ => b_Lw_law_396 ?_⟩⟩⟩
  rw [nI_1]
  exact ih m' N' hH' (by rw [show b + 100 * (t + 1) = b + 100 * t + 100 by omega]; exact hG') hC'
theorem sum_neg {f : Nat → Int32} (j : Nat) : (0 - sumI f j) - f j = 0 - sumI f (j + 1) := by
  rw [Int32.sub_sub]
  rfl
theorem sum_end (S T : Int32) : (0 - S) + T = T - S := by
  rw [Int32.zero_sub, Int32.add_comm, ← Int32.sub_eq_add_neg]
/-- the arguments that the law makes out of a cell -/
theorem rem_of {z k d : Nat} {s : Int32} (hz : z < 2 ^ 31) (hs : ((s &&& 31).toBitVec.smod 32).toNat = k) (h0 : 0 < d) (hd : d < 2 ^ 31) : nI z >>> (s &&& 31) - nI z >>> (s &&& 31) / nI d * nI d = nI (z / 2 ^ k % d) := by
  rw [shr_N hz hs]
  exact pk_rem (Nat.lt_of_le_of_lt (Nat.div_le_self _ _) hz) h0 hd
/-- one carer -/
theorem L_150 {k c x : Nat} (hL : (gX g).2.1 ≤ 260) (hG : Gd b N) (hH : Hx m) (hk : k < 3) (hc : c < 3) (hR : nR N = k + 1) (hC : nC N = 3 * k + c) (ih : ∀ m N, Hx m → Gd b N → nR N = k + 1 → nC N = 3 * k + (c + 1) → Go g h_Lw_law (QI P) 150 [(0, vO 20 0 0), (1, vO 1 0 0), (2, vI (nI x)), (3, vI 1), (4, vI (nI k)), (6, vI (nI (c + 1)))] [] (wr m 0 N)) : Go g h_Lw_law (QI P) 150 [(0, vO 20 0 0), (1, vO 1 0 0), (2, vI (nI x)), (3, vI 1), (4, vI (nI k)), (6, vI (nI c))] [] (wr m 0 N) := by
  have hO := hG.1
  have hkR : k < nR N := by omega
  refine b_Lw_law_150 ⟨fun h => absurd h (nI_ge (b := 3) hc (by omega)), fun _ => ⟨fun h => absurd h (by decide), fun _ => ?_⟩⟩
  rw [show ((4 : Int32) + ((3 : Int32) * nI k)) + nI c = nI (4 + 3 * k + c) by rw [show (3 : Int32) * nI k = nI (3 * k) from pk_mul 3 k, show (4 : Int32) + nI (3 * k) = nI (4 + 3 * k) from nI_add 4 _, nI_add]]
  refine S_Lw_cell hL (by omega) fun z hz => ⟨by decide, by decide, by decide, ?_⟩
  have ed : (1 : Int32) + (nI z - nI z / 31 * 31) = nI (1 + z % 31) := by
    rw [← nI_add]
    exact congrArg (fun y => (1 : Int32) + y) (pk_rem (d := 31) hz (by omega) (by omega))
  have ef : nI z >>> (5 &&& 31) - nI z >>> (5 &&& 31) / 3 * 3 = nI (z / 2 ^ 5 % 3) := rem_of (s := 5) (k := 5) (d := 3) hz (by decide) (by decide) (by decide)
  have et : (6 : Int32) + (nI z >>> (7 &&& 31) - nI z >>> (7 &&& 31) / 5 * 5) = nI (6 + z / 2 ^ 7 % 5) := by
    rw [← nI_add]
    exact congrArg (fun y => (6 : Int32) + y) (rem_of (s := 7) (k := 7) (d := 5) hz (by decide) (by decide) (by decide))
  rw [ed, ef, et]
  have hs : ShiftB (nI (1 + z % 31)) (nI (z / 2 ^ 5 % 3)) (nI (6 + z / 2 ^ 7 % 5)) := by
    refine ⟨(win (a := 1) (b := 31) (by omega) (by decide) (by decide)).mpr ⟨by omega, by omega⟩, (win (a := 0) (b := 9) (by omega) (by decide) (by decide)).mpr ⟨by omega, by omega⟩, nI_ge (by omega) (by omega), nI_nlt (b := 6 + z / 2 ^ 7 % 5) (a := 10) (by omega) (by omega)⟩
  -- what the law's second reading of the cell gives is the same
  have after : ∀ m', Hx m' → ∀ r2, r2 = allF (hirN N (nI k) (nI (1 + z % 31)) (nI (z / 2 ^ 5 % 3)) (nI (6 + z / 2 ^ 7 % 5))) k - allF N k → Go g h_Lw_law (QI P) 241 [(0, vO 20 0 0), (1, vO 1 0 0), (2, vI (nI x)), (4, vI (nI k)), (6, vI (nI c)), (7, vI (nI z)), (8, vI r2), (9, vI (0 - allF N k))] [] (wr m' 0 N) := by
    intro m' hH' r2 hr2
    refine b_Lw_law_241 ⟨by decide, by decide, by decide, ?_⟩
    rw [ed, ef, et]
    generalize nI (1 + z % 31) = d at hs hr2
    generalize nI (z / 2 ^ 5 % 3) = f at hs hr2
    generalize nI (6 + z / 2 ^ 7 % 5) = t at hs hr2
    have h12 : nC N < 12 := by omega
    refine C_carer hO hH' hkR hs h12 fun m2 d2 => ?_
    have hG' := gd_hir (r := nI k) hG hs h12
    have hR' : nR (hirN N (nI k) d f t) = nR N := (hir_bd hO).2
    have hC' := hirN_nC (N := N) (r := nI k) (d := d) (f := f) (t := t) (by omega)
    refine ⟨fun q => absurd ?_ q, fun _ => b_Lw_law_285 ?_⟩
    · rw [show (3 : Int32) * nI k = nI (3 * k) from pk_mul 3 k, nI_add, hC]
    · generalize hirN N (nI k) d f t = N' at hG' hR' hC' hr2
      have lp : Go g h_Lw_law (QI P) 289 [(0, vO 20 0 0), (1, vO 1 0 0), (2, vI (nI x)), (3, vI 1), (4, vI (nI k)), (6, vI (nI c)), (8, vI r2), (9, vI ((0 - allF N k) + sumI (fun s => placesF N' k s 1) 0)), (10, vI (nI 0))] [] (wr m2 0 N') := by
        refine loopN (G := fun j => Go g h_Lw_law (QI P) 289 [(0, vO 20 0 0), (1, vO 1 0 0), (2, vI (nI x)), (3, vI 1), (4, vI (nI k)), (6, vI (nI c)), (8, vI r2), (9, vI ((0 - allF N k) + sumI (fun s => placesF N' k s 1) j)), (10, vI (nI j))] [] (wr m2 0 N')) 10 ?_ ?_ 0 (Nat.zero_le _)
        · refine b_Lw_law_289 ⟨fun _ => ⟨fun h => absurd h (by decide), fun _ => ⟨fun q => absurd ?_ q, fun _ => b_Lw_law_334 ?_⟩⟩, fun h => absurd (by decide) h⟩
          · rw [sum_end, hr2]
            rfl
          · rw [nI_1]
            exact ih m2 N' d2.sf.1 hG' (by rw [hR']; exact hR) (by rw [hC', hC]; omega)
        · intro j hj ihj
          refine b_Lw_law_289 ⟨fun h => absurd h (nI_ge (b := 10) hj (by omega)), fun _ => Q_plc hG'.1 (by rw [hR']; exact hkR) hj ?_⟩
          rw [Int32.add_assoc, nI_1]
          exact ihj
      rw [show sumI (fun s => placesF N' k s 1) 0 = 0 from rfl, Int32.add_zero] at lp
      exact lp
  refine C_moreBy hO hH hkR hs fun A m1 hA s1 => ?_
  have h2 : allF (hirN A (nI k) (nI (1 + z % 31)) (nI (z / 2 ^ 5 % 3)) (nI (6 + z / 2 ^ 7 % 5))) k = allF (hirN N (nI k) (nI (1 + z % 31)) (nI (z / 2 ^ 5 % 3)) (nI (6 + z / 2 ^ 7 % 5))) k := allF_lq (hir_lq hA hO) (by rw [(hir_bd hO).2]; exact hkR)
  have fin := after m1 s1.1 (allF (hirN A (nI k) (nI (1 + z % 31)) (nI (z / 2 ^ 5 % 3)) (nI (6 + z / 2 ^ 7 % 5))) k - allF N k) (by rw [h2])
  generalize allF (hirN A (nI k) (nI (1 + z % 31)) (nI (z / 2 ^ 5 % 3)) (nI (6 + z / 2 ^ 7 % 5))) k - allF N k = r2 at fin ⊢
  have lp : Go g h_Lw_law (QI P) 212 [(0, vO 20 0 0), (1, vO 1 0 0), (2, vI (nI x)), (4, vI (nI k)), (6, vI (nI c)), (7, vI (nI z)), (8, vI r2), (9, vI (0 - sumI (fun s => placesF N k s 1) 0)), (10, vI (nI 0))] [] (wr m1 0 N) := by
    refine loopN (G := fun j => Go g h_Lw_law (QI P) 212 [(0, vO 20 0 0), (1, vO 1 0 0), (2, vI (nI x)), (4, vI (nI k)), (6, vI (nI c)), (7, vI (nI z)), (8, vI r2), (9, vI (0 - sumI (fun s => placesF N k s 1) j)), (10, vI (nI j))] [] (wr m1 0 N)) 10 ?_ ?_ 0 (Nat.zero_le _)
    · exact b_Lw_law_212 ⟨fun _ => fin, fun h => absurd (by decide) h⟩
    · intro j hj ihj
      refine b_Lw_law_212 ⟨fun h => absurd h (nI_ge (b := 10) hj (by omega)), fun _ => Q_plc hO hkR hj ?_⟩
      rw [sum_neg, nI_1]
      exact ihj
  rw [show (0 : Int32) - sumI (fun s => placesF N k s 1) 0 = 0 from (by decide : (0 : Int32) - 0 = 0)] at lp
  exact lp
/-- one room and its carers -/
theorem L_67 {k K x : Nat} (hL : (gX g).2.1 ≤ 260) (hG : Gd b N) (hH : Hx m) (hx : x < 2 ^ 31) (hKx : K = 2 + x / 2 ^ 4 % 2) (hk : k < K) (hR : nR N = k) (hC : nC N = 3 * k) (ih : ∀ m N, Hx m → Gd b N → nR N = k + 1 → nC N = 3 * (k + 1) → Go g h_Lw_law (QI P) 67 [(0, vO 20 0 0), (1, vO 1 0 0), (2, vI (nI x)), (3, vI 1), (4, vI (nI (k + 1)))] [] (wr m 0 N)) : Go g h_Lw_law (QI P) 67 [(0, vO 20 0 0), (1, vO 1 0 0), (2, vI (nI x)), (3, vI 1), (4, vI (nI k))] [] (wr m 0 N) := by
  have hO := hG.1
  have hK3 : K ≤ 3 := by omega
  have e2 : (2 : Int32) + (nI x >>> (4 &&& 31) - nI x >>> (4 &&& 31) / 2 * 2) = nI K := by
    rw [hKx, ← nI_add]
    exact congrArg (fun y => (2 : Int32) + y) (rem_of (s := 4) (k := 4) (d := 2) hx (by decide) (by decide) (by decide))
  refine b_Lw_law_67 ⟨by decide, ?_⟩
  rw [e2]
  refine ⟨fun h => absurd h (nI_ge hk (by omega)), fun _ => ⟨fun h => absurd h (by decide), fun _ => ?_⟩⟩
  rw [show (1 : Int32) + nI k = nI (1 + k) from nI_add 1 k]
  refine S_Lw_cell hL (by omega) fun y hy => ⟨by decide, by decide, by decide, by decide, by decide, ?_⟩
  have ef : nI y - nI y / 20 * 20 = nI (y % 20) := pk_rem (d := 20) hy (by omega) (by omega)
  have et : (nI (y % 20) + (1 : Int32)) + (nI y >>> (5 &&& 31) - nI y >>> (5 &&& 31) / 30 * 30) = nI (y % 20 + 1 + y / 2 ^ 5 % 30) := by
    rw [nI_1, ← nI_add (y % 20 + 1) (y / 2 ^ 5 % 30)]
    exact congrArg (fun z => nI (y % 20 + 1) + z) (rem_of (s := 5) (k := 5) (d := 30) hy (by decide) (by decide) (by decide))
  have ec : (1 : Int32) + (nI y >>> (10 &&& 31) - nI y >>> (10 &&& 31) / 12 * 12) = nI (1 + y / 2 ^ 10 % 12) := by
    rw [← nI_add]
    exact congrArg (fun z => (1 : Int32) + z) (rem_of (s := 10) (k := 10) (d := 12) hy (by decide) (by decide) (by decide))
  have er : (1 : Int32) + (nI y >>> (14 &&& 31) - nI y >>> (14 &&& 31) / 5 * 5) = nI (1 + y / 2 ^ 14 % 5) := by
    rw [← nI_add]
    exact congrArg (fun z => (1 : Int32) + z) (rem_of (s := 14) (k := 14) (d := 5) hy (by decide) (by decide) (by decide))
  rw [ef, et, ec, er]
  have hb : RoomB (nI (y % 20)) (nI (y % 20 + 1 + y / 2 ^ 5 % 30)) (nI (1 + y / 2 ^ 10 % 12)) (nI (1 + y / 2 ^ 14 % 5)) :=
    ⟨(win (a := 0) (b := 71) (by omega) (by decide) (by decide)).mpr ⟨by omega, by omega⟩, nI_ge (by omega) (by omega), nI_le (b := 72) (by omega) (by omega), (win (a := 1) (b := 40) (by omega) (by decide) (by decide)).mpr ⟨by omega, by omega⟩, (win (a := 1) (b := 12) (by omega) (by decide) (by decide)).mpr ⟨by omega, by omega⟩⟩
  generalize nI (y % 20 + 1 + y / 2 ^ 5 % 30) = t at hb
  generalize nI (y % 20) = f at hb
  generalize nI (1 + y / 2 ^ 10 % 12) = c at hb
  generalize nI (1 + y / 2 ^ 14 % 5) = r at hb
  refine C_room hO hH hb (by omega) fun m1 d1 => ⟨fun q => absurd (by rw [hR]) q, fun _ => b_Lw_law_146 (b_Lw_law_147 ?_)⟩
  have hG' := gd_addR hG hb (by omega)
  have hR' := addRN_nR (N := N) (f := f) (t := t) (c := c) (r := r) (by omega)
  have hC' : nC (addRN N f t c r) = nC N := by
    show (addRN N f t c r 2 0 5).toNatClampNeg = _
    rw [addRN_o ⟨by simp, by simp⟩]
  generalize addRN N f t c r = N' at hG' hR' hC'
  refine loopN (G := fun c => ∀ m N, Hx m → Gd b N → nR N = k + 1 → nC N = 3 * k + c → Go g h_Lw_law (QI P) 150 [(0, vO 20 0 0), (1, vO 1 0 0), (2, vI (nI x)), (3, vI 1), (4, vI (nI k)), (6, vI (nI c))] [] (wr m 0 N)) 3 ?_ ?_ 0 (Nat.zero_le _) m1 N' d1.sf.1 hG' (by omega) (by omega)
  · intro m N hH hG hR hC
    refine b_Lw_law_150 ⟨fun _ => ?_, fun h => absurd (by decide) h⟩
    rw [nI_1]
    exact ih m N hH hG hR (by omega)
  · intro c hc ihc m N hH hG hR hC
    exact L_150 hL hG hH (by omega) hc hR hC ihc
/-- from a fresh object on -/
theorem L_8 (hL : (gX g).2.1 ≤ 260) (hG : Gd 0 N) (hH : Hx m) (h0 : nR N = 0 ∧ nC N = 0 ∧ nK N = 0) (h7 : N 2 0 7 = 0) (h33 : N 3 0 3 = 3) (h32 : N 3 0 2 = 2) (hp : ∀ m, P 1 m) : Go g h_Lw_law (QI P) 8 [(0, vO 20 0 0), (1, vO 1 0 0)] [] (wr m 0 N) := by
  obtain ⟨hR, hC, hK⟩ := h0
  refine b_Lw_law_8 (S_Lw_cell (k := 0) hL (by omega) fun x hx => ?_)
  have hw1 := weks_pos (w := 1) hG (by omega)
  have e1 : runN (fun _ => wekN) N 1 = nset N 2 0 7 (N 2 0 7 + 1) := wek_0 hR hC hK
  have hG1 := gd_weks hG 1 (by omega)
  refine C_weeks (w := 1) hG.1 hH (by decide) (by decide) hw1 fun m1 d1 => ?_
  rw [e1] at hG1 ⊢
  have n1 : Sm N (nset N 2 0 7 (N 2 0 7 + 1)) := Sm.rfl'.n2 (by decide)
  refine ⟨fun q => absurd (by rw [ns_s, h7]; rfl) q, fun _ => ?_⟩
  have s33 : nset N 2 0 7 (N 2 0 7 + 1) 3 0 3 = 3 := by rw [ns_t (by decide)]; exact h33
  have s32 : nset N 2 0 7 (N 2 0 7 + 1) 3 0 2 = 2 := by rw [ns_t (by decide)]; exact h32
  generalize nset N 2 0 7 (N 2 0 7 + 1) = N1 at hG1 n1 s33 s32 ⊢
  obtain ⟨a1, a2⟩ := adm_0 (N := N1) (by rw [n1.nK]; exact hK)
  refine C_adm hG1.1 d1.sf.1 fun m2 d2 => ?_
  rw [a1, a2]
  refine ⟨fun q => absurd rfl q, fun _ => ⟨by decide, ?_⟩⟩
  have e3 : nI x - nI x / 4 * 4 = nI (x % 4) := pk_rem (d := 4) hx (by omega) (by omega)
  rw [e3]
  have v3 : ¬ nI (x % 4) < 0 := nI_pos (by omega)
  refine C_set (j := 3) hG1.1 d2.sf.1 (by decide) rfl ⟨v3, nI_nlt (b := x % 4) (a := 9) (by omega) (by omega)⟩ fun m3 d3 => ⟨fun q => absurd s33 q, fun _ => ⟨by decide, ?_⟩⟩
  have e4 : (1 : Int32) + (nI x >>> (2 &&& 31) - nI x >>> (2 &&& 31) / 3 * 3) = nI (1 + x / 2 ^ 2 % 3) := by
    rw [← nI_add]
    exact congrArg (fun z => (1 : Int32) + z) (rem_of (s := 2) (k := 2) (d := 3) hx (by decide) (by decide) (by decide))
  rw [e4]
  have hG3 := gd_set (j := 3) hG1 v3
  have n3 : Sm N (nset N1 3 0 3 (nI (x % 4))) := n1.nt (by decide)
  have t32 : nset N1 3 0 3 (nI (x % 4)) 3 0 2 = 2 := by rw [ns_j (by decide)]; exact s32
  generalize nset N1 3 0 3 (nI (x % 4)) = N3 at hG3 n3 t32 ⊢
  have v2 : ¬ nI (1 + x / 2 ^ 2 % 3) < 0 := nI_pos (by omega)
  refine C_set (j := 2) hG3.1 d3.sf.1 (by decide) rfl ⟨nI_nlt (b := 1) (a := 1 + x / 2 ^ 2 % 3) (by omega) (by omega), nI_nlt (b := 1 + x / 2 ^ 2 % 3) (a := 10) (by omega) (by omega)⟩ fun m4 d4 => ⟨fun q => absurd t32 q, fun _ => b_Lw_law_63 ?_⟩
  have hG4 := gd_set (j := 2) hG3 v2
  have n4 : Sm N (nset N3 3 0 2 (nI (1 + x / 2 ^ 2 % 3))) := n3.nt (by decide)
  generalize nset N3 3 0 2 (nI (1 + x / 2 ^ 2 % 3)) = N4 at hG4 n4 ⊢
  have hK3 : 2 + x / 2 ^ 4 % 2 ≤ 3 := by omega
  refine loopN (G := fun k => ∀ m N, Hx m → Gd (0 + 1) N → nR N = k → nC N = 3 * k → Go g h_Lw_law (QI P) 67 [(0, vO 20 0 0), (1, vO 1 0 0), (2, vI (nI x)), (3, vI 1), (4, vI (nI k))] [] (wr m 0 N)) (2 + x / 2 ^ 4 % 2) ?_ ?_ 0 (Nat.zero_le _) m4 N4 d4.sf.1 hG4 (by rw [n4.nR]; exact hR) (by rw [n4.nC]; exact hC)
  · intro m N hH hG hR hC
    have e2 : (2 : Int32) + (nI x >>> (4 &&& 31) - nI x >>> (4 &&& 31) / 2 * 2) = nI (2 + x / 2 ^ 4 % 2) := by
      rw [← nI_add]
      exact congrArg (fun y => (2 : Int32) + y) (rem_of (s := 4) (k := 4) (d := 2) hx (by decide) (by decide) (by decide))
    refine b_Lw_law_67 ⟨by decide, ?_⟩
    rw [e2]
    exact ⟨fun _ => b_Lw_law_347 (L_350 hL hG hH (by omega) (by omega) hp), fun h => absurd (le_self _) h⟩
  · intro k hk ihk m N hH hG hR hC
    exact L_67 hL hG hH hx rfl hk hR hC ihk
end LAW
