/-! THE LAW'S OWN METHODS: children -/
section LAWK
variable {g : Wg} {m mem : Mm} {P : Int32 → Mm → Prop} {PV : Mm → Prop} {N : Nu} {b : Nat}
theorem or_bit (x : Int32) {v : Int32} {j : Nat} (h : v = 0 ∨ v = 1) : x ||| (v <<< (nI j &&& 31)) = if ¬ v = 0 then x ||| (1 <<< (nI j &&& 31)) else x := by
  rcases h with rfl | rfl
  · rw [if_neg (fun q => q rfl)]
    have : (0 : Int32) <<< (nI j &&& 31) = 0 := by
      rw [← Int32.toBitVec_inj, Int32.toBitVec_shiftLeft]
      show BitVec.shiftLeft (0 : BitVec 32) _ = 0
      simp
    rw [this, or_0]
  · rw [if_pos (by decide)]
theorem one_all {n : Nat} (h : n ≤ 24) : ((1 : Int32) <<< (nI n &&& 31)) - 1 = setI (fun _ => True) n := (by decide +kernel : ∀ n, n ≤ 24 → ((1 : Int32) <<< (nI n &&& 31)) - 1 = setI (fun _ => True) n) n h
theorem st_all (hO : Ok N) : ((setI (fun j => N 9 j 3 = 0) (nK N) ||| setI (fun j => N 9 j 3 = 1) (nK N)) ||| setI (fun j => N 9 j 3 = 2) (nK N)) = ((1 : Int32) <<< (N 2 0 6 &&& 31)) - 1 := by
  have h24 := hO.1.1.2.2.2
  rw [hO.1.1.2.2.1, one_all h24]
  refine has_ext fun j hj => ?_
  rw [has_or hj, has_or hj, has_setI (by omega) hj, has_setI (by omega) hj, has_setI (by omega) hj, has_setI (by omega) hj]
  constructor
  · rintro ((q | q) | q) <;> exact ⟨q.1, trivial⟩
  · rintro ⟨q, -⟩
    rcases (hO.k1 q).2.1 with e | e | e
    · exact Or.inl (Or.inl ⟨q, e⟩)
    · exact Or.inl (Or.inr ⟨q, e⟩)
    · exact Or.inr ⟨q, e⟩
theorem gets_sub {c : Nat} : getsF N c &&& (N 9 c 2 ^^^ (-1)) = 0 := by
  have h : ∀ j, j < 32 → Has (getsF N c) (nI j) → Has (N 9 c 2) (nI j) := by
    intro j hj q
    unfold getsF at q
    split at q
    · split at q
      · exact absurd q (has_0 hj)
      · exact ((has_setI (by decide) hj).mp q).2.1
    · exact absurd q (has_0 hj)
  refine has_ext fun j hj => ?_
  rw [has_bit hj, bt_and, bt_xor, bt_neg hj, Bool.and_eq_true, ← has_bit hj, Bool.xor_true, Bool.not_eq_true', ← Bool.not_eq_true, ← has_bit hj]
  exact ⟨fun q => absurd (h j hj q.1) q.2, fun q => absurd q (has_0 hj)⟩
theorem cnt24 {x : Int32} (h : ∀ j, j < 32 → Has x (nI j) → j < 24) : cnt (fun j => Has x (nI j)) 24 = pcI x := by
  rw [pcI_cnt]
  exact (cnt_more (p := fun j => Has x (nI j)) (n := 24) (m := 8) (fun j a d q => by have := h j (by omega) q; omega)).symm
theorem gets_many {c : Nat} (h : ¬ getsF N c = 0) : ¬ nI (cnt (fun j => Has (getsF N c) (nI j)) 24) < N 3 0 2 := by
  rw [cnt24 (fun j hj q => by have := gets_lt hj q; omega)]
  unfold getsF at h ⊢
  by_cases hr : roomN N (N 9 c 0) < nR N
  · rw [if_pos hr] at h ⊢
    by_cases hl : nI (pcI (openF N (roomN N (N 9 c 0)) (N 9 c 2))) < N 3 0 2
    · rw [if_pos hl] at h
      exact absurd rfl h
    · rw [if_neg hl]
      exact hl
  · rw [if_neg hr] at h
    exact absurd rfl h
theorem Q_get {c : Nat} (hO : Ok N) (hc : c < nK N) (hp : P (if N 9 c 3 = 0 then getsF N c else -5) (wr m 0 N)) : RunI g h_N_wouldGet [vO 1 0 0, vI (nI c)] (wr m 0 N) P := by
  refine T_N_wouldGet hO ?_
  unfold wgF
  rw [if_pos (has_kid hO hc), nI_clamp (by have := hO.1.1.2.2.2; omega)]
  exact hp
theorem S_Lw_children (hG : Gd b N) (hp : P 1 (wr m 0 N)) : RunI g h_Lw_children [vO 1 0 0] (wr m 0 N) P := by
  obtain ⟨hO, hPl, -, hS, hW⟩ := hG
  have hB := hO.1.1
  have h5 := hB.1.2
  have h24 := hB.2.2.2
  have hn := hB.2.2.1
  refine RunI.ofGo rfl rfl (b_Lw_children_0 ?_)
  refine loopN (G := fun j => Go g h_Lw_children (QI P) 15 [(0, vO 1 0 0), (1, vI (sumI (fun i => N 9 i 11) j)), (2, vI (sumI (fun i => N 9 i 10) j)), (3, vI (setI (fun i => ¬ N 9 i 6 = 0) j)), (4, vI (nI (cnt (fun i => ¬ N 9 i 8 = -6) j))), (5, vI 1), (6, vI (nI j))] [] (wr m 0 N)) (nK N) ?_ ?_ 0 (Nat.zero_le _)
  · refine b_Lw_children_15 (Q_nK hO ⟨fun _ => ?_, fun h => absurd (by rw [hn]; exact le_self _) h⟩)
    refine b_Lw_children_345 ⟨fun h => absurd h (by decide), fun _ => Q_paid hO ⟨fun h => absurd hS.1 h, fun _ => Q_sent hO ⟨fun h => absurd hS.2 h, fun _ => Q_set hO ⟨fun h => absurd rfl h, fun _ => Q_plan hO ⟨fun h => absurd rfl h, fun _ => Q_st (st := 0) hO (Or.inl rfl) (Q_st (st := 1) hO (Or.inr (Or.inl rfl)) (Q_st (st := 2) hO (Or.inr (Or.inr rfl)) (Q_nK hO ⟨fun h => absurd (st_all hO) h, fun _ => ⟨Or.inr rfl, qi hp⟩⟩)))⟩⟩⟩⟩⟩
  intro j hj ih
  obtain ⟨⟨k1, k2⟩, k3, k4, k5, k6, k7, k8⟩ := hO.k1 hj
  -- the end of a turn
  have r337 : Go g h_Lw_children (QI P) 337 [(0, vO 1 0 0), (1, vI (sumI (fun i => N 9 i 11) (j + 1))), (2, vI (sumI (fun i => N 9 i 10) (j + 1))), (3, vI (setI (fun i => ¬ N 9 i 6 = 0) (j + 1))), (4, vI (nI (cnt (fun i => ¬ N 9 i 8 = -6) (j + 1)))), (6, vI (nI j))] [vI 1] (wr m 0 N) := by
    refine b_Lw_children_337 ?_
    rw [nI_1]
    exact ih
  have r268 : Go g h_Lw_children (QI P) 268 [(0, vO 1 0 0), (1, vI (sumI (fun i => N 9 i 11) (j + 1))), (2, vI (sumI (fun i => N 9 i 10) (j + 1))), (3, vI (setI (fun i => ¬ N 9 i 6 = 0) (j + 1))), (4, vI (nI (cnt (fun i => ¬ N 9 i 8 = -6) (j + 1)))), (6, vI (nI j)), (7, vI (N 9 j 3))] [vI 1] (wr m 0 N) := by
    refine b_Lw_children_268 (Q_get hO hj ⟨fun h => absurd h (by decide), fun _ => ⟨fun h => ⟨fun q => absurd (if_neg h) q, fun _ => r337⟩, fun h => Q_kid (j := 2) hO hj (by decide) ?_⟩⟩)
    rw [if_pos h]
    exact ⟨fun q => absurd gets_sub q, fun _ => ⟨fun _ => r337, fun q => S_Lw_ones (Q_least hO ⟨fun z => absurd z (gets_many q), fun _ => r337⟩)⟩⟩
  have r216 : Go g h_Lw_children (QI P) 216 [(0, vO 1 0 0), (1, vI (sumI (fun i => N 9 i 11) (j + 1))), (2, vI (sumI (fun i => N 9 i 10) (j + 1))), (3, vI (setI (fun i => ¬ N 9 i 6 = 0) (j + 1))), (4, vI (nI (cnt (fun i => ¬ N 9 i 8 = -6) (j + 1)))), (6, vI (nI j)), (7, vI (N 9 j 3))] [vI 1] (wr m 0 N) :=
    b_Lw_children_216 ⟨fun h => absurd h (by decide), fun _ => Q_kid (j := 6) hO hj (by decide) ⟨fun _ => Q_kid (j := 12) hO hj (by decide) (Q_week hO ⟨fun h => absurd h (hW j hj), fun _ => r268⟩), fun h => Q_kid (j := 8) hO hj (by decide) ⟨fun q => absurd (hPl j hj h) q, fun _ => Q_kid (j := 12) hO hj (by decide) (Q_week hO ⟨fun h => absurd h (hW j hj), fun _ => r268⟩)⟩⟩⟩
  have hin : ((setI (fun i => N 9 i 3 = N 9 j 3) (nK N) >>> (nI j &&& 31)) &&& 1) = 1 := (has_setI (p := fun i => N 9 i 3 = N 9 j 3) (n := nK N) (j := j) (by omega) (by omega)).mpr ⟨hj, rfl⟩
  have r106 : ∀ (x8 xs1 xs0 : Int32), (x8 = 0 ↔ ¬ N 9 j 3 = 1) → xs0 + xs1 = nI (cnt (fun i => ¬ N 9 i 8 = -6) (j + 1)) → Go g h_Lw_children (QI P) 106 [(0, vO 1 0 0), (1, vI (sumI (fun i => N 9 i 11) (j + 1))), (2, vI (sumI (fun i => N 9 i 10) (j + 1))), (3, vI (setI (fun i => ¬ N 9 i 6 = 0) (j + 1))), (6, vI (nI j)), (7, vI (N 9 j 3)), (8, vI x8)] [vI xs1, vI xs0] (wr m 0 N) := by
    intro x8 xs1 xs0 h8 hx
    refine b_Lw_children_106 (Q_st hO k3 ?_)
    rw [hx]
    refine ⟨fun h => absurd hin h, fun _ => ⟨fun h => ?_, fun h => ?_⟩⟩
    · have h3 := h8.mp h
      exact Q_kid (j := 4) hO hj (by decide) ⟨fun q => absurd (k2 h3).1 q, fun _ => Q_kid (j := 5) hO hj (by decide) ⟨fun q => absurd (k2 h3).2 q, fun _ => Q_kid (j := 6) hO hj (by decide) ⟨fun q => absurd (k5 h3).1 q, fun _ => Q_kid (j := 8) hO hj (by decide) ⟨fun q => absurd (k5 h3).2 q, fun _ => r216⟩⟩⟩⟩
    · have h3 : N 9 j 3 = 1 := by
        by_cases z : N 9 j 3 = 1
        · exact z
        · exact absurd (h8.mpr z) h
      obtain ⟨r, hr, er⟩ := k1 h3
      refine Q_kid (j := 4) hO hj (by decide) ⟨fun q => absurd q (by rw [er]; exact nI_pos (by omega)), fun _ => Q_kid (j := 4) hO hj (by decide) ?_⟩
      rw [er]
      refine Q_kids hO hr ⟨fun q => absurd ?_ q, fun _ => r216⟩
      exact (has_setI (p := fun i => N 9 i 4 = nI r) (n := nK N) (j := j) (by omega) (by omega)).mpr ⟨hj, er⟩
  have hset : (setI (fun i => ¬ N 9 i 6 = 0) j) ||| (N 9 j 6 <<< (nI j &&& 31)) = setI (fun i => ¬ N 9 i 6 = 0) (j + 1) := by
    rw [or_bit _ k4]
    rfl
  have r50 : ∀ x8 : Int32, (x8 = 0 ↔ ¬ N 9 j 3 = 1) → Go g h_Lw_children (QI P) 50 [(0, vO 1 0 0), (1, vI (sumI (fun i => N 9 i 11) j)), (2, vI (sumI (fun i => N 9 i 10) j)), (3, vI (setI (fun i => ¬ N 9 i 6 = 0) j)), (4, vI (nI (cnt (fun i => ¬ N 9 i 8 = -6) j))), (6, vI (nI j)), (7, vI (N 9 j 3))] [vI x8] (wr m 0 N) := by
    intro x8 h8
    refine b_Lw_children_50 (Q_kid (j := 11) hO hj (by decide) (Q_kid (j := 10) hO hj (by decide) (Q_kid (j := 6) hO hj (by decide) (Q_kid (j := 8) hO hj (by decide) ?_))))
    rw [hset]
    have e1 : sumI (fun i => N 9 i 11) j + N 9 j 11 = sumI (fun i => N 9 i 11) (j + 1) := rfl
    have e2 : sumI (fun i => N 9 i 10) j + N 9 j 10 = sumI (fun i => N 9 i 10) (j + 1) := rfl
    rw [e1, e2]
    refine ⟨fun h => r106 _ _ _ h8 ?_, fun h => r106 _ _ _ h8 ?_⟩
    · have h6 : N 9 j 8 = -6 := (pln_neg hO hj).mp h
      rw [Int32.add_zero, cnt_f (p := fun i => ¬ N 9 i 8 = -6) (fun q => q h6)]
    · have h6 : ¬ N 9 j 8 = -6 := fun q => h ((pln_neg hO hj).mpr q)
      rw [nI_1, cnt_t (p := fun i => ¬ N 9 i 8 = -6) h6]
  refine b_Lw_children_15 (Q_nK hO ⟨fun h => absurd h (by rw [hn]; exact nI_ge hj (by omega)), fun _ => ⟨fun h => absurd h (by decide), fun _ => Q_kid (j := 3) hO hj (by decide) ⟨fun h => r50 0 ⟨fun _ => h, fun _ => rfl⟩, fun h => r50 1 ⟨fun q => absurd q (by decide), fun q => absurd h q⟩⟩⟩⟩)
end LAWK
