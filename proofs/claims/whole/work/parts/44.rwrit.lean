/-! THE REFERENCE'S CALLS THAT CHANGE SOMETHING -/
section RW
variable {g : Wg} {m m' : Mm} {v : Nat → Int32} {P : Int32 → Mm → Prop} {PV : Mm → Prop} {N : Nu}
theorem lowS {j : Nat} (hj : j < 5) : staV 0 j = if j = 2 then 1 else 0 := (by decide : ∀ j, j < 5 → staV 0 j = if j = 2 then 1 else 0) j hj
theorem S_Md_set {x y : Int32} (hR : RelR N v) (hO : Ok N) (hH : ∀ j, j < 5 → m (18, 5, 0) j = staV 1 j) (hrec : Rcd m v m') (h0 : ¬ (¬ x < 0 ∧ ¬ 4 < x) → P (-2) (wv m v)) (h1 : ∀ j, j < 5 → x = nI j → ¬ (¬ y < staV 0 j ∧ ¬ staV 1 j < y) → P (-2) (wv m v)) (h2 : ∀ j, j < 5 → x = nI j → (¬ y < staV 0 j ∧ ¬ staV 1 j < y) → ∀ v', RelR (nset N 3 0 j y) v' → P (N 3 0 j) (wv m' v')) : RunI g h_Md_set [vO 17 0 0, vI x, vI y] (wv m v) P := by
  refine RunI.ofGo rfl rfl (b_Md_set_0 (S_Md_in ?_))
  simp only [b2i_eq0, Decidable.not_not]
  refine ⟨fun a => qi (h0 a), fun a => ?_⟩
  obtain ⟨j, hj, rfl⟩ := nI_of2 (M := 4) (n := 4) (by decide) a.1 (Int32.not_lt.mp a.2)
  have hj5 : j < 5 := by omega
  have e := nI_clamp (n := j) (by omega)
  have i5 := vp_in_nI (n := j) (N := 5) hj5 (by decide)
  have i4 := vp_in_nI (n := j) (N := 429) (by omega) (by decide)
  have hm5 : wv m v (18, 5, 0) j = staV 1 j := by rw [wv_ne (by simp)]; exact hH j hj5
  have hlow := lowS hj5
  have fin : (¬ y < staV 0 j ∧ ¬ staV 1 j < y) → RunV g h_Md_record [vO 17 0 0] (wv m v) (fun m3 => vp_in (nI j) 429 ∧ vp_in (nI j) 429 ∧ QI P (some (vI (m3 (18, 0, 0) j))) (mset m3 18 0 0 j y)) := by
    intro hb
    refine S_Md_record hrec ⟨i4, i4, qi ?_⟩
    rw [wv_at, mv, hR.s hj5]
    exact h2 j hj5 rfl hb _ (RelR.set hR (t := 3) (i := 0) (j := j) (Or.inr (Or.inl ⟨rfl, rfl, hj5⟩)) y (fun q => absurd q (by decide)) (fun q => absurd q.1 (by decide)))
  rw [e, hm5]
  refine ⟨fun b => ⟨i5, S_Md_in ?_⟩, fun b => ⟨i5, S_Md_in ?_⟩⟩ <;> simp only [b2i_eq0, Decidable.not_not]
  · have hne : ¬ j = 2 := fun q => b (by rw [q]; rfl)
    rw [if_neg hne] at hlow
    rw [← hlow]
    exact ⟨fun c => fin c, fun c => qi (h1 j hj5 rfl c)⟩
  · have he : j = 2 := (nI_eq (b := 2) (by omega) (by omega)).mp b
    rw [if_pos he] at hlow
    rw [← hlow]
    exact ⟨fun c => fin c, fun c => qi (h1 j hj5 rfl c)⟩
theorem succ_lt {f t : Int32} (hf : ¬ f < 0 ∧ ¬ 71 < f) : t < f + 1 ↔ t ≤ f := by
  obtain ⟨n, hn, rfl⟩ := nI_of2 (M := 71) (n := 71) (by decide) hf.1 (Int32.not_lt.mp hf.2)
  rw [nI_1, Int32.lt_iff_toInt_lt, Int32.le_iff_toInt_le, nI_toInt (by omega), nI_toInt (by omega)]
  omega
theorem S_Md_room {f t c r : Int32} (hR : RelR N v) (hO : Ok N) (hrec : Rcd m v m') (h1 : ¬ RoomB f t c r → P (-2) (wv m v)) (h2 : RoomB f t c r → nR N = 5 → P (-4) (wv m v)) (h3 : RoomB f t c r → nR N < 5 → ∀ v', RelR (addRN N f t c r) v' → P (nI (nR N)) (wv m' v')) : RunI g h_Md_room [vO 17 0 0, vI f, vI t, vI c, vI r] (wv m v) P := by
  have h5 := hO.1.1.1.2
  refine RunI.ofGo rfl rfl (b_Md_room_0 (S_Md_in ?_))
  simp only [b2i_eq0, Decidable.not_not]
  refine ⟨fun a => qi (h1 fun q => a q.1), fun a1 => S_Md_in ?_⟩
  simp only [b2i_eq0, Decidable.not_not, succ_lt a1]
  refine ⟨fun a => qi (h1 fun q => a ⟨q.2.1, Int32.not_lt.mpr q.2.2.1⟩), fun a2 => S_Md_in ?_⟩
  simp only [b2i_eq0, Decidable.not_not]
  refine ⟨fun a => qi (h1 fun q => a q.2.2.2.1), fun a3 => S_Md_in ?_⟩
  simp only [b2i_eq0, Decidable.not_not]
  refine ⟨fun a4 => ⟨vp_in_nI (n := 6) (by decide) (by decide), ?_⟩, fun a => qi (h1 fun q => a q.2.2.2.2)⟩
  have hb : RoomB f t c r := ⟨a1, a2.1, Int32.not_lt.mp a2.2, a3, a4⟩
  rw [wv_at, hR.v6, hO.1.1.1.1]
  refine ⟨fun b => S_Md_record hrec ?_, fun b => qi (h2 hb ((nI_eq (b := 5) (by omega) (by omega)).mp b))⟩
  have hlt : nR N < 5 := by
    have : ¬ nR N = 5 := fun q => b (by rw [q]; rfl)
    omega
  have i0 : (13 + (4 * nI (nR N)) : Int32) = nI (13 + 4 * nR N + 0) := ix2 13 4 _
  have i1 : ((13 + (4 * nI (nR N))) + 1 : Int32) = nI (13 + 4 * nR N + 1) := ix3 13 4 _ 1
  have i2 : ((13 + (4 * nI (nR N))) + 2 : Int32) = nI (13 + 4 * nR N + 2) := ix3 13 4 _ 2
  have i3 : ((13 + (4 * nI (nR N))) + 3 : Int32) = nI (13 + 4 * nR N + 3) := ix3 13 4 _ 3
  have i6 : vp_in 6 429 := vp_in_nI (n := 6) (by decide) (by decide)
  rw [wv_at, hR.v6, hO.1.1.1.1, i1, i2, i3, i0, nI_clamp (n := 13 + 4 * nR N + 0) (by omega), nI_clamp (n := 13 + 4 * nR N + 1) (by omega), nI_clamp (n := 13 + 4 * nR N + 2) (by omega), nI_clamp (n := 13 + 4 * nR N + 3) (by omega)]
  simp only [mv, wv_at]
  rw [pk_un (show ¬ 6 = 13 + 4 * nR N + 3 by omega), pk_un (show ¬ 6 = 13 + 4 * nR N + 2 by omega), pk_un (show ¬ 6 = 13 + 4 * nR N + 1 by omega), pk_un (show ¬ 6 = 13 + 4 * nR N + 0 by omega), hR.v6, hO.1.1.1.1, nI_1, pk_us, nI_pred]
  exact ⟨i6, vp_in_nI (by omega) (by omega), vp_in_nI (by omega) (by omega), vp_in_nI (by omega) (by omega), vp_in_nI (by omega) (by omega), i6, i6, i6, qi (h3 hb hlt _ (hR.addR hlt))⟩
theorem S_Md_carer {r d f t : Int32} (hR : RelR N v) (hO : Ok N) (hrec : Rcd m v m') (h0 : ¬ (¬ r < 0 ∧ ¬ N 2 0 4 ≤ r) → P (-1) (wv m v)) (h1 : ¬ ShiftB d f t → (¬ r < 0 ∧ ¬ N 2 0 4 ≤ r) → P (-2) (wv m v)) (h2 : (¬ r < 0 ∧ ¬ N 2 0 4 ≤ r) → ShiftB d f t → nC N = 12 → P (-4) (wv m v)) (h3 : (¬ r < 0 ∧ ¬ N 2 0 4 ≤ r) → ShiftB d f t → nC N < 12 → ∀ v', RelR (hirN N r d f t) v' → P (nI (nC N)) (wv m' v')) : RunI g h_Md_carer [vO 17 0 0, vI r, vI d, vI f, vI t] (wv m v) P := by
  have h12 := hO.1.2
  refine RunI.ofGo rfl rfl (b_Md_carer_0 (S_Md_isRoom hR hO.1.1 ?_))
  simp only [b2i_eq0, Decidable.not_not]
  refine ⟨fun a => S_Md_isShift ?_, fun a => qi (h0 a)⟩
  simp only [b2i_eq0, Decidable.not_not]
  refine ⟨fun b => ⟨vp_in_nI (n := 7) (by decide) (by decide), ?_⟩, fun b => qi (h1 b a)⟩
  rw [wv_at, hR.v7, hO.1.1.2.1.1]
  refine ⟨fun c => S_Md_record hrec ?_, fun c => qi (h2 a b ((nI_eq (b := 12) (by omega) (by omega)).mp c))⟩
  have hlt : nC N < 12 := by
    have : ¬ nC N = 12 := fun q => c (by rw [q]; rfl)
    omega
  have i0 : (33 + (5 * nI (nC N)) : Int32) = nI (33 + 5 * nC N + 0) := ix2 33 5 _
  have i1 : ((33 + (5 * nI (nC N))) + 1 : Int32) = nI (33 + 5 * nC N + 1) := ix3 33 5 _ 1
  have i2 : ((33 + (5 * nI (nC N))) + 2 : Int32) = nI (33 + 5 * nC N + 2) := ix3 33 5 _ 2
  have i3 : ((33 + (5 * nI (nC N))) + 3 : Int32) = nI (33 + 5 * nC N + 3) := ix3 33 5 _ 3
  have i4 : ((33 + (5 * nI (nC N))) + 4 : Int32) = nI (33 + 5 * nC N + 4) := ix3 33 5 _ 4
  have i7 : vp_in 7 429 := vp_in_nI (n := 7) (by decide) (by decide)
  refine RunV.ofGo rfl rfl (b_Md_hires_0 ?_)
  rw [wv_at, hR.v7, hO.1.1.2.1.1, i1, i2, i3, i4, i0, nI_clamp (n := 33 + 5 * nC N + 0) (by omega), nI_clamp (n := 33 + 5 * nC N + 1) (by omega), nI_clamp (n := 33 + 5 * nC N + 2) (by omega), nI_clamp (n := 33 + 5 * nC N + 3) (by omega), nI_clamp (n := 33 + 5 * nC N + 4) (by omega)]
  simp only [mv, wv_at]
  rw [pk_un (show ¬ 7 = 33 + 5 * nC N + 4 by omega), pk_un (show ¬ 7 = 33 + 5 * nC N + 3 by omega), pk_un (show ¬ 7 = 33 + 5 * nC N + 2 by omega), pk_un (show ¬ 7 = 33 + 5 * nC N + 1 by omega), pk_un (show ¬ 7 = 33 + 5 * nC N + 0 by omega), hR.v7, hO.1.1.2.1.1, nI_1]
  refine ⟨i7, vp_in_nI (by omega) (by omega), vp_in_nI (by omega) (by omega), vp_in_nI (by omega) (by omega), vp_in_nI (by omega) (by omega), vp_in_nI (by omega) (by omega), i7, i7, qv ⟨i7, qi ?_⟩⟩
  rw [wv_at, pk_us, nI_pred]
  exact h3 a b hlt _ (hR.hire hlt)
theorem S_Md_child {a f w : Int32} (hR : RelR N v) (hO : Ok N) (hrec : Rcd m v m') (h1 : ¬ ChildB a f w → P (-2) (wv m v)) (h2 : ChildB a f w → nK N = 24 → P (-4) (wv m v)) (h3 : ChildB a f w → nK N < 24 → ∀ v', RelR (addKN N a f w) v' → P (nI (nK N)) (wv m' v')) : RunI g h_Md_child [vO 17 0 0, vI a, vI f, vI w] (wv m v) P := by
  have h24 := hO.1.1.2.2.2
  refine RunI.ofGo rfl rfl (b_Md_child_0 (S_Md_in ?_))
  simp only [b2i_eq0, Decidable.not_not]
  refine ⟨fun q => qi (h1 fun z => q z.1), fun a1 => S_Md_in ?_⟩
  simp only [b2i_eq0, Decidable.not_not]
  refine ⟨fun q => qi (h1 fun z => q z.2.1), fun a2 => S_Md_in ?_⟩
  simp only [b2i_eq0, Decidable.not_not]
  refine ⟨fun a3 => ⟨vp_in_nI (n := 8) (by decide) (by decide), ?_⟩, fun q => qi (h1 fun z => q z.2.2)⟩
  have hb : ChildB a f w := ⟨a1, a2, a3⟩
  have i8 : vp_in 8 429 := vp_in_nI (n := 8) (by decide) (by decide)
  rw [wv_at, hR.v8, hO.1.1.2.2.1]
  refine ⟨fun b => S_Md_record hrec ⟨i8, ?_⟩, fun b => qi (h2 hb ((nI_eq (b := 24) (by omega) (by omega)).mp b))⟩
  have hlt : nK N < 24 := by
    have : ¬ nK N = 24 := fun q => b (by rw [q]; rfl)
    omega
  rw [wv_at, hR.v8, hO.1.1.2.2.1]
  refine loopN (G := fun j => ∀ z, (∀ k, z k = if 93 + 14 * nK N ≤ k ∧ k < 93 + 14 * nK N + j then 0 else v k) → Go g h_Md_child (QI P) 65 [(0, vO 17 0 0), (1, vI a), (2, vI f), (3, vI w), (4, vI (nI (nK N))), (5, vI (nI j))] [] (wv m' z)) 14 ?_ ?_ 0 (Nat.zero_le _) v (fun k => by rw [if_neg (by omega)])
  · intro z hz
    refine b_Md_child_65 ⟨fun _ => S_Md_put3 (c := nK N) (j := 0) hlt (by decide) (S_Md_put3 (c := nK N) (j := 1) hlt (by decide) (S_Md_put3 (c := nK N) (j := 2) hlt (by decide) (S_Md_put3 (c := nK N) (j := 8) hlt (by decide) ⟨vp_in_nI (n := 5) (by decide) (by decide), S_Md_put3 (c := nK N) (j := 12) hlt (by decide) ⟨i8, i8, qi ?_⟩⟩))), fun q => absurd (by decide) q⟩
    simp only [mv, wv_at]
    rw [pk_un (show ¬ 8 = 93 + 14 * nK N + 12 by omega), pk_un (show ¬ 8 = 93 + 14 * nK N + 8 by omega), pk_un (show ¬ 8 = 93 + 14 * nK N + 2 by omega), pk_un (show ¬ 8 = 93 + 14 * nK N + 1 by omega), pk_un (show ¬ 8 = 93 + 14 * nK N + 0 by omega), pk_un (show ¬ 5 = 93 + 14 * nK N + 8 by omega), pk_un (show ¬ 5 = 93 + 14 * nK N + 2 by omega), pk_un (show ¬ 5 = 93 + 14 * nK N + 1 by omega), pk_un (show ¬ 5 = 93 + 14 * nK N + 0 by omega)]
    have z8 : z 8 = nI (nK N) := by rw [hz, if_neg (by omega), hR.v8, hO.1.1.2.2.1]
    have z5 : z 5 = N 2 0 7 := by rw [hz, if_neg (by omega), hR.v5]
    rw [z8, z5, nI_1]
    refine h3 hb hlt _ (hR.addK hlt (fun k hk hk8 => ?_) pk_us (fun j hj h4 => ?_))
    · rw [pk_un hk8, pk_un (by omega), pk_un (by omega), pk_un (by omega), pk_un (by omega), pk_un (by omega), hz, if_neg (by omega)]
    · rw [pk_un (show ¬ 93 + 14 * nK N + j = 8 by omega)]
      have hzj : z (93 + 14 * nK N + j) = 0 := by rw [hz, if_pos (by omega)]
      by_cases q12 : j = 12
      · subst q12
        rw [pk_us, if_neg (by decide), if_neg (by decide), if_neg (by decide), if_neg (by decide), if_pos rfl]
      · rw [pk_un (show ¬ 93 + 14 * nK N + j = 93 + 14 * nK N + 12 by omega)]
        by_cases q8 : j = 8
        · subst q8
          rw [pk_us, if_neg (by decide), if_neg (by decide), if_neg (by decide), if_pos rfl]
        · rw [pk_un (show ¬ 93 + 14 * nK N + j = 93 + 14 * nK N + 8 by omega)]
          by_cases q2 : j = 2
          · subst q2
            rw [pk_us, if_neg (by decide), if_neg (by decide), if_pos rfl]
          · rw [pk_un (show ¬ 93 + 14 * nK N + j = 93 + 14 * nK N + 2 by omega)]
            by_cases q1 : j = 1
            · subst q1
              rw [pk_us, if_neg (by decide), if_pos rfl]
            · rw [pk_un (show ¬ 93 + 14 * nK N + j = 93 + 14 * nK N + 1 by omega)]
              by_cases q0 : j = 0
              · subst q0
                rw [pk_us, if_pos rfl]
              · rw [pk_un (show ¬ 93 + 14 * nK N + j = 93 + 14 * nK N + 0 by omega), hzj, if_neg q0, if_neg q1, if_neg q2, if_neg q8, if_neg q12]
  · intro j hj ih z hz
    refine b_Md_child_65 ⟨fun q => absurd q (nI_ge (b := 14) hj (by omega)), fun _ => S_Md_put3 (c := nK N) (j := j) hlt hj ?_⟩
    rw [nI_1]
    refine ih _ fun k => ?_
    by_cases q : k = 93 + 14 * nK N + j
    · subst q
      rw [pk_us, if_pos (by omega)]
    · rw [pk_un q, hz]
      by_cases y : 93 + 14 * nK N ≤ k ∧ k < 93 + 14 * nK N + j
      · rw [if_pos y, if_pos (by omega)]
      · rw [if_neg y, if_neg (by omega)]
theorem S_Md_leave {x : Int32} (hR : RelR N v) (hO : Ok N) (hrec : Rcd m v m') (h0 : ¬ (¬ x < 0 ∧ ¬ N 2 0 6 ≤ x) → P (-1) (wv m v)) (h1 : ∀ c, c < nK N → x = nI c → N 9 c 3 = 2 → P (-5) (wv m v)) (h2 : ∀ c, c < nK N → x = nI c → ¬ N 9 c 3 = 2 → ∀ v', RelR (qitN N c 2) v' → P (nI (cnt (fun j => qitN N c 2 9 j 3 = 1) (nK N))) (wv m' v')) : RunI g h_Md_leave [vO 17 0 0, vI x] (wv m v) P := by
  have hB := hO.1.1
  have h24 := hB.2.2.2
  refine RunI.ofGo rfl rfl (b_Md_leave_0 (S_Md_isChild hR hB ?_))
  simp only [b2i_eq0, Decidable.not_not]
  refine ⟨fun a => ?_, fun a => qi (h0 a)⟩
  rw [hB.2.2.1] at a
  obtain ⟨c, hc, rfl⟩ := (hasG (by omega)).mp a
  refine S_Md_of (c := c) (j := 3) (by omega) (by decide) ?_
  rw [hR.k (j := 3) hB hc (by decide) (fun q => absurd q (by decide))]
  refine ⟨fun b => S_Md_record hrec (S_Md_becomes (by omega) ?_), fun b => qi (h1 c hc rfl b)⟩
  have r1 := hR.qit (c := c) (by omega) (s := 2) (by decide)
  have hs : Sm N (qitN N c 2) := qitN_ks.1
  refine S_Md_inState r1 (hs.bd hB) (S_Md_ones (qi ?_))
  rw [pcI_setI _ (by rw [hs.nK]; omega), hs.nK]
  exact h2 c hc rfl b _ r1
theorem S_Md_admit (hR : RelR N v) (hO : Ok N) (hrec : Rcd m v m') {p : Nat} (h8 : N 2 0 8 = nI p) (hpb : p < 2 ^ 29) (hp : ∀ v', RelR (admN 24 N) v' → Ok (admN 24 N) → P (nI (admC 24 N)) (wv m' v')) : RunI g h_Md_admit [vO 17 0 0] (wv m v) P := by
  refine RunI.ofGo rfl rfl (b_Md_admit_0 (S_Md_record hrec (S_Md_admits hR hO h8 hpb fun v' h1 h2 => S_Md_ones (qi ?_))))
  rw [admX_pc 24 N 0 hO.1.1.2.2.2 (fun j hj q => absurd q (has_0 (by have := hO.1.1.2.2.2; omega))), pcI_0 rfl, Nat.zero_add]
  exact hp v' h1 h2
theorem S_Md_visit {x y : Int32} (hR : RelR N v) (hO : Ok N) (hrec : Rcd m v m') (h0 : ¬ ((¬ x < 0 ∧ ¬ N 2 0 6 ≤ x) ∧ (¬ y < 0 ∧ ¬ 9 < y)) → P (-1) (wv m v)) (h1 : ∀ c s, c < nK N → x = nI c → s < 10 → y = nI s → ¬ (N 9 c 3 = 1 ∧ N 9 c 6 = 0 ∧ N 9 c 8 = -6) → P (-5) (wv m v)) (h2 : ∀ c s, c < nK N → x = nI c → s < 10 → y = nI s → (N 9 c 3 = 1 ∧ N 9 c 6 = 0 ∧ N 9 c 8 = -6) → ¬ Has (N 9 c 5) (nI s) → ¬ visP N (rmN N c) s → P (-5) (wv m v)) (h3 : ∀ c s, c < nK N → x = nI c → s < 10 → y = nI s → (N 9 c 3 = 1 ∧ N 9 c 6 = 0 ∧ N 9 c 8 = -6) → (Has (N 9 c 5) (nI s) ∨ visP N (rmN N c) s) → ∀ v', RelR (nset N 9 c 8 (nI s)) v' → P (nI (cnt (fun j => ¬ nset N 9 c 8 (nI s) 9 j 8 = -6) (nK N))) (wv m' v')) : RunI g h_Md_visit [vO 17 0 0, vI x, vI y] (wv m v) P := by
  have hB := hO.1.1
  have h24 := hB.2.2.2
  have h5 := hB.1.2
  refine RunI.ofGo rfl rfl (b_Md_visit_0 (S_Md_isChild hR hB ?_))
  simp only [b2i_eq0, Decidable.not_not]
  refine ⟨fun a => qi (h0 fun q => a q.1), fun a => S_Md_isSession ?_⟩
  simp only [b2i_eq0, Decidable.not_not]
  refine ⟨fun b => ?_, fun b => qi (h0 fun q => b q.2)⟩
  rw [hB.2.2.1] at a
  obtain ⟨c, hc, rfl⟩ := (hasG (by omega)).mp a
  obtain ⟨s, hs', rfl⟩ := nI_of2 (M := 9) (n := 9) (by decide) b.1 (Int32.not_lt.mp b.2)
  have hs : s < 10 := by omega
  have hc24 : c < 24 := by omega
  have k1 := hO.k1 hc
  refine S_Md_of (c := c) (j := 3) hc24 (by decide) ?_
  rw [hR.k (j := 3) hB hc (by decide) (fun q => absurd q (by decide))]
  refine ⟨fun d => qi (h1 c s hc rfl hs rfl fun q => d q.1), fun d1 => S_Md_of (c := c) (j := 6) hc24 (by decide) ?_⟩
  rw [hR.k (j := 6) hB hc (by decide) (fun q => absurd q (by decide))]
  refine ⟨fun d => qi (h1 c s hc rfl hs rfl fun q => by rw [d] at q; exact absurd q.2.1 (by decide)), fun d2 => S_Md_of (c := c) (j := 8) hc24 (by decide) ?_⟩
  have d2' : N 9 c 6 = 0 := k1.2.2.1.resolve_right d2
  rw [hR.k (j := 8) hB hc (by decide) (fun q => absurd q (by decide)), pln_neg hO hc]
  refine ⟨fun d3 => S_Md_of (c := c) (j := 4) hc24 (by decide) (S_Md_of (c := c) (j := 5) hc24 (by decide) ?_), fun d3 => qi (h1 c s hc rfl hs rfl fun q => d3 q.2.2)⟩
  obtain ⟨r, hr, er⟩ := (hO.2.1 c hc).1 d1
  have erm : rmN N c = r := by show (N 9 c 4).toNatClampNeg = r; rw [er, nI_clamp (by omega)]
  rw [hR.k (j := 4) hB hc (by decide) (fun _ => d1), hR.k (j := 5) hB hc (by decide) (fun q => absurd q (by decide)), er]
  refine S_Md_has ?_
  simp only [b2i_eq0, Decidable.not_not]
  have fin : (Has (N 9 c 5) (nI s) ∨ visP N (rmN N c) s) → RunV g h_Md_record [vO 17 0 0] (wv m v) (fun m9 => RunV g h_Md_put3 [vO 17 0 0, vI (nI c), vI 8, vI (nI s)] m9 (fun m10 => RunI g h_Md_plannedMany [vO 17 0 0] m10 (fun r11 m11 => QI P (some (vI r11)) m11))) := by
    intro q
    have r1 := hR.k9 hc24 (j := 8) (by decide) (by decide) (nI s)
    have o1 := ok_vst hO hc hs d1
    refine S_Md_record hrec (S_Md_put3 (c := c) (j := 8) hc24 (by decide) (S_Md_plannedMany r1 o1 (qi ?_)))
    rw [(Sm.rfl'.nt (by decide) : Sm N (nset N 9 c 8 (nI s))).nK]
    exact h3 c s hc rfl hs rfl ⟨d1, d2', d3⟩ q _ r1
  refine ⟨fun q => fin (Or.inl q), fun d4 => S_Md_taken hR hO hr (S_Md_guests hR hO hr (S_Md_places hR hO hr hs ?_))⟩
  rw [← Int32.not_le]
  refine ⟨fun q => fin (Or.inr (by rw [erm]; exact q)), fun q => qi (h2 c s hc rfl hs rfl ⟨d1, d2', d3⟩ d4 (by rw [erm]; exact q))⟩
theorem S_Md_swap {x y z w : Int32} (hR : RelR N v) (hO : Ok N) (hrec : Rcd m v m') (h0 : ¬ ((¬ x < 0 ∧ ¬ N 2 0 6 ≤ x) ∧ (¬ z < 0 ∧ ¬ N 2 0 6 ≤ z) ∧ ¬ x = z ∧ (¬ y < 0 ∧ ¬ 9 < y) ∧ (¬ w < 0 ∧ ¬ 9 < w)) → P (-1) (wv m v)) (h1 : ∀ a s b t, a < nK N → x = nI a → s < 10 → y = nI s → b < nK N → z = nI b → t < 10 → w = nI t → ¬ a = b → ¬ canP N a s b t → P (-5) (wv m v)) (h2 : ∀ a s b t, a < nK N → x = nI a → s < 10 → y = nI s → b < nK N → z = nI b → t < 10 → w = nI t → ¬ a = b → canP N a s b t → ∀ v', RelR (excN N a s b t) v' → P 1 (wv m' v')) : RunI g h_Md_swap [vO 17 0 0, vI x, vI y, vI z, vI w] (wv m v) P := by
  have hB := hO.1.1
  have h24 := hB.2.2.2
  refine RunI.ofGo rfl rfl (b_Md_swap_0 (S_Md_isChild hR hB ?_))
  simp only [b2i_eq0, Decidable.not_not]
  refine ⟨fun q => qi (h0 fun u => q u.1), fun g1 => S_Md_isSession ?_⟩
  simp only [b2i_eq0, Decidable.not_not]
  refine ⟨fun q => qi (h0 fun u => q u.2.2.2.1), fun g4 => S_Md_isChild hR hB ?_⟩
  simp only [b2i_eq0, Decidable.not_not]
  refine ⟨fun q => qi (h0 fun u => q u.2.1), fun g2 => S_Md_isSession ?_⟩
  simp only [b2i_eq0, Decidable.not_not]
  refine ⟨fun q => qi (h0 fun u => q u.2.2.2.2), fun g5 => ⟨fun g3 => ?_, fun q => qi (h0 fun u => u.2.2.1 q)⟩⟩
  rw [hB.2.2.1] at g1 g2
  obtain ⟨a, ha, rfl⟩ := (hasG (by omega)).mp g1
  obtain ⟨b, hb, rfl⟩ := (hasG (by omega)).mp g2
  obtain ⟨s, hs, rfl⟩ := nI_of2 (M := 9) (n := 9) (by decide) g4.1 (Int32.not_lt.mp g4.2)
  obtain ⟨t, ht, rfl⟩ := nI_of2 (M := 9) (n := 9) (by decide) g5.1 (Int32.not_lt.mp g5.2)
  have ne : ¬ a = b := fun q => g3 (by rw [q])
  refine S_Md_canSwap hR hO ha (by omega) hb (by omega) ?_
  simp only [b2i_eq0, Decidable.not_not]
  refine ⟨fun q => ?_, fun q => qi (h1 a s b t ha rfl (by omega) rfl hb rfl (by omega) rfl ne (fun u => q ⟨ne, u⟩))⟩
  have pa := (hO.2.1.room hB.1.2 ha (by omega) q.2.1).1
  refine S_Md_record hrec (S_Md_of (c := a) (j := 5) (by omega) (by decide) ?_)
  rw [hR.k (j := 5) hB ha (by decide) (fun q => absurd q (by decide))]
  refine S_Md_put3 (c := a) (j := 5) (by omega) (by decide) (S_Md_of (c := b) (j := 5) (by omega) (by decide) ?_)
  have r1 := hR.k9 (c := a) (by omega) (j := 5) (by decide) (by decide) (N 9 a 5 ^^^ bothI s t)
  have o1 := ok_ses hO ha pa (xor_lt (by omega) (by omega) (hO.k1 ha).2.2.2.2.2.1 : ∀ j, j < 32 → Has (N 9 a 5 ^^^ bothI s t) (nI j) → j < 10)
  have q5 := r1.k (i := b) (j := 5) o1.1.1 (by rw [(Sm.rfl'.nt (by decide) : Sm N (nset N 9 a 5 _)).nK]; exact hb) (by decide) (fun q => absurd q (by decide))
  rw [ns_i (fun z => ne z.symm)] at q5
  rw [q5]
  exact S_Md_put3 (c := b) (j := 5) (by omega) (by decide) (qi (h2 a s b t ha rfl (by omega) rfl hb rfl (by omega) rfl ne q.2 _ (r1.k9 (c := b) (by omega) (j := 5) (by decide) (by decide) (N 9 b 5 ^^^ bothI s t))))
theorem S_Md_giveBack {x y : Int32} (hR : RelR N v) (hO : Ok N) (hrec : Rcd m v m') (h0 : ¬ ((¬ x < 0 ∧ ¬ N 2 0 6 ≤ x) ∧ (¬ y < 0 ∧ ¬ 9 < y)) → P (-1) (wv m v)) (h1 : ∀ c s, c < nK N → x = nI c → s < 10 → y = nI s → ¬ (Has (N 9 c 5) (nI s) ∧ N 3 0 2 ≤ nI (pcI (N 9 c 5)) - 1) → P (-5) (wv m v)) (h2 : ∀ c s, c < nK N → x = nI c → s < 10 → y = nI s → Has (N 9 c 5) (nI s) → N 3 0 2 ≤ nI (pcI (N 9 c 5)) - 1 → ∀ v', RelR (nset N 9 c 5 (dropI (N 9 c 5) s)) v' → P (nI (pcI (N 9 c 5)) - 1) (wv m' v')) : RunI g h_Md_giveBack [vO 17 0 0, vI x, vI y] (wv m v) P := by
  have hB := hO.1.1
  have h24 := hB.2.2.2
  refine RunI.ofGo rfl rfl (b_Md_giveBack_0 (S_Md_isChild hR hB ?_))
  simp only [b2i_eq0, Decidable.not_not]
  refine ⟨fun a => qi (h0 fun q => a q.1), fun a => S_Md_isSession ?_⟩
  simp only [b2i_eq0, Decidable.not_not]
  refine ⟨fun b => ?_, fun b => qi (h0 fun q => b q.2)⟩
  rw [hB.2.2.1] at a
  obtain ⟨c, hc, rfl⟩ := (hasG (by omega)).mp a
  obtain ⟨s, hs', rfl⟩ := nI_of2 (M := 9) (n := 9) (by decide) b.1 (Int32.not_lt.mp b.2)
  have hs : s < 10 := by omega
  have hc24 : c < 24 := by omega
  have k5 := hR.k (j := 5) hB hc (by decide) (fun q => absurd q (by decide))
  refine S_Md_of (c := c) (j := 3) hc24 (by decide) ?_
  rw [hR.k (j := 3) hB hc (by decide) (fun q => absurd q (by decide))]
  refine ⟨fun d => qi (h1 c s hc rfl hs rfl fun q => d (hO.2.1.room hB.1.2 hc (by omega) q.1).1), fun d1 => S_Md_of (c := c) (j := 5) hc24 (by decide) ?_⟩
  rw [k5]
  refine S_Md_has ?_
  simp only [b2i_eq0, Decidable.not_not]
  refine ⟨fun d => qi (h1 c s hc rfl hs rfl fun q => d q.1), fun d2 => S_Md_of (c := c) (j := 5) hc24 (by decide) ?_⟩
  rw [k5]
  refine S_Md_ones ⟨vp_in_nI (n := 2) (by decide) (by decide), ?_⟩
  rw [wv_at, hR.s (j := 2) (by decide)]
  refine ⟨fun d3 => S_Md_record hrec (S_Md_of (c := c) (j := 5) hc24 (by decide) ?_), fun d => qi (h1 c s hc rfl hs rfl fun q => d q.2)⟩
  rw [k5, give_x (by omega) d2]
  refine S_Md_put3 (c := c) (j := 5) hc24 (by decide) (S_Md_of (c := c) (j := 5) hc24 (by decide) ?_)
  rw [pk_us]
  refine S_Md_ones (qi ?_)
  have hpc := pcI_drop (x := N 9 c 5) (c := s) (by omega) d2
  rw [show nI (pcI (dropI (N 9 c 5) s)) = nI (pcI (N 9 c 5)) - 1 by rw [← hpc, nI_pred]]
  exact h2 c s hc rfl hs rfl d2 d3 _ (hR.k9 hc24 (j := 5) (by decide) (by decide) _)
theorem S_Md_sick {x : Int32} (hR : RelR N v) (hO : Ok N) (hrec : Rcd m v m') (h0 : ¬ (¬ x < 0 ∧ ¬ N 2 0 5 ≤ x) → P (-1) (wv m v)) (h1 : ∀ c, c < nC N → x = nI c → ¬ N 8 c 4 = 0 → P (-5) (wv m v)) (h2 : ∀ c, c < nC N → x = nI c → N 8 c 4 = 0 → ∀ v', RelR (nset N 8 c 4 1) v' → P (nI (cnt (fun j => ¬ nset N 8 c 4 1 8 j 4 = 0) (nC N))) (wv m' v')) : RunI g h_Md_sick [vO 17 0 0, vI x] (wv m v) P := by
  have hB := hO.1.1
  have h12 := hO.1.2
  refine RunI.ofGo rfl rfl (b_Md_sick_0 (S_Md_isCarer hR hB ?_))
  simp only [b2i_eq0, Decidable.not_not]
  refine ⟨fun a => ?_, fun a => qi (h0 a)⟩
  rw [hB.2.1.1] at a
  obtain ⟨c, hc, rfl⟩ := (hasG (by omega)).mp a
  have i4 : ((33 + (5 * nI c)) + 4 : Int32) = nI (33 + 5 * c + 4) := ix3 33 5 c 4
  have hin : vp_in (nI (33 + 5 * c + 4)) 429 := vp_in_nI (by omega) (by omega)
  rw [i4, nI_clamp (n := 33 + 5 * c + 4) (by omega), wv_at, hR.c h12 hc (by decide)]
  have h01 := (hO.2.2.2.1.1 c hc).2
  refine ⟨hin, fun b => S_Md_record hrec ⟨hin, ?_⟩, fun b => qi (h1 c hc rfl (by rw [b]; decide))⟩
  rw [mv]
  have b0 : N 8 c 4 = 0 := h01.resolve_right b
  have r1 : RelR (nset N 8 c 4 1) (upd v (33 + 5 * c + 4) 1) := RelR.set hR (t := 8) (i := c) (j := 4) (Or.inr (Or.inr (Or.inr (Or.inl ⟨rfl, by omega, by decide⟩)))) 1 (fun q => absurd q (by decide)) (fun q => absurd q.1 (by decide))
  have o1 : Ok (nset N 8 c 4 1) := ok_n8 hO (Or.inr rfl)
  have hp := h2 c hc rfl b0 _ r1
  have hnC : nC (nset N 8 c 4 1) = nC N := (Sm.rfl'.nt (by decide) : Sm N _).nC
  have hn5 : nset N 8 c 4 1 2 0 5 = nI (nC N) := by rw [ns_t (by decide)]; exact hB.2.1.1
  have o12 := o1.1.2
  generalize nset N 8 c 4 1 = L at *
  refine loopN (G := fun j => Go g h_Md_sick (QI P) 52 [(0, vO 17 0 0), (2, vI (nI (cnt (fun j => ¬ L 8 j 4 = 0) j))), (3, vI (nI j))] [] (wv m' (upd v (33 + 5 * c + 4) 1))) (nC N) ?_ ?_ 0 (Nat.zero_le _)
  · exact b_Md_sick_52 ⟨vp_in_nI (n := 7) (by decide) (by decide), fun _ => qi hp, fun q => absurd (by rw [wv_at, r1.v7, hn5]; exact le_self _) q⟩
  · intro j hj ih
    have j4 : ((33 + (5 * nI j)) + 4 : Int32) = nI (33 + 5 * j + 4) := ix3 33 5 j 4
    refine b_Md_sick_52 ⟨vp_in_nI (n := 7) (by decide) (by decide), fun q => absurd q (by rw [wv_at, r1.v7, hn5]; exact nI_ge hj (by omega)), fun _ => ?_⟩
    rw [j4, nI_clamp (n := 33 + 5 * j + 4) (by omega), wv_at, r1.c (i := j) (j := 4) o12 (by rw [hnC]; exact hj) (by decide), nI_1]
    refine ⟨vp_in_nI (by omega) (by omega), ?_⟩
    rcases (o1.2.2.2.1.1 j (by rw [hnC]; exact hj)).2 with e | e
    · rw [cnt_f (p := fun j => ¬ L 8 j 4 = 0) (fun q => q e)] at ih
      rw [e, Int32.add_zero]
      exact ih
    · rw [cnt_t (p := fun j => ¬ L 8 j 4 = 0) (by rw [e]; decide)] at ih
      rw [e, nI_1]
      exact ih
theorem S_Md_weeks {x : Int32} (hR : RelR N v) (hO : Ok N) (hPl : Pl N) (hrec : Rcd m v m') (h0 : ¬ (¬ x < 1 ∧ ¬ 52 < x) → P (-2) (wv m v)) (h1 : ∀ w, 1 ≤ w → w ≤ 52 → x = nI w → ∀ v' T' H', RelR (runN (fun _ => wekN) N w) v' → Ok (runN (fun _ => wekN) N w) → Pl (runN (fun _ => wekN) N w) → P (runN (fun _ => wekN) N w 2 0 7) (wv (th m' T' H') v')) : RunI g h_Md_weeks [vO 17 0 0, vI x] (wv m v) P := by
  refine RunI.ofGo rfl rfl (b_Md_weeks_0 (S_Md_in ?_))
  simp only [b2i_eq0, Decidable.not_not]
  refine ⟨fun a => S_Md_record hrec ?_, fun a => qi (h0 a)⟩
  have h00 : ¬ x < 0 := fun q => a.1 (Int32.lt_trans q (by decide))
  obtain ⟨w, hw, rfl⟩ := nI_of2 (M := 52) (n := 52) (by decide) h00 (Int32.not_lt.mp a.2)
  have hw1 : 1 ≤ w := by
    by_cases q : w = 0
    · subst q
      exact absurd (by decide) a.1
    · omega
  have e0 : wv m' v = wv (th m' (m' (18, 6, 0)) (m' (18, 7, 0))) v := by rw [th_id]
  rw [e0]
  refine loopN (G := fun j => ∀ v' T' H', RelR (runN (fun _ => wekN) N j) v' → Ok (runN (fun _ => wekN) N j) → Pl (runN (fun _ => wekN) N j) → Go g h_Md_weeks (QI P) 19 [(0, vO 17 0 0), (1, vI (nI w)), (2, vI (nI j))] [] (wv (th m' T' H') v')) w ?_ ?_ 0 (Nat.zero_le _) v _ _ hR hO hPl
  · intro v' T' H' hr ho hpl
    refine b_Md_weeks_19 ⟨fun _ => ⟨vp_in_nI (n := 5) (by decide) (by decide), qi ?_⟩, fun q => absurd (le_self _) q⟩
    rw [wv_at, hr.v5]
    exact h1 w hw1 hw rfl v' T' H' hr ho hpl
  · intro j hj ih v' T' H' hr ho hpl
    refine b_Md_weeks_19 ⟨fun q => absurd q (nI_ge hj (by omega)), fun _ => S_Md_oneWeek hr ho hpl fun v2 T2 H2 h1 h2 h3 => ?_⟩
    rw [nI_1, th_th]
    exact ih v2 T2 H2 h1 h2 h3
end RW
