/-! THE QUESTIONS: count, sent home, more by -/
def couF (N : Nu) (len size x : Int32) : Int32 := if x = 0 then N 2 0 7 else if x = 1 then N 2 0 4 else if x = 2 then N 2 0 5 else if x = 3 then N 2 0 6 else if x = 4 ∨ x = 5 ∨ x = 6 then setI (fun j => N 9 j 3 = x - 4) (nK N) else if x = 7 then setI (fun j => ¬ N 9 j 6 = 0) (nK N) else if x = 8 then N 2 0 9 else if x = 9 then N 2 0 10 else if x = 10 then N 2 0 11 else if x = 11 then nI (cnt (fun j => ¬ N 9 j 8 = -6) (nK N)) else if x = 12 then len else if x = 13 then size else if ¬ x < 14 ∧ ¬ 18 < x then N 3 0 (x - 14).toNatClampNeg else -2
section QU
variable {g : Wg} {m : Mm} {v : Nat → Int32} {P : Int32 → Mm → Prop} {PV : Mm → Prop} {N : Nu}
theorem T_N_count {x : Int32} (hO : Ok N) (hp : P (couF N (m (14, 0, 0) 1) (m (10, 0, 0) 2) x) (wr m 0 N)) : RunI g h_N_count [vO 1 0 0, vI x] (wr m 0 N) P := by
  unfold couF at hp
  have h46 : (¬ x < 4 ∧ ¬ 6 < x) ↔ (x = 4 ∨ x = 5 ∨ x = 6) := by
    constructor
    · rintro ⟨h1, h2⟩
      have h0 : ¬ x < 0 := fun z => h1 (Int32.lt_trans z (by decide))
      obtain ⟨q, hq, rfl⟩ := nI_of2 (M := 6) (n := 6) (by decide) h0 (Int32.not_lt.mp h2)
      have := (win (q := q) (a := 4) (b := 6) (by omega) (by decide) (by decide)).mp ⟨h1, h2⟩
      rcases (show q = 4 ∨ q = 5 ∨ q = 6 by omega) with rfl | rfl | rfl <;> decide
    · rintro (rfl | rfl | rfl) <;> decide
  refine RunI.ofGo rfl rfl (b_N_count_0 (S_N_isWithin ?_))
  simp only [b2i_eq0, Decidable.not_not]
  rw [h46]
  refine ⟨fun n4 => S_N_isWithin ?_, fun y4 => T_St_childrenInState hO.1.1 (qi ?_)⟩
  rotate_left
  · have e0 : ¬ x = 0 := by rintro rfl; revert y4; decide
    have e1 : ¬ x = 1 := by rintro rfl; revert y4; decide
    have e2 : ¬ x = 2 := by rintro rfl; revert y4; decide
    have e3 : ¬ x = 3 := by rintro rfl; revert y4; decide
    rwa [if_neg e0, if_neg e1, if_neg e2, if_neg e3, if_pos y4] at hp
  simp only [b2i_eq0, Decidable.not_not]
  refine ⟨fun n14 => ?_, fun y14 => ?_⟩
  · have z4 : ¬ x = 4 := fun z => n4 (Or.inl z)
    have z5 : ¬ x = 5 := fun z => n4 (Or.inr (Or.inl z))
    have z6 : ¬ x = 6 := fun z => n4 (Or.inr (Or.inr z))
    refine ⟨fun e => qi ?_, fun e0 => ⟨fun e => qi ?_, fun e1 => ⟨fun e => qi ?_, fun e2 => ⟨fun e => qi ?_, fun e3 => ⟨fun e => absurd e z4, fun _ => ⟨fun e => absurd e z5, fun _ => ⟨fun e => absurd e z6, fun _ => ⟨fun e => T_St_settledChildren hO.1.1 (qi ?_), fun e7 => ⟨fun e => qi ?_, fun e8 => ⟨fun e => qi ?_, fun e9 => ⟨fun e => qi ?_, fun e10 => ⟨fun e => T_St_plannedVisits hO.1.1 (qi ?_), fun e11 => ⟨fun e => qi ?_, fun e12 => ⟨fun e => qi ?_, fun e13 => qi ?_⟩⟩⟩⟩⟩⟩⟩⟩⟩⟩⟩⟩⟩⟩
    · rw [if_pos e] at hp; rw [wr_2]; exact hp
    · rw [if_neg e0, if_pos e] at hp; rw [wr_2]; exact hp
    · rw [if_neg e0, if_neg e1, if_pos e] at hp; rw [wr_2]; exact hp
    · rw [if_neg e0, if_neg e1, if_neg e2, if_pos e] at hp; rw [wr_2]; exact hp
    · rwa [if_neg e0, if_neg e1, if_neg e2, if_neg e3, if_neg n4, if_pos e] at hp
    · rw [if_neg e0, if_neg e1, if_neg e2, if_neg e3, if_neg n4, if_neg e7, if_pos e] at hp; rw [wr_2]; exact hp
    · rw [if_neg e0, if_neg e1, if_neg e2, if_neg e3, if_neg n4, if_neg e7, if_neg e8, if_pos e] at hp; rw [wr_2]; exact hp
    · rw [if_neg e0, if_neg e1, if_neg e2, if_neg e3, if_neg n4, if_neg e7, if_neg e8, if_neg e9, if_pos e] at hp; rw [wr_2]; exact hp
    · rwa [if_neg e0, if_neg e1, if_neg e2, if_neg e3, if_neg n4, if_neg e7, if_neg e8, if_neg e9, if_neg e10, if_pos e] at hp
    · rw [if_neg e0, if_neg e1, if_neg e2, if_neg e3, if_neg n4, if_neg e7, if_neg e8, if_neg e9, if_neg e10, if_neg e11, if_pos e] at hp; rw [wr_big (by decide)]; exact hp
    · rw [if_neg e0, if_neg e1, if_neg e2, if_neg e3, if_neg n4, if_neg e7, if_neg e8, if_neg e9, if_neg e10, if_neg e11, if_neg e12, if_pos e] at hp; rw [wr_big (by decide)]; exact hp
    · rwa [if_neg e0, if_neg e1, if_neg e2, if_neg e3, if_neg n4, if_neg e7, if_neg e8, if_neg e9, if_neg e10, if_neg e11, if_neg e12, if_neg e13, if_neg n14] at hp
  · have h0 : ¬ x < 0 := fun z => y14.1 (Int32.lt_trans z (by decide))
    obtain ⟨q, hq, rfl⟩ := nI_of2 (M := 18) (n := 18) (by decide) h0 (Int32.not_lt.mp y14.2)
    have hq14 := ((win (q := q) (a := 14) (b := 18) (by omega) (by decide) (by decide)).mp y14).1
    have ne : ∀ k, k < 14 → ¬ nI q = nI k := fun k hk z => by rw [nI_eq (by omega) (by omega)] at z; omega
    rw [if_neg (show ¬ nI q = 0 from ne 0 (by decide)), if_neg (show ¬ nI q = 1 from ne 1 (by decide)), if_neg (show ¬ nI q = 2 from ne 2 (by decide)), if_neg (show ¬ nI q = 3 from ne 3 (by decide)), if_neg n4, if_neg (show ¬ nI q = 7 from ne 7 (by decide)), if_neg (show ¬ nI q = 8 from ne 8 (by decide)), if_neg (show ¬ nI q = 9 from ne 9 (by decide)), if_neg (show ¬ nI q = 10 from ne 10 (by decide)), if_neg (show ¬ nI q = 11 from ne 11 (by decide)), if_neg (show ¬ nI q = 12 from ne 12 (by decide)), if_neg (show ¬ nI q = 13 from ne 13 (by decide)), if_pos y14] at hp
    rw [show nI q - 14 = nI (q - 14) from pk_sub hq14] at hp ⊢
    rw [nI_clamp (n := q - 14) (by omega)] at hp ⊢
    rw [wr_3]
    exact ⟨vp_in_nI (by omega) (by omega), qi hp⟩
theorem S_Md_count {x : Int32} (hR : RelR N v) (hO : Ok N) (hp : P (couF N (m (17, 0, 0) 8) (m (17, 0, 0) 3) x) (wv m v)) : RunI g h_Md_count [vO 17 0 0, vI x] (wv m v) P := by
  have hB := hO.1.1
  unfold couF at hp
  refine RunI.ofGo rfl rfl (b_Md_count_0 ?_)
  refine ⟨fun e => ?_, fun e0 => ⟨fun e => ?_, fun e1 => ⟨fun e => ?_, fun e2 => ⟨fun e => ?_, fun e3 => ⟨fun e => S_Md_inState hR hB (qi ?_), fun e4 => ⟨fun e => S_Md_inState hR hB (qi ?_), fun e5 => ⟨fun e => S_Md_inState hR hB (qi ?_), fun e6 => ⟨fun e => S_Md_settledSet hR hO (qi ?_), fun e7 => ⟨fun e => ?_, fun e8 => ⟨fun e => ?_, fun e9 => ⟨fun e => ?_, fun e10 => ⟨fun e => S_Md_plannedMany hR hO (qi ?_), fun e11 => ⟨fun e => qi ?_, fun e12 => ⟨fun e => qi ?_, fun e13 => S_Md_in ?_⟩⟩⟩⟩⟩⟩⟩⟩⟩⟩⟩⟩⟩⟩
  · rw [if_pos e] at hp
    subst e
    exact ⟨vp_in_nI (n := 5) (by decide) (by decide), qi (by rw [wv_at]; show P (v 5) _; rw [hR.v5]; exact hp)⟩
  · rw [if_neg e0, if_pos e] at hp
    subst e
    exact ⟨vp_in_nI (n := 6) (by decide) (by decide), qi (by rw [wv_at]; show P (v 6) _; rw [hR.v6]; exact hp)⟩
  · rw [if_neg e0, if_neg e1, if_pos e] at hp
    subst e
    exact ⟨vp_in_nI (n := 7) (by decide) (by decide), qi (by rw [wv_at]; show P (v 7) _; rw [hR.v7]; exact hp)⟩
  · rw [if_neg e0, if_neg e1, if_neg e2, if_pos e] at hp
    subst e
    exact ⟨vp_in_nI (n := 8) (by decide) (by decide), qi (by rw [wv_at]; show P (v 8) _; rw [hR.v8]; exact hp)⟩
  · rwa [if_neg e0, if_neg e1, if_neg e2, if_neg e3, if_pos (Or.inl e)] at hp
  · rwa [if_neg e0, if_neg e1, if_neg e2, if_neg e3, if_pos (Or.inr (Or.inl e))] at hp
  · rwa [if_neg e0, if_neg e1, if_neg e2, if_neg e3, if_pos (Or.inr (Or.inr e))] at hp
  all_goals rw [if_neg e0, if_neg e1, if_neg e2, if_neg e3, if_neg (fun z => z.elim e4 (fun z => z.elim e5 e6))] at hp
  · rwa [if_pos e] at hp
  · rw [if_neg e7, if_pos e] at hp
    subst e
    exact ⟨vp_in_nI (n := 9) (by decide) (by decide), qi (by rw [wv_at]; show P (v 9) _; rw [hR.v9]; exact hp)⟩
  · rw [if_neg e7, if_neg e8, if_pos e] at hp
    subst e
    exact ⟨vp_in_nI (n := 10) (by decide) (by decide), qi (by rw [wv_at]; show P (v 10) _; rw [hR.v10]; exact hp)⟩
  · rw [if_neg e7, if_neg e8, if_neg e9, if_pos e] at hp
    subst e
    exact ⟨vp_in_nI (n := 11) (by decide) (by decide), qi (by rw [wv_at]; show P (v 11) _; rw [hR.v11]; exact hp)⟩
  · rwa [if_neg e7, if_neg e8, if_neg e9, if_neg e10, if_pos e] at hp
  · rw [if_neg e7, if_neg e8, if_neg e9, if_neg e10, if_neg e11, if_pos e] at hp
    rw [wv_ne (by decide)]; exact hp
  · rw [if_neg e7, if_neg e8, if_neg e9, if_neg e10, if_neg e11, if_neg e12, if_pos e] at hp
    rw [wv_ne (by decide)]; exact hp
  · rw [if_neg e7, if_neg e8, if_neg e9, if_neg e10, if_neg e11, if_neg e12, if_neg e13] at hp
    simp only [b2i_eq0, Decidable.not_not]
    refine ⟨fun b => qi ?_, fun b => ?_⟩
    · rwa [if_neg b] at hp
    · rw [if_pos b] at hp
      have h0 : ¬ x < 0 := fun z => b.1 (Int32.lt_trans z (by decide))
      obtain ⟨q, hq, rfl⟩ := nI_of2 (M := 18) (n := 18) (by decide) h0 (Int32.not_lt.mp b.2)
      have hq14 := ((win (q := q) (a := 14) (b := 18) (by omega) (by decide) (by decide)).mp b).1
      rw [show nI q - 14 = nI (q - 14) from pk_sub hq14] at hp ⊢
      rw [nI_clamp (n := q - 14) (by omega)] at hp ⊢
      rw [wv_at, hR.s (show q - 14 < 5 by omega)]
      exact ⟨vp_in_nI (by omega) (by omega), qi hp⟩
theorem S_Md_allPlaces {r : Nat} (hR : RelR N v) (hO : Ok N) (hr : r < nR N) (hp : P (allF N r) (wv m v)) : RunI g h_Md_allPlaces [vO 17 0 0, vI (nI r)] (wv m v) P := by
  refine RunI.ofGo rfl rfl (b_Md_allPlaces_0 ?_)
  refine loopN (G := fun j => Go g h_Md_allPlaces (QI P) 4 [(0, vO 17 0 0), (1, vI (nI r)), (2, vI (sumI (fun s => placesF N r s 1) j)), (3, vI (nI j))] [] (wv m v)) 10 ?_ ?_ 0 (Nat.zero_le _)
  · exact b_Md_allPlaces_4 ⟨fun _ => qi hp, fun h => absurd (by decide) h⟩
  · intro j hj ih
    refine b_Md_allPlaces_4 ⟨fun h => absurd h (nI_ge (b := 10) hj (by omega)), fun _ => S_Md_places hR hO hr hj ?_⟩
    rw [nI_1]
    exact ih
/-- places with a carer more -/
theorem hir_car {N : Nu} {r d f t : Int32} {room day hour : Int32} (h13 : nC N ≤ 12) : carersF (hirN N r d f t) room day hour 1 = carersF N room day hour 1 + (if r = room ∧ Has d day ∧ ¬ hour < f ∧ ¬ t ≤ hour then 1 else 0) := by
  unfold carersF
  rw [hirN_nC (by omega)]
  have e1 : cnt (dutyP (hirN N r d f t) room day hour 1) (nC N) = cnt (dutyP N room day hour 1) (nC N) := cnt_congr fun j hj => by
    have ne : ¬ j = nC N := by omega
    unfold dutyP
    rw [hirN_o ⟨fun q => ne q.2, by simp⟩, hirN_o ⟨fun q => ne q.2, by simp⟩, hirN_o ⟨fun q => ne q.2, by simp⟩, hirN_o ⟨fun q => ne q.2, by simp⟩, hirN_o ⟨fun q => ne q.2, by simp⟩]
  have q0 : hirN N r d f t 8 (nC N) 0 = r := by simp [hirN, nset_ap]
  have q1 : hirN N r d f t 8 (nC N) 1 = d := by simp [hirN, nset_ap]
  have q2 : hirN N r d f t 8 (nC N) 2 = f := by simp [hirN, nset_ap]
  have q3 : hirN N r d f t 8 (nC N) 3 = t := by simp [hirN, nset_ap]
  have hd : dutyP (hirN N r d f t) room day hour 1 (nC N) ↔ (r = room ∧ Has d day ∧ ¬ hour < f ∧ ¬ t ≤ hour) := by
    unfold dutyP
    rw [q0, q1, q2, q3]
    exact ⟨fun q => ⟨q.1, q.2.2⟩, fun q => ⟨q.1, Or.inl (by decide), q.2⟩⟩
  by_cases h : r = room ∧ Has d day ∧ ¬ hour < f ∧ ¬ t ≤ hour
  · rw [cnt_t (hd.mpr h), if_pos h, e1, nI_succ]
  · rw [cnt_f (fun q => h (hd.mp q)), if_neg h, e1, Int32.add_zero]
theorem S_Md_placesWith {r : Nat} {d f t : Int32} (hR : RelR N v) (hO : Ok N) (hr : r < nR N) (ht : ¬ t < 0) (hp : P (allF (hirN N (nI r) d f t) r) (wv m v)) : RunI g h_Md_placesWith [vO 17 0 0, vI (nI r), vI d, vI f, vI t] (wv m v) P := by
  have hB := hO.1.1
  have h5 := hB.1.2
  have i2 : ((13 + (4 * nI r)) + 2 : Int32) = nI (13 + 4 * r + 2) := ix3 13 4 r 2
  have i3 : ((13 + (4 * nI r)) + 3 : Int32) = nI (13 + 4 * r + 3) := ix3 13 4 r 3
  have b3 : vp_in (nI (13 + 4 * r + 3)) 429 := vp_in_nI (by omega) (by omega)
  have c2 := hR.r (i := r) (j := 2) hB hr (by decide)
  have c3 := hR.r (i := r) (j := 3) hB hr (by decide)
  have h7 : ∀ j, hirN N (nI r) d f t 7 r j = N 7 r j := fun j => hirN_o ⟨by simp, by simp⟩
  refine RunI.ofGo rfl rfl (b_Md_placesWith_0 ?_)
  refine loopN (G := fun s => Go g h_Md_placesWith (QI P) 6 [(0, vO 17 0 0), (1, vI (nI r)), (2, vI d), (3, vI f), (4, vI t), (5, vI (sumI (fun s => placesF (hirN N (nI r) d f t) r s 1) s)), (6, vI (nI s))] [] (wv m v)) 10 ?_ ?_ 0 (Nat.zero_le _)
  · exact b_Md_placesWith_6 ⟨fun _ => qi hp, fun h => absurd (by decide) h⟩
  · intro s hs ih
    refine b_Md_placesWith_6 ⟨fun h => absurd h (nI_ge (b := 10) hs (by omega)), fun _ => ?_⟩
    rw [i2, nI_clamp (n := 13 + 4 * r + 2) (by omega), wv_at, c2]
    refine ⟨vp_in_nI (by omega) (by omega), ?_⟩
    have e0 : N 7 r 2 = plF (hirN N (nI r) d f t) r (s / 2) (s % 2 * 5) 1 0 := by
      unfold plF
      rw [h7]
    rw [e0]
    refine loopN (G := fun k => Go g h_Md_placesWith (QI P) 31 [(0, vO 17 0 0), (1, vI (nI r)), (2, vI d), (3, vI f), (4, vI t), (5, vI (sumI (fun s => placesF (hirN N (nI r) d f t) r s 1) s)), (6, vI (nI s)), (7, vI (plF (hirN N (nI r) d f t) r (s / 2) (s % 2 * 5) 1 k)), (8, vI (nI k))] [] (wv m v)) 5 ?_ ?_ 0 (Nat.zero_le _)
    · refine b_Md_placesWith_31 ⟨fun _ => ?_, fun h => absurd (by decide) h⟩
      rw [nI_1]
      exact ih
    · intro k hk ihk
      refine b_Md_placesWith_31 ⟨fun h => absurd h (nI_ge (b := 5) hk (by omega)), fun _ => ⟨by decide, ?_⟩⟩
      rw [i3, nI_clamp (n := 13 + 4 * r + 3) (by omega)]
      rw [show nI s - nI s / 2 * 2 = nI (s % 2) from pk_rem (d := 2) (by omega) (by omega) (by omega), show nI (s % 2) * 5 = nI (s % 2 * 5) from pk_mul _ 5, nI_add, show nI s / 2 = nI (s / 2) from pk_div (d := 2) (by omega) (by omega) (by omega), nI_1]
      have hcar := hir_car (N := N) (r := nI r) (d := d) (f := f) (t := t) (room := nI r) (day := nI (s / 2)) (hour := nI (s % 2 * 5 + k)) hO.1.2
      have step : ∀ e : Int32, carersF (hirN N (nI r) d f t) (nI r) (nI (s / 2)) (nI (s % 2 * 5 + k)) 1 = carersF N (nI r) (nI (s / 2)) (nI (s % 2 * 5 + k)) 1 + e → (vp_in (nI (13 + 4 * r + 3)) 429 ∧ (plF (hirN N (nI r) d f t) r (s / 2) (s % 2 * 5) 1 k ≤ N 7 r 3 * (carersF N (nI r) (nI (s / 2)) (nI (s % 2 * 5 + k)) 1 + e) → Go g h_Md_placesWith (QI P) 31 [(0, vO 17 0 0), (1, vI (nI r)), (2, vI d), (3, vI f), (4, vI t), (5, vI (sumI (fun s => placesF (hirN N (nI r) d f t) r s 1) s)), (6, vI (nI s)), (7, vI (plF (hirN N (nI r) d f t) r (s / 2) (s % 2 * 5) 1 k)), (8, vI (nI (k + 1)))] [] (wv m v)) ∧ (¬ plF (hirN N (nI r) d f t) r (s / 2) (s % 2 * 5) 1 k ≤ N 7 r 3 * (carersF N (nI r) (nI (s / 2)) (nI (s % 2 * 5 + k)) 1 + e) → Go g h_Md_placesWith (QI P) 31 [(0, vO 17 0 0), (1, vI (nI r)), (2, vI d), (3, vI f), (4, vI t), (5, vI (sumI (fun s => placesF (hirN N (nI r) d f t) r s 1) s)), (6, vI (nI s)), (7, vI (N 7 r 3 * (carersF N (nI r) (nI (s / 2)) (nI (s % 2 * 5 + k)) 1 + e))), (8, vI (nI (k + 1)))] [] (wv m v))) := by
        intro e he
        unfold plF at ihk
        rw [he, h7] at ihk
        refine ⟨b3, fun z => ?_, fun z => ?_⟩
        · rwa [if_neg (Int32.not_lt.mpr z)] at ihk
        · rwa [if_pos (Int32.not_le.mp z)] at ihk
      refine S_Md_carersAt hR hO hs ⟨by decide, S_Md_has ?_⟩
      simp only [b2i_eq0, Decidable.not_not, wv_at, c3]
      refine ⟨fun a => ?_, fun a => S_Md_in ?_⟩
      · rw [if_neg (fun q => a q.2.1)] at hcar
        exact step 0 hcar
      · simp only [b2i_eq0, Decidable.not_not, wv_at, c3]
        rw [sub1_lt ht]
        refine ⟨fun b => ?_, fun b => ?_⟩
        · rw [if_neg (fun q => b q.2.2)] at hcar
          exact step 0 hcar
        · rw [if_pos ⟨rfl, a, b⟩] at hcar
          exact step 1 hcar
theorem S_Md_moreBy {x d f t : Int32} (hR : RelR N v) (hO : Ok N) (h0 : ¬ (¬ x < 0 ∧ ¬ N 2 0 4 ≤ x) → P (-1) (wv m v)) (h1 : (¬ x < 0 ∧ ¬ N 2 0 4 ≤ x) → ¬ ShiftB d f t → P (-2) (wv m v)) (h2 : ∀ r, r < nR N → x = nI r → ShiftB d f t → P (allF (hirN N (nI r) d f t) r - allF N r) (wv m v)) : RunI g h_Md_moreBy [vO 17 0 0, vI x, vI d, vI f, vI t] (wv m v) P := by
  have h5 := hO.1.1.1.2
  refine RunI.ofGo rfl rfl (b_Md_moreBy_0 (S_Md_isRoom hR hO.1.1 ?_))
  simp only [b2i_eq0, Decidable.not_not]
  refine ⟨fun a => S_Md_isShift ?_, fun a => qi (h0 a)⟩
  simp only [b2i_eq0, Decidable.not_not]
  refine ⟨fun b => qi (h1 a b), fun b => ?_⟩
  rw [hO.1.1.1.1] at a
  obtain ⟨r, hr, rfl⟩ := (hasG (by omega)).mp a
  have ht : ¬ t < 0 := fun q => b.2.2.1 (by
    obtain ⟨k, hk, ek⟩ := nI_of b.2.1.1
    rw [ek, Int32.le_iff_toInt_le, nI_toInt hk]
    rw [Int32.lt_iff_toInt_lt, Int32.toInt_zero] at q
    omega)
  exact S_Md_placesWith hR hO hr ht (S_Md_allPlaces hR hO hr (qi (h2 r hr rfl b)))
end QU
