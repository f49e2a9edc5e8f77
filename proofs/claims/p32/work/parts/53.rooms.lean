/-! THE LAW'S OWN METHODS: cells of the script, bits, places of rooms -/
theorem bit01 (x : Int32) (j : Nat) : (x >>> (nI j &&& 31)) &&& 1 = if Has x (nI j) then 1 else 0 := by
  by_cases h : Has x (nI j)
  · rw [if_pos h]; exact h
  · rw [if_neg h]
    obtain ⟨k, hk, e⟩ := pk_andE (x >>> (nI j &&& 31)) (m := 1) 1 (by decide)
    rcases (show k = 0 ∨ k = 1 by omega) with rfl | rfl
    · exact e
    · exact absurd e h
section LAWM
variable {g : Wg} {m mem : Mm} {P : Int32 → Mm → Prop} {PV : Mm → Prop} {N : Nu}
theorem S_Lw_ones {x : Int32} (hp : P (nI (cnt (fun j => Has x (nI j)) 24)) mem) : RunI g h_Lw_ones [vI x] mem P := by
  refine RunI.ofGo rfl rfl (b_Lw_ones_0 ?_)
  refine loopN (G := fun j => Go g h_Lw_ones (QI P) 4 [(0, vI x), (1, vI (nI (cnt (fun j => Has x (nI j)) j))), (2, vI (nI j))] [] mem) 24 ?_ ?_ 0 (Nat.zero_le _)
  · exact b_Lw_ones_4 ⟨fun _ => qi hp, fun h => absurd (by decide) h⟩
  · intro j hj ih
    refine b_Lw_ones_4 ⟨fun h => absurd h (nI_ge (b := 24) hj (by omega)), fun _ => ?_⟩
    rw [nI_1, bit01]
    by_cases h : Has x (nI j)
    · rw [if_pos h, nI_1]
      rw [cnt_t (p := fun j => Has x (nI j)) h] at ih
      exact ih
    · rw [if_neg h, Int32.add_zero]
      rw [cnt_f (p := fun j => Has x (nI j)) h] at ih
      exact ih
theorem S_Lw_cell {k : Nat} (hL : (gX g).2.1 ≤ 260) (hk : k < 2 ^ 20) (hp : ∀ n, n < 2 ^ 31 → P (nI n) mem) : RunI g h_Lw_cell [vO 20 0 0, vI (nI k)] mem P := by
  have key : ∀ x : Int32, P (x &&& 2147483647) mem := by
    intro x
    obtain ⟨n, hn, e⟩ := pk_andE x (m := 2147483647) 31 (by decide)
    rw [e]
    exact hp n hn
  refine RunI.ofGo rfl rfl (b_Lw_cell_0 ⟨fun _ => qi (key _), fun h => ⟨?_, qi (key _)⟩⟩)
  refine vp_in_nI ?_ (by omega)
  by_cases q : k < (gX g).2.1
  · exact q
  · exact absurd (nI_le (a := (gX g).2.1) (b := k) (by omega) (by omega)) h
/-! the questions at the law's numbers -/
theorem Q_car {c j : Nat} (hO : Ok N) (hc : c < nC N) (hj : j < 5) (hp : P (N 8 c j) (wr m 0 N)) : RunI g h_N_ofCarer [vO 1 0 0, vI (nI c), vI (nI j)] (wr m 0 N) P := by
  refine T_N_ofCarer hO ?_
  unfold ofCaF
  rw [if_pos (has_car hO hc), if_pos, nI_clamp (by have := hO.1.2; omega), nI_clamp (by omega)]
  · exact hp
  · rcases (show j = 0 ∨ j = 1 ∨ j = 2 ∨ j = 3 ∨ j = 4 by omega) with rfl | rfl | rfl | rfl | rfl <;> decide
theorem Q_kid {c j : Nat} (hO : Ok N) (hc : c < nK N) (hj : j < 13) (hp : P (N 9 c j) (wr m 0 N)) : RunI g h_N_ofChild [vO 1 0 0, vI (nI c), vI (nI j)] (wr m 0 N) P := by
  refine T_N_ofChild hO ?_
  unfold ofChF
  rw [if_pos (has_kid hO hc), if_pos, nI_clamp (by have := hO.1.1.2.2.2; omega), nI_clamp (by omega)]
  · exact hp
  · exact (win (a := 0) (b := 12) (by omega) (by decide) (by decide)).mpr ⟨by omega, by omega⟩
theorem has_room (hO : Ok N) {r : Nat} (hr : r < nR N) : ¬ nI r < 0 ∧ ¬ N 2 0 4 ≤ nI r := by
  have := hO.1.1.1.2
  exact ⟨nI_pos (by omega), by rw [hO.1.1.1.1]; exact nI_ge hr (by omega)⟩
theorem Q_room {r j : Nat} (hO : Ok N) (hr : r < nR N) (hj : j < 4) (hp : P (N 7 r j) (wr m 0 N)) : RunI g h_N_ofRoom [vO 1 0 0, vI (nI r), vI (nI j)] (wr m 0 N) P := by
  refine T_N_ofRoom hO ?_
  unfold orF
  rw [if_pos (has_room hO hr), if_pos, nI_clamp (by have := hO.1.1.1.2; omega), nI_clamp (by omega)]
  · exact hp
  · rcases (show j = 0 ∨ j = 1 ∨ j = 2 ∨ j = 3 by omega) with rfl | rfl | rfl | rfl <;> decide
theorem Q_kids {r : Nat} (hO : Ok N) (hr : r < nR N) (hp : P (setI (fun j => N 9 j 4 = nI r) (nK N)) (wr m 0 N)) : RunI g h_N_ofRoom [vO 1 0 0, vI (nI r), vI 5] (wr m 0 N) P := by
  refine T_N_ofRoom hO ?_
  unfold orF
  rw [if_pos (has_room hO hr), if_neg (by decide), if_neg (by decide), if_pos rfl]
  exact hp
theorem or_out {y : Nat} (h : 10 ≤ y) (hy : y < 40) : ¬ (nI y = 0 ∨ nI y = 1 ∨ nI y = 2 ∨ nI y = 3) ∧ ¬ nI y = 4 ∧ ¬ nI y = 5 := by
  have ne : ∀ k, k < 10 → ¬ nI y = nI k := fun k hk z => by rw [nI_eq (by omega) (by omega)] at z; omega
  exact ⟨fun q => q.elim (ne 0 (by decide)) (fun q => q.elim (ne 1 (by decide)) (fun q => q.elim (ne 2 (by decide)) (ne 3 (by decide)))), ne 4 (by decide), ne 5 (by decide)⟩
theorem Q_plc {r s : Nat} (hO : Ok N) (hr : r < nR N) (hs : s < 10) (hp : P (placesF N r s 1) (wr m 0 N)) : RunI g h_N_ofRoom [vO 1 0 0, vI (nI r), vI (10 + nI s)] (wr m 0 N) P := by
  rw [show (10 : Int32) + nI s = nI (10 + s) from nI_add 10 s]
  refine T_N_ofRoom hO ?_
  obtain ⟨o1, o2, o3⟩ := or_out (y := 10 + s) (by omega) (by omega)
  unfold orF
  rw [if_pos (has_room hO hr), if_neg o1, if_neg o2, if_neg o3, if_pos (show ¬ nI (10 + s) < 10 ∧ ¬ 19 < nI (10 + s) from (win (q := 10 + s) (a := 10) (b := 19) (by omega) (by decide) (by decide)).mpr ⟨by omega, by omega⟩), nI_clamp (by have := hO.1.1.1.2; omega), show nI (10 + s) - 10 = nI s by rw [show (10 : Int32) = nI 10 by decide, pk_sub (by omega)]; congr 1; omega, nI_clamp (by omega)]
  exact hp
theorem Q_tkn {r s : Nat} (hO : Ok N) (hr : r < nR N) (hs : s < 10) (hp : P (takenF N (nI r) (nI s)) (wr m 0 N)) : RunI g h_N_ofRoom [vO 1 0 0, vI (nI r), vI (20 + nI s)] (wr m 0 N) P := by
  rw [show (20 : Int32) + nI s = nI (20 + s) from nI_add 20 s]
  refine T_N_ofRoom hO ?_
  obtain ⟨o1, o2, o3⟩ := or_out (y := 20 + s) (by omega) (by omega)
  unfold orF
  rw [if_pos (has_room hO hr), if_neg o1, if_neg o2, if_neg o3, if_neg (fun q => by have := (win (a := 10) (b := 19) (q := 20 + s) (by omega) (by decide) (by decide)).mp q; omega), if_pos (show ¬ nI (20 + s) < 20 ∧ ¬ 29 < nI (20 + s) from (win (q := 20 + s) (a := 20) (b := 29) (by omega) (by decide) (by decide)).mpr ⟨by omega, by omega⟩), show nI (20 + s) - 20 = nI s by rw [show (20 : Int32) = nI 20 by decide, pk_sub (by omega)]; congr 1; omega]
  exact hp
theorem Q_wel {r s : Nat} (hO : Ok N) (hr : r < nR N) (hs : s < 10) (hp : P (placesF N r s 0) (wr m 0 N)) : RunI g h_N_ofRoom [vO 1 0 0, vI (nI r), vI (30 + nI s)] (wr m 0 N) P := by
  rw [show (30 : Int32) + nI s = nI (30 + s) from nI_add 30 s]
  refine T_N_ofRoom hO ?_
  obtain ⟨o1, o2, o3⟩ := or_out (y := 30 + s) (by omega) (by omega)
  unfold orF
  rw [if_pos (has_room hO hr), if_neg o1, if_neg o2, if_neg o3, if_neg (fun q => by have := (win (a := 10) (b := 19) (q := 30 + s) (by omega) (by decide) (by decide)).mp q; omega), if_neg (fun q => by have := (win (a := 20) (b := 29) (q := 30 + s) (by omega) (by decide) (by decide)).mp q; omega), if_pos (show ¬ nI (30 + s) < 30 ∧ ¬ 39 < nI (30 + s) from (win (q := 30 + s) (a := 30) (b := 39) (by omega) (by decide) (by decide)).mpr ⟨by omega, by omega⟩), nI_clamp (by have := hO.1.1.1.2; omega), show nI (30 + s) - 30 = nI s by rw [show (30 : Int32) = nI 30 by decide, pk_sub (by omega)]; congr 1; omega, nI_clamp (by omega)]
  exact hp
theorem Q_free {r s : Nat} (hO : Ok N) (hr : r < nR N) (hs : s < 10) (hp : P (if placesF N r s 1 - takenF N (nI r) (nI s) < 0 then 0 else placesF N r s 1 - takenF N (nI r) (nI s)) (wr m 0 N)) : RunI g h_N_free [vO 1 0 0, vI (nI r), vI (nI s)] (wr m 0 N) P := by
  refine T_N_free hO ?_
  unfold frF
  rw [if_pos ⟨has_room hO hr, in9 hs⟩, nI_clamp (by have := hO.1.1.1.2; omega), nI_clamp (by omega)]
  exact hp
theorem Q_week (hO : Ok N) (hp : P (N 2 0 7) (wr m 0 N)) : RunI g h_N_count [vO 1 0 0, vI 0] (wr m 0 N) P := T_N_count hO (by unfold couF; rw [if_pos rfl]; exact hp)
theorem Q_nR (hO : Ok N) (hp : P (N 2 0 4) (wr m 0 N)) : RunI g h_N_count [vO 1 0 0, vI 1] (wr m 0 N) P := T_N_count hO (by unfold couF; rw [if_neg (by decide), if_pos rfl]; exact hp)
theorem Q_nC (hO : Ok N) (hp : P (N 2 0 5) (wr m 0 N)) : RunI g h_N_count [vO 1 0 0, vI 2] (wr m 0 N) P := T_N_count hO (by unfold couF; rw [if_neg (by decide), if_neg (by decide), if_pos rfl]; exact hp)
theorem Q_nK (hO : Ok N) (hp : P (N 2 0 6) (wr m 0 N)) : RunI g h_N_count [vO 1 0 0, vI 3] (wr m 0 N) P := T_N_count hO (by unfold couF; rw [if_neg (by decide), if_neg (by decide), if_neg (by decide), if_pos rfl]; exact hp)
theorem Q_st {st : Int32} (hO : Ok N) (h : st = 0 ∨ st = 1 ∨ st = 2) (hp : P (setI (fun j => N 9 j 3 = st) (nK N)) (wr m 0 N)) : RunI g h_N_count [vO 1 0 0, vI (4 + st)] (wr m 0 N) P := by
  refine T_N_count hO ?_
  unfold couF
  rcases h with rfl | rfl | rfl
  · rw [if_neg (by decide), if_neg (by decide), if_neg (by decide), if_neg (by decide), if_pos (by decide)]
    exact hp
  · rw [if_neg (by decide), if_neg (by decide), if_neg (by decide), if_neg (by decide), if_pos (by decide)]
    exact hp
  · rw [if_neg (by decide), if_neg (by decide), if_neg (by decide), if_neg (by decide), if_pos (by decide)]
    exact hp
theorem Q_set (hO : Ok N) (hp : P (setI (fun j => ¬ N 9 j 6 = 0) (nK N)) (wr m 0 N)) : RunI g h_N_count [vO 1 0 0, vI 7] (wr m 0 N) P := T_N_count hO (by unfold couF; rw [if_neg (by decide), if_neg (by decide), if_neg (by decide), if_neg (by decide), if_neg (by decide), if_pos rfl]; exact hp)
theorem Q_paid (hO : Ok N) (hp : P (N 2 0 9) (wr m 0 N)) : RunI g h_N_count [vO 1 0 0, vI 8] (wr m 0 N) P := T_N_count hO (by unfold couF; rw [if_neg (by decide), if_neg (by decide), if_neg (by decide), if_neg (by decide), if_neg (by decide), if_neg (by decide), if_pos rfl]; exact hp)
theorem Q_sent (hO : Ok N) (hp : P (N 2 0 11) (wr m 0 N)) : RunI g h_N_count [vO 1 0 0, vI 10] (wr m 0 N) P := T_N_count hO (by unfold couF; rw [if_neg (by decide), if_neg (by decide), if_neg (by decide), if_neg (by decide), if_neg (by decide), if_neg (by decide), if_neg (by decide), if_neg (by decide), if_pos rfl]; exact hp)
theorem Q_plan (hO : Ok N) (hp : P (nI (cnt (fun j => ¬ N 9 j 8 = -6) (nK N))) (wr m 0 N)) : RunI g h_N_count [vO 1 0 0, vI 11] (wr m 0 N) P := T_N_count hO (by unfold couF; rw [if_neg (by decide), if_neg (by decide), if_neg (by decide), if_neg (by decide), if_neg (by decide), if_neg (by decide), if_neg (by decide), if_neg (by decide), if_neg (by decide), if_pos rfl]; exact hp)
theorem Q_least (hO : Ok N) (hp : P (N 3 0 2) (wr m 0 N)) : RunI g h_N_count [vO 1 0 0, vI 16] (wr m 0 N) P := T_N_count hO (by unfold couF; rw [if_neg (by decide), if_neg (by decide), if_neg (by decide), if_neg (by decide), if_neg (by decide), if_neg (by decide), if_neg (by decide), if_neg (by decide), if_neg (by decide), if_neg (by decide), if_neg (by decide), if_neg (by decide), if_pos (by decide)]; exact hp)
/-! places of rooms -/
abbrev onP (N : Nu) (r day hour : Nat) (j : Nat) : Prop := dutyP N (nI r) (nI day) (nI hour) 1 j
abbrev osP (N : Nu) (r day hour : Nat) (j : Nat) : Prop := onP N r day hour j ∧ ¬ N 8 j 4 = 0
theorem duty0 {r day hour j : Nat} : dutyP N (nI r) (nI day) (nI hour) 0 j ↔ onP N r day hour j ∧ N 8 j 4 = 0 := by
  unfold onP dutyP
  constructor
  · rintro ⟨h1, h2, h3⟩
    exact ⟨⟨h1, Or.inl (by decide), h3⟩, h2.resolve_left (fun q => q rfl)⟩
  · rintro ⟨⟨h1, -, h3⟩, h2⟩
    exact ⟨h1, Or.inr h2, h3⟩
theorem well_cnt {r day hour n : Nat} : nI (cnt (onP N r day hour) n) - nI (cnt (osP N r day hour) n) = nI (cnt (dutyP N (nI r) (nI day) (nI hour) 0) n) := by
  have h := cnt_split (p := onP N r day hour) (q := fun j => N 8 j 4 = 0) n
  have e : cnt (dutyP N (nI r) (nI day) (nI hour) 0) n = cnt (fun c => onP N r day hour c ∧ N 8 c 4 = 0) n := cnt_congr fun j _ => duty0
  have e1 : cnt (fun c => onP N r day hour c ∧ ¬ N 8 c 4 = 0) n = cnt (osP N r day hour) n := cnt_congr fun j _ => Iff.rfl
  rw [pk_sub (by omega)]
  congr 1
  omega
theorem pl_step {N : Nu} {r day first mm : Nat} {q : Int32} {X : Int32} (hX : X = carersF N (nI r) (nI day) (nI (first + mm)) q * N 7 r 3) : (plF N r day first q mm ≤ X → plF N r day first q (mm + 1) = plF N r day first q mm) ∧ (¬ plF N r day first q mm ≤ X → plF N r day first q (mm + 1) = X) := by
  have hX2 : N 7 r 3 * carersF N (nI r) (nI day) (nI (first + mm)) q = X := by rw [hX, Int32.mul_comm]
  constructor
  · intro h
    show (if _ then _ else _) = _
    rw [hX2, if_neg (Int32.not_lt.mpr h)]
  · intro h
    show (if _ then _ else _) = _
    rw [hX2, if_pos (Int32.not_le.mp h)]
theorem free_val {L c : Nat} (hL : L ≤ 40) (hc : c ≤ 24) : (nI L ≤ nI c → (if nI L - nI c < 0 then 0 else nI L - nI c) = 0) ∧ (¬ nI L ≤ nI c → (if nI L - nI c < 0 then 0 else nI L - nI c) = nI L - nI c) := by
  constructor
  · intro h
    have h1 := (nI_leI (by omega) (by omega)).mp h
    by_cases e : L = c
    · subst e
      rw [Int32.sub_self]
      decide
    · rw [if_pos (pk_sneg (by omega) (by omega))]
  · intro h
    have h1 : ¬ L ≤ c := fun q => h (nI_le q (by omega))
    rw [if_neg]
    rw [pk_sub (by omega)]
    exact nI_pos (by omega)
theorem S_Lw_rooms (hO : Ok N) (hp : P 1 (wr m 0 N)) : RunI g h_Lw_rooms [vO 1 0 0] (wr m 0 N) P := by
  have hB := hO.1.1
  have h5 := hB.1.2
  have h12 := hO.1.2
  have h24 := hB.2.2.2
  refine RunI.ofGo rfl rfl (b_Lw_rooms_0 ?_)
  refine loopN (G := fun r => Go g h_Lw_rooms (QI P) 4 [(0, vO 1 0 0), (1, vI 1), (2, vI (nI r))] [] (wr m 0 N)) (nR N) ?_ ?_ 0 (Nat.zero_le _)
  · exact b_Lw_rooms_4 (Q_nR hO ⟨fun _ => ⟨Or.inr rfl, qi hp⟩, fun h => absurd (by rw [hB.1.1]; exact le_self _) h⟩)
  intro r hr ihr
  refine b_Lw_rooms_4 (Q_nR hO ⟨fun h => absurd h (by rw [hB.1.1]; exact nI_ge hr (by omega)), fun _ => ⟨fun h => absurd h (by decide), fun _ => ?_⟩⟩)
  refine loopN (G := fun s => Go g h_Lw_rooms (QI P) 19 [(0, vO 1 0 0), (1, vI 1), (2, vI (nI r)), (3, vI (nI s))] [] (wr m 0 N)) 10 ?_ ?_ 0 (Nat.zero_le _)
  · refine b_Lw_rooms_19 ⟨fun _ => ?_, fun h => absurd (by decide) h⟩
    rw [nI_1]
    exact ihr
  intro s hs ihs
  refine b_Lw_rooms_19 ⟨fun h => absurd h (nI_ge (b := 10) hs (by omega)), fun _ => ⟨fun h => absurd h (by decide), fun _ => Q_room (j := 2) hO hr (by decide) (Q_room (j := 2) hO hr (by decide) ⟨by decide, ?_⟩)⟩⟩
  have e2 : nI s - nI s / 2 * 2 = nI (s % 2) := pk_rem (d := 2) (by omega) (by omega) (by omega)
  have e5 : nI (s % 2) * 5 = nI (s % 2 * 5) := pk_mul _ 5
  have ed : nI s / 2 = nI (s / 2) := pk_div (d := 2) (by omega) (by omega) (by omega)
  rw [e2, e5]
  -- what is left behind the hours
  have tail : Go g h_Lw_rooms (QI P) 262 [(0, vO 1 0 0), (2, vI (nI r)), (3, vI (nI s)), (4, vI 0), (5, vI (placesF N r s 1)), (6, vI (placesF N r s 0)), (7, vI 0)] [] (wr m 0 N) := by
    refine loopN (G := fun j => Go g h_Lw_rooms (QI P) 262 [(0, vO 1 0 0), (2, vI (nI r)), (3, vI (nI s)), (4, vI (nI (cnt (tkP N (nI r) (nI s)) j))), (5, vI (placesF N r s 1)), (6, vI (placesF N r s 0)), (7, vI (nI j))] [] (wr m 0 N)) (nK N) ?_ ?_ 0 (Nat.zero_le _)
    · have fin : Go g h_Lw_rooms (QI P) 381 [(0, vO 1 0 0), (2, vI (nI r)), (3, vI (nI s))] [vI 1] (wr m 0 N) := by
        refine b_Lw_rooms_381 ?_
        rw [nI_1]
        exact ihs
      obtain ⟨L, hL, eL⟩ := hO.2.2.1.places hB hr s 1
      have hcl : cnt (tkP N (nI r) (nI s)) (nK N) ≤ 24 := Nat.le_trans (cnt_le _ _) h24
      have hfv := free_val hL hcl
      rw [← eL] at hfv
      have hfr : takenF N (nI r) (nI s) = nI (cnt (tkP N (nI r) (nI s)) (nK N)) := rfl
      refine b_Lw_rooms_262 (Q_nK hO ⟨fun _ => Q_plc hO hr hs ⟨fun h => absurd rfl h, fun _ => Q_tkn hO hr hs ⟨fun h => absurd hfr h, fun _ => Q_wel hO hr hs ⟨fun h => absurd rfl h, fun _ => Q_free hO hr hs ?_⟩⟩⟩, fun h => absurd (by rw [hB.2.2.1]; exact le_self _) h⟩)
      rw [hfr]
      exact ⟨fun h => ⟨fun q => absurd (hfv.1 h) q, fun _ => fin⟩, fun h => ⟨fun q => absurd (hfv.2 h) q, fun _ => fin⟩⟩
    · intro j hj ih
      have hT := cnt_t (p := tkP N (nI r) (nI s)) (n := j)
      have hF := cnt_f (p := tkP N (nI r) (nI s)) (n := j)
      refine b_Lw_rooms_262 (Q_nK hO ⟨fun h => absurd h (by rw [hB.2.2.1]; exact nI_ge hj (by omega)), fun _ => Q_kid (j := 4) hO hj (by decide) ⟨fun h => ?_, fun h => Q_kid (j := 5) hO hj (by decide) ?_⟩⟩)
      · rw [Int32.add_zero, nI_1]
        rw [hF (fun q => h q.1)] at ih
        exact ih
      · rw [bit01, nI_1]
        by_cases h2 : Has (N 9 j 5) (nI s)
        · rw [if_pos h2, nI_1]
          rw [hT ⟨h, h2⟩] at ih
          exact ih
        · rw [if_neg h2, Int32.add_zero]
          rw [hF (fun q => h2 q.2)] at ih
          exact ih
  unfold placesF at tail
  have hday : s / 2 < 5 := by omega
  have hf : s % 2 * 5 ≤ 5 := by omega
  generalize hd : s / 2 = day at *
  generalize hfi : s % 2 * 5 = first at *
  refine loopN (G := fun mm => Go g h_Lw_rooms (QI P) 55 [(0, vO 1 0 0), (2, vI (nI r)), (3, vI (nI s)), (4, vI 0), (5, vI (plF N r day first 1 mm)), (6, vI (plF N r day first 0 mm)), (7, vI (nI (first + mm)))] [] (wr m 0 N)) 5 ?_ ?_ 0 (Nat.zero_le _)
  · refine b_Lw_rooms_55 ⟨by decide, fun _ => tail, fun h => absurd ?_ h⟩
    rw [e2, e5]
    show nI first + 5 ≤ nI (first + 5)
    rw [← nI_add]
    exact le_self _
  intro mm hmm ihm
  have hlt : ¬ nI first + 5 ≤ nI (first + mm) := by
    rw [show nI first + 5 = nI (first + 5) from nI_add _ 5]
    exact nI_ge (by omega) (by omega)
  refine b_Lw_rooms_55 ⟨by decide, fun h => absurd (by rw [e2, e5] at h; exact h) hlt, fun _ => ?_⟩
  refine loopN (G := fun j => Go g h_Lw_rooms (QI P) 76 [(0, vO 1 0 0), (2, vI (nI r)), (3, vI (nI s)), (4, vI 0), (5, vI (plF N r day first 1 mm)), (6, vI (plF N r day first 0 mm)), (7, vI (nI (first + mm))), (8, vI (nI (cnt (onP N r day (first + mm)) j))), (9, vI (nI (cnt (osP N r day (first + mm)) j))), (10, vI (nI j))] [] (wr m 0 N)) (nC N) ?_ ?_ 0 (Nat.zero_le _)
  · have s1 := pl_step (N := N) (r := r) (day := day) (first := first) (mm := mm) (q := 1) (X := nI (cnt (onP N r day (first + mm)) (nC N)) * N 7 r 3) rfl
    have s0 := pl_step (N := N) (r := r) (day := day) (first := first) (mm := mm) (q := 0) (X := (nI (cnt (onP N r day (first + mm)) (nC N)) - nI (cnt (osP N r day (first + mm)) (nC N))) * N 7 r 3) (by rw [well_cnt]; rfl)
    have next : Go g h_Lw_rooms (QI P) 215 [(0, vO 1 0 0), (2, vI (nI r)), (3, vI (nI s)), (4, vI 0), (6, vI (plF N r day first 0 mm)), (7, vI (nI (first + mm))), (8, vI (nI (cnt (onP N r day (first + mm)) (nC N)))), (9, vI (nI (cnt (osP N r day (first + mm)) (nC N))))] [vI (plF N r day first 1 (mm + 1))] (wr m 0 N) := by
      have last : Go g h_Lw_rooms (QI P) 251 [(0, vO 1 0 0), (2, vI (nI r)), (3, vI (nI s)), (4, vI 0), (5, vI (plF N r day first 1 (mm + 1))), (7, vI (nI (first + mm)))] [vI (plF N r day first 0 (mm + 1))] (wr m 0 N) := by
        refine b_Lw_rooms_251 ?_
        rw [nI_1]
        exact ihm
      refine b_Lw_rooms_215 (Q_room (j := 3) hO hr (by decide) ⟨fun h => ?_, fun h => Q_room (j := 3) hO hr (by decide) ?_⟩)
      · rw [s0.1 h] at last
        exact last
      · rw [s0.2 h] at last
        exact last
    refine b_Lw_rooms_76 (Q_nC hO ⟨fun _ => Q_room (j := 3) hO hr (by decide) ⟨fun h => ?_, fun h => Q_room (j := 3) hO hr (by decide) ?_⟩, fun h => absurd (by rw [hB.2.1.1]; exact le_self _) h⟩)
    · rw [s1.1 h] at next
      exact next
    · rw [s1.2 h] at next
      exact next
  intro j hj ih
  have hT := cnt_t (p := onP N r day (first + mm)) (n := j)
  have hF := cnt_f (p := onP N r day (first + mm)) (n := j)
  have gT := cnt_t (p := osP N r day (first + mm)) (n := j)
  have gF := cnt_f (p := osP N r day (first + mm)) (n := j)
  have no : ¬ onP N r day (first + mm) j → Go g h_Lw_rooms (QI P) 143 [(0, vO 1 0 0), (2, vI (nI r)), (3, vI (nI s)), (4, vI 0), (5, vI (plF N r day first 1 mm)), (6, vI (plF N r day first 0 mm)), (7, vI (nI (first + mm))), (8, vI (nI (cnt (onP N r day (first + mm)) j))), (9, vI (nI (cnt (osP N r day (first + mm)) j))), (10, vI (nI j))] [vI 0] (wr m 0 N) := by
    intro h
    refine b_Lw_rooms_143 ⟨fun _ => ⟨fun _ => ?_, fun q => absurd rfl q⟩, fun q => absurd rfl q⟩
    rw [Int32.add_zero, Int32.add_zero, nI_1]
    rw [hF h, gF (fun q => h q.1)] at ih
    exact ih
  have yes : onP N r day (first + mm) j → Go g h_Lw_rooms (QI P) 143 [(0, vO 1 0 0), (2, vI (nI r)), (3, vI (nI s)), (4, vI 0), (5, vI (plF N r day first 1 mm)), (6, vI (plF N r day first 0 mm)), (7, vI (nI (first + mm))), (8, vI (nI (cnt (onP N r day (first + mm)) j))), (9, vI (nI (cnt (osP N r day (first + mm)) j))), (10, vI (nI j))] [vI 1] (wr m 0 N) := by
    intro h
    refine b_Lw_rooms_143 ⟨fun q => absurd q (by decide), fun _ => ⟨fun q => absurd q (by decide), fun _ => Q_car (j := 4) hO hj (by decide) ?_⟩⟩
    rw [nI_1, nI_1]
    rcases (hO.2.2.2.1.1 j hj).2 with h0 | h0
    · rw [h0, Int32.add_zero]
      rw [hT h, gF (fun q => q.2 h0)] at ih
      exact ih
    · rw [h0, nI_1]
      rw [hT h, gT ⟨h, by rw [h0]; decide⟩] at ih
      exact ih
  refine b_Lw_rooms_76 (Q_nC hO ⟨fun h => absurd h (by rw [hB.2.1.1]; exact nI_ge hj (by omega)), fun _ => Q_car (j := 0) hO hj (by decide) ⟨fun h => no (fun q => h q.1), fun h1 => Q_car (j := 1) hO hj (by decide) ⟨by decide, ?_⟩⟩⟩)
  rw [ed]
  exact ⟨fun h => no (fun q => h q.2.2.1), fun h2 => Q_car (j := 2) hO hj (by decide) ⟨fun h => no (fun q => q.2.2.2.1 h), fun h3 => Q_car (j := 3) hO hj (by decide) ⟨fun h => no (fun q => q.2.2.2.2 h), fun h4 => yes ⟨h1, Or.inl (by decide), h2, h3, h4⟩⟩⟩⟩
end LAWM
