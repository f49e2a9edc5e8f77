/-! A STATE AS A VALUE, and what the class reads of it -/
abbrev Nu : Type := Fin 10 → Nat → Nat → Int32
def rd (mem : Mm) (k : Nat) : Nu := fun t i j => mem (t.val, k, i) j
abbrev nR (N : Nu) : Nat := (N 2 0 4).toNatClampNeg
abbrev nC (N : Nu) : Nat := (N 2 0 5).toNatClampNeg
abbrev nK (N : Nu) : Nat := (N 2 0 6).toNatClampNeg
/-- the counts are counts -/
def Bd (N : Nu) : Prop := (N 2 0 4 = nI (nR N) ∧ nR N ≤ 5) ∧ (N 2 0 5 = nI (nC N) ∧ nC N ≤ 13) ∧ (N 2 0 6 = nI (nK N) ∧ nK N ≤ 24)
abbrev tkP (N : Nu) (room s : Int32) (j : Nat) : Prop := N 9 j 4 = room ∧ Has (N 9 j 5) s
def takenF (N : Nu) (room s : Int32) : Int32 := nI (cnt (tkP N room s) (nK N))
abbrev dutyP (N : Nu) (room day hour sick : Int32) (j : Nat) : Prop := N 8 j 0 = room ∧ (¬ sick = 0 ∨ N 8 j 4 = 0) ∧ Has (N 8 j 1) day ∧ ¬ hour < N 8 j 2 ∧ ¬ N 8 j 3 ≤ hour
def carersF (N : Nu) (room day hour sick : Int32) : Int32 := nI (cnt (dutyP N room day hour sick) (nC N))
def plF (N : Nu) (r day first : Nat) (sick : Int32) : Nat → Int32
  | 0 => N 7 r 2
  | m + 1 => if N 7 r 3 * carersF N (nI r) (nI day) (nI (first + m)) sick < plF N r day first sick m then N 7 r 3 * carersF N (nI r) (nI day) (nI (first + m)) sick else plF N r day first sick m
def placesF (N : Nu) (r s : Nat) (sick : Int32) : Int32 := plF N r (s / 2) (s % 2 * 5) sick 5
abbrev openP (N : Nu) (r s : Nat) : Prop := ¬ placesF N r s 1 ≤ takenF N (nI r) (nI s)
def openF (N : Nu) (r : Nat) (set : Int32) : Int32 := setI (fun s => Has set (nI s) ∧ openP N r s) 10
abbrev forP (N : Nu) (age : Int32) (r : Nat) : Prop := ¬ age < N 7 r 0 ∧ ¬ N 7 r 1 ≤ age
def roomN (N : Nu) (age : Int32) : Nat := low (forP N age) 0 (nR N)
def roomI (N : Nu) (age : Int32) : Int32 := if roomN N age < nR N then nI (roomN N age) else -6
theorem le_self (a : Int32) : a ≤ a := Int32.le_iff_toInt_le.mpr (Int.le_refl _)
section STATE
variable {g : Wg} {mem : Mm} {P : Int32 → Mm → Prop} {PV : Mm → Prop} {k : Nat}
theorem hasG {x : Int32} {n : Nat} (hn : n < 2 ^ 31) : (¬ x < 0 ∧ ¬ nI n ≤ x) ↔ ∃ r, r < n ∧ x = nI r := by
  constructor
  · rintro ⟨h1, h2⟩
    obtain ⟨j, hj, rfl⟩ := nI_of h1
    exact ⟨j, Nat.not_le.mp (fun q => h2 (nI_le q hj)), rfl⟩
  · rintro ⟨r, hr, rfl⟩
    exact ⟨nI_pos (by omega), nI_ge hr hn⟩
theorem S_St_hasRoom {x : Int32} (hp : P (b2i (¬ x < 0 ∧ ¬ mem (2, k, 0) 4 ≤ x)) mem) : RunI g h_St_hasRoom [vO 2 k 0, vI x] mem P := by
  refine RunI.ofGo rfl rfl (b_St_hasRoom_0 ?_)
  repeat' first | (apply And.intro) | (intro _) | (apply qi)
  all_goals first | decide | (simpa [b2i, *] using hp)
theorem S_St_hasCarer {x : Int32} (hp : P (b2i (¬ x < 0 ∧ ¬ mem (2, k, 0) 5 ≤ x)) mem) : RunI g h_St_hasCarer [vO 2 k 0, vI x] mem P := by
  refine RunI.ofGo rfl rfl (b_St_hasCarer_0 ?_)
  repeat' first | (apply And.intro) | (intro _) | (apply qi)
  all_goals first | decide | (simpa [b2i, *] using hp)
theorem S_St_hasChild {x : Int32} (hp : P (b2i (¬ x < 0 ∧ ¬ mem (2, k, 0) 6 ≤ x)) mem) : RunI g h_St_hasChild [vO 2 k 0, vI x] mem P := by
  refine RunI.ofGo rfl rfl (b_St_hasChild_0 ?_)
  repeat' first | (apply And.intro) | (intro _) | (apply qi)
  all_goals first | decide | (simpa [b2i, *] using hp)
theorem S_St_takenIn {room s : Int32} (hB : Bd (rd mem k)) (hp : P (takenF (rd mem k) room s) mem) : RunI g h_St_takenIn [vO 2 k 0, vI room, vI s] mem P := by
  obtain ⟨-, -, hn, h24⟩ := hB
  have hn : mem (2, k, 0) 6 = nI (nK (rd mem k)) := hn
  unfold takenF at hp
  generalize nK (rd mem k) = n at hn h24 hp
  refine RunI.ofGo rfl rfl (b_St_takenIn_0 ?_)
  refine loopN (G := fun j => Go g h_St_takenIn (QI P) 5 [(0, vO 2 k 0), (1, vI room), (2, vI s), (3, vI (nI (cnt (tkP (rd mem k) room s) j))), (4, vI (nI j))] [] mem) n ?_ ?_ 0 (Nat.zero_le _)
  · refine b_St_takenIn_5 ⟨fun _ => qi hp, fun h => absurd (by rw [hn]; exact le_self _) h⟩
  · intro j hj ih
    have hc := nI_clamp (n := j) (by omega)
    have hin := vp_in_nI (n := j) (N := 24) (by omega) (by omega)
    refine b_St_takenIn_5 ⟨fun h => absurd h (by rw [hn]; exact nI_ge hj (by omega)), fun _ => ⟨hin, fun h1 => ?_, fun h1 => ⟨hin, S_Ch_has ?_⟩⟩⟩
    · rw [hc] at h1
      simp only [cnt_f (p := tkP (rd mem k) room s) (fun q => h1 q.1), nI_succ] at ih
      exact ih
    · rw [hc] at h1 ⊢
      simp only [b2i_eq0, Decidable.not_not]
      refine ⟨fun h2 => ?_, fun h2 => ?_⟩
      · simp only [cnt_f (p := tkP (rd mem k) room s) (fun q => h2 q.2), nI_succ] at ih
        exact ih
      · simp only [cnt_t (p := tkP (rd mem k) room s) ⟨h1, h2⟩, nI_succ] at ih
        exact ih
theorem S_St_carersOf {room : Int32} (hB : Bd (rd mem k)) (hp : P (setI (fun j => rd mem k 8 j 0 = room) (nC (rd mem k))) mem) : RunI g h_St_carersOf [vO 2 k 0, vI room] mem P := by
  obtain ⟨-, ⟨hn, h24⟩, -⟩ := hB
  have hn : mem (2, k, 0) 5 = nI (nC (rd mem k)) := hn
  generalize nC (rd mem k) = n at hn h24 hp
  refine RunI.ofGo rfl rfl (b_St_carersOf_0 ?_)
  refine loopN (G := fun j => Go g h_St_carersOf (QI P) 4 [(0, vO 2 k 0), (1, vI room), (2, vI (setI (fun j => rd mem k 8 j 0 = room) j)), (3, vI (nI j))] [] mem) n ?_ ?_ 0 (Nat.zero_le _)
  · refine b_St_carersOf_4 ⟨fun _ => qi hp, fun h => absurd (by rw [hn]; exact le_self _) h⟩
  · intro j hj ih
    have hc := nI_clamp (n := j) (by omega)
    have hin := vp_in_nI (n := j) (N := 13) (by omega) (by omega)
    refine b_St_carersOf_4 ⟨fun h => absurd h (by rw [hn]; exact nI_ge hj (by omega)), fun _ => ⟨hin, ?_⟩⟩
    rw [hc]
    refine ⟨fun h1 => ?_, fun h1 => ?_⟩
    · simp only [setI_f (p := fun j => rd mem k 8 j 0 = room) h1, nI_succ] at ih
      exact ih
    · simp only [setI_t (p := fun j => rd mem k 8 j 0 = room) h1, nI_succ] at ih
      exact ih
theorem S_St_childrenOf {room : Int32} (hB : Bd (rd mem k)) (hp : P (setI (fun j => rd mem k 9 j 4 = room) (nK (rd mem k))) mem) : RunI g h_St_childrenOf [vO 2 k 0, vI room] mem P := by
  obtain ⟨-, -, hn, h24⟩ := hB
  have hn : mem (2, k, 0) 6 = nI (nK (rd mem k)) := hn
  generalize nK (rd mem k) = n at hn h24 hp
  refine RunI.ofGo rfl rfl (b_St_childrenOf_0 ?_)
  refine loopN (G := fun j => Go g h_St_childrenOf (QI P) 4 [(0, vO 2 k 0), (1, vI room), (2, vI (setI (fun j => rd mem k 9 j 4 = room) j)), (3, vI (nI j))] [] mem) n ?_ ?_ 0 (Nat.zero_le _)
  · refine b_St_childrenOf_4 ⟨fun _ => qi hp, fun h => absurd (by rw [hn]; exact le_self _) h⟩
  · intro j hj ih
    have hc := nI_clamp (n := j) (by omega)
    have hin := vp_in_nI (n := j) (N := 24) (by omega) (by omega)
    refine b_St_childrenOf_4 ⟨fun h => absurd h (by rw [hn]; exact nI_ge hj (by omega)), fun _ => ⟨hin, ?_⟩⟩
    rw [hc]
    refine ⟨fun h1 => ?_, fun h1 => ?_⟩
    · simp only [setI_f (p := fun j => rd mem k 9 j 4 = room) h1, nI_succ] at ih
      exact ih
    · simp only [setI_t (p := fun j => rd mem k 9 j 4 = room) h1, nI_succ] at ih
      exact ih
theorem S_St_childrenInState {st : Int32} (hB : Bd (rd mem k)) (hp : P (setI (fun j => rd mem k 9 j 3 = st) (nK (rd mem k))) mem) : RunI g h_St_childrenInState [vO 2 k 0, vI st] mem P := by
  obtain ⟨-, -, hn, h24⟩ := hB
  have hn : mem (2, k, 0) 6 = nI (nK (rd mem k)) := hn
  generalize nK (rd mem k) = n at hn h24 hp
  refine RunI.ofGo rfl rfl (b_St_childrenInState_0 ?_)
  refine loopN (G := fun j => Go g h_St_childrenInState (QI P) 4 [(0, vO 2 k 0), (1, vI st), (2, vI (setI (fun j => rd mem k 9 j 3 = st) j)), (3, vI (nI j))] [] mem) n ?_ ?_ 0 (Nat.zero_le _)
  · refine b_St_childrenInState_4 ⟨fun _ => qi hp, fun h => absurd (by rw [hn]; exact le_self _) h⟩
  · intro j hj ih
    have hc := nI_clamp (n := j) (by omega)
    have hin := vp_in_nI (n := j) (N := 24) (by omega) (by omega)
    refine b_St_childrenInState_4 ⟨fun h => absurd h (by rw [hn]; exact nI_ge hj (by omega)), fun _ => ⟨hin, ?_⟩⟩
    rw [hc]
    refine ⟨fun h1 => ?_, fun h1 => ?_⟩
    · simp only [setI_f (p := fun j => rd mem k 9 j 3 = st) h1, nI_succ] at ih
      exact ih
    · simp only [setI_t (p := fun j => rd mem k 9 j 3 = st) h1, nI_succ] at ih
      exact ih
theorem S_St_settledChildren (hB : Bd (rd mem k)) (hp : P (setI (fun j => ¬ rd mem k 9 j 6 = 0) (nK (rd mem k))) mem) : RunI g h_St_settledChildren [vO 2 k 0] mem P := by
  obtain ⟨-, -, hn, h24⟩ := hB
  have hn : mem (2, k, 0) 6 = nI (nK (rd mem k)) := hn
  generalize nK (rd mem k) = n at hn h24 hp
  refine RunI.ofGo rfl rfl (b_St_settledChildren_0 ?_)
  refine loopN (G := fun j => Go g h_St_settledChildren (QI P) 4 [(0, vO 2 k 0), (1, vI (setI (fun j => ¬ rd mem k 9 j 6 = 0) j)), (2, vI (nI j))] [] mem) n ?_ ?_ 0 (Nat.zero_le _)
  · refine b_St_settledChildren_4 ⟨fun _ => qi hp, fun h => absurd (by rw [hn]; exact le_self _) h⟩
  · intro j hj ih
    have hc := nI_clamp (n := j) (by omega)
    have hin := vp_in_nI (n := j) (N := 24) (by omega) (by omega)
    refine b_St_settledChildren_4 ⟨fun h => absurd h (by rw [hn]; exact nI_ge hj (by omega)), fun _ => ⟨hin, ?_⟩⟩
    rw [hc]
    refine ⟨fun h1 => ?_, fun h1 => ?_⟩
    · simp only [setI_f (p := fun j => ¬ rd mem k 9 j 6 = 0) (fun q => q h1), nI_succ] at ih
      exact ih
    · simp only [setI_t (p := fun j => ¬ rd mem k 9 j 6 = 0) h1, nI_succ] at ih
      exact ih
theorem S_St_plannedVisits (hB : Bd (rd mem k)) (hp : P (nI (cnt (fun j => ¬ rd mem k 9 j 8 = -6) (nK (rd mem k)))) mem) : RunI g h_St_plannedVisits [vO 2 k 0] mem P := by
  obtain ⟨-, -, hn, h24⟩ := hB
  have hn : mem (2, k, 0) 6 = nI (nK (rd mem k)) := hn
  generalize nK (rd mem k) = n at hn h24 hp
  refine RunI.ofGo rfl rfl (b_St_plannedVisits_0 ?_)
  refine loopN (G := fun j => Go g h_St_plannedVisits (QI P) 4 [(0, vO 2 k 0), (1, vI (nI (cnt (fun j => ¬ rd mem k 9 j 8 = -6) j))), (2, vI (nI j))] [] mem) n ?_ ?_ 0 (Nat.zero_le _)
  · refine b_St_plannedVisits_4 ⟨fun _ => qi hp, fun h => absurd (by rw [hn]; exact le_self _) h⟩
  · intro j hj ih
    have hc := nI_clamp (n := j) (by omega)
    have hin := vp_in_nI (n := j) (N := 24) (by omega) (by omega)
    refine b_St_plannedVisits_4 ⟨fun h => absurd h (by rw [hn]; exact nI_ge hj (by omega)), fun _ => ⟨hin, ?_⟩⟩
    rw [hc]
    refine ⟨fun h1 => ?_, fun h1 => ?_⟩
    · simp only [cnt_f (p := fun j => ¬ rd mem k 9 j 8 = -6) (fun q => q h1), nI_succ] at ih
      exact ih
    · simp only [cnt_t (p := fun j => ¬ rd mem k 9 j 8 = -6) h1, nI_succ] at ih
      exact ih
theorem S_St_roomOfAge {age : Int32} (hB : Bd (rd mem k)) (hp : P (roomI (rd mem k) age) mem) : RunI g h_St_roomOfAge [vO 2 k 0, vI age] mem P := by
  obtain ⟨⟨hn, h5⟩, -⟩ := hB
  have hn : mem (2, k, 0) 4 = nI (nR (rd mem k)) := hn
  unfold roomI roomN at hp
  generalize nR (rd mem k) = n at hn h5 hp
  refine RunI.ofGo rfl rfl (b_St_roomOfAge_0 ?_)
  refine loopN (G := fun j => low (forP (rd mem k) age) 0 n = low (forP (rd mem k) age) j (n - j) → Go g h_St_roomOfAge (QI P) 2 [(0, vO 2 k 0), (1, vI age), (2, vI (nI j))] [] mem) n ?_ ?_ 0 (Nat.zero_le _) rfl
  · intro he
    refine b_St_roomOfAge_2 ⟨fun _ => qi ?_, fun h => absurd (by rw [hn]; exact le_self _) h⟩
    rw [Nat.sub_self] at he
    rw [he, if_neg (by unfold low; omega)] at hp
    exact hp
  · intro j hj ih he
    have hc := nI_clamp (n := j) (by omega)
    have hin := vp_in_nI (n := j) (N := 5) (by omega) (by omega)
    rw [show n - j = (n - (j + 1)) + 1 by omega] at he
    refine b_St_roomOfAge_2 ⟨fun h => absurd h (by rw [hn]; exact nI_ge hj (by omega)), fun _ => ⟨hin, ?_⟩⟩
    rw [hc]
    refine S_Rm_isFor ?_
    simp only [b2i_eq0, Decidable.not_not]
    refine ⟨fun h1 => ?_, fun h1 => qi ?_⟩
    · rw [← nI_succ]
      exact ih (he.trans (low_f (p := forP (rd mem k) age) h1))
    · rw [he, low_t (p := forP (rd mem k) age) h1, if_pos hj] at hp
      exact hp
theorem S_St_placesIn {r s : Nat} {sick : Int32} (hB : Bd (rd mem k)) (hr : r < nR (rd mem k)) (hs : s < 10) (hp : P (placesF (rd mem k) r s sick) mem) : RunI g h_St_placesIn [vO 2 k 0, vI (nI r), vI (nI s), vI sick] mem P := by
  obtain ⟨⟨hnR, h5⟩, ⟨hn, h13⟩, -⟩ := hB
  have hn : mem (2, k, 0) 5 = nI (nC (rd mem k)) := hn
  have hnR : mem (2, k, 0) 4 = nI (nR (rd mem k)) := hnR
  have hcr := nI_clamp (n := r) (by omega)
  have hir := vp_in_nI (n := r) (N := 5) (by omega) (by omega)
  refine RunI.ofGo rfl rfl (b_St_placesIn_0 (S_St_hasRoom ?_))
  rw [b2i_t ⟨nI_pos (by omega), by rw [hnR]; exact nI_ge hr (by omega)⟩]
  refine ⟨fun _ => ⟨by decide, by decide, hir, ?_⟩, fun h => absurd h (by decide)⟩
  rw [hcr, show nI s - nI s / 2 * 2 = nI (s % 2) from pk_rem (d := 2) (by omega) (by omega) (by omega), show nI s / 2 = nI (s / 2) from pk_div (d := 2) (by omega) (by omega) (by omega), show nI (s % 2) * 5 = nI (s % 2 * 5) from pk_mul _ 5]
  unfold placesF at hp
  have hf : s % 2 * 5 ≤ 5 := by omega
  generalize s / 2 = day at hp ⊢
  generalize s % 2 * 5 = first at hp hf ⊢
  refine loopN (G := fun m => Go g h_St_placesIn (QI P) 37 [(0, vO 2 k 0), (1, vI (nI r)), (3, vI sick), (4, vI (nI day)), (5, vI (nI first)), (6, vI (plF (rd mem k) r day first sick m)), (7, vI (nI (first + m)))] [] mem) 5 ?_ ?_ 0 (Nat.zero_le _)
  · refine b_St_placesIn_37 ⟨fun _ => qi hp, fun h => absurd (show nI first + 5 ≤ nI (first + 5) by rw [← nI_add]; exact le_self _) h⟩
  · intro m hm ih
    refine b_St_placesIn_37 ⟨fun h => absurd h (by rw [show nI first + 5 = nI (first + 5) from nI_add _ 5]; exact nI_ge (by omega) (by omega)), fun _ => ?_⟩
    refine loopN (G := fun j => Go g h_St_placesIn (QI P) 52 [(0, vO 2 k 0), (1, vI (nI r)), (3, vI sick), (4, vI (nI day)), (5, vI (nI first)), (6, vI (plF (rd mem k) r day first sick m)), (7, vI (nI (first + m))), (8, vI (nI (cnt (dutyP (rd mem k) (nI r) (nI day) (nI (first + m)) sick) j))), (9, vI (nI j))] [] mem) (nC (rd mem k)) ?_ ?_ 0 (Nat.zero_le _)
    · refine b_St_placesIn_52 ⟨fun _ => ⟨hir, ?_⟩, fun h => absurd (by rw [hn]; exact le_self _) h⟩
      rw [hcr, nI_1]
      exact ih
    · intro j hj ih2
      have hc := nI_clamp (n := j) (by omega)
      have hin := vp_in_nI (n := j) (N := 13) (by omega) (by omega)
      refine b_St_placesIn_52 ⟨fun h => absurd h (by rw [hn]; exact nI_ge hj (by omega)), fun _ => ⟨hin, ?_⟩⟩
      rw [hc]
      have hT := cnt_t (p := dutyP (rd mem k) (nI r) (nI day) (nI (first + m)) sick) (n := j)
      have hF := cnt_f (p := dutyP (rd mem k) (nI r) (nI day) (nI (first + m)) sick) (n := j)
      refine ⟨fun h1 => ⟨fun _ => ?_, fun h => absurd rfl h⟩, fun h1 => ⟨fun h2 => ⟨fun h => absurd h (by decide), fun _ => S_Ca_isOnDuty ?_⟩, fun h2 => ⟨fun h3 => ⟨fun _ => ?_, fun h => absurd rfl h⟩, fun h3 => ⟨fun h => absurd h (by decide), fun _ => S_Ca_isOnDuty ?_⟩⟩⟩⟩
      · rw [hF (fun q => h1 q.1), nI_succ] at ih2
        exact ih2
      · simp only [b2i_eq0, Decidable.not_not]
        refine ⟨fun h4 => ?_, fun h4 => ?_⟩
        · rw [hF (fun q => h4 q.2.2), nI_succ] at ih2
          exact ih2
        · rw [hT ⟨h1, Or.inl h2, h4⟩, nI_succ, nI_succ] at ih2
          exact ih2
      · rw [hF (fun q => q.2.1.elim (fun a => a h2) h3), nI_succ] at ih2
        exact ih2
      · simp only [b2i_eq0, Decidable.not_not]
        refine ⟨fun h4 => ?_, fun h4 => ?_⟩
        · rw [hF (fun q => h4 q.2.2), nI_succ] at ih2
          exact ih2
        · rw [hT ⟨h1, Or.inr h3, h4⟩, nI_succ, nI_succ] at ih2
          exact ih2
def allF (N : Nu) (r : Nat) : Int32 := sumI (fun s => placesF N r s 1) 10
theorem S_St_placesInAll {r : Nat} (hB : Bd (rd mem k)) (hr : r < nR (rd mem k)) (hp : P (allF (rd mem k) r) mem) : RunI g h_St_placesInAll [vO 2 k 0, vI (nI r)] mem P := by
  refine RunI.ofGo rfl rfl (b_St_placesInAll_0 ?_)
  refine loopN (G := fun j => Go g h_St_placesInAll (QI P) 4 [(0, vO 2 k 0), (1, vI (nI r)), (2, vI (sumI (fun s => placesF (rd mem k) r s 1) j)), (3, vI (nI j))] [] mem) 10 ?_ ?_ 0 (Nat.zero_le _)
  · exact b_St_placesInAll_4 ⟨fun _ => qi hp, fun h => absurd (by decide) h⟩
  · intro j hj ih
    refine b_St_placesInAll_4 ⟨fun h => absurd h (show ¬ nI 10 ≤ nI j from nI_ge hj (by omega)), fun _ => S_St_placesIn hB hr hj ?_⟩
    rw [nI_1]
    exact ih
theorem S_St_isOpen {r s : Nat} (hB : Bd (rd mem k)) (hr : r < nR (rd mem k)) (hs : s < 10) (hp : P (b2i (openP (rd mem k) r s)) mem) : RunI g h_St_isOpen [vO 2 k 0, vI (nI r), vI (nI s)] mem P := by
  refine RunI.ofGo rfl rfl (b_St_isOpen_0 (S_St_takenIn hB (S_St_placesIn hB hr hs ⟨fun h1 => ⟨by decide, qi ?_⟩, fun h1 => ⟨by decide, qi ?_⟩⟩)))
  · rwa [b2i_f (fun q => q h1)] at hp
  · rwa [b2i_t h1] at hp
theorem S_St_openOnes {r : Nat} {set : Int32} (hB : Bd (rd mem k)) (hr : r < nR (rd mem k)) (hp : P (openF (rd mem k) r set) mem) : RunI g h_St_openOnes [vO 2 k 0, vI (nI r), vI set] mem P := by
  refine RunI.ofGo rfl rfl (b_St_openOnes_0 ?_)
  unfold openF at hp
  refine loopN (G := fun j => Go g h_St_openOnes (QI P) 5 [(0, vO 2 k 0), (1, vI (nI r)), (2, vI set), (3, vI (setI (fun s => Has set (nI s) ∧ openP (rd mem k) r s) j)), (4, vI (nI j))] [] mem) 10 ?_ ?_ 0 (Nat.zero_le _)
  · exact b_St_openOnes_5 ⟨fun _ => qi hp, fun h => absurd (by decide) h⟩
  · intro j hj ih
    have hT := setI_t (p := fun s => Has set (nI s) ∧ openP (rd mem k) r s) (n := j)
    have hF := setI_f (p := fun s => Has set (nI s) ∧ openP (rd mem k) r s) (n := j)
    refine b_St_openOnes_5 ⟨fun h => absurd h (show ¬ nI 10 ≤ nI j from nI_ge hj (by omega)), fun _ => S_N_holds ?_⟩
    simp only [b2i_eq0, Decidable.not_not]
    refine ⟨fun h1 => ?_, fun h1 => S_St_takenIn hB (S_St_placesIn hB hr hj ⟨fun h2 => ?_, fun h2 => ?_⟩)⟩
    · rw [hF (fun q => h1 q.1), nI_succ] at ih
      exact ih
    · rw [hF (fun q => q.2 h2), nI_succ] at ih
      exact ih
    · rw [hT ⟨h1, h2⟩, nI_succ] at ih
      exact ih
end STATE
