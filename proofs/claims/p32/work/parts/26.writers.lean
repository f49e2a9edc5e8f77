/-! THE CLASS OVER A STATE WRITTEN IN: readers again, writers of a row -/
section TW
variable {g : Wg} {m : Mm} {P : Int32 → Mm → Prop} {PV : Mm → Prop} {k : Nat} {N : Nu}
theorem T_St_hasRoom {x : Int32} (hp : P (b2i (¬ x < 0 ∧ ¬ N 2 0 4 ≤ x)) (wr m k N)) : RunI g h_St_hasRoom [vO 2 k 0, vI x] (wr m k N) P := S_St_hasRoom (by simp only [wr_2]; exact hp)
theorem T_St_hasCarer {x : Int32} (hp : P (b2i (¬ x < 0 ∧ ¬ N 2 0 5 ≤ x)) (wr m k N)) : RunI g h_St_hasCarer [vO 2 k 0, vI x] (wr m k N) P := S_St_hasCarer (by simp only [wr_2]; exact hp)
theorem T_St_hasChild {x : Int32} (hp : P (b2i (¬ x < 0 ∧ ¬ N 2 0 6 ≤ x)) (wr m k N)) : RunI g h_St_hasChild [vO 2 k 0, vI x] (wr m k N) P := S_St_hasChild (by simp only [wr_2]; exact hp)
theorem T_Rm_isFor {i : Nat} {a : Int32} (hp : P (b2i (forP N a i)) (wr m k N)) : RunI g h_Rm_isFor [vO 7 k i, vI a] (wr m k N) P := S_Rm_isFor (by simp only [wr_7]; exact hp)
theorem T_Ch_has {i : Nat} {s : Int32} (hp : P (b2i (Has (N 9 i 5) s)) (wr m k N)) : RunI g h_Ch_has [vO 9 k i, vI s] (wr m k N) P := S_Ch_has (by simp only [wr_9]; exact hp)
abbrev comP (N : Nu) (i : Nat) (s : Int32) : Prop := if N 9 i 6 = 0 then N 9 i 8 = s else Has (N 9 i 5) s
theorem T_Ch_comesTo {i : Nat} {s : Int32} (hp : P (b2i (comP N i s)) (wr m k N)) : RunI g h_Ch_comesTo [vO 9 k i, vI s] (wr m k N) P := S_Ch_comesTo (by simp only [ComesB, wr_9]; exact hp)
def qitN (N : Nu) (i : Nat) (s : Int32) : Nu := nset (nset (nset (nset (nset N 9 i 3 s) 9 i 4 (-6)) 9 i 5 0) 9 i 6 0) 9 i 8 (-6)
theorem T_Ch_quitRoom {i : Nat} {s : Int32} (hp : PV (wr m k (qitN N i s))) : RunV g h_Ch_quitRoom [vO 9 k i, vI s] (wr m k N) PV := S_Ch_quitRoom (by simp only [qitR, ms_9]; exact hp)
def waitN (N : Nu) (i : Nat) (w : Int32) : Nu := nset (nset (qitN N i 0) 9 i 7 0) 9 i 12 w
theorem T_Ch_waitAgain {i : Nat} {w : Int32} (hp : PV (wr m k (waitN N i w))) : RunV g h_Ch_waitAgain [vO 9 k i, vI w] (wr m k N) PV := S_Ch_waitAgain (by simp only [waitR, qitR, ms_9]; exact hp)
def comeN (N : Nu) (i : Nat) (a f w t : Int32) : Nu := waitN (nset (nset (nset (nset (nset (nset (nset N 9 i 0 a) 9 i 1 f) 9 i 2 w) 9 i 9 0) 9 i 10 0) 9 i 11 0) 9 i 13 0) i t
theorem T_Ch_come {i : Nat} {a f w t : Int32} (hp : PV (wr m k (comeN N i a f w t))) : RunV g h_Ch_come [vO 9 k i, vI a, vI f, vI w, vI t] (wr m k N) PV := S_Ch_come (by simp only [comeR, waitR, qitR, ms_9]; exact hp)
theorem T_St_takenIn {room s : Int32} (hB : Bd N) (hp : P (takenF N room s) (wr m k N)) : RunI g h_St_takenIn [vO 2 k 0, vI room, vI s] (wr m k N) P := S_St_takenIn (by rw [rd_wr]; exact hB) (by rw [rd_wr]; exact hp)
theorem T_St_carersOf {room : Int32} (hB : Bd N) (hp : P (setI (fun j => N 8 j 0 = room) (nC N)) (wr m k N)) : RunI g h_St_carersOf [vO 2 k 0, vI room] (wr m k N) P := S_St_carersOf (by rw [rd_wr]; exact hB) (by rw [rd_wr]; exact hp)
theorem T_St_childrenOf {room : Int32} (hB : Bd N) (hp : P (setI (fun j => N 9 j 4 = room) (nK N)) (wr m k N)) : RunI g h_St_childrenOf [vO 2 k 0, vI room] (wr m k N) P := S_St_childrenOf (by rw [rd_wr]; exact hB) (by rw [rd_wr]; exact hp)
theorem T_St_childrenInState {st : Int32} (hB : Bd N) (hp : P (setI (fun j => N 9 j 3 = st) (nK N)) (wr m k N)) : RunI g h_St_childrenInState [vO 2 k 0, vI st] (wr m k N) P := S_St_childrenInState (by rw [rd_wr]; exact hB) (by rw [rd_wr]; exact hp)
theorem T_St_settledChildren (hB : Bd N) (hp : P (setI (fun j => ¬ N 9 j 6 = 0) (nK N)) (wr m k N)) : RunI g h_St_settledChildren [vO 2 k 0] (wr m k N) P := S_St_settledChildren (by rw [rd_wr]; exact hB) (by rw [rd_wr]; exact hp)
theorem T_St_plannedVisits (hB : Bd N) (hp : P (nI (cnt (fun j => ¬ N 9 j 8 = -6) (nK N))) (wr m k N)) : RunI g h_St_plannedVisits [vO 2 k 0] (wr m k N) P := S_St_plannedVisits (by rw [rd_wr]; exact hB) (by rw [rd_wr]; exact hp)
theorem T_St_roomOfAge {age : Int32} (hB : Bd N) (hp : P (roomI N age) (wr m k N)) : RunI g h_St_roomOfAge [vO 2 k 0, vI age] (wr m k N) P := S_St_roomOfAge (by rw [rd_wr]; exact hB) (by rw [rd_wr]; exact hp)
theorem T_St_placesIn {r s : Nat} {sick : Int32} (hB : Bd N) (hr : r < nR N) (hs : s < 10) (hp : P (placesF N r s sick) (wr m k N)) : RunI g h_St_placesIn [vO 2 k 0, vI (nI r), vI (nI s), vI sick] (wr m k N) P := S_St_placesIn (by rw [rd_wr]; exact hB) (by rw [rd_wr]; exact hr) hs (by rw [rd_wr]; exact hp)
theorem T_St_placesInAll {r : Nat} (hB : Bd N) (hr : r < nR N) (hp : P (allF N r) (wr m k N)) : RunI g h_St_placesInAll [vO 2 k 0, vI (nI r)] (wr m k N) P := S_St_placesInAll (by rw [rd_wr]; exact hB) (by rw [rd_wr]; exact hr) (by rw [rd_wr]; exact hp)
theorem T_St_isOpen {r s : Nat} (hB : Bd N) (hr : r < nR N) (hs : s < 10) (hp : P (b2i (openP N r s)) (wr m k N)) : RunI g h_St_isOpen [vO 2 k 0, vI (nI r), vI (nI s)] (wr m k N) P := S_St_isOpen (by rw [rd_wr]; exact hB) (by rw [rd_wr]; exact hr) hs (by rw [rd_wr]; exact hp)
theorem T_St_openOnes {r : Nat} {set : Int32} (hB : Bd N) (hr : r < nR N) (hp : P (openF N r set) (wr m k N)) : RunI g h_St_openOnes [vO 2 k 0, vI (nI r), vI set] (wr m k N) P := S_St_openOnes (by rw [rd_wr]; exact hB) (by rw [rd_wr]; exact hr) (by rw [rd_wr]; exact hp)
def hirN (N : Nu) (r d f t : Int32) : Nu := nset (nset (nset (nset (nset (nset N 8 (nC N) 0 r) 8 (nC N) 1 d) 8 (nC N) 2 f) 8 (nC N) 3 t) 8 (nC N) 4 0) 2 0 5 (nI (nC N + 1))
theorem T_St_hire {r d f t : Int32} (hB : Bd N) (h12 : nC N ≤ 12) (hp : P (nI (nC N)) (wr m k (hirN N r d f t))) : RunI g h_St_hire [vO 2 k 0, vI r, vI d, vI f, vI t] (wr m k N) P := by
  obtain ⟨-, ⟨hn, -⟩, -⟩ := hB
  refine RunI.ofGo rfl rfl (b_St_hire_0 ?_)
  have hc := nI_clamp (n := nC N) (by omega)
  simp only [wr_2, ms_8, ms_2, nset_ap]
  simp only [hn, hc]
  refine ⟨fun _ => ⟨vp_in_nI (by omega) (by omega), Or.inl trivial, qi ?_⟩, fun h => absurd (nI_le (b := 12) h12 (by omega)) h⟩
  simpa only [hirN, nI_succ, Fin.reduceEq, false_and, if_false] using hp
abbrev RoomB (f t c r : Int32) : Prop := (¬ f < 0 ∧ ¬ 71 < f) ∧ ¬ t ≤ f ∧ t ≤ 72 ∧ (¬ c < 1 ∧ ¬ 40 < c) ∧ (¬ r < 1 ∧ ¬ 12 < r)
def addRN (N : Nu) (f t c r : Int32) : Nu := nset (nset (nset (nset (nset N 7 (nR N) 0 f) 7 (nR N) 1 t) 7 (nR N) 2 c) 7 (nR N) 3 r) 2 0 4 (nI (nR N + 1))
theorem T_St_addRoom {f t c r : Int32} (hB : Bd N) (h1 : ¬ RoomB f t c r → P (-2) (wr m k N)) (h2 : RoomB f t c r → nR N = 5 → P (-4) (wr m k N)) (h3 : RoomB f t c r → nR N < 5 → P (nI (nR N)) (wr m k (addRN N f t c r))) : RunI g h_St_addRoom [vO 2 k 0, vI f, vI t, vI c, vI r] (wr m k N) P := by
  obtain ⟨⟨hn, h5⟩, -⟩ := hB
  have hc := nI_clamp (n := nR N) (by omega)
  refine RunI.ofGo rfl rfl (b_St_addRoom_0 (S_N_isWithin ?_))
  simp only [b2i_eq0, Decidable.not_not]
  refine ⟨fun a => qi (h1 fun q => a q.1), fun a1 => ⟨fun a => qi (h1 fun q => q.2.1 a), fun a2 => ⟨fun a3 => S_N_isWithin ?_, fun a => qi (h1 fun q => a q.2.2.1)⟩⟩⟩
  simp only [b2i_eq0, Decidable.not_not]
  refine ⟨fun a => qi (h1 fun q => a q.2.2.2.1), fun a4 => S_N_isWithin ?_⟩
  simp only [b2i_eq0, Decidable.not_not]
  refine ⟨fun a5 => ?_, fun a => qi (h1 fun q => a q.2.2.2.2)⟩
  have hb : RoomB f t c r := ⟨a1, a2, a3, a4, a5⟩
  simp only [wr_2, ms_7, ms_2, nset_ap]
  simp only [hn, hc]
  refine ⟨fun a => ?_, fun a => qi (h2 hb ?_)⟩
  · have h6 : nR N < 5 := (nI_ltI (a := nR N) (b := 5) (by omega) (by omega)).mp a
    refine ⟨vp_in_nI h6 (by omega), qi ?_⟩
    simpa only [addRN, nI_succ, Fin.reduceEq, false_and, if_false, hn] using h3 hb h6
  · have h6 : ¬ nR N < 5 := fun q => a (nI_lt (b := 5) q (by omega))
    omega
theorem T_St_changeSetting {x y : Int32} {PA : Prop} (h0 : ¬ (¬ x < 0 ∧ ¬ 4 < x) → P (-2) (wr m k N)) (h1 : ∀ j, j < 5 → x = nI j → ¬ (¬ y < staV 0 j ∧ ¬ staV 1 j < y) → P (-2) (wr m k N)) (h2 : ∀ j, j < 5 → x = nI j → (¬ y < staV 0 j ∧ ¬ staV 1 j < y) → P (N 3 0 j) (wr m k (nset N 3 0 j y))) : RunI g h_St_changeSetting [vO 2 k 0, vI x, vI y] (wr m k N) P := by
  refine RunI.ofGo rfl rfl (b_St_changeSetting_0 (S_N_isWithin ?_))
  simp only [b2i_eq0, Decidable.not_not]
  refine ⟨fun a => ?_, fun a => qi (h0 a)⟩
  obtain ⟨j, hj, rfl⟩ := nI_of2 (M := 4) (n := 4) (by decide) a.1 (Int32.not_lt.mp a.2)
  have hc := nI_clamp (n := j) (by omega)
  have hin := vp_in_nI (n := j) (N := 5) (by omega) (by omega)
  simp only [hc]
  refine ⟨hin, hin, S_N_isWithin ?_⟩
  simp only [b2i_eq0, Decidable.not_not]
  refine ⟨fun b => ⟨hin, hin, qi ?_⟩, fun b => qi (h1 j (by omega) rfl b)⟩
  simp only [wr_3, ms_3]
  exact h2 j (by omega) rfl b
theorem T_St_addCarer {r d f t : Int32} (hB : Bd N) (h0 : ¬ (¬ r < 0 ∧ ¬ N 2 0 4 ≤ r) → P (-1) (wr m k N)) (h1 : ¬ ShiftB d f t → (¬ r < 0 ∧ ¬ N 2 0 4 ≤ r) → P (-2) (wr m k N)) (h2 : (¬ r < 0 ∧ ¬ N 2 0 4 ≤ r) → ShiftB d f t → 12 ≤ nC N → P (-4) (wr m k N)) (h3 : (¬ r < 0 ∧ ¬ N 2 0 4 ≤ r) → ShiftB d f t → nC N < 12 → P (nI (nC N)) (wr m k (hirN N r d f t))) : RunI g h_St_addCarer [vO 2 k 0, vI r, vI d, vI f, vI t] (wr m k N) P := by
  refine RunI.ofGo rfl rfl (b_St_addCarer_0 (T_St_hasRoom ?_))
  simp only [b2i_eq0, Decidable.not_not]
  refine ⟨fun a => S_N_isShift ?_, fun a => qi (h0 a)⟩
  simp only [b2i_eq0, Decidable.not_not]
  refine ⟨fun b => ?_, fun b => qi (h1 b a)⟩
  simp only [wr_2, hB.2.1.1]
  have h13 := hB.2.1.2
  refine ⟨fun c => ?_, fun c => qi (h2 a b ?_)⟩
  · have h6 : nC N < 12 := (nI_ltI (a := nC N) (b := 12) (by omega) (by omega)).mp c
    exact T_St_hire hB (by omega) (qi (h3 a b h6))
  · have h6 : ¬ nC N < 12 := fun q => c (nI_lt (b := 12) q (by omega))
    omega
abbrev ChildB (a f w : Int32) : Prop := (¬ a < 0 ∧ ¬ 72 < a) ∧ (¬ f < 0 ∧ ¬ 15 < f) ∧ (¬ w < 1 ∧ ¬ 1023 < w)
def addKN (N : Nu) (a f w : Int32) : Nu := nset (comeN N (nK N) a f w (N 2 0 7)) 2 0 6 (nI (nK N + 1))
theorem T_St_addChild {a f w : Int32} (hB : Bd N) (h1 : ¬ ChildB a f w → P (-2) (wr m k N)) (h2 : ChildB a f w → nK N = 24 → P (-4) (wr m k N)) (h3 : ChildB a f w → nK N < 24 → P (nI (nK N)) (wr m k (addKN N a f w))) : RunI g h_St_addChild [vO 2 k 0, vI a, vI f, vI w] (wr m k N) P := by
  obtain ⟨-, -, ⟨hn, h24⟩⟩ := hB
  have hc := nI_clamp (n := nK N) (by omega)
  refine RunI.ofGo rfl rfl (b_St_addChild_0 (S_N_isWithin ?_))
  simp only [b2i_eq0, Decidable.not_not]
  refine ⟨fun q => qi (h1 fun z => q z.1), fun a1 => S_N_isWithin ?_⟩
  simp only [b2i_eq0, Decidable.not_not]
  refine ⟨fun a2 => S_N_isWithin ?_, fun q => qi (h1 fun z => q z.2.1)⟩
  simp only [b2i_eq0, Decidable.not_not]
  refine ⟨fun a3 => ?_, fun q => qi (h1 fun z => q z.2.2)⟩
  simp only [wr_2, hn, hc]
  refine ⟨fun c => ?_, fun c => qi (h2 ⟨a1, a2, a3⟩ ?_)⟩
  · have h6 : nK N < 24 := (nI_ltI (a := nK N) (b := 24) (by omega) (by omega)).mp c
    refine ⟨vp_in_nI h6 (by omega), T_Ch_come (qi ?_)⟩
    have e : comeN N (nK N) a f w (N 2 0 7) 2 0 6 = nI (nK N) := by
      simp only [comeN, waitN, qitN, nset_ap, Fin.reduceEq, false_and, if_false]
      exact hn
    simp only [wr_2, ms_2, e, nI_1]
    exact h3 ⟨a1, a2, a3⟩ h6
  · have h6 : ¬ nK N < 24 := fun q => c (nI_lt (b := 24) q (by omega))
    omega
end TW
