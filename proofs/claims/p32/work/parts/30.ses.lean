/-! VISITS, EXCHANGES, GIVING BACK -/
abbrev gstP (N : Nu) (room s : Int32) (j : Nat) : Prop := N 9 j 4 = room ∧ N 9 j 8 = s ∧ ¬ Has (N 9 j 5) s
abbrev visP (N : Nu) (r s : Nat) : Prop := ¬ placesF N r s 1 ≤ takenF N (nI r) (nI s) + nI (cnt (gstP N (nI r) (nI s)) (nK N))
/-- placed children have rooms; others have no sessions -/
def Rk (N : Nu) : Prop := ∀ i, i < nK N → (N 9 i 3 = 1 → ∃ r, r < nR N ∧ N 9 i 4 = nI r) ∧ (¬ N 9 i 3 = 1 → N 9 i 4 = -6 ∧ N 9 i 5 = 0)
abbrev rmN (N : Nu) (a : Nat) : Nat := (N 9 a 4).toNatClampNeg
abbrev canP (N : Nu) (a s b t : Nat) : Prop := Has (N 9 a 5) (nI s) ∧ ¬ Has (N 9 b 5) (nI s) ∧ Has (N 9 b 5) (nI t) ∧ ¬ Has (N 9 a 5) (nI t) ∧ (N 9 a 4 = N 9 b 4 ∨ (openP N (rmN N a) t ∧ openP N (rmN N b) s))
theorem has_0 {s : Nat} (hs : s < 32) : ¬ Has 0 (nI s) := by
  rw [has_bit hs]
  have := bt_0 hs
  intro q
  rw [this] at q
  exact absurd q (by decide)
theorem Rk.room {N : Nu} (h : Rk N) (h5 : nR N ≤ 5) {a s : Nat} (ha : a < nK N) (hs : s < 32) (hh : Has (N 9 a 5) (nI s)) : N 9 a 3 = 1 ∧ rmN N a < nR N ∧ N 9 a 4 = nI (rmN N a) := by
  by_cases hp : N 9 a 3 = 1
  · obtain ⟨r, hr, e⟩ := (h a ha).1 hp
    have : rmN N a = r := by show (N 9 a 4).toNatClampNeg = r; rw [e, nI_clamp (by omega)]
    rw [this]
    exact ⟨hp, hr, e⟩
  · have := ((h a ha).2 hp).2
    rw [this] at hh
    exact absurd hh (has_0 hs)
section SE
variable {g : Wg} {m : Mm} {P : Int32 → Mm → Prop} {PV : Mm → Prop} {k : Nat} {N : Nu}
theorem T_Se_hasPlaceForVisit {r s : Nat} (hB : Bd N) (hr : r < nR N) (hs : s < 10) (hp : P (b2i (visP N r s)) (wr m k N)) : RunI g h_Se_hasPlaceForVisit [vO 2 k 0, vI (nI r), vI (nI s)] (wr m k N) P := by
  have hn := hB.2.2.1
  have h24 := hB.2.2.2
  refine RunI.ofGo rfl rfl (b_Se_hasPlaceForVisit_0 (T_St_takenIn hB ?_))
  refine loopN (G := fun j => Go g h_Se_hasPlaceForVisit (QI P) 10 [(0, vO 2 k 0), (1, vI (nI r)), (2, vI (nI s)), (3, vI (takenF N (nI r) (nI s) + nI (cnt (gstP N (nI r) (nI s)) j))), (4, vI (nI j))] [] (wr m k N)) (nK N) ?_ ?_ 0 (Nat.zero_le _) |> fun h => ?_
  rotate_left
  · refine b_Se_hasPlaceForVisit_10 ⟨fun _ => T_St_placesIn hB hr hs ⟨fun h1 => ⟨by decide, qi ?_⟩, fun h1 => ⟨by decide, qi ?_⟩⟩, fun h => absurd (by rw [wr_2, hn]; exact le_self _) h⟩
    · rwa [b2i_f (fun q => q h1)] at hp
    · rwa [b2i_t h1] at hp
  · intro j hj ih
    have hc := nI_clamp (n := j) (by omega)
    have hin := vp_in_nI (n := j) (N := 24) (by omega) (by omega)
    have hT := cnt_t (p := gstP N (nI r) (nI s)) (n := j)
    have hF := cnt_f (p := gstP N (nI r) (nI s)) (n := j)
    have nx : ¬ gstP N (nI r) (nI s) j → Go g h_Se_hasPlaceForVisit (QI P) 10 [(0, vO 2 k 0), (1, vI (nI r)), (2, vI (nI s)), (3, vI (takenF N (nI r) (nI s) + nI (cnt (gstP N (nI r) (nI s)) j))), (4, vI (nI j + 1))] [] (wr m k N) := by
      intro h
      rw [hF h, nI_succ] at ih
      exact ih
    refine b_Se_hasPlaceForVisit_10 ⟨fun h => absurd h (by rw [wr_2, hn]; exact nI_ge hj (by omega)), fun _ => ⟨hin, ?_⟩⟩
    simp only [hc, wr_9]
    refine ⟨fun h1 => nx (fun q => h1 q.1), fun h1 => ⟨fun h2 => nx (fun q => h2 q.2.1), fun h2 => T_Ch_has ?_⟩⟩
    simp only [b2i_eq0, Decidable.not_not]
    refine ⟨fun h3 => nx (fun q => q.2.2 h3), fun h3 => ?_⟩
    rw [hT ⟨h1, h2, h3⟩, nI_succ, nI_succ, ← Int32.add_assoc] at ih
    exact ih
  · have h2 := h
    simp only [cnt] at h2
    rw [show takenF N (nI r) (nI s) + nI 0 = takenF N (nI r) (nI s) by rw [nI_0, Int32.add_zero]] at h2
    exact h2
theorem T_Se_planVisit {x y : Int32} (hB : Bd N) (hR : Rk N) (h0 : ¬ ((¬ x < 0 ∧ ¬ N 2 0 6 ≤ x) ∧ (¬ y < 0 ∧ ¬ 9 < y)) → P (-1) (wr m k N)) (h1 : ∀ c s, c < nK N → x = nI c → s < 10 → y = nI s → ¬ (N 9 c 3 = 1 ∧ N 9 c 6 = 0 ∧ N 9 c 8 = -6) → P (-5) (wr m k N)) (h2 : ∀ c s, c < nK N → x = nI c → s < 10 → y = nI s → (N 9 c 3 = 1 ∧ N 9 c 6 = 0 ∧ N 9 c 8 = -6) → ¬ Has (N 9 c 5) (nI s) → ¬ visP N (rmN N c) s → P (-5) (wr m k N)) (h3 : ∀ c s, c < nK N → x = nI c → s < 10 → y = nI s → (N 9 c 3 = 1 ∧ N 9 c 6 = 0 ∧ N 9 c 8 = -6) → (Has (N 9 c 5) (nI s) ∨ visP N (rmN N c) s) → P (nI (cnt (fun j => ¬ nset N 9 c 8 (nI s) 9 j 8 = -6) (nK N))) (wr m k (nset N 9 c 8 (nI s)))) : RunI g h_Se_planVisit [vO 2 k 0, vI x, vI y] (wr m k N) P := by
  have hn := hB.2.2.1
  have h24 := hB.2.2.2
  have h5 := hB.1.2
  refine RunI.ofGo rfl rfl (b_Se_planVisit_0 (T_St_hasChild ?_))
  simp only [b2i_eq0, Decidable.not_not]
  refine ⟨fun a => qi (h0 fun q => a q.1), fun a => S_N_isSession ?_⟩
  simp only [b2i_eq0, Decidable.not_not]
  refine ⟨fun b => ?_, fun b => qi (h0 fun q => b q.2)⟩
  rw [hn] at a
  obtain ⟨c, hc, rfl⟩ := (hasG (by omega)).mp a
  obtain ⟨s, hs', rfl⟩ := nI_of2 (M := 9) (n := 9) (by decide) b.1 (Int32.not_lt.mp b.2)
  have hs : s < 10 := by omega
  have e := nI_clamp (n := c) (by omega)
  have hin := vp_in_nI (n := c) (N := 24) (by omega) (by omega)
  simp only [e, wr_9]
  refine ⟨hin, fun d1 => qi (h1 c s hc rfl hs rfl fun q => d1 q.1), fun d1 => ⟨fun d2 => qi (h1 c s hc rfl hs rfl fun q => d2 q.2.1), fun d2 => ⟨fun d3 => T_Ch_has ?_, fun d3 => qi (h1 c s hc rfl hs rfl fun q => d3 q.2.2)⟩⟩⟩
  obtain ⟨r, hr, er⟩ := (hR c hc).1 d1
  have erm : rmN N c = r := by show (N 9 c 4).toNatClampNeg = r; rw [er, nI_clamp (by omega)]
  have hsm : Sm N (nset N 9 c 8 (nI s)) := Sm.rfl'.nt (by decide)
  have fin : (Has (N 9 c 5) (nI s) ∨ visP N (rmN N c) s) → RunI g h_St_plannedVisits [vO 2 k 0] (mset (wr m k N) 9 k c 8 (nI s)) (fun r4 m4 => QI P (some (vI r4)) m4) := by
    intro q
    rw [ms_9]
    refine T_St_plannedVisits (hsm.bd hB) (qi ?_)
    rw [hsm.nK]
    exact h3 c s hc rfl hs rfl ⟨d1, d2, d3⟩ q
  simp only [b2i_eq0, Decidable.not_not]
  refine ⟨fun d4 => fin (Or.inl d4), fun d4 => ?_⟩
  rw [wr_9, er]
  refine T_Se_hasPlaceForVisit hB hr hs ?_
  simp only [b2i_eq0, Decidable.not_not]
  rw [← erm]
  exact ⟨fun d5 => fin (Or.inr d5), fun d5 => qi (h2 c s hc rfl hs rfl ⟨d1, d2, d3⟩ d4 (fun q => q d5))⟩
theorem T_Se_canExchange {a s b t : Nat} (hB : Bd N) (hR : Rk N) (ha : a < nK N) (hs : s < 10) (hb : b < nK N) (ht : t < 10) (hp : P (b2i (canP N a s b t)) (wr m k N)) : RunI g h_Se_canExchange [vO 2 k 0, vI (nI a), vI (nI s), vI (nI b), vI (nI t)] (wr m k N) P := by
  have h24 := hB.2.2.2
  have ea := nI_clamp (n := a) (by omega)
  have eb := nI_clamp (n := b) (by omega)
  refine RunI.ofGo rfl rfl (b_Se_canExchange_0 ⟨vp_in_nI (by omega) (by omega), vp_in_nI (by omega) (by omega), ?_⟩)
  simp only [ea, eb]
  refine T_Ch_has ?_
  simp only [b2i_eq0, Decidable.not_not]
  refine ⟨fun h => ⟨by decide, qi ?_⟩, fun h1 => T_Ch_has ?_⟩
  · rwa [b2i_f (fun q => h q.1)] at hp
  simp only [b2i_eq0, Decidable.not_not]
  refine ⟨fun h2 => T_Ch_has ?_, fun h => ⟨by decide, qi ?_⟩⟩
  rotate_left
  · rwa [b2i_f (fun q => q.2.1 h)] at hp
  simp only [b2i_eq0, Decidable.not_not]
  refine ⟨fun h => ⟨by decide, qi ?_⟩, fun h3 => T_Ch_has ?_⟩
  · rwa [b2i_f (fun q => h q.2.2.1)] at hp
  simp only [b2i_eq0, Decidable.not_not, wr_9]
  refine ⟨fun h4 => ⟨fun h5 => ?_, fun h5 => ⟨by decide, qi ?_⟩⟩, fun h => ⟨by decide, qi ?_⟩⟩
  rotate_left
  · rwa [b2i_t ⟨h1, h2, h3, h4, Or.inl h5⟩] at hp
  · rwa [b2i_f (fun q => q.2.2.2.1 h)] at hp
  obtain ⟨-, ra, qa⟩ := hR.room hB.1.2 ha (by omega) h1
  obtain ⟨-, rb, qb⟩ := hR.room hB.1.2 hb (by omega) h3
  rw [qa]
  refine T_St_isOpen hB ra ht ?_
  simp only [b2i_eq0, Decidable.not_not]
  refine ⟨fun h => ⟨by decide, qi ?_⟩, fun h6 => ?_⟩
  · rwa [b2i_f (fun q => q.2.2.2.2.elim h5 (fun z => z.1 h))] at hp
  simp only [wr_9]
  rw [qb]
  refine T_St_isOpen hB rb hs ?_
  simp only [b2i_eq0, Decidable.not_not]
  refine ⟨fun h => ⟨by decide, qi ?_⟩, fun h7 => ⟨by decide, qi ?_⟩⟩
  · rwa [b2i_f (fun q => q.2.2.2.2.elim h5 (fun z => z.2 h))] at hp
  · rwa [b2i_t ⟨h1, h2, h3, h4, Or.inr ⟨h6, h7⟩⟩] at hp
abbrev bothI (s t : Nat) : Int32 := (1 <<< (nI s &&& 31)) ||| (1 <<< (nI t &&& 31))
def excN (N : Nu) (a s b t : Nat) : Nu := nset (nset N 9 a 5 (N 9 a 5 ^^^ bothI s t)) 9 b 5 (N 9 b 5 ^^^ bothI s t)
theorem T_Se_exchange {x y z w : Int32} (hB : Bd N) (hR : Rk N) (h0 : ¬ ((¬ x < 0 ∧ ¬ N 2 0 6 ≤ x) ∧ (¬ z < 0 ∧ ¬ N 2 0 6 ≤ z) ∧ ¬ x = z ∧ (¬ y < 0 ∧ ¬ 9 < y) ∧ (¬ w < 0 ∧ ¬ 9 < w)) → P (-1) (wr m k N)) (h1 : ∀ a s b t, a < nK N → x = nI a → s < 10 → y = nI s → b < nK N → z = nI b → t < 10 → w = nI t → ¬ a = b → ¬ canP N a s b t → P (-5) (wr m k N)) (h2 : ∀ a s b t, a < nK N → x = nI a → s < 10 → y = nI s → b < nK N → z = nI b → t < 10 → w = nI t → ¬ a = b → canP N a s b t → P 1 (wr m k (excN N a s b t))) : RunI g h_Se_exchange [vO 2 k 0, vI x, vI y, vI z, vI w] (wr m k N) P := by
  have hn := hB.2.2.1
  have h24 := hB.2.2.2
  refine RunI.ofGo rfl rfl (b_Se_exchange_0 (T_St_hasChild ?_))
  simp only [b2i_eq0, Decidable.not_not]
  refine ⟨fun q => qi (h0 fun v => q v.1), fun g1 => T_St_hasChild ?_⟩
  simp only [b2i_eq0, Decidable.not_not]
  refine ⟨fun q => qi (h0 fun v => q v.2.1), fun g2 => ⟨fun g3 => S_N_isSession ?_, fun q => qi (h0 fun v => v.2.2.1 q)⟩⟩
  simp only [b2i_eq0, Decidable.not_not]
  refine ⟨fun q => qi (h0 fun v => q v.2.2.2.1), fun g4 => S_N_isSession ?_⟩
  simp only [b2i_eq0, Decidable.not_not]
  refine ⟨fun g5 => ?_, fun q => qi (h0 fun v => q v.2.2.2.2)⟩
  rw [hn] at g1 g2
  obtain ⟨a, ha, rfl⟩ := (hasG (by omega)).mp g1
  obtain ⟨b, hb, rfl⟩ := (hasG (by omega)).mp g2
  obtain ⟨s, hs, rfl⟩ := nI_of2 (M := 9) (n := 9) (by decide) g4.1 (Int32.not_lt.mp g4.2)
  obtain ⟨t, ht, rfl⟩ := nI_of2 (M := 9) (n := 9) (by decide) g5.1 (Int32.not_lt.mp g5.2)
  have ne : ¬ a = b := fun q => g3 (by rw [q])
  refine T_Se_canExchange hB hR ha (by omega) hb (by omega) ?_
  simp only [b2i_eq0, Decidable.not_not]
  refine ⟨fun q => ?_, fun q => qi (h1 a s b t ha rfl (by omega) rfl hb rfl (by omega) rfl ne q)⟩
  have ea := nI_clamp (n := a) (by omega)
  have eb := nI_clamp (n := b) (by omega)
  simp only [ea, eb, ms_9, wr_9]
  refine ⟨vp_in_nI (by omega) (by omega), vp_in_nI (by omega) (by omega), qi ?_⟩
  rw [ns_i (fun q => ne q.symm)]
  exact h2 a s b t ha rfl (by omega) rfl hb rfl (by omega) rfl ne q
theorem T_Se_handBack {x y : Int32} (hB : Bd N) (h0 : ¬ ((¬ x < 0 ∧ ¬ N 2 0 6 ≤ x) ∧ (¬ y < 0 ∧ ¬ 9 < y)) → P (-1) (wr m k N)) (h1 : ∀ c s, c < nK N → x = nI c → s < 10 → y = nI s → ¬ (Has (N 9 c 5) (nI s) ∧ N 3 0 2 ≤ nI (pcI (N 9 c 5)) - 1) → P (-5) (wr m k N)) (h2 : ∀ c s, c < nK N → x = nI c → s < 10 → y = nI s → Has (N 9 c 5) (nI s) → N 3 0 2 ≤ nI (pcI (N 9 c 5)) - 1 → P (nI (pcI (N 9 c 5)) - 1) (wr m k (nset N 9 c 5 (N 9 c 5 &&& ((1 <<< (nI s &&& 31)) ^^^ (-1)))))) : RunI g h_Se_handBack [vO 2 k 0, vI x, vI y] (wr m k N) P := by
  have hn := hB.2.2.1
  have h24 := hB.2.2.2
  refine RunI.ofGo rfl rfl (b_Se_handBack_0 (T_St_hasChild ?_))
  simp only [b2i_eq0, Decidable.not_not]
  refine ⟨fun a => qi (h0 fun q => a q.1), fun a => S_N_isSession ?_⟩
  simp only [b2i_eq0, Decidable.not_not]
  refine ⟨fun b => ?_, fun b => qi (h0 fun q => b q.2)⟩
  rw [hn] at a
  obtain ⟨c, hc, rfl⟩ := (hasG (by omega)).mp a
  obtain ⟨s, hs', rfl⟩ := nI_of2 (M := 9) (n := 9) (by decide) b.1 (Int32.not_lt.mp b.2)
  have e := nI_clamp (n := c) (by omega)
  have hin := vp_in_nI (n := c) (N := 24) (by omega) (by omega)
  simp only [e]
  refine ⟨hin, T_Ch_has ?_⟩
  simp only [b2i_eq0, Decidable.not_not, wr_9]
  refine ⟨fun d => S_Int_bitCount ⟨vp_in_nI (n := 2) (N := 5) (by omega) (by omega), ?_⟩, fun d => qi (h1 c s hc rfl (by omega) rfl fun q => d q.1)⟩
  simp only [wr_3, wr_9, ms_9]
  exact ⟨fun f => qi (h2 c s hc rfl (by omega) rfl d f), fun f => qi (h1 c s hc rfl (by omega) rfl fun q => f q.2)⟩
end SE
