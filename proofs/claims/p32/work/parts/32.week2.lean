/-! A WEEK: what comes behind its sessions -/
def stlN (j : Nat) (N : Nu) : Nu := if N 9 j 3 = 1 ∧ ¬ N 9 j 7 < N 3 0 3 then nset N 9 j 6 1 else N
def wellN (j : Nat) (N : Nu) : Nu := nset N 8 j 4 0
def bgnN (j : Nat) (N : Nu) : Nu := if N 2 0 7 - N 2 0 7 / 4 * 4 = 0 ∧ ¬ N 9 j 3 = 2 then nset (nset N 9 j 8 (-6)) 9 j 0 (N 9 j 0 + 1) else nset N 9 j 8 (-6)
def movN (j : Nat) (N : Nu) : Nu := if roomN N (N 9 j 0) < nR N then (if nI (pcI (openF N (roomN N (N 9 j 0)) (N 9 j 5))) < N 3 0 2 then waitN N j (N 2 0 7) else nset (nset N 9 j 4 (nI (roomN N (N 9 j 0)))) 9 j 5 (openF N (roomN N (N 9 j 0)) (N 9 j 5))) else qitN N j 2
def mvgN (j : Nat) (N : Nu) : Nu := if (¬ N 9 j 4 < 0 ∧ ¬ N 2 0 4 ≤ N 9 j 4) ∧ ¬ forP N (N 9 j 0) (rmN N j) then movN j N else N
def drpN (j : Nat) (N : Nu) : Nu := if N 9 j 3 = 0 ∧ ¬ N 2 0 7 - N 9 j 12 ≤ N 3 0 4 then qitN N j 2 else N
def bgwN (N : Nu) : Nu := runN bgnN (runN wellN (nset N 2 0 7 (N 2 0 7 + 1)) (nC N)) (nK N)
def wekN (N : Nu) : Nu := runN drpN (runN mvgN (bgwN (runN stlN (hlsN N) (nK N))) (nK N)) (nK N)
theorem stlN_ks {j : Nat} {N : Nu} : Ks N (stlN j N) := by
  unfold stlN
  split
  · exact Ks.rfl'.n9 (by decide)
  · exact Ks.rfl'
theorem wellN_ks {j : Nat} {N : Nu} : Ks N (wellN j N) := Ks.rfl'.n8
theorem bgnN_ks {j : Nat} {N : Nu} : Ks N (bgnN j N) := by
  unfold bgnN
  split
  · exact (Ks.rfl'.n9 (by decide)).n9 (by decide)
  · exact Ks.rfl'.n9 (by decide)
theorem qitN_ks {j : Nat} {s : Int32} {N : Nu} : Ks N (qitN N j s) := ((((Ks.rfl'.n9 (by decide)).n9 (by decide)).n9 (by decide)).n9 (by decide)).n9 (by decide)
theorem waitN_ks {j : Nat} {w : Int32} {N : Nu} : Ks N (waitN N j w) := (qitN_ks.n9 (by decide)).n9 (by decide)
theorem movN_ks {j : Nat} {N : Nu} : Ks N (movN j N) := by
  unfold movN
  split
  · split
    · exact waitN_ks
    · exact (Ks.rfl'.n9 (by decide)).n9 (by decide)
  · exact qitN_ks
theorem mvgN_ks {j : Nat} {N : Nu} : Ks N (mvgN j N) := by
  unfold mvgN
  split
  · exact movN_ks
  · exact Ks.rfl'
theorem drpN_ks {j : Nat} {N : Nu} : Ks N (drpN j N) := by
  unfold drpN
  split
  · exact qitN_ks
  · exact Ks.rfl'
theorem hlsN_ks {N : Nu} : Ks N (hlsN N) := runN_ks (fun _ _ => hldN_ks) _
theorem bgwN_ks {N : Nu} : Ks N (bgwN N) := ((Ks.rfl'.n2 (by decide)).trans (runN_ks (fun _ _ => wellN_ks) _)).trans (runN_ks (fun _ _ => bgnN_ks) _)
theorem wekN_ks {N : Nu} : Ks N (wekN N) := (((hlsN_ks.trans (runN_ks (fun _ _ => stlN_ks) _)).trans bgwN_ks).trans (runN_ks (fun _ _ => mvgN_ks) _)).trans (runN_ks (fun _ _ => drpN_ks) _)
section WK
variable {g : Wg} {m : Mm} {P : Int32 → Mm → Prop} {PV : Mm → Prop} {k : Nat} {N : Nu}
theorem T_Wk_settle (hB : Bd N) (hp : PV (wr m k (runN stlN N (nK N)))) : RunV g h_Wk_settle [vO 2 k 0] (wr m k N) PV := by
  have hn := hB.2.2.1
  have h24 := hB.2.2.2
  refine RunV.ofGo rfl rfl (b_Wk_settle_0 ?_)
  refine loopN (G := fun j => Go g h_Wk_settle (QV PV) 2 [(0, vO 2 k 0), (1, vI (nI j))] [] (wr m k (runN stlN N j))) (nK N) ?_ ?_ 0 (Nat.zero_le _)
  · exact b_Wk_settle_2 ⟨fun _ => qv hp, fun h => absurd (by rw [wr_2, (runN_ks (fun _ _ => stlN_ks) (nK N)).1.2.2, hn]; exact le_self _) h⟩
  · intro j hj ih
    have hK : Ks N (runN stlN N j) := runN_ks (fun _ _ => stlN_ks) j
    have hc := nI_clamp (n := j) (by omega)
    have hin := vp_in_nI (n := j) (N := 24) (by omega) (by omega)
    rw [show runN stlN N (j + 1) = stlN j (runN stlN N j) from rfl] at ih
    generalize runN stlN N j = M at ih hK ⊢
    refine b_Wk_settle_2 ⟨fun h => absurd h (by rw [wr_2, hK.1.2.2, hn]; exact nI_ge hj (by omega)), fun _ => ⟨hin, ?_⟩⟩
    simp only [hc, wr_9, wr_3, ms_9]
    unfold stlN at ih
    rw [nI_1]
    refine ⟨fun a => ?_, fun a => ⟨vp_in_nI (n := 3) (N := 5) (by omega) (by omega), fun b => ?_, fun b => ⟨Or.inr trivial, ?_⟩⟩⟩
    · rwa [if_neg (fun q => a q.1)] at ih
    · rwa [if_neg (fun q => q.2 b)] at ih
    · rwa [if_pos ⟨a, b⟩] at ih
theorem T_Wk_beginWeek (hB : Bd N) (hp : PV (wr m k (bgwN N))) : RunV g h_Wk_beginWeek [vO 2 k 0] (wr m k N) PV := by
  have hn := hB.2.2.1
  have h24 := hB.2.2.2
  have hnc := hB.2.1.1
  have h13 := hB.2.1.2
  refine RunV.ofGo rfl rfl (b_Wk_beginWeek_0 ?_)
  rw [ms_2, wr_2]
  unfold bgwN at hp
  have hK0 : Ks N (nset N 2 0 7 (N 2 0 7 + 1)) := Ks.rfl'.n2 (by decide)
  generalize nset N 2 0 7 (N 2 0 7 + 1) = N1 at hp hK0 ⊢
  refine loopN (G := fun j => Go g h_Wk_beginWeek (QV PV) 12 [(0, vO 2 k 0), (1, vI (nI j))] [] (wr m k (runN wellN N1 j))) (nC N) ?_ ?_ 0 (Nat.zero_le _)
  · have hK1 : Ks N (runN wellN N1 (nC N)) := hK0.trans (runN_ks (fun _ _ => wellN_ks) _)
    generalize runN wellN N1 (nC N) = N2 at hp hK1 ⊢
    refine b_Wk_beginWeek_12 ⟨fun _ => ?_, fun h => absurd (by rw [wr_2, hK1.1.2.1, hnc]; exact le_self _) h⟩
    refine loopN (G := fun j => Go g h_Wk_beginWeek (QV PV) 38 [(0, vO 2 k 0), (1, vI (nI j))] [] (wr m k (runN bgnN N2 j))) (nK N) ?_ ?_ 0 (Nat.zero_le _)
    · exact b_Wk_beginWeek_38 ⟨fun _ => qv hp, fun h => absurd (by rw [wr_2, (hK1.trans (runN_ks (fun _ _ => bgnN_ks) (nK N))).1.2.2, hn]; exact le_self _) h⟩
    · intro j hj ih
      have hK : Ks N (runN bgnN N2 j) := hK1.trans (runN_ks (fun _ _ => bgnN_ks) j)
      have hc := nI_clamp (n := j) (by omega)
      have hin := vp_in_nI (n := j) (N := 24) (by omega) (by omega)
      rw [show runN bgnN N2 (j + 1) = bgnN j (runN bgnN N2 j) from rfl] at ih
      generalize runN bgnN N2 j = M at ih hK ⊢
      refine b_Wk_beginWeek_38 ⟨fun h => absurd h (by rw [wr_2, hK.1.2.2, hn]; exact nI_ge hj (by omega)), fun _ => ⟨hin, by decide, ?_⟩⟩
      simp only [hc, wr_9, wr_2, ms_9]
      rw [ns_t (by decide), ns_j (by decide), ns_j (by decide), nI_1]
      unfold bgnN at ih
      refine ⟨fun a => ?_, fun a => ⟨fun b => ?_, fun b => ?_⟩⟩
      · rwa [if_neg (fun q => a q.1)] at ih
      · rwa [if_neg (fun q => q.2 b)] at ih
      · rwa [if_pos ⟨a, b⟩] at ih
  · intro j hj ih
    have hK : Ks N (runN wellN N1 j) := hK0.trans (runN_ks (fun _ _ => wellN_ks) j)
    have hc := nI_clamp (n := j) (by omega)
    have hin := vp_in_nI (n := j) (N := 13) (by omega) (by omega)
    refine b_Wk_beginWeek_12 ⟨fun h => absurd h (by rw [wr_2, hK.1.2.1, hnc]; exact nI_ge hj (by omega)), fun _ => ⟨hin, by decide, ?_⟩⟩
    rw [hc, ms_8, nI_1]
    exact ih
theorem T_Wk_move {j : Nat} (hB : Bd N) (hp : PV (wr m k (movN j N))) : RunV g h_Wk_move [vO 2 k 0, vO 9 k j] (wr m k N) PV := by
  have h5 := hB.1.2
  refine RunV.ofGo rfl rfl (b_Wk_move_0 ?_)
  simp only [wr_9]
  refine T_St_roomOfAge hB ?_
  simp only [wr_9]
  unfold movN at hp
  by_cases hr : roomN N (N 9 j 0) < nR N
  · rw [show roomI N (N 9 j 0) = nI (roomN N (N 9 j 0)) from if_pos hr]
    rw [if_pos hr] at hp
    refine ⟨fun _ => T_St_openOnes hB hr (S_Int_bitCount ⟨vp_in_nI (n := 2) (N := 5) (by omega) (by omega), ?_⟩), fun h => absurd h (nI_n6 (by omega))⟩
    simp only [wr_3, wr_2, ms_9]
    refine ⟨fun h => T_Ch_waitAgain (qv ?_), fun h => qv ?_⟩
    · rwa [if_pos h] at hp
    · rwa [if_neg h] at hp
  · rw [show roomI N (N 9 j 0) = -6 from if_neg hr]
    rw [if_neg hr] at hp
    exact ⟨fun h => absurd rfl h, fun _ => T_Ch_quitRoom (qv hp)⟩
theorem T_Wk_moveGrown (hB : Bd N) (hp : PV (wr m k (runN mvgN N (nK N)))) : RunV g h_Wk_moveGrown [vO 2 k 0] (wr m k N) PV := by
  have hn := hB.2.2.1
  have h24 := hB.2.2.2
  refine RunV.ofGo rfl rfl (b_Wk_moveGrown_0 ?_)
  refine loopN (G := fun j => Go g h_Wk_moveGrown (QV PV) 2 [(0, vO 2 k 0), (1, vI (nI j))] [] (wr m k (runN mvgN N j))) (nK N) ?_ ?_ 0 (Nat.zero_le _)
  · exact b_Wk_moveGrown_2 ⟨fun _ => qv hp, fun h => absurd (by rw [wr_2, (runN_ks (fun _ _ => mvgN_ks) (nK N)).1.2.2, hn]; exact le_self _) h⟩
  · intro j hj ih
    have hK : Ks N (runN mvgN N j) := runN_ks (fun _ _ => mvgN_ks) j
    have hc := nI_clamp (n := j) (by omega)
    have hin := vp_in_nI (n := j) (N := 24) (by omega) (by omega)
    rw [show runN mvgN N (j + 1) = mvgN j (runN mvgN N j) from rfl] at ih
    generalize runN mvgN N j = M at ih hK ⊢
    have hBM := hK.1.bd hB
    refine b_Wk_moveGrown_2 ⟨fun h => absurd h (by rw [wr_2, hK.1.2.2, hn]; exact nI_ge hj (by omega)), fun _ => ⟨hin, ?_⟩⟩
    simp only [hc, wr_9]
    unfold mvgN at ih
    rw [nI_1]
    refine T_St_hasRoom ?_
    simp only [b2i_eq0, Decidable.not_not, wr_9]
    refine ⟨fun a => ?_, fun a => ?_⟩
    · rwa [if_neg (fun q => a q.1)] at ih
    · have a2 := a
      rw [hBM.1.1] at a2
      have h5 := hBM.1.2
      obtain ⟨r, hr, er⟩ := (hasG (by omega)).mp a2
      refine ⟨by rw [er]; exact vp_in_nI (by omega) (by omega), T_Rm_isFor ?_⟩
      simp only [b2i_eq0, Decidable.not_not]
      refine ⟨fun b => ?_, fun b => T_Wk_move hBM ?_⟩
      · rwa [if_neg (fun q => q.2 b)] at ih
      · rwa [if_pos ⟨a, b⟩] at ih
theorem T_Wk_dropImpatient (hB : Bd N) (hp : PV (wr m k (runN drpN N (nK N)))) : RunV g h_Wk_dropImpatient [vO 2 k 0] (wr m k N) PV := by
  have hn := hB.2.2.1
  have h24 := hB.2.2.2
  refine RunV.ofGo rfl rfl (b_Wk_dropImpatient_0 ?_)
  refine loopN (G := fun j => Go g h_Wk_dropImpatient (QV PV) 2 [(0, vO 2 k 0), (1, vI (nI j))] [] (wr m k (runN drpN N j))) (nK N) ?_ ?_ 0 (Nat.zero_le _)
  · exact b_Wk_dropImpatient_2 ⟨fun _ => qv hp, fun h => absurd (by rw [wr_2, (runN_ks (fun _ _ => drpN_ks) (nK N)).1.2.2, hn]; exact le_self _) h⟩
  · intro j hj ih
    have hK : Ks N (runN drpN N j) := runN_ks (fun _ _ => drpN_ks) j
    have hc := nI_clamp (n := j) (by omega)
    have hin := vp_in_nI (n := j) (N := 24) (by omega) (by omega)
    rw [show runN drpN N (j + 1) = drpN j (runN drpN N j) from rfl] at ih
    generalize runN drpN N j = M at ih hK ⊢
    refine b_Wk_dropImpatient_2 ⟨fun h => absurd h (by rw [wr_2, hK.1.2.2, hn]; exact nI_ge hj (by omega)), fun _ => ⟨hin, vp_in_nI (n := 4) (N := 5) (by omega) (by omega), ?_⟩⟩
    simp only [hc, wr_9, wr_2, wr_3]
    unfold drpN at ih
    rw [nI_1]
    refine ⟨fun a => ⟨fun b => ?_, fun b => ⟨fun _ => ?_, fun q => absurd trivial q⟩⟩, fun a => ⟨fun b => ?_, fun b => ⟨fun q => absurd q (by decide), fun _ => T_Ch_quitRoom ?_⟩⟩⟩
    · rwa [if_neg (fun q => b q.1)] at ih
    · rwa [if_neg (fun q => q.2 a)] at ih
    · rwa [if_neg (fun q => b q.1)] at ih
    · rwa [if_pos ⟨b, a⟩] at ih
theorem T_Wk_passWeeks {x : Int32} (hW : Wi N) (h0 : ¬ (¬ x < 1 ∧ ¬ 52 < x) → P (-2) (wr m k N)) (h1 : ∀ w, 1 ≤ w → w ≤ 52 → x = nI w → P (runN (fun _ => wekN) N w 2 0 7) (wr m k (runN (fun _ => wekN) N w))) : RunI g h_Wk_passWeeks [vO 2 k 0, vI x] (wr m k N) P := by
  refine RunI.ofGo rfl rfl (b_Wk_passWeeks_0 (S_N_isWithin ?_))
  simp only [b2i_eq0, Decidable.not_not]
  refine ⟨fun a => ?_, fun a => qi (h0 a)⟩
  have hx : ∃ w, 1 ≤ w ∧ w ≤ 52 ∧ x = nI w := by
    have h0 : ¬ x < 0 := by
      have := a.1
      simp only [Int32.lt_iff_toInt_lt, Int32.reduceToInt, Int32.toInt_zero, Int32.toInt_one] at this ⊢
      omega
    obtain ⟨w, hw, rfl⟩ := nI_of2 (M := 52) (n := 52) (by decide) h0 (Int32.not_lt.mp a.2)
    refine ⟨w, ?_, hw, rfl⟩
    by_cases h : w = 0
    · subst h
      exact absurd (by decide) a.1
    · omega
  obtain ⟨w, w1, w52, rfl⟩ := hx
  refine loopN (G := fun j => Go g h_Wk_passWeeks (QI P) 15 [(0, vO 2 k 0), (1, vI (nI w)), (2, vI (nI j))] [] (wr m k (runN (fun _ => wekN) N j))) w ?_ ?_ 0 (Nat.zero_le _)
  · refine b_Wk_passWeeks_15 ⟨fun _ => qi ?_, fun h => absurd (le_self _) h⟩
    rw [wr_2]
    exact h1 w w1 w52 rfl
  · intro j hj ih
    have hK : Ks N (runN (fun _ => wekN) N j) := runN_ks (fun _ _ => wekN_ks) j
    rw [show runN (fun _ => wekN) N (j + 1) = wekN (runN (fun _ => wekN) N j) from rfl] at ih
    generalize runN (fun _ => wekN) N j = M at ih hK ⊢
    have hWM := hK.wi hW
    refine b_Wk_passWeeks_15 ⟨fun h => absurd h (nI_ge hj (by omega)), fun _ => T_Wk_holdSessions hWM ?_⟩
    have k1 : Ks M (hlsN M) := hlsN_ks
    refine T_Wk_settle (k1.1.bd hWM.1) ?_
    rw [k1.1.nK]
    have k2 : Ks M (runN stlN (hlsN M) (nK M)) := k1.trans (runN_ks (fun _ _ => stlN_ks) _)
    refine T_Wk_beginWeek (k2.1.bd hWM.1) ?_
    have k3 : Ks M (bgwN (runN stlN (hlsN M) (nK M))) := k2.trans bgwN_ks
    refine T_Wk_moveGrown (k3.1.bd hWM.1) ?_
    rw [k3.1.nK]
    have k4 : Ks M (runN mvgN (bgwN (runN stlN (hlsN M) (nK M))) (nK M)) := k3.trans (runN_ks (fun _ _ => mvgN_ks) _)
    refine T_Wk_dropImpatient (k4.1.bd hWM.1) ?_
    rw [k4.1.nK, nI_1]
    exact ih
end WK
