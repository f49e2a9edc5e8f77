/-! ADMISSION -/
theorem roomI_congr {A B : Nu} (h7 : A 7 = B 7) (h2 : A 2 0 4 = B 2 0 4) (a : Int32) : roomI A a = roomI B a := by
  unfold roomI roomN forP nR
  rw [h7, h2]
theorem roomN_congr {A B : Nu} (h7 : A 7 = B 7) (h2 : A 2 0 4 = B 2 0 4) (a : Int32) : roomN A a = roomN B a := by
  unfold roomN forP nR
  rw [h7, h2]
def anyP (p : Nat → Prop) [DecidablePred p] (n : Nat) : Prop := low p 0 n < n
theorem any_iff {p : Nat → Prop} [DecidablePred p] {n : Nat} : anyP p n ↔ ∃ j, j < n ∧ p j := by
  constructor
  · intro h
    exact ⟨_, h, low_p p n 0 (by rw [Nat.zero_add]; exact h)⟩
  · rintro ⟨j, hj, hp⟩
    unfold anyP
    have := low_not p n 0 j (Nat.zero_le _)
    have h2 := low_le p n 0
    by_cases hl : low p 0 n ≤ j
    · omega
    · exact absurd hp (this (by omega))
theorem low_eq {p : Nat → Prop} [DecidablePred p] {n f : Nat} (hf : f < n) (hp : p f) (h : ∀ i, i < f → ¬ p i) : low p 0 n = f := by
  have h1 := low_not p n 0 f (Nat.zero_le _)
  have h2 := low_le p n 0
  by_cases h3 : low p 0 n < f
  · exact absurd (low_p p n 0 (by omega)) (h _ h3)
  · by_cases h4 : f < low p 0 n
    · exact absurd hp (h1 h4)
    · omega
theorem low_n {p : Nat → Prop} [DecidablePred p] {n : Nat} (h : ∀ i, i < n → ¬ p i) : low p 0 n = n := by
  have h2 := low_le p n 0
  by_cases h3 : low p 0 n < n
  · exact absurd (low_p p n 0 (by omega)) (h _ h3)
  · omega
theorem nI_n6 {f : Nat} (h : f < 2 ^ 31) : ¬ nI f = -6 := by
  intro q
  have h2 := nI_pos h
  rw [q] at h2
  exact h2 (by decide)
def getsF (N : Nu) (c : Nat) : Int32 := if roomN N (N 9 c 0) < nR N then (if nI (pcI (openF N (roomN N (N 9 c 0)) (N 9 c 2))) < N 3 0 2 then 0 else openF N (roomN N (N 9 c 0)) (N 9 c 2)) else 0
def sibD (N : Nu) (c : Nat) : Bool := Nat.blt (low (fun i => N 9 i 3 = 1 ∧ N 9 i 1 = N 9 c 1) 0 (nK N)) (nK N)
theorem sibD_iff {N : Nu} {c : Nat} : sibD N c = true ↔ ∃ j, j < nK N ∧ N 9 j 3 = 1 ∧ N 9 j 1 = N 9 c 1 := by
  unfold sibD
  rw [Nat.blt_eq]
  exact any_iff
abbrev canD (N : Nu) (c : Nat) : Prop := N 9 c 3 = 0 ∧ ¬ getsF N c = 0
def nxtN (N : Nu) : Nat := if low (fun c => canD N c ∧ sibD N c = true) 0 (nK N) < nK N then low (fun c => canD N c ∧ sibD N c = true) 0 (nK N) else low (canD N) 0 (nK N)
def plcN (N : Nu) (c : Nat) : Nu := nset (nset (nset (nset (nset (nset N 9 c 5 (getsF N c)) 9 c 4 (roomI N (N 9 c 0))) 9 c 3 1) 9 c 6 (if N 3 0 3 = 0 then 1 else 0)) 2 0 8 (N 2 0 8 + 1)) 9 c 13 (N 2 0 8)
theorem plcN_sm {N : Nu} {c : Nat} : Sm N (plcN N c) := by
  unfold plcN
  exact (((((Sm.rfl'.nt (by decide)).nt (by decide)).nt (by decide)).nt (by decide)).n2 (by decide)).nt (by decide)
def admN : Nat → Nu → Nu
  | 0, N => N
  | f + 1, N => if nxtN N < nK N then admN f (plcN N (nxtN N)) else N
def admC : Nat → Nu → Nat
  | 0, _ => 0
  | f + 1, N => if nxtN N < nK N then admC f (plcN N (nxtN N)) + 1 else 0
section AD
variable {g : Wg} {m : Mm} {P : Int32 → Mm → Prop} {PV : Mm → Prop} {k : Nat} {N : Nu}
theorem T_Ad_sessionsFor {c : Nat} (hB : Bd N) (hc : c < nK N) (hp : P (getsF N c) (wr m k N)) : RunI g h_Ad_sessionsFor [vO 2 k 0, vI (nI c)] (wr m k N) P := by
  have h24 := hB.2.2.2
  have h5 := hB.1.2
  have e := nI_clamp (n := c) (by omega)
  have hin := vp_in_nI (n := c) (N := 24) (by omega) (by omega)
  refine RunI.ofGo rfl rfl (b_Ad_sessionsFor_0 ?_)
  simp only [e, wr_9]
  refine ⟨hin, T_St_roomOfAge hB ⟨fun h1 => ⟨hin, ?_⟩, fun h1 => qi ?_⟩⟩
  · by_cases hr : roomN N (N 9 c 0) < nR N
    · rw [show roomI N (N 9 c 0) = nI (roomN N (N 9 c 0)) from if_pos hr]
      refine T_St_openOnes hB hr (S_Int_bitCount ⟨vp_in_nI (n := 2) (N := 5) (by omega) (by omega), ?_⟩)
      simp only [wr_3, wr_9]
      unfold getsF at hp
      rw [if_pos hr] at hp
      refine ⟨fun h2 => qi ?_, fun h2 => qi ?_⟩
      · rwa [if_pos h2] at hp
      · rwa [if_neg h2] at hp
    · exact absurd (if_neg hr) h1
  · by_cases hr : roomN N (N 9 c 0) < nR N
    · rw [show roomI N (N 9 c 0) = nI (roomN N (N 9 c 0)) from if_pos hr] at h1
      exact absurd h1 (nI_n6 (by omega))
    · unfold getsF at hp
      rwa [if_neg hr] at hp
theorem T_Ad_hasPlacedSibling {c : Nat} (hB : Bd N) (hc : c < nK N) (hp : P (b2i (sibD N c = true)) (wr m k N)) : RunI g h_Ad_hasPlacedSibling [vO 2 k 0, vI (nI c)] (wr m k N) P := by
  have hn := hB.2.2.1
  have h24 := hB.2.2.2
  have e := nI_clamp (n := c) (by omega)
  have hin := vp_in_nI (n := c) (N := 24) (by omega) (by omega)
  refine RunI.ofGo rfl rfl (b_Ad_hasPlacedSibling_0 ?_)
  simp only [e, wr_9]
  refine ⟨hin, ?_⟩
  refine loopN (G := fun j => (∀ i, i < j → ¬ (N 9 i 3 = 1 ∧ N 9 i 1 = N 9 c 1)) → Go g h_Ad_hasPlacedSibling (QI P) 12 [(0, vO 2 k 0), (2, vI (N 9 c 1)), (3, vI (nI j))] [] (wr m k N)) (nK N) ?_ ?_ 0 (Nat.zero_le _) (fun i hi => absurd hi (Nat.not_lt_zero i))
  · intro hno
    refine b_Ad_hasPlacedSibling_12 ⟨fun _ => ⟨by decide, qi ?_⟩, fun h => absurd (by rw [wr_2, hn]; exact le_self _) h⟩
    rwa [b2i_f (fun q => by obtain ⟨j, hj, q⟩ := sibD_iff.mp q; exact hno j hj q)] at hp
  · intro j hj ih hno
    have hcj := nI_clamp (n := j) (by omega)
    have hinj := vp_in_nI (n := j) (N := 24) (by omega) (by omega)
    refine b_Ad_hasPlacedSibling_12 ⟨fun h => absurd h (by rw [wr_2, hn]; exact nI_ge hj (by omega)), fun _ => ⟨hinj, ?_⟩⟩
    simp only [hcj, wr_9]
    have nx : ¬ (N 9 j 3 = 1 ∧ N 9 j 1 = N 9 c 1) → Go g h_Ad_hasPlacedSibling (QI P) 12 [(0, vO 2 k 0), (2, vI (N 9 c 1)), (3, vI (nI j + 1))] [] (wr m k N) := by
      intro h
      rw [nI_1]
      refine ih fun i hi => ?_
      by_cases q : i = j
      · rw [q]; exact h
      · exact hno i (by omega)
    refine ⟨fun h1 => nx (fun q => h1 q.1), fun h1 => ⟨hinj, fun h2 => nx (fun q => h2 q.2), fun h2 => ⟨by decide, qi ?_⟩⟩⟩
    rwa [b2i_t (sibD_iff.mpr ⟨j, hj, h1, h2⟩)] at hp
theorem T_Ad_nextOnList (hB : Bd N) (hp : P (if nxtN N < nK N then nI (nxtN N) else -6) (wr m k N)) : RunI g h_Ad_nextOnList [vO 2 k 0] (wr m k N) P := by
  have hn := hB.2.2.1
  have h24 := hB.2.2.2
  refine RunI.ofGo rfl rfl (b_Ad_nextOnList_0 ?_)
  refine loopN (G := fun j => ∀ x1 : Int32, ((x1 = -6 ∧ ∀ i, i < j → ¬ canD N i) ∨ (∃ f, f < j ∧ x1 = nI f ∧ canD N f ∧ ∀ i, i < f → ¬ canD N i)) → (∀ i, i < j → ¬ (canD N i ∧ sibD N i = true)) → Go g h_Ad_nextOnList (QI P) 5 [(0, vO 2 k 0), (1, vI x1), (2, vI (nI j))] [] (wr m k N)) (nK N) ?_ ?_ 0 (Nat.zero_le _) (-6) (Or.inl ⟨rfl, fun i hi => absurd hi (Nat.not_lt_zero i)⟩) (fun i hi => absurd hi (Nat.not_lt_zero i))
  · intro x1 h1 h2
    refine b_Ad_nextOnList_5 ⟨fun _ => qi ?_, fun h => absurd (by rw [wr_2, hn]; exact le_self _) h⟩
    unfold nxtN at hp
    rw [low_n h2, if_neg (Nat.lt_irrefl _)] at hp
    rcases h1 with ⟨rfl, h1⟩ | ⟨f, hf, rfl, h3, h4⟩
    · rwa [low_n h1, if_neg (Nat.lt_irrefl _)] at hp
    · rwa [low_eq hf h3 h4, if_pos hf] at hp
  · intro j hj ih x1 h1 h2
    have hcj := nI_clamp (n := j) (by omega)
    have hinj := vp_in_nI (n := j) (N := 24) (by omega) (by omega)
    have nx : ¬ canD N j → Go g h_Ad_nextOnList (QI P) 5 [(0, vO 2 k 0), (1, vI x1), (2, vI (nI j + 1))] [] (wr m k N) := by
      intro h
      rw [nI_1]
      refine ih x1 ?_ fun i hi => ?_
      · rcases h1 with ⟨a, b⟩ | ⟨f, a, b⟩
        · refine Or.inl ⟨a, fun i hi => ?_⟩
          by_cases q : i = j
          · rw [q]; exact h
          · exact b i (by omega)
        · exact Or.inr ⟨f, by omega, b⟩
      · by_cases q : i = j
        · rw [q]; exact fun z => h z.1
        · exact h2 i (by omega)
    have nx2 : ¬ sibD N j = true → ¬ x1 = -6 → Go g h_Ad_nextOnList (QI P) 5 [(0, vO 2 k 0), (1, vI x1), (2, vI (nI j + 1))] [] (wr m k N) := by
      intro h hx
      rw [nI_1]
      refine ih x1 ?_ fun i hi => ?_
      · rcases h1 with ⟨a, b⟩ | ⟨f, a, b⟩
        · exact absurd a hx
        · exact Or.inr ⟨f, by omega, b⟩
      · by_cases q : i = j
        · rw [q]; exact fun z => h z.2
        · exact h2 i (by omega)
    have nx3 : canD N j → ¬ sibD N j = true → x1 = -6 → Go g h_Ad_nextOnList (QI P) 5 [(0, vO 2 k 0), (1, vI (nI j)), (2, vI (nI j + 1))] [] (wr m k N) := by
      intro hj2 h hx
      rw [nI_1]
      refine ih (nI j) ?_ fun i hi => ?_
      · rcases h1 with ⟨a, b⟩ | ⟨f, a, b, c⟩
        · exact Or.inr ⟨j, by omega, rfl, hj2, b⟩
        · exact absurd (b.symm.trans hx) (nI_n6 (by omega))
      · by_cases q : i = j
        · rw [q]; exact fun z => h z.2
        · exact h2 i (by omega)
    have nx4 : canD N j → sibD N j = true → P (nI j) (wr m k N) := by
      intro a b
      unfold nxtN at hp
      rwa [low_eq hj ⟨a, b⟩ h2, if_pos hj, if_pos hj] at hp
    refine b_Ad_nextOnList_5 ⟨fun h => absurd h (by rw [wr_2, hn]; exact nI_ge hj (by omega)), fun _ => T_Ad_hasPlacedSibling hB hj ?_⟩
    simp only [b2i_eq0, Decidable.not_not, hcj, wr_9]
    refine ⟨fun hs => ⟨fun q => absurd q (by decide), fun _ => ⟨hinj, fun a => nx (fun z => a z.1), fun a => T_Ad_sessionsFor hB hj ⟨fun b => nx (fun z => z.2 b), fun b => ⟨fun q => absurd hs q, fun _ => qi (nx4 ⟨a, b⟩ hs)⟩⟩⟩⟩, fun hs => ⟨fun hx => ⟨fun _ => nx2 hs hx, fun q => absurd trivial q⟩, fun hx => ⟨fun q => absurd q (by decide), fun _ => ⟨hinj, fun a => nx (fun z => a z.1), fun a => T_Ad_sessionsFor hB hj ⟨fun b => nx (fun z => z.2 b), fun b => ⟨fun _ => nx3 ⟨a, b⟩ hs hx, fun q => absurd q hs⟩⟩⟩⟩⟩⟩
theorem T_Ad_place {c : Nat} (hB : Bd N) (hc : c < nK N) (hp : PV (wr m k (plcN N c))) : RunV g h_Ad_place [vO 2 k 0, vI (nI c)] (wr m k N) PV := by
  have h24 := hB.2.2.2
  have e := nI_clamp (n := c) (by omega)
  have hin := vp_in_nI (n := c) (N := 24) (by omega) (by omega)
  refine RunV.ofGo rfl rfl (b_Ad_place_0 ?_)
  simp only [e]
  refine ⟨hin, T_Ad_sessionsFor hB hc ?_⟩
  simp only [ms_9, wr_9]
  have hs : Sm N (nset N 9 c 5 (getsF N c)) := Sm.rfl'.nt (by decide)
  refine T_St_roomOfAge (hs.bd hB) ⟨vp_in_nI (n := 3) (N := 5) (by omega) (by omega), ?_⟩
  simp only [ms_9, ms_2, wr_2, wr_3, wr_9, nset_ap, Fin.reduceEq, false_and, and_false, if_false, reduceCtorEq]
  rw [show roomI (nset N 9 c 5 (getsF N c)) _ = roomI N _ from roomI_congr (funext fun i => funext fun j => by simp [nset_ap]) (by simp [nset_ap]) _]
  simp only [plcN] at hp
  refine ⟨fun h => ⟨Or.inl trivial, qv ?_⟩, fun h => ⟨Or.inr trivial, qv ?_⟩⟩
  · rw [if_neg h] at hp
    simpa using hp
  · rw [if_pos h] at hp
    simpa using hp
theorem T_Ad_admitAll (hB : Bd N) (hp : P (nI (admC 24 N)) (wr m k (admN 24 N))) : RunI g h_Ad_admitAll [vO 2 k 0] (wr m k N) P := by
  refine RunI.ofGo rfl rfl (b_Ad_admitAll_0 ?_)
  have key : ∀ f r p N, r + f = 24 → Bd N → P (nI (p + admC f N)) (wr m k (admN f N)) → Go g h_Ad_admitAll (QI P) 4 [(0, vO 2 k 0), (1, vI (nI p)), (2, vI (nI r))] [] (wr m k N) := by
    intro f
    induction f with
    | zero =>
      intro r p N hr hB hp
      have : r = 24 := by omega
      subst this
      exact b_Ad_admitAll_4 ⟨fun _ => qi hp, fun h => absurd (by decide) h⟩
    | succ f ih =>
      intro r p N hr hB hp
      have hn := hB.2.2.1
      have h24 := hB.2.2.2
      refine b_Ad_admitAll_4 ⟨fun h => absurd h (nI_ge (b := 24) (by omega) (by omega)), fun _ => T_Ad_nextOnList hB (T_St_hasChild ?_)⟩
      simp only [b2i_eq0, Decidable.not_not]
      rw [hn]
      by_cases hx : nxtN N < nK N
      · rw [if_pos hx]
        refine ⟨fun _ => T_Ad_place hB hx ?_, fun h => absurd ⟨nI_pos (by omega), nI_ge hx (by omega)⟩ h⟩
        rw [nI_1, nI_1]
        refine ih _ _ _ (by omega) (plcN_sm.bd hB) ?_
        have e1 : admC (f + 1) N = admC f (plcN N (nxtN N)) + 1 := if_pos hx
        have e2 : admN (f + 1) N = admN f (plcN N (nxtN N)) := if_pos hx
        rw [e1, e2] at hp
        rwa [show p + 1 + admC f (plcN N (nxtN N)) = p + (admC f (plcN N (nxtN N)) + 1) by omega]
      · rw [if_neg hx]
        refine ⟨fun h => absurd (by decide) h.1, fun _ => qi ?_⟩
        have e1 : admC (f + 1) N = 0 := if_neg hx
        have e2 : admN (f + 1) N = N := if_neg hx
        rwa [e1, e2] at hp
  refine key 24 0 0 N rfl hB ?_
  rw [Nat.zero_add]
  exact hp
end AD
