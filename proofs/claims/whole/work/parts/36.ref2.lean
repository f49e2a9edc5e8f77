/-! WHAT HOLDS OF EVERY STATE, step by step; readers of the reference -/
theorem ns_comm {N : Nu} {t t' : Fin 10} {i j i' j' : Nat} {x y : Int32} (h : ¬ (t' = t ∧ i' = i ∧ j' = j)) : nset (nset N t i j x) t' i' j' y = nset (nset N t' i' j' y) t i j x := by
  funext a b c
  rw [nset_ap, nset_ap, nset_ap, nset_ap]
  by_cases h1 : a = t' ∧ b = i' ∧ c = j'
  · rw [if_pos h1, if_pos h1, if_neg]
    rintro ⟨q1, q2, q3⟩
    exact h ⟨h1.1.symm.trans q1, h1.2.1.symm.trans q2, h1.2.2.symm.trans q3⟩
  · rw [if_neg h1, if_neg h1]
def K1 (N : Nu) (i : Nat) : Prop := ((N 9 i 3 = 1 → ∃ r, r < nR N ∧ N 9 i 4 = nI r) ∧ (¬ N 9 i 3 = 1 → N 9 i 4 = -6 ∧ N 9 i 5 = 0)) ∧ (N 9 i 3 = 0 ∨ N 9 i 3 = 1 ∨ N 9 i 3 = 2) ∧ (N 9 i 6 = 0 ∨ N 9 i 6 = 1) ∧ (¬ N 9 i 3 = 1 → N 9 i 6 = 0 ∧ N 9 i 8 = -6) ∧ (N 9 i 8 = -6 ∨ ∃ s, s < 10 ∧ N 9 i 8 = nI s) ∧ (∀ j, j < 32 → Has (N 9 i 5) (nI j) → j < 10) ∧ ¬ N 9 i 13 < 0
theorem Ok.k1 {N : Nu} (h : Ok N) {i : Nat} (hi : i < nK N) : K1 N i := ⟨h.2.1 i hi, h.2.2.2.2.1 i hi⟩
theorem ok_kids {N M : Nu} (hO : Ok N) (hs : Sm N M) (h3 : M 3 = N 3) (h7 : M 7 = N 7) (h8 : M 8 = N 8) (hk : ∀ i, i < nK N → K1 M i) : Ok M := by
  refine ⟨⟨hs.bd hO.1.1, by rw [hs.nC]; exact hO.1.2⟩, fun i hi => (hk i (by rw [hs.nK] at hi; exact hi)).1, ?_, ⟨?_, ?_⟩, fun i hi => (hk i (by rw [hs.nK] at hi; exact hi)).2, ?_⟩
  · intro r hr
    rw [hs.nR] at hr
    rw [h7]
    exact hO.2.2.1 r hr
  · intro i hi
    rw [hs.nC] at hi
    rw [h8]
    exact hO.2.2.2.1.1 i hi
  · intro r hr
    rw [hs.nR] at hr
    rw [h7]
    exact hO.2.2.2.1.2 r hr
  · rw [h3]; exact hO.2.2.2.2.2
theorem ok_kid {N M : Nu} {c : Nat} (hO : Ok N) (hs : Sm N M) (h3 : M 3 = N 3) (h7 : M 7 = N 7) (h8 : M 8 = N 8) (hk : ∀ i, ¬ i = c → M 9 i = N 9 i) (h1 : K1 M c) : Ok M := by
  refine ok_kids hO hs h3 h7 h8 fun i hi => ?_
  by_cases e : i = c
  · rw [e]; exact h1
  · have := hO.k1 hi
    unfold K1 at this ⊢
    rw [hk i e, hs.nR]
    exact this
theorem ok_irr {N : Nu} (hO : Ok N) {c j : Nat} {x : Int32} (hj : ¬ (j = 3 ∨ j = 4 ∨ j = 5 ∨ j = 6 ∨ j = 8 ∨ j = 13)) : Ok (nset N 9 c j x) := by
  have hs : Sm N (nset N 9 c j x) := Sm.rfl'.nt (by decide)
  refine ok_kids hO hs (by funext a b; exact ns_t (by decide)) (by funext a b; exact ns_t (by decide)) (by funext a b; exact ns_t (by decide)) fun i hi => ?_
  have := hO.k1 hi
  unfold K1 at this ⊢
  rw [hs.nR, ns_j (by omega), ns_j (by omega), ns_j (by omega), ns_j (by omega), ns_j (by omega), ns_j (by omega)]
  exact this
theorem ok_n2 {N : Nu} (hO : Ok N) {j : Nat} {x : Int32} (hj : 7 ≤ j) : Ok (nset N 2 0 j x) := by
  have hs : Sm N (nset N 2 0 j x) := Sm.rfl'.n2 hj
  refine ok_kids hO hs (by funext a b; exact ns_t (by decide)) (by funext a b; exact ns_t (by decide)) (by funext a b; exact ns_t (by decide)) fun i hi => ?_
  have := hO.k1 hi
  unfold K1 at this ⊢
  rw [hs.nR, ns_t (by decide), ns_t (by decide), ns_t (by decide), ns_t (by decide), ns_t (by decide), ns_t (by decide)]
  exact this
theorem ok_n8 {N : Nu} (hO : Ok N) {c : Nat} {x : Int32} (hx : x = 0 ∨ x = 1) : Ok (nset N 8 c 4 x) := by
  have hs : Sm N (nset N 8 c 4 x) := Sm.rfl'.nt (by decide)
  have h9 : (nset N 8 c 4 x) 9 = N 9 := by funext a b; exact ns_t (by decide)
  refine ⟨⟨hs.bd hO.1.1, by rw [hs.nC]; exact hO.1.2⟩, ?_, ?_, ⟨?_, ?_⟩, ?_, ?_⟩
  · intro i hi
    rw [hs.nK] at hi
    rw [hs.nR, h9]
    exact hO.2.1 i hi
  · intro r hr
    rw [hs.nR] at hr
    rw [ns_t (by decide), ns_t (by decide)]
    exact hO.2.2.1 r hr
  · intro i hi
    rw [hs.nC] at hi
    have := hO.2.2.2.1.1 i hi
    rw [ns_j (by decide)]
    refine ⟨this.1, ?_⟩
    by_cases e : i = c
    · rw [e, ns_s]; exact hx
    · rw [ns_i e]; exact this.2
  · intro r hr
    rw [hs.nR] at hr
    rw [ns_t (by decide)]
    exact hO.2.2.2.1.2 r hr
  · intro i hi
    rw [hs.nK] at hi
    rw [h9]
    exact hO.2.2.2.2.1 i hi
  · intro j hj
    rw [ns_t (by decide)]
    exact hO.2.2.2.2.2 j hj
theorem ok_qit {N : Nu} (hO : Ok N) {c : Nat} (hc : c < nK N) {s : Int32} (hs : s = 0 ∨ s = 2) : Ok (qitN N c s) := by
  refine ok_kid (c := c) hO qitN_ks.1 (by funext a b; simp [qitN, nset_ap]) (by funext a b; simp [qitN, nset_ap]) (by funext a b; simp [qitN, nset_ap]) (fun i hi => by funext b; simp [qitN, nset_ap, hi]) ?_
  have h := hO.k1 hc
  have e3 : qitN N c s 9 c 3 = s := by simp [qitN, nset_ap]
  have e4 : qitN N c s 9 c 4 = -6 := by simp [qitN, nset_ap]
  have e5 : qitN N c s 9 c 5 = 0 := by simp [qitN, nset_ap]
  have e6 : qitN N c s 9 c 6 = 0 := by simp [qitN, nset_ap]
  have e8 : qitN N c s 9 c 8 = -6 := by simp [qitN, nset_ap]
  have e13 : qitN N c s 9 c 13 = N 9 c 13 := by simp [qitN, nset_ap]
  have hs1 : ¬ s = 1 := by rcases hs with rfl | rfl <;> decide
  unfold K1
  rw [e3, e4, e5, e6, e8, e13]
  refine ⟨⟨fun q => absurd q hs1, fun _ => ⟨rfl, rfl⟩⟩, ?_, Or.inl rfl, fun _ => ⟨rfl, rfl⟩, Or.inl rfl, fun j hj q => absurd q (has_0 hj), h.2.2.2.2.2.2⟩
  rcases hs with rfl | rfl
  · exact Or.inl rfl
  · exact Or.inr (Or.inr rfl)
theorem ok_wait {N : Nu} (hO : Ok N) {c : Nat} (hc : c < nK N) {w : Int32} : Ok (waitN N c w) := ok_irr (ok_irr (ok_qit hO hc (Or.inl rfl)) (by omega)) (by omega)
theorem open_lt {N : Nu} {r : Nat} {set : Int32} {j : Nat} (hj : j < 32) (h : Has (openF N r set) (nI j)) : j < 10 := ((has_setI (by decide) hj).mp h).1
theorem gets_lt {N : Nu} {c j : Nat} (hj : j < 32) (h : Has (getsF N c) (nI j)) : j < 10 := by
  unfold getsF at h
  split at h
  · split at h
    · exact absurd h (has_0 hj)
    · exact open_lt hj h
  · exact absurd h (has_0 hj)
theorem gets_room {N : Nu} {c : Nat} (h : ¬ getsF N c = 0) : roomN N (N 9 c 0) < nR N := by
  by_cases q : roomN N (N 9 c 0) < nR N
  · exact q
  · exact absurd (if_neg q) h
theorem ok_plc {N : Nu} (hO : Ok N) {c : Nat} (hc : c < nK N) (hcan : canD N c) (hp : ¬ N 2 0 8 < 0) : Ok (plcN N c) := by
  refine ok_kid (c := c) hO plcN_sm (by funext a b; simp [plcN, nset_ap]) (by funext a b; simp [plcN, nset_ap]) (by funext a b; simp [plcN, nset_ap]) (fun i hi => by funext b; simp [plcN, nset_ap, hi]) ?_
  have h := hO.k1 hc
  have e3 : plcN N c 9 c 3 = 1 := by simp [plcN, nset_ap]
  have e4 : plcN N c 9 c 4 = roomI N (N 9 c 0) := by simp [plcN, nset_ap]
  have e5 : plcN N c 9 c 5 = getsF N c := by simp [plcN, nset_ap]
  have e6 : plcN N c 9 c 6 = if N 3 0 3 = 0 then 1 else 0 := by simp [plcN, nset_ap]
  have e8 : plcN N c 9 c 8 = N 9 c 8 := by simp [plcN, nset_ap]
  have e13 : plcN N c 9 c 13 = N 2 0 8 := by simp [plcN, nset_ap]
  have hr := gets_room hcan.2
  unfold K1
  rw [e3, e4, e5, e6, e8, e13, plcN_sm.nR]
  refine ⟨⟨fun _ => ⟨_, hr, if_pos hr⟩, fun q => absurd rfl q⟩, Or.inr (Or.inl rfl), ?_, fun q => absurd rfl q, h.2.2.2.2.1, fun j hj q => gets_lt hj q, hp⟩
  split
  · exact Or.inr rfl
  · exact Or.inl rfl
section RF
variable {g : Wg} {m : Mm} {v : Nat → Int32} {P : Int32 → Mm → Prop} {PV : Mm → Prop} {N : Nu}
theorem S_Md_gets {c : Nat} (hR : RelR N v) (hO : Ok N) (hc : c < nK N) (hp : P (getsF N c) (wv m v)) : RunI g h_Md_gets [vO 17 0 0, vI (nI c)] (wv m v) P := by
  have hB := hO.1.1
  have h24 := hB.2.2.2
  have h5 := hB.1.2
  refine RunI.ofGo rfl rfl (b_Md_gets_0 (S_Md_of (c := c) (j := 0) (by omega) (by decide) ?_))
  rw [hR.k (j := 0) hB hc (by decide) (fun q => absurd q (by decide))]
  refine S_Md_roomOf hR hO ?_
  unfold getsF at hp
  unfold roomV
  by_cases hr : roomN N (N 9 c 0) < nR N
  · rw [if_pos hr]
    rw [if_pos hr] at hp
    refine ⟨fun _ => S_Md_of (c := c) (j := 2) (by omega) (by decide) ?_, fun q => absurd (nI_pos' (by omega)) q⟩
    rw [hR.k (j := 2) hB hc (by decide) (fun q => absurd q (by decide))]
    refine S_Md_freeOf hR hO hr (S_Md_ones ⟨vp_in_nI (n := 2) (by decide) (by decide), ?_⟩)
    rw [wv_at, hR.s (j := 2) (by decide)]
    refine ⟨fun q => qi ?_, fun q => qi ?_⟩
    · rwa [if_pos q] at hp
    · rwa [if_neg q] at hp
  · rw [if_neg hr]
    rw [if_neg hr] at hp
    exact ⟨fun q => absurd q (by decide), fun _ => S_Md_ones ⟨vp_in_nI (n := 2) (by decide) (by decide), fun _ => qi hp, fun _ => qi hp⟩⟩
theorem S_Md_hasSibling {c : Nat} (hR : RelR N v) (hO : Ok N) (hc : c < nK N) (hp : P (b2i (sibD N c = true)) (wv m v)) : RunI g h_Md_hasSibling [vO 17 0 0, vI (nI c)] (wv m v) P := by
  have hB := hO.1.1
  have h24 := hB.2.2.2
  have hn := hB.2.2.1
  refine RunI.ofGo rfl rfl (b_Md_hasSibling_0 ?_)
  refine loopN (G := fun j => ∀ x : Int32, ((x = 0 ∧ ∀ i, i < j → ¬ (N 9 i 3 = 1 ∧ N 9 i 1 = N 9 c 1)) ∨ (x = 1 ∧ ∃ i, i < j ∧ N 9 i 3 = 1 ∧ N 9 i 1 = N 9 c 1)) → Go g h_Md_hasSibling (QI P) 4 [(0, vO 17 0 0), (1, vI (nI c)), (2, vI x), (3, vI (nI j))] [] (wv m v)) (nK N) ?_ ?_ 0 (Nat.zero_le _) 0 (Or.inl ⟨rfl, fun i hi => absurd hi (Nat.not_lt_zero i)⟩)
  · intro x hx
    refine b_Md_hasSibling_4 ⟨vp_in_nI (n := 8) (by decide) (by decide), fun _ => ⟨hx.elim (fun q => Or.inl q.1) (fun q => Or.inr q.1), qi ?_⟩, fun h => absurd (by rw [wv_at, hR.v8, hn]; exact le_self _) h⟩
    rcases hx with ⟨rfl, h⟩ | ⟨rfl, h⟩
    · rwa [b2i_f (fun q => by obtain ⟨j, hj, q⟩ := sibD_iff.mp q; exact h j hj q)] at hp
    · rwa [b2i_t (sibD_iff.mpr h)] at hp
  · intro j hj ih x hx
    refine b_Md_hasSibling_4 ⟨vp_in_nI (n := 8) (by decide) (by decide), fun h => absurd h (by rw [wv_at, hR.v8, hn]; exact nI_ge hj (by omega)), fun _ => ?_⟩
    rw [nI_1]
    rcases hx with ⟨rfl, h⟩ | ⟨rfl, i, hi, h⟩
    · have nx : ¬ (N 9 j 3 = 1 ∧ N 9 j 1 = N 9 c 1) → Go g h_Md_hasSibling (QI P) 4 [(0, vO 17 0 0), (1, vI (nI c)), (2, vI 0), (3, vI (nI (j + 1)))] [] (wv m v) := by
        intro q
        refine ih 0 (Or.inl ⟨rfl, fun i hi => ?_⟩)
        by_cases e : i = j
        · rw [e]; exact q
        · exact h i (by omega)
      refine ⟨fun q => absurd rfl q, fun _ => S_Md_of (c := j) (j := 3) (by omega) (by decide) ?_⟩
      rw [hR.k (j := 3) hB hj (by decide) (fun q => absurd q (by decide))]
      refine ⟨fun a => nx (fun q => a q.1), fun a => S_Md_of (c := j) (j := 1) (by omega) (by decide) (S_Md_of (c := c) (j := 1) (by omega) (by decide) ?_)⟩
      rw [hR.k (j := 1) hB hj (by decide) (fun q => absurd q (by decide)), hR.k (j := 1) hB hc (by decide) (fun q => absurd q (by decide))]
      exact ⟨fun b => nx (fun q => b q.2), fun b => ih 1 (Or.inr ⟨rfl, j, by omega, a, b⟩)⟩
    · exact ⟨fun _ => ih 1 (Or.inr ⟨rfl, i, by omega, h⟩), fun q => absurd q (by decide)⟩
theorem S_Md_firstOne (hR : RelR N v) (hO : Ok N) (hp : P (if nxtN N < nK N then nI (nxtN N) else -1) (wv m v)) : RunI g h_Md_firstOne [vO 17 0 0] (wv m v) P := by
  have hB := hO.1.1
  have h24 := hB.2.2.2
  have hn := hB.2.2.1
  refine RunI.ofGo rfl rfl (b_Md_firstOne_0 ⟨vp_in_nI (n := 8) (by decide) (by decide), ?_⟩)
  rw [wv_at, hR.v8, hn]
  have key : ∀ d, d ≤ nK N → ∀ x1 x2 : Int32, ((x1 = -1 ∧ x2 = 0 ∧ ∀ i, d ≤ i → i < nK N → ¬ canD N i) ∨ (∃ f, d ≤ f ∧ f < nK N ∧ x1 = nI f ∧ canD N f ∧ ((x2 = 1 ∧ sibD N f = true ∧ ∀ i, d ≤ i → i < f → ¬ (canD N i ∧ sibD N i = true)) ∨ (x2 = 0 ∧ (∀ i, d ≤ i → i < nK N → ¬ (canD N i ∧ sibD N i = true)) ∧ ∀ i, d ≤ i → i < f → ¬ canD N i)))) → Go g h_Md_firstOne (QI P) 14 [(0, vO 17 0 0), (1, vI x1), (2, vI x2), (3, vI (nI d - 1))] [] (wv m v) := by
    intro d
    induction d with
    | zero =>
      intro _ x1 x2 h
      refine b_Md_firstOne_14 ⟨fun _ => qi ?_, fun q => absurd (by decide) q⟩
      unfold nxtN at hp
      rcases h with ⟨rfl, -, h⟩ | ⟨f, -, hf, rfl, h1, ⟨-, h2, h3⟩ | ⟨-, h2, h3⟩⟩
      · rwa [low_n (p := fun c => canD N c ∧ sibD N c = true) (fun i hi q => h i (Nat.zero_le _) hi q.1), if_neg (Nat.lt_irrefl _), low_n (fun i hi => h i (Nat.zero_le _) hi), if_neg (Nat.lt_irrefl _)] at hp
      · rwa [low_eq (p := fun c => canD N c ∧ sibD N c = true) hf ⟨h1, h2⟩ (fun i hi => h3 i (Nat.zero_le _) hi), if_pos hf, if_pos hf] at hp
      · rwa [low_n (p := fun c => canD N c ∧ sibD N c = true) (fun i hi => h2 i (Nat.zero_le _) hi), if_neg (Nat.lt_irrefl _), low_eq hf h1 (fun i hi => h3 i (Nat.zero_le _) hi), if_pos hf] at hp
    | succ d ih =>
      intro hd x1 x2 h
      rw [nI_pred]
      have ed : nI d + (-1) = nI d - 1 := (Int32.sub_eq_add_neg ..).symm
      have hdn : d < nK N := by omega
      -- d is no candidate
      have nx : ¬ canD N d → Go g h_Md_firstOne (QI P) 14 [(0, vO 17 0 0), (1, vI x1), (2, vI x2), (3, vI (nI d + (-1)))] [] (wv m v) := by
        intro q
        rw [ed]
        refine ih (by omega) x1 x2 ?_
        rcases h with ⟨a, b, h⟩ | ⟨f, h0, hf, a, h1, ⟨b, h2, h3⟩ | ⟨b, h2, h3⟩⟩
        · refine Or.inl ⟨a, b, fun i hi hi2 => ?_⟩
          by_cases e : i = d
          · rw [e]; exact q
          · exact h i (by omega) hi2
        · refine Or.inr ⟨f, by omega, hf, a, h1, Or.inl ⟨b, h2, fun i hi hi2 => ?_⟩⟩
          by_cases e : i = d
          · rw [e]; exact fun z => q z.1
          · exact h3 i (by omega) hi2
        · refine Or.inr ⟨f, by omega, hf, a, h1, Or.inr ⟨b, fun i hi hi2 => ?_, fun i hi hi2 => ?_⟩⟩
          · by_cases e : i = d
            · rw [e]; exact fun z => q z.1
            · exact h2 i (by omega) hi2
          · by_cases e : i = d
            · rw [e]; exact q
            · exact h3 i (by omega) hi2
      refine b_Md_firstOne_14 ⟨fun q => absurd q (nI_pos (by omega)), fun _ => S_Md_of (c := d) (j := 3) (by omega) (by decide) ?_⟩
      rw [hR.k (j := 3) hB hdn (by decide) (fun q => absurd q (by decide))]
      refine ⟨fun a => nx (fun q => a q.1), fun a => S_Md_gets hR hO hdn ⟨fun b => nx (fun q => q.2 b), fun b => S_Md_hasSibling hR hO hdn ?_⟩⟩
      have hcan : canD N d := ⟨a, b⟩
      simp only [b2i_eq0, Decidable.not_not]
      refine ⟨fun s => S_Md_hasSibling hR hO hdn ?_, fun s => ⟨fun e => ?_, fun e => S_Md_hasSibling hR hO hdn ?_⟩⟩
      · rw [ed, b2i_t s]
        exact ih (by omega) _ _ (Or.inr ⟨d, Nat.le_refl _, hdn, rfl, hcan, Or.inl ⟨rfl, s, fun i h1 h2 => absurd h1 (by omega)⟩⟩)
      · rw [ed]
        refine ih (by omega) x1 x2 ?_
        rcases h with ⟨a, b, h⟩ | ⟨f, h0, hf, a, h1, ⟨b, h2, h3⟩ | ⟨b, h2, h3⟩⟩
        · exact absurd b e
        · refine Or.inr ⟨f, by omega, hf, a, h1, Or.inl ⟨b, h2, fun i hi hi2 => ?_⟩⟩
          by_cases e : i = d
          · rw [e]; exact fun z => s z.2
          · exact h3 i (by omega) hi2
        · exact absurd b e
      · rw [ed, b2i_f s]
        refine ih (by omega) _ _ (Or.inr ⟨d, Nat.le_refl _, hdn, rfl, hcan, Or.inr ⟨rfl, fun i hi hi2 => ?_, fun i h1 h2 => absurd h1 (by omega)⟩⟩)
        by_cases e2 : i = d
        · rw [e2]; exact fun z => s z.2
        · rcases h with ⟨a, b, h⟩ | ⟨f, h0, hf, a, h1, ⟨b, h2, h3⟩ | ⟨b, h2, h3⟩⟩
          · exact fun z => h i (by omega) hi2 z.1
          · rw [b] at e; exact absurd e (by decide)
          · exact h2 i (by omega) hi2
  exact key (nK N) (Nat.le_refl _) (-1) 0 (Or.inl ⟨rfl, rfl, fun i h1 h2 => absurd h1 (by omega)⟩)
theorem S_Md_inState {st : Int32} (hR : RelR N v) (hB : Bd N) (hp : P (setI (fun j => N 9 j 3 = st) (nK N)) (wv m v)) : RunI g h_Md_inState [vO 17 0 0, vI st] (wv m v) P := by
  have h24 := hB.2.2.2
  have hn := hB.2.2.1
  refine RunI.ofGo rfl rfl (b_Md_inState_0 ?_)
  refine loopN (G := fun j => Go g h_Md_inState (QI P) 4 [(0, vO 17 0 0), (1, vI st), (2, vI (setI (fun j => N 9 j 3 = st) j)), (3, vI (nI j))] [] (wv m v)) (nK N) ?_ ?_ 0 (Nat.zero_le _)
  · exact b_Md_inState_4 ⟨vp_in_nI (n := 8) (by decide) (by decide), fun _ => qi hp, fun h => absurd (by rw [wv_at, hR.v8, hn]; exact le_self _) h⟩
  · intro j hj ih
    refine b_Md_inState_4 ⟨vp_in_nI (n := 8) (by decide) (by decide), fun h => absurd h (by rw [wv_at, hR.v8, hn]; exact nI_ge hj (by omega)), fun _ => S_Md_of (c := j) (j := 3) (by omega) (by decide) ?_⟩
    rw [hR.k (j := 3) hB hj (by decide) (fun q => absurd q (by decide)), or_0, nI_1]
    refine ⟨fun a => ?_, fun a => ?_⟩
    · rwa [setI_f (p := fun j => N 9 j 3 = st) a] at ih
    · rwa [setI_t (p := fun j => N 9 j 3 = st) a] at ih
theorem S_Md_settledSet (hR : RelR N v) (hO : Ok N) (hp : P (setI (fun j => ¬ N 9 j 6 = 0) (nK N)) (wv m v)) : RunI g h_Md_settledSet [vO 17 0 0] (wv m v) P := by
  have hB := hO.1.1
  have h24 := hB.2.2.2
  have hn := hB.2.2.1
  refine RunI.ofGo rfl rfl (b_Md_settledSet_0 ?_)
  refine loopN (G := fun j => Go g h_Md_settledSet (QI P) 4 [(0, vO 17 0 0), (1, vI (setI (fun j => ¬ N 9 j 6 = 0) j)), (2, vI (nI j))] [] (wv m v)) (nK N) ?_ ?_ 0 (Nat.zero_le _)
  · exact b_Md_settledSet_4 ⟨vp_in_nI (n := 8) (by decide) (by decide), fun _ => qi hp, fun h => absurd (by rw [wv_at, hR.v8, hn]; exact le_self _) h⟩
  · intro j hj ih
    refine b_Md_settledSet_4 ⟨vp_in_nI (n := 8) (by decide) (by decide), fun h => absurd h (by rw [wv_at, hR.v8, hn]; exact nI_ge hj (by omega)), fun _ => S_Md_of (c := j) (j := 6) (by omega) (by decide) ?_⟩
    rw [hR.k (j := 6) hB hj (by decide) (fun q => absurd q (by decide)), or_0, nI_1]
    have h01 := (hO.k1 hj).2.2.1
    refine ⟨fun a => ?_, fun a => ?_⟩
    · rwa [setI_f (p := fun j => ¬ N 9 j 6 = 0) (fun q => h01.elim q a)] at ih
    · rwa [setI_t (p := fun j => ¬ N 9 j 6 = 0) (by rw [a]; decide)] at ih
theorem pln_neg {N : Nu} (hO : Ok N) {j : Nat} (hj : j < nK N) : N 9 j 8 < 0 ↔ N 9 j 8 = -6 := by
  rcases (hO.k1 hj).2.2.2.2.1 with h | ⟨s, hs, h⟩
  · rw [h]; exact ⟨fun _ => rfl, fun _ => by decide⟩
  · rw [h]; exact ⟨fun q => absurd q (nI_pos (by omega)), fun q => absurd q (nI_n6 (by omega))⟩
theorem S_Md_plannedMany (hR : RelR N v) (hO : Ok N) (hp : P (nI (cnt (fun j => ¬ N 9 j 8 = -6) (nK N))) (wv m v)) : RunI g h_Md_plannedMany [vO 17 0 0] (wv m v) P := by
  have hB := hO.1.1
  have h24 := hB.2.2.2
  have hn := hB.2.2.1
  refine RunI.ofGo rfl rfl (b_Md_plannedMany_0 ?_)
  refine loopN (G := fun j => Go g h_Md_plannedMany (QI P) 4 [(0, vO 17 0 0), (1, vI (nI (cnt (fun j => ¬ N 9 j 8 = -6) j))), (2, vI (nI j))] [] (wv m v)) (nK N) ?_ ?_ 0 (Nat.zero_le _)
  · exact b_Md_plannedMany_4 ⟨vp_in_nI (n := 8) (by decide) (by decide), fun _ => qi hp, fun h => absurd (by rw [wv_at, hR.v8, hn]; exact le_self _) h⟩
  · intro j hj ih
    refine b_Md_plannedMany_4 ⟨vp_in_nI (n := 8) (by decide) (by decide), fun h => absurd h (by rw [wv_at, hR.v8, hn]; exact nI_ge hj (by omega)), fun _ => S_Md_of (c := j) (j := 8) (by omega) (by decide) ?_⟩
    rw [hR.k (j := 8) hB hj (by decide) (fun q => absurd q (by decide)), Int32.add_zero, nI_1, pln_neg hO hj]
    refine ⟨fun a => ?_, fun a => ?_⟩
    · rwa [cnt_f (p := fun j => ¬ N 9 j 8 = -6) (fun q => q a)] at ih
    · rwa [cnt_t (p := fun j => ¬ N 9 j 8 = -6) a, nI_succ] at ih
theorem S_Md_guests {r s : Nat} (hR : RelR N v) (hO : Ok N) (hr : r < nR N) (hp : P (nI (cnt (gstP N (nI r) (nI s)) (nK N))) (wv m v)) : RunI g h_Md_guests [vO 17 0 0, vI (nI r), vI (nI s)] (wv m v) P := by
  have hB := hO.1.1
  have h24 := hB.2.2.2
  have h5 := hB.1.2
  have hn := hB.2.2.1
  refine RunI.ofGo rfl rfl (b_Md_guests_0 ?_)
  refine loopN (G := fun j => Go g h_Md_guests (QI P) 5 [(0, vO 17 0 0), (1, vI (nI r)), (2, vI (nI s)), (3, vI (nI (cnt (gstP N (nI r) (nI s)) j))), (4, vI (nI j))] [] (wv m v)) (nK N) ?_ ?_ 0 (Nat.zero_le _)
  · exact b_Md_guests_5 ⟨vp_in_nI (n := 8) (by decide) (by decide), fun _ => qi hp, fun h => absurd (by rw [wv_at, hR.v8, hn]; exact le_self _) h⟩
  · intro j hj ih
    have hT := cnt_t (p := gstP N (nI r) (nI s)) (n := j)
    have hF := cnt_f (p := gstP N (nI r) (nI s)) (n := j)
    refine b_Md_guests_5 ⟨vp_in_nI (n := 8) (by decide) (by decide), fun h => absurd h (by rw [wv_at, hR.v8, hn]; exact nI_ge hj (by omega)), fun _ => S_Md_isIn hR hO hj ?_⟩
    simp only [b2i_eq0, Decidable.not_not]
    rw [inP_iff hO hj (by omega), Int32.add_zero, nI_1]
    refine ⟨fun a => ?_, fun a => S_Md_of (c := j) (j := 8) (by omega) (by decide) ?_⟩
    · rwa [hF (fun q => a q.1)] at ih
    rw [hR.k (j := 8) hB hj (by decide) (fun q => absurd q (by decide))]
    refine ⟨fun b => ?_, fun b => S_Md_of (c := j) (j := 5) (by omega) (by decide) ?_⟩
    · rwa [hF (fun q => b q.2.1)] at ih
    rw [hR.k (j := 5) hB hj (by decide) (fun q => absurd q (by decide))]
    refine S_Md_has ?_
    simp only [b2i_eq0, Decidable.not_not]
    refine ⟨fun c => ?_, fun c => ?_⟩
    · rwa [hF (fun q => q.2.2 c)] at ih
    · rwa [hT ⟨a, b, c⟩, nI_succ] at ih
theorem S_Md_canSwap {a s b t : Nat} (hR : RelR N v) (hO : Ok N) (ha : a < nK N) (hs : s < 10) (hb : b < nK N) (ht : t < 10) (hp : P (b2i (¬ a = b ∧ canP N a s b t)) (wv m v)) : RunI g h_Md_canSwap [vO 17 0 0, vI (nI a), vI (nI s), vI (nI b), vI (nI t)] (wv m v) P := by
  have hB := hO.1.1
  have h24 := hB.2.2.2
  have h5 := hB.1.2
  have hRk := hO.2.1
  have ka5 := hR.k (j := 5) hB ha (by decide) (fun q => absurd q (by decide))
  have kb5 := hR.k (j := 5) hB hb (by decide) (fun q => absurd q (by decide))
  refine RunI.ofGo rfl rfl (b_Md_canSwap_0 ⟨fun e => ⟨by decide, qi ?_⟩, fun e => S_Md_of (c := a) (j := 3) (by omega) (by decide) ?_⟩)
  · rw [nI_eq (by omega) (by omega)] at e
    rwa [b2i_f (fun q => q.1 e)] at hp
  rw [nI_eq (by omega) (by omega)] at e
  rw [hR.k (j := 3) hB ha (by decide) (fun q => absurd q (by decide))]
  refine ⟨fun p => ⟨by decide, qi ?_⟩, fun pa => S_Md_of (c := b) (j := 3) (by omega) (by decide) ?_⟩
  · rwa [b2i_f (fun q => p (hRk.room h5 ha (by omega) q.2.1).1)] at hp
  rw [hR.k (j := 3) hB hb (by decide) (fun q => absurd q (by decide))]
  refine ⟨fun pb => S_Md_of (c := a) (j := 5) (by omega) (by decide) ?_, fun p => ⟨by decide, qi ?_⟩⟩
  rotate_left
  · rwa [b2i_f (fun q => p (hRk.room h5 hb (by omega) q.2.2.2.1).1)] at hp
  rw [ka5]
  refine S_Md_has ?_
  simp only [b2i_eq0, Decidable.not_not]
  refine ⟨fun q => ⟨by decide, qi ?_⟩, fun h1 => S_Md_of (c := b) (j := 5) (by omega) (by decide) ?_⟩
  · rwa [b2i_f (fun z => q z.2.1)] at hp
  rw [kb5]
  refine S_Md_has ?_
  simp only [b2i_eq0, Decidable.not_not]
  refine ⟨fun q => ⟨by decide, qi ?_⟩, fun h2 => S_Md_of (c := b) (j := 5) (by omega) (by decide) ?_⟩
  · rwa [b2i_f (fun z => z.2.2.1 q)] at hp
  rw [kb5]
  refine S_Md_has ?_
  simp only [b2i_eq0, Decidable.not_not]
  refine ⟨fun q => ⟨by decide, qi ?_⟩, fun h3 => S_Md_of (c := a) (j := 5) (by omega) (by decide) ?_⟩
  · rwa [b2i_f (fun z => q z.2.2.2.1)] at hp
  rw [ka5]
  refine S_Md_has ?_
  simp only [b2i_eq0, Decidable.not_not]
  refine ⟨fun h4 => S_Md_of (c := a) (j := 4) (by omega) (by decide) (S_Md_of (c := b) (j := 4) (by omega) (by decide) ?_), fun q => ⟨by decide, qi ?_⟩⟩
  rotate_left
  · rwa [b2i_f (fun z => z.2.2.2.2.1 q)] at hp
  obtain ⟨-, ra, qa⟩ := hRk.room h5 ha (by omega) h1
  obtain ⟨-, rb, qb⟩ := hRk.room h5 hb (by omega) h3
  have ka4 := hR.k (j := 4) hB ha (by decide) (fun _ => pa)
  have kb4 := hR.k (j := 4) hB hb (by decide) (fun _ => pb)
  rw [ka4, kb4]
  refine ⟨fun h6 => ⟨by decide, qi ?_⟩, fun h6 => S_Md_of (c := a) (j := 4) (by omega) (by decide) ?_⟩
  · rwa [b2i_t ⟨e, h1, h2, h3, h4, Or.inl h6⟩] at hp
  rw [ka4, qa]
  refine S_Md_isFree hR hO ra ht ?_
  simp only [b2i_eq0, Decidable.not_not]
  refine ⟨fun q => ⟨by decide, qi ?_⟩, fun h7 => S_Md_of (c := b) (j := 4) (by omega) (by decide) ?_⟩
  · rwa [b2i_f (fun z => z.2.2.2.2.2.elim h6 (fun y => y.1 q))] at hp
  rw [kb4, qb]
  refine S_Md_isFree hR hO rb hs ?_
  simp only [b2i_eq0, Decidable.not_not]
  refine ⟨fun q => ⟨by decide, qi ?_⟩, fun h8 => ⟨by decide, qi ?_⟩⟩
  · rwa [b2i_f (fun z => z.2.2.2.2.2.elim h6 (fun y => y.2 q))] at hp
  · rwa [b2i_t ⟨e, h1, h2, h3, h4, Or.inr ⟨h7, h8⟩⟩] at hp
theorem S_Md_priceFor {c : Nat} (hR : RelR N v) (hO : Ok N) (hc : c < nK N) (hp : P (feeF N c) (wv m v)) : RunI g h_Md_priceFor [vO 17 0 0, vI (nI c)] (wv m v) P := by
  have hB := hO.1.1
  have h24 := hB.2.2.2
  unfold feeF at hp
  refine RunI.ofGo rfl rfl (b_Md_priceFor_0 ?_)
  refine loopN (G := fun j => ∀ x : Int32, ((x = 0 ∧ ∀ i, i < j → ¬ (¬ N 9 i 6 = 0 ∧ N 9 i 1 = N 9 c 1)) ∨ (x = 1 ∧ ∃ i, i < j ∧ (¬ N 9 i 6 = 0 ∧ N 9 i 1 = N 9 c 1))) → Go g h_Md_priceFor (QI P) 4 [(0, vO 17 0 0), (1, vI (nI c)), (2, vI x), (3, vI (nI j))] [] (wv m v)) c ?_ ?_ 0 (Nat.zero_le _) 0 (Or.inl ⟨rfl, fun i hi => absurd hi (Nat.not_lt_zero i)⟩)
  · intro x hx
    refine b_Md_priceFor_4 ⟨fun _ => ⟨fun a => ⟨vp_in_nI (n := 0) (by decide) (by decide), qi ?_⟩, fun a => ⟨vp_in_nI (n := 0) (by decide) (by decide), vp_in_nI (n := 1) (by decide) (by decide), by decide, qi ?_⟩⟩, fun h => absurd (le_self _) h⟩
    · rw [wv_at, hR.s (j := 0) (by decide)]
      rcases hx with ⟨rfl, h⟩ | ⟨rfl, h⟩
      · rwa [low_n h, if_neg (Nat.lt_irrefl _)] at hp
      · exact absurd a (by decide)
    · rw [wv_at, hR.s (j := 0) (by decide), hR.s (j := 1) (by decide)]
      rcases hx with ⟨rfl, h⟩ | ⟨rfl, h⟩
      · exact absurd rfl a
      · have h2 : low (fun j => ¬ N 9 j 6 = 0 ∧ N 9 j 1 = N 9 c 1) 0 c < c := any_iff.mpr h
        rwa [if_pos h2] at hp
  · intro j hj ih x hx
    refine b_Md_priceFor_4 ⟨fun h => absurd h (nI_ge hj (by omega)), fun _ => ?_⟩
    rw [nI_1]
    rcases hx with ⟨rfl, h⟩ | ⟨rfl, i, hi, h⟩
    · have nx : ¬ (¬ N 9 j 6 = 0 ∧ N 9 j 1 = N 9 c 1) → Go g h_Md_priceFor (QI P) 4 [(0, vO 17 0 0), (1, vI (nI c)), (2, vI 0), (3, vI (nI (j + 1)))] [] (wv m v) := by
        intro q
        refine ih 0 (Or.inl ⟨rfl, fun i hi => ?_⟩)
        by_cases e : i = j
        · rw [e]; exact q
        · exact h i (by omega)
      have hjn : j < nK N := by omega
      have k1 := hO.k1 hjn
      refine ⟨fun q => absurd rfl q, fun _ => S_Md_of (c := j) (j := 3) (by omega) (by decide) ?_⟩
      rw [hR.k (j := 3) hB hjn (by decide) (fun q => absurd q (by decide))]
      refine ⟨fun a => nx (fun q => q.1 (k1.2.2.2.1 a).1), fun a => S_Md_of (c := j) (j := 6) (by omega) (by decide) ?_⟩
      rw [hR.k (j := 6) hB hjn (by decide) (fun q => absurd q (by decide))]
      refine ⟨fun b => nx (fun q => k1.2.2.1.elim q.1 b), fun b => S_Md_of (c := j) (j := 1) (by omega) (by decide) (S_Md_of (c := c) (j := 1) (by omega) (by decide) ?_)⟩
      rw [hR.k (j := 1) hB hjn (by decide) (fun q => absurd q (by decide)), hR.k (j := 1) hB hc (by decide) (fun q => absurd q (by decide))]
      exact ⟨fun d => nx (fun q => d q.2), fun d => ih 1 (Or.inr ⟨rfl, j, by omega, by rw [b]; decide, d⟩)⟩
    · exact ⟨fun _ => ih 1 (Or.inr ⟨rfl, i, by omega, h⟩), fun q => absurd q (by decide)⟩
end RF
