/-! a state is written over by another; leaving, being sick -/
def Lv (N : Nu) (t : Fin 10) (i j : Nat) : Prop := (t = 2 ∧ i = 0 ∧ 4 ≤ j ∧ j < 12) ∨ (t = 3 ∧ i = 0 ∧ j < 5) ∨ (t = 7 ∧ i < nR N ∧ j < 4) ∨ (t = 8 ∧ i < nC N ∧ j < 5) ∨ (t = 9 ∧ i < nK N ∧ j < 14)
/-- the live cells of B are there -/
def Lq (B A : Nu) : Prop := ∀ t i j, Lv B t i j → A t i j = B t i j
theorem Lq.rfl' {N : Nu} : Lq N N := fun _ _ _ _ => rfl
theorem Lq.sm {A B : Nu} (h : Lq B A) : Sm B A := ⟨h 2 0 4 (Or.inl ⟨rfl, rfl, by decide, by decide⟩), h 2 0 5 (Or.inl ⟨rfl, rfl, by decide, by decide⟩), h 2 0 6 (Or.inl ⟨rfl, rfl, by decide, by decide⟩)⟩
theorem Lq.lv {A B : Nu} (h : Lq B A) {t : Fin 10} {i j : Nat} : Lv A t i j ↔ Lv B t i j := by
  unfold Lv
  rw [h.sm.nR, h.sm.nC, h.sm.nK]
theorem Lq.symm {A B : Nu} (h : Lq B A) : Lq A B := fun t i j q => (h t i j (h.lv.mp q)).symm
theorem Lq.trans {A B C : Nu} (h : Lq B A) (h2 : Lq C B) : Lq C A := fun t i j q => (h t i j (h2.lv.mpr q)).trans (h2 t i j q)
theorem Lq.c2 {A B : Nu} (h : Lq B A) {j : Nat} (h4 : 4 ≤ j) (hj : j < 12) : A 2 0 j = B 2 0 j := h 2 0 j (Or.inl ⟨rfl, rfl, h4, hj⟩)
theorem Lq.c3 {A B : Nu} (h : Lq B A) {j : Nat} (hj : j < 5) : A 3 0 j = B 3 0 j := h 3 0 j (Or.inr (Or.inl ⟨rfl, rfl, hj⟩))
theorem Lq.c7 {A B : Nu} (h : Lq B A) {i j : Nat} (hi : i < nR B) (hj : j < 4) : A 7 i j = B 7 i j := h 7 i j (Or.inr (Or.inr (Or.inl ⟨rfl, hi, hj⟩)))
theorem Lq.c8 {A B : Nu} (h : Lq B A) {i j : Nat} (hi : i < nC B) (hj : j < 5) : A 8 i j = B 8 i j := h 8 i j (Or.inr (Or.inr (Or.inr (Or.inl ⟨rfl, hi, hj⟩))))
theorem Lq.c9 {A B : Nu} (h : Lq B A) {i j : Nat} (hi : i < nK B) (hj : j < 14) : A 9 i j = B 9 i j := h 9 i j (Or.inr (Or.inr (Or.inr (Or.inr ⟨rfl, hi, hj⟩))))
/-- flags are flags -/
def Fl (N : Nu) : Prop := (∀ i, i < nC N → N 8 i 4 = 0 ∨ N 8 i 4 = 1) ∧ (∀ i, i < nK N → N 9 i 6 = 0 ∨ N 9 i 6 = 1)
theorem cp_wr {m : Mm} {k k1 t i n : Nat} {N : Nu} (hne : k ≠ k1) (ht : t < 10) : cpR (wr m k N) t k i k1 i n = wr m k (fun t' i' j' => if t'.val = t ∧ i' = i ∧ j' < n then m (t, k1, i) j' else N t' i' j') := by
  funext o j
  obtain ⟨t', k', i'⟩ := o
  unfold cpR
  rw [wr_ne (fun q => hne q.symm)]
  by_cases h : k' = k ∧ t' < 10
  · obtain ⟨rfl, ht'⟩ := h
    rw [wr_in ht', wr_in ht']
    by_cases h2 : t' = t ∧ i' = i ∧ j < n
    · obtain ⟨rfl, rfl, hj⟩ := h2
      rw [if_pos ⟨rfl, hj⟩, if_pos ⟨rfl, rfl, hj⟩]
    · rw [if_neg, if_neg h2]
      rintro ⟨a, b⟩
      cases a
      exact h2 ⟨rfl, rfl, b⟩
  · rw [if_neg]
    · show dite _ _ _ = dite _ _ _
      rw [dif_neg h, dif_neg h]
    · rintro ⟨a, b⟩
      cases a
      exact h ⟨rfl, ht⟩
section CP
variable {g : Wg} {m : Mm} {P : Int32 → Mm → Prop} {PV : Mm → Prop} {k : Nat} {N : Nu}
theorem T_St_copyFrom {k1 : Nat} (hne : k ≠ k1) (hB : Bd (rd m k1)) (hF : Fl (rd m k1)) (hp : ∀ A, Lq (rd m k1) A → PV (wr m k A)) : RunV g h_St_copyFrom [vO 2 k 0, vO 2 k1 0] (wr m k N) PV := by
  have hne' : k1 ≠ k := fun q => hne q.symm
  refine RunV.ofGo rfl rfl (b_St_copyFrom_0 ?_)
  refine ⟨⟨rfl, rfl, rfl⟩, ?_⟩
  have e1 : (fun o => if o = (3, k, 0) then va_cpy (wr m k N (3, k1, 0)) (wr m k N (3, k, 0)) 0 0 5 else wr m k N o) = wr m k (fun t i j => if t = 3 ∧ i = 0 then va_cpy (m (3, k1, 0)) (N 3 0) 0 0 5 j else N t i j) := by
    funext o j
    obtain ⟨t', k', i'⟩ := o
    by_cases h : k' = k ∧ t' < 10
    · obtain ⟨rfl, ht'⟩ := h
      rw [wr_in ht']
      by_cases h2 : ((t', k', i') : Rf) = (3, k', 0)
      · rw [if_pos h2]
        cases h2
        rw [if_pos ⟨rfl, rfl⟩, wr_ne hne', show wr m k' N (3, k', 0) = N 3 0 from funext fun j => wr_3 0 j]
      · rw [if_neg h2, wr_in ht', if_neg]
        rintro ⟨a, rfl⟩
        exact h2 (by rw [Fin.ext_iff] at a; rw [show t' = 3 from a])
    · rw [if_neg]
      · show dite _ _ _ = dite _ _ _
        rw [dif_neg h, dif_neg h]
      · intro a
        cases a
        exact h ⟨rfl, by decide⟩
  intro u1
  have hu1 : u1 = _ := e1
  clear_value u1
  subst hu1
  simp only [ms_2, wr_ne hne', wr_2]
  generalize hM : nset (nset _ 2 0 10 _) 2 0 11 _ = M
  have hM2 : ∀ j, 4 ≤ j → j < 12 → M 2 0 j = rd m k1 2 0 j := by
    intro j h4 hj
    rw [← hM]
    rcases (show j = 4 ∨ j = 5 ∨ j = 6 ∨ j = 7 ∨ j = 8 ∨ j = 9 ∨ j = 10 ∨ j = 11 by omega) with rfl | rfl | rfl | rfl | rfl | rfl | rfl | rfl <;> simp [nset_ap] <;> rfl
  have hM3 : ∀ j, j < 5 → M 3 0 j = rd m k1 3 0 j := by
    intro j hj
    rw [← hM]
    simp only [nset_ap, Fin.reduceEq, false_and, if_false, true_and, if_true]
    rw [pk_cpy_in (Nat.zero_le _) (by omega)]
    simp
    rfl
  clear hM
  have h4 : M 2 0 4 = nI (nR (rd m k1)) := (hM2 4 (by omega) (by omega)).trans hB.1.1
  have h5 : M 2 0 5 = nI (nC (rd m k1)) := (hM2 5 (by omega) (by omega)).trans hB.2.1.1
  have h6 : M 2 0 6 = nI (nK (rd m k1)) := (hM2 6 (by omega) (by omega)).trans hB.2.2.1
  obtain ⟨⟨-, b5⟩, ⟨-, b13⟩, ⟨-, b24⟩⟩ := hB
  obtain ⟨hf1, hf2⟩ := hF
  -- rooms
  have key3 : ∀ M : Nu, (∀ j, 4 ≤ j → j < 12 → M 2 0 j = rd m k1 2 0 j) → (∀ j, j < 5 → M 3 0 j = rd m k1 3 0 j) → (∀ i, i < nR (rd m k1) → ∀ j, j < 4 → M 7 i j = rd m k1 7 i j) → (∀ i, i < nC (rd m k1) → ∀ j, j < 5 → M 8 i j = rd m k1 8 i j) → M 2 0 6 = nI (nK (rd m k1)) → Go g h_St_copyFrom (QV PV) 142 [(0, vO 2 k 0), (1, vO 2 k1 0), (2, vI 0)] [] (wr m k M) := by
    intro M g2 g3 g7 g8 h6
    refine loopN (G := fun n => ∀ M : Nu, (∀ j, 4 ≤ j → j < 12 → M 2 0 j = rd m k1 2 0 j) → (∀ j, j < 5 → M 3 0 j = rd m k1 3 0 j) → (∀ i, i < nR (rd m k1) → ∀ j, j < 4 → M 7 i j = rd m k1 7 i j) → (∀ i, i < nC (rd m k1) → ∀ j, j < 5 → M 8 i j = rd m k1 8 i j) → M 2 0 6 = nI (nK (rd m k1)) → (∀ i, i < n → ∀ j, j < 14 → M 9 i j = rd m k1 9 i j) → Go g h_St_copyFrom (QV PV) 142 [(0, vO 2 k 0), (1, vO 2 k1 0), (2, vI (nI n))] [] (wr m k M)) (nK (rd m k1)) ?_ ?_ 0 (Nat.zero_le _) M g2 g3 g7 g8 h6 (fun i hi => absurd hi (Nat.not_lt_zero i))
    · intro M g2 g3 g7 g8 h6 g9
      refine b_St_copyFrom_142 ⟨fun _ => qv (hp M ?_), fun h => absurd (by rw [wr_2, h6]; exact le_self _) h⟩
      rintro t i j (⟨rfl, rfl, a, b⟩ | ⟨rfl, rfl, a⟩ | ⟨rfl, a, b⟩ | ⟨rfl, a, b⟩ | ⟨rfl, a, b⟩)
      · exact g2 j a b
      · exact g3 j a
      · exact g7 i a j b
      · exact g8 i a j b
      · exact g9 i a j b
    · intro n hn ih M g2 g3 g7 g8 h6 g9
      have hc := nI_clamp (n := n) (by omega)
      have hin := vp_in_nI (n := n) (N := 24) (by omega) (by omega)
      refine b_St_copyFrom_142 ⟨fun h => absurd h (by rw [wr_2, h6]; exact nI_ge hn (by omega)), fun _ => ⟨hin, hin, ?_⟩⟩
      rw [hc]
      refine S_Ch_copyFrom hne (by rw [wr_ne hne']; exact hf2 n hn) ?_
      rw [cp_wr hne (by decide), nI_1]
      refine ih _ (fun j a b => ?_) (fun j a => ?_) (fun i a j b => ?_) (fun i a j b => ?_) ?_ (fun i a j b => ?_)
      · rw [if_neg (fun q => absurd q.1 (by decide))]; exact g2 j a b
      · rw [if_neg (fun q => absurd q.1 (by decide))]; exact g3 j a
      · rw [if_neg (fun q => absurd q.1 (by decide))]; exact g7 i a j b
      · rw [if_neg (fun q => absurd q.1 (by decide))]; exact g8 i a j b
      · rw [if_neg (fun q => absurd q.1 (by decide))]; exact h6
      · by_cases hi : i = n
        · subst hi
          rw [if_pos ⟨rfl, rfl, b⟩]
          rfl
        · rw [if_neg (fun q => hi q.2.1)]
          exact g9 i (by omega) j b
  have key2 : ∀ M : Nu, (∀ j, 4 ≤ j → j < 12 → M 2 0 j = rd m k1 2 0 j) → (∀ j, j < 5 → M 3 0 j = rd m k1 3 0 j) → (∀ i, i < nR (rd m k1) → ∀ j, j < 4 → M 7 i j = rd m k1 7 i j) → M 2 0 5 = nI (nC (rd m k1)) → M 2 0 6 = nI (nK (rd m k1)) → Go g h_St_copyFrom (QV PV) 111 [(0, vO 2 k 0), (1, vO 2 k1 0), (2, vI 0)] [] (wr m k M) := by
    intro M g2 g3 g7 h5 h6
    refine loopN (G := fun n => ∀ M : Nu, (∀ j, 4 ≤ j → j < 12 → M 2 0 j = rd m k1 2 0 j) → (∀ j, j < 5 → M 3 0 j = rd m k1 3 0 j) → (∀ i, i < nR (rd m k1) → ∀ j, j < 4 → M 7 i j = rd m k1 7 i j) → M 2 0 5 = nI (nC (rd m k1)) → M 2 0 6 = nI (nK (rd m k1)) → (∀ i, i < n → ∀ j, j < 5 → M 8 i j = rd m k1 8 i j) → Go g h_St_copyFrom (QV PV) 111 [(0, vO 2 k 0), (1, vO 2 k1 0), (2, vI (nI n))] [] (wr m k M)) (nC (rd m k1)) ?_ ?_ 0 (Nat.zero_le _) M g2 g3 g7 h5 h6 (fun i hi => absurd hi (Nat.not_lt_zero i))
    · intro M g2 g3 g7 h5 h6 g8
      exact b_St_copyFrom_111 ⟨fun _ => key3 M g2 g3 g7 g8 h6, fun h => absurd (by rw [wr_2, h5]; exact le_self _) h⟩
    · intro n hn ih M g2 g3 g7 h5 h6 g8
      have hc := nI_clamp (n := n) (by omega)
      have hin := vp_in_nI (n := n) (N := 13) (by omega) (by omega)
      refine b_St_copyFrom_111 ⟨fun h => absurd h (by rw [wr_2, h5]; exact nI_ge hn (by omega)), fun _ => ⟨hin, hin, ?_⟩⟩
      rw [hc]
      refine S_Ca_copyFrom hne (by rw [wr_ne hne']; exact hf1 n hn) ?_
      rw [cp_wr hne (by decide), nI_1]
      refine ih _ (fun j a b => ?_) (fun j a => ?_) (fun i a j b => ?_) ?_ ?_ (fun i a j b => ?_)
      · rw [if_neg (fun q => absurd q.1 (by decide))]; exact g2 j a b
      · rw [if_neg (fun q => absurd q.1 (by decide))]; exact g3 j a
      · rw [if_neg (fun q => absurd q.1 (by decide))]; exact g7 i a j b
      · rw [if_neg (fun q => absurd q.1 (by decide))]; exact h5
      · rw [if_neg (fun q => absurd q.1 (by decide))]; exact h6
      · by_cases hi : i = n
        · subst hi
          rw [if_pos ⟨rfl, rfl, b⟩]
          rfl
        · rw [if_neg (fun q => hi q.2.1)]
          exact g8 i (by omega) j b
  refine loopN (G := fun n => ∀ M : Nu, (∀ j, 4 ≤ j → j < 12 → M 2 0 j = rd m k1 2 0 j) → (∀ j, j < 5 → M 3 0 j = rd m k1 3 0 j) → M 2 0 4 = nI (nR (rd m k1)) → M 2 0 5 = nI (nC (rd m k1)) → M 2 0 6 = nI (nK (rd m k1)) → (∀ i, i < n → ∀ j, j < 4 → M 7 i j = rd m k1 7 i j) → Go g h_St_copyFrom (QV PV) 80 [(0, vO 2 k 0), (1, vO 2 k1 0), (2, vI (nI n))] [] (wr m k M)) (nR (rd m k1)) ?_ ?_ 0 (Nat.zero_le _) M hM2 hM3 h4 h5 h6 (fun i hi => absurd hi (Nat.not_lt_zero i))
  · intro M g2 g3 h4 h5 h6 g7
    exact b_St_copyFrom_80 ⟨fun _ => key2 M g2 g3 g7 h5 h6, fun h => absurd (by rw [wr_2, h4]; exact le_self _) h⟩
  · intro n hn ih M g2 g3 h4 h5 h6 g7
    have hc := nI_clamp (n := n) (by omega)
    have hin := vp_in_nI (n := n) (N := 5) (by omega) (by omega)
    refine b_St_copyFrom_80 ⟨fun h => absurd h (by rw [wr_2, h4]; exact nI_ge hn (by omega)), fun _ => ⟨hin, hin, ?_⟩⟩
    rw [hc]
    refine S_Rm_copyFrom hne ?_
    rw [cp_wr hne (by decide), nI_1]
    refine ih _ (fun j a b => ?_) (fun j a => ?_) ?_ ?_ ?_ (fun i a j b => ?_)
    · rw [if_neg (fun q => absurd q.1 (by decide))]; exact g2 j a b
    · rw [if_neg (fun q => absurd q.1 (by decide))]; exact g3 j a
    · rw [if_neg (fun q => absurd q.1 (by decide))]; exact h4
    · rw [if_neg (fun q => absurd q.1 (by decide))]; exact h5
    · rw [if_neg (fun q => absurd q.1 (by decide))]; exact h6
    · by_cases hi : i = n
      · subst hi
        rw [if_pos ⟨rfl, rfl, b⟩]
        rfl
      · rw [if_neg (fun q => hi q.2.1)]
        exact g7 i (by omega) j b
theorem T_St_reportSick {x : Int32} (hB : Bd N) (h0 : ¬ (¬ x < 0 ∧ ¬ N 2 0 5 ≤ x) → P (-1) (wr m k N)) (h1 : ∀ c, c < nC N → x = nI c → ¬ N 8 c 4 = 0 → P (-5) (wr m k N)) (h2 : ∀ c, c < nC N → x = nI c → N 8 c 4 = 0 → P (nI (cnt (fun j => ¬ nset N 8 c 4 1 8 j 4 = 0) (nC N))) (wr m k (nset N 8 c 4 1))) : RunI g h_St_reportSick [vO 2 k 0, vI x] (wr m k N) P := by
  have hn := hB.2.1.1
  have h24 := hB.2.1.2
  refine RunI.ofGo rfl rfl (b_St_reportSick_0 (T_St_hasCarer ?_))
  simp only [b2i_eq0, Decidable.not_not]
  refine ⟨fun a => ?_, fun a => qi (h0 a)⟩
  rw [hn] at a
  obtain ⟨c, hc, rfl⟩ := (hasG (by omega)).mp a
  have e := nI_clamp (n := c) (by omega)
  have hin := vp_in_nI (n := c) (N := 13) (by omega) (by omega)
  simp only [e, wr_8, ms_8]
  refine ⟨hin, fun b => ⟨hin, Or.inr trivial, ?_⟩, fun b => qi (h1 c hc rfl b)⟩
  have hq := h2 c hc rfl b
  generalize hM : nset N 8 c 4 1 = M at hq ⊢
  have hMn : M 2 0 5 = nI (nC N) := by rw [← hM, ns_t (by decide), hn]
  generalize nC N = n at hq hMn h24
  refine loopN (G := fun j => Go g h_St_reportSick (QI P) 39 [(0, vO 2 k 0), (2, vI (nI (cnt (fun j => ¬ M 8 j 4 = 0) j))), (3, vI (nI j))] [] (wr m k M)) n ?_ ?_ 0 (Nat.zero_le _)
  · exact b_St_reportSick_39 ⟨fun _ => qi hq, fun h => absurd (by rw [wr_2, hMn]; exact le_self _) h⟩
  · intro j hj ih
    have hcj := nI_clamp (n := j) (by omega)
    have hinj := vp_in_nI (n := j) (N := 13) (by omega) (by omega)
    refine b_St_reportSick_39 ⟨fun h => absurd h (by rw [wr_2, hMn]; exact nI_ge hj (by omega)), fun _ => ⟨hinj, ?_⟩⟩
    rw [hcj, wr_8]
    refine ⟨fun h1 => ?_, fun h1 => ?_⟩
    · simp only [cnt_f (p := fun j => ¬ M 8 j 4 = 0) (fun q => q h1), nI_succ] at ih
      exact ih
    · simp only [cnt_t (p := fun j => ¬ M 8 j 4 = 0) h1, nI_succ] at ih
      exact ih
end CP
