/-! A MEMORY WITH A STATE WRITTEN IN -/
def wr (m : Mm) (k : Nat) (N : Nu) : Mm := fun o j => if h : o.2.1 = k ∧ o.1 < 10 then N ⟨o.1, h.2⟩ o.2.2 j else m o j
def nset (N : Nu) (t : Fin 10) (i j : Nat) (x : Int32) : Nu := fun t' i' j' => if t' = t ∧ i' = i ∧ j' = j then x else N t' i' j'
theorem nset_ap (N : Nu) (t : Fin 10) (i j : Nat) (x : Int32) (t' : Fin 10) (i' j' : Nat) : nset N t i j x t' i' j' = if t' = t ∧ i' = i ∧ j' = j then x else N t' i' j' := rfl
section WR
variable {m : Mm} {k : Nat} {N : Nu}
theorem wr_in {t : Nat} (ht : t < 10) (i j : Nat) : wr m k N (t, k, i) j = N ⟨t, ht⟩ i j := dif_pos ⟨rfl, ht⟩
theorem wr_2 (i j : Nat) : wr m k N (2, k, i) j = N 2 i j := wr_in (by decide) i j
theorem wr_3 (i j : Nat) : wr m k N (3, k, i) j = N 3 i j := wr_in (by decide) i j
theorem wr_7 (i j : Nat) : wr m k N (7, k, i) j = N 7 i j := wr_in (by decide) i j
theorem wr_8 (i j : Nat) : wr m k N (8, k, i) j = N 8 i j := wr_in (by decide) i j
theorem wr_9 (i j : Nat) : wr m k N (9, k, i) j = N 9 i j := wr_in (by decide) i j
theorem wr_ne {t k' i : Nat} (h : k' ≠ k) : wr m k N (t, k', i) = m (t, k', i) := by
  funext j
  exact dif_neg (fun q => h q.1)
theorem wr_big {t k' i : Nat} (h : ¬ t < 10) : wr m k N (t, k', i) = m (t, k', i) := by
  funext j
  exact dif_neg (fun q => h q.2)
theorem rd_wr : rd (wr m k N) k = N := by
  funext t i j
  exact dif_pos ⟨rfl, t.isLt⟩
theorem rd_ne {k' : Nat} (h : k' ≠ k) : rd (wr m k N) k' = rd m k' := by
  funext t i j
  exact dif_neg (fun q => h q.1)
theorem wr_wr {N' : Nu} : wr (wr m k N) k N' = wr m k N' := by
  funext o j
  by_cases h : o.2.1 = k ∧ o.1 < 10
  · unfold wr
    rw [dif_pos h, dif_pos h]
  · unfold wr
    rw [dif_neg h, dif_neg h, dif_neg h]
theorem wr_rd : wr m k (rd m k) = m := by
  funext o j
  obtain ⟨t, k', i⟩ := o
  by_cases h : k' = k ∧ t < 10
  · obtain ⟨rfl, ht⟩ := h
    exact dif_pos ⟨rfl, ht⟩
  · exact dif_neg h
theorem wr_mset {t : Nat} (ht : t < 10) {i j : Nat} {x : Int32} : mset (wr m k N) t k i j x = wr m k (nset N ⟨t, ht⟩ i j x) := by
  funext o j'
  by_cases h : o = (t, k, i)
  · subst h
    rw [mset_at, wr_in ht, nset_ap]
    unfold upd
    by_cases hj : j' = j
    · rw [if_pos hj, if_pos ⟨rfl, rfl, hj⟩]
    · rw [if_neg hj, if_neg (fun q => hj q.2.2), wr_in ht]
  · rw [mset_ne _ _ _ _ _ _ h]
    obtain ⟨t', k', i'⟩ := o
    by_cases h2 : k' = k ∧ t' < 10
    · obtain ⟨rfl, ht'⟩ := h2
      rw [wr_in ht', wr_in ht', nset_ap, if_neg]
      rintro ⟨a, b, -⟩
      exact h (by rw [Fin.mk.injEq] at a; rw [a, b])
    · show dite _ _ _ = dite _ _ _
      rw [dif_neg h2, dif_neg h2]
theorem ms_2 {i j : Nat} {x : Int32} : mset (wr m k N) 2 k i j x = wr m k (nset N 2 i j x) := wr_mset (by decide)
theorem ms_3 {i j : Nat} {x : Int32} : mset (wr m k N) 3 k i j x = wr m k (nset N 3 i j x) := wr_mset (by decide)
theorem ms_7 {i j : Nat} {x : Int32} : mset (wr m k N) 7 k i j x = wr m k (nset N 7 i j x) := wr_mset (by decide)
theorem ms_8 {i j : Nat} {x : Int32} : mset (wr m k N) 8 k i j x = wr m k (nset N 8 i j x) := wr_mset (by decide)
theorem ms_9 {i j : Nat} {x : Int32} : mset (wr m k N) 9 k i j x = wr m k (nset N 9 i j x) := wr_mset (by decide)
end WR
/-- steps, one for each of the first j -/
def runN (f : Nat → Nu → Nu) (N : Nu) : Nat → Nu
  | 0 => N
  | j + 1 => f j (runN f N j)
theorem runN_inv {f : Nat → Nu → Nu} {N : Nu} {I : Nu → Prop} (h0 : I N) (hs : ∀ j M, I M → I (f j M)) : ∀ j, I (runN f N j)
  | 0 => h0
  | j + 1 => hs j _ (runN_inv h0 hs j)
/-- the same counts -/
def Sm (N M : Nu) : Prop := M 2 0 4 = N 2 0 4 ∧ M 2 0 5 = N 2 0 5 ∧ M 2 0 6 = N 2 0 6
theorem Sm.rfl' {N : Nu} : Sm N N := ⟨rfl, rfl, rfl⟩
theorem Sm.nR {N M : Nu} (h : Sm N M) : nR M = nR N := by show (M 2 0 4).toNatClampNeg = _; rw [h.1]
theorem Sm.nC {N M : Nu} (h : Sm N M) : nC M = nC N := by show (M 2 0 5).toNatClampNeg = _; rw [h.2.1]
theorem Sm.nK {N M : Nu} (h : Sm N M) : nK M = nK N := by show (M 2 0 6).toNatClampNeg = _; rw [h.2.2]
theorem Sm.bd {N M : Nu} (h : Sm N M) (hB : Bd N) : Bd M := by
  unfold Bd
  rw [h.nR, h.nC, h.nK, h.1, h.2.1, h.2.2]
  exact hB
theorem Sm.trans {N M L : Nu} (h : Sm N M) (h2 : Sm M L) : Sm N L := ⟨h2.1.trans h.1, h2.2.1.trans h.2.1, h2.2.2.trans h.2.2⟩
theorem Sm.ns {N M : Nu} (h : Sm N M) {t : Fin 10} {i j : Nat} {x : Int32} (hn : ¬ (t = 2 ∧ i = 0 ∧ (j = 4 ∨ j = 5 ∨ j = 6))) : Sm N (nset M t i j x) := by
  refine ⟨?_, ?_, ?_⟩
  · rw [nset_ap, if_neg, h.1]; rintro ⟨a, b, c⟩; exact hn ⟨a.symm, b.symm, Or.inl c.symm⟩
  · rw [nset_ap, if_neg, h.2.1]; rintro ⟨a, b, c⟩; exact hn ⟨a.symm, b.symm, Or.inr (Or.inl c.symm)⟩
  · rw [nset_ap, if_neg, h.2.2]; rintro ⟨a, b, c⟩; exact hn ⟨a.symm, b.symm, Or.inr (Or.inr c.symm)⟩
theorem Sm.nt {N M : Nu} (h : Sm N M) {t : Fin 10} {i j : Nat} {x : Int32} (ht : ¬ t = 2) : Sm N (nset M t i j x) := h.ns (fun q => ht q.1)
theorem Sm.n2 {N M : Nu} (h : Sm N M) {j : Nat} {x : Int32} (hj : 7 ≤ j) : Sm N (nset M 2 0 j x) := h.ns (fun q => by omega)
theorem ns_t {N : Nu} {t t' : Fin 10} {i j i' j' : Nat} {x : Int32} (h : ¬ t' = t) : nset N t i j x t' i' j' = N t' i' j' := if_neg (fun q => h q.1)
theorem ns_i {N : Nu} {t t' : Fin 10} {i j i' j' : Nat} {x : Int32} (h : ¬ i' = i) : nset N t i j x t' i' j' = N t' i' j' := if_neg (fun q => h q.2.1)
theorem ns_j {N : Nu} {t t' : Fin 10} {i j i' j' : Nat} {x : Int32} (h : ¬ j' = j) : nset N t i j x t' i' j' = N t' i' j' := if_neg (fun q => h q.2.2)
theorem ns_s {N : Nu} {t : Fin 10} {i j : Nat} {x : Int32} : nset N t i j x t i j = x := if_pos ⟨rfl, rfl, rfl⟩
