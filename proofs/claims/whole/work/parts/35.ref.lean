/-! THE REFERENCE: its row of numbers, against a state -/
def wv (m : Mm) (v : Nat → Int32) : Mm := fun o => if o = (18, 0, 0) then v else m o
/-- where a cell of a state stands in the row -/
def ixF (t : Fin 10) (i j : Nat) : Nat := if t = 3 then j else if t = 2 then (if j = 4 then 6 else if j = 5 then 7 else if j = 6 then 8 else if j = 7 then 5 else if j = 8 then 12 else j) else if t = 7 then 13 + 4 * i + j else if t = 8 then 33 + 5 * i + j else 93 + 14 * i + j
/-- the cells that stand there -/
def Bx (t : Fin 10) (i j : Nat) : Prop := (t = 2 ∧ i = 0 ∧ 4 ≤ j ∧ j < 12) ∨ (t = 3 ∧ i = 0 ∧ j < 5) ∨ (t = 7 ∧ i < 5 ∧ j < 4) ∨ (t = 8 ∧ i < 12 ∧ j < 5) ∨ (t = 9 ∧ i < 24 ∧ j < 14)
theorem ixF_lt {t : Fin 10} {i j : Nat} (h : Bx t i j) : ixF t i j < 429 := by
  rcases h with ⟨rfl, rfl, a, b⟩ | ⟨rfl, rfl, a⟩ | ⟨rfl, a, b⟩ | ⟨rfl, a, b⟩ | ⟨rfl, a, b⟩ <;> simp only [ixF, Fin.reduceEq, if_true, if_false, reduceIte] <;> (try (repeat' split)) <;> omega
theorem ix_2a : ∀ a, a < 8 → 5 ≤ ixF 2 0 (4 + a) ∧ ixF 2 0 (4 + a) ≤ 12 := by decide +kernel
theorem ix_2b : ∀ a, a < 8 → ∀ b, b < 8 → ixF 2 0 (4 + a) = ixF 2 0 (4 + b) → a = b := by decide +kernel
theorem ix_2 (j : Nat) (hj : j < 12) (h4 : 4 ≤ j) (j' : Nat) (hj' : j' < 12) (h4' : 4 ≤ j') : (5 ≤ ixF 2 0 j ∧ ixF 2 0 j ≤ 12) ∧ (ixF 2 0 j = ixF 2 0 j' → j = j') := by
  obtain ⟨a, rfl⟩ := Nat.exists_eq_add_of_le h4
  obtain ⟨b, rfl⟩ := Nat.exists_eq_add_of_le h4'
  refine ⟨ix_2a a (by omega), fun e => ?_⟩
  rw [ix_2b a (by omega) b (by omega) e]
theorem ixF_inj {t t' : Fin 10} {i j i' j' : Nat} (h : Bx t i j) (h' : Bx t' i' j') (e : ixF t i j = ixF t' i' j') : t = t' ∧ i = i' ∧ j = j' := by
  have e3 : ∀ j, ixF 3 0 j = j := fun _ => rfl
  have e7 : ∀ i j, ixF 7 i j = 13 + 4 * i + j := fun _ _ => rfl
  have e8 : ∀ i j, ixF 8 i j = 33 + 5 * i + j := fun _ _ => rfl
  have e9 : ∀ i j, ixF 9 i j = 93 + 14 * i + j := fun _ _ => rfl
  rcases h with ⟨rfl, rfl, a, b⟩ | ⟨rfl, rfl, a⟩ | ⟨rfl, a, b⟩ | ⟨rfl, a, b⟩ | ⟨rfl, a, b⟩
  · rcases h' with ⟨rfl, rfl, a', b'⟩ | ⟨rfl, rfl, a'⟩ | ⟨rfl, a', b'⟩ | ⟨rfl, a', b'⟩ | ⟨rfl, a', b'⟩
    · exact ⟨rfl, rfl, (ix_2 j b a j' b' a').2 e⟩
    · have := (ix_2 j b a j b a).1; rw [e3] at e; omega
    · have := (ix_2 j b a j b a).1; rw [e7] at e; omega
    · have := (ix_2 j b a j b a).1; rw [e8] at e; omega
    · have := (ix_2 j b a j b a).1; rw [e9] at e; omega
  · rw [e3] at e
    rcases h' with ⟨rfl, rfl, a', b'⟩ | ⟨rfl, rfl, a'⟩ | ⟨rfl, a', b'⟩ | ⟨rfl, a', b'⟩ | ⟨rfl, a', b'⟩
    · have := (ix_2 j' b' a' j' b' a').1; omega
    · rw [e3] at e; exact ⟨rfl, rfl, e⟩
    · rw [e7] at e; omega
    · rw [e8] at e; omega
    · rw [e9] at e; omega
  · rw [e7] at e
    rcases h' with ⟨rfl, rfl, a', b'⟩ | ⟨rfl, rfl, a'⟩ | ⟨rfl, a', b'⟩ | ⟨rfl, a', b'⟩ | ⟨rfl, a', b'⟩
    · have := (ix_2 j' b' a' j' b' a').1; omega
    · rw [e3] at e; omega
    · rw [e7] at e; exact ⟨rfl, by omega, by omega⟩
    · rw [e8] at e; omega
    · rw [e9] at e; omega
  · rw [e8] at e
    rcases h' with ⟨rfl, rfl, a', b'⟩ | ⟨rfl, rfl, a'⟩ | ⟨rfl, a', b'⟩ | ⟨rfl, a', b'⟩ | ⟨rfl, a', b'⟩
    · have := (ix_2 j' b' a' j' b' a').1; omega
    · rw [e3] at e; omega
    · rw [e7] at e; omega
    · rw [e8] at e; exact ⟨rfl, by omega, by omega⟩
    · rw [e9] at e; omega
  · rw [e9] at e
    rcases h' with ⟨rfl, rfl, a', b'⟩ | ⟨rfl, rfl, a'⟩ | ⟨rfl, a', b'⟩ | ⟨rfl, a', b'⟩ | ⟨rfl, a', b'⟩
    · have := (ix_2 j' b' a' j' b' a').1; omega
    · rw [e3] at e; omega
    · rw [e7] at e; omega
    · rw [e8] at e; omega
    · rw [e9] at e; exact ⟨rfl, by omega, by omega⟩
def Rl (D : Fin 10 → Nat → Nat → Prop) (N : Nu) (v : Nat → Int32) : Prop := ∀ t i j, Bx t i j → D t i j → v (ixF t i j) = N t i j
def Lp (N : Nu) (t : Fin 10) (i j : Nat) : Prop := Lv N t i j ∧ (t = 9 → j = 4 → N 9 i 3 = 1)
def RelR (N : Nu) (v : Nat → Int32) : Prop := Rl (Lp N) N v
theorem Rl.mono {D D' : Fin 10 → Nat → Nat → Prop} {N : Nu} {v : Nat → Int32} (h : Rl D N v) (hd : ∀ t i j, Bx t i j → D' t i j → D t i j) : Rl D' N v := fun t i j hb h2 => h t i j hb (hd t i j hb h2)
theorem Rl.set {D : Fin 10 → Nat → Nat → Prop} {N : Nu} {v : Nat → Int32} (h : Rl D N v) {t : Fin 10} {i j : Nat} (hb : Bx t i j) (x : Int32) : Rl (fun t' i' j' => D t' i' j' ∨ (t' = t ∧ i' = i ∧ j' = j)) (nset N t i j x) (upd v (ixF t i j) x) := by
  intro t' i' j' hb' hd
  unfold upd
  rw [nset_ap]
  by_cases e : ixF t' i' j' = ixF t i j
  · have e2 := ixF_inj hb' hb e
    rw [if_pos e, if_pos e2]
  · rw [if_neg e, if_neg (fun q => e (by rw [q.1, q.2.1, q.2.2]))]
    rcases hd with hd | hd
    · exact h t' i' j' hb' hd
    · exact absurd (by rw [hd.1, hd.2.1, hd.2.2]) e
theorem RelR.set {N : Nu} {v : Nat → Int32} (h : RelR N v) {t : Fin 10} {i j : Nat} (hb : Bx t i j) (x : Int32) (h2 : t = 2 → 7 ≤ j) (h3 : ¬ (t = 9 ∧ j = 3)) : RelR (nset N t i j x) (upd v (ixF t i j) x) := by
  refine (Rl.set h hb x).mono fun t' i' j' _ hl => Or.inl ?_
  have hs : Sm N (nset N t i j x) := Sm.rfl'.ns (fun q => by have := h2 q.1; omega)
  refine ⟨?_, fun a b => ?_⟩
  · have := hl.1
    unfold Lv at this ⊢
    rwa [hs.nR, hs.nC, hs.nK] at this
  · have := hl.2 a b
    rwa [nset_ap, if_neg (fun q => h3 ⟨q.1.symm, q.2.2.symm⟩)] at this
/-- a child gets a state in which it has no room -/
theorem RelR.st {N : Nu} {v : Nat → Int32} (h : RelR N v) {c : Nat} (hc : c < 24) {x : Int32} (hx : ¬ x = 1) : RelR (nset N 9 c 3 x) (upd v (93 + 14 * c + 3) x) := by
  have hb : Bx 9 c 3 := Or.inr (Or.inr (Or.inr (Or.inr ⟨rfl, hc, by decide⟩)))
  refine (Rl.set h hb x).mono fun t' i' j' _ hl => Or.inl ?_
  have hs : Sm N (nset N 9 c 3 x) := Sm.rfl'.nt (by decide)
  refine ⟨?_, fun a b => ?_⟩
  · have := hl.1
    unfold Lv at this ⊢
    rwa [hs.nR, hs.nC, hs.nK] at this
  · have := hl.2 a b
    rw [nset_ap] at this
    split at this
    · exact absurd this hx
    · exact this
/-- the room of a child that isn't placed is nobody's -/
theorem RelR.rm {N : Nu} {v : Nat → Int32} (h : RelR N v) {c : Nat} {x : Int32} (hs : ¬ N 9 c 3 = 1) : RelR (nset N 9 c 4 x) v := by
  intro t i j hb hl
  have hsm : Sm N (nset N 9 c 4 x) := Sm.rfl'.nt (by decide)
  have h3 : nset N 9 c 4 x 9 i 3 = N 9 i 3 := ns_j (by decide)
  by_cases e : t = 9 ∧ i = c ∧ j = 4
  · obtain ⟨rfl, rfl, rfl⟩ := e
    have := hl.2 rfl rfl
    rw [h3] at this
    exact absurd this hs
  · rw [nset_ap, if_neg e]
    refine h t i j hb ⟨?_, fun a b => ?_⟩
    · have := hl.1
      unfold Lv at this ⊢
      rwa [hsm.nR, hsm.nC, hsm.nK] at this
    · have := hl.2 a b
      rwa [h3] at this
theorem RelR.s {N : Nu} {v : Nat → Int32} (h : RelR N v) {j : Nat} (hj : j < 5) : v j = N 3 0 j := h 3 0 j (Or.inr (Or.inl ⟨rfl, rfl, hj⟩)) ⟨Or.inr (Or.inl ⟨rfl, rfl, hj⟩), fun a => absurd a (by decide)⟩
theorem RelR.a {N : Nu} {v : Nat → Int32} (h : RelR N v) {j : Nat} (h4 : 4 ≤ j) (hj : j < 12) : v (ixF 2 0 j) = N 2 0 j := h 2 0 j (Or.inl ⟨rfl, rfl, h4, hj⟩) ⟨Or.inl ⟨rfl, rfl, h4, hj⟩, fun a => absurd a (by decide)⟩
theorem RelR.v5 {N : Nu} {v : Nat → Int32} (h : RelR N v) : v 5 = N 2 0 7 := h.a (j := 7) (by decide) (by decide)
theorem RelR.v6 {N : Nu} {v : Nat → Int32} (h : RelR N v) : v 6 = N 2 0 4 := h.a (j := 4) (by decide) (by decide)
theorem RelR.v7 {N : Nu} {v : Nat → Int32} (h : RelR N v) : v 7 = N 2 0 5 := h.a (j := 5) (by decide) (by decide)
theorem RelR.v8 {N : Nu} {v : Nat → Int32} (h : RelR N v) : v 8 = N 2 0 6 := h.a (j := 6) (by decide) (by decide)
theorem RelR.v9 {N : Nu} {v : Nat → Int32} (h : RelR N v) : v 9 = N 2 0 9 := h.a (j := 9) (by decide) (by decide)
theorem RelR.v10 {N : Nu} {v : Nat → Int32} (h : RelR N v) : v 10 = N 2 0 10 := h.a (j := 10) (by decide) (by decide)
theorem RelR.v11 {N : Nu} {v : Nat → Int32} (h : RelR N v) : v 11 = N 2 0 11 := h.a (j := 11) (by decide) (by decide)
theorem RelR.v12 {N : Nu} {v : Nat → Int32} (h : RelR N v) : v 12 = N 2 0 8 := h.a (j := 8) (by decide) (by decide)
theorem RelR.r {N : Nu} {v : Nat → Int32} (h : RelR N v) (hB : Bd N) {i j : Nat} (hi : i < nR N) (hj : j < 4) : v (13 + 4 * i + j) = N 7 i j := h 7 i j (Or.inr (Or.inr (Or.inl ⟨rfl, by have := hB.1.2; omega, hj⟩))) ⟨Or.inr (Or.inr (Or.inl ⟨rfl, hi, hj⟩)), fun a => absurd a (by decide)⟩
theorem RelR.c {N : Nu} {v : Nat → Int32} (h : RelR N v) (hC : nC N ≤ 12) {i j : Nat} (hi : i < nC N) (hj : j < 5) : v (33 + 5 * i + j) = N 8 i j := h 8 i j (Or.inr (Or.inr (Or.inr (Or.inl ⟨rfl, by omega, hj⟩)))) ⟨Or.inr (Or.inr (Or.inr (Or.inl ⟨rfl, hi, hj⟩))), fun a => absurd a (by decide)⟩
theorem RelR.k {N : Nu} {v : Nat → Int32} (h : RelR N v) (hB : Bd N) {i j : Nat} (hi : i < nK N) (hj : j < 14) (h4 : j = 4 → N 9 i 3 = 1) : v (93 + 14 * i + j) = N 9 i j := h 9 i j (Or.inr (Or.inr (Or.inr (Or.inr ⟨rfl, by have := hB.2.2.2; omega, hj⟩)))) ⟨Or.inr (Or.inr (Or.inr (Or.inr ⟨rfl, hi, hj⟩))), fun _ => h4⟩
/-- the row holds just what is live: another state with the same live cells -/
theorem RelR.lq {N M : Nu} {v : Nat → Int32} (h : RelR N v) (hL : Lq N M) : RelR M v := by
  intro t i j hb hl
  have hlv := hL.lv.mp hl.1
  rw [hL t i j hlv]
  refine h t i j hb ⟨hlv, fun a b => ?_⟩
  have := hl.2 a b
  subst a
  rcases hlv with ⟨q, -⟩ | ⟨q, -⟩ | ⟨q, -⟩ | ⟨q, -⟩ | ⟨-, q, -⟩
  · exact absurd q (by decide)
  · exact absurd q (by decide)
  · exact absurd q (by decide)
  · exact absurd q (by decide)
  · rwa [hL.c9 q (by decide)] at this
def Kd (N : Nu) : Prop := ∀ i, i < nK N → (N 9 i 3 = 0 ∨ N 9 i 3 = 1 ∨ N 9 i 3 = 2) ∧ (N 9 i 6 = 0 ∨ N 9 i 6 = 1) ∧ (¬ N 9 i 3 = 1 → N 9 i 6 = 0 ∧ N 9 i 8 = -6) ∧ (N 9 i 8 = -6 ∨ ∃ s, s < 10 ∧ N 9 i 8 = nI s) ∧ (∀ j, j < 32 → Has (N 9 i 5) (nI j) → j < 10) ∧ ¬ N 9 i 13 < 0
/-- what holds of every state -/
def Ok (N : Nu) : Prop := (Bd N ∧ nC N ≤ 12) ∧ Rk N ∧ RB N ∧ ((∀ i, i < nC N → ¬ N 8 i 3 < 0 ∧ (N 8 i 4 = 0 ∨ N 8 i 4 = 1)) ∧ (∀ r, r < nR N → ¬ N 7 r 1 < 0)) ∧ Kd N ∧ ∀ j, j < 5 → ¬ N 3 0 j < 0
theorem b2i_congr {p q : Prop} [Decidable p] [Decidable q] (h : p ↔ q) : b2i p = b2i q := by
  by_cases hp : p
  · rw [b2i_t hp, b2i_t (h.mp hp)]
  · rw [b2i_f hp, b2i_f (fun a => hp (h.mpr a))]
theorem pred_lt {n : Nat} (hn : n < 2 ^ 30) {x : Int32} : nI n - 1 < x ↔ nI n ≤ x := by
  have h := pk_sub_toInt (a := n) (b := 1) hn (by decide)
  have h2 := nI_toInt (n := n) (by omega)
  rw [Int32.lt_iff_toInt_lt, Int32.le_iff_toInt_le, show (1 : Int32) = nI 1 from rfl, h, h2]
  omega
theorem sub1_lt {x y : Int32} (hx : ¬ x < 0) : x - 1 < y ↔ x ≤ y := by
  obtain ⟨n, hn, rfl⟩ := nI_of hx
  rcases n with _ | n
  · rw [Int32.lt_iff_toInt_lt, Int32.le_iff_toInt_le, show nI 0 - 1 = -1 from rfl, show nI 0 = 0 from rfl, Int32.toInt_zero, show (-1 : Int32).toInt = -1 from rfl]
    omega
  · rw [nI_pred, Int32.lt_iff_toInt_lt, Int32.le_iff_toInt_le, nI_toInt (by omega), nI_toInt hn]
    omega
theorem wv_at {m : Mm} {v : Nat → Int32} : wv m v (18, 0, 0) = v := if_pos rfl
theorem wv_ne {m : Mm} {v : Nat → Int32} {o : Rf} (h : ¬ o = (18, 0, 0)) : wv m v o = m o := if_neg h
theorem wv_wv {m : Mm} {v w : Nat → Int32} : wv (wv m v) w = wv m w := by
  funext o
  unfold wv
  split <;> rfl
theorem wv_id {m : Mm} : wv m (m (18, 0, 0)) = m := by
  funext o
  unfold wv
  split
  · rename_i h; rw [h]
  · rfl
theorem mv {m : Mm} {v : Nat → Int32} {j : Nat} {x : Int32} : mset (wv m v) 18 0 0 j x = wv m (upd v j x) := by
  funext o
  by_cases h : o = (18, 0, 0)
  · subst h
    rw [mset_at, wv_at, wv_at]
  · rw [mset_ne _ _ _ _ _ _ h, wv_ne h, wv_ne h]
theorem ix3 (b a i c : Nat) : (nI b + nI a * nI i) + nI c = nI (b + a * i + c) := by rw [pk_mul, nI_add, nI_add]
theorem ix2 (b a i : Nat) : nI b + nI a * nI i = nI (b + a * i) := by rw [pk_mul, nI_add]
section RF
variable {g : Wg} {m : Mm} {v : Nat → Int32} {P : Int32 → Mm → Prop} {PV : Mm → Prop} {N : Nu}
theorem S_Md_in {x a b : Int32} {mem : Mm} (hp : P (b2i (¬ x < a ∧ ¬ b < x)) mem) : RunI g h_Md_in [vI x, vI a, vI b] mem P := by
  refine RunI.ofGo rfl rfl (b_Md_in_0 ?_)
  repeat' first | (apply And.intro) | (intro _) | (apply qi)
  all_goals first | decide | (simpa [b2i, *] using hp)
theorem S_Md_has {a b : Int32} {mem : Mm} (hp : P (b2i (Has a b)) mem) : RunI g h_Md_has [vI a, vI b] mem P := by
  refine RunI.ofGo rfl rfl (b_Md_has_0 ?_)
  repeat' first | (apply And.intro) | (intro _) | (apply qi)
  all_goals first | decide | (simpa [b2i, Has, *] using hp)
theorem S_Md_of {c j : Nat} (hc : c < 24) (hj : j < 14) (hp : P (v (93 + 14 * c + j)) (wv m v)) : RunI g h_Md_of [vO 17 0 0, vI (nI c), vI (nI j)] (wv m v) P := by
  have e : ((93 + (14 * nI c)) + nI j : Int32) = nI (93 + 14 * c + j) := ix3 93 14 c j
  refine RunI.ofGo rfl rfl (b_Md_of_0 ?_)
  rw [e, nI_clamp (by omega), wv_at]
  exact ⟨vp_in_nI (by omega) (by omega), qi hp⟩
theorem S_Md_put3 {c j : Nat} {x : Int32} (hc : c < 24) (hj : j < 14) (hp : PV (wv m (upd v (93 + 14 * c + j) x))) : RunV g h_Md_put3 [vO 17 0 0, vI (nI c), vI (nI j), vI x] (wv m v) PV := by
  have e : ((93 + (14 * nI c)) + nI j : Int32) = nI (93 + 14 * c + j) := ix3 93 14 c j
  refine RunV.ofGo rfl rfl (b_Md_put3_0 ?_)
  rw [e, nI_clamp (by omega), mv]
  exact ⟨vp_in_nI (by omega) (by omega), qv hp⟩
theorem S_Md_isSession {x : Int32} {mem : Mm} (hp : P (b2i (¬ x < 0 ∧ ¬ 9 < x)) mem) : RunI g h_Md_isSession [vI x] mem P := by
  refine RunI.ofGo rfl rfl (b_Md_isSession_0 (S_Md_in ⟨b2i_or _, qi hp⟩))
theorem S_Md_isRoom {x : Int32} (hR : RelR N v) (hB : Bd N) (hp : P (b2i (¬ x < 0 ∧ ¬ N 2 0 4 ≤ x)) (wv m v)) : RunI g h_Md_isRoom [vO 17 0 0, vI x] (wv m v) P := by
  refine RunI.ofGo rfl rfl (b_Md_isRoom_0 ⟨vp_in_nI (n := 6) (by decide) (by decide), S_Md_in ⟨b2i_or _, qi ?_⟩⟩)
  have h5 := hB.1.2
  rw [wv_at, hR.v6, hB.1.1]
  rw [hB.1.1] at hp
  rwa [b2i_congr (q := ¬ x < 0 ∧ ¬ nI (nR N) ≤ x) (by rw [pred_lt (by omega)])]
theorem S_Md_isCarer {x : Int32} (hR : RelR N v) (hB : Bd N) (hp : P (b2i (¬ x < 0 ∧ ¬ N 2 0 5 ≤ x)) (wv m v)) : RunI g h_Md_isCarer [vO 17 0 0, vI x] (wv m v) P := by
  refine RunI.ofGo rfl rfl (b_Md_isCarer_0 ⟨vp_in_nI (n := 7) (by decide) (by decide), S_Md_in ⟨b2i_or _, qi ?_⟩⟩)
  have h5 := hB.2.1.2
  rw [wv_at, hR.v7, hB.2.1.1]
  rw [hB.2.1.1] at hp
  rwa [b2i_congr (q := ¬ x < 0 ∧ ¬ nI (nC N) ≤ x) (by rw [pred_lt (by omega)])]
theorem S_Md_isChild {x : Int32} (hR : RelR N v) (hB : Bd N) (hp : P (b2i (¬ x < 0 ∧ ¬ N 2 0 6 ≤ x)) (wv m v)) : RunI g h_Md_isChild [vO 17 0 0, vI x] (wv m v) P := by
  refine RunI.ofGo rfl rfl (b_Md_isChild_0 ⟨vp_in_nI (n := 8) (by decide) (by decide), S_Md_in ⟨b2i_or _, qi ?_⟩⟩)
  have h5 := hB.2.2.2
  rw [wv_at, hR.v8, hB.2.2.1]
  rw [hB.2.2.1] at hp
  rwa [b2i_congr (q := ¬ x < 0 ∧ ¬ nI (nK N) ≤ x) (by rw [pred_lt (by omega)])]
theorem S_Md_isShift {d f t : Int32} {mem : Mm} (hp : P (b2i (ShiftB d f t)) mem) : RunI g h_Md_isShift [vI d, vI f, vI t] mem P := by
  refine RunI.ofGo rfl rfl (b_Md_isShift_0 (S_Md_in ?_))
  simp only [b2i_eq0, Decidable.not_not]
  refine ⟨fun a => ⟨by decide, qi ?_⟩, fun a => S_Md_in ?_⟩
  · rwa [b2i_f (fun q => a q.1)] at hp
  simp only [b2i_eq0, Decidable.not_not]
  refine ⟨fun b => ⟨by decide, qi ?_⟩, fun b => S_Md_in ?_⟩
  · rwa [b2i_f (fun q => b q.2.1)] at hp
  have hft : t < f + 1 ↔ t ≤ f := by
    obtain ⟨n, hn, rfl⟩ := nI_of2 (M := 9) (n := 9) (by decide) b.1 (Int32.not_lt.mp b.2)
    rw [nI_1, Int32.lt_iff_toInt_lt, Int32.le_iff_toInt_le, nI_toInt (by omega), nI_toInt (by omega)]
    omega
  simp only [b2i_eq0, Decidable.not_not, hft]
  refine ⟨fun c => ⟨by decide, qi ?_⟩, fun c => ⟨by decide, qi ?_⟩⟩
  · rwa [b2i_f (fun q => c ⟨q.2.2.1, q.2.2.2⟩)] at hp
  · rwa [b2i_t ⟨a, b, c.1, c.2⟩] at hp
theorem S_Md_isIn {c : Nat} {room : Int32} (hR : RelR N v) (hO : Ok N) (hc : c < nK N) (hp : P (b2i (N 9 c 3 = 1 ∧ N 9 c 4 = room)) (wv m v)) : RunI g h_Md_isIn [vO 17 0 0, vI (nI c), vI room] (wv m v) P := by
  have hB := hO.1.1
  have h24 := hB.2.2.2
  refine RunI.ofGo rfl rfl (b_Md_isIn_0 (S_Md_of (c := c) (j := 3) (by omega) (by decide) ?_))
  rw [hR.k hB hc (by decide) (fun q => absurd q (by decide))]
  refine ⟨fun a => ⟨by decide, qi ?_⟩, fun a => S_Md_of (c := c) (j := 4) (by omega) (by decide) ?_⟩
  · rwa [b2i_f (fun q => a q.1)] at hp
  · rw [hR.k hB hc (by decide) (fun _ => a)]
    refine ⟨fun b => ⟨by decide, qi ?_⟩, fun b => ⟨by decide, qi ?_⟩⟩
    · rwa [b2i_f (fun q => b q.2)] at hp
    · rwa [b2i_t ⟨a, b⟩] at hp
theorem inP_iff {c r : Nat} (hO : Ok N) (hc : c < nK N) (hr : r < 2 ^ 31) : (N 9 c 3 = 1 ∧ N 9 c 4 = nI r) ↔ N 9 c 4 = nI r := by
  refine ⟨fun q => q.2, fun q => ⟨?_, q⟩⟩
  by_cases h : N 9 c 3 = 1
  · exact h
  · have := ((hO.2.1 c hc).2 h).1
    rw [q] at this
    exact absurd this (nI_n6 hr)
theorem S_Md_carersAt {room sick : Int32} {s h : Nat} (hR : RelR N v) (hO : Ok N) (hs : s < 10) (hp : P (carersF N room (nI (s / 2)) (nI h) sick) (wv m v)) : RunI g h_Md_carersAt [vO 17 0 0, vI room, vI (nI s), vI (nI h), vI sick] (wv m v) P := by
  have hB := hO.1.1
  have h12 := hO.1.2
  have hn := hB.2.1.1
  unfold carersF at hp
  refine RunI.ofGo rfl rfl (b_Md_carersAt_0 ?_)
  refine loopN (G := fun j => Go g h_Md_carersAt (QI P) 6 [(0, vO 17 0 0), (1, vI room), (2, vI (nI s)), (3, vI (nI h)), (4, vI sick), (5, vI (nI (cnt (dutyP N room (nI (s / 2)) (nI h) sick) j))), (6, vI (nI j))] [] (wv m v)) (nC N) ?_ ?_ 0 (Nat.zero_le _)
  · refine b_Md_carersAt_6 ⟨vp_in_nI (n := 7) (by decide) (by decide), fun _ => qi hp, fun q => absurd ?_ q⟩
    rw [wv_at, hR.v7, hn]; exact le_self _
  · intro j hj ih
    have hT := cnt_t (p := dutyP N room (nI (s / 2)) (nI h) sick) (n := j)
    have hF := cnt_f (p := dutyP N room (nI (s / 2)) (nI h) sick) (n := j)
    have nx : ¬ dutyP N room (nI (s / 2)) (nI h) sick j → Go g h_Md_carersAt (QI P) 6 [(0, vO 17 0 0), (1, vI room), (2, vI (nI s)), (3, vI (nI h)), (4, vI sick), (5, vI (nI (cnt (dutyP N room (nI (s / 2)) (nI h) sick) j) + 0)), (6, vI (nI j + 1))] [] (wv m v) := by
      intro q
      rw [hF q, nI_succ] at ih
      rw [Int32.add_zero]
      exact ih
    have nt : dutyP N room (nI (s / 2)) (nI h) sick j → Go g h_Md_carersAt (QI P) 6 [(0, vO 17 0 0), (1, vI room), (2, vI (nI s)), (3, vI (nI h)), (4, vI sick), (5, vI (nI (cnt (dutyP N room (nI (s / 2)) (nI h) sick) j) + 1)), (6, vI (nI j + 1))] [] (wv m v) := by
      intro q
      rw [hT q, nI_succ, nI_succ] at ih
      exact ih
    have i0 : (33 + (5 * nI j) : Int32) = nI (33 + 5 * j + 0) := ix2 33 5 j
    have i1 : ((33 + (5 * nI j)) + 1 : Int32) = nI (33 + 5 * j + 1) := ix3 33 5 j 1
    have i2 : ((33 + (5 * nI j)) + 2 : Int32) = nI (33 + 5 * j + 2) := ix3 33 5 j 2
    have i3 : ((33 + (5 * nI j)) + 3 : Int32) = nI (33 + 5 * j + 3) := ix3 33 5 j 3
    have i4 : ((33 + (5 * nI j)) + 4 : Int32) = nI (33 + 5 * j + 4) := ix3 33 5 j 4
    refine b_Md_carersAt_6 ⟨vp_in_nI (n := 7) (by decide) (by decide), fun q => absurd q (by rw [wv_at, hR.v7, hn]; exact nI_ge hj (by omega)), fun _ => ?_⟩
    rw [i1, i2, i3, i4, i0, nI_clamp (by omega), nI_clamp (by omega), nI_clamp (by omega), nI_clamp (by omega), nI_clamp (by omega)]
    simp only [wv_at]
    have c0 := hR.c (j := 0) h12 hj (by decide)
    have c1 := hR.c (j := 1) h12 hj (by decide)
    have c2 := hR.c (j := 2) h12 hj (by decide)
    have c3 := hR.c (j := 3) h12 hj (by decide)
    have c4 := hR.c (j := 4) h12 hj (by decide)
    simp only [c0, c1, c4]
    have b4 : vp_in (nI (33 + 5 * j + 4)) 429 := vp_in_nI (by omega) (by omega)
    rw [show nI s / 2 = nI (s / 2) from pk_div (d := 2) (by omega) (by omega) (by omega)]
    have hto := (hO.2.2.2.1.1 j hj).1
    refine ⟨vp_in_nI (by omega) (by omega), fun a => ⟨fun _ => nx (fun q => a q.1), fun q => absurd trivial q⟩, fun a => ⟨vp_in_nI (by omega) (by omega), by decide, S_Md_has ?_⟩⟩
    simp only [b2i_eq0, Decidable.not_not, wv_at, c2, c3, c4]
    refine ⟨fun b => ⟨fun _ => nx (fun q => b q.2.2.1), fun q => absurd trivial q⟩, fun b => ⟨vp_in_nI (by omega) (by omega), vp_in_nI (by omega) (by omega), S_Md_in ?_⟩⟩
    simp only [b2i_eq0, Decidable.not_not, wv_at, c4]
    rw [sub1_lt hto]
    refine ⟨fun c => ⟨fun _ => nx (fun q => c q.2.2.2), fun q => absurd trivial q⟩, fun c => ⟨fun q => absurd q (by decide), fun _ => ⟨fun d => nt ⟨a, Or.inl d, b, c⟩, fun d => ⟨b4, fun e => nx (fun q => q.2.1.elim (fun z => z d) e), fun e => nt ⟨a, Or.inr e, b, c⟩⟩⟩⟩⟩
theorem S_Md_places {r s : Nat} {sick : Int32} (hR : RelR N v) (hO : Ok N) (hr : r < nR N) (hs : s < 10) (hp : P (placesF N r s sick) (wv m v)) : RunI g h_Md_places [vO 17 0 0, vI (nI r), vI (nI s), vI sick] (wv m v) P := by
  have hB := hO.1.1
  have h5 := hB.1.2
  have i2 : ((13 + (4 * nI r)) + 2 : Int32) = nI (13 + 4 * r + 2) := ix3 13 4 r 2
  have i3 : ((13 + (4 * nI r)) + 3 : Int32) = nI (13 + 4 * r + 3) := ix3 13 4 r 3
  refine RunI.ofGo rfl rfl (b_Md_places_0 ?_)
  rw [i2, nI_clamp (by omega), wv_at, hR.r hB hr (by decide)]
  refine ⟨vp_in_nI (by omega) (by omega), ?_⟩
  unfold placesF at hp
  refine loopN (G := fun j => Go g h_Md_places (QI P) 18 [(0, vO 17 0 0), (1, vI (nI r)), (2, vI (nI s)), (3, vI sick), (4, vI (plF N r (s / 2) (s % 2 * 5) sick j)), (5, vI (nI j))] [] (wv m v)) 5 ?_ ?_ 0 (Nat.zero_le _)
  · exact b_Md_places_18 ⟨fun _ => qi hp, fun q => absurd (by decide) q⟩
  · intro j hj ih
    refine b_Md_places_18 ⟨fun q => absurd q (nI_ge (b := 5) hj (by omega)), fun _ => ?_⟩
    rw [i3, nI_clamp (by omega), wv_at, hR.r hB hr (by decide)]
    rw [show nI s - nI s / 2 * 2 = nI (s % 2) from pk_rem (d := 2) (by omega) (by omega) (by omega), show nI (s % 2) * 5 = nI (s % 2 * 5) from pk_mul _ 5, nI_add]
    refine ⟨vp_in_nI (by omega) (by omega), by decide, S_Md_carersAt hR hO hs ?_⟩
    rw [nI_1]
    unfold plF at ih
    refine ⟨fun a => ?_, fun a => ?_⟩
    · rwa [if_neg (Int32.not_lt.mpr a)] at ih
    · rwa [if_pos (Int32.not_le.mp a)] at ih
theorem S_Md_taken {r : Nat} {s : Int32} (hR : RelR N v) (hO : Ok N) (hr : r < nR N) (hp : P (takenF N (nI r) s) (wv m v)) : RunI g h_Md_taken [vO 17 0 0, vI (nI r), vI s] (wv m v) P := by
  have hB := hO.1.1
  have hn := hB.2.2.1
  have h24 := hB.2.2.2
  have h5 := hB.1.2
  unfold takenF at hp
  refine RunI.ofGo rfl rfl (b_Md_taken_0 ?_)
  refine loopN (G := fun j => Go g h_Md_taken (QI P) 5 [(0, vO 17 0 0), (1, vI (nI r)), (2, vI s), (3, vI (nI (cnt (tkP N (nI r) s) j))), (4, vI (nI j))] [] (wv m v)) (nK N) ?_ ?_ 0 (Nat.zero_le _)
  · refine b_Md_taken_5 ⟨vp_in_nI (n := 8) (by decide) (by decide), fun _ => qi hp, fun q => absurd ?_ q⟩
    rw [wv_at, hR.v8, hn]; exact le_self _
  · intro j hj ih
    have hT := cnt_t (p := tkP N (nI r) s) (n := j)
    have hF := cnt_f (p := tkP N (nI r) s) (n := j)
    refine b_Md_taken_5 ⟨vp_in_nI (n := 8) (by decide) (by decide), fun q => absurd q (by rw [wv_at, hR.v8, hn]; exact nI_ge hj (by omega)), fun _ => S_Md_isIn hR hO hj ?_⟩
    simp only [b2i_eq0, Decidable.not_not]
    rw [inP_iff hO hj (by omega), Int32.add_zero, nI_1]
    refine ⟨fun a => ?_, fun a => S_Md_of (c := j) (j := 5) (by omega) (by decide) ?_⟩
    · rwa [hF (fun q => a q.1)] at ih
    · rw [hR.k hB hj (by decide) (fun q => absurd q (by decide))]
      refine S_Md_has ?_
      simp only [b2i_eq0, Decidable.not_not]
      refine ⟨fun b => ?_, fun b => ?_⟩
      · rwa [hF (fun q => b q.2)] at ih
      · rwa [hT ⟨a, b⟩, nI_succ] at ih
theorem S_Md_isFree {r s : Nat} (hR : RelR N v) (hO : Ok N) (hr : r < nR N) (hs : s < 10) (hp : P (b2i (openP N r s)) (wv m v)) : RunI g h_Md_isFree [vO 17 0 0, vI (nI r), vI (nI s)] (wv m v) P := by
  refine RunI.ofGo rfl rfl (b_Md_isFree_0 (S_Md_taken hR hO hr (S_Md_places hR hO hr hs ⟨fun a => ⟨by decide, qi ?_⟩, fun a => ⟨by decide, qi ?_⟩⟩)))
  · rwa [b2i_f (fun q => q a)] at hp
  · rwa [b2i_t a] at hp
theorem or_0 (x : Int32) : x ||| 0 = x := by
  refine bt_ext fun j hj => ?_
  rw [bt_or, bt_0 hj, Bool.or_false]
theorem S_Md_freeOf {r : Nat} {set : Int32} (hR : RelR N v) (hO : Ok N) (hr : r < nR N) (hp : P (openF N r set) (wv m v)) : RunI g h_Md_freeOf [vO 17 0 0, vI (nI r), vI set] (wv m v) P := by
  refine RunI.ofGo rfl rfl (b_Md_freeOf_0 ?_)
  unfold openF at hp
  refine loopN (G := fun j => Go g h_Md_freeOf (QI P) 5 [(0, vO 17 0 0), (1, vI (nI r)), (2, vI set), (3, vI (setI (fun s => Has set (nI s) ∧ openP N r s) j)), (4, vI (nI j))] [] (wv m v)) 10 ?_ ?_ 0 (Nat.zero_le _)
  · exact b_Md_freeOf_5 ⟨fun _ => qi hp, fun h => absurd (by decide) h⟩
  · intro j hj ih
    have hT := setI_t (p := fun s => Has set (nI s) ∧ openP N r s) (n := j)
    have hF := setI_f (p := fun s => Has set (nI s) ∧ openP N r s) (n := j)
    refine b_Md_freeOf_5 ⟨fun h => absurd h (nI_ge (b := 10) hj (by omega)), fun _ => S_Md_has ?_⟩
    simp only [b2i_eq0, Decidable.not_not]
    rw [or_0, nI_1]
    refine ⟨fun a => ?_, fun a => S_Md_isFree hR hO hr hj ?_⟩
    · rwa [hF (fun q => a q.1)] at ih
    · simp only [b2i_eq0, Decidable.not_not]
      refine ⟨fun b => ?_, fun b => ?_⟩
      · rwa [hF (fun q => q.2 b)] at ih
      · rwa [hT ⟨a, b⟩] at ih
def roomV (N : Nu) (age : Int32) : Int32 := if roomN N age < nR N then nI (roomN N age) else -1
theorem S_Md_roomOf {age : Int32} (hR : RelR N v) (hO : Ok N) (hp : P (roomV N age) (wv m v)) : RunI g h_Md_roomOf [vO 17 0 0, vI age] (wv m v) P := by
  have hB := hO.1.1
  have h5 := hB.1.2
  refine RunI.ofGo rfl rfl (b_Md_roomOf_0 ?_)
  rw [wv_at, hR.v6, hB.1.1]
  refine ⟨vp_in_nI (n := 6) (by decide) (by decide), ?_⟩
  have key : ∀ d, d ≤ nR N → ∀ x2 : Int32, ((x2 = -1 ∧ ∀ i, d ≤ i → i < nR N → ¬ forP N age i) ∨ (∃ f, d ≤ f ∧ f < nR N ∧ x2 = nI f ∧ forP N age f ∧ ∀ i, d ≤ i → i < f → ¬ forP N age i)) → Go g h_Md_roomOf (QI P) 12 [(0, vO 17 0 0), (1, vI age), (2, vI x2), (3, vI (nI d - 1))] [] (wv m v) := by
    intro d
    induction d with
    | zero =>
      intro _ x2 h
      refine b_Md_roomOf_12 ⟨fun _ => qi ?_, fun q => absurd (by decide) q⟩
      unfold roomV at hp
      have e0 : roomN N age = low (forP N age) 0 (nR N) := rfl
      rcases h with ⟨rfl, h⟩ | ⟨f, -, hf, rfl, h1, h2⟩
      · rwa [e0, low_n (fun i hi => h i (Nat.zero_le _) hi), if_neg (Nat.lt_irrefl _)] at hp
      · rwa [e0, low_eq hf h1 (fun i hi => h2 i (Nat.zero_le _) hi), if_pos hf] at hp
    | succ d ih =>
      intro hd x2 h
      rw [nI_pred]
      have i0 : (13 + (4 * nI d) : Int32) = nI (13 + 4 * d + 0) := ix2 13 4 d
      have i1 : ((13 + (4 * nI d)) + 1 : Int32) = nI (13 + 4 * d + 1) := ix3 13 4 d 1
      refine b_Md_roomOf_12 ⟨fun q => absurd q (nI_pos (by omega)), fun _ => ?_⟩
      rw [i1, i0, nI_clamp (by omega), nI_clamp (by omega), wv_at, hR.r hB (by omega) (by decide), hR.r hB (by omega) (by decide)]
      refine ⟨vp_in_nI (by omega) (by omega), vp_in_nI (by omega) (by omega), S_Md_in ?_⟩
      simp only [b2i_eq0, Decidable.not_not]
      rw [sub1_lt (hO.2.2.2.1.2 d (by omega)), show nI d + (-1) = nI d - 1 from (Int32.sub_eq_add_neg ..).symm]
      refine ⟨fun a => ih (by omega) x2 ?_, fun a => ih (by omega) (nI d) (Or.inr ⟨d, Nat.le_refl _, by omega, rfl, a, fun i h1 h2 => absurd h1 (by omega)⟩)⟩
      rcases h with ⟨e, h⟩ | ⟨f, h0, hf, e, h1, h2⟩
      · refine Or.inl ⟨e, fun i hi hi2 => ?_⟩
        by_cases q : i = d
        · rw [q]; exact a
        · exact h i (by omega) hi2
      · refine Or.inr ⟨f, by omega, hf, e, h1, fun i hi hi2 => ?_⟩
        by_cases q : i = d
        · rw [q]; exact a
        · exact h2 i (by omega) hi2
  exact key (nR N) (Nat.le_refl _) (-1) (Or.inl ⟨rfl, fun i h1 h2 => absurd h1 (by omega)⟩)
end RF
