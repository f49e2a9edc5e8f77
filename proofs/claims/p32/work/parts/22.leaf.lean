/-! CONTRACTS OF THE CLASS, leaves -/
def b2i (p : Prop) [Decidable p] : Int32 := if p then 1 else 0
theorem b2i_t {p : Prop} [Decidable p] (h : p) : b2i p = 1 := if_pos h
theorem b2i_f {p : Prop} [Decidable p] (h : ¬ p) : b2i p = 0 := if_neg h
theorem b2i_or (p : Prop) [Decidable p] : b2i p = 0 ∨ b2i p = 1 := by
  by_cases h : p
  · exact Or.inr (b2i_t h)
  · exact Or.inl (b2i_f h)
theorem b2i_eq0 {p : Prop} [Decidable p] : b2i p = 0 ↔ ¬ p := by
  unfold b2i
  split <;> simp [*]
theorem b2i_eq1 {p : Prop} [Decidable p] : b2i p = 1 ↔ p := by
  unfold b2i
  split <;> simp [*]
theorem qi {P : Int32 → Mm → Prop} {x : Int32} {m : Mm} (h : P x m) : QI P (some (vI x)) m := ⟨x, rfl, h⟩
theorem qv {P : Mm → Prop} {m : Mm} (h : P m) : QV P none m := ⟨rfl, h⟩
theorem qo {P : Nat → Nat → Nat → Mm → Prop} {t k i : Nat} {m : Mm} (h : P t k i m) : QO P (some (vO t k i)) m := ⟨t, k, i, rfl, h⟩
/-- a bit of a set, as the class asks for it -/
abbrev Has (s j : Int32) : Prop := (s >>> (j &&& 31)) &&& 1 = 1
abbrev ShiftB (d f t : Int32) : Prop := (¬ d < 1 ∧ ¬ 31 < d) ∧ (¬ f < 0 ∧ ¬ 9 < f) ∧ ¬ t ≤ f ∧ ¬ 10 < t
abbrev ComesB (N : Nat → Int32) (s : Int32) : Prop := if N 6 = 0 then N 8 = s else Has (N 5) s
section LEAF
variable {g : Wg} {mem : Mm} {P : Int32 → Mm → Prop} {PV : Mm → Prop}
theorem S_N_holds {a b : Int32} (hp : P (b2i (Has a b)) mem) : RunI g h_N_holds [vI a, vI b] mem P := by
  refine RunI.ofGo rfl rfl (b_N_holds_0 ?_)
  repeat' first | (apply And.intro) | (intro _) | (apply qi)
  all_goals first | decide | (simpa [b2i, Has, ShiftB, ComesB, *] using hp)
theorem S_N_isWithin {x a b : Int32} (hp : P (b2i (¬ x < a ∧ ¬ b < x)) mem) : RunI g h_N_isWithin [vI x, vI a, vI b] mem P := by
  refine RunI.ofGo rfl rfl (b_N_isWithin_0 ?_)
  repeat' first | (apply And.intro) | (intro _) | (apply qi)
  all_goals first | decide | (simpa [b2i, Has, ShiftB, ComesB, *] using hp)
theorem S_N_isSession {x : Int32} (hp : P (b2i (¬ x < 0 ∧ ¬ 9 < x)) mem) : RunI g h_N_isSession [vI x] mem P := by
  refine RunI.ofGo rfl rfl (b_N_isSession_0 (S_N_isWithin ⟨b2i_or _, qi hp⟩))
theorem S_N_isSlot {x : Int32} (hp : P (b2i (¬ x < 0 ∧ ¬ 1 < x)) mem) : RunI g h_N_isSlot [vI x] mem P := by
  refine RunI.ofGo rfl rfl (b_N_isSlot_0 (S_N_isWithin ⟨b2i_or _, qi hp⟩))
theorem S_N_isShift {d f t : Int32} (hp : P (b2i (ShiftB d f t)) mem) : RunI g h_N_isShift [vI d, vI f, vI t] mem P := by
  refine RunI.ofGo rfl rfl (b_N_isShift_0 (S_N_isWithin ?_))
  simp only [b2i_eq0, Decidable.not_not]
  refine ⟨fun h1 => ⟨by decide, qi ?_⟩, fun h1 => S_N_isWithin ?_⟩
  · rwa [b2i_f (fun h => h1 h.1)] at hp
  · simp only [b2i_eq0, Decidable.not_not]
    repeat' first | (apply And.intro) | (intro _) | (apply qi)
    all_goals first | decide | (rw [b2i_t (by unfold ShiftB; exact ⟨by assumption, by assumption, by assumption, by assumption⟩)] at hp; exact hp) | (rw [b2i_f (by rintro ⟨a1, a2, a3, a4⟩; contradiction)] at hp; exact hp)
theorem S_Rm_isFor {k i : Nat} {a : Int32} (hp : P (b2i (¬ a < mem (7, k, i) 0 ∧ ¬ mem (7, k, i) 1 ≤ a)) mem) : RunI g h_Rm_isFor [vO 7 k i, vI a] mem P := by
  refine RunI.ofGo rfl rfl (b_Rm_isFor_0 ?_)
  repeat' first | (apply And.intro) | (intro _) | (apply qi)
  all_goals first | decide | (simpa [b2i, Has, ShiftB, ComesB, *] using hp)
theorem S_Ca_isOnDuty {k i : Nat} {d h : Int32} (hp : P (b2i (Has (mem (8, k, i) 1) d ∧ ¬ h < mem (8, k, i) 2 ∧ ¬ mem (8, k, i) 3 ≤ h)) mem) : RunI g h_Ca_isOnDuty [vO 8 k i, vI d, vI h] mem P := by
  refine RunI.ofGo rfl rfl (b_Ca_isOnDuty_0 ?_)
  repeat' first | (apply And.intro) | (intro _) | (apply qi)
  all_goals first | decide | (simpa [b2i, Has, ShiftB, ComesB, *] using hp)
theorem S_Ch_has {k i : Nat} {s : Int32} (hp : P (b2i (Has (mem (9, k, i) 5) s)) mem) : RunI g h_Ch_has [vO 9 k i, vI s] mem P := by
  refine RunI.ofGo rfl rfl (b_Ch_has_0 ?_)
  repeat' first | (apply And.intro) | (intro _) | (apply qi)
  all_goals first | decide | (simpa [b2i, Has, ShiftB, ComesB, *] using hp)
theorem S_Ch_comesTo {k i : Nat} {s : Int32} (hp : P (b2i (ComesB (mem (9, k, i)) s)) mem) : RunI g h_Ch_comesTo [vO 9 k i, vI s] mem P := by
  refine RunI.ofGo rfl rfl (b_Ch_comesTo_0 ⟨fun h1 => ?_, fun h1 => S_Ch_has ⟨b2i_or _, qi ?_⟩⟩)
  · repeat' first | (apply And.intro) | (intro _) | (apply qi)
    all_goals first | decide | (simpa [b2i, Has, ShiftB, ComesB, *] using hp)
  · simpa [b2i, Has, ShiftB, ComesB, *] using hp
def qitR (mem : Mm) (k i : Nat) (s : Int32) : Mm := mset (mset (mset (mset (mset mem 9 k i 3 s) 9 k i 4 (-6)) 9 k i 5 0) 9 k i 6 0) 9 k i 8 (-6)
theorem S_Ch_quitRoom {k i : Nat} {s : Int32} (hp : PV (qitR mem k i s)) : RunV g h_Ch_quitRoom [vO 9 k i, vI s] mem PV :=
  RunV.ofGo rfl rfl (b_Ch_quitRoom_0 ⟨Or.inl rfl, qv hp⟩)
def waitR (mem : Mm) (k i : Nat) (w : Int32) : Mm := mset (mset (qitR mem k i 0) 9 k i 7 0) 9 k i 12 w
theorem S_Ch_waitAgain {k i : Nat} {w : Int32} (hp : PV (waitR mem k i w)) : RunV g h_Ch_waitAgain [vO 9 k i, vI w] mem PV :=
  RunV.ofGo rfl rfl (b_Ch_waitAgain_0 (S_Ch_quitRoom (qv hp)))
def comeR (mem : Mm) (k i : Nat) (a f w t : Int32) : Mm := waitR (mset (mset (mset (mset (mset (mset (mset mem 9 k i 0 a) 9 k i 1 f) 9 k i 2 w) 9 k i 9 0) 9 k i 10 0) 9 k i 11 0) 9 k i 13 0) k i t
theorem S_Ch_come {k i : Nat} {a f w t : Int32} (hp : PV (comeR mem k i a f w t)) : RunV g h_Ch_come [vO 9 k i, vI a, vI f, vI w, vI t] mem PV :=
  RunV.ofGo rfl rfl (b_Ch_come_0 (S_Ch_waitAgain (qv hp)))
/-- a row is written over by another of its kind, its first n cells -/
def cpR (mem : Mm) (t k i k' i' n : Nat) : Mm := fun o j => if o = (t, k, i) ∧ j < n then mem (t, k', i') j else mem o j
theorem S_Rm_copyFrom {k i k' i' : Nat} (hne : k ≠ k') (hp : PV (cpR mem 7 k i k' i' 4)) : RunV g h_Rm_copyFrom [vO 7 k i, vO 7 k' i'] mem PV := by
  refine RunV.ofGo rfl rfl (b_Rm_copyFrom_0 ?_)
  intro u1 u2
  have h0 : ((7, k', i') : Rf) ≠ (7, k, i) := fun e => hne (by cases e; rfl)
  have e1 : u1 (7, k', i') = mem (7, k', i') := by simp only [u1, mset_ne _ _ _ _ _ _ h0]
  refine qv ?_
  have e2 : u2 = cpR mem 7 k i k' i' 4 := by
    funext o j
    by_cases ho : o = (7, k, i)
    · subst ho
      simp only [u2, e1, mset_ne _ _ _ _ _ _ h0, mset_at, upd, u1, cpR]
      rcases j with _ | _ | _ | _ | j <;> (try simp) <;> (try (intro h9; omega))
    · simp only [u2, u1, mset_ne _ _ _ _ _ _ ho, cpR, ho, false_and, if_false]
  rw [e2]
  exact hp
theorem S_Ca_copyFrom {k i k' i' : Nat} (hne : k ≠ k') (h4 : mem (8, k', i') 4 = 0 ∨ mem (8, k', i') 4 = 1) (hp : PV (cpR mem 8 k i k' i' 5)) : RunV g h_Ca_copyFrom [vO 8 k i, vO 8 k' i'] mem PV := by
  refine RunV.ofGo rfl rfl (b_Ca_copyFrom_0 ?_)
  intro u1 u2
  have h0 : ((8, k', i') : Rf) ≠ (8, k, i) := fun e => hne (by cases e; rfl)
  have e1 : u1 (8, k', i') = mem (8, k', i') := by simp only [u1, mset_ne _ _ _ _ _ _ h0]
  have e2 : u2 (8, k', i') = mem (8, k', i') := by simp only [u2, mset_ne _ _ _ _ _ _ h0, e1]
  refine ⟨by rw [e2]; exact h4, qv ?_⟩
  have e3 : mset u2 8 k i 4 (u2 (8, k', i') 4) = cpR mem 8 k i k' i' 5 := by
    funext o j
    by_cases ho : o = (8, k, i)
    · subst ho
      rw [e2]
      simp only [u2, e1, mset_ne _ _ _ _ _ _ h0, mset_at, upd, u1, cpR]
      rcases j with _ | _ | _ | _ | _ | j <;> (try simp) <;> (try (intro h9; omega))
    · simp only [u2, u1, mset_ne _ _ _ _ _ _ ho, cpR, ho, false_and, if_false]
  rw [e3]
  exact hp
theorem S_Ch_copyFrom {k i k' i' : Nat} (hne : k ≠ k') (h4 : mem (9, k', i') 6 = 0 ∨ mem (9, k', i') 6 = 1) (hp : PV (cpR mem 9 k i k' i' 14)) : RunV g h_Ch_copyFrom [vO 9 k i, vO 9 k' i'] mem PV := by
  refine RunV.ofGo rfl rfl (b_Ch_copyFrom_0 ?_)
  intro u1 u2 u3
  have h0 : ((9, k', i') : Rf) ≠ (9, k, i) := fun e => hne (by cases e; rfl)
  have e1 : u1 (9, k', i') = mem (9, k', i') := by simp only [u1, mset_ne _ _ _ _ _ _ h0]
  have e2 : u2 (9, k', i') = mem (9, k', i') := by simp only [u2, mset_ne _ _ _ _ _ _ h0, e1]
  have e3 : u3 (9, k', i') = mem (9, k', i') := by simp only [u3, mset_ne _ _ _ _ _ _ h0, e2]
  refine ⟨by rw [e3]; exact h4, ?_⟩
  intro u4 u5 u6 u7
  have e4 : u4 (9, k', i') = mem (9, k', i') := by simp only [u4, mset_ne _ _ _ _ _ _ h0, e3]
  have e5 : u5 (9, k', i') = mem (9, k', i') := by simp only [u5, mset_ne _ _ _ _ _ _ h0, e4]
  have e6 : u6 (9, k', i') = mem (9, k', i') := by simp only [u6, mset_ne _ _ _ _ _ _ h0, e5]
  refine qv ?_
  have f7 : u7 = cpR mem 9 k i k' i' 14 := by
    funext o j
    by_cases ho : o = (9, k, i)
    · subst ho
      simp only [u7, e6, u6, e5, u5, e4, u4, e3, u3, e2, u2, e1, mset_ne _ _ _ _ _ _ h0, mset_at, upd, u1, cpR]
      rcases j with _ | _ | _ | _ | _ | _ | _ | _ | _ | _ | _ | _ | _ | _ | j <;> (try simp) <;> (try (intro h9; omega))
    · simp only [u7, u6, u5, u4, u3, u2, u1, mset_ne _ _ _ _ _ _ ho, cpR, ho, false_and, if_false]
  rw [f7]
  exact hp
/-! loops and counts -/
end LEAF
theorem loopN {G : Nat → Prop} (n : Nat) (hend : G n) (hstep : ∀ j, j < n → G (j + 1) → G j) : ∀ j, j ≤ n → G j := by
  have key : ∀ d j, j + d = n → G j := by
    intro d
    induction d with
    | zero => intro j hj; rw [show j = n by omega]; exact hend
    | succ d ih => intro j hj; exact hstep j (by omega) (ih (j + 1) (by omega))
  exact fun j hj => key (n - j) j (by omega)
def cnt (p : Nat → Prop) [DecidablePred p] : Nat → Nat
  | 0 => 0
  | n + 1 => cnt p n + (if p n then 1 else 0)
def setI (p : Nat → Prop) [DecidablePred p] : Nat → Int32
  | 0 => 0
  | n + 1 => if p n then setI p n ||| (1 <<< (nI n &&& 31)) else setI p n
def sumI (f : Nat → Int32) : Nat → Int32
  | 0 => 0
  | n + 1 => sumI f n + f n
/-- the first place from j on, below j + d, where p holds; j + d: none -/
def low (p : Nat → Prop) [DecidablePred p] : Nat → Nat → Nat
  | j, 0 => j
  | j, d + 1 => if p j then j else low p (j + 1) d
theorem low_le (p : Nat → Prop) [DecidablePred p] : ∀ d j, low p j d ≤ j + d
  | 0, j => Nat.le_refl _
  | d + 1, j => by
    unfold low
    split
    · omega
    · have := low_le p d (j + 1)
      omega
theorem low_ge (p : Nat → Prop) [DecidablePred p] : ∀ d j, j ≤ low p j d
  | 0, j => Nat.le_refl _
  | d + 1, j => by
    unfold low
    split
    · omega
    · have := low_ge p d (j + 1)
      omega
theorem low_p (p : Nat → Prop) [DecidablePred p] : ∀ d j, low p j d < j + d → p (low p j d)
  | 0, j, h => by unfold low at h; omega
  | d + 1, j, h => by
    unfold low at h ⊢
    split
    · assumption
    · rw [if_neg (by assumption)] at h
      exact low_p p d (j + 1) (by omega)
theorem low_not (p : Nat → Prop) [DecidablePred p] : ∀ d j i, j ≤ i → i < low p j d → ¬ p i
  | 0, j, i, h1, h2 => by unfold low at h2; omega
  | d + 1, j, i, h1, h2 => by
    unfold low at h2
    split at h2
    · omega
    · by_cases hi : i = j
      · subst hi; assumption
      · exact low_not p d (j + 1) i (by omega) h2
theorem cnt_t {p : Nat → Prop} [DecidablePred p] {n : Nat} (h : p n) : cnt p (n + 1) = cnt p n + 1 := by
  show cnt p n + (if p n then 1 else 0) = _
  rw [if_pos h]
theorem cnt_f {p : Nat → Prop} [DecidablePred p] {n : Nat} (h : ¬ p n) : cnt p (n + 1) = cnt p n := by
  show cnt p n + (if p n then 1 else 0) = _
  rw [if_neg h]
  rfl
theorem setI_t {p : Nat → Prop} [DecidablePred p] {n : Nat} (h : p n) : setI p (n + 1) = setI p n ||| (1 <<< (nI n &&& 31)) := if_pos h
theorem setI_f {p : Nat → Prop} [DecidablePred p] {n : Nat} (h : ¬ p n) : setI p (n + 1) = setI p n := if_neg h
theorem low_t {p : Nat → Prop} [DecidablePred p] {j d : Nat} (h : p j) : low p j (d + 1) = j := if_pos h
theorem low_f {p : Nat → Prop} [DecidablePred p] {j d : Nat} (h : ¬ p j) : low p j (d + 1) = low p (j + 1) d := if_neg h
