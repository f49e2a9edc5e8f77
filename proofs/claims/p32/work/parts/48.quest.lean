/-! THE QUESTIONS, of the class -/
theorem win {q a b : Nat} (hq : q < 2 ^ 31) (ha : a < 2 ^ 31) (hb : b < 2 ^ 31) : (¬ nI q < nI a ∧ ¬ nI b < nI q) ↔ (a ≤ q ∧ q ≤ b) := by
  rw [nI_ltI hq ha, nI_ltI hb hq]
  omega
def ofCaF (N : Nu) (x y : Int32) : Int32 := if ¬ x < 0 ∧ ¬ N 2 0 5 ≤ x then (if y = 0 ∨ y = 1 ∨ y = 2 ∨ y = 3 ∨ y = 4 then N 8 x.toNatClampNeg y.toNatClampNeg else -2) else -1
def ofChF (N : Nu) (x y : Int32) : Int32 := if ¬ x < 0 ∧ ¬ N 2 0 6 ≤ x then (if ¬ y < 0 ∧ ¬ 12 < y then N 9 x.toNatClampNeg y.toNatClampNeg else -2) else -1
def frF (N : Nu) (x y : Int32) : Int32 := if (¬ x < 0 ∧ ¬ N 2 0 4 ≤ x) ∧ (¬ y < 0 ∧ ¬ 9 < y) then (if placesF N x.toNatClampNeg y.toNatClampNeg 1 - takenF N x y < 0 then 0 else placesF N x.toNatClampNeg y.toNatClampNeg 1 - takenF N x y) else -1
def wgF (N : Nu) (x : Int32) : Int32 := if ¬ x < 0 ∧ ¬ N 2 0 6 ≤ x then (if N 9 x.toNatClampNeg 3 = 0 then getsF N x.toNatClampNeg else -5) else -1
def paF (N : Nu) (x y z : Int32) : Int32 := if (¬ x < 0 ∧ ¬ N 2 0 6 ≤ x) ∧ (¬ y < 0 ∧ ¬ 9 < y) ∧ (¬ z < 0 ∧ ¬ 9 < z) then setI (fun j => ¬ x.toNatClampNeg = j ∧ canP N x.toNatClampNeg y.toNatClampNeg j z.toNatClampNeg) (nK N) else -1
def orF (N : Nu) (x y : Int32) : Int32 := if ¬ x < 0 ∧ ¬ N 2 0 4 ≤ x then (if y = 0 ∨ y = 1 ∨ y = 2 ∨ y = 3 then N 7 x.toNatClampNeg y.toNatClampNeg else if y = 4 then setI (fun j => N 8 j 0 = x) (nC N) else if y = 5 then setI (fun j => N 9 j 4 = x) (nK N) else if ¬ y < 10 ∧ ¬ 19 < y then placesF N x.toNatClampNeg (y - 10).toNatClampNeg 1 else if ¬ y < 20 ∧ ¬ 29 < y then takenF N x (y - 20) else if ¬ y < 30 ∧ ¬ 39 < y then placesF N x.toNatClampNeg (y - 30).toNatClampNeg 0 else -2) else -1
section QU
variable {g : Wg} {m : Mm} {v : Nat → Int32} {P : Int32 → Mm → Prop} {PV : Mm → Prop} {N : Nu}
theorem T_N_ofCarer {x y : Int32} (hO : Ok N) (hp : P (ofCaF N x y) (wr m 0 N)) : RunI g h_N_ofCarer [vO 1 0 0, vI x, vI y] (wr m 0 N) P := by
  have h12 := hO.1.2
  refine RunI.ofGo rfl rfl (b_N_ofCarer_0 (T_St_hasCarer ?_))
  simp only [b2i_eq0, Decidable.not_not]
  unfold ofCaF at hp
  refine ⟨fun a => ?_, fun a => qi ?_⟩
  rotate_left
  · rwa [if_neg a] at hp
  rw [if_pos a] at hp
  rw [hO.1.1.2.1.1] at a
  obtain ⟨c, hc, rfl⟩ := (hasG (by omega)).mp a
  have ec := nI_clamp (n := c) (by omega)
  rw [ec] at hp
  simp only [ec, wr_8]
  refine ⟨vp_in_nI (by omega) (by omega), ?_⟩
  have h01 := (hO.2.2.2.1.1 c hc).2
  refine ⟨fun e => qi ?_, fun e0 => ⟨fun e => qi ?_, fun e1 => ⟨fun e => qi ?_, fun e2 => ⟨fun e => qi ?_, fun e3 => ⟨fun e => ⟨fun z => qi ?_, fun z => qi ?_⟩, fun e4 => qi ?_⟩⟩⟩⟩⟩
  · rw [if_pos (Or.inl e), e] at hp; exact hp
  · rw [if_pos (Or.inr (Or.inl e)), e] at hp; exact hp
  · rw [if_pos (Or.inr (Or.inr (Or.inl e))), e] at hp; exact hp
  · rw [if_pos (Or.inr (Or.inr (Or.inr (Or.inl e)))), e] at hp; exact hp
  · rw [if_pos (Or.inr (Or.inr (Or.inr (Or.inr e)))), e] at hp
    have hp2 : P (N 8 c 4) (wr m 0 N) := hp
    rwa [z] at hp2
  · rw [if_pos (Or.inr (Or.inr (Or.inr (Or.inr e)))), e] at hp
    have hp2 : P (N 8 c 4) (wr m 0 N) := hp
    rwa [h01.resolve_left z] at hp2
  · rwa [if_neg (fun q => q.elim e0 (fun q => q.elim e1 (fun q => q.elim e2 (fun q => q.elim e3 e4))))] at hp
theorem T_N_ofChild {x y : Int32} (hO : Ok N) (hp : P (ofChF N x y) (wr m 0 N)) : RunI g h_N_ofChild [vO 1 0 0, vI x, vI y] (wr m 0 N) P := by
  have h24 := hO.1.1.2.2.2
  refine RunI.ofGo rfl rfl (b_N_ofChild_0 (T_St_hasChild ?_))
  simp only [b2i_eq0, Decidable.not_not]
  unfold ofChF at hp
  refine ⟨fun a => ?_, fun a => qi ?_⟩
  rotate_left
  · rwa [if_neg a] at hp
  rw [if_pos a] at hp
  rw [hO.1.1.2.2.1] at a
  obtain ⟨c, hc, rfl⟩ := (hasG (by omega)).mp a
  have ec := nI_clamp (n := c) (by omega)
  rw [ec] at hp
  simp only [ec, wr_9]
  refine ⟨vp_in_nI (by omega) (by omega), ?_⟩
  have h01 := (hO.k1 hc).2.2.1
  have yes : ∀ q, q ≤ 12 → y = nI q → P (N 9 c q) (wr m 0 N) := by
    intro q hq e
    rw [e, if_pos (show ¬ nI q < 0 ∧ ¬ 12 < nI q from (win (a := 0) (b := 12) (by omega) (by decide) (by decide)).mpr ⟨by omega, hq⟩), nI_clamp (by omega)] at hp
    exact hp
  refine ⟨fun e => qi (yes 0 (by omega) e), fun e0 => ⟨fun e => qi (yes 1 (by omega) e), fun e1 => ⟨fun e => qi (yes 2 (by omega) e), fun e2 => ⟨fun e => qi (yes 3 (by omega) e), fun e3 => ⟨fun e => qi (yes 4 (by omega) e), fun e4 => ⟨fun e => qi (yes 5 (by omega) e), fun e5 => ⟨fun e => ⟨fun z => qi ?_, fun z => qi ?_⟩, fun e6 => ⟨fun e => qi (yes 7 (by omega) e), fun e7 => ⟨fun e => qi (yes 8 (by omega) e), fun e8 => ⟨fun e => qi (yes 9 (by omega) e), fun e9 => ⟨fun e => qi (yes 10 (by omega) e), fun e10 => ⟨fun e => qi (yes 11 (by omega) e), fun e11 => ⟨fun e => qi (yes 12 (by omega) e), fun e12 => qi ?_⟩⟩⟩⟩⟩⟩⟩⟩⟩⟩⟩⟩⟩
  · have := yes 6 (by omega) e
    rwa [z] at this
  · have := yes 6 (by omega) e
    rwa [h01.resolve_left z] at this
  · rwa [if_neg] at hp
    rintro ⟨h1, h2⟩
    obtain ⟨q, hq, rfl⟩ := nI_of2 (M := 12) (n := 12) (by decide) h1 (Int32.not_lt.mp h2)
    rcases (show q = 0 ∨ q = 1 ∨ q = 2 ∨ q = 3 ∨ q = 4 ∨ q = 5 ∨ q = 6 ∨ q = 7 ∨ q = 8 ∨ q = 9 ∨ q = 10 ∨ q = 11 ∨ q = 12 by omega) with rfl | rfl | rfl | rfl | rfl | rfl | rfl | rfl | rfl | rfl | rfl | rfl | rfl
    · exact e0 rfl
    · exact e1 rfl
    · exact e2 rfl
    · exact e3 rfl
    · exact e4 rfl
    · exact e5 rfl
    · exact e6 rfl
    · exact e7 rfl
    · exact e8 rfl
    · exact e9 rfl
    · exact e10 rfl
    · exact e11 rfl
    · exact e12 rfl
theorem T_N_free {x y : Int32} (hO : Ok N) (hp : P (frF N x y) (wr m 0 N)) : RunI g h_N_free [vO 1 0 0, vI x, vI y] (wr m 0 N) P := by
  have h5 := hO.1.1.1.2
  refine RunI.ofGo rfl rfl (b_N_free_0 (T_St_hasRoom ?_))
  simp only [b2i_eq0, Decidable.not_not]
  unfold frF at hp
  refine ⟨fun a => qi ?_, fun a => S_N_isSession ?_⟩
  · rwa [if_neg (fun q => a q.1)] at hp
  simp only [b2i_eq0, Decidable.not_not]
  refine ⟨fun b => ?_, fun b => qi ?_⟩
  rotate_left
  · rwa [if_neg (fun q => b q.2)] at hp
  rw [if_pos ⟨a, b⟩] at hp
  rw [hO.1.1.1.1] at a
  obtain ⟨r, hr, rfl⟩ := (hasG (by omega)).mp a
  obtain ⟨s, hs, rfl⟩ := nI_of2 (M := 9) (n := 9) (by decide) b.1 (Int32.not_lt.mp b.2)
  rw [nI_clamp (n := r) (by omega), nI_clamp (n := s) (by omega)] at hp
  refine T_St_placesIn hO.1.1 hr (by omega) (T_St_takenIn hO.1.1 (qi ?_))
  generalize placesF N r s 1 - takenF N (nI r) (nI s) = d at hp ⊢
  by_cases h : d < 0
  · rw [if_pos h] at hp
    rw [if_neg (fun z => Int32.lt_irrefl (Int32.lt_trans z h))]
    exact hp
  · rw [if_neg h] at hp
    by_cases h2 : (0 : Int32) < d
    · rw [if_pos h2]; exact hp
    · rw [if_neg h2]
      have : d = 0 := by
        apply Int32.toInt_inj.mp
        rw [Int32.lt_iff_toInt_lt, Int32.toInt_zero] at h h2
        rw [Int32.toInt_zero]
        omega
      rwa [this] at hp
theorem T_N_wouldGet {x : Int32} (hO : Ok N) (hp : P (wgF N x) (wr m 0 N)) : RunI g h_N_wouldGet [vO 1 0 0, vI x] (wr m 0 N) P := by
  have h24 := hO.1.1.2.2.2
  refine RunI.ofGo rfl rfl (b_N_wouldGet_0 (T_St_hasChild ?_))
  simp only [b2i_eq0, Decidable.not_not]
  unfold wgF at hp
  refine ⟨fun a => ?_, fun a => qi ?_⟩
  rotate_left
  · rwa [if_neg a] at hp
  rw [if_pos a] at hp
  rw [hO.1.1.2.2.1] at a
  obtain ⟨c, hc, rfl⟩ := (hasG (by omega)).mp a
  have ec := nI_clamp (n := c) (by omega)
  rw [ec] at hp
  simp only [ec, wr_9]
  refine ⟨vp_in_nI (by omega) (by omega), fun b => T_Ad_sessionsFor hO.1.1 hc (qi ?_), fun b => qi ?_⟩
  · rwa [if_pos b] at hp
  · rwa [if_neg b] at hp
theorem T_N_partners {x y z : Int32} (hO : Ok N) (hp : P (paF N x y z) (wr m 0 N)) : RunI g h_N_partners [vO 1 0 0, vI x, vI y, vI z] (wr m 0 N) P := by
  have h24 := hO.1.1.2.2.2
  have hn := hO.1.1.2.2.1
  refine RunI.ofGo rfl rfl (b_N_partners_0 (T_St_hasChild ?_))
  simp only [b2i_eq0, Decidable.not_not]
  unfold paF at hp
  refine ⟨fun a => qi ?_, fun a => S_N_isSession ?_⟩
  · rwa [if_neg (fun q => a q.1)] at hp
  simp only [b2i_eq0, Decidable.not_not]
  refine ⟨fun b => qi ?_, fun b => S_N_isSession ?_⟩
  · rwa [if_neg (fun q => b q.2.1)] at hp
  simp only [b2i_eq0, Decidable.not_not]
  refine ⟨fun d => ?_, fun d => qi ?_⟩
  rotate_left
  · rwa [if_neg (fun q => d q.2.2)] at hp
  rw [if_pos ⟨a, b, d⟩] at hp
  rw [hn] at a
  obtain ⟨c, hc, rfl⟩ := (hasG (by omega)).mp a
  obtain ⟨s, hs, rfl⟩ := nI_of2 (M := 9) (n := 9) (by decide) b.1 (Int32.not_lt.mp b.2)
  obtain ⟨t, ht, rfl⟩ := nI_of2 (M := 9) (n := 9) (by decide) d.1 (Int32.not_lt.mp d.2)
  rw [nI_clamp (n := c) (by omega), nI_clamp (n := s) (by omega), nI_clamp (n := t) (by omega)] at hp
  refine loopN (G := fun j => Go g h_N_partners (QI P) 33 [(0, vO 1 0 0), (1, vI (nI c)), (2, vI (nI s)), (3, vI (nI t)), (4, vI (setI (fun j => ¬ c = j ∧ canP N c s j t) j)), (5, vI (nI j))] [] (wr m 0 N)) (nK N) ?_ ?_ 0 (Nat.zero_le _)
  · exact b_N_partners_33 ⟨fun _ => qi hp, fun q => absurd (by rw [wr_2, hn]; exact le_self _) q⟩
  · intro j hj ih
    have hT := setI_t (p := fun j => ¬ c = j ∧ canP N c s j t) (n := j)
    have hF := setI_f (p := fun j => ¬ c = j ∧ canP N c s j t) (n := j)
    refine b_N_partners_33 ⟨fun q => absurd q (by rw [wr_2, hn]; exact nI_ge hj (by omega)), fun _ => ⟨fun e => ?_, fun e => T_Se_canExchange hO.1.1 hO.2.1 hc (by omega) hj (by omega) ?_⟩⟩
    · rw [nI_eq (by omega) (by omega)] at e
      rw [hF (fun q => q.1 e.symm)] at ih
      rw [nI_1]
      exact ih
    · rw [nI_eq (by omega) (by omega)] at e
      simp only [b2i_eq0, Decidable.not_not]
      rw [nI_1]
      refine ⟨fun q => ?_, fun q => ?_⟩
      · rw [hF (fun z => q z.2)] at ih
        exact ih
      · rw [hT ⟨fun z => e z.symm, q⟩] at ih
        exact ih
theorem T_N_ofRoom {x y : Int32} (hO : Ok N) (hp : P (orF N x y) (wr m 0 N)) : RunI g h_N_ofRoom [vO 1 0 0, vI x, vI y] (wr m 0 N) P := by
  have h5 := hO.1.1.1.2
  refine RunI.ofGo rfl rfl (b_N_ofRoom_0 (T_St_hasRoom ?_))
  simp only [b2i_eq0, Decidable.not_not]
  unfold orF at hp
  refine ⟨fun a => S_N_isWithin ?_, fun a => qi ?_⟩
  rotate_left
  · rwa [if_neg a] at hp
  rw [if_pos a] at hp
  rw [hO.1.1.1.1] at a
  obtain ⟨r, hr, rfl⟩ := (hasG (by omega)).mp a
  have er := nI_clamp (n := r) (by omega)
  rw [er] at hp
  have small : ∀ k : Int32, ¬ k < 10 → ¬ (k = 0 ∨ k = 1 ∨ k = 2 ∨ k = 3) ∧ ¬ k = 4 ∧ ¬ k = 5 := by
    intro k hk
    refine ⟨?_, ?_, ?_⟩
    · rintro (rfl | rfl | rfl | rfl) <;> exact hk (by decide)
    · rintro rfl; exact hk (by decide)
    · rintro rfl; exact hk (by decide)
  simp only [b2i_eq0, Decidable.not_not]
  refine ⟨fun n1 => S_N_isWithin ?_, fun y1 => ?_⟩
  rotate_left
  · obtain ⟨s1, s2, s3⟩ := small y y1.1
    rw [if_neg s1, if_neg s2, if_neg s3, if_pos y1] at hp
    have y0 : ¬ y < 0 := fun z => y1.1 (Int32.lt_trans z (by decide))
    obtain ⟨q, hq, rfl⟩ := nI_of2 (M := 19) (n := 19) (by decide) y0 (Int32.not_lt.mp y1.2)
    have h10 : 10 ≤ q := ((win (a := 10) (b := 19) (by omega) (by decide) (by decide)).mp y1).1
    rw [show nI q - 10 = nI (q - 10) from pk_sub h10] at hp ⊢
    rw [nI_clamp (n := q - 10) (by omega)] at hp
    exact T_St_placesIn hO.1.1 hr (by omega) (qi hp)
  simp only [b2i_eq0, Decidable.not_not]
  refine ⟨fun n2 => S_N_isWithin ?_, fun y2 => ?_⟩
  rotate_left
  · obtain ⟨s1, s2, s3⟩ := small y (fun z => y2.1 (Int32.lt_trans z (by decide)))
    rw [if_neg s1, if_neg s2, if_neg s3, if_neg n1, if_pos y2] at hp
    exact T_St_takenIn hO.1.1 (qi hp)
  simp only [b2i_eq0, Decidable.not_not]
  refine ⟨fun n3 => ?_, fun y3 => ?_⟩
  rotate_left
  · obtain ⟨s1, s2, s3⟩ := small y (fun z => y3.1 (Int32.lt_trans z (by decide)))
    rw [if_neg s1, if_neg s2, if_neg s3, if_neg n1, if_neg n2, if_pos y3] at hp
    have y0 : ¬ y < 0 := fun z => y3.1 (Int32.lt_trans z (by decide))
    obtain ⟨q, hq, rfl⟩ := nI_of2 (M := 39) (n := 39) (by decide) y0 (Int32.not_lt.mp y3.2)
    have h30 : 30 ≤ q := ((win (a := 30) (b := 39) (by omega) (by decide) (by decide)).mp y3).1
    rw [show nI q - 30 = nI (q - 30) from pk_sub h30] at hp ⊢
    rw [nI_clamp (n := q - 30) (by omega)] at hp
    exact T_St_placesIn hO.1.1 hr (by omega) (qi hp)
  simp only [er, wr_7]
  refine ⟨vp_in_nI (by omega) (by omega), fun e => qi ?_, fun e0 => ⟨fun e => qi ?_, fun e1 => ⟨fun e => qi ?_, fun e2 => ⟨fun e => qi ?_, fun e3 => ⟨fun e => ?_, fun e4 => ⟨fun e => ?_, fun e5 => qi ?_⟩⟩⟩⟩⟩⟩
  · rw [if_pos (Or.inl e), e] at hp; exact hp
  · rw [if_pos (Or.inr (Or.inl e)), e] at hp; exact hp
  · rw [if_pos (Or.inr (Or.inr (Or.inl e))), e] at hp; exact hp
  · rw [if_pos (Or.inr (Or.inr (Or.inr e))), e] at hp; exact hp
  · rw [if_neg (fun q => q.elim e0 (fun q => q.elim e1 (fun q => q.elim e2 e3))), if_pos e] at hp
    exact T_St_carersOf hO.1.1 (qi hp)
  · rw [if_neg (fun q => q.elim e0 (fun q => q.elim e1 (fun q => q.elim e2 e3))), if_neg e4, if_pos e] at hp
    exact T_St_childrenOf hO.1.1 (qi hp)
  · rwa [if_neg (fun q => q.elim e0 (fun q => q.elim e1 (fun q => q.elim e2 e3))), if_neg e4, if_neg e5, if_neg n1, if_neg n2, if_neg n3] at hp
def couF (N : Nu) (len size x : Int32) : Int32 := if x = 0 then N 2 0 7 else if x = 1 then N 2 0 4 else if x = 2 then N 2 0 5 else if x = 3 then N 2 0 6 else if x = 4 ∨ x = 5 ∨ x = 6 then setI (fun j => N 9 j 3 = x - 4) (nK N) else if x = 7 then setI (fun j => ¬ N 9 j 6 = 0) (nK N) else if x = 8 then N 2 0 9 else if x = 9 then N 2 0 10 else if x = 10 then N 2 0 11 else if x = 11 then nI (cnt (fun j => ¬ N 9 j 8 = -6) (nK N)) else if x = 12 then len else if x = 13 then size else if ¬ x < 14 ∧ ¬ 18 < x then N 3 0 (x - 14).toNatClampNeg else -2
theorem T_N_count {x : Int32} (hO : Ok N) (hp : P (couF N (m (14, 0, 0) 1) (m (10, 0, 0) 2) x) (wr m 0 N)) : RunI g h_N_count [vO 1 0 0, vI x] (wr m 0 N) P := by
  unfold couF at hp
  have h46 : (¬ x < 4 ∧ ¬ 6 < x) ↔ (x = 4 ∨ x = 5 ∨ x = 6) := by
    constructor
    · rintro ⟨h1, h2⟩
      have h0 : ¬ x < 0 := fun z => h1 (Int32.lt_trans z (by decide))
      obtain ⟨q, hq, rfl⟩ := nI_of2 (M := 6) (n := 6) (by decide) h0 (Int32.not_lt.mp h2)
      have := (win (q := q) (a := 4) (b := 6) (by omega) (by decide) (by decide)).mp ⟨h1, h2⟩
      rcases (show q = 4 ∨ q = 5 ∨ q = 6 by omega) with rfl | rfl | rfl <;> decide
    · rintro (rfl | rfl | rfl) <;> decide
  refine RunI.ofGo rfl rfl (b_N_count_0 (S_N_isWithin ?_))
  simp only [b2i_eq0, Decidable.not_not]
  rw [h46]
  refine ⟨fun n4 => S_N_isWithin ?_, fun y4 => T_St_childrenInState hO.1.1 (qi ?_)⟩
  rotate_left
  · have e0 : ¬ x = 0 := by rintro rfl; revert y4; decide
    have e1 : ¬ x = 1 := by rintro rfl; revert y4; decide
    have e2 : ¬ x = 2 := by rintro rfl; revert y4; decide
    have e3 : ¬ x = 3 := by rintro rfl; revert y4; decide
    rwa [if_neg e0, if_neg e1, if_neg e2, if_neg e3, if_pos y4] at hp
  simp only [b2i_eq0, Decidable.not_not]
  refine ⟨fun n14 => ?_, fun y14 => ?_⟩
  · have z4 : ¬ x = 4 := fun z => n4 (Or.inl z)
    have z5 : ¬ x = 5 := fun z => n4 (Or.inr (Or.inl z))
    have z6 : ¬ x = 6 := fun z => n4 (Or.inr (Or.inr z))
    refine ⟨fun e => qi ?_, fun e0 => ⟨fun e => qi ?_, fun e1 => ⟨fun e => qi ?_, fun e2 => ⟨fun e => qi ?_, fun e3 => ⟨fun e => absurd e z4, fun _ => ⟨fun e => absurd e z5, fun _ => ⟨fun e => absurd e z6, fun _ => ⟨fun e => T_St_settledChildren hO.1.1 (qi ?_), fun e7 => ⟨fun e => qi ?_, fun e8 => ⟨fun e => qi ?_, fun e9 => ⟨fun e => qi ?_, fun e10 => ⟨fun e => T_St_plannedVisits hO.1.1 (qi ?_), fun e11 => ⟨fun e => qi ?_, fun e12 => ⟨fun e => qi ?_, fun e13 => qi ?_⟩⟩⟩⟩⟩⟩⟩⟩⟩⟩⟩⟩⟩⟩
    · rw [if_pos e] at hp; rw [wr_2]; exact hp
    · rw [if_neg e0, if_pos e] at hp; rw [wr_2]; exact hp
    · rw [if_neg e0, if_neg e1, if_pos e] at hp; rw [wr_2]; exact hp
    · rw [if_neg e0, if_neg e1, if_neg e2, if_pos e] at hp; rw [wr_2]; exact hp
    · rwa [if_neg e0, if_neg e1, if_neg e2, if_neg e3, if_neg n4, if_pos e] at hp
    · rw [if_neg e0, if_neg e1, if_neg e2, if_neg e3, if_neg n4, if_neg e7, if_pos e] at hp; rw [wr_2]; exact hp
    · rw [if_neg e0, if_neg e1, if_neg e2, if_neg e3, if_neg n4, if_neg e7, if_neg e8, if_pos e] at hp; rw [wr_2]; exact hp
    · rw [if_neg e0, if_neg e1, if_neg e2, if_neg e3, if_neg n4, if_neg e7, if_neg e8, if_neg e9, if_pos e] at hp; rw [wr_2]; exact hp
    · rwa [if_neg e0, if_neg e1, if_neg e2, if_neg e3, if_neg n4, if_neg e7, if_neg e8, if_neg e9, if_neg e10, if_pos e] at hp
    · rw [if_neg e0, if_neg e1, if_neg e2, if_neg e3, if_neg n4, if_neg e7, if_neg e8, if_neg e9, if_neg e10, if_neg e11, if_pos e] at hp; rw [wr_big (by decide)]; exact hp
    · rw [if_neg e0, if_neg e1, if_neg e2, if_neg e3, if_neg n4, if_neg e7, if_neg e8, if_neg e9, if_neg e10, if_neg e11, if_neg e12, if_pos e] at hp; rw [wr_big (by decide)]; exact hp
    · rwa [if_neg e0, if_neg e1, if_neg e2, if_neg e3, if_neg n4, if_neg e7, if_neg e8, if_neg e9, if_neg e10, if_neg e11, if_neg e12, if_neg e13, if_neg n14] at hp
  · have h0 : ¬ x < 0 := fun z => y14.1 (Int32.lt_trans z (by decide))
    obtain ⟨q, hq, rfl⟩ := nI_of2 (M := 18) (n := 18) (by decide) h0 (Int32.not_lt.mp y14.2)
    have hq14 := ((win (q := q) (a := 14) (b := 18) (by omega) (by decide) (by decide)).mp y14).1
    have ne : ∀ k, k < 14 → ¬ nI q = nI k := fun k hk z => by rw [nI_eq (by omega) (by omega)] at z; omega
    rw [if_neg (show ¬ nI q = 0 from ne 0 (by decide)), if_neg (show ¬ nI q = 1 from ne 1 (by decide)), if_neg (show ¬ nI q = 2 from ne 2 (by decide)), if_neg (show ¬ nI q = 3 from ne 3 (by decide)), if_neg n4, if_neg (show ¬ nI q = 7 from ne 7 (by decide)), if_neg (show ¬ nI q = 8 from ne 8 (by decide)), if_neg (show ¬ nI q = 9 from ne 9 (by decide)), if_neg (show ¬ nI q = 10 from ne 10 (by decide)), if_neg (show ¬ nI q = 11 from ne 11 (by decide)), if_neg (show ¬ nI q = 12 from ne 12 (by decide)), if_neg (show ¬ nI q = 13 from ne 13 (by decide)), if_pos y14] at hp
    rw [show nI q - 14 = nI (q - 14) from pk_sub hq14] at hp ⊢
    rw [nI_clamp (n := q - 14) (by omega)] at hp ⊢
    rw [wr_3]
    exact ⟨vp_in_nI (by omega) (by omega), qi hp⟩
theorem hir_car {N : Nu} {r d f t : Int32} {room day hour : Int32} (h13 : nC N ≤ 12) : carersF (hirN N r d f t) room day hour 1 = carersF N room day hour 1 + (if r = room ∧ Has d day ∧ ¬ hour < f ∧ ¬ t ≤ hour then 1 else 0) := by
  unfold carersF
  rw [hirN_nC (by omega)]
  have e1 : cnt (dutyP (hirN N r d f t) room day hour 1) (nC N) = cnt (dutyP N room day hour 1) (nC N) := cnt_congr fun j hj => by
    have ne : ¬ j = nC N := by omega
    unfold dutyP
    rw [hirN_o ⟨fun q => ne q.2, by simp⟩, hirN_o ⟨fun q => ne q.2, by simp⟩, hirN_o ⟨fun q => ne q.2, by simp⟩, hirN_o ⟨fun q => ne q.2, by simp⟩, hirN_o ⟨fun q => ne q.2, by simp⟩]
  have q0 : hirN N r d f t 8 (nC N) 0 = r := by simp [hirN, nset_ap]
  have q1 : hirN N r d f t 8 (nC N) 1 = d := by simp [hirN, nset_ap]
  have q2 : hirN N r d f t 8 (nC N) 2 = f := by simp [hirN, nset_ap]
  have q3 : hirN N r d f t 8 (nC N) 3 = t := by simp [hirN, nset_ap]
  have hd : dutyP (hirN N r d f t) room day hour 1 (nC N) ↔ (r = room ∧ Has d day ∧ ¬ hour < f ∧ ¬ t ≤ hour) := by
    unfold dutyP
    rw [q0, q1, q2, q3]
    exact ⟨fun q => ⟨q.1, q.2.2⟩, fun q => ⟨q.1, Or.inl (by decide), q.2⟩⟩
  by_cases h : r = room ∧ Has d day ∧ ¬ hour < f ∧ ¬ t ≤ hour
  · rw [cnt_t (hd.mpr h), if_pos h, e1, nI_succ]
  · rw [cnt_f (fun q => h (hd.mp q)), if_neg h, e1, Int32.add_zero]
end QU
theorem in9 {s : Nat} (hs : s < 10) : ¬ nI s < 0 ∧ ¬ 9 < nI s := (win (a := 0) (b := 9) (by omega) (by decide) (by decide)).mpr ⟨by omega, by omega⟩
