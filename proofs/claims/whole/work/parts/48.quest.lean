/-! THE QUESTIONS, of class and reference -/
theorem win {q a b : Nat} (hq : q < 2 ^ 31) (ha : a < 2 ^ 31) (hb : b < 2 ^ 31) : (¬ nI q < nI a ∧ ¬ nI b < nI q) ↔ (a ≤ q ∧ q ≤ b) := by
  rw [nI_ltI hq ha, nI_ltI hb hq]
  omega
def ofCaF (N : Nu) (x y : Int32) : Int32 := if ¬ x < 0 ∧ ¬ N 2 0 5 ≤ x then (if y = 0 ∨ y = 1 ∨ y = 2 ∨ y = 3 ∨ y = 4 then N 8 x.toNatClampNeg y.toNatClampNeg else -2) else -1
def ofChF (N : Nu) (x y : Int32) : Int32 := if ¬ x < 0 ∧ ¬ N 2 0 6 ≤ x then (if ¬ y < 0 ∧ ¬ 12 < y then N 9 x.toNatClampNeg y.toNatClampNeg else -2) else -1
def frF (N : Nu) (x y : Int32) : Int32 := if (¬ x < 0 ∧ ¬ N 2 0 4 ≤ x) ∧ (¬ y < 0 ∧ ¬ 9 < y) then (if placesF N x.toNatClampNeg y.toNatClampNeg 1 - takenF N x y < 0 then 0 else placesF N x.toNatClampNeg y.toNatClampNeg 1 - takenF N x y) else -1
def wgF (N : Nu) (x : Int32) : Int32 := if ¬ x < 0 ∧ ¬ N 2 0 6 ≤ x then (if N 9 x.toNatClampNeg 3 = 0 then getsF N x.toNatClampNeg else -5) else -1
def paF (N : Nu) (x y z : Int32) : Int32 := if (¬ x < 0 ∧ ¬ N 2 0 6 ≤ x) ∧ (¬ y < 0 ∧ ¬ 9 < y) ∧ (¬ z < 0 ∧ ¬ 9 < z) then setI (fun j => ¬ x.toNatClampNeg = j ∧ canP N x.toNatClampNeg y.toNatClampNeg j z.toNatClampNeg) (nK N) else -1
def orF (N : Nu) (x y : Int32) : Int32 := if ¬ x < 0 ∧ ¬ N 2 0 4 ≤ x then (if y = 0 ∨ y = 1 ∨ y = 2 ∨ y = 3 then N 7 x.toNatClampNeg y.toNatClampNeg else if y = 4 then setI (fun j => N 8 j 0 = x) (nC N) else if y = 5 then setI (fun j => N 9 j 4 = x) (nK N) else if ¬ y < 10 ∧ ¬ 19 < y then placesF N x.toNatClampNeg (y - 10).toNatClampNeg 1 else if ¬ y < 20 ∧ ¬ 29 < y then takenF N x (y - 20) else if ¬ y < 30 ∧ ¬ 39 < y then placesF N x.toNatClampNeg (y - 30).toNatClampNeg 0 else -2) else -1
section QU
variable {g : Wg} {m : Mm} {v : Nat → Int32} {P : Int32 → Mm → Prop} {PV : Mm → Prop} {N : Nu}
theorem T_N_ofCarer {x y : Int32} (hO : Ok N) (hp : P (ofCaF N x y) (wr m 0 N)) : RunI g h_N_ofCarer [vO 1 0 0, vI x, vI y] (wr m 0 N) P := by
  have h12 := hO.1.2
  refine RunI.ofGo rfl rfl (b_N_ofCarer_0 (T_St_hasCarer ?_))
  simp only [b2i_eq0, Decidable.not_not]
  unfold ofCaF at hp
  refine ⟨fun a => ?_, fun a => qi ?_⟩
  rotate_left
  · rwa [if_neg a] at hp
  rw [if_pos a] at hp
  rw [hO.1.1.2.1.1] at a
  obtain ⟨c, hc, rfl⟩ := (hasG (by omega)).mp a
  have ec := nI_clamp (n := c) (by omega)
  rw [ec] at hp
  simp only [ec, wr_8]
  refine ⟨vp_in_nI (by omega) (by omega), ?_⟩
  have h01 := (hO.2.2.2.1.1 c hc).2
  refine ⟨fun e => qi ?_, fun e0 => ⟨fun e => qi ?_, fun e1 => ⟨fun e => qi ?_, fun e2 => ⟨fun e => qi ?_, fun e3 => ⟨fun e => ⟨fun z => qi ?_, fun z => qi ?_⟩, fun e4 => qi ?_⟩⟩⟩⟩⟩
  · rw [if_pos (Or.inl e), e] at hp; exact hp
  · rw [if_pos (Or.inr (Or.inl e)), e] at hp; exact hp
  · rw [if_pos (Or.inr (Or.inr (Or.inl e))), e] at hp; exact hp
  · rw [if_pos (Or.inr (Or.inr (Or.inr (Or.inl e)))), e] at hp; exact hp
  · rw [if_pos (Or.inr (Or.inr (Or.inr (Or.inr e)))), e] at hp
    have hp2 : P (N 8 c 4) (wr m 0 N) := hp
    rwa [z] at hp2
  · rw [if_pos (Or.inr (Or.inr (Or.inr (Or.inr e)))), e] at hp
    have hp2 : P (N 8 c 4) (wr m 0 N) := hp
    rwa [h01.resolve_left z] at hp2
  · rwa [if_neg (fun q => q.elim e0 (fun q => q.elim e1 (fun q => q.elim e2 (fun q => q.elim e3 e4))))] at hp
theorem S_Md_ofCarer {x y : Int32} (hR : RelR N v) (hO : Ok N) (hp : P (ofCaF N x y) (wv m v)) : RunI g h_Md_ofCarer [vO 17 0 0, vI x, vI y] (wv m v) P := by
  have h12 := hO.1.2
  refine RunI.ofGo rfl rfl (b_Md_ofCarer_0 (S_Md_isCarer hR hO.1.1 ?_))
  simp only [b2i_eq0, Decidable.not_not]
  unfold ofCaF at hp
  refine ⟨fun a => S_Md_in ?_, fun a => qi ?_⟩
  rotate_left
  · rwa [if_neg a] at hp
  rw [if_pos a] at hp
  rw [hO.1.1.2.1.1] at a
  obtain ⟨c, hc, rfl⟩ := (hasG (by omega)).mp a
  have ec := nI_clamp (n := c) (by omega)
  rw [ec] at hp
  simp only [b2i_eq0, Decidable.not_not]
  have hy : (¬ y < 0 ∧ ¬ 4 < y) ↔ (y = 0 ∨ y = 1 ∨ y = 2 ∨ y = 3 ∨ y = 4) := by
    constructor
    · rintro ⟨h1, h2⟩
      obtain ⟨q, hq, rfl⟩ := nI_of2 (M := 4) (n := 4) (by decide) h1 (Int32.not_lt.mp h2)
      rcases (show q = 0 ∨ q = 1 ∨ q = 2 ∨ q = 3 ∨ q = 4 by omega) with rfl | rfl | rfl | rfl | rfl <;> decide
    · rintro (rfl | rfl | rfl | rfl | rfl) <;> decide
  rw [hy]
  refine ⟨fun b => qi ?_, fun b => ?_⟩
  · rwa [if_neg b] at hp
  · rw [if_pos b] at hp
    obtain ⟨q, hq, rfl⟩ := nI_of2 (M := 4) (n := 4) (by decide) (hy.mpr b).1 (Int32.not_lt.mp (hy.mpr b).2)
    have ix : ((33 + (5 * nI c)) + nI q : Int32) = nI (33 + 5 * c + q) := ix3 33 5 c q
    rw [nI_clamp (n := q) (by omega)] at hp
    rw [ix, nI_clamp (n := 33 + 5 * c + q) (by omega), wv_at, hR.c h12 hc (by omega)]
    exact ⟨vp_in_nI (by omega) (by omega), qi hp⟩
theorem T_N_ofChild {x y : Int32} (hO : Ok N) (hp : P (ofChF N x y) (wr m 0 N)) : RunI g h_N_ofChild [vO 1 0 0, vI x, vI y] (wr m 0 N) P := by
  have h24 := hO.1.1.2.2.2
  refine RunI.ofGo rfl rfl (b_N_ofChild_0 (T_St_hasChild ?_))
  simp only [b2i_eq0, Decidable.not_not]
  unfold ofChF at hp
  refine ⟨fun a => ?_, fun a => qi ?_⟩
  rotate_left
  · rwa [if_neg a] at hp
  rw [if_pos a] at hp
  rw [hO.1.1.2.2.1] at a
  obtain ⟨c, hc, rfl⟩ := (hasG (by omega)).mp a
  have ec := nI_clamp (n := c) (by omega)
  rw [ec] at hp
  simp only [ec, wr_9]
  refine ⟨vp_in_nI (by omega) (by omega), ?_⟩
  have h01 := (hO.k1 hc).2.2.1
  have yes : ∀ q, q ≤ 12 → y = nI q → P (N 9 c q) (wr m 0 N) := by
    intro q hq e
    rw [e, if_pos (show ¬ nI q < 0 ∧ ¬ 12 < nI q from (win (a := 0) (b := 12) (by omega) (by decide) (by decide)).mpr ⟨by omega, hq⟩), nI_clamp (by omega)] at hp
    exact hp
  refine ⟨fun e => qi (yes 0 (by omega) e), fun e0 => ⟨fun e => qi (yes 1 (by omega) e), fun e1 => ⟨fun e => qi (yes 2 (by omega) e), fun e2 => ⟨fun e => qi (yes 3 (by omega) e), fun e3 => ⟨fun e => qi (yes 4 (by omega) e), fun e4 => ⟨fun e => qi (yes 5 (by omega) e), fun e5 => ⟨fun e => ⟨fun z => qi ?_, fun z => qi ?_⟩, fun e6 => ⟨fun e => qi (yes 7 (by omega) e), fun e7 => ⟨fun e => qi (yes 8 (by omega) e), fun e8 => ⟨fun e => qi (yes 9 (by omega) e), fun e9 => ⟨fun e => qi (yes 10 (by omega) e), fun e10 => ⟨fun e => qi (yes 11 (by omega) e), fun e11 => ⟨fun e => qi (yes 12 (by omega) e), fun e12 => qi ?_⟩⟩⟩⟩⟩⟩⟩⟩⟩⟩⟩⟩⟩
  · have := yes 6 (by omega) e
    rwa [z] at this
  · have := yes 6 (by omega) e
    rwa [h01.resolve_left z] at this
  · rwa [if_neg] at hp
    rintro ⟨h1, h2⟩
    obtain ⟨q, hq, rfl⟩ := nI_of2 (M := 12) (n := 12) (by decide) h1 (Int32.not_lt.mp h2)
    rcases (show q = 0 ∨ q = 1 ∨ q = 2 ∨ q = 3 ∨ q = 4 ∨ q = 5 ∨ q = 6 ∨ q = 7 ∨ q = 8 ∨ q = 9 ∨ q = 10 ∨ q = 11 ∨ q = 12 by omega) with rfl | rfl | rfl | rfl | rfl | rfl | rfl | rfl | rfl | rfl | rfl | rfl | rfl
    · exact e0 rfl
    · exact e1 rfl
    · exact e2 rfl
    · exact e3 rfl
    · exact e4 rfl
    · exact e5 rfl
    · exact e6 rfl
    · exact e7 rfl
    · exact e8 rfl
    · exact e9 rfl
    · exact e10 rfl
    · exact e11 rfl
    · exact e12 rfl
theorem S_Md_ofChild {x y : Int32} (hR : RelR N v) (hO : Ok N) (hp : P (ofChF N x y) (wv m v)) : RunI g h_Md_ofChild [vO 17 0 0, vI x, vI y] (wv m v) P := by
  have hB := hO.1.1
  have h24 := hB.2.2.2
  refine RunI.ofGo rfl rfl (b_Md_ofChild_0 (S_Md_isChild hR hB ?_))
  simp only [b2i_eq0, Decidable.not_not]
  unfold ofChF at hp
  refine ⟨fun a => S_Md_in ?_, fun a => qi ?_⟩
  rotate_left
  · rwa [if_neg a] at hp
  rw [if_pos a] at hp
  rw [hB.2.2.1] at a
  obtain ⟨c, hc, rfl⟩ := (hasG (by omega)).mp a
  have ec := nI_clamp (n := c) (by omega)
  rw [ec] at hp
  simp only [b2i_eq0, Decidable.not_not]
  refine ⟨fun b => ?_, fun b => qi ?_⟩
  rotate_left
  · rwa [if_neg b] at hp
  rw [if_pos b] at hp
  obtain ⟨q, hq, rfl⟩ := nI_of2 (M := 12) (n := 12) (by decide) b.1 (Int32.not_lt.mp b.2)
  rw [nI_clamp (n := q) (by omega)] at hp
  refine ⟨fun e => S_Md_of (c := c) (j := q) (by omega) (by omega) (qi ?_), fun e => S_Md_of (c := c) (j := 3) (by omega) (by decide) ?_⟩
  · rw [hR.k (j := q) hB hc (by omega) (fun z => absurd (by rw [z]; rfl) e)]
    exact hp
  · have e4 : q = 4 := (nI_eq (b := 4) (by omega) (by omega)).mp e
    subst e4
    rw [hR.k (j := 3) hB hc (by decide) (fun z => absurd z (by decide))]
    refine ⟨fun d => S_Md_of (c := c) (j := 4) (by omega) (by decide) (qi ?_), fun d => qi ?_⟩
    · rw [hR.k (j := 4) hB hc (by decide) (fun _ => d)]
      exact hp
    · rwa [((hO.2.1 c hc).2 d).1] at hp
theorem T_N_free {x y : Int32} (hO : Ok N) (hp : P (frF N x y) (wr m 0 N)) : RunI g h_N_free [vO 1 0 0, vI x, vI y] (wr m 0 N) P := by
  have h5 := hO.1.1.1.2
  refine RunI.ofGo rfl rfl (b_N_free_0 (T_St_hasRoom ?_))
  simp only [b2i_eq0, Decidable.not_not]
  unfold frF at hp
  refine ⟨fun a => qi ?_, fun a => S_N_isSession ?_⟩
  · rwa [if_neg (fun q => a q.1)] at hp
  simp only [b2i_eq0, Decidable.not_not]
  refine ⟨fun b => ?_, fun b => qi ?_⟩
  rotate_left
  · rwa [if_neg (fun q => b q.2)] at hp
  rw [if_pos ⟨a, b⟩] at hp
  rw [hO.1.1.1.1] at a
  obtain ⟨r, hr, rfl⟩ := (hasG (by omega)).mp a
  obtain ⟨s, hs, rfl⟩ := nI_of2 (M := 9) (n := 9) (by decide) b.1 (Int32.not_lt.mp b.2)
  rw [nI_clamp (n := r) (by omega), nI_clamp (n := s) (by omega)] at hp
  refine T_St_placesIn hO.1.1 hr (by omega) (T_St_takenIn hO.1.1 (qi ?_))
  generalize placesF N r s 1 - takenF N (nI r) (nI s) = d at hp ⊢
  by_cases h : d < 0
  · rw [if_pos h] at hp
    rw [if_neg (fun z => Int32.lt_irrefl (Int32.lt_trans z h))]
    exact hp
  · rw [if_neg h] at hp
    by_cases h2 : (0 : Int32) < d
    · rw [if_pos h2]; exact hp
    · rw [if_neg h2]
      have : d = 0 := by
        apply Int32.toInt_inj.mp
        rw [Int32.lt_iff_toInt_lt, Int32.toInt_zero] at h h2
        rw [Int32.toInt_zero]
        omega
      rwa [this] at hp
theorem S_Md_free {x y : Int32} (hR : RelR N v) (hO : Ok N) (hp : P (frF N x y) (wv m v)) : RunI g h_Md_free [vO 17 0 0, vI x, vI y] (wv m v) P := by
  have h5 := hO.1.1.1.2
  refine RunI.ofGo rfl rfl (b_Md_free_0 (S_Md_isRoom hR hO.1.1 ?_))
  simp only [b2i_eq0, Decidable.not_not]
  unfold frF at hp
  refine ⟨fun a => qi ?_, fun a => S_Md_isSession ?_⟩
  · rwa [if_neg (fun q => a q.1)] at hp
  simp only [b2i_eq0, Decidable.not_not]
  refine ⟨fun b => ?_, fun b => qi ?_⟩
  rotate_left
  · rwa [if_neg (fun q => b q.2)] at hp
  rw [if_pos ⟨a, b⟩] at hp
  rw [hO.1.1.1.1] at a
  obtain ⟨r, hr, rfl⟩ := (hasG (by omega)).mp a
  obtain ⟨s, hs, rfl⟩ := nI_of2 (M := 9) (n := 9) (by decide) b.1 (Int32.not_lt.mp b.2)
  rw [nI_clamp (n := r) (by omega), nI_clamp (n := s) (by omega)] at hp
  refine S_Md_places hR hO hr (by omega) (S_Md_taken hR hO hr ⟨fun z => qi ?_, fun z => qi ?_⟩)
  · rwa [if_neg (Int32.not_lt.mpr z)] at hp
  · rwa [if_pos (Int32.not_le.mp z)] at hp
theorem T_N_wouldGet {x : Int32} (hO : Ok N) (hp : P (wgF N x) (wr m 0 N)) : RunI g h_N_wouldGet [vO 1 0 0, vI x] (wr m 0 N) P := by
  have h24 := hO.1.1.2.2.2
  refine RunI.ofGo rfl rfl (b_N_wouldGet_0 (T_St_hasChild ?_))
  simp only [b2i_eq0, Decidable.not_not]
  unfold wgF at hp
  refine ⟨fun a => ?_, fun a => qi ?_⟩
  rotate_left
  · rwa [if_neg a] at hp
  rw [if_pos a] at hp
  rw [hO.1.1.2.2.1] at a
  obtain ⟨c, hc, rfl⟩ := (hasG (by omega)).mp a
  have ec := nI_clamp (n := c) (by omega)
  rw [ec] at hp
  simp only [ec, wr_9]
  refine ⟨vp_in_nI (by omega) (by omega), fun b => T_Ad_sessionsFor hO.1.1 hc (qi ?_), fun b => qi ?_⟩
  · rwa [if_pos b] at hp
  · rwa [if_neg b] at hp
theorem S_Md_wouldGet {x : Int32} (hR : RelR N v) (hO : Ok N) (hp : P (wgF N x) (wv m v)) : RunI g h_Md_wouldGet [vO 17 0 0, vI x] (wv m v) P := by
  have h24 := hO.1.1.2.2.2
  refine RunI.ofGo rfl rfl (b_Md_wouldGet_0 (S_Md_isChild hR hO.1.1 ?_))
  simp only [b2i_eq0, Decidable.not_not]
  unfold wgF at hp
  refine ⟨fun a => ?_, fun a => qi ?_⟩
  rotate_left
  · rwa [if_neg a] at hp
  rw [if_pos a] at hp
  rw [hO.1.1.2.2.1] at a
  obtain ⟨c, hc, rfl⟩ := (hasG (by omega)).mp a
  have ec := nI_clamp (n := c) (by omega)
  rw [ec] at hp
  refine S_Md_of (c := c) (j := 3) (by omega) (by decide) ?_
  rw [hR.k (j := 3) hO.1.1 hc (by decide) (fun z => absurd z (by decide))]
  refine ⟨fun b => qi ?_, fun b => S_Md_gets hR hO hc (qi ?_)⟩
  · rwa [if_neg b] at hp
  · rwa [if_pos b] at hp
theorem T_N_partners {x y z : Int32} (hO : Ok N) (hp : P (paF N x y z) (wr m 0 N)) : RunI g h_N_partners [vO 1 0 0, vI x, vI y, vI z] (wr m 0 N) P := by
  have h24 := hO.1.1.2.2.2
  have hn := hO.1.1.2.2.1
  refine RunI.ofGo rfl rfl (b_N_partners_0 (T_St_hasChild ?_))
  simp only [b2i_eq0, Decidable.not_not]
  unfold paF at hp
  refine ⟨fun a => qi ?_, fun a => S_N_isSession ?_⟩
  · rwa [if_neg (fun q => a q.1)] at hp
  simp only [b2i_eq0, Decidable.not_not]
  refine ⟨fun b => qi ?_, fun b => S_N_isSession ?_⟩
  · rwa [if_neg (fun q => b q.2.1)] at hp
  simp only [b2i_eq0, Decidable.not_not]
  refine ⟨fun d => ?_, fun d => qi ?_⟩
  rotate_left
  · rwa [if_neg (fun q => d q.2.2)] at hp
  rw [if_pos ⟨a, b, d⟩] at hp
  rw [hn] at a
  obtain ⟨c, hc, rfl⟩ := (hasG (by omega)).mp a
  obtain ⟨s, hs, rfl⟩ := nI_of2 (M := 9) (n := 9) (by decide) b.1 (Int32.not_lt.mp b.2)
  obtain ⟨t, ht, rfl⟩ := nI_of2 (M := 9) (n := 9) (by decide) d.1 (Int32.not_lt.mp d.2)
  rw [nI_clamp (n := c) (by omega), nI_clamp (n := s) (by omega), nI_clamp (n := t) (by omega)] at hp
  refine loopN (G := fun j => Go g h_N_partners (QI P) 33 [(0, vO 1 0 0), (1, vI (nI c)), (2, vI (nI s)), (3, vI (nI t)), (4, vI (setI (fun j => ¬ c = j ∧ canP N c s j t) j)), (5, vI (nI j))] [] (wr m 0 N)) (nK N) ?_ ?_ 0 (Nat.zero_le _)
  · exact b_N_partners_33 ⟨fun _ => qi hp, fun q => absurd (by rw [wr_2, hn]; exact le_self _) q⟩
  · intro j hj ih
    have hT := setI_t (p := fun j => ¬ c = j ∧ canP N c s j t) (n := j)
    have hF := setI_f (p := fun j => ¬ c = j ∧ canP N c s j t) (n := j)
    refine b_N_partners_33 ⟨fun q => absurd q (by rw [wr_2, hn]; exact nI_ge hj (by omega)), fun _ => ⟨fun e => ?_, fun e => T_Se_canExchange hO.1.1 hO.2.1 hc (by omega) hj (by omega) ?_⟩⟩
    · rw [nI_eq (by omega) (by omega)] at e
      rw [hF (fun q => q.1 e.symm)] at ih
      rw [nI_1]
      exact ih
    · rw [nI_eq (by omega) (by omega)] at e
      simp only [b2i_eq0, Decidable.not_not]
      rw [nI_1]
      refine ⟨fun q => ?_, fun q => ?_⟩
      · rw [hF (fun z => q z.2)] at ih
        exact ih
      · rw [hT ⟨fun z => e z.symm, q⟩] at ih
        exact ih
theorem S_Md_partners {x y z : Int32} (hR : RelR N v) (hO : Ok N) (hp : P (paF N x y z) (wv m v)) : RunI g h_Md_partners [vO 17 0 0, vI x, vI y, vI z] (wv m v) P := by
  have h24 := hO.1.1.2.2.2
  have hn := hO.1.1.2.2.1
  refine RunI.ofGo rfl rfl (b_Md_partners_0 (S_Md_isChild hR hO.1.1 ?_))
  simp only [b2i_eq0, Decidable.not_not]
  unfold paF at hp
  refine ⟨fun a => qi ?_, fun a => S_Md_isSession ?_⟩
  · rwa [if_neg (fun q => a q.1)] at hp
  simp only [b2i_eq0, Decidable.not_not]
  refine ⟨fun b => qi ?_, fun b => S_Md_isSession ?_⟩
  · rwa [if_neg (fun q => b q.2.1)] at hp
  simp only [b2i_eq0, Decidable.not_not]
  refine ⟨fun d => ?_, fun d => qi ?_⟩
  rotate_left
  · rwa [if_neg (fun q => d q.2.2)] at hp
  rw [if_pos ⟨a, b, d⟩] at hp
  rw [hn] at a
  obtain ⟨c, hc, rfl⟩ := (hasG (by omega)).mp a
  obtain ⟨s, hs, rfl⟩ := nI_of2 (M := 9) (n := 9) (by decide) b.1 (Int32.not_lt.mp b.2)
  obtain ⟨t, ht, rfl⟩ := nI_of2 (M := 9) (n := 9) (by decide) d.1 (Int32.not_lt.mp d.2)
  rw [nI_clamp (n := c) (by omega), nI_clamp (n := s) (by omega), nI_clamp (n := t) (by omega)] at hp
  refine loopN (G := fun j => Go g h_Md_partners (QI P) 30 [(0, vO 17 0 0), (1, vI (nI c)), (2, vI (nI s)), (3, vI (nI t)), (4, vI (setI (fun j => ¬ c = j ∧ canP N c s j t) j)), (5, vI (nI j))] [] (wv m v)) (nK N) ?_ ?_ 0 (Nat.zero_le _)
  · exact b_Md_partners_30 ⟨vp_in_nI (n := 8) (by decide) (by decide), fun _ => qi hp, fun q => absurd (by rw [wv_at, hR.v8, hn]; exact le_self _) q⟩
  · intro j hj ih
    have hT := setI_t (p := fun j => ¬ c = j ∧ canP N c s j t) (n := j)
    have hF := setI_f (p := fun j => ¬ c = j ∧ canP N c s j t) (n := j)
    refine b_Md_partners_30 ⟨vp_in_nI (n := 8) (by decide) (by decide), fun q => absurd q (by rw [wv_at, hR.v8, hn]; exact nI_ge hj (by omega)), fun _ => S_Md_canSwap hR hO hc (by omega) hj (by omega) ?_⟩
    simp only [b2i_eq0, Decidable.not_not]
    rw [or_0, nI_1]
    refine ⟨fun q => ?_, fun q => ?_⟩
    · rw [hF q] at ih
      exact ih
    · rw [hT q] at ih
      exact ih
theorem sub_nI {q a : Nat} (h : a ≤ q) : nI q - nI a = nI (q - a) := pk_sub h
theorem T_N_ofRoom {x y : Int32} (hO : Ok N) (hp : P (orF N x y) (wr m 0 N)) : RunI g h_N_ofRoom [vO 1 0 0, vI x, vI y] (wr m 0 N) P := by
  have h5 := hO.1.1.1.2
  refine RunI.ofGo rfl rfl (b_N_ofRoom_0 (T_St_hasRoom ?_))
  simp only [b2i_eq0, Decidable.not_not]
  unfold orF at hp
  refine ⟨fun a => S_N_isWithin ?_, fun a => qi ?_⟩
  rotate_left
  · rwa [if_neg a] at hp
  rw [if_pos a] at hp
  rw [hO.1.1.1.1] at a
  obtain ⟨r, hr, rfl⟩ := (hasG (by omega)).mp a
  have er := nI_clamp (n := r) (by omega)
  rw [er] at hp
  have small : ∀ k : Int32, ¬ k < 10 → ¬ (k = 0 ∨ k = 1 ∨ k = 2 ∨ k = 3) ∧ ¬ k = 4 ∧ ¬ k = 5 := by
    intro k hk
    refine ⟨?_, ?_, ?_⟩
    · rintro (rfl | rfl | rfl | rfl) <;> exact hk (by decide)
    · rintro rfl; exact hk (by decide)
    · rintro rfl; exact hk (by decide)
  simp only [b2i_eq0, Decidable.not_not]
  refine ⟨fun n1 => S_N_isWithin ?_, fun y1 => ?_⟩
  rotate_left
  · obtain ⟨s1, s2, s3⟩ := small y y1.1
    rw [if_neg s1, if_neg s2, if_neg s3, if_pos y1] at hp
    have y0 : ¬ y < 0 := fun z => y1.1 (Int32.lt_trans z (by decide))
    obtain ⟨q, hq, rfl⟩ := nI_of2 (M := 19) (n := 19) (by decide) y0 (Int32.not_lt.mp y1.2)
    have h10 : 10 ≤ q := ((win (a := 10) (b := 19) (by omega) (by decide) (by decide)).mp y1).1
    rw [show nI q - 10 = nI (q - 10) from pk_sub h10] at hp ⊢
    rw [nI_clamp (n := q - 10) (by omega)] at hp
    exact T_St_placesIn hO.1.1 hr (by omega) (qi hp)
  simp only [b2i_eq0, Decidable.not_not]
  refine ⟨fun n2 => S_N_isWithin ?_, fun y2 => ?_⟩
  rotate_left
  · obtain ⟨s1, s2, s3⟩ := small y (fun z => y2.1 (Int32.lt_trans z (by decide)))
    rw [if_neg s1, if_neg s2, if_neg s3, if_neg n1, if_pos y2] at hp
    exact T_St_takenIn hO.1.1 (qi hp)
  simp only [b2i_eq0, Decidable.not_not]
  refine ⟨fun n3 => ?_, fun y3 => ?_⟩
  rotate_left
  · obtain ⟨s1, s2, s3⟩ := small y (fun z => y3.1 (Int32.lt_trans z (by decide)))
    rw [if_neg s1, if_neg s2, if_neg s3, if_neg n1, if_neg n2, if_pos y3] at hp
    have y0 : ¬ y < 0 := fun z => y3.1 (Int32.lt_trans z (by decide))
    obtain ⟨q, hq, rfl⟩ := nI_of2 (M := 39) (n := 39) (by decide) y0 (Int32.not_lt.mp y3.2)
    have h30 : 30 ≤ q := ((win (a := 30) (b := 39) (by omega) (by decide) (by decide)).mp y3).1
    rw [show nI q - 30 = nI (q - 30) from pk_sub h30] at hp ⊢
    rw [nI_clamp (n := q - 30) (by omega)] at hp
    exact T_St_placesIn hO.1.1 hr (by omega) (qi hp)
  simp only [er, wr_7]
  refine ⟨vp_in_nI (by omega) (by omega), fun e => qi ?_, fun e0 => ⟨fun e => qi ?_, fun e1 => ⟨fun e => qi ?_, fun e2 => ⟨fun e => qi ?_, fun e3 => ⟨fun e => ?_, fun e4 => ⟨fun e => ?_, fun e5 => qi ?_⟩⟩⟩⟩⟩⟩
  · rw [if_pos (Or.inl e), e] at hp; exact hp
  · rw [if_pos (Or.inr (Or.inl e)), e] at hp; exact hp
  · rw [if_pos (Or.inr (Or.inr (Or.inl e))), e] at hp; exact hp
  · rw [if_pos (Or.inr (Or.inr (Or.inr e))), e] at hp; exact hp
  · rw [if_neg (fun q => q.elim e0 (fun q => q.elim e1 (fun q => q.elim e2 e3))), if_pos e] at hp
    exact T_St_carersOf hO.1.1 (qi hp)
  · rw [if_neg (fun q => q.elim e0 (fun q => q.elim e1 (fun q => q.elim e2 e3))), if_neg e4, if_pos e] at hp
    exact T_St_childrenOf hO.1.1 (qi hp)
  · rwa [if_neg (fun q => q.elim e0 (fun q => q.elim e1 (fun q => q.elim e2 e3))), if_neg e4, if_neg e5, if_neg n1, if_neg n2, if_neg n3] at hp
theorem S_Md_ofRoom {x y : Int32} (hR : RelR N v) (hO : Ok N) (hp : P (orF N x y) (wv m v)) : RunI g h_Md_ofRoom [vO 17 0 0, vI x, vI y] (wv m v) P := by
  have hB := hO.1.1
  have h5 := hB.1.2
  have h12 := hO.1.2
  have h24 := hB.2.2.2
  refine RunI.ofGo rfl rfl (b_Md_ofRoom_0 (S_Md_isRoom hR hB ?_))
  simp only [b2i_eq0, Decidable.not_not]
  unfold orF at hp
  refine ⟨fun a => S_Md_in ?_, fun a => qi ?_⟩
  rotate_left
  · rwa [if_neg a] at hp
  rw [if_pos a] at hp
  rw [hB.1.1] at a
  obtain ⟨r, hr, rfl⟩ := (hasG (by omega)).mp a
  have er := nI_clamp (n := r) (by omega)
  rw [er] at hp
  have hy : (¬ y < 0 ∧ ¬ 3 < y) ↔ (y = 0 ∨ y = 1 ∨ y = 2 ∨ y = 3) := by
    constructor
    · rintro ⟨h1, h2⟩
      obtain ⟨q, hq, rfl⟩ := nI_of2 (M := 3) (n := 3) (by decide) h1 (Int32.not_lt.mp h2)
      rcases (show q = 0 ∨ q = 1 ∨ q = 2 ∨ q = 3 by omega) with rfl | rfl | rfl | rfl <;> decide
    · rintro (rfl | rfl | rfl | rfl) <;> decide
  have hy45 : (¬ y < 4 ∧ ¬ 5 < y) ↔ (y = 4 ∨ y = 5) := by
    constructor
    · rintro ⟨h1, h2⟩
      have h0 : ¬ y < 0 := fun z => h1 (Int32.lt_trans z (by decide))
      obtain ⟨q, hq, rfl⟩ := nI_of2 (M := 5) (n := 5) (by decide) h0 (Int32.not_lt.mp h2)
      rcases (show q = 0 ∨ q = 1 ∨ q = 2 ∨ q = 3 ∨ q = 4 ∨ q = 5 by omega) with rfl | rfl | rfl | rfl | rfl | rfl
      · exact absurd (by decide) h1
      · exact absurd (by decide) h1
      · exact absurd (by decide) h1
      · exact absurd (by decide) h1
      · decide
      · decide
    · rintro (rfl | rfl) <;> decide
  simp only [b2i_eq0, Decidable.not_not]
  rw [hy]
  refine ⟨fun n0 => S_Md_in ?_, fun y0 => ?_⟩
  rotate_left
  · rw [if_pos y0] at hp
    obtain ⟨q, hq, rfl⟩ := nI_of2 (M := 3) (n := 3) (by decide) (hy.mpr y0).1 (Int32.not_lt.mp (hy.mpr y0).2)
    have ix : ((13 + (4 * nI r)) + nI q : Int32) = nI (13 + 4 * r + q) := ix3 13 4 r q
    rw [nI_clamp (n := q) (by omega)] at hp
    rw [ix, nI_clamp (n := 13 + 4 * r + q) (by omega), wv_at, hR.r hB hr (by omega)]
    exact ⟨vp_in_nI (by omega) (by omega), qi hp⟩
  rw [if_neg n0] at hp
  simp only [b2i_eq0, Decidable.not_not]
  refine ⟨fun n1 => ?_, fun y1 => ?_⟩
  · -- sets
    have no1 : ¬ (¬ y < 10 ∧ ¬ 19 < y) := fun q => n1 ⟨q.1, fun z => q.2 (Int32.lt_trans (by decide) z)⟩
    have no2 : ¬ (¬ y < 20 ∧ ¬ 29 < y) := fun q => n1 ⟨fun z => q.1 (Int32.lt_trans z (by decide)), fun z => q.2 (Int32.lt_trans (by decide) z)⟩
    have no3 : ¬ (¬ y < 30 ∧ ¬ 39 < y) := fun q => n1 ⟨fun z => q.1 (Int32.lt_trans z (by decide)), q.2⟩
    rw [if_neg no1, if_neg no2, if_neg no3] at hp
    have fin5 : ∀ x3 : Int32, (y = 4 → x3 = setI (fun j => N 8 j 0 = nI r) (nC N)) → (¬ y = 4 → x3 = 0) → Go g h_Md_ofRoom (QI P) 150 [(0, vO 17 0 0), (1, vI (nI r)), (2, vI y), (3, vI x3), (4, vI 0)] [] (wv m v) := by
      intro x3 g4 g0
      by_cases e5 : y = 5
      · have e4 : ¬ y = 4 := by rw [e5]; decide
        rw [if_neg e4, if_pos e5] at hp
        rw [g0 e4]
        refine loopN (G := fun j => Go g h_Md_ofRoom (QI P) 150 [(0, vO 17 0 0), (1, vI (nI r)), (2, vI y), (3, vI (setI (fun j => N 9 j 4 = nI r) j)), (4, vI (nI j))] [] (wv m v)) (nK N) ?_ ?_ 0 (Nat.zero_le _)
        · refine b_Md_ofRoom_150 ⟨vp_in_nI (n := 8) (by decide) (by decide), fun _ => S_Md_in ?_, fun q => absurd (by rw [wv_at, hR.v8, hB.2.2.1]; exact le_self _) q⟩
          simp only [b2i_eq0, Decidable.not_not]
          rw [hy45]
          exact ⟨fun q => absurd (Or.inr e5) q, fun _ => qi hp⟩
        · intro j hj ih
          have hT := setI_t (p := fun j => N 9 j 4 = nI r) (n := j)
          have hF := setI_f (p := fun j => N 9 j 4 = nI r) (n := j)
          refine b_Md_ofRoom_150 ⟨vp_in_nI (n := 8) (by decide) (by decide), fun q => absurd q (by rw [wv_at, hR.v8, hB.2.2.1]; exact nI_ge hj (by omega)), fun _ => ⟨fun q => absurd e5 q, fun _ => S_Md_isIn hR hO hj ?_⟩⟩
          simp only [b2i_eq0, Decidable.not_not]
          rw [inP_iff hO hj (by omega), or_0, nI_1]
          refine ⟨fun q => ?_, fun q => ?_⟩
          · rw [hF q] at ih; exact ih
          · rw [hT q] at ih; exact ih
      · have out : ∀ c, (c = 0 → False) → True := fun _ _ => trivial
        have res : RunI g h_Md_in [vI y, vI 4, vI 5] (wv m v) (fun r1 m1 => (r1 = 0 → QI P (some (vI (-2))) m1) ∧ (¬ r1 = 0 → QI P (some (vI x3)) m1)) := by
          refine S_Md_in ?_
          simp only [b2i_eq0, Decidable.not_not]
          rw [hy45]
          refine ⟨fun q => qi ?_, fun q => qi ?_⟩
          · rwa [if_neg (fun z => q (Or.inl z)), if_neg e5] at hp
          · have e4 := q.resolve_right e5
            rw [if_pos e4] at hp
            rw [g4 e4]
            exact hp
        refine b_Md_ofRoom_150 ⟨vp_in_nI (n := 8) (by decide) (by decide), fun _ => res, fun _ => ⟨fun _ => res, fun q => absurd q e5⟩⟩
    by_cases e4 : y = 4
    · refine loopN (G := fun j => Go g h_Md_ofRoom (QI P) 97 [(0, vO 17 0 0), (1, vI (nI r)), (2, vI y), (3, vI (setI (fun j => N 8 j 0 = nI r) j)), (4, vI (nI j))] [] (wv m v)) (nC N) ?_ ?_ 0 (Nat.zero_le _)
      · exact b_Md_ofRoom_97 ⟨vp_in_nI (n := 7) (by decide) (by decide), fun _ => fin5 _ (fun _ => rfl) (fun q => absurd e4 q), fun q => absurd (by rw [wv_at, hR.v7, hB.2.1.1]; exact le_self _) q⟩
      · intro j hj ih
        have hT := setI_t (p := fun j => N 8 j 0 = nI r) (n := j)
        have hF := setI_f (p := fun j => N 8 j 0 = nI r) (n := j)
        have i0 : (33 + (5 * nI j) : Int32) = nI (33 + 5 * j + 0) := ix2 33 5 j
        refine b_Md_ofRoom_97 ⟨vp_in_nI (n := 7) (by decide) (by decide), fun q => absurd q (by rw [wv_at, hR.v7, hB.2.1.1]; exact nI_ge hj (by omega)), fun _ => ⟨fun q => absurd e4 q, fun _ => ?_⟩⟩
        rw [i0, nI_clamp (n := 33 + 5 * j + 0) (by omega), wv_at, hR.c h12 hj (by decide), or_0, nI_1]
        refine ⟨vp_in_nI (by omega) (by omega), fun q => ?_, fun q => ?_⟩
        · rw [hF q] at ih; exact ih
        · rw [hT q] at ih; exact ih
    · have f0 := fin5 0 (fun q => absurd q e4) (fun _ => rfl)
      exact b_Md_ofRoom_97 ⟨vp_in_nI (n := 7) (by decide) (by decide), fun _ => f0, fun _ => ⟨fun _ => f0, fun q => absurd q e4⟩⟩
  · have y0 : ¬ y < 0 := fun z => y1.1 (Int32.lt_trans z (by decide))
    obtain ⟨q, hq, rfl⟩ := nI_of2 (M := 39) (n := 39) (by decide) y0 (Int32.not_lt.mp y1.2)
    have h10 : 10 ≤ q := ((win (a := 10) (b := 39) (by omega) (by decide) (by decide)).mp y1).1
    have e4 : ¬ nI q = 4 := fun z => by rw [show (4 : Int32) = nI 4 from rfl, nI_eq (by omega) (by omega)] at z; omega
    have e5 : ¬ nI q = 5 := fun z => by rw [show (5 : Int32) = nI 5 from rfl, nI_eq (by omega) (by omega)] at z; omega
    rw [if_neg e4, if_neg e5] at hp
    have w1 : (¬ nI q < 10 ∧ ¬ 19 < nI q) ↔ (10 ≤ q ∧ q ≤ 19) := win (q := q) (a := 10) (b := 19) (by omega) (by decide) (by decide)
    have w2 : (¬ nI q < 20 ∧ ¬ 29 < nI q) ↔ (20 ≤ q ∧ q ≤ 29) := win (q := q) (a := 20) (b := 29) (by omega) (by decide) (by decide)
    have w3 : (¬ nI q < 30 ∧ ¬ 39 < nI q) ↔ (30 ≤ q ∧ q ≤ 39) := win (q := q) (a := 30) (b := 39) (by omega) (by decide) (by decide)
    refine ⟨fun z => ?_, fun z => ?_⟩
    · have z20 : 20 ≤ q := (nI_leI (a := 20) (by omega) (by omega)).mp z
      rw [if_neg (fun k => by have := (w1.mp k).2; omega)] at hp
      refine ⟨fun u => ?_, fun u => ?_⟩
      · have u30 : 30 ≤ q := (nI_leI (a := 30) (by omega) (by omega)).mp u
        rw [if_neg (fun k => by have := (w2.mp k).2; omega), if_pos (w3.mpr ⟨u30, hq⟩), show nI q - 30 = nI (q - 30) from pk_sub u30, nI_clamp (n := q - 30) (by omega)] at hp
        rw [show nI q - 30 = nI (q - 30) from pk_sub u30]
        exact S_Md_places hR hO hr (by omega) (qi hp)
      · have u30 : ¬ 30 ≤ q := fun k => u (nI_le (a := 30) k (by omega))
        rw [if_pos (w2.mpr ⟨z20, by omega⟩)] at hp
        exact S_Md_taken hR hO hr (qi hp)
    · have z20 : ¬ 20 ≤ q := fun k => z (nI_le (a := 20) k (by omega))
      rw [if_pos (w1.mpr ⟨h10, by omega⟩), show nI q - 10 = nI (q - 10) from pk_sub h10, nI_clamp (n := q - 10) (by omega)] at hp
      rw [show nI q - 10 = nI (q - 10) from pk_sub h10]
      exact S_Md_places hR hO hr (by omega) (qi hp)
end QU
