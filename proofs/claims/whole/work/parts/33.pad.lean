/-! THE PAD OF THE CLASS -/
/-- the text: signs and length; parsing as the class does it -/
abbrev dgP (sg : Nat → Int32) (L c : Nat) : Prop := c < L ∧ ¬ sg c < 48 ∧ ¬ 57 < sg c
def nulF (sg : Nat → Int32) (L : Nat) : Nat → Nat → Int32 → Bool × Nat × Int32
  | 0, c, n => (true, c, n)
  | f + 1, c, n => if dgP sg L c then (if n = 0 then (false, c, n) else if n * 10 + sg c - 48 ≤ 1023 then nulF sg L f (c + 1) (n * 10 + sg c - 48) else (false, c, n)) else (true, c, n)
def numF (sg : Nat → Int32) (L c : Nat) : Bool × Nat × Int32 := if dgP sg L c then nulF sg L (L - (c + 1)) (c + 1) (sg c - 48) else (false, c, 0)
def prtF (sg : Nat → Int32) (L : Nat) : List Int32 → Nat → Nat → (Nat → Int32) → Bool × Nat × Nat × (Nat → Int32)
  | [], c, nc, nu => (true, c, nc, nu)
  | p :: ps, c, nc, nu => if p = 78 then (if (numF sg L c).1 = true then prtF sg L ps (numF sg L c).2.1 (nc + 1) (upd nu nc (numF sg L c).2.2) else (false, (numF sg L c).2.1, nc, nu)) else if p = 68 then (if dgP sg L c then prtF sg L ps (c + 1) (nc + 1) (upd nu nc (sg c - 48)) else (false, c, nc, nu)) else if c < L ∧ sg c = p then prtF sg L ps (c + 1) nc nu else (false, c, nc, nu)
def frmF (x : Int32) : Option Nat := if x = 97 then some 4 else if x = 99 then some 0 else if x = 115 then some 3 else if x = 118 then some 1 else if x = 119 then some 3 else if x = 120 then some 2 else none
def fml (k : Nat) : List Int32 := match k with
  | 0 => [78, 47, 78, 58, 78]
  | 1 => [78, 64, 68]
  | 2 => [78, 64, 68, 61, 78, 64, 68]
  | 3 => [78]
  | _ => []
def ordF (sg : Nat → Int32) (L c : Nat) (nu : Nat → Int32) : Bool × Nat × Nat × (Nat → Int32) := if c < L then (match frmF (sg c) with
  | none => (false, c, 0, nu)
  | some k => prtF sg L (fml k) (c + 1) 0 nu) else (false, c, 0, nu)
theorem nulF_le {sg : Nat → Int32} {L : Nat} : ∀ f c n, c + f = L → c ≤ (nulF sg L f c n).2.1 ∧ (nulF sg L f c n).2.1 ≤ L
  | 0, c, n, h => ⟨Nat.le_refl _, by show c ≤ L; omega⟩
  | f + 1, c, n, h => by
    unfold nulF
    split
    · split
      · exact ⟨Nat.le_refl _, by show c ≤ L; omega⟩
      · split
        · have := nulF_le (sg := sg) (L := L) f (c + 1) (n * 10 + sg c - 48) (by omega)
          exact ⟨by omega, this.2⟩
        · exact ⟨Nat.le_refl _, by show c ≤ L; omega⟩
    · exact ⟨Nat.le_refl _, by show c ≤ L; omega⟩
theorem numF_le {sg : Nat → Int32} {L c : Nat} (hc : c ≤ L) : c ≤ (numF sg L c).2.1 ∧ (numF sg L c).2.1 ≤ L := by
  unfold numF
  split
  · rename_i h
    have := nulF_le (sg := sg) (L := L) (L - (c + 1)) (c + 1) (sg c - 48) (by have := h.1; omega)
    exact ⟨by omega, this.2⟩
  · exact ⟨Nat.le_refl _, hc⟩
theorem prtF_le {sg : Nat → Int32} {L : Nat} : ∀ ps c nc nu, c ≤ L → c ≤ (prtF sg L ps c nc nu).2.1 ∧ (prtF sg L ps c nc nu).2.1 ≤ L
  | [], c, nc, nu, h => ⟨Nat.le_refl _, h⟩
  | p :: ps, c, nc, nu, h => by
    unfold prtF
    split
    · have h2 := numF_le (sg := sg) h
      split
      · have := prtF_le (sg := sg) (L := L) ps (numF sg L c).2.1 (nc + 1) (upd nu nc (numF sg L c).2.2) h2.2
        exact ⟨by omega, this.2⟩
      · exact h2
    · split
      · split
        · rename_i h3
          have := prtF_le (sg := sg) (L := L) ps (c + 1) (nc + 1) (upd nu nc (sg c - 48)) (by have := h3.1; omega)
          exact ⟨by omega, this.2⟩
        · exact ⟨Nat.le_refl _, h⟩
      · split
        · rename_i h3
          have := prtF_le (sg := sg) (L := L) ps (c + 1) nc nu (by have := h3.1; omega)
          exact ⟨by omega, this.2⟩
        · exact ⟨Nat.le_refl _, h⟩
theorem ordF_le {sg : Nat → Int32} {L c : Nat} {nu : Nat → Int32} (h : c ≤ L) : c ≤ (ordF sg L c nu).2.1 ∧ (ordF sg L c nu).2.1 ≤ L := by
  unfold ordF
  split
  · split
    · exact ⟨Nat.le_refl _, h⟩
    · rename_i k _
      have := prtF_le (sg := sg) (L := L) (fml k) (c + 1) 0 nu (by omega)
      exact ⟨by omega, this.2⟩
  · exact ⟨Nat.le_refl _, h⟩
theorem ordF_ok {sg : Nat → Int32} {L c : Nat} {nu : Nat → Int32} (h : (ordF sg L c nu).1 = true) : c < (ordF sg L c nu).2.1 := by
  unfold ordF at h ⊢
  split at h
  · rename_i hc
    rw [if_pos hc]
    split at h
    · cases h
    · rename_i k e
      have := prtF_le (sg := sg) (L := L) (fml k) (c + 1) 0 nu (by omega)
      exact this.1
  · cases h
/-- what a fault is looked for with -/
def fltF (sg : Nat → Int32) (L : Nat) : Nat → Nat → (Nat → Int32) → Int32
  | 0, c, _ => nI c
  | f + 1, c, nu => if (ordF sg L c nu).1 = true then (if (ordF sg L c nu).2.1 = L then -6 else if sg (ordF sg L c nu).2.1 = 59 then fltF sg L f ((ordF sg L c nu).2.1 + 1) (ordF sg L c nu).2.2.2 else nI (ordF sg L c nu).2.1) else nI (ordF sg L c nu).2.1
/-- a memory with a pad's cursor, letter, numbers -/
def pw (m : Mm) (c : Nat) (kd : Int32) (nc : Nat) (nu : Nat → Int32) : Mm := fun o j => if o = (14, 0, 0) then (if j = 2 then nI c else if j = 3 then kd else if j = 5 then nI nc else m o j) else if o = (16, 0, 0) then nu j else m o j
section PD
variable {g : Wg} {m : Mm} {P : Int32 → Mm → Prop} {PV : Mm → Prop} {c nc L : Nat} {kd : Int32} {nu : Nat → Int32}
theorem pw_1 : pw m c kd nc nu (14, 0, 0) 1 = m (14, 0, 0) 1 := by simp [pw]
theorem pw_2 : pw m c kd nc nu (14, 0, 0) 2 = nI c := by simp [pw]
theorem pw_3 : pw m c kd nc nu (14, 0, 0) 3 = kd := by simp [pw]
theorem pw_5 : pw m c kd nc nu (14, 0, 0) 5 = nI nc := by simp [pw]
theorem pw_15 : pw m c kd nc nu (15, 0, 0) = m (15, 0, 0) := by funext j; simp [pw]
theorem pw_16 : pw m c kd nc nu (16, 0, 0) = nu := by funext j; simp [pw]
theorem pm_2 {c' : Nat} : mset (pw m c kd nc nu) 14 0 0 2 (nI c') = pw m c' kd nc nu := by
  funext o j
  by_cases h : o = (14, 0, 0)
  · subst h
    rw [mset_at]
    unfold upd
    by_cases hj : j = 2 <;> simp [pw, hj]
  · rw [mset_ne _ _ _ _ _ _ h]
    simp [pw, h]
theorem pm_3 {x : Int32} : mset (pw m c kd nc nu) 14 0 0 3 x = pw m c x nc nu := by
  funext o j
  by_cases h : o = (14, 0, 0)
  · subst h
    rw [mset_at]
    unfold upd
    by_cases hj : j = 3 <;> simp [pw, hj]
  · rw [mset_ne _ _ _ _ _ _ h]
    simp [pw, h]
theorem pm_5 {n : Nat} : mset (pw m c kd nc nu) 14 0 0 5 (nI n) = pw m c kd n nu := by
  funext o j
  by_cases h : o = (14, 0, 0)
  · subst h
    rw [mset_at]
    unfold upd
    by_cases hj : j = 5 <;> simp [pw, hj]
  · rw [mset_ne _ _ _ _ _ _ h]
    simp [pw, h]
theorem pm_16 {j : Nat} {x : Int32} : mset (pw m c kd nc nu) 16 0 0 j x = pw m c kd nc (upd nu j x) := by
  funext o i
  by_cases h : o = (16, 0, 0)
  · subst h
    rw [mset_at]
    simp [pw, upd]
  · rw [mset_ne _ _ _ _ _ _ h]
    simp [pw, h]
/-- the pad's text is one -/
def Tx (m : Mm) (L : Nat) : Prop := m (14, 0, 0) 1 = nI L ∧ L ≤ 80 ∧ ∀ i, i < L → ¬ m (15, 0, 0) i < 33 ∧ ¬ 126 < m (15, 0, 0) i
theorem nI_i {a : Nat} (h : a < 2 ^ 31) : (nI a).toInt = (a : Int) := nI_toInt h
theorem T_Pd_isAtDigit (hT : Tx m L) (hc : c ≤ L) (hp : P (b2i (dgP (m (15, 0, 0)) L c)) (pw m c kd nc nu)) : RunI g h_Pd_isAtDigit [vO 14 0 0] (pw m c kd nc nu) P := by
  obtain ⟨hL, h80, -⟩ := hT
  have e := nI_clamp (n := c) (by omega)
  refine RunI.ofGo rfl rfl (b_Pd_isAtDigit_0 ?_)
  simp only [pw_1, pw_2, hL, e, pw_15]
  refine ⟨fun h => ⟨by decide, qi ?_⟩, fun h => ⟨vp_in_nI ?_ (by omega), S_N_isWithin ?_⟩⟩
  · rw [nI_leI (by omega) (by omega)] at h
    rwa [b2i_f (fun q => absurd q.1 (by omega))] at hp
  · rw [nI_leI (by omega) (by omega)] at h
    omega
  · rw [nI_leI (by omega) (by omega)] at h
    simp only [b2i_eq0, Decidable.not_not]
    refine ⟨fun q => ⟨by decide, qi ?_⟩, fun q => ⟨by decide, qi ?_⟩⟩
    · rwa [b2i_f (fun z => q z.2)] at hp
    · rwa [b2i_t ⟨by omega, q⟩] at hp
theorem T_Pd_keepNumber {x : Int32} (hn : nc < 4) (hp : PV (pw m c kd (nc + 1) (upd nu nc x))) : RunV g h_Pd_keepNumber [vO 14 0 0, vI x] (pw m c kd nc nu) PV := by
  have e := nI_clamp (n := nc) (by omega)
  refine RunV.ofGo rfl rfl (b_Pd_keepNumber_0 ?_)
  simp only [pw_5, e, pm_16, nI_1, pm_5]
  exact ⟨fun _ => ⟨vp_in_nI hn (by omega), qv hp⟩, fun h => absurd (nI_lt (b := 4) hn (by omega)) h⟩
theorem T_Pd_readSign {x : Int32} (hT : Tx m L) (hc : c ≤ L) (h0 : ¬ (c < L ∧ m (15, 0, 0) c = x) → P 0 (pw m c kd nc nu)) (h1 : (c < L ∧ m (15, 0, 0) c = x) → P 1 (pw m (c + 1) kd nc nu)) : RunI g h_Pd_readSign [vO 14 0 0, vI x] (pw m c kd nc nu) P := by
  obtain ⟨hL, h80, -⟩ := hT
  have e := nI_clamp (n := c) (by omega)
  refine RunI.ofGo rfl rfl (b_Pd_readSign_0 ?_)
  simp only [pw_1, pw_2, hL, e, pw_15, nI_1, pm_2]
  refine ⟨fun h => ⟨by decide, qi (h0 ?_)⟩, fun h => ?_⟩
  · rw [nI_leI (by omega) (by omega)] at h
    omega
  · rw [nI_leI (by omega) (by omega)] at h
    exact ⟨vp_in_nI (by omega) (by omega), fun q => ⟨by decide, qi (h1 ⟨by omega, q⟩)⟩, fun q => ⟨by decide, qi (h0 fun z => q z.2)⟩⟩
theorem T_Pd_readDigit (hT : Tx m L) (hc : c ≤ L) (hn : nc < 4) (h0 : ¬ dgP (m (15, 0, 0)) L c → P 0 (pw m c kd nc nu)) (h1 : dgP (m (15, 0, 0)) L c → P 1 (pw m (c + 1) kd (nc + 1) (upd nu nc (m (15, 0, 0) c - 48)))) : RunI g h_Pd_readDigit [vO 14 0 0] (pw m c kd nc nu) P := by
  have h80 := hT.2.1
  have e := nI_clamp (n := c) (by omega)
  refine RunI.ofGo rfl rfl (b_Pd_readDigit_0 (T_Pd_isAtDigit hT hc ?_))
  simp only [b2i_eq0, Decidable.not_not, pw_2, e, pw_15]
  refine ⟨fun h => ⟨vp_in_nI (by have := h.1; omega) (by omega), T_Pd_keepNumber hn ⟨by decide, qi ?_⟩⟩, fun h => ⟨by decide, qi (h0 h)⟩⟩
  rw [pw_2, nI_1, pm_2]
  exact h1 h
theorem T_Pd_readNumber (hT : Tx m L) (hc : c ≤ L) (hn : nc < 4) (h0 : (numF (m (15, 0, 0)) L c).1 = false → P 0 (pw m (numF (m (15, 0, 0)) L c).2.1 kd nc nu)) (h1 : (numF (m (15, 0, 0)) L c).1 = true → P 1 (pw m (numF (m (15, 0, 0)) L c).2.1 kd (nc + 1) (upd nu nc (numF (m (15, 0, 0)) L c).2.2))) : RunI g h_Pd_readNumber [vO 14 0 0] (pw m c kd nc nu) P := by
  have h80 := hT.2.1
  have hL := hT.1
  have e := nI_clamp (n := c) (by omega)
  refine RunI.ofGo rfl rfl (b_Pd_readNumber_0 (T_Pd_isAtDigit hT hc ?_))
  simp only [b2i_eq0, Decidable.not_not, pw_2, e, pw_15]
  unfold numF at h0 h1
  refine ⟨fun h => ⟨vp_in_nI (by have := h.1; omega) (by omega), ?_⟩, fun h => ⟨by decide, qi ?_⟩⟩
  · rw [if_pos h] at h0 h1
    rw [nI_1, pm_2]
    have key : ∀ f c n, c + f = L → ((nulF (m (15, 0, 0)) L f c n).1 = false → P 0 (pw m (nulF (m (15, 0, 0)) L f c n).2.1 kd nc nu)) → ((nulF (m (15, 0, 0)) L f c n).1 = true → P 1 (pw m (nulF (m (15, 0, 0)) L f c n).2.1 kd (nc + 1) (upd nu nc (nulF (m (15, 0, 0)) L f c n).2.2))) → Go g h_Pd_readNumber (QI P) 32 [(0, vO 14 0 0), (1, vI n)] [] (pw m c kd nc nu) := by
      intro f
      induction f with
      | zero =>
        intro c n hcf g0 g1
        refine b_Pd_readNumber_32 ?_
        simp only [pw_1, pw_2, hL]
        refine ⟨fun _ => T_Pd_keepNumber hn ⟨by decide, qi (g1 rfl)⟩, fun q => absurd ?_ q⟩
        rw [show c = L by omega]
        exact le_self _
      | succ f ih =>
        intro c n hcf g0 g1
        have e := nI_clamp (n := c) (by omega)
        refine b_Pd_readNumber_32 ?_
        simp only [pw_1, pw_2, hL]
        refine ⟨fun q => absurd q (nI_ge (by omega) (by omega)), fun _ => T_Pd_isAtDigit hT (by omega) ?_⟩
        simp only [b2i_eq0, Decidable.not_not, pw_2, e, pw_15]
        unfold nulF at g0 g1
        refine ⟨fun q => T_Pd_keepNumber hn ⟨by decide, qi ?_⟩, fun q => ⟨vp_in_nI (by omega) (by omega), fun z => ⟨by decide, qi ?_⟩, fun z => ⟨fun y => ?_, fun y => ⟨by decide, qi ?_⟩⟩⟩⟩
        · rw [if_neg q] at g1
          exact g1 rfl
        · rw [if_pos q, if_pos z] at g0
          exact g0 rfl
        · rw [if_pos q, if_neg z, if_pos y] at g0 g1
          rw [nI_1, pm_2]
          exact ih _ _ (by omega) g0 g1
        · rw [if_pos q, if_neg z, if_neg y] at g0
          exact g0 rfl
    exact key _ _ _ (by have := h.1; omega) h0 h1
  · rw [if_neg h] at h0
    exact h0 rfl
theorem T_Pd_readPart {p : Int32} {ps : List Int32} (hT : Tx m L) (hc : c ≤ L) (hn : nc < 4 ∨ ¬ (p = 78 ∨ p = 68)) (h0 : ∀ c' nc' nu', prtF (m (15, 0, 0)) L (p :: ps) c nc nu = (false, c', nc', nu') → P 0 (pw m c' kd nc' nu')) (h1 : ∀ c' nc' nu', prtF (m (15, 0, 0)) L (p :: ps) c nc nu = prtF (m (15, 0, 0)) L ps c' nc' nu' → c ≤ c' → c' ≤ L → nc' ≤ nc + (if p = 78 ∨ p = 68 then 1 else 0) → P 1 (pw m c' kd nc' nu')) : RunI g h_Pd_readPart [vO 14 0 0, vI p] (pw m c kd nc nu) P := by
  refine RunI.ofGo rfl rfl (b_Pd_readPart_0 ⟨fun a => ⟨fun b => T_Pd_readSign hT hc (fun q => ⟨Or.inl rfl, qi (h0 _ _ _ ?_)⟩) (fun q => ⟨Or.inr rfl, qi (h1 _ _ _ ?_ ?_ ?_ ?_)⟩), fun b => ?_⟩, fun a => ?_⟩)
  · unfold prtF
    rw [if_neg a, if_neg b, if_neg q]
  · conv => lhs; unfold prtF
    rw [if_neg a, if_neg b, if_pos q]
  · omega
  · have := q.1; omega
  · omega
  · have hn4 : nc < 4 := hn.elim id (fun z => absurd (Or.inr b) z)
    refine T_Pd_readDigit hT hc hn4 (fun q => ⟨Or.inl rfl, qi (h0 _ _ _ ?_)⟩) (fun q => ⟨Or.inr rfl, qi (h1 _ _ _ ?_ ?_ ?_ ?_)⟩)
    · unfold prtF
      rw [if_neg a, if_pos b, if_neg q]
    · conv => lhs; unfold prtF
      rw [if_neg a, if_pos b, if_pos q]
    · omega
    · have := q.1; omega
    · rw [if_pos (Or.inr b)]; omega
  · have hn4 : nc < 4 := hn.elim id (fun z => absurd (Or.inl a) z)
    have hle := numF_le (sg := m (15, 0, 0)) hc
    refine T_Pd_readNumber hT hc hn4 (fun q => ⟨Or.inl rfl, qi (h0 _ _ _ ?_)⟩) (fun q => ⟨Or.inr rfl, qi (h1 _ _ _ ?_ hle.1 hle.2 ?_)⟩)
    · unfold prtF
      rw [if_pos a, if_neg (by rw [q]; decide)]
    · conv => lhs; unfold prtF
      rw [if_pos a, if_pos q]
    · rw [if_pos (Or.inl a)]; omega
theorem S_Str_length {k : Nat} {mem : Mm} (hk : k < 5) (hp : P (nI (fml k).length) mem) : RunI g h_Str_length [vO 21 k 0] mem P := by
  refine RunI.ofGo rfl rfl (b_Str_length_0 (RunI.ofGo rfl rfl (b_Str_coder_0 ⟨fun h => absurd h (by decide), fun _ => ⟨rfl, qi (qi ?_)⟩⟩)))
  rwa [show (Int32.ofNat (strN k)) >>> ((0 : Int32) &&& 31) = nI (fml k).length from (by decide : ∀ k < 5, (Int32.ofNat (strN k)) >>> ((0 : Int32) &&& 31) = nI (fml k).length) k hk]
theorem S_Str_charAt {k i : Nat} {mem : Mm} (hk : k < 5) (hi : i < (fml k).length) (hp : P ((fml k).getD i 0) mem) : RunI g h_Str_charAt [vO 21 k 0, vI (nI i)] mem P := by
  have hl : strN k = (fml k).length := (by decide : ∀ k < 5, strN k = (fml k).length) k hk
  have hl7 : (fml k).length ≤ 7 := (by decide : ∀ k < 5, (fml k).length ≤ 7) k hk
  have hv : (((((strB k).getD (nI i).toNatClampNeg 0) &&& 255).toUInt32 % 65536).toInt32) = (fml k).getD i 0 := (by decide : ∀ k < 5, ∀ i < (fml k).length, (((((strB k).getD (nI i).toNatClampNeg 0) &&& 255).toUInt32 % 65536).toInt32) = (fml k).getD i 0) k hk i hi
  have hb : (0 : Int32) ≤ (fml k).getD i 0 ∧ (fml k).getD i 0 ≤ 65535 := (by decide : ∀ k < 5, ∀ i < (fml k).length, (0 : Int32) ≤ (fml k).getD i 0 ∧ (fml k).getD i 0 ≤ 65535) k hk i hi
  refine RunI.ofGo rfl rfl (b_Str_charAt_0 (RunI.ofGo rfl rfl (b_Str_isLatin1_0 ⟨fun h => absurd h (by decide), fun _ => ⟨fun h => absurd rfl h, fun _ => ⟨by decide, qi ⟨fun h => absurd h (by decide), fun _ => ?_⟩⟩⟩⟩)))
  refine RunI.ofGo rfl rfl (b_Sl_charAt_0 (RunV.ofGo rfl rfl (b_Str_checkIndex_0 (RunI.ofGo rfl rfl (b_Pre_checkIndex_0 ⟨fun h => absurd h (nI_pos (by omega)), fun _ => ⟨fun _ => qi (qv ⟨?_, ?_, qi ⟨?_, qi ?_⟩⟩), fun h => absurd (nI_lt (by omega) (by omega)) h⟩⟩)))))
  · rw [hl]; exact vp_in_nI hi (by omega)
  · rw [hv]; exact hb
  · rw [hv]; exact hb
  · rw [hv]; exact hp
theorem S_Pd_formOf {x : Int32} {mem : Mm} {PO : Nat → Nat → Nat → Mm → Prop} (h0 : frmF x = none → PO 0 0 0 mem) (h1 : ∀ k, k < 5 → frmF x = some k → PO 21 k 0 mem) : RunO g h_Pd_formOf [vI x] mem PO := by
  unfold frmF at h0 h1
  refine RunO.ofGo rfl rfl (b_Pd_formOf_0 ⟨fun a => qo (h1 _ (by decide) (if_pos a)), fun a => ⟨fun b => qo (h1 _ (by decide) ((if_neg a).trans (if_pos b))), fun b => ⟨fun c => qo (h1 _ (by decide) ((if_neg a).trans ((if_neg b).trans (if_pos c)))), fun c => ⟨fun d => qo (h1 _ (by decide) ((if_neg a).trans ((if_neg b).trans ((if_neg c).trans (if_pos d))))), fun d => ⟨fun e => qo (h1 _ (by decide) ((if_neg a).trans ((if_neg b).trans ((if_neg c).trans ((if_neg d).trans (if_pos e)))))), fun e => ⟨fun f => qo (h1 _ (by decide) ((if_neg a).trans ((if_neg b).trans ((if_neg c).trans ((if_neg d).trans ((if_neg e).trans (if_pos f))))))), fun f => qo (h0 ((if_neg a).trans ((if_neg b).trans ((if_neg c).trans ((if_neg d).trans ((if_neg e).trans (if_neg f)))))))⟩⟩⟩⟩⟩⟩)
/-- how many numbers a form has from a place on -/
def nmb : List Int32 → Nat
  | [] => 0
  | p :: ps => (if p = 78 ∨ p = 68 then 1 else 0) + nmb ps
theorem T_Pd_readOrder (hT : Tx m L) (hc : c ≤ L) (h0 : (ordF (m (15, 0, 0)) L c nu).1 = false → ∀ kd' nc' nu', P 0 (pw m (ordF (m (15, 0, 0)) L c nu).2.1 kd' nc' nu')) (h1 : (ordF (m (15, 0, 0)) L c nu).1 = true → P 1 (pw m (ordF (m (15, 0, 0)) L c nu).2.1 (m (15, 0, 0) c) (ordF (m (15, 0, 0)) L c nu).2.2.1 (ordF (m (15, 0, 0)) L c nu).2.2.2)) : RunI g h_Pd_readOrder [vO 14 0 0] (pw m c kd nc nu) P := by
  have h80 := hT.2.1
  have hL := hT.1
  have e := nI_clamp (n := c) (by omega)
  refine RunI.ofGo rfl rfl (b_Pd_readOrder_0 ?_)
  simp only [pw_1, pw_2, hL, e, pw_15, pm_3, pw_3]
  unfold ordF at h0 h1
  refine ⟨fun a => ?_, fun a => ⟨by decide, qi ?_⟩⟩
  · rw [nI_ltI (by omega) (by omega)] at a
    rw [if_pos a] at h0 h1
    have hs := hT.2.2 c a
    refine ⟨vp_in_nI (by omega) (by omega), ?_, ?_⟩
    · have q1 := hs.1
      have q2 := hs.2
      simp only [Int32.lt_iff_toInt_lt, Int32.le_iff_toInt_le, Int32.reduceToInt, Int32.toInt_zero] at q1 q2 ⊢
      omega
    · refine S_Pd_formOf (fun q => ?_) (fun k hk q => ?_)
      · rw [q] at h0
        exact b_Pd_readOrder_33n ⟨by decide, qi (h0 rfl _ _ _)⟩
      · rw [q] at h0 h1
        simp only [] at h0 h1
        refine b_Pd_readOrder_33 (b_Pd_readOrder_40 ?_)
        rw [pw_2, nI_1, pm_2, show (0 : Int32) = nI 0 from rfl, pm_5]
        have hl7 : (fml k).length ≤ 7 := (by decide : ∀ k < 5, (fml k).length ≤ 7) k hk
        have key : ∀ (kd : Int32) d i c nc nu, i + d = (fml k).length → c ≤ L → nc + nmb ((fml k).drop i) ≤ 4 → ((prtF (m (15, 0, 0)) L ((fml k).drop i) c nc nu).1 = false → ∀ kd' nc' nu', P 0 (pw m (prtF (m (15, 0, 0)) L ((fml k).drop i) c nc nu).2.1 kd' nc' nu')) → ((prtF (m (15, 0, 0)) L ((fml k).drop i) c nc nu).1 = true → P 1 (pw m (prtF (m (15, 0, 0)) L ((fml k).drop i) c nc nu).2.1 kd (prtF (m (15, 0, 0)) L ((fml k).drop i) c nc nu).2.2.1 (prtF (m (15, 0, 0)) L ((fml k).drop i) c nc nu).2.2.2)) → Go g h_Pd_readOrder (QI P) 57 [(0, vO 14 0 0), (1, vO 21 k 0), (2, vI (nI i))] [] (pw m c kd nc nu) := by
          clear h0 h1
          intro kd d
          induction d with
          | zero =>
            intro i c nc nu hi hcL hnm h0 h1
            rw [show (fml k).drop i = [] from List.drop_eq_nil_of_le (by omega)] at h1
            refine b_Pd_readOrder_57 (S_Str_length hk ⟨fun _ => ⟨by decide, qi (h1 rfl)⟩, fun z => absurd (nI_le (by omega) (by omega)) z⟩)
          | succ d ih =>
            intro i c nc nu hi hcL hnm h0 h1
            have hi2 : i < (fml k).length := by omega
            have hdr : (fml k).drop i = (fml k).getD i 0 :: (fml k).drop (i + 1) := (by decide : ∀ k < 5, ∀ i < (fml k).length, (fml k).drop i = (fml k).getD i 0 :: (fml k).drop (i + 1)) k hk i hi2
            rw [hdr] at h0 h1 hnm
            refine b_Pd_readOrder_57 (S_Str_length hk ⟨fun z => absurd z (nI_ge hi2 (by omega)), fun _ => S_Str_charAt hk hi2 ?_⟩)
            have hnm2 : nc + ((if (fml k).getD i 0 = 78 ∨ (fml k).getD i 0 = 68 then 1 else 0) + nmb ((fml k).drop (i + 1))) ≤ 4 := hnm
            refine T_Pd_readPart (ps := (fml k).drop (i + 1)) hT hcL ?_ (fun c' nc' nu' z => ⟨fun y => absurd rfl y, fun _ => ⟨by decide, qi ?_⟩⟩) (fun c' nc' nu' z z1 z2 z3 => ⟨fun _ => ?_, fun y => absurd y (by decide)⟩)
            · by_cases hh : (fml k).getD i 0 = 78 ∨ (fml k).getD i 0 = 68
              · rw [if_pos hh] at hnm2
                exact Or.inl (by omega)
              · exact Or.inr hh
            · have := h0 (by rw [z]) kd nc' nu'
              rw [z] at this
              exact this
            · rw [z] at h0 h1
              rw [nI_1]
              exact ih (i + 1) c' nc' nu' (by omega) z2 (by omega) h0 h1
        exact key _ _ 0 _ _ _ (Nat.zero_add _) (by omega) (by rw [Nat.zero_add]; exact (by decide : ∀ k < 5, nmb ((fml k).drop 0) ≤ 4) k hk) h0 h1
  · rw [nI_ltI (by omega) (by omega)] at a
    rw [if_neg a] at h0
    exact h0 rfl _ _ _
end PD
