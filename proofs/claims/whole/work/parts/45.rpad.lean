/-! THE PAD OF THE REFERENCE -/
def rp (m : Mm) (pl : Nat) (lt : Int32) (nu : Nat → Int32) : Mm := fun o j => if o = (17, 0, 0) then (if j = 12 then nI pl else if j = 13 then lt else m o j) else if o = (18, 8, 0) then nu j else m o j
/-- the reference's text is one -/
def Tr (m : Mm) (L : Nat) : Prop := m (17, 0, 0) 8 = nI L ∧ L ≤ 80 ∧ ∀ i, i < L → ¬ m (18, 4, 0) i < 33 ∧ ¬ 126 < m (18, 4, 0) i
theorem prt_N {sg : Nat → Int32} {L : Nat} {ps : List Int32} {c nc : Nat} {nu : Nat → Int32} : prtF sg L (78 :: ps) c nc nu = if (numF sg L c).1 = true then prtF sg L ps (numF sg L c).2.1 (nc + 1) (upd nu nc (numF sg L c).2.2) else (false, (numF sg L c).2.1, nc, nu) := rfl
theorem prt_D {sg : Nat → Int32} {L : Nat} {ps : List Int32} {c nc : Nat} {nu : Nat → Int32} : prtF sg L (68 :: ps) c nc nu = if dgP sg L c then prtF sg L ps (c + 1) (nc + 1) (upd nu nc (sg c - 48)) else (false, c, nc, nu) := rfl
theorem prt_S {sg : Nat → Int32} {L : Nat} {p : Int32} {ps : List Int32} {c nc : Nat} {nu : Nat → Int32} (h1 : ¬ p = 78) (h2 : ¬ p = 68) : prtF sg L (p :: ps) c nc nu = if c < L ∧ sg c = p then prtF sg L ps (c + 1) nc nu else (false, c, nc, nu) := by
  conv => lhs; unfold prtF
  rw [if_neg h1, if_neg h2]
theorem prt_ind {sg : Nat → Int32} {L : Nat} : ∀ ps c nc nu nc' nu', (prtF sg L ps c nc nu).1 = (prtF sg L ps c nc' nu').1 ∧ (prtF sg L ps c nc nu).2.1 = (prtF sg L ps c nc' nu').2.1
  | [], _, _, _, _, _ => ⟨rfl, rfl⟩
  | p :: ps, c, nc, nu, nc', nu' => by
    unfold prtF
    split
    · split
      · exact prt_ind ps _ _ _ _ _
      · exact ⟨rfl, rfl⟩
    · split
      · split
        · exact prt_ind ps _ _ _ _ _
        · exact ⟨rfl, rfl⟩
      · split
        · exact prt_ind ps _ _ _ _ _
        · exact ⟨rfl, rfl⟩
theorem ord_ind {sg : Nat → Int32} {L c : Nat} {nu nu' : Nat → Int32} : (ordF sg L c nu).1 = (ordF sg L c nu').1 ∧ (ordF sg L c nu).2.1 = (ordF sg L c nu').2.1 := by
  unfold ordF
  split
  · split
    · exact ⟨rfl, rfl⟩
    · exact prt_ind _ _ _ _ _ _
  · exact ⟨rfl, rfl⟩
theorem flt_ind {sg : Nat → Int32} {L : Nat} : ∀ f c nu nu', fltF sg L f c nu = fltF sg L f c nu'
  | 0, _, _, _ => rfl
  | f + 1, c, nu, nu' => by
    unfold fltF
    have h := ord_ind (sg := sg) (L := L) (c := c) (nu := nu) (nu' := nu')
    rw [h.1, h.2, flt_ind f _ (ordF sg L c nu).2.2.2 (ordF sg L c nu').2.2.2]
section RP
variable {g : Wg} {m : Mm} {P : Int32 → Mm → Prop} {PV : Mm → Prop} {c L : Nat} {lt : Int32} {nu : Nat → Int32}
theorem rp_8 : rp m c lt nu (17, 0, 0) 8 = m (17, 0, 0) 8 := by simp [rp]
theorem rp_12 : rp m c lt nu (17, 0, 0) 12 = nI c := by simp [rp]
theorem rp_13 : rp m c lt nu (17, 0, 0) 13 = lt := by simp [rp]
theorem rp_4 : rp m c lt nu (18, 4, 0) = m (18, 4, 0) := by funext j; simp [rp]
theorem rp_n : rp m c lt nu (18, 8, 0) = nu := by funext j; simp [rp]
theorem rm_12 {c' : Nat} : mset (rp m c lt nu) 17 0 0 12 (nI c') = rp m c' lt nu := by
  funext o j
  by_cases h : o = (17, 0, 0)
  · subst h
    rw [mset_at]
    unfold upd
    by_cases hj : j = 12 <;> simp [rp, hj]
  · rw [mset_ne _ _ _ _ _ _ h]
    simp [rp, h]
theorem rm_13 {x : Int32} : mset (rp m c lt nu) 17 0 0 13 x = rp m c x nu := by
  funext o j
  by_cases h : o = (17, 0, 0)
  · subst h
    rw [mset_at]
    unfold upd
    by_cases hj : j = 13 <;> simp [rp, hj]
  · rw [mset_ne _ _ _ _ _ _ h]
    simp [rp, h]
theorem rm_n {k : Nat} {x : Int32} : mset (rp m c lt nu) 18 8 0 k x = rp m c lt (upd nu k x) := by
  funext o j
  by_cases h : o = (18, 8, 0)
  · subst h
    rw [mset_at]
    simp [rp, upd]
  · rw [mset_ne _ _ _ _ _ _ h]
    simp [rp, h]
theorem S_Md_sign {x : Int32} (hT : Tr m L) (hc : c ≤ L) (h0 : ¬ (c < L ∧ m (18, 4, 0) c = x) → P 0 (rp m c lt nu)) (h1 : (c < L ∧ m (18, 4, 0) c = x) → P 1 (rp m (c + 1) lt nu)) : RunI g h_Md_sign [vO 17 0 0, vI x] (rp m c lt nu) P := by
  obtain ⟨hL, h80, -⟩ := hT
  have e := nI_clamp (n := c) (by omega)
  refine RunI.ofGo rfl rfl (b_Md_sign_0 ?_)
  simp only [rp_8, rp_12, hL, e, rp_4, nI_1, Int32.add_zero, rm_12]
  refine ⟨fun h => ⟨fun _ => ⟨by decide, qi (h0 ?_)⟩, fun q => absurd trivial q⟩, fun h => ?_⟩
  · rw [nI_leI (by omega) (by omega)] at h
    omega
  · rw [nI_leI (by omega) (by omega)] at h
    exact ⟨vp_in_nI (by omega) (by omega), fun q => ⟨fun _ => ⟨by decide, qi (h0 fun z => q z.2)⟩, fun q => absurd trivial q⟩, fun q => ⟨fun z => absurd z (by decide), fun _ => ⟨by decide, qi (h1 ⟨by omega, q⟩)⟩⟩⟩
theorem dg_num {sg : Nat → Int32} (h : dgP sg L c) : ∃ e, 48 ≤ e ∧ e ≤ 57 ∧ sg c = nI e := by
  have h0 : ¬ sg c < 0 := fun q => h.2.1 (Int32.lt_trans q (by decide))
  obtain ⟨e, he, ee⟩ := nI_of2 (M := 57) (n := 57) (by decide) h0 (Int32.not_lt.mp h.2.2)
  refine ⟨e, ?_, he, ee⟩
  have := h.2.1
  rw [ee, show (48 : Int32) = nI 48 from rfl, nI_ltI (by omega) (by omega)] at this
  omega
theorem S_Md_digit {k : Nat} (hT : Tr m L) (hc : c ≤ L) (hk : k < 4) (h0 : ¬ dgP (m (18, 4, 0)) L c → P 0 (rp m c lt (upd nu k 0))) (h1 : dgP (m (18, 4, 0)) L c → P 1 (rp m (c + 1) lt (upd nu k (m (18, 4, 0) c - 48)))) : RunI g h_Md_digit [vO 17 0 0, vI (nI k)] (rp m c lt nu) P := by
  obtain ⟨hL, h80, -⟩ := hT
  have e := nI_clamp (n := c) (by omega)
  have ek := nI_clamp (n := k) (by omega)
  have ik := vp_in_nI (n := k) (N := 4) hk (by decide)
  refine RunI.ofGo rfl rfl (b_Md_digit_0 ?_)
  simp only [rp_8, rp_12, hL, e, ek, rp_4, rm_n, nI_1, Int32.add_zero, rm_12]
  refine ⟨fun h => ⟨fun _ => ⟨ik, fun _ => ⟨by decide, qi (h0 ?_)⟩, fun q => absurd trivial q⟩, fun q => absurd trivial q⟩, fun h => ⟨vp_in_nI ?_ (by omega), S_Md_in ?_⟩⟩
  · rw [nI_leI (by omega) (by omega)] at h
    exact fun q => absurd q.1 (by omega)
  · rw [nI_leI (by omega) (by omega)] at h
    omega
  · rw [nI_leI (by omega) (by omega)] at h
    simp only [b2i_eq0, Decidable.not_not, rp_8, rp_12, hL, e, ek, rp_4, rm_n, nI_1, Int32.add_zero, rm_12]
    refine ⟨fun q => ⟨fun _ => ⟨ik, fun _ => ⟨by decide, qi (h0 fun z => q z.2)⟩, fun q => absurd trivial q⟩, fun q => absurd trivial q⟩, fun q => ⟨fun z => absurd z (by decide), fun _ => ⟨vp_in_nI (by omega) (by omega), ik, fun z => absurd z (by decide), fun _ => ⟨by decide, qi (h1 ⟨by omega, q⟩)⟩⟩⟩⟩
theorem S_Md_number {k : Nat} (hT : Tr m L) (hc : c ≤ L) (hk : k < 4) (h0 : (numF (m (18, 4, 0)) L c).1 = false → (numF (m (18, 4, 0)) L c).2.1 = c → ∀ x, P 0 (rp m c lt (upd nu k x))) (h1 : (numF (m (18, 4, 0)) L c).1 = true → P 1 (rp m (numF (m (18, 4, 0)) L c).2.1 lt (upd nu k (numF (m (18, 4, 0)) L c).2.2))) (h2 : (numF (m (18, 4, 0)) L c).1 = false → dgP (m (18, 4, 0)) L (numF (m (18, 4, 0)) L c).2.1 → ∀ x, P 1 (rp m (numF (m (18, 4, 0)) L c).2.1 lt (upd nu k x))) : RunI g h_Md_number [vO 17 0 0, vI (nI k)] (rp m c lt nu) P := by
  obtain ⟨hL, h80, -⟩ := hT
  have ek := nI_clamp (n := k) (by omega)
  have ik := vp_in_nI (n := k) (N := 4) hk (by decide)
  have ec := nI_clamp (n := c) (by omega)
  refine RunI.ofGo rfl rfl (b_Md_number_0 ?_)
  rw [rp_12]
  unfold numF at h0 h1 h2
  -- behind the first digit
  have key : ∀ f p n, p + f = L → c < p → dgP (m (18, 4, 0)) L c → n ≤ 1023 → (n = 0 ↔ m (18, 4, 0) c = 48) → ((nulF (m (18, 4, 0)) L f p (nI n)).1 = true → P 1 (rp m (nulF (m (18, 4, 0)) L f p (nI n)).2.1 lt (upd nu k (nulF (m (18, 4, 0)) L f p (nI n)).2.2))) → ((nulF (m (18, 4, 0)) L f p (nI n)).1 = false → dgP (m (18, 4, 0)) L (nulF (m (18, 4, 0)) L f p (nI n)).2.1 → ∀ x, P 1 (rp m (nulF (m (18, 4, 0)) L f p (nI n)).2.1 lt (upd nu k x))) → Go g h_Md_number (QI P) 7 [(0, vO 17 0 0), (1, vI (nI k)), (2, vI (nI c)), (3, vI (nI n))] [] (rp m p lt nu) := by
    intro f
    induction f with
    | zero =>
      intro p n hp hcp hd hn hz g1 g2
      refine b_Md_number_7 ?_
      simp only [rp_8, rp_12, hL, ek, rm_n]
      refine ⟨fun _ => ⟨ik, fun q => absurd q (nI_ge hcp (by omega)), fun _ => ⟨by decide, qi (g1 rfl)⟩⟩, fun q => absurd ?_ q⟩
      exact nI_le (by omega) (by omega)
    | succ f ih =>
      intro p n hp hcp hd hn hz g1 g2
      have ep := nI_clamp (n := p) (by omega)
      have ip := vp_in_nI (n := p) (N := 80) (by omega) (by omega)
      unfold nulF at g1 g2
      refine b_Md_number_7 ?_
      simp only [rp_8, rp_12, hL, ek, ep, ec, rp_4, rm_n]
      refine ⟨fun q => absurd q (nI_ge (by omega) (by omega)), fun _ => ⟨ip, S_Md_in ?_⟩⟩
      simp only [b2i_eq0, Decidable.not_not, rp_8, rp_12, hL, ek, ep, ec, rp_4, rm_n]
      have stop : ∀ x, P 1 (rp m p lt (upd nu k x)) → ((nI p ≤ nI c → (True ∨ (0 : Int32) = 1) ∧ QI P (some (vI 0)) (rp m p lt (upd nu k x))) ∧ (¬ nI p ≤ nI c → ((1 : Int32) = 0 ∨ True) ∧ QI P (some (vI 1)) (rp m p lt (upd nu k x)))) := fun x h => ⟨fun q => absurd q (nI_ge hcp (by omega)), fun _ => ⟨by decide, qi h⟩⟩
      refine ⟨fun q => ⟨ik, ?_⟩, fun q => ⟨ip, ?_⟩⟩
      · have nd : ¬ dgP (m (18, 4, 0)) L p := fun z => q z.2
        rw [if_neg nd] at g1
        exact stop _ (g1 rfl)
      · have hdp : dgP (m (18, 4, 0)) L p := ⟨by omega, q⟩
        rw [if_pos hdp] at g1 g2
        obtain ⟨e, he1, he2, ee⟩ := dg_num hdp
        have hval : nI n * 10 + m (18, 4, 0) p - 48 = nI (n * 10 + e - 48) := by
          rw [ee, show (10 : Int32) = nI 10 from rfl, pk_mul, nI_add, show (48 : Int32) = nI 48 from rfl, pk_sub (by omega)]
        have hval2 : 10 * nI n + m (18, 4, 0) p - 48 = nI (n * 10 + e - 48) := by
          rw [ee, show (10 : Int32) = nI 10 from rfl, pk_mul, nI_add, show (48 : Int32) = nI 48 from rfl, pk_sub (by omega), Nat.mul_comm 10 n]
        rw [hval] at g1 g2
        rw [hval2]
        have hne : ¬ nI p = nI c := fun z => by rw [nI_eq (by omega) (by omega)] at z; omega
        refine ⟨fun z => ⟨ik, ?_⟩, fun z => ⟨fun y => absurd y hne, fun _ => ⟨vp_in_nI (by omega) (by omega), fun y => ⟨ik, ?_⟩, fun y => ⟨ip, ?_⟩⟩⟩⟩
        · by_cases hn0 : nI n = 0
          · rw [if_pos hn0] at g2
            exact stop _ (g2 rfl hdp _)
          · rw [if_neg hn0, if_neg (Int32.not_le.mpr z)] at g2
            exact stop _ (g2 rfl hdp _)
        · have hn0 : nI n = 0 := by rw [hz.mpr y]; rfl
          rw [if_pos hn0] at g2
          exact stop _ (g2 rfl hdp _)
        · have hn1 : ¬ n = 0 := fun u => y (hz.mp u)
          have hn0 : ¬ nI n = 0 := fun u => hn1 ((nI_eq (b := 0) (by omega) (by omega)).mp u)
          rw [if_neg hn0, if_pos (Int32.not_lt.mp z)] at g1 g2
          have hle : n * 10 + e - 48 ≤ 1023 := by
            have := Int32.not_lt.mp z
            rw [show (1023 : Int32) = nI 1023 from rfl, nI_leI (by omega) (by omega)] at this
            exact this
          rw [nI_1, rm_12]
          exact ih (p + 1) _ (by omega) (by omega) hd hle ⟨fun u => by omega, fun u => absurd u y⟩ g1 g2
  by_cases hd : dgP (m (18, 4, 0)) L c
  · rw [if_pos hd] at h0 h1 h2
    have hcL := hd.1
    have ip := vp_in_nI (n := c) (N := 80) (by omega) (by omega)
    obtain ⟨e, he1, he2, ee⟩ := dg_num hd
    have hv : m (18, 4, 0) c - 48 = nI (e - 48) := by rw [ee, show (48 : Int32) = nI 48 from rfl, pk_sub (by omega)]
    have hv2 : 10 * (0 : Int32) + m (18, 4, 0) c - 48 = nI (e - 48) := by
      rw [show (10 : Int32) * 0 = 0 by decide, Int32.zero_add, hv]
    rw [hv] at h1 h2
    refine b_Md_number_7 ?_
    simp only [rp_8, rp_12, hL, ek, ec, rp_4, rm_n]
    refine ⟨fun q => absurd q (nI_ge hcL (by omega)), fun _ => ⟨ip, S_Md_in ?_⟩⟩
    simp only [b2i_eq0, Decidable.not_not, rp_8, rp_12, hL, ek, ec, rp_4, rm_n]
    refine ⟨fun q => absurd hd.2 q, fun _ => ⟨ip, ?_⟩⟩
    rw [hv2]
    refine ⟨fun z => absurd z (Int32.not_lt.mpr (nI_le (b := 1023) (by omega) (by omega))), fun _ => ⟨fun _ => ⟨ip, ?_⟩, fun z => absurd trivial z⟩⟩
    rw [nI_1, rm_12]
    refine key _ (c + 1) (e - 48) (by omega) (by omega) hd (by omega) ?_ h1 h2
    rw [ee, show (48 : Int32) = nI 48 from rfl, nI_eq (by omega) (by omega)]
    omega
  · rw [if_neg hd] at h0
    refine b_Md_number_7 ?_
    simp only [rp_8, rp_12, hL, ek, ec, rp_4, rm_n]
    refine ⟨fun _ => ⟨ik, fun _ => ⟨by decide, qi (h0 rfl rfl _)⟩, fun q => absurd (le_self _) q⟩, fun q => ?_⟩
    rw [nI_leI (by omega) (by omega)] at q
    refine ⟨vp_in_nI (by omega) (by omega), S_Md_in ?_⟩
    simp only [b2i_eq0, Decidable.not_not, rp_8, rp_12, hL, ek, ec, rp_4, rm_n]
    exact ⟨fun _ => ⟨ik, fun _ => ⟨by decide, qi (h0 rfl rfl _)⟩, fun q => absurd (le_self _) q⟩, fun z => absurd ⟨by omega, z⟩ hd⟩
theorem dg_no {sg : Nat → Int32} {x : Int32} (h : dgP sg L c) (hx : x < 48 ∨ 57 < x) : ¬ (c < L ∧ sg c = x) := by
  rintro ⟨-, rfl⟩
  exact hx.elim h.2.1 h.2.2
/-- number, sign, digit: what a child and a session are read with -/
theorem S_Md_childAt {k nc : Nat} {cu : Nat → Int32} {ps : List Int32} (hT : Tr m L) (hc : c ≤ L) (hk : k < 3) (h0 : ∀ p, (prtF (m (18, 4, 0)) L (78 :: 64 :: 68 :: ps) c nc cu).1 = false → p = (prtF (m (18, 4, 0)) L (78 :: 64 :: 68 :: ps) c nc cu).2.1 → ∀ nu', P 0 (rp m p lt nu')) (h1 : ∀ p a b, p ≤ L → prtF (m (18, 4, 0)) L (78 :: 64 :: 68 :: ps) c nc cu = prtF (m (18, 4, 0)) L ps p (nc + 1 + 1) (upd (upd cu nc a) (nc + 1) b) → P 1 (rp m p lt (upd (upd nu k a) (k + 1) b))) : RunI g h_Md_childAt [vO 17 0 0, vI (nI k)] (rp m c lt nu) P := by
  have hle := numF_le (sg := m (18, 4, 0)) hc
  refine RunI.ofGo rfl rfl (b_Md_childAt_0 (S_Md_number hT hc (by omega) (fun a b x => ⟨fun _ => ⟨by decide, qi (h0 _ ?_ ?_ _)⟩, fun z => absurd rfl z⟩) (fun a => ⟨fun z => absurd z (by decide), fun _ => S_Md_sign hT hle.2 (fun b => ⟨fun _ => ⟨by decide, qi (h0 _ ?_ ?_ _)⟩, fun z => absurd rfl z⟩) (fun b => ⟨fun z => absurd z (by decide), fun _ => ?_⟩)⟩) (fun a b x => ⟨fun z => absurd z (by decide), fun _ => S_Md_sign hT hle.2 (fun d => ⟨fun _ => ⟨by decide, qi (h0 _ ?_ ?_ _)⟩, fun z => absurd rfl z⟩) (fun d => absurd d (dg_no b (Or.inr (by decide))))⟩)))
  · rw [prt_N, if_neg (by rw [a]; decide)]
  · rw [prt_N, if_neg (by rw [a]; decide)]; exact b.symm
  · rw [prt_N, if_pos a, prt_S (by decide) (by decide), if_neg b]
  · rw [prt_N, if_pos a, prt_S (by decide) (by decide), if_neg b]
  · rw [nI_1]
    have hb := b.1
    refine S_Md_digit hT (by omega) (by omega) (fun d => ⟨fun _ => ⟨by decide, qi (h0 _ ?_ ?_ _)⟩, fun z => absurd rfl z⟩) (fun d => ⟨fun z => absurd z (by decide), fun _ => ⟨by decide, qi (h1 _ _ _ ?_ ?_)⟩⟩)
    · rw [prt_N, if_pos a, prt_S (by decide) (by decide), if_pos b, prt_D, if_neg d]
    · rw [prt_N, if_pos a, prt_S (by decide) (by decide), if_pos b, prt_D, if_neg d]
    · have := d.1; omega
    · rw [prt_N, if_pos a, prt_S (by decide) (by decide), if_pos b, prt_D, if_pos d]
  · rw [prt_N, if_neg (by rw [a]; decide)]
  · rw [prt_N, if_neg (by rw [a]; decide)]
end RP
