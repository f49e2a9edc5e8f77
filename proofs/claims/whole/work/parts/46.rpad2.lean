/-! THE PAD OF THE REFERENCE: orders, faults, putting -/
def nml (x : Int32) : Nat := if x = 97 then 0 else if x = 99 then 3 else if x = 115 then 1 else if x = 118 then 2 else if x = 119 then 1 else if x = 120 then 4 else 0
section RP
variable {g : Wg} {m : Mm} {P : Int32 → Mm → Prop} {PV : Mm → Prop} {c L : Nat} {lt : Int32} {nu cu : Nat → Int32}
theorem S_Md_readOrder (hT : Tr m L) (hc : c ≤ L) (h0 : (ordF (m (18, 4, 0)) L c cu).1 = false → ∀ lt' nu', P 0 (rp m (ordF (m (18, 4, 0)) L c cu).2.1 lt' nu')) (h1 : c < L → (ordF (m (18, 4, 0)) L c cu).1 = true → ∀ nu', (∀ i, i < nml (m (18, 4, 0) c) → nu' i = (ordF (m (18, 4, 0)) L c cu).2.2.2 i) → P 1 (rp m (ordF (m (18, 4, 0)) L c cu).2.1 (m (18, 4, 0) c) nu')) (h2 : (ordF (m (18, 4, 0)) L c cu).1 = false → dgP (m (18, 4, 0)) L (ordF (m (18, 4, 0)) L c cu).2.1 → ∀ lt' nu', P 1 (rp m (ordF (m (18, 4, 0)) L c cu).2.1 lt' nu')) : RunI g h_Md_readOrder [vO 17 0 0] (rp m c lt nu) P := by
  have hL := hT.1
  have h80 := hT.2.1
  have e := nI_clamp (n := c) (by omega)
  refine RunI.ofGo rfl rfl (b_Md_readOrder_0 ?_)
  simp only [rp_8, rp_12, rp_13, hL, e, rp_4, rm_13, nI_1, rm_12, nI_pred]
  refine ⟨fun a => ?_, fun a => ?_⟩
  · rw [nI_leI (by omega) (by omega)] at a
    have eo : ordF (m (18, 4, 0)) L c cu = (false, c, 0, cu) := if_neg (by omega)
    rw [eo] at h0
    exact ⟨fun z => absurd z (by decide), fun _ => ⟨fun z => absurd z (by decide), fun _ => ⟨fun z => absurd z (by decide), fun _ => ⟨fun z => absurd z (by decide), fun _ => ⟨fun z => absurd z (by decide), fun _ => ⟨fun z => absurd z (by decide), fun _ => ⟨by decide, qi (h0 rfl _ _)⟩⟩⟩⟩⟩⟩⟩
  rw [nI_leI (by omega) (by omega)] at a
  have hcL : c < L := by omega
  have hc1 : c + 1 ≤ L := by omega
  refine ⟨vp_in_nI (by omega) (by omega), ?_⟩
  have eo : ∀ k, frmF (m (18, 4, 0) c) = some k → ordF (m (18, 4, 0)) L c cu = prtF (m (18, 4, 0)) L (fml k) (c + 1) 0 cu := by
    intro k hk
    unfold ordF
    rw [if_pos hcL, hk]
  have en : frmF (m (18, 4, 0) c) = none → ordF (m (18, 4, 0)) L c cu = (false, c, 0, cu) := by
    intro hk
    unfold ordF
    rw [if_pos hcL, hk]
  generalize hx : m (18, 4, 0) c = x at *
  -- one number alone
  have one : prtF (m (18, 4, 0)) L (fml 3) (c + 1) 0 cu = ordF (m (18, 4, 0)) L c cu → nml x = 1 → RunI g h_Md_number [vO 17 0 0, vI 0] (rp m (c + 1) x nu) (fun r m' => (r = 0 ∨ r = 1) ∧ QI P (some (vI r)) m') := by
    intro e1 en1
    rw [← e1] at h0 h1 h2
    rw [show fml 3 = [78] from rfl, prt_N] at h0 h1 h2
    refine S_Md_number (k := 0) hT hc1 (by decide) (fun a b y => ⟨Or.inl rfl, qi ?_⟩) (fun a => ⟨Or.inr rfl, qi ?_⟩) (fun a b y => ⟨Or.inr rfl, qi ?_⟩)
    · rw [if_neg (by rw [a]; decide)] at h0
      have := h0 rfl x (upd nu 0 y)
      rw [b] at this
      exact this
    · rw [if_pos a] at h1
      refine h1 hcL rfl _ fun i hi => ?_
      rw [en1] at hi
      have : i = 0 := by omega
      subst this
      rw [pk_us]
      exact (pk_us (f := cu) (k := 0)).symm
    · rw [if_neg (by rw [a]; decide)] at h2
      exact h2 rfl b _ _
  refine ⟨fun l => ⟨by decide, qi ?_⟩, fun l1 => ⟨fun l => ?_, fun l2 => ⟨fun l => ?_, fun l3 => ⟨fun l => ?_, fun l4 => ⟨fun l => ?_, fun l5 => ⟨fun l => ?_, fun l6 => ⟨by decide, qi ?_⟩⟩⟩⟩⟩⟩⟩
  · have ef : frmF x = some 4 := if_pos l
    rw [eo 4 ef] at h1
    exact h1 hcL rfl _ (fun i hi => by rw [l] at hi; exact absurd hi (Nat.not_lt_zero _))
  · -- c
    have ef : frmF x = some 0 := by rw [l]; rfl
    have en3 : nml x = 3 := by rw [l]; rfl
    rw [eo 0 ef, show fml 0 = [78, 47, 78, 58, 78] from rfl] at h0 h1 h2
    have b1 := numF_le (sg := m (18, 4, 0)) hc1
    refine S_Md_number (k := 0) hT hc1 (by decide) (fun a b y => ⟨fun _ => ⟨by decide, qi ?_⟩, fun z => absurd rfl z⟩) (fun a => ⟨fun z => absurd z (by decide), fun _ => S_Md_sign hT b1.2 (fun s => ⟨fun _ => ⟨by decide, qi ?_⟩, fun z => absurd rfl z⟩) (fun s => ⟨fun z => absurd z (by decide), fun _ => ?_⟩)⟩) (fun a b y => ⟨fun z => absurd z (by decide), fun _ => S_Md_sign hT b1.2 (fun s => ⟨fun _ => ⟨by decide, qi ?_⟩, fun z => absurd rfl z⟩) (fun s => absurd s (dg_no b (Or.inl (by decide))))⟩)
    · rw [prt_N, if_neg (by rw [a]; decide)] at h0
      have := h0 rfl x (upd nu 0 y)
      rw [b] at this
      exact this
    · rw [prt_N, if_pos a, prt_S (by decide) (by decide), if_neg s] at h0
      exact h0 rfl _ _
    · rw [prt_N, if_pos a, prt_S (by decide) (by decide), if_pos s] at h0 h1 h2
      have hp1 := s.1
      generalize numF (m (18, 4, 0)) L (c + 1) = o1 at *
      obtain ⟨k1, p1, v1⟩ := o1
      simp only [] at *
      have b2 := numF_le (sg := m (18, 4, 0)) (L := L) (c := p1 + 1) (by omega)
      refine S_Md_number (k := 1) hT (by omega) (by decide) (fun a b y => ⟨fun _ => ⟨by decide, qi ?_⟩, fun z => absurd rfl z⟩) (fun a => ⟨fun z => absurd z (by decide), fun _ => S_Md_sign hT b2.2 (fun s => ⟨fun _ => ⟨by decide, qi ?_⟩, fun z => absurd rfl z⟩) (fun s => ⟨fun z => absurd z (by decide), fun _ => ?_⟩)⟩) (fun a b y => ⟨fun z => absurd z (by decide), fun _ => S_Md_sign hT b2.2 (fun s => ⟨fun _ => ⟨by decide, qi ?_⟩, fun z => absurd rfl z⟩) (fun s => absurd s (dg_no b (Or.inr (by decide))))⟩)
      · rw [prt_N, if_neg (by rw [a]; decide)] at h0
        have := h0 rfl x (upd (upd nu 0 v1) 1 y)
        rw [b] at this
        exact this
      · rw [prt_N, if_pos a, prt_S (by decide) (by decide), if_neg s] at h0
        exact h0 rfl _ _
      · rw [prt_N, if_pos a, prt_S (by decide) (by decide), if_pos s] at h0 h1 h2
        have hp2 := s.1
        generalize numF (m (18, 4, 0)) L (p1 + 1) = o2 at *
        obtain ⟨k2, p2, v2⟩ := o2
        simp only [] at *
        refine S_Md_number (k := 2) hT (by omega) (by decide) (fun a b y => ⟨fun _ => ⟨by decide, qi ?_⟩, fun z => absurd rfl z⟩) (fun a => ⟨fun z => absurd z (by decide), fun _ => ⟨by decide, qi ?_⟩⟩) (fun a b y => ⟨fun z => absurd z (by decide), fun _ => ⟨by decide, qi ?_⟩⟩)
        · rw [prt_N, if_neg (by rw [a]; decide)] at h0
          have := h0 rfl x (upd (upd (upd nu 0 v1) 1 v2) 2 y)
          rw [b] at this
          exact this
        · rw [prt_N, if_pos a] at h1
          refine h1 hcL rfl _ fun i hi => ?_
          rw [en3] at hi
          rcases (show i = 0 ∨ i = 1 ∨ i = 2 by omega) with rfl | rfl | rfl <;> rfl
        · rw [prt_N, if_neg (by rw [a]; decide)] at h2
          exact h2 rfl b _ _
      · rw [prt_N, if_neg (by rw [a]; decide)] at h0
        exact h0 rfl _ _
    · rw [prt_N, if_neg (by rw [a]; decide)] at h0
      exact h0 rfl _ _
  · -- s
    have ef : frmF x = some 3 := by rw [l]; rfl
    exact one (eo 3 ef).symm (by rw [l]; rfl)
  · -- v
    have ef : frmF x = some 1 := by rw [l]; rfl
    have en2 : nml x = 2 := by rw [l]; rfl
    rw [eo 1 ef, show fml 1 = [78, 64, 68] from rfl] at h0 h1
    refine S_Md_childAt (k := 0) (nc := 0) (cu := cu) (ps := []) hT hc1 (by decide) (fun p a b nu' => ⟨Or.inl rfl, qi (by rw [b]; exact h0 a _ _)⟩) (fun p a b hp q => ⟨Or.inr rfl, qi ?_⟩)
    rw [q] at h1
    refine h1 hcL rfl _ fun i hi => ?_
    rw [en2] at hi
    rcases (show i = 0 ∨ i = 1 by omega) with rfl | rfl <;> rfl
  · -- w
    have ef : frmF x = some 3 := by rw [l]; rfl
    exact one (eo 3 ef).symm (by rw [l]; rfl)
  · -- x
    have ef : frmF x = some 2 := by rw [l]; rfl
    have en4 : nml x = 4 := by rw [l]; rfl
    rw [eo 2 ef, show fml 2 = [78, 64, 68, 61, 78, 64, 68] from rfl] at h0 h1
    refine S_Md_childAt (k := 0) (nc := 0) (cu := cu) (ps := [61, 78, 64, 68]) hT hc1 (by decide) (fun p a b nu' => ⟨fun _ => ⟨by decide, qi (by rw [b]; exact h0 a _ _)⟩, fun z => absurd rfl z⟩) (fun p a b hp q => ⟨fun z => absurd z (by decide), fun _ => S_Md_sign hT hp (fun s => ⟨fun _ => ⟨by decide, qi ?_⟩, fun z => absurd rfl z⟩) (fun s => ⟨fun z => absurd z (by decide), fun _ => ?_⟩)⟩)
    · rw [q, prt_S (by decide) (by decide), if_neg s] at h0
      exact h0 rfl _ _
    · rw [q, prt_S (by decide) (by decide), if_pos s] at h0 h1
      refine S_Md_childAt (k := 2) (nc := 2) (cu := upd (upd cu 0 a) 1 b) (ps := []) hT (by have := s.1; omega) (by decide) (fun p2 a2 b2 nu' => ⟨fun _ => ⟨by decide, qi (by rw [b2]; exact h0 a2 _ _)⟩, fun z => absurd rfl z⟩) (fun p2 a2 b2 hp2 q2 => ⟨fun z => absurd z (by decide), fun _ => ⟨by decide, qi ?_⟩⟩)
      have q3 : prtF (m (18, 4, 0)) L [78, 64, 68] (p + 1) (0 + 1 + 1) (upd (upd cu 0 a) (0 + 1) b) = _ := q2
      rw [q3] at h1
      refine h1 hcL rfl _ fun i hi => ?_
      rw [en4] at hi
      rcases (show i = 0 ∨ i = 1 ∨ i = 2 ∨ i = 3 by omega) with rfl | rfl | rfl | rfl <;> rfl
  · have ef : frmF x = none := (if_neg l1).trans ((if_neg l2).trans ((if_neg l3).trans ((if_neg l4).trans ((if_neg l5).trans (if_neg l6)))))
    rw [en ef] at h0
    exact h0 rfl _ _
theorem S_Md_isGood (hT : Tr m L) (h0 : ¬ fltF (m (18, 4, 0)) L 80 0 cu = -6 → ∀ p lt' nu', fltF (m (18, 4, 0)) L 80 0 cu = nI p → P 0 (rp m p lt' nu')) (h1 : fltF (m (18, 4, 0)) L 80 0 cu = -6 → ∀ p lt' nu', P 1 (rp m p lt' nu')) : RunI g h_Md_isGood [vO 17 0 0] (rp m c lt nu) P := by
  have hL := hT.1
  have h80 := hT.2.1
  have stop : ∀ p lt' nu', P 0 (rp m p lt' nu') → Go g h_Md_isGood (QI P) 10 [(0, vO 17 0 0), (1, vI 0)] [] (rp m p lt' nu') := fun p lt' nu' h => b_Md_isGood_10 ⟨fun _ => ⟨by decide, qi h⟩, fun z => absurd rfl z⟩
  have key : ∀ f r c lt nu, r + f = 80 → 2 * r ≤ c → c ≤ L → (¬ fltF (m (18, 4, 0)) L f c cu = -6 → ∀ p lt' nu', fltF (m (18, 4, 0)) L f c cu = nI p → P 0 (rp m p lt' nu')) → (fltF (m (18, 4, 0)) L f c cu = -6 → ∀ p lt' nu', P 1 (rp m p lt' nu')) → RunI g h_Md_readOrder [vO 17 0 0] (rp m c lt nu) (fun r1 m1 => (r1 = 0 ∨ r1 = 1) ∧ Go g h_Md_isGood (QI P) 10 [(0, vO 17 0 0), (1, vI r1)] [] m1) := by
    intro f
    induction f with
    | zero =>
      intro r c lt nu hr hrc hcL
      omega
    | succ f ih =>
      intro r c lt nu hr hrc hcL h0 h1
      unfold fltF at h0 h1
      have hle := ordF_le (sg := m (18, 4, 0)) (nu := cu) hcL
      have neg : ∀ q, q < 2 ^ 31 → ¬ nI q = -6 := fun q hq => nI_n6 hq
      refine S_Md_readOrder (cu := cu) hT hcL (fun a lt' nu' => ⟨Or.inl rfl, stop _ _ _ ?_⟩) (fun hcl a nu' _ => ⟨Or.inr rfl, ?_⟩) (fun a d lt' nu' => ⟨Or.inr rfl, ?_⟩)
      · rw [if_neg (by rw [a]; decide)] at h0
        exact h0 (neg _ (by omega)) _ _ _ rfl
      · have hok := ordF_ok (sg := m (18, 4, 0)) a
        have hsame : ∀ q nu', fltF (m (18, 4, 0)) L f q nu' = fltF (m (18, 4, 0)) L f q cu := fun q nu' => flt_ind f q nu' cu
        rw [if_pos a, hsame] at h0 h1
        generalize (ordF (m (18, 4, 0)) L c cu).2.1 = p at *
        refine b_Md_isGood_10 ⟨fun z => absurd z (by decide), fun _ => ?_⟩
        rw [rp_8, rp_12, hL]
        refine ⟨fun b => ⟨by decide, qi ?_⟩, fun b => S_Md_sign hT hle.2 (fun s => ⟨fun _ => stop _ _ _ ?_, fun z => absurd rfl z⟩) (fun s => ⟨fun z => absurd z (by decide), fun _ => ?_⟩)⟩
        · rw [nI_leI (by omega) (by omega)] at b
          rw [if_pos (show p = L by omega)] at h1
          exact h1 rfl _ _ _
        · rw [nI_leI (by omega) (by omega)] at b
          rw [if_neg (show ¬ p = L by omega), if_neg (fun z => s ⟨by omega, z⟩)] at h0
          exact h0 (neg _ (by omega)) _ _ _ rfl
        · have hpL := s.1
          rw [if_neg (show ¬ p = L by omega), if_pos s.2] at h0 h1
          refine RunI.mono (ih (r + 1) (p + 1) _ _ (by omega) (by omega) (by omega) h0 h1) ?_
          rintro x m1 ⟨hx, hg⟩
          rcases hx with rfl | rfl
          · exact ⟨fun _ => hg, fun z => absurd rfl z⟩
          · exact ⟨fun z => absurd z (by decide), fun _ => hg⟩
      · rw [if_neg (by rw [a]; decide)] at h0
        refine b_Md_isGood_10 ⟨fun z => absurd z (by decide), fun _ => ?_⟩
        rw [rp_8, rp_12, hL]
        refine ⟨fun b => absurd b (nI_ge d.1 (by omega)), fun _ => S_Md_sign hT hle.2 (fun s => ⟨fun _ => stop _ _ _ ?_, fun z => absurd rfl z⟩) (fun s => absurd s (dg_no d (Or.inr (by decide))))⟩
        exact h0 (neg _ (by omega)) _ _ _ rfl
  refine RunI.ofGo rfl rfl (b_Md_isGood_0 ?_)
  rw [show (0 : Int32) = nI 0 from rfl, rm_12]
  exact RunI.mono (key 80 0 0 _ _ rfl (by omega) (by omega) h0 h1) (fun x m1 h => h.2)
theorem S_Md_fault (hT : Tr m L) (hp : ∀ p lt' nu', P (fltF (m (18, 4, 0)) L 80 0 cu) (rp m p lt' nu')) : RunI g h_Md_fault [vO 17 0 0] (rp m c lt nu) P := by
  refine RunI.ofGo rfl rfl (b_Md_fault_0 (S_Md_isGood (cu := cu) hT (fun a p lt' nu' e => ⟨fun _ => qi ?_, fun z => absurd rfl z⟩) (fun a p lt' nu' => ⟨fun z => absurd z (by decide), fun _ => qi ?_⟩)))
  · rw [rp_12, ← e]
    exact hp _ _ _
  · rw [← a]
    exact hp _ _ _
/-- putting -/
def ppM (mem : Mm) (L : Nat) (sg : Nat → Int32) : Mm := fun o i => if o = (17, 0, 0) ∧ i = 8 then nI L else if o = (18, 4, 0) then sg i else mem o i
theorem pp_w {mem : Mm} {L : Nat} (hL : mem (17, 0, 0) 8 = nI L) : ppM mem L (mem (18, 4, 0)) = mem := by
  funext o i
  unfold ppM
  split
  · rename_i h
    rw [h.1, h.2, hL]
  · split
    · rename_i h
      rw [h]
    · rfl
theorem pp_4 {mem : Mm} {L i : Nat} {x : Int32} {sg : Nat → Int32} : mset (ppM mem L sg) 18 4 0 i x = ppM mem L (upd sg i x) := by
  funext o j
  by_cases h : o = (18, 4, 0)
  · subst h
    rw [mset_at]
    unfold upd ppM
    simp
  · rw [mset_ne _ _ _ _ _ _ h]
    simp [ppM, h]
theorem pp_8 {mem : Mm} {L L' : Nat} {sg : Nat → Int32} : mset (ppM mem L sg) 17 0 0 8 (nI L') = ppM mem L' sg := by
  funext o j
  by_cases h : o = (17, 0, 0)
  · subst h
    rw [mset_at]
    unfold upd ppM
    by_cases hj : j = 8 <;> simp [hj]
  · rw [mset_ne _ _ _ _ _ _ h]
    simp [ppM, h]
theorem pp_r {mem : Mm} {L : Nat} {sg : Nat → Int32} : ppM mem L sg (17, 0, 0) 8 = nI L := by simp [ppM]
theorem i64_0 (j : Int64) : j = 0 ↔ j.toBitVec.toNat = 0 := by
  constructor
  · rintro rfl; rfl
  · intro h
    rw [← Int64.toBitVec_inj]
    exact BitVec.eq_of_toNat_eq h
theorem S_Md_put {j : Int64} {mem : Mm} (hL : mem (17, 0, 0) 8 = nI L) (h80 : L ≤ 80) (h0 : cinF 8 j 0 = 0 → P (-2) mem) (h1 : ¬ cinF 8 j 0 = 0 → ¬ L + cinF 8 j 0 ≤ 80 → P (-4) mem) (h2 : ¬ cinF 8 j 0 = 0 → L + cinF 8 j 0 ≤ 80 → P (nI (L + cinF 8 j 0)) (ppM mem (L + cinF 8 j 0) (ptS (mem (18, 4, 0)) L j (cinF 8 j 0)))) : RunI g h_Md_put [vO 17 0 0, vJ j] mem P := by
  have hc8 := cin_le 8 j 0
  -- the writing
  have wr2 : ∀ n (L : Nat) sg, n ≤ 8 → L + n ≤ 80 → P (nI (L + n)) (ppM mem (L + n) (ptS sg L j n)) → Go g h_Md_put (QI P) 86 [(0, vO 17 0 0), (1, vJ j), (7, vI (nI n - 1))] [] (ppM mem L sg) := by
    intro n
    induction n with
    | zero =>
      intro L sg _ _ hp
      refine b_Md_put_86 ⟨fun _ => qi (by rw [pp_r]; exact hp), fun h => absurd (by decide) h⟩
    | succ n ih =>
      intro L sg hn8 hL80 hp
      rw [nI_pred]
      have e := nI_clamp (n := L) (by omega)
      refine b_Md_put_86 ⟨fun h => absurd h (nI_pos (by omega)), fun _ => ?_⟩
      rw [pp_r, e]
      refine ⟨vp_in_nI (by omega) (by omega), ?_⟩
      have ev : ((((j.toUInt64 >>> ((8 * nI n).toInt64.toUInt64 &&& Int64.toUInt64 63)).toInt64) &&& 255).toInt32) = sgA j n := rfl
      rw [ev, pp_4]
      show Go _ _ _ _ _ _ (mset (ppM mem L (upd sg L (sgA j n))) 17 0 0 8 (ppM mem L (upd sg L (sgA j n)) (17, 0, 0) 8 + 1))
      rw [pp_r, nI_1, pp_8, show nI n + (-1) = nI n - 1 from (Int32.sub_eq_add_neg ..).symm]
      refine ih (L + 1) _ (by omega) (by omega) ?_
      rw [show L + (n + 1) = L + 1 + n by omega] at hp
      exact hp
  -- the counting
  have bad : ∀ n j5, P (-2) mem → Go g h_Md_put (QI P) 18 [(0, vO 17 0 0), (1, vJ j), (3, vI n), (4, vI 0), (5, vJ j5)] [] mem := fun n j5 h => b_Md_put_18 ⟨fun _ => ⟨fun z => absurd rfl z, fun _ => qi h⟩, fun z => absurd rfl z⟩
  have good : ∀ n, n ≤ 8 → cinF 8 j 0 = n → ¬ n = 0 → (1 : Int32) = 0 ∨ True → ((¬ (1 : Int32) = 0 → (mem (17, 0, 0) 8 + nI n ≤ 80 → Go g h_Md_put (QI P) 86 [(0, vO 17 0 0), (1, vJ j), (7, vI (nI n - 1))] [] mem) ∧ (¬ mem (17, 0, 0) 8 + nI n ≤ 80 → QI P (some (vI (-4))) mem)) ∧ ((1 : Int32) = 0 → QI P (some (vI (-2))) mem)) := by
    intro n hn hcn hn0 _
    refine ⟨fun _ => ⟨fun b => ?_, fun b => qi (h1 (by rw [hcn]; exact hn0) (fun q => b ?_))⟩, fun z => absurd z (by decide)⟩
    · rw [hL, nI_add] at b
      have b2 := (nI_leI (a := L + n) (b := 80) (by omega) (by omega)).mp b
      have := wr2 n L (mem (18, 4, 0)) hn b2 (by rw [← hcn]; exact h2 (by rw [hcn]; exact hn0) (by rw [hcn]; exact b2))
      rw [pp_w hL] at this
      exact this
    · rw [hL, nI_add, ← hcn]
      exact nI_le (b := 80) q (by omega)
  have key : ∀ f n j5, n + f = 8 → j5.toBitVec.toNat < 256 ^ f → cinF f j5 n = cinF 8 j 0 → (n = 0 → ¬ j5 = 0) → Go g h_Md_put (QI P) 18 [(0, vO 17 0 0), (1, vJ j), (3, vI (nI n)), (4, vI 1), (5, vJ j5)] [] mem := by
    intro f
    induction f with
    | zero =>
      intro n j5 hn hlt hcin hz
      have hj : j5 = 0 := (i64_0 j5).mpr (by simpa using hlt)
      have hcn : cinF 8 j 0 = n := by rw [← hcin, hj]; rfl
      refine b_Md_put_18 ⟨fun z => absurd z (by decide), fun _ => ⟨fun _ => good n (by omega) hcn (by omega) (Or.inr trivial), fun z => absurd ((lg_0 j5).mpr hj) z⟩⟩
    | succ f ih =>
      intro n j5 hn hlt hcin hz
      conv at hcin => lhs; unfold cinF
      refine b_Md_put_18 ⟨fun z => absurd z (by decide), fun _ => ⟨fun a => ?_, fun a => S_Md_in ?_⟩⟩
      · have hj : j5 = 0 := (lg_0 j5).mp a
        rw [hj, if_pos (by decide), if_pos rfl] at hcin
        exact good n (by omega) hcin.symm (fun z => hz z hj) (Or.inr trivial)
      · have hj : ¬ j5 = 0 := fun z => a ((lg_0 j5).mpr z)
        rw [nI_1]
        by_cases hb : byB j5
        · rw [b2i_t hb]
          have h255 : ¬ j5 &&& 255 = 0 := by
            intro q
            have := hb.1
            rw [q] at this
            exact this (by decide)
          rw [if_neg h255, if_pos hb] at hcin
          refine ih (n + 1) _ (by omega) ?_ hcin (fun z => by omega)
          rw [sh8_tn]
          rw [Nat.pow_succ] at hlt
          omega
        · rw [b2i_f hb]
          refine bad _ _ (h0 ?_)
          rw [← hcin]
          by_cases h255 : j5 &&& 255 = 0
          · rw [if_pos h255, if_neg hj]
          · rw [if_neg h255, if_neg hb]
  refine RunI.ofGo rfl rfl (b_Md_put_0 ⟨fun a => ?_, fun a => ?_⟩)
  · have hj : j = 0 := (lg_0 j).mp a
    exact bad 0 j (h0 (by rw [hj]; decide))
  · refine key 8 0 j rfl ?_ rfl (fun _ z => a ((lg_0 j).mpr z))
    have := j.toBitVec.isLt
    omega
theorem S_Md_wipe {mem : Mm} (hp : P (mem (17, 0, 0) 8) (mset mem 17 0 0 8 0)) : RunI g h_Md_wipe [vO 17 0 0] mem P := RunI.ofGo rfl rfl (b_Md_wipe_0 (qi hp))
end RP
