/-! CARRYING OUT: the loops -/
/-- orders from a place on: how many are done, what the state is then -/
def coF (sg : Nat → Int32) (L : Nat) : Nat → Nat → (Nat → Int32) → Nu → Nat × Nu
  | 0, _, _, N => (0, N)
  | f + 1, p, nu, N => if (doN (sg p) (ordF sg L p nu).2.2.2 N).1 < 0 then (0, (doN (sg p) (ordF sg L p nu).2.2.2 N).2) else if (ordF sg L p nu).2.1 = L then (1, (doN (sg p) (ordF sg L p nu).2.2.2 N).2) else ((coF sg L f ((ordF sg L p nu).2.1 + 1) (ordF sg L p nu).2.2.2 (doN (sg p) (ordF sg L p nu).2.2.2 N).2).1 + 1, (coF sg L f ((ordF sg L p nu).2.1 + 1) (ordF sg L p nu).2.2.2 (doN (sg p) (ordF sg L p nu).2.2.2 N).2).2)
/-- a text without a fault from a place on -/
theorem good_ord {sg : Nat → Int32} {L f p : Nat} {nu : Nat → Int32} (hL : L ≤ 80) (hp : p ≤ L) (h : fltF sg L (f + 1) p nu = -6) : (ordF sg L p nu).1 = true ∧ p < L ∧ ¬ frmF (sg p) = none ∧ ((ordF sg L p nu).2.1 = L ∨ (¬ (ordF sg L p nu).2.1 = L ∧ sg (ordF sg L p nu).2.1 = 59 ∧ fltF sg L f ((ordF sg L p nu).2.1 + 1) (ordF sg L p nu).2.2.2 = -6)) := by
  unfold fltF at h
  have hle := (ordF_le (sg := sg) (nu := nu) hp).2
  have n6 : ¬ nI (ordF sg L p nu).2.1 = -6 := nI_n6 (by omega)
  by_cases h1 : (ordF sg L p nu).1 = true
  · rw [if_pos h1] at h
    have hpL : p < L := by
      by_cases q : p < L
      · exact q
      · unfold ordF at h1
        rw [if_neg q] at h1
        cases h1
    refine ⟨h1, hpL, ?_, ?_⟩
    · intro q
      unfold ordF at h1
      rw [if_pos hpL, q] at h1
      cases h1
    · by_cases h2 : (ordF sg L p nu).2.1 = L
      · exact Or.inl h2
      · rw [if_neg h2] at h
        by_cases h3 : sg (ordF sg L p nu).2.1 = 59
        · rw [if_pos h3] at h
          exact Or.inr ⟨h2, h3, h⟩
        · rw [if_neg h3] at h
          exact absurd h n6
  · rw [if_neg h1] at h
    exact absurd h n6
theorem coF_ok {sg : Nat → Int32} {L : Nat} (hL : L ≤ 80) : ∀ f p nu N b, Ok N → Pl N → Tm b N → b + 60 * f < 2 ^ 28 → Ok (coF sg L f p nu N).2 ∧ Pl (coF sg L f p nu N).2 ∧ Tm (b + 60 * f) (coF sg L f p nu N).2 ∧ (coF sg L f p nu N).1 ≤ f
  | 0, _, _, N, b, hO, hP, hT, _ => ⟨hO, hP, hT, Nat.le_refl _⟩
  | f + 1, p, nu, N, b, hO, hP, hT, hb => by
    obtain ⟨q1, q2, q3⟩ := do_ok (l := sg p) (n := (ordF sg L p nu).2.2.2) hO hP hT (by omega)
    unfold coF
    split
    · exact ⟨q1, q2, q3.mono (by omega), by omega⟩
    · split
      · exact ⟨q1, q2, q3.mono (by omega), by show 1 ≤ _; omega⟩
      · obtain ⟨r1, r2, r3, r4⟩ := coF_ok hL f ((ordF sg L p nu).2.1 + 1) (ordF sg L p nu).2.2.2 _ (b + 60) q1 q2 q3 (by omega)
        refine ⟨r1, r2, r3.mono (by omega), ?_⟩
        show _ + 1 ≤ f + 1
        omega
theorem pw_wr {m : Mm} {c nc : Nat} {kd : Int32} {nu : Nat → Int32} {N : Nu} : pw (wr m 0 N) c kd nc nu = wr (pw m c kd nc nu) 0 N := by
  funext o j
  obtain ⟨t, k, i⟩ := o
  by_cases h : k = 0 ∧ t < 10
  · obtain ⟨rfl, ht⟩ := h
    rw [wr_in ht]
    unfold pw
    rw [if_neg (by intro q; simp only [Prod.mk.injEq] at q; omega), if_neg (by intro q; simp only [Prod.mk.injEq] at q; omega), wr_in ht]
  · have e1 : wr (pw m c kd nc nu) 0 N (t, k, i) j = pw m c kd nc nu (t, k, i) j := dif_neg h
    have e2 : wr m 0 N (t, k, i) j = m (t, k, i) j := dif_neg h
    rw [e1]
    unfold pw
    rw [e2]
section CO
variable {g : Wg} {m : Mm} {b L : Nat} {P : Int32 → Mm → Prop} {N : Nu}
/-- the class -/
theorem T_carry (hT : Tx m L) : ∀ f d p cur kd nc nu N b, d + f = 80 → 2 * d ≤ p → p ≤ L → Ok N → Pl N → Tm b N → b + 60 * f < 2 ^ 28 → fltF (m (15, 0, 0)) L f p nu = -6 → ((cur = 0 ∧ p = 0) ∨ (0 < cur ∧ cur < L ∧ m (15, 0, 0) cur = 59 ∧ p = cur + 1)) → (∀ c' kd' nc' nu', RunI g h_Hi_keepIfDone [vO 10 0 0, vI (nI (d + (coF (m (15, 0, 0)) L f p nu N).1))] (mset (pw (wr m 0 (coF (m (15, 0, 0)) L f p nu N).2) c' kd' nc' nu') 14 0 0 1 0) P) → Go g h_N_carryOut (QI P) 35 [(0, vO 1 0 0), (1, vI (nI d))] [] (pw (wr m 0 N) cur kd nc nu) := by
  have h80 := hT.2.1
  intro f
  induction f with
  | zero =>
    intro d p cur kd nc nu N b hd hdp hpL
    omega
  | succ f ih =>
    intro d p cur kd nc nu N b hd hdp hpL hO hP hTm hb hflt hcur hp
    obtain ⟨o1, o2, o3, o4⟩ := good_ord h80 hpL hflt
    have e15 : wr m 0 N (15, 0, 0) = m (15, 0, 0) := wr_big (by decide)
    have hTx : Tx (wr m 0 N) L := by
      refine ⟨?_, h80, ?_⟩
      · rw [wr_big (by decide)]; exact hT.1
      · rw [e15]; exact hT.2.2
    have hple := (ordF_le (sg := m (15, 0, 0)) (nu := nu) hpL).2
    have hok := ordF_ok (sg := m (15, 0, 0)) o1
    obtain ⟨q1, q2, q3⟩ := do_ok (l := m (15, 0, 0) p) (n := (ordF (m (15, 0, 0)) L p nu).2.2.2) hO hP hTm (by omega)
    -- the order is read
    have after : ∀ nc', RunI g h_N_carryOutOrder [vO 1 0 0] (pw (wr m 0 N) (ordF (m (15, 0, 0)) L p nu).2.1 (m (15, 0, 0) p) nc' (ordF (m (15, 0, 0)) L p nu).2.2.2) (fun r6 m6 => (r6 < 0 → RunI g h_Pd_clear [vO 14 0 0] m6 (fun r7 m7 => RunI g h_Hi_keepIfDone [vO 10 0 0, vI (nI d)] m7 (fun r8 m8 => QI P (some (vI r8)) m8))) ∧ (¬ r6 < 0 → Go g h_N_carryOut (QI P) 35 [(0, vO 1 0 0), (1, vI (nI d + 1))] [] m6)) := by
      intro nc'
      rw [pw_wr]
      refine T_order (l := m (15, 0, 0) p) (n := (ordF (m (15, 0, 0)) L p nu).2.2.2) o3 pw_3 pw_16 hO ?_
      rw [← pw_wr]
      unfold coF at hp
      refine ⟨fun z => T_Pd_clear ?_, fun z => ?_⟩
      · rw [if_pos z] at hp
        exact RunI.mono (hp _ _ _ _) (fun x m1 h => qi h)
      · rw [if_neg z] at hp
        rw [nI_1]
        rcases o4 with o4 | ⟨o4, o5, o6⟩
        · -- the text is at its end
          rw [if_pos o4] at hp
          have clear : ∀ c' kd' nc' nu', RunI g h_Pd_clear [vO 14 0 0] (pw (wr m 0 (doN (m (15, 0, 0) p) (ordF (m (15, 0, 0)) L p nu).2.2.2 N).2) c' kd' nc' nu') (fun r4 m4 => RunI g h_Hi_keepIfDone [vO 10 0 0, vI (nI (d + 1))] m4 (fun r5 m5 => QI P (some (vI r5)) m5)) := fun c' kd' nc' nu' => T_Pd_clear (RunI.mono (hp _ _ _ _) (fun x m1 h => qi h))
          have hTx2 : Tx (wr m 0 (doN (m (15, 0, 0) p) (ordF (m (15, 0, 0)) L p nu).2.2.2 N).2) L := by
            refine ⟨?_, h80, ?_⟩
            · rw [wr_big (by decide)]; exact hT.1
            · rw [wr_big (by decide)]; exact hT.2.2
          refine b_N_carryOut_35 ⟨fun _ => clear _ _ _ _, fun _ => ?_⟩
          refine T_Pd_readNextOrder_1 (L := L) hTx2 hple (by omega) (fun _ => ⟨fun _ => clear _ _ _ _, fun q => absurd rfl q⟩) (fun q => absurd q.1 (by omega)) (fun q => absurd q.1 (by omega))
        · rw [if_neg o4] at hp
          refine ih (d + 1) _ _ _ _ _ _ (b + 60) (by omega) (by omega) (by omega) q1 q2 q3 (by omega) o6 (Or.inr ⟨by omega, by omega, o5, rfl⟩) (fun c' kd' nc' nu' => ?_)
          have := hp c' kd' nc' nu'
          rw [show d + 1 + (coF (m (15, 0, 0)) L f ((ordF (m (15, 0, 0)) L p nu).2.1 + 1) (ordF (m (15, 0, 0)) L p nu).2.2.2 (doN (m (15, 0, 0) p) (ordF (m (15, 0, 0)) L p nu).2.2.2 N).2).1 = d + ((coF (m (15, 0, 0)) L f ((ordF (m (15, 0, 0)) L p nu).2.1 + 1) (ordF (m (15, 0, 0)) L p nu).2.2.2 (doN (m (15, 0, 0) p) (ordF (m (15, 0, 0)) L p nu).2.2.2 N).2).1 + 1) by omega]
          exact this
    refine b_N_carryOut_35 ⟨fun z => absurd z (nI_ge (b := 80) (by omega) (by omega)), fun _ => ?_⟩
    rcases hcur with ⟨rfl, rfl⟩ | ⟨c1, c2, c3, rfl⟩
    · refine T_Pd_readNextOrder_0 (L := L) hTx (fun q => ?_) (fun q => ⟨fun z => absurd z (by decide), fun _ => ?_⟩)
      · rw [e15] at q
        rw [o1] at q
        cases q
      · rw [e15]
        exact after _
    · refine T_Pd_readNextOrder_1 (L := L) hTx (by omega) c1 (fun q => absurd ⟨c2, by rw [e15]; exact c3⟩ q) (fun _ q => ?_) (fun _ q => ⟨fun z => absurd z (by decide), fun _ => ?_⟩)
      · rw [e15] at q
        rw [o1] at q
        cases q
      · rw [e15]
        exact after _
/-- the reference -/
def Qm (X Y : Mm) : Prop := ∀ o j, ¬ junk o j → ¬ o = (18, 0, 0) → Y o j = X o j
theorem Qm.agr {X Y Z : Mm} (h : Qm X Y) (h2 : Agr Y Z) : Qm X Z := fun o j q1 q2 => (h2 o j q1).trans (h o j q1 q2)
theorem qm_v {X Y : Mm} {v' : Nat → Int32} (h : Qm X Y) : Qm X (wv Y v') := fun o j q1 q2 => by rw [wv_ne q2]; exact h o j q1 q2
theorem S_carry {X : Mm} {sg : Nat → Int32} (hsg : X (18, 4, 0) = sg) (hT : Tr X L) (hq : ¬ X (17, 0, 0) 4 = 0) : ∀ f d p cur nu N b (Y : Mm), d + f = 80 → 2 * d ≤ p → p ≤ L → Ok N → Pl N → Tm b N → b + 60 * f < 2 ^ 28 → fltF sg L f p nu = -6 → Qm X Y → RelR N (Y (18, 0, 0)) → Y (17, 0, 0) 12 = nI cur → ((cur = 0 ∧ p = 0) ∨ (0 < cur ∧ cur < L ∧ sg cur = 59 ∧ p = cur + 1)) → (∀ Z, Qm X Z → RelR (coF sg L f p nu N).2 (Z (18, 0, 0)) → P (nI (d + (coF sg L f p nu N).1)) (mset (mset Z 17 0 0 4 0) 17 0 0 8 0)) → Go g h_Md_carryOut (QI P) 28 [(0, vO 17 0 0), (1, vI (nI d)), (2, vI 1)] [] Y := by
  have h80 := hT.2.1
  intro f
  induction f with
  | zero =>
    intro d p cur nu N b Y hd hdp hpL
    omega
  | succ f ih =>
    intro d p cur nu N b Y hd hdp hpL hO hP hTm hb hflt hY hR hplace hcur hp
    obtain ⟨o1, o2, o3, o4⟩ := good_ord h80 hpL hflt
    have hple := (ordF_le (sg := sg) (nu := nu) hpL).2
    have hok := ordF_ok (sg := sg) o1
    obtain ⟨q1, q2, q3⟩ := do_ok (l := sg p) (n := (ordF sg L p nu).2.2.2) hO hP hTm (by omega)
    have y8 : Y (17, 0, 0) 8 = nI L := (hY _ _ (nj (by decide) (by decide) (by decide) (by omega) (by omega)) (by decide)).trans hT.1
    have y4 : Y (18, 4, 0) = sg := (funext fun j => hY _ _ (nj (by decide) (by decide) (by decide) (by omega) (by omega)) (by decide)).trans hsg
    have hTY : Tr Y L := by
      refine ⟨y8, h80, ?_⟩
      rw [y4, ← hsg]
      exact hT.2.2
    have hcL : cur < L := by rcases hcur with ⟨a, c⟩ | ⟨a, c, -⟩ <;> omega
    have hrp : Y = rp Y cur (Y (17, 0, 0) 13) (Y (18, 8, 0)) := by
      have := rp_id (m := Y)
      rw [hplace, pk_tn (by omega)] at this
      exact this.symm
    have n59 : ¬ sg 0 = 59 ∨ ¬ p = 0 := by
      by_cases q : p = 0
      · subst q
        refine Or.inl fun z => o3 ?_
        rw [z]; rfl
      · exact Or.inr q
    -- behind the order's reading
    have after : ∀ nu', (∀ i, i < nml (sg p) → nu' i = (ordF sg L p nu).2.2.2 i) → RunI g h_Md_doOrder [vO 17 0 0] (rp Y (ordF sg L p nu).2.1 (sg p) nu') (fun r3 m3 => (r3 < 0 → ((0 : Int32) = 0 → Go g h_Md_carryOut (QI P) 28 [(0, vO 17 0 0), (1, vI (nI d + 0)), (2, vI 0)] [] m3) ∧ (¬ (0 : Int32) = 0 → Go g h_Md_carryOut (QI P) 28 [(0, vO 17 0 0), (1, vI (nI d + 1)), (2, vI 0)] [] m3)) ∧ (¬ r3 < 0 → ((1 : Int32) = 0 → Go g h_Md_carryOut (QI P) 28 [(0, vO 17 0 0), (1, vI (nI d + 0)), (2, vI 1)] [] m3) ∧ (¬ (1 : Int32) = 0 → Go g h_Md_carryOut (QI P) 28 [(0, vO 17 0 0), (1, vI (nI d + 1)), (2, vI 1)] [] m3))) := by
      intro nu' hag
      have hD : doN (sg p) nu' N = doN (sg p) (ordF sg L p nu).2.2.2 N := doN_agree o3 hag
      have e18 : rp Y (ordF sg L p nu).2.1 (sg p) nu' (18, 0, 0) = Y (18, 0, 0) := by funext j; simp [rp]
      have eq4 : ¬ rp Y (ordF sg L p nu).2.1 (sg p) nu' (17, 0, 0) 4 = 0 := by
        have : rp Y (ordF sg L p nu).2.1 (sg p) nu' (17, 0, 0) 4 = Y (17, 0, 0) 4 := by simp [rp]
        rw [this, hY _ _ (nj (by decide) (by decide) (by decide) (by omega) (by omega)) (by decide)]
        exact hq
      refine R_form ?_
      rw [e18]
      refine S_order (l := sg p) (n := nu') o3 rp_13 rp_n eq4 hR hO hP hTm (by omega) (fun v' T H hv' => ?_)
      rw [hD] at hv' ⊢
      have hZ : Qm X (wv (th (rp Y (ordF sg L p nu).2.1 (sg p) nu') T H) v') := by
        have h1 : Qm X (rp Y (ordF sg L p nu).2.1 (sg p) nu') := hY.agr agr_rp
        exact (qm_v (v' := v') h1).agr agr_th
      have hZv : wv (th (rp Y (ordF sg L p nu).2.1 (sg p) nu') T H) v' (18, 0, 0) = v' := wv_at
      have hZ12 : wv (th (rp Y (ordF sg L p nu).2.1 (sg p) nu') T H) v' (17, 0, 0) 12 = nI (ordF sg L p nu).2.1 := by
        rw [wv_ne (by decide)]
        unfold th
        rw [if_neg (by decide), if_neg (by decide)]
        exact rp_12
      have hZ8 : wv (th (rp Y (ordF sg L p nu).2.1 (sg p) nu') T H) v' (17, 0, 0) 8 = nI L := by
        rw [hZ _ _ (nj (by decide) (by decide) (by decide) (by omega) (by omega)) (by decide)]
        exact hT.1
      generalize wv (th (rp Y (ordF sg L p nu).2.1 (sg p) nu') T H) v' = Z at *
      rw [← hZv] at hv'
      unfold coF at hp
      refine ⟨fun z => ⟨fun _ => ?_, fun q => absurd rfl q⟩, fun z => ⟨fun q => absurd q (by decide), fun _ => ?_⟩⟩
      · rw [if_pos z] at hp
        rw [Int32.add_zero]
        exact b_Md_carryOut_28 ⟨fun _ => ⟨by decide, qi (hp Z hZ hv')⟩, fun q => absurd rfl q⟩
      · rw [if_neg z] at hp
        rw [nI_1]
        rcases o4 with o4 | ⟨o4, o5, o6⟩
        · rw [if_pos o4] at hp
          refine b_Md_carryOut_28 ⟨fun q => absurd q (by decide), fun _ => ⟨fun _ => ⟨by decide, qi (hp Z hZ hv')⟩, fun q => absurd ?_ q⟩⟩
          rw [hZ8, hZ12, o4]
          exact le_self _
        · rw [if_neg o4] at hp
          refine ih (d + 1) _ (ordF sg L p nu).2.1 _ _ (b + 60) Z (by omega) (by omega) (by omega) q1 q2 q3 (by omega) o6 hZ hv' hZ12 (Or.inr ⟨by omega, by omega, o5, rfl⟩) (fun Z' h1 h2 => ?_)
          have := hp Z' h1 h2
          rw [show d + 1 + (coF sg L f ((ordF sg L p nu).2.1 + 1) (ordF sg L p nu).2.2.2 (doN (sg p) (ordF sg L p nu).2.2.2 N).2).1 = d + ((coF sg L f ((ordF sg L p nu).2.1 + 1) (ordF sg L p nu).2.2.2 (doN (sg p) (ordF sg L p nu).2.2.2 N).2).1 + 1) by omega]
          exact this
    have read : ∀ nuX lt', RunI g h_Md_readOrder [vO 17 0 0] (rp Y p lt' nuX) (fun _ m2 => RunI g h_Md_doOrder [vO 17 0 0] m2 (fun r3 m3 => (r3 < 0 → ((0 : Int32) = 0 → Go g h_Md_carryOut (QI P) 28 [(0, vO 17 0 0), (1, vI (nI d + 0)), (2, vI 0)] [] m3) ∧ (¬ (0 : Int32) = 0 → Go g h_Md_carryOut (QI P) 28 [(0, vO 17 0 0), (1, vI (nI d + 1)), (2, vI 0)] [] m3)) ∧ (¬ r3 < 0 → ((1 : Int32) = 0 → Go g h_Md_carryOut (QI P) 28 [(0, vO 17 0 0), (1, vI (nI d + 0)), (2, vI 1)] [] m3) ∧ (¬ (1 : Int32) = 0 → Go g h_Md_carryOut (QI P) 28 [(0, vO 17 0 0), (1, vI (nI d + 1)), (2, vI 1)] [] m3)))) := by
      intro nuX lt'
      refine S_Md_readOrder (cu := nu) hTY hpL (fun a => ?_) (fun _ _ nu' hag => ?_) (fun a => ?_)
      · rw [y4, o1] at a; cases a
      · rw [y4] at hag ⊢
        exact after nu' hag
      · rw [y4, o1] at a; cases a
    refine b_Md_carryOut_28 ⟨fun q => absurd q (by decide), fun _ => ⟨fun q => absurd q (by rw [y8, hplace]; exact nI_ge hcL (by omega)), fun _ => ?_⟩⟩
    rw [hrp]
    refine S_Md_sign hTY (by omega) (fun q => ?_) (fun q => ?_)
    · rw [y4] at q
      rcases hcur with ⟨rfl, rfl⟩ | ⟨c1, c2, c3, rfl⟩
      · exact read _ _
      · exact absurd ⟨c2, c3⟩ q
    · rw [y4] at q
      rcases hcur with ⟨rfl, rfl⟩ | ⟨c1, c2, c3, rfl⟩
      · exact absurd q.2 (n59.resolve_right (fun z => z rfl))
      · exact read _ _
end CO
