/-! BESIDE EACH OTHER: saved states -/
section SL
variable {g : Wg} {mem M : Mm} {b b' old sz : Nat} {P : Int32 → Mm → Prop} {PV : Mm → Prop}
theorem B_save {x : Int32} (hI : Inv b mem) : Both g h_N_save h_Md_save [vI x] b mem := by
  refine RunI.ofGo rfl rfl (b_N_save_0 (S_N_isSlot ?_))
  simp only [b2i_eq0, Decidable.not_not]
  have in1 : ∀ s, s < 2 → ¬ nI s < 0 ∧ ¬ 1 < nI s := fun s hs => (win (a := 0) (b := 1) (by omega) (by decide) (by decide)).mpr ⟨by omega, by omega⟩
  refine ⟨fun a => ?_, fun a => qi (R_form (S_Md_save hI.1.2.2.2 (fun _ => ⟨rfl, by rw [wv_id]; exact hI⟩) (fun s hs e => absurd (e ▸ in1 s hs) a)))⟩
  obtain ⟨s, hs', rfl⟩ := nI_of2 (M := 1) (n := 1) (by decide) a.1 (Int32.not_lt.mp a.2)
  have hs : s < 2 := by omega
  have es := nI_clamp (n := s) (by omega)
  rw [es]
  refine ⟨vp_in_nI hs (by decide), ?_⟩
  have hcp := T_St_copyFrom (g := g) (m := mem) (k := 9 + s) (N := rd mem (9 + s)) (k1 := 0) (PV := fun m2 => vp_in (nI s) 2 ∧ QI (fun r m1 => RunI g h_Md_save [vO 17 0 0, vI (nI s)] m1 (fun r' m2 => r = r' ∧ Inv b m2)) (some (vI ((mset m2 13 0 0 s (vp_nar .boolean 1)) (2, 0, 0) 7))) (mset m2 13 0 0 s (vp_nar .boolean 1))) (by omega) hI.1.1.1.1 (fl_ok hI.1.1) (fun A hA => ⟨vp_in_nI hs (by decide), qi ?_⟩)
  · rwa [wr_rd] at hcp
  rw [show vp_nar .boolean 1 = 1 from rfl]
  have hRo := hI.1.lq hA
  have w18 : mset (wr mem (9 + s) A) 13 0 0 s 1 (18, 0, 0) = mem (18, 0, 0) := by rw [mset_ne _ _ _ _ _ _ (by decide), wr_big (by decide)]
  have w3 : mset (wr mem (9 + s) A) 13 0 0 s 1 (18, 3, 0) = mem (18, 3, 0) := by rw [mset_ne _ _ _ _ _ _ (by decide), wr_big (by decide)]
  have w7 : mset (wr mem (9 + s) A) 13 0 0 s 1 (2, 0, 0) 7 = rd mem 0 2 0 7 := by rw [mset_ne _ _ _ _ _ _ (by decide), wr_ne (by omega)]; rfl
  refine R_form ?_
  rw [w18, w7]
  refine S_Md_save hI.1.2.2.2 (fun q => absurd a q) (fun s' hs2 e S hS => ⟨rfl, ?_⟩)
  have : s = s' := (nI_eq (by omega) (by omega)).mp e
  subst this
  rw [w3] at hS
  -- the memory that stands behind both
  have F : ∀ o j, ¬ (o = (13, 0, 0) ∧ j = s) → ¬ (o = (19, 0, 0) ∧ j = s) → ¬ o = (18, 3, 0) → ¬ (o.2.1 = 9 + s ∧ o.1 < 10) → mset (wv (sl (mset (wr mem (9 + s) A) 13 0 0 s 1) S) (mem (18, 0, 0))) 19 0 0 s 1 o j = mem o j := by
    intro o j h1 h2 h3 h4
    have e1 : wv (sl (mset (wr mem (9 + s) A) 13 0 0 s 1) S) (mem (18, 0, 0)) o j = mem o j := by
      unfold wv
      split
      · rename_i h; rw [h]
      · unfold sl
        rw [if_neg h3]
        have e2 : wr mem (9 + s) A o j = mem o j := dif_neg h4
        by_cases q : o = (13, 0, 0)
        · subst q
          rw [mset_at, pk_un (fun z => h1 ⟨rfl, z⟩), e2]
        · rw [mset_ne _ _ _ _ _ _ q, e2]
    by_cases q : o = (19, 0, 0)
    · subst q
      rw [mset_at, pk_un (fun z => h2 ⟨rfl, z⟩), e1]
    · rw [mset_ne _ _ _ _ _ _ q, e1]
  have F13 : mset (wv (sl (mset (wr mem (9 + s) A) 13 0 0 s 1) S) (mem (18, 0, 0))) 19 0 0 s 1 (13, 0, 0) s = 1 := by
    rw [mset_ne _ _ _ _ _ _ (by decide), wv_ne (by decide)]
    unfold sl
    rw [if_neg (by decide), mset_at, pk_us]
  have F19 : mset (wv (sl (mset (wr mem (9 + s) A) 13 0 0 s 1) S) (mem (18, 0, 0))) 19 0 0 s 1 (19, 0, 0) s = 1 := by rw [mset_at, pk_us]
  have F3 : mset (wv (sl (mset (wr mem (9 + s) A) 13 0 0 s 1) S) (mem (18, 0, 0))) 19 0 0 s 1 (18, 3, 0) = S := by
    rw [mset_ne _ _ _ _ _ _ (by decide)]
    exact sl_at
  have FA : rd (mset (wv (sl (mset (wr mem (9 + s) A) 13 0 0 s 1) S) (mem (18, 0, 0))) 19 0 0 s 1) (9 + s) = A := by
    funext t i j
    have ht := t.isLt
    show mset (wv (sl (mset (wr mem (9 + s) A) 13 0 0 s 1) S) (mem (18, 0, 0))) 19 0 0 s 1 (t.val, 9 + s, i) j = _
    rw [mset_ne _ _ _ _ _ _ (by intro z; simp only [Prod.mk.injEq] at z; omega), wv_ne (by intro z; simp only [Prod.mk.injEq] at z; omega)]
    unfold sl
    rw [if_neg (by intro z; simp only [Prod.mk.injEq] at z; omega), mset_ne _ _ _ _ _ _ (by intro z; simp only [Prod.mk.injEq] at z; omega)]
    exact wr_in ht i j
  generalize mset (wv (sl (mset (wr mem (9 + s) A) 13 0 0 s 1) S) (mem (18, 0, 0))) 19 0 0 s 1 = W at *
  have rdk : ∀ k, ¬ k = 9 + s → rd W k = rd mem k := by
    intro k hk
    funext t i j
    have ht := t.isLt
    exact F _ _ (by rintro ⟨z, -⟩; simp only [Prod.mk.injEq] at z; omega) (by rintro ⟨z, -⟩; simp only [Prod.mk.injEq] at z; omega) (by intro z; simp only [Prod.mk.injEq] at z; omega) (fun z => hk z.1)
  have ff : ∀ t k, ¬ t < 10 → ¬ t = 13 → ¬ t = 19 → ¬ (t = 18 ∧ k = 3) → W (t, k, 0) = mem (t, k, 0) := fun t k h1 h2 h3 h4 => funext fun j => F _ _ (by rintro ⟨z, -⟩; simp only [Prod.mk.injEq] at z; omega) (by rintro ⟨z, -⟩; simp only [Prod.mk.injEq] at z; omega) (by intro z; simp only [Prod.mk.injEq] at z; exact h4 ⟨z.1, z.2.1⟩) (fun z => h1 z.2)
  obtain ⟨h1, ⟨old, sz, a1, a2, a3, a4, a5, a6⟩, h3, ⟨L, h4⟩, h5, h6⟩ := hI
  refine ⟨?_, ⟨old, sz, a1, a2, ?_, ?_, ?_, fun i hi => ?_⟩, fun s' hs' => ?_, ⟨L, ?_⟩, ?_, fun j hj => ?_⟩
  · rw [rdk 0 (by omega), ff 18 0 (by decide) (by decide) (by decide) (by decide)]; exact h1
  · rw [ff 10 0 (by decide) (by decide) (by decide) (by decide)]; exact a3
  · rw [ff 10 0 (by decide) (by decide) (by decide) (by decide)]; exact a4
  · rw [ff 17 0 (by decide) (by decide) (by decide) (by decide)]; exact a5
  · rw [rdk _ (by omega), ff 18 2 (by decide) (by decide) (by decide) (by decide)]; exact a6 i hi
  · by_cases e : s' = s
    · subst e
      rw [F13, F19, FA, F3]
      refine ⟨rfl, fun _ => hRo.ex fun k hk => ?_⟩
      rw [hS, if_pos (by omega), show 429 * s' + k - 429 * s' = k by omega]
    · have g13 : W (13, 0, 0) s' = mem (13, 0, 0) s' := F _ _ (fun z => e z.2) (by rintro ⟨z, -⟩; cases z) (by intro z; cases z) (by rintro ⟨-, z⟩; exact absurd z (by decide))
      have g19 : W (19, 0, 0) s' = mem (19, 0, 0) s' := F _ _ (by rintro ⟨z, -⟩; cases z) (fun z => e z.2) (by intro z; cases z) (by rintro ⟨-, z⟩; exact absurd z (by decide))
      rw [g13, g19, rdk _ (by omega), F3]
      refine ⟨(h3 s' hs').1, fun q => ((h3 s' hs').2 q).ex fun k hk => ?_⟩
      rw [hS, if_neg (by omega)]
  · obtain ⟨⟨b1, b2, b3⟩, ⟨c1, c2, c3⟩, d⟩ := h4
    refine ⟨⟨?_, b2, ?_⟩, ⟨?_, c2, ?_⟩, ?_⟩
    · rw [ff 14 0 (by decide) (by decide) (by decide) (by decide)]; exact b1
    · rw [ff 15 0 (by decide) (by decide) (by decide) (by decide)]; exact b3
    · rw [ff 17 0 (by decide) (by decide) (by decide) (by decide)]; exact c1
    · rw [ff 18 4 (by decide) (by decide) (by decide) (by decide)]; exact c3
    · rw [ff 15 0 (by decide) (by decide) (by decide) (by decide), ff 18 4 (by decide) (by decide) (by decide) (by decide)]; exact d
  · rw [ff 17 0 (by decide) (by decide) (by decide) (by decide)]; exact h5
  · rw [ff 18 5 (by decide) (by decide) (by decide) (by decide)]; exact h6 j hj
theorem B_restore {x : Int32} (hI : Inv b mem) (hb : b < 2 ^ 28) : Both g h_N_restore h_Md_restore [vI x] (b + 5000) mem := by
  obtain ⟨old, sz, hy⟩ := hI.2.1
  have in1 : ∀ s, s < 2 → ¬ nI s < 0 ∧ ¬ 1 < nI s := fun s hs => (win (a := 0) (b := 1) (by omega) (by decide) (by decide)).mpr ⟨by omega, by omega⟩
  have hIn : Inv (b + 5000) (wv mem (mem (18, 0, 0))) := by rw [wv_id]; exact hI.mono (by omega)
  refine RunI.ofGo rfl rfl (b_N_restore_0 (S_N_isSlot ?_))
  simp only [b2i_eq0, Decidable.not_not]
  refine ⟨fun a => ?_, fun a => qi (R_form (S_Md_restore (rcd_no hI hy) (fun _ => ⟨rfl, hIn⟩) (fun s hs e => absurd (e ▸ in1 s hs) a) (fun s hs e => absurd (e ▸ in1 s hs) a)))⟩
  obtain ⟨s, hs', rfl⟩ := nI_of2 (M := 1) (n := 1) (by decide) a.1 (Int32.not_lt.mp a.2)
  have hs : s < 2 := by omega
  have es := nI_clamp (n := s) (by omega)
  have eqs : ∀ {s' : Nat}, s' < 2 → nI s = nI s' → s = s' := fun h e => (nI_eq (by omega) (by omega)).mp e
  rw [es]
  refine ⟨vp_in_nI hs (by decide), fun q => ?_, fun q => qi (R_form (S_Md_restore (rcd_no hI hy) (fun z => absurd a z) (fun _ _ _ _ => ⟨rfl, hIn⟩) (fun s' hs2 e z => absurd (eqs hs2 e ▸ (hI.2.2.1 s hs).1 ▸ q) z)))⟩
  refine note_then hI hy fun M hM hy hrow hbig _ => ⟨vp_in_nI hs (by decide), ?_⟩
  have hM13 : ¬ M (13, 0, 0) s = 0 := by rw [hbig 13 0 0 (by decide)]; exact q
  have hsv := hM.2.2.1 s hs
  have hrs := hsv.2 hM13
  have hcp := T_St_copyFrom (g := g) (m := M) (k := 0) (N := rd M 0) (k1 := 9 + s) (PV := fun m3 => RunI g h_Hi_keepIfDone [vO 10 0 0, vI (m3 (2, 0, 0) 7)] m3 (fun r4 m4 => QI (fun r m1 => RunI g h_Md_restore [vO 17 0 0, vI (nI s)] m1 (fun r' m2 => r = r' ∧ Inv (b + 5000) m2)) (some (vI r4)) m4)) (by omega) hrs.1.1.1 (fl_ok hrs.1) (fun A hA => ?_)
  · rwa [wr_rd] at hcp
  have hRo := hrs.lq hA
  obtain ⟨p, w, t1, t2, t3, t4⟩ := hRo.2.2.1
  rw [wr_2]
  refine kp_in hy (by rw [t4]; exact nI_pos (by omega)) (qi (R_form ?_))
  rw [kp_v]
  have k19 : kpM (wr M 0 A) old sz (19, 0, 0) s = M (13, 0, 0) s := by
    rw [kp_ne (by decide), wr_big (by decide)]
    exact hsv.1.symm
  refine S_Md_restore (rcd_done hM hy) (fun z => absurd a z) (fun s' hs2 e z => absurd ?_ hM13) (fun s' hs2 e z v' hv' => ?_)
  · have := eqs hs2 e
    subst this
    rw [← k19]; exact z
  · have := eqs hs2 e
    subst this
    have hv2 : ∀ k, k < 429 → v' k = M (18, 3, 0) (429 * s + k) := fun k hk => by
      rw [hv' k hk, rcM_ne (by decide) (by decide), kp_ne (by decide), wr_big (by decide)]
    have hR2 : Ro b A v' := hRo.ex hv2
    exact ⟨hR2.2.2.2.v5.symm, hM.done hy hrow (hR2.mono (by omega)) (by omega)⟩
end SL
