/-! BESIDE EACH OTHER: carrying out -/
section CB
variable {g : Wg} {mem : Mm} {b : Nat}
theorem B_carryOut (hI : Inv b mem) (hb : b < 2 ^ 27) : Both g h_N_carryOut h_Md_carryOut [] (b + 5000) mem := by
  obtain ⟨L, hPd⟩ := hI.2.2.2.1
  refine RunI.ofGo rfl rfl (b_N_carryOut_0 (C_form fun c0 kd0 nc0 nu => T_Pd_findFault hPd.1 fun c1 kd1 nc1 nu1 => ⟨fun hf => ?_, fun hf => qi (E_form fun p lt mu => ?_)⟩))
  rotate_left
  · -- a fault
    have hP2 := hPd.agr (agr_pw (c := c1) (kd := kd1) (nc := nc1) (nu := nu1))
    have hI2 : Inv b (pw mem c1 kd1 nc1 nu1) := hI.agr agr_pw
    have e4 : pw mem c1 kd1 nc1 nu1 (18, 4, 0) = mem (15, 0, 0) := by rw [pw_ne4, hPd.2.2]
    refine RunI.ofGo rfl rfl (b_Md_carryOut_0 (S_Md_isGood (cu := nu) hP2.2.1 (fun _ p' lt' mu' _ => ⟨fun z => absurd rfl z, fun _ => qi ⟨rfl, (hI2.agr agr_rp).mono (by omega)⟩⟩) (fun z => absurd ?_ hf)))
    rw [e4] at z
    exact z
  -- none
  have hI1 : Inv b (pw mem c1 kd1 nc1 nu1) := hI.agr agr_pw
  have hP1 := hPd.agr (agr_pw (c := c1) (kd := kd1) (nc := nc1) (nu := nu1))
  have e15 : pw mem c1 kd1 nc1 nu1 (15, 0, 0) = mem (15, 0, 0) := pw_15
  generalize pw mem c1 kd1 nc1 nu1 = M0 at *
  obtain ⟨old, sz, hy0⟩ := hI1.2.1
  refine note_then hI1 hy0 fun M hM hy hrow hbig _ => RunV.ofGo rfl rfl (b_Pd_rewind_0 (qv ?_))
  have m15 : M (15, 0, 0) = mem (15, 0, 0) := (hbig 15 0 0 (by decide)).trans e15
  have m4 : M (18, 4, 0) = mem (15, 0, 0) := by rw [hbig 18 4 0 (by decide), ← hP1.2.2, e15]
  have hTx : Tx M L := by
    refine ⟨?_, hP1.1.2.1, ?_⟩
    · rw [hbig 14 0 0 (by decide)]; exact hP1.1.1
    · rw [hbig 15 0 0 (by decide)]; exact hP1.1.2.2
  have hTr : Tr M L := by
    refine ⟨?_, hP1.1.2.1, ?_⟩
    · rw [hbig 17 0 0 (by decide)]; exact hP1.2.1.1
    · rw [hbig 18 4 0 (by decide)]; exact hP1.2.1.2.2
  have h80 := hTx.2.1
  have hO := hM.1.1
  have hfl : ∀ nu', fltF (mem (15, 0, 0)) L 80 0 nu' = -6 := fun nu' => by rw [flt_ind 80 0 nu' nu]; exact hf
  have eM : mset M 14 0 0 2 0 = pw (wr M 0 (rd M 0)) 0 (M (14, 0, 0) 3) (M (14, 0, 0) 5).toBitVec.toNat (M (16, 0, 0)) := by
    conv => lhs; rw [← pw_id (m := M), show (0 : Int32) = nI 0 from rfl, pm_2]
    rw [wr_rd]
  rw [eM]
  generalize hnu : M (16, 0, 0) = nuM
  generalize (M (14, 0, 0) 5).toBitVec.toNat = ncM
  generalize M (14, 0, 0) 3 = kdM
  obtain ⟨k1, k2, k3, k4⟩ := coF_ok (sg := mem (15, 0, 0)) h80 80 0 nuM (rd M 0) b hO hM.1.2.1 hM.1.2.2.1 (by omega)
  refine T_carry hTx 80 0 0 0 _ _ _ _ b rfl (by omega) (by omega) hO hM.1.2.1 hM.1.2.2.1 (by omega) (by rw [m15]; exact hfl _) (Or.inl ⟨rfl, rfl⟩) (fun c' kd' nc' nu' => ?_)
  rw [m15]
  generalize hco : coF (mem (15, 0, 0)) L 80 0 nuM (rd M 0) = R at *
  obtain ⟨cnt0, N'⟩ := R
  simp only [] at k1 k2 k3 k4 ⊢
  have W10 : mset (pw (wr M 0 N') c' kd' nc' nu') 14 0 0 1 0 (10, 0, 0) = M (10, 0, 0) := by
    rw [mset_ne _ _ _ _ _ _ (by decide)]
    funext j
    have : pw (wr M 0 N') c' kd' nc' nu' (10, 0, 0) j = wr M 0 N' (10, 0, 0) j := by simp [pw]
    rw [this, wr_big (by decide)]
  refine keep_pos (old := old) (sz := sz) (nI_pos (by omega)) (by rw [W10]; exact hy.2.2.1) (by rw [W10]; exact hy.2.2.2.1) hy.1 hy.2.1 ?_
  -- the reference
  have Wo : ∀ o j, ¬ junk o j → ¬ (o = (14, 0, 0) ∧ j = 1) → mset (pw (wr M 0 N') c' kd' nc' nu') 14 0 0 1 0 o j = wr M 0 N' o j := by
    intro o j h1 h2
    have e1 : pw (wr M 0 N') c' kd' nc' nu' o j = wr M 0 N' o j := agr_pw o j h1
    by_cases q : o = (14, 0, 0)
    · subst q
      rw [mset_at, pk_un (fun z => h2 ⟨rfl, z⟩), e1]
    · rw [mset_ne _ _ _ _ _ _ q, e1]
  have W14 : mset (pw (wr M 0 N') c' kd' nc' nu') 14 0 0 1 0 (14, 0, 0) 1 = 0 := by rw [mset_at, pk_us]
  generalize mset (pw (wr M 0 N') c' kd' nc' nu') 14 0 0 1 0 = W at *
  have Xo : ∀ o j, ¬ junk o j → ¬ (o = (14, 0, 0) ∧ j = 1) → ¬ o = (10, 0, 0) → kpM W old sz o j = wr M 0 N' o j := fun o j h1 h2 h3 => by rw [kp_ne h3]; exact Wo o j h1 h2
  have X14 : kpM W old sz (14, 0, 0) 1 = 0 := by rw [kp_ne (by decide)]; exact W14
  have X10 : kpM W old sz (10, 0, 0) = kpM (wr M 0 N') old sz (10, 0, 0) := by
    have w10 : wr M 0 N' (10, 0, 0) = M (10, 0, 0) := wr_big (by decide)
    unfold kpM
    split
    · rw [mset_at, mset_at, W10, w10]
    · rw [mset_at, mset_at, W10, w10]
  have fo : ∀ k, k = 0 ∨ k = 2 ∨ k = 4 → kpM W old sz (18, k, 0) = M (18, k, 0) := by
    intro k hk
    funext j
    rw [Xo _ _ (nj (by rcases hk with rfl | rfl | rfl <;> decide) (by decide) (by omega) (by omega) (by omega)) (by rintro ⟨q, -⟩; cases q) (by intro q; cases q), wr_big (by decide)]
  have f17 : ∀ j, ¬ (j = 12 ∨ j = 13) → kpM W old sz (17, 0, 0) j = M (17, 0, 0) j := by
    intro j hj
    rw [Xo _ _ (nj (by decide) (by decide) (by omega) (by omega) (fun q => hj q.2)) (by rintro ⟨q, -⟩; cases q) (by intro q; cases q), wr_big (by decide)]
  generalize hX1 : kpM W old sz = X1 at *
  have hTr1 : Tr X1 L := ⟨by rw [f17 8 (by decide)]; exact hTr.1, h80, by rw [fo 4 (by omega)]; exact hTr.2.2⟩
  have sg1 : X1 (18, 4, 0) = mem (15, 0, 0) := by rw [fo 4 (by omega)]; exact m4
  refine E_form fun p lt mu => RunI.ofGo rfl rfl (b_Md_carryOut_0 (S_Md_isGood (cu := nu) hTr1 (fun z => absurd (by rw [sg1]; exact hf) z) (fun _ p' lt' mu' => ⟨fun _ => ?_, fun z => absurd z (by decide)⟩)))
  -- recording
  have r18 : ∀ k, k = 0 ∨ k = 2 ∨ k = 4 → rp X1 p' lt' mu' (18, k, 0) = M (18, k, 0) := by
    intro k hk
    rw [← fo k hk]
    funext j
    rcases hk with rfl | rfl | rfl <;> simp [rp]
  have r17 : ∀ j, ¬ (j = 12 ∨ j = 13) → rp X1 p' lt' mu' (17, 0, 0) j = M (17, 0, 0) j := by
    intro j hj
    rw [← f17 j hj]
    have h12 : ¬ j = 12 := fun q => hj (Or.inl q)
    have h13 : ¬ j = 13 := fun q => hj (Or.inr q)
    simp [rp, h12, h13]
  have ro : ∀ o j, ¬ junk o j → rp X1 p' lt' mu' o j = X1 o j := fun o j h => agr_rp o j h
  generalize rp X1 p' lt' mu' = Y1 at *
  have hrec : Rcd Y1 (Y1 (18, 0, 0)) (rcM Y1 (M (18, 0, 0)) sz) := by
    rw [r18 0 (by omega)]
    exact Or.inr ⟨by rw [r17 4 (by decide)]; exact hM.2.2.2.2.1, sz, hy.2.1, by rw [r17 3 (by decide)]; exact hy.2.2.2.2.1, rfl⟩
  have eY : Y1 = wv Y1 (Y1 (18, 0, 0)) := wv_id.symm
  have start : RunV g h_Md_record [vO 17 0 0] (wv Y1 (Y1 (18, 0, 0))) (fun m2 => ((1 : Int32) = 0 ∨ (1 : Int32) = 1) ∧ Go g h_Md_carryOut (QI (fun r' m2 => nI (0 + cnt0) = r' ∧ Inv (b + 5000) m2)) 28 [(0, vO 17 0 0), (1, vI 0), (2, vI 1)] [] (mset (mset m2 17 0 0 4 1) 17 0 0 12 0)) := by
    refine S_Md_record hrec ⟨by decide, ?_⟩
    rw [r18 0 (by omega)]
    -- the memory that the loop begins with
    have A17 : ∀ j, ¬ j = 4 → ¬ j = 12 → mset (mset (wv (rcM Y1 (M (18, 0, 0)) sz) (M (18, 0, 0))) 17 0 0 4 1) 17 0 0 12 0 (17, 0, 0) j = rcM Y1 (M (18, 0, 0)) sz (17, 0, 0) j := by
      intro j h4 h12
      rw [mset_at, pk_un h12, mset_at, pk_un h4, wv_ne (by decide)]
    have A4 : mset (mset (wv (rcM Y1 (M (18, 0, 0)) sz) (M (18, 0, 0))) 17 0 0 4 1) 17 0 0 12 0 (17, 0, 0) 4 = 1 := by rw [mset_at, pk_un (by decide), mset_at, pk_us]
    have A12 : mset (mset (wv (rcM Y1 (M (18, 0, 0)) sz) (M (18, 0, 0))) 17 0 0 4 1) 17 0 0 12 0 (17, 0, 0) 12 = nI 0 := by rw [mset_at, pk_us]; rfl
    have Ao : ∀ o, ¬ o = (17, 0, 0) → ¬ o = (18, 0, 0) → mset (mset (wv (rcM Y1 (M (18, 0, 0)) sz) (M (18, 0, 0))) 17 0 0 4 1) 17 0 0 12 0 o = rcM Y1 (M (18, 0, 0)) sz o := by
      intro o h1 h2
      rw [mset_ne _ _ _ _ _ _ h1, mset_ne _ _ _ _ _ _ h1, wv_ne h2]
    have A0 : mset (mset (wv (rcM Y1 (M (18, 0, 0)) sz) (M (18, 0, 0))) 17 0 0 4 1) 17 0 0 12 0 (18, 0, 0) = M (18, 0, 0) := by
      rw [mset_ne _ _ _ _ _ _ (by decide), mset_ne _ _ _ _ _ _ (by decide), wv_at]
    generalize mset (mset (wv (rcM Y1 (M (18, 0, 0)) sz) (M (18, 0, 0))) 17 0 0 4 1) 17 0 0 12 0 = X at *
    have x4 : X (18, 4, 0) = mem (15, 0, 0) := by
      rw [Ao _ (by decide) (by decide), rcM_ne (by decide) (by decide), r18 4 (by omega), m4]
    have x8 : X (17, 0, 0) 8 = nI L := by
      rw [A17 8 (by decide) (by decide), rcM_17 (by decide), r17 8 (by decide)]; exact hTr.1
    have hTX : Tr X L := ⟨x8, h80, by rw [x4, ← m4]; exact hTr.2.2⟩
    refine S_carry (sg := mem (15, 0, 0)) x4 hTX (by rw [A4]; decide) 80 0 0 0 nuM (rd M 0) b X rfl (by omega) (by omega) hO hM.1.2.1 hM.1.2.2.1 (by omega) (hfl _) (fun _ _ _ _ => rfl) (by rw [A0]; exact hM.1.2.2.2) A12 (Or.inl ⟨rfl, rfl⟩) (fun Z hZ hRZ => ?_)
    rw [hco] at hRZ ⊢
    refine ⟨rfl, ?_⟩
    have hG := hM.done hy hrow (b' := b + 5000) ⟨k1, k2, k3.mono (by omega), hRZ⟩ (by omega)
    -- both texts are empty
    have hG2 : Inv (b + 5000) (mset (mset (wv (rcM (kpM (wr M 0 N') old sz) (M (18, 0, 0)) sz) (Z (18, 0, 0))) 14 0 0 1 0) 17 0 0 8 0) := by
      refine hG.pad (L := 0) (fun o k h1 h2 h3 h4 => ?_) ?_
      · by_cases q : o = (17, 0, 0)
        · subst q
          rw [mset_at, pk_un (fun z => h3 ⟨rfl, z⟩), mset_ne _ _ _ _ _ _ (by decide)]
        · rw [mset_ne _ _ _ _ _ _ q]
          by_cases q2 : o = (14, 0, 0)
          · subst q2
            rw [mset_at, pk_un (fun z => h1 ⟨rfl, z⟩)]
          · rw [mset_ne _ _ _ _ _ _ q2]
      · obtain ⟨L2, -, -, d⟩ := hG.2.2.2.1
        refine ⟨⟨?_, by decide, fun i hi => absurd hi (Nat.not_lt_zero i)⟩, ⟨?_, by decide, fun i hi => absurd hi (Nat.not_lt_zero i)⟩, ?_⟩
        · rw [mset_ne _ _ _ _ _ _ (by decide), mset_at, pk_us]; rfl
        · rw [mset_at, pk_us]; rfl
        · rw [mset_ne _ _ _ _ _ _ (by decide), mset_ne _ _ _ _ _ _ (by decide), mset_ne _ _ _ _ _ _ (by decide), mset_ne _ _ _ _ _ _ (by decide)]; exact d
    refine hG2.agr fun o j hn => ?_
    by_cases o18 : o = (18, 0, 0)
    · subst o18
      rw [mset_ne _ _ _ _ _ _ (by decide), mset_ne _ _ _ _ _ _ (by decide), mset_ne _ _ _ _ _ _ (by decide), mset_ne _ _ _ _ _ _ (by decide), wv_at]
    by_cases o17 : o = (17, 0, 0)
    · subst o17
      rw [mset_at, mset_at]
      by_cases j8 : j = 8
      · subst j8
        rw [pk_us, mset_at, pk_us]
      · rw [pk_un j8, mset_at, pk_un j8, mset_ne _ _ _ _ _ _ (by decide), wv_ne (by decide)]
        by_cases j4 : j = 4
        · subst j4
          rw [pk_us, rcM_17 (by decide), kp_ne (by decide), wr_big (by decide)]
          exact hM.2.2.2.2.1.symm
        · have j12 : ¬ j = 12 := fun q => hn (Or.inr (Or.inr (Or.inr (Or.inr (Or.inr (Or.inr (Or.inr ⟨rfl, Or.inl q⟩)))))))
          have j13 : ¬ j = 13 := fun q => hn (Or.inr (Or.inr (Or.inr (Or.inr (Or.inr (Or.inr (Or.inr ⟨rfl, Or.inr q⟩)))))))
          rw [pk_un j4, hZ _ _ hn (by decide), A17 j j4 j12]
          by_cases j3 : j = 3
          · subst j3
            rw [rcM_3, rcM_3]
          · rw [rcM_17 j3, rcM_17 j3, r17 j (by omega), kp_ne (by decide), wr_big (by decide)]
    · rw [mset_ne _ _ _ _ _ _ o17, mset_ne _ _ _ _ _ _ o17, mset_ne _ _ _ _ _ _ o17, hZ _ _ hn o18, Ao o o17 o18]
      by_cases oh : o = (18, 2, 0)
      · subst oh
        rw [mset_ne _ _ _ _ _ _ (by decide), wv_ne (by decide), rcM_h, rcM_h, r18 2 (by omega), kp_ne (by decide), wr_big (by decide)]
      · rw [rcM_ne o17 oh, ro o j hn]
        by_cases o14 : o = (14, 0, 0) ∧ j = 1
        · obtain ⟨rfl, rfl⟩ := o14
          rw [X14, mset_at, pk_us]
        · have eG : mset (wv (rcM (kpM (wr M 0 N') old sz) (M (18, 0, 0)) sz) (Z (18, 0, 0))) 14 0 0 1 0 o j = kpM (wr M 0 N') old sz o j := by
            by_cases q : o = (14, 0, 0)
            · subst q
              rw [mset_at, pk_un (fun z => o14 ⟨rfl, z⟩), wv_ne (by decide), rcM_ne (by decide) (by decide)]
            · rw [mset_ne _ _ _ _ _ _ q, wv_ne o18, rcM_ne o17 oh]
          rw [eG]
          by_cases o10 : o = (10, 0, 0)
          · subst o10
            rw [X10]
          · rw [Xo o j hn o14 o10, kp_ne o10]
  rw [← eY] at start
  exact start
end CB
