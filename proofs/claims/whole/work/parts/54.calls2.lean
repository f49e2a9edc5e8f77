/-! BESIDE EACH OTHER: weeks, the pad, undoing, saved states -/
section CA
variable {g : Wg} {mem M : Mm} {b b' old sz : Nat} {P : Int32 → Mm → Prop} {PV : Mm → Prop}
theorem ok_wks {N : Nu} (hO : Ok N) (hT : Tm b N) (w : Nat) : Tm (b + w) (runN (fun _ => wekN) N w) := by
  obtain ⟨p, w0, h1, h2, h3, h4⟩ := hT
  exact ⟨p, w0 + w, by omega, by omega, (weks_78 w).2.trans h3, by rw [(weks_78 w).1, h4, nI_add]⟩
theorem B_weeks {x : Int32} (hI : Inv b mem) (hb : b < 2 ^ 28) : Both g h_N_weeks h_Md_weeks [vI x] (b + 5000) mem := by
  obtain ⟨old, sz, hy⟩ := hI.2.1
  refine RunI.ofGo rfl rfl (b_N_weeks_0 (note_then hI hy fun M hM hy hrow _ _ => T_form ?_))
  have hO := hM.1.1
  have in52 : ∀ w, 1 ≤ w → w ≤ 52 → ¬ nI w < 1 ∧ ¬ 52 < nI w := fun w h1 h2 => (win (a := 1) (b := 52) (by omega) (by decide) (by decide)).mpr ⟨h1, h2⟩
  refine T_Wk_passWeeks (wi_ok hO) (fun a => keep_neg (by decide) (qi (ref_no hM (by omega) fun P hp => S_Md_weeks hM.1.2.2.2 hO hM.1.2.1 (rcd_no hM hy) (fun _ => hp) (fun w h1 h2 e => absurd (e ▸ in52 w h1 h2) a)))) (fun w h1 h2 e => ?_)
  have hT := ok_wks hO hM.1.2.2.1 w
  obtain ⟨p, w0, t1, t2, t3, t4⟩ := id hT
  refine kp_in hy (by rw [t4]; exact nI_pos (by omega)) (qi (R_form ?_))
  rw [kp_v]
  refine S_Md_weeks hM.1.2.2.2 hO hM.1.2.1 (rcd_done hM hy) (fun q => absurd (e ▸ in52 w h1 h2) q) (fun w' h1' h2' e' v' T H hv' ho hpl => ?_)
  have : w = w' := (nI_eq (by omega) (by omega)).mp (e.symm.trans e')
  subst this
  exact ⟨rfl, (hM.done hy hrow ⟨ho, hpl, hT.mono (by omega), hv'⟩ (by omega)).agr agr_th⟩
theorem Inv.pad {m m' : Mm} {L : Nat} (hI : Inv b m) (h : ∀ o j, ¬ (o = (14, 0, 0) ∧ j = 1) → ¬ o = (15, 0, 0) → ¬ (o = (17, 0, 0) ∧ j = 8) → ¬ o = (18, 4, 0) → m' o j = m o j) (hP : Pd m' L) : Inv b m' := by
  obtain ⟨h1, ⟨old, sz, a1, a2, a3, a4, a5, a6⟩, h3, h4, h5, h6⟩ := hI
  have rdk : ∀ k, rd m' k = rd m k := by
    intro k
    funext t i j
    have ht := t.isLt
    exact h _ _ (by rintro ⟨q, -⟩; simp only [Prod.mk.injEq] at q; omega) (by intro q; simp only [Prod.mk.injEq] at q; omega) (by rintro ⟨q, -⟩; simp only [Prod.mk.injEq] at q; omega) (by intro q; simp only [Prod.mk.injEq] at q; omega)
  have c : ∀ t k j, ¬ t = 14 → ¬ t = 15 → ¬ t = 17 → ¬ (t = 18 ∧ k = 4) → m' (t, k, 0) j = m (t, k, 0) j := fun t k j q1 q2 q3 q4 => h _ _ (by rintro ⟨q, -⟩; simp only [Prod.mk.injEq] at q; exact q1 q.1) (by intro q; simp only [Prod.mk.injEq] at q; exact q2 q.1) (by rintro ⟨q, -⟩; simp only [Prod.mk.injEq] at q; exact q3 q.1) (by intro q; simp only [Prod.mk.injEq] at q; exact q4 ⟨q.1, q.2.1⟩)
  have c17 : ∀ j, ¬ j = 8 → m' (17, 0, 0) j = m (17, 0, 0) j := fun j hj => h _ _ (by rintro ⟨q, -⟩; cases q) (by intro q; cases q) (by rintro ⟨-, q⟩; exact hj q) (by intro q; cases q)
  have cf : ∀ t k, ¬ t = 14 → ¬ t = 15 → ¬ t = 17 → ¬ (t = 18 ∧ k = 4) → m' (t, k, 0) = m (t, k, 0) := fun t k q1 q2 q3 q4 => funext fun j => c t k j q1 q2 q3 q4
  refine ⟨?_, ⟨old, sz, a1, a2, ?_, ?_, ?_, fun i hi => ?_⟩, fun s hs => ?_, ⟨L, hP⟩, ?_, fun j hj => ?_⟩
  · rw [rdk, cf 18 0 (by decide) (by decide) (by decide) (by decide)]; exact h1
  · rw [c 10 0 1 (by decide) (by decide) (by decide) (by decide)]; exact a3
  · rw [c 10 0 2 (by decide) (by decide) (by decide) (by decide)]; exact a4
  · rw [c17 3 (by decide)]; exact a5
  · rw [rdk, cf 18 2 (by decide) (by decide) (by decide) (by decide)]; exact a6 i hi
  · rw [rdk, cf 18 3 (by decide) (by decide) (by decide) (by decide), cf 13 0 (by decide) (by decide) (by decide) (by decide), cf 19 0 (by decide) (by decide) (by decide) (by decide)]; exact h3 s hs
  · rw [c17 4 (by decide)]; exact h5
  · rw [cf 18 5 (by decide) (by decide) (by decide) (by decide)]; exact h6 j hj
theorem ptS_at : ∀ n (sg : Nat → Int32) (L : Nat) (j : Int64) k, k < L + n → ptS sg L j n k = if k < L then sg k else sgA j (L + n - 1 - k)
  | 0, sg, L, j, k, h => by
    rw [if_pos (by omega)]
    rfl
  | n + 1, sg, L, j, k, h => by
    show ptS (upd sg L (sgA j n)) (L + 1) j n k = _
    rw [ptS_at n _ (L + 1) j k (by omega)]
    by_cases e : k < L
    · rw [if_pos (by omega), if_pos e, pk_un (by omega)]
    · rw [if_neg e]
      by_cases e2 : k = L
      · subst e2
        rw [if_pos (by omega), pk_us, show k + (n + 1) - 1 - k = n by omega]
      · rw [if_neg (by omega), show L + 1 + n - 1 - k = L + (n + 1) - 1 - k by omega]
theorem by_num {j : Int64} : byB j ↔ 33 ≤ j.toBitVec.toNat % 256 ∧ j.toBitVec.toNat % 256 ≤ 126 := by
  unfold byB
  rw [l255, lN_i]
  exact win (a := 33) (b := 126) (by omega) (by decide) (by decide)
theorem cin_by : ∀ f j n, n ≤ cinF f j n → ∀ i, i < cinF f j n - n → 33 ≤ byN j i ∧ byN j i ≤ 126
  | 0, j, n, h, i, hi => by
    unfold cinF at hi
    split at hi <;> omega
  | f + 1, j, n, h, i, hi => by
    unfold cinF at h hi
    split at hi
    · split at hi <;> omega
    · rename_i h255
      rw [if_neg h255] at h
      split at hi
      · rename_i hb
        rw [if_pos hb] at h
        rcases i with _ | i
        · have := by_num.mp hb
          unfold byN
          rw [Nat.mul_zero, Nat.pow_zero, Nat.div_one]
          exact this
        · by_cases hc : n + 1 ≤ cinF f (shr8 j) (n + 1)
          · have := cin_by f (shr8 j) (n + 1) hc i (by omega)
            unfold byN at this ⊢
            rw [sh8_tn, Nat.div_div_eq_div_mul, show 256 * 2 ^ (8 * i) = 2 ^ (8 * (i + 1)) by rw [show 8 * (i + 1) = 8 * i + 8 by omega, Nat.pow_add, Nat.mul_comm]] at this
            exact this
          · omega
      · omega
theorem B_put {j : Int64} (hI : Inv b mem) : Both g h_N_put h_Md_put [vJ j] b mem := by
  obtain ⟨L, ⟨t1, t2, t3⟩, ⟨r1, r2, r3⟩, d⟩ := hI.2.2.2.1
  have hc8 := cin_le 8 j 0
  refine RunI.ofGo rfl rfl (b_N_put_0 (T_Pd_append (L := L) t1 t2 (fun q => qi ?_) (fun q1 q2 => qi ?_) (fun q1 q2 => qi ?_)))
  · exact S_Md_put (L := L) r1 r2 (fun _ => ⟨rfl, hI⟩) (fun z => absurd q z) (fun z => absurd q z)
  · exact S_Md_put (L := L) r1 r2 (fun z => absurd z q1) (fun _ _ => ⟨rfl, hI⟩) (fun _ z => absurd z q2)
  · generalize hn : cinF 8 j 0 = n at *
    have e17 : ptM mem (L + n) (ptS (mem (15, 0, 0)) L j n) (17, 0, 0) 8 = nI L := by
      unfold ptM
      rw [if_neg (by rintro ⟨q, -⟩; cases q), if_neg (by decide)]
      exact r1
    have e4 : ptM mem (L + n) (ptS (mem (15, 0, 0)) L j n) (18, 4, 0) = mem (18, 4, 0) := by
      funext k
      unfold ptM
      rw [if_neg (by rintro ⟨q, -⟩; cases q), if_neg (by decide)]
    refine S_Md_put (L := L) e17 r2 (fun z => absurd (hn ▸ z) q1) (fun _ z => absurd q2 (hn ▸ z)) (fun _ _ => ?_)
    rw [hn, e4, ← d]
    refine ⟨rfl, hI.pad (L := L + n) (fun o k h1 h2 h3 h4 => ?_) ?_⟩
    · unfold ppM ptM
      rw [if_neg h3, if_neg h4, if_neg h1, if_neg h2]
    · have hs : ∀ i, i < L + n → ¬ ptS (mem (15, 0, 0)) L j n i < 33 ∧ ¬ 126 < ptS (mem (15, 0, 0)) L j n i := by
        intro i hi
        rw [ptS_at n _ L j i hi]
        split
        · rename_i h; exact t3 i h
        · rename_i h
          have hk : L + n - 1 - i < n := by omega
          have := cin_by 8 j 0 (Nat.zero_le _) (L + n - 1 - i) (by rw [hn]; omega)
          rw [sgA_N (by omega)]
          exact (win (a := 33) (b := 126) (by omega) (by decide) (by decide)).mpr this
      have f1 : ppM (ptM mem (L + n) (ptS (mem (15, 0, 0)) L j n)) (L + n) (ptS (mem (15, 0, 0)) L j n) (14, 0, 0) 1 = nI (L + n) := by
        unfold ppM ptM
        rw [if_neg (by rintro ⟨q, -⟩; cases q), if_neg (by decide), if_pos ⟨rfl, rfl⟩]
      have f15 : ppM (ptM mem (L + n) (ptS (mem (15, 0, 0)) L j n)) (L + n) (ptS (mem (15, 0, 0)) L j n) (15, 0, 0) = ptS (mem (15, 0, 0)) L j n := by
        funext k
        unfold ppM ptM
        rw [if_neg (by rintro ⟨q, -⟩; cases q), if_neg (by decide), if_neg (by rintro ⟨q, -⟩; cases q), if_pos rfl]
      have f17 : ppM (ptM mem (L + n) (ptS (mem (15, 0, 0)) L j n)) (L + n) (ptS (mem (15, 0, 0)) L j n) (17, 0, 0) 8 = nI (L + n) := by
        unfold ppM
        rw [if_pos ⟨rfl, rfl⟩]
      have f4 : ppM (ptM mem (L + n) (ptS (mem (15, 0, 0)) L j n)) (L + n) (ptS (mem (15, 0, 0)) L j n) (18, 4, 0) = ptS (mem (15, 0, 0)) L j n := by
        funext k
        unfold ppM
        rw [if_neg (by rintro ⟨q, -⟩; cases q), if_pos rfl]
      exact ⟨⟨f1, q2, by rw [f15]; exact hs⟩, ⟨f17, q2, by rw [f4]; exact hs⟩, by rw [f15, f4]⟩
theorem B_wipe (hI : Inv b mem) : Both g h_N_wipe h_Md_wipe [] b mem := by
  obtain ⟨L, ⟨t1, t2, t3⟩, ⟨r1, r2, r3⟩, d⟩ := hI.2.2.2.1
  refine RunI.ofGo rfl rfl (b_N_wipe_0 (T_Pd_clear (qi (S_Md_wipe ?_))))
  have e17 : mset mem 14 0 0 1 0 (17, 0, 0) = mem (17, 0, 0) := mset_ne _ _ _ _ _ _ (by decide)
  refine ⟨by rw [t1, e17, r1], hI.pad (L := 0) (fun o k h1 h2 h3 h4 => ?_) ⟨⟨?_, by decide, fun i hi => absurd hi (Nat.not_lt_zero i)⟩, ⟨?_, by decide, fun i hi => absurd hi (Nat.not_lt_zero i)⟩, ?_⟩⟩
  · by_cases q : o = (17, 0, 0)
    · subst q
      rw [mset_at, pk_un (fun z => h3 ⟨rfl, z⟩), e17]
    · rw [mset_ne _ _ _ _ _ _ q]
      by_cases q2 : o = (14, 0, 0)
      · subst q2
        rw [mset_at, pk_un (fun z => h1 ⟨rfl, z⟩)]
      · rw [mset_ne _ _ _ _ _ _ q2]
  · rw [mset_ne _ _ _ _ _ _ (by decide), mset_at, pk_us]; rfl
  · rw [mset_at, pk_us]; rfl
  · rw [mset_ne _ _ _ _ _ _ (by decide), mset_ne _ _ _ _ _ _ (by decide), mset_ne _ _ _ _ _ _ (by decide), mset_ne _ _ _ _ _ _ (by decide)]; exact d
theorem pw_id {m : Mm} : pw m (m (14, 0, 0) 2).toBitVec.toNat (m (14, 0, 0) 3) (m (14, 0, 0) 5).toBitVec.toNat (m (16, 0, 0)) = m := by
  funext o j
  unfold pw
  by_cases h : o = (14, 0, 0)
  · rw [if_pos h]
    subst h
    by_cases h2 : j = 2
    · rw [if_pos h2, h2, ← nI_tn]
    · rw [if_neg h2]
      by_cases h3 : j = 3
      · rw [if_pos h3, h3]
      · rw [if_neg h3]
        by_cases h5 : j = 5
        · rw [if_pos h5, h5, ← nI_tn]
        · rw [if_neg h5]
  · rw [if_neg h]
    by_cases h2 : o = (16, 0, 0)
    · rw [if_pos h2, h2]
    · rw [if_neg h2]
theorem rp_id {m : Mm} : rp m (m (17, 0, 0) 12).toBitVec.toNat (m (17, 0, 0) 13) (m (18, 8, 0)) = m := by
  funext o j
  unfold rp
  by_cases h : o = (17, 0, 0)
  · rw [if_pos h]
    subst h
    by_cases h2 : j = 12
    · rw [if_pos h2, h2, ← nI_tn]
    · rw [if_neg h2]
      by_cases h3 : j = 13
      · rw [if_pos h3, h3]
      · rw [if_neg h3]
  · rw [if_neg h]
    by_cases h2 : o = (18, 8, 0)
    · rw [if_pos h2, h2]
    · rw [if_neg h2]
theorem pw_ne4 {m : Mm} {c nc : Nat} {kd : Int32} {nu : Nat → Int32} : pw m c kd nc nu (18, 4, 0) = m (18, 4, 0) := by
  funext j
  simp [pw]
theorem C_form {hd : Hd} {as : List Vl} (h : ∀ c kd nc nu, RunI g hd as (pw M c kd nc nu) P) : RunI g hd as M P := by
  have := h (M (14, 0, 0) 2).toBitVec.toNat (M (14, 0, 0) 3) (M (14, 0, 0) 5).toBitVec.toNat (M (16, 0, 0))
  rwa [pw_id] at this
theorem E_form {hd : Hd} {as : List Vl} (h : ∀ c lt nu, RunI g hd as (rp M c lt nu) P) : RunI g hd as M P := by
  have := h (M (17, 0, 0) 12).toBitVec.toNat (M (17, 0, 0) 13) (M (18, 8, 0))
  rwa [rp_id] at this
theorem Pd.agr {m m' : Mm} {L : Nat} (h : Pd m L) (ha : Agr m m') : Pd m' L := by
  obtain ⟨⟨b1, b2, b3⟩, ⟨c1, c2, c3⟩, d⟩ := h
  have e15 : m' (15, 0, 0) = m (15, 0, 0) := funext fun j => ha _ _ (nj (by decide) (by decide) (by decide) (by omega) (by omega))
  have e4 : m' (18, 4, 0) = m (18, 4, 0) := funext fun j => ha _ _ (nj (by decide) (by decide) (by decide) (by omega) (by omega))
  have e14 : m' (14, 0, 0) 1 = m (14, 0, 0) 1 := ha _ _ (nj (by decide) (by decide) (by decide) (by omega) (by omega))
  have e17 : m' (17, 0, 0) 8 = m (17, 0, 0) 8 := ha _ _ (nj (by decide) (by decide) (by decide) (by omega) (by omega))
  exact ⟨⟨by rw [e14]; exact b1, b2, by rw [e15]; exact b3⟩, ⟨by rw [e17]; exact c1, c2, by rw [e4]; exact c3⟩, by rw [e15, e4]; exact d⟩
theorem B_fault (hI : Inv b mem) : Both g h_N_fault h_Md_fault [] b mem := by
  obtain ⟨L, hP⟩ := hI.2.2.2.1
  refine RunI.ofGo rfl rfl (b_N_fault_0 (C_form fun c kd nc nu => T_Pd_findFault hP.1 fun c' kd' nc' nu' => qi (E_form fun p lt mu => ?_)))
  have hP2 := hP.agr (agr_pw (c := c') (kd := kd') (nc := nc') (nu := nu'))
  refine S_Md_fault (cu := nu) hP2.2.1 fun p' lt' mu' => ⟨?_, (hI.agr agr_pw).agr agr_rp⟩
  rw [pw_ne4, hP.2.2]
theorem B_undo (hI : Inv b mem) : Both g h_N_undo h_Md_undo [] b mem := by
  obtain ⟨old, sz, a1, a2, a3, a4, a5, a6⟩ := hI.2.1
  refine RunI.ofGo rfl rfl (b_N_undo_0 (RunI.ofGo rfl rfl (b_Hi_takeBack_0 ?_)))
  rw [a4]
  refine ⟨fun q => ?_, fun q => qi (qi (R_form ?_))⟩
  · rcases sz with _ | s
    · exact absurd rfl q
    rw [nI_pred, mset_at, pk_us, pk_un (by decide), a3, nI_add, show nI (old + s) - nI (old + s) / 7 * 7 = nI ((old + s) % 7) from pk_rem (d := 7) (by omega) (by omega) (by omega), nI_clamp (n := (old + s) % 7) (by omega)]
    refine ⟨by decide, vp_in_nI (by omega) (by omega), ?_⟩
    have hrow := a6 s (by omega)
    have e10 : ∀ k, rd (mset mem 10 0 0 2 (nI s)) k = rd mem k := by
      intro k
      funext t i j
      have ht := t.isLt
      show mset mem 10 0 0 2 (nI s) (t.val, k, i) j = mem (t.val, k, i) j
      rw [mset_ne _ _ _ _ _ _ (by intro z; simp only [Prod.mk.injEq] at z; omega)]
    have hcp := T_St_copyFrom (g := g) (m := mset mem 10 0 0 2 (nI s)) (k := 0) (N := rd (mset mem 10 0 0 2 (nI s)) 0) (k1 := 2 + (old + s) % 7) (PV := fun m1 => QI (fun r1 m1 => QI (fun r m1 => RunI g h_Md_undo [vO 17 0 0] m1 (fun r' m2 => r = r' ∧ Inv b m2)) (some (vI r1)) m1) (some (vI (m1 (10, 0, 0) 2))) m1) (by omega) (by rw [e10]; exact hrow.1.1.1) (by rw [e10]; exact fl_ok hrow.1) (fun A hA => ?_)
    · rwa [wr_rd] at hcp
    rw [e10] at hA
    refine qi (qi (R_form ?_))
    have w10 : wr (mset mem 10 0 0 2 (nI s)) 0 A (10, 0, 0) 2 = nI s := by
      rw [wr_big (by decide), mset_at, pk_us]
    have w18 : wr (mset mem 10 0 0 2 (nI s)) 0 A (18, 0, 0) = mem (18, 0, 0) := by
      rw [wr_big (by decide), mset_ne _ _ _ _ _ _ (by decide)]
    have w2 : wr (mset mem 10 0 0 2 (nI s)) 0 A (18, 2, 0) = mem (18, 2, 0) := by
      rw [wr_big (by decide), mset_ne _ _ _ _ _ _ (by decide)]
    have w17 : wr (mset mem 10 0 0 2 (nI s)) 0 A (17, 0, 0) = mem (17, 0, 0) := by
      rw [wr_big (by decide), mset_ne _ _ _ _ _ _ (by decide)]
    rw [w10, w18]
    refine S_Md_undo (st := s + 1) (by rw [w17]; exact a5) a2 (fun z => absurd z (by omega)) (fun s' hs' v' hv' => ?_)
    have : s' = s := by omega
    subst this
    rw [w2] at hv' ⊢
    refine ⟨rfl, ?_⟩
    have hRo : Ro b A v' := (hrow.lq hA).ex (fun k hk => hv' k hk)
    have hS := hI.st hRo (Nat.le_refl _)
    -- the memory is that one, but for the sizes
    obtain ⟨s1, ⟨o2, z2, -, -, -, -, -, -⟩, s3, ⟨L, s4⟩, s5, s6⟩ := hS
    have same : ∀ o j, ¬ (o = (10, 0, 0) ∧ j = 2) → ¬ (o = (17, 0, 0) ∧ j = 3) → wv (hm (wr (mset mem 10 0 0 2 (nI s')) 0 A) s' (mem (18, 2, 0))) v' o j = wv (wr mem 0 A) v' o j := by
      intro o j h1 h2
      unfold wv
      split
      · rfl
      · unfold hm
        rw [if_neg h2]
        split
        · rename_i h
          subst h
          exact (congrFun (wr_big (m := mem) (k := 0) (N := A) (t := 18) (k' := 2) (i := 0) (by decide)) j).symm
        · obtain ⟨t, k, i⟩ := o
          by_cases hk : k = 0 ∧ t < 10
          · obtain ⟨rfl, ht⟩ := hk
            rw [wr_in ht, wr_in ht]
          · have : wr (mset mem 10 0 0 2 (nI s')) 0 A (t, k, i) j = mset mem 10 0 0 2 (nI s') (t, k, i) j := dif_neg hk
            rw [this]
            have h9 : wr mem 0 A (t, k, i) j = mem (t, k, i) j := dif_neg hk
            rw [h9]
            by_cases q10 : ((t, k, i) : Rf) = (10, 0, 0)
            · rw [q10, mset_at, pk_un (fun z => h1 ⟨q10, z⟩)]
            · rw [mset_ne _ _ _ _ _ _ q10]
    have rdk : ∀ k, rd (wv (hm (wr (mset mem 10 0 0 2 (nI s')) 0 A) s' (mem (18, 2, 0))) v') k = rd (wv (wr mem 0 A) v') k := by
      intro k
      funext t i j
      have ht := t.isLt
      exact same _ _ (by rintro ⟨z, -⟩; simp only [Prod.mk.injEq] at z; omega) (by rintro ⟨z, -⟩; simp only [Prod.mk.injEq] at z; omega)
    have sf : ∀ o, ¬ o = (10, 0, 0) → ¬ o = (17, 0, 0) → wv (hm (wr (mset mem 10 0 0 2 (nI s')) 0 A) s' (mem (18, 2, 0))) v' o = wv (wr mem 0 A) v' o := fun o h1 h2 => funext fun j => same o j (fun z => h1 z.1) (fun z => h2 z.1)
    have rdM : ∀ k, ¬ k = 0 → rd (wv (wr mem 0 A) v') k = rd mem k := by
      intro k hk
      funext t i j
      have ht := t.isLt
      show wv (wr mem 0 A) v' (t.val, k, i) j = mem (t.val, k, i) j
      rw [wv_ne (by intro z; simp only [Prod.mk.injEq] at z; exact hk z.2.1), wr_ne hk]
    refine ⟨?_, ⟨old, s', a1, by omega, ?_, ?_, ?_, fun i hi => ?_⟩, fun k hk => ?_, ⟨L, ?_⟩, ?_, fun j hj => ?_⟩
    · rw [rdk, sf (18, 0, 0) (by decide) (by decide)]; exact s1
    · rw [same (10, 0, 0) 1 (by decide) (by decide), wv_ne (by decide), wr_big (by decide)]; exact a3
    · rw [wv_ne (by decide)]
      unfold hm
      rw [if_neg (by decide), if_neg (by decide), wr_big (by decide), mset_at, pk_us]
    · rw [hm_3]
    · rw [rdk, rdM _ (by omega), hm_2]
      exact a6 i (by omega)
    · rw [rdk, sf (18, 3, 0) (by decide) (by decide), sf (13, 0, 0) (by decide) (by decide), sf (19, 0, 0) (by decide) (by decide)]; exact s3 k hk
    · obtain ⟨⟨b1, b2, b3⟩, ⟨c1, c2, c3⟩, d⟩ := s4
      refine ⟨⟨?_, b2, ?_⟩, ⟨?_, c2, ?_⟩, ?_⟩
      · rw [sf (14, 0, 0) (by decide) (by decide)]; exact b1
      · rw [sf (15, 0, 0) (by decide) (by decide)]; exact b3
      · rw [same (17, 0, 0) 8 (by decide) (by decide)]; exact c1
      · rw [sf (18, 4, 0) (by decide) (by decide)]; exact c3
      · rw [sf (15, 0, 0) (by decide) (by decide), sf (18, 4, 0) (by decide) (by decide)]; exact d
    · rw [same (17, 0, 0) 4 (by decide) (by decide)]; exact s5
    · rw [sf (18, 5, 0) (by decide) (by decide)]; exact s6 j hj
  · have : sz = 0 := (nI_eq (b := 0) (by omega) (by omega)).mp q
    subst this
    exact S_Md_undo (st := 0) a5 (by omega) (fun _ => ⟨rfl, by rw [wv_id]; exact hI⟩) (fun s hs => absurd hs (by omega))
end CA
