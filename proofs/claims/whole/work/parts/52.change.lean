/-! BESIDE EACH OTHER: the calls that change something -/
def kpM (m : Mm) (old sz : Nat) : Mm := if sz = 6 then mset m 10 0 0 1 (nI ((old + 1) % 7)) else mset m 10 0 0 2 (nI (sz + 1))
theorem kp_ne {m : Mm} {old sz : Nat} {o : Rf} (h : ¬ o = (10, 0, 0)) : kpM m old sz o = m o := by
  unfold kpM
  split
  · exact mset_ne _ _ _ _ _ _ h
  · exact mset_ne _ _ _ _ _ _ h
theorem rcM_ne {m : Mm} {v : Nat → Int32} {st : Nat} {o : Rf} (h1 : ¬ o = (17, 0, 0)) (h2 : ¬ o = (18, 2, 0)) : rcM m v st o = m o := by
  funext j
  unfold rcM hm
  rw [if_neg (fun q => h1 q.1), if_neg h2]
theorem rcM_17 {m : Mm} {v : Nat → Int32} {st j : Nat} (h : ¬ j = 3) : rcM m v st (17, 0, 0) j = m (17, 0, 0) j := by
  unfold rcM hm
  rw [if_neg (fun q => h q.2), if_neg (by decide)]
theorem rcM_3 {m : Mm} {v : Nat → Int32} {st : Nat} : rcM m v st (17, 0, 0) 3 = nI (if st = 6 then 6 else st + 1) := by
  unfold rcM hm
  rw [if_pos ⟨rfl, rfl⟩]
theorem rcM_h {m : Mm} {v : Nat → Int32} {st : Nat} : rcM m v st (18, 2, 0) = hsF (m (18, 2, 0)) v st := by
  funext j
  unfold rcM hm
  rw [if_neg (fun q => absurd q.1 (by decide)), if_pos rfl]
section CH
variable {g : Wg} {mem M : Mm} {b b' old sz : Nat} {P : Int32 → Mm → Prop} {PV : Mm → Prop}
theorem T_form {hd : Hd} {as : List Vl} (h : RunI g hd as (wr M 0 (rd M 0)) P) : RunI g hd as M P := by rwa [wr_rd] at h
theorem R_form {hd : Hd} {as : List Vl} (h : RunI g hd as (wv M (M (18, 0, 0))) P) : RunI g hd as M P := by rwa [wv_id] at h
/-- a history row that isn't looked at is written -/
theorem Inv.row {A : Nu} (hI : Inv b mem) (hy : Hy b mem old sz) : Inv b (wr mem (2 + (old + sz) % 7) A) ∧ Hy b (wr mem (2 + (old + sz) % 7) A) old sz := by
  obtain ⟨a1, a2, a3, a4, a5, a6⟩ := hy
  have hk : 2 + (old + sz) % 7 < 9 := by omega
  have big : ∀ t k i, ¬ t < 10 → wr mem (2 + (old + sz) % 7) A (t, k, i) = mem (t, k, i) := fun t k i ht => wr_big ht
  have rdk : ∀ k, ¬ k = 2 + (old + sz) % 7 → rd (wr mem (2 + (old + sz) % 7) A) k = rd mem k := fun k h => rd_ne h
  have hH : Hy b (wr mem (2 + (old + sz) % 7) A) old sz := by
    refine ⟨a1, a2, by rw [big 10 0 0 (by decide)]; exact a3, by rw [big 10 0 0 (by decide)]; exact a4, by rw [big 17 0 0 (by decide)]; exact a5, fun i hi => ?_⟩
    rw [rdk _ (by omega), big 18 2 0 (by decide)]
    exact a6 i hi
  obtain ⟨h1, -, h3, ⟨L, h4⟩, h5, h6⟩ := hI
  refine ⟨⟨?_, ⟨old, sz, hH⟩, fun s hs => ?_, ⟨L, ?_⟩, ?_, fun j hj => ?_⟩, hH⟩
  · rw [rdk 0 (by omega), big 18 0 0 (by decide)]; exact h1
  · rw [rdk _ (by omega), big 18 3 0 (by decide), big 13 0 0 (by decide), big 19 0 0 (by decide)]; exact h3 s hs
  · obtain ⟨⟨b1, b2, b3⟩, ⟨c1, c2, c3⟩, d⟩ := h4
    refine ⟨⟨?_, b2, ?_⟩, ⟨?_, c2, ?_⟩, ?_⟩
    · rw [big 14 0 0 (by decide)]; exact b1
    · rw [big 15 0 0 (by decide)]; exact b3
    · rw [big 17 0 0 (by decide)]; exact c1
    · rw [big 18 4 0 (by decide)]; exact c3
    · rw [big 15 0 0 (by decide), big 18 4 0 (by decide)]; exact d
  · rw [big 17 0 0 (by decide)]; exact h5
  · rw [big 18 5 0 (by decide)]; exact h6 j hj
theorem note_then (hI : Inv b mem) (hy : Hy b mem old sz) (hp : ∀ M, Inv b M → Hy b M old sz → Lq (rd M 0) (rd M (2 + (old + sz) % 7)) → (∀ t k i, ¬ t < 10 → M (t, k, i) = mem (t, k, i)) → rd M 0 = rd mem 0 → PV M) : RunV g h_Hi_note [vO 10 0 0, vO 2 0 0] mem PV := by
  obtain ⟨a1, a2, a3, a4, -⟩ := id hy
  refine RunV.ofGo rfl rfl (b_Hi_note_0 ?_)
  rw [a3, a4, nI_add, show nI (old + sz) - nI (old + sz) / 7 * 7 = nI ((old + sz) % 7) from pk_rem (d := 7) (by omega) (by omega) (by omega), nI_clamp (n := (old + sz) % 7) (by omega)]
  refine ⟨by decide, vp_in_nI (by omega) (by omega), ?_⟩
  have e1 : wr mem (2 + (old + sz) % 7) (rd mem (2 + (old + sz) % 7)) = mem := wr_rd
  have := T_St_copyFrom (g := g) (m := mem) (k := 2 + (old + sz) % 7) (N := rd mem (2 + (old + sz) % 7)) (PV := fun m1 => QV PV none m1) (k1 := 0) (by omega) hI.1.1.1.1 (fl_ok hI.1.1) (fun A hA => qv ?_)
  · rwa [e1] at this
  · obtain ⟨q1, q2⟩ := hI.row (A := A) hy
    have e0 : rd (wr mem (2 + (old + sz) % 7) A) 0 = rd mem 0 := rd_ne (by omega)
    exact hp _ q1 q2 (by rw [e0, rd_wr]; exact hA) (fun t k i ht => wr_big ht) e0
theorem keep_neg {x : Int32} {m : Mm} (hx : x < 0) (hp : P x m) : RunI g h_Hi_keepIfDone [vO 10 0 0, vI x] m P :=
  RunI.ofGo rfl rfl (b_Hi_keepIfDone_0 ⟨fun z => absurd hx (Int32.not_lt.mpr z), fun _ => qi hp⟩)
theorem keep_pos {x : Int32} {m : Mm} (hx : ¬ x < 0) (h1 : m (10, 0, 0) 1 = nI old) (h2 : m (10, 0, 0) 2 = nI sz) (ho : old < 7) (hs : sz ≤ 6) (hp : P x (kpM m old sz)) : RunI g h_Hi_keepIfDone [vO 10 0 0, vI x] m P := by
  unfold kpM at hp
  refine RunI.ofGo rfl rfl (b_Hi_keepIfDone_0 ⟨fun _ => ?_, fun z => absurd (Int32.not_lt.mp hx) z⟩)
  rw [h1, h2]
  refine ⟨fun z => ⟨by decide, qi ?_⟩, fun z => qi ?_⟩
  · have : sz = 6 := by
      have := (nI_leI (a := 6) (by omega) (by omega)).mp z
      omega
    rw [if_pos this] at hp
    rw [nI_1, show nI (old + 1) - nI (old + 1) / 7 * 7 = nI ((old + 1) % 7) from pk_rem (d := 7) (by omega) (by omega) (by omega)]
    exact hp
  · have : ¬ sz = 6 := fun q => z (by rw [q]; decide)
    rw [if_neg this] at hp
    rw [nI_1]
    exact hp
/-- the end of a call that is done: states beside rows again, one more in the history -/
theorem Inv.done {N' : Nu} {v' : Nat → Int32} (hM : Inv b M) (hy : Hy b M old sz) (hrow : Lq (rd M 0) (rd M (2 + (old + sz) % 7))) (h' : Ro b' N' v') (hb : b ≤ b') : Inv b' (wv (rcM (kpM (wr M 0 N') old sz) (M (18, 0, 0)) sz) v') := by
  have hS := hM.st h' hb
  have hRow : Ro b (rd M (2 + (old + sz) % 7)) (M (18, 0, 0)) := hM.1.lq hrow
  obtain ⟨a1, a2, a3, a4, a5, a6⟩ := hy
  obtain ⟨s1, -, s3, ⟨L, s4⟩, s5, s6⟩ := hS
  -- the two memories agree but for the history
  have same : ∀ t k i, ¬ ((t, k, i) : Rf) = (10, 0, 0) → ¬ ((t, k, i) : Rf) = (17, 0, 0) → ¬ ((t, k, i) : Rf) = (18, 2, 0) → wv (rcM (kpM (wr M 0 N') old sz) (M (18, 0, 0)) sz) v' (t, k, i) = wv (wr M 0 N') v' (t, k, i) := by
    intro t k i h1 h2 h3
    unfold wv
    split
    · rfl
    · rw [rcM_ne h2 h3, kp_ne h1]
  have rdk : ∀ k, rd (wv (rcM (kpM (wr M 0 N') old sz) (M (18, 0, 0)) sz) v') k = rd (wv (wr M 0 N') v') k := by
    intro k
    funext t i j
    have ht := t.isLt
    exact congrFun (same t.val k i (by intro q; simp only [Prod.mk.injEq] at q; omega) (by intro q; simp only [Prod.mk.injEq] at q; omega) (by intro q; simp only [Prod.mk.injEq] at q; omega)) j
  have rdM : ∀ k, ¬ k = 0 → rd (wv (wr M 0 N') v') k = rd M k := by
    intro k hk
    funext t i j
    have ht := t.isLt
    show wv (wr M 0 N') v' (t.val, k, i) j = M (t.val, k, i) j
    rw [wv_ne (by intro q; simp only [Prod.mk.injEq] at q; exact hk q.2.1), wr_ne hk]
  have c17 : ∀ j, ¬ j = 3 → wv (rcM (kpM (wr M 0 N') old sz) (M (18, 0, 0)) sz) v' (17, 0, 0) j = wv (wr M 0 N') v' (17, 0, 0) j := by
    intro j hj
    rw [wv_ne (by decide), wv_ne (by decide), rcM_17 hj, kp_ne (by decide)]
  have kH : wr M 0 N' (18, 2, 0) = M (18, 2, 0) := wr_big (by decide)
  have k10 : wr M 0 N' (10, 0, 0) = M (10, 0, 0) := wr_big (by decide)
  have hist : wv (rcM (kpM (wr M 0 N') old sz) (M (18, 0, 0)) sz) v' (18, 2, 0) = hsF (M (18, 2, 0)) (M (18, 0, 0)) sz := by
    rw [wv_ne (by decide), rcM_h, kp_ne (by decide), kH]
  refine ⟨?_, ?_, fun s hs => ?_, ⟨L, ?_⟩, ?_, fun j hj => ?_⟩
  · rw [rdk, wv_at]
    rw [wv_at] at s1
    exact s1
  · by_cases h6 : sz = 6
    · subst h6
      refine ⟨(old + 1) % 7, 6, Nat.mod_lt _ (by decide), Nat.le_refl _, ?_, ?_, ?_, fun i hi => ?_⟩
      · rw [wv_ne (by decide), rcM_ne (by decide) (by decide)]
        unfold kpM
        rw [if_pos rfl, mset_at, pk_us]
      · rw [wv_ne (by decide), rcM_ne (by decide) (by decide)]
        unfold kpM
        rw [if_pos rfl, mset_at, pk_un (by decide), k10]
        exact a4
      · rw [wv_ne (by decide), rcM_3, if_pos rfl]
      · rw [rdk, rdM _ (by omega), hist]
        by_cases h5 : i = 5
        · subst h5
          rw [show 2 + ((old + 1) % 7 + 5) % 7 = 2 + (old + 6) % 7 by omega]
          refine (hRow.mono hb).ex fun k hk => ?_
          unfold hsF
          rw [if_pos rfl, if_pos (by omega), show 429 * 5 + k - 2145 = k by omega]
        · rw [show 2 + ((old + 1) % 7 + i) % 7 = 2 + (old + (i + 1)) % 7 by omega]
          refine ((a6 (i + 1) (by omega)).mono hb).ex fun k hk => ?_
          unfold hsF
          rw [if_pos rfl, if_neg (by omega), if_pos (by omega), show 429 * i + k + 429 = 429 * (i + 1) + k by omega]
    · refine ⟨old, sz + 1, a1, by omega, ?_, ?_, ?_, fun i hi => ?_⟩
      · rw [wv_ne (by decide), rcM_ne (by decide) (by decide)]
        unfold kpM
        rw [if_neg h6, mset_at, pk_un (by decide), k10]
        exact a3
      · rw [wv_ne (by decide), rcM_ne (by decide) (by decide)]
        unfold kpM
        rw [if_neg h6, mset_at, pk_us]
      · rw [wv_ne (by decide), rcM_3, if_neg h6]
      · rw [rdk, rdM _ (by omega), hist]
        by_cases e : i = sz
        · subst e
          refine (hRow.mono hb).ex fun k hk => ?_
          unfold hsF
          rw [if_neg h6, if_pos (by omega), show 429 * i + k - 429 * i = k by omega]
        · refine ((a6 i (by omega)).mono hb).ex fun k hk => ?_
          unfold hsF
          rw [if_neg h6, if_neg (by omega)]
  · rw [rdk, same 13 0 0 (by decide) (by decide) (by decide), same 19 0 0 (by decide) (by decide) (by decide), same 18 3 0 (by decide) (by decide) (by decide)]
    exact s3 s hs
  · obtain ⟨⟨b1, b2, b3⟩, ⟨c1, c2, c3⟩, d⟩ := s4
    refine ⟨⟨?_, b2, ?_⟩, ⟨?_, c2, ?_⟩, ?_⟩
    · rw [same 14 0 0 (by decide) (by decide) (by decide)]; exact b1
    · rw [same 15 0 0 (by decide) (by decide) (by decide)]; exact b3
    · rw [c17 8 (by decide)]; exact c1
    · rw [same 18 4 0 (by decide) (by decide) (by decide)]; exact c3
    · rw [same 15 0 0 (by decide) (by decide) (by decide), same 18 4 0 (by decide) (by decide) (by decide)]; exact d
  · rw [c17 4 (by decide)]; exact s5
  · rw [same 18 5 0 (by decide) (by decide) (by decide)]; exact s6 j hj
/-- the reference behind a class that has failed; that is done -/
theorem ref_no {hm : Hd} {as : List Vl} {a : Int32} (hM : Inv b M) (hb : b ≤ b') (h : ∀ P : Int32 → Mm → Prop, P a (wv M (M (18, 0, 0))) → RunI g hm as (wv M (M (18, 0, 0))) P) : RunI g hm as (wr M 0 (rd M 0)) (fun r' m2 => a = r' ∧ Inv b' m2) := by
  rw [wr_rd]
  refine R_form (h _ ⟨rfl, ?_⟩)
  rw [wv_id]
  exact hM.mono hb
theorem kp_v {N' : Nu} : kpM (wr M 0 N') old sz (18, 0, 0) = M (18, 0, 0) := by
  rw [kp_ne (by decide)]
  exact wr_big (by decide)
theorem rcd_done {N' : Nu} (hM : Inv b M) (hy : Hy b M old sz) : Rcd (kpM (wr M 0 N') old sz) (M (18, 0, 0)) (rcM (kpM (wr M 0 N') old sz) (M (18, 0, 0)) sz) := by
  have h17 : kpM (wr M 0 N') old sz (17, 0, 0) = M (17, 0, 0) := by
    rw [kp_ne (by decide)]
    exact wr_big (by decide)
  refine Or.inr ⟨by rw [h17]; exact hM.2.2.2.2.1, sz, hy.2.1, by rw [h17]; exact hy.2.2.2.2.1, rfl⟩
theorem rcd_no (hM : Inv b M) (hy : Hy b M old sz) : Rcd M (M (18, 0, 0)) (rcM M (M (18, 0, 0)) sz) := Or.inr ⟨hM.2.2.2.2.1, sz, hy.2.1, hy.2.2.2.2.1, rfl⟩
theorem ref_yes {hm : Hd} {as : List Vl} {a : Int32} {N' : Nu} (hM : Inv b M) (hy : Hy b M old sz) (hrow : Lq (rd M 0) (rd M (2 + (old + sz) % 7))) (hb : b ≤ b') (hN : Ok N' ∧ Pl N' ∧ Tm b' N') (h : ∀ MM m' : Mm, Rcd MM (M (18, 0, 0)) m' → (∀ o, ¬ o = (10, 0, 0) → ¬ o.1 < 10 → MM o = M o) → ∀ P : Int32 → Mm → Prop, (∀ v', RelR N' v' → P a (wv m' v')) → RunI g hm as (wv MM (M (18, 0, 0))) P) : RunI g hm as (kpM (wr M 0 N') old sz) (fun r' m2 => a = r' ∧ Inv b' m2) := by
  refine R_form ?_
  rw [kp_v]
  refine h _ _ (rcd_done hM hy) (fun o h1 h2 => ?_) _ (fun v' hv' => ⟨rfl, hM.done hy hrow ⟨hN.1, hN.2.1, hN.2.2, hv'⟩ hb⟩)
  rw [kp_ne h1]
  obtain ⟨t, k, i⟩ := o
  exact wr_big h2
theorem kp_in {N' : Nu} {x : Int32} (hy : Hy b M old sz) (hx : ¬ x < 0) (hp : P x (kpM (wr M 0 N') old sz)) : RunI g h_Hi_keepIfDone [vO 10 0 0, vI x] (wr M 0 N') P := by
  have h10 : wr M 0 N' (10, 0, 0) = M (10, 0, 0) := wr_big (by decide)
  exact keep_pos hx (by rw [h10]; exact hy.2.2.1) (by rw [h10]; exact hy.2.2.2.1) hy.1 hy.2.1 hp
end CH
