/-! THE PAD OF THE CLASS: faults, the next order, putting -/
section PD
variable {g : Wg} {m : Mm} {P : Int32 → Mm → Prop} {PV : Mm → Prop} {c nc L : Nat} {kd : Int32} {nu : Nat → Int32}
theorem T_Pd_findFault (hT : Tx m L) (hp : ∀ c' kd' nc' nu', P (fltF (m (15, 0, 0)) L 80 0 nu) (pw m c' kd' nc' nu')) : RunI g h_Pd_findFault [vO 14 0 0] (pw m c kd nc nu) P := by
  have h80 := hT.2.1
  have hL := hT.1
  refine RunI.ofGo rfl rfl (b_Pd_findFault_0 (RunV.ofGo rfl rfl (b_Pd_rewind_0 (qv ?_))))
  rw [show (0 : Int32) = nI 0 from rfl, pm_2]
  have key : ∀ f r c kd nc nu, r + f = 80 → 2 * r ≤ c → c ≤ L → (∀ c' kd' nc' nu', P (fltF (m (15, 0, 0)) L f c nu) (pw m c' kd' nc' nu')) → Go g h_Pd_findFault (QI P) 6 [(0, vO 14 0 0), (1, vI (nI r))] [] (pw m c kd nc nu) := by
    intro f
    induction f with
    | zero =>
      intro r c kd nc nu hr hrc hcL hp
      omega
    | succ f ih =>
      intro r c kd nc nu hr hrc hcL hp
      unfold fltF at hp
      have hle := ordF_le (sg := m (15, 0, 0)) (nu := nu) hcL
      refine b_Pd_findFault_6 ⟨fun h => absurd h (nI_ge (b := 80) (by omega) (by omega)), fun _ => T_Pd_readOrder hT hcL (fun h kd' nc' nu' => ⟨fun q => absurd rfl q, fun _ => qi ?_⟩) (fun h => ⟨fun _ => ?_, fun q => absurd q (by decide)⟩)⟩
      · rw [pw_2]
        rw [if_neg (by rw [h]; decide)] at hp
        exact hp _ _ _ _
      · have hok := ordF_ok (sg := m (15, 0, 0)) h
        rw [if_pos h] at hp
        generalize ordF (m (15, 0, 0)) L c nu = o at *
        obtain ⟨ok, c', nc', nu'⟩ := o
        simp only [] at *
        rw [pw_1, pw_2, hL]
        refine ⟨fun q => T_Pd_readSign hT hle.2 (fun z => ⟨fun y => absurd rfl y, fun _ => qi ?_⟩) (fun z => ⟨fun _ => ?_, fun y => absurd y (by decide)⟩), fun q => qi ?_⟩
        · have ne : ¬ c' = L := fun y => q (by rw [y])
          rw [pw_2]
          rw [if_neg ne, if_neg (fun y => z ⟨by omega, y⟩)] at hp
          exact hp _ _ _ _
        · have ne : ¬ c' = L := fun y => q (by rw [y])
          rw [if_neg ne, if_pos z.2] at hp
          rw [nI_1]
          exact ih _ _ _ _ _ (by omega) (by omega) (by have := z.1; omega) hp
        · rw [nI_eq (by omega) (by omega)] at q
          rw [if_pos q] at hp
          exact hp _ _ _ _
  exact key 80 0 0 _ _ _ rfl (by omega) (by omega) hp
theorem T_Pd_readNextOrder_0 (hT : Tx m L) (h0 : (ordF (m (15, 0, 0)) L 0 nu).1 = false → ∀ kd' nc' nu', P 0 (pw m (ordF (m (15, 0, 0)) L 0 nu).2.1 kd' nc' nu')) (h1 : (ordF (m (15, 0, 0)) L 0 nu).1 = true → P 1 (pw m (ordF (m (15, 0, 0)) L 0 nu).2.1 (m (15, 0, 0) 0) (ordF (m (15, 0, 0)) L 0 nu).2.2.1 (ordF (m (15, 0, 0)) L 0 nu).2.2.2)) : RunI g h_Pd_readNextOrder [vO 14 0 0] (pw m 0 kd nc nu) P := by
  refine RunI.ofGo rfl rfl (b_Pd_readNextOrder_0 ⟨fun _ => T_Pd_readOrder hT (Nat.zero_le _) (fun h kd' nc' nu' => ⟨Or.inl rfl, qi (h0 h _ _ _)⟩) (fun h => ⟨Or.inr rfl, qi (h1 h)⟩), fun h => absurd ?_ h⟩)
  rw [pw_2]
  decide
theorem T_Pd_readNextOrder_1 (hT : Tx m L) (hc : c ≤ L) (h0c : 0 < c) (hend : ¬ (c < L ∧ m (15, 0, 0) c = 59) → P 0 (pw m c kd nc nu)) (h0 : (c < L ∧ m (15, 0, 0) c = 59) → (ordF (m (15, 0, 0)) L (c + 1) nu).1 = false → ∀ kd' nc' nu', P 0 (pw m (ordF (m (15, 0, 0)) L (c + 1) nu).2.1 kd' nc' nu')) (h1 : (c < L ∧ m (15, 0, 0) c = 59) → (ordF (m (15, 0, 0)) L (c + 1) nu).1 = true → P 1 (pw m (ordF (m (15, 0, 0)) L (c + 1) nu).2.1 (m (15, 0, 0) (c + 1)) (ordF (m (15, 0, 0)) L (c + 1) nu).2.2.1 (ordF (m (15, 0, 0)) L (c + 1) nu).2.2.2)) : RunI g h_Pd_readNextOrder [vO 14 0 0] (pw m c kd nc nu) P := by
  have h80 := hT.2.1
  refine RunI.ofGo rfl rfl (b_Pd_readNextOrder_0 ⟨fun h => ?_, fun _ => T_Pd_readSign hT hc (fun q => ⟨fun z => absurd rfl z, fun _ => ⟨by decide, qi (hend q)⟩⟩) (fun q => ⟨fun _ => T_Pd_readOrder hT (by have := q.1; omega) (fun h kd' nc' nu' => ⟨Or.inl rfl, qi (h0 q h _ _ _)⟩) (fun h => ⟨Or.inr rfl, qi (h1 q h)⟩), fun z => absurd z (by decide)⟩)⟩)
  rw [pw_2] at h
  exact absurd h (nI_nle h0c (by omega))
theorem T_Pd_clear {mem : Mm} (hp : P (mem (14, 0, 0) 1) (mset mem 14 0 0 1 0)) : RunI g h_Pd_clear [vO 14 0 0] mem P := RunI.ofGo rfl rfl (b_Pd_clear_0 (qi hp))
/-- the signs of a number that put() takes: k of them below -/
abbrev shr8 (j : Int64) : Int64 := (j.toUInt64 >>> ((8 : Int32).toInt64.toUInt64 &&& Int64.toUInt64 63)).toInt64
abbrev byB (j : Int64) : Prop := ¬ (j &&& 255).toInt32 < 33 ∧ ¬ 126 < (j &&& 255).toInt32
def shrs : Nat → Int64 → Int64
  | 0, j => j
  | n + 1, j => shr8 (shrs n j)
abbrev sgA (j : Int64) (i : Nat) : Int32 := ((((j.toUInt64 >>> ((8 * nI i).toInt64.toUInt64 &&& Int64.toUInt64 63)).toInt64) &&& 255).toInt32)
/-- how many signs: class and reference agree on it -/
def cinF : Nat → Int64 → Nat → Nat
  | 0, j, n => if j = 0 then n else 0
  | f + 1, j, n => if j &&& 255 = 0 then (if j = 0 then n else 0) else if byB j then cinF f (shr8 j) (n + 1) else 0
theorem lg_0 (j : Int64) : lg_cmp j 0 = 0 ↔ j = 0 := by
  unfold lg_cmp
  by_cases h : 0 < j
  · rw [if_pos h]
    refine ⟨fun q => absurd q (by decide), ?_⟩
    rintro rfl
    exact absurd h (by decide)
  · rw [if_neg h]
    by_cases h2 : j = 0
    · rw [if_pos h2]
      exact ⟨fun _ => h2, fun _ => rfl⟩
    · rw [if_neg h2]
      exact ⟨fun q => absurd q (by decide), fun q => absurd q h2⟩
theorem S_Pd_countIn {j : Int64} {mem : Mm} (hp : P (nI (cinF 8 j 0)) mem) : RunI g h_Pd_countIn [vJ j] mem P := by
  refine RunI.ofGo rfl rfl (b_Pd_countIn_0 ?_)
  have key : ∀ f n j, n + f = 8 → P (nI (cinF f j n)) mem → Go g h_Pd_countIn (QI P) 4 [(2, vI (nI n)), (3, vJ j)] [] mem := by
    intro f
    induction f with
    | zero =>
      intro n j hn hp
      unfold cinF at hp
      refine b_Pd_countIn_4 ⟨fun _ => ⟨fun h => qi ?_, fun h => qi ?_⟩, fun h => absurd ?_ h⟩
      · rw [if_neg (fun q => h ((lg_0 j).mpr q))] at hp; exact hp
      · rw [if_pos ((lg_0 j).mp h)] at hp; exact hp
      · rw [show n = 8 by omega]; decide
    | succ f ih =>
      intro n j hn hp
      unfold cinF at hp
      refine b_Pd_countIn_4 ⟨fun h => absurd h (nI_ge (b := 8) (by omega) (by omega)), fun _ => ⟨fun a => ⟨fun h => qi ?_, fun h => qi ?_⟩, fun a => S_N_isWithin ?_⟩⟩
      · rw [if_pos ((lg_0 _).mp a), if_neg (fun q => h ((lg_0 j).mpr q))] at hp; exact hp
      · rw [if_pos ((lg_0 _).mp a), if_pos ((lg_0 j).mp h)] at hp; exact hp
      · rw [if_neg (fun q => a ((lg_0 _).mpr q))] at hp
        simp only [b2i_eq0, Decidable.not_not]
        refine ⟨fun b => ?_, fun b => qi ?_⟩
        · rw [if_pos b] at hp
          rw [nI_1]
          exact ih _ _ (by omega) hp
        · rw [if_neg b] at hp; exact hp
  exact key 8 0 j rfl hp
/-- a text with n signs more: sign n-1-i of the number stands at L+i -/
def ptS (sg : Nat → Int32) (L : Nat) (j : Int64) : Nat → Nat → Int32
  | 0 => sg
  | n + 1 => ptS (upd sg L (sgA j n)) (L + 1) j n
def ptM (mem : Mm) (L : Nat) (sg : Nat → Int32) : Mm := fun o i => if o = (14, 0, 0) ∧ i = 1 then nI L else if o = (15, 0, 0) then sg i else mem o i
theorem lN_tn {q : Nat} (h : q < 2 ^ 64) : (lN q).toBitVec.toNat = q := by
  show (BitVec.ofNat 64 q).toNat = q
  rw [BitVec.toNat_ofNat, Nat.mod_eq_of_lt h]
theorem l255 (j : Int64) : j &&& 255 = lN (j.toBitVec.toNat % 256) := by
  rw [← Int64.toBitVec_inj, Int64.toBitVec_and]
  apply BitVec.eq_of_toNat_eq
  rw [BitVec.toNat_and, lN_tn (by omega), show (255 : Int64).toBitVec.toNat = 2 ^ 8 - 1 by decide, Nat.and_two_pow_sub_one_eq_mod]
theorem ush_tn (j : Int64) {s : UInt64} {k : Nat} (hs : s.toNat % 64 = k) : ((j.toUInt64 >>> s).toInt64).toBitVec.toNat = j.toBitVec.toNat / 2 ^ k := by
  show (j.toUInt64 >>> s).toNat = j.toUInt64.toNat / 2 ^ k
  rw [UInt64.toNat_shiftRight, hs, Nat.shiftRight_eq_div_pow]
abbrev byN (j : Int64) (i : Nat) : Nat := j.toBitVec.toNat / 2 ^ (8 * i) % 256
theorem sgA_N {j : Int64} {i : Nat} (hi : i < 8) : sgA j i = nI (byN j i) := by
  show ((((j.toUInt64 >>> ((8 * nI i).toInt64.toUInt64 &&& Int64.toUInt64 63)).toInt64) &&& 255).toInt32) = _
  rw [l255, ush_tn j ((by decide : ∀ i < 8, ((8 * nI i).toInt64.toUInt64 &&& Int64.toUInt64 63).toNat % 64 = 8 * i) i hi), lN_i]
theorem sh8_tn (j : Int64) : (shr8 j).toBitVec.toNat = j.toBitVec.toNat / 256 := by
  show ((j.toUInt64 >>> ((8 : Int32).toInt64.toUInt64 &&& Int64.toUInt64 63)).toInt64).toBitVec.toNat = _
  rw [ush_tn j (show ((8 : Int32).toInt64.toUInt64 &&& Int64.toUInt64 63).toNat % 64 = 8 by decide)]
theorem nar_c {q : Nat} (h : q < 256) : vp_nar .char (((nI q).toUInt32 % 65536).toInt32) = nI q := by
  rw [pk_char, pk_tn (by omega), Nat.mod_eq_of_lt (by omega)]
  unfold vp_nar
  rw [(pk_charN (q := q) (by omega)).1]
theorem pt_w {mem : Mm} {L : Nat} (hL : mem (14, 0, 0) 1 = nI L) : ptM mem L (mem (15, 0, 0)) = mem := by
  funext o i
  unfold ptM
  split
  · rename_i h
    rw [h.1, h.2, hL]
  · split
    · rename_i h
      rw [h]
    · rfl
theorem pt_15 {mem : Mm} {L i : Nat} {x : Int32} {sg : Nat → Int32} : mset (ptM mem L sg) 15 0 0 i x = ptM mem L (upd sg i x) := by
  funext o j
  by_cases h : o = (15, 0, 0)
  · subst h
    rw [mset_at]
    unfold upd ptM
    simp
  · rw [mset_ne _ _ _ _ _ _ h]
    simp [ptM, h]
theorem pt_1 {mem : Mm} {L L' : Nat} {sg : Nat → Int32} : mset (ptM mem L sg) 14 0 0 1 (nI L') = ptM mem L' sg := by
  funext o j
  by_cases h : o = (14, 0, 0)
  · subst h
    rw [mset_at]
    unfold upd ptM
    by_cases hj : j = 1 <;> simp [hj]
  · rw [mset_ne _ _ _ _ _ _ h]
    simp [ptM, h]
theorem pt_r {mem : Mm} {L : Nat} {sg : Nat → Int32} : ptM mem L sg (14, 0, 0) 1 = nI L := by simp [ptM]
theorem cin_le : ∀ f j n, cinF f j n ≤ n + f
  | 0, j, n => by
    unfold cinF
    split
    · omega
    · omega
  | f + 1, j, n => by
    unfold cinF
    split
    · split
      · omega
      · omega
    · split
      · have := cin_le f (shr8 j) (n + 1)
        omega
      · omega
theorem T_Pd_append {j : Int64} {mem : Mm} (hL : mem (14, 0, 0) 1 = nI L) (h80 : L ≤ 80) (h0 : cinF 8 j 0 = 0 → P (-2) mem) (h1 : ¬ cinF 8 j 0 = 0 → ¬ L + cinF 8 j 0 ≤ 80 → P (-4) mem) (h2 : ¬ cinF 8 j 0 = 0 → L + cinF 8 j 0 ≤ 80 → P (nI (L + cinF 8 j 0)) (ptM mem (L + cinF 8 j 0) (ptS (mem (15, 0, 0)) L j (cinF 8 j 0)))) : RunI g h_Pd_append [vO 14 0 0, vJ j] mem P := by
  have hc8 := cin_le 8 j 0
  refine RunI.ofGo rfl rfl (b_Pd_append_0 (S_Pd_countIn ⟨fun a => ⟨fun b => ?_, fun b => qi (h1 (fun q => a (by rw [q]; rfl)) ?_)⟩, fun a => qi (h0 ?_)⟩))
  · rw [hL, nI_add] at b
    replace b := (nI_leI (a := L + cinF 8 j 0) (b := 80) (by omega) (by omega)).mp b
    have a' : ¬ cinF 8 j 0 = 0 := fun q => a (by rw [q]; rfl)
    have hq := h2 a' b
    clear h0 h1 h2 a
    have key : ∀ n (L : Nat) sg, n ≤ 8 → L + n ≤ 80 → P (nI (L + n)) (ptM mem (L + n) (ptS sg L j n)) → Go g h_Pd_append (QI P) 31 [(0, vO 14 0 0), (1, vJ j), (4, vI (nI n - 1))] [] (ptM mem L sg) := by
      intro n
      induction n with
      | zero =>
        intro L sg _ _ hp
        refine b_Pd_append_31 ⟨fun _ => qi (by rw [pt_r]; exact hp), fun h => absurd (by decide) h⟩
      | succ n ih =>
        intro L sg hn8 hL80 hp
        rw [nI_pred]
        have e := nI_clamp (n := L) (by omega)
        refine b_Pd_append_31 ⟨fun h => absurd h (nI_pos (by omega)), fun _ => ?_⟩
        rw [pt_r, e]
        refine ⟨vp_in_nI (by omega) (by omega), ?_⟩
        have ev : ((((j.toUInt64 >>> ((8 * nI n).toInt64.toUInt64 &&& Int64.toUInt64 63)).toInt64) &&& 255).toInt32) = nI (byN j n) := sgA_N (by omega)
        rw [ev, nar_c (Nat.mod_lt _ (by decide)), pt_15]
        show Go _ _ _ _ _ _ (mset (ptM mem L (upd sg L (nI (byN j n)))) 14 0 0 1 (ptM mem L (upd sg L (nI (byN j n))) (14, 0, 0) 1 + 1))
        rw [pt_r, nI_1, pt_1, show nI n + (-1) = nI n - 1 from (Int32.sub_eq_add_neg ..).symm]
        refine ih (L + 1) _ (by omega) (by omega) ?_
        have e2 : ptS sg L j (n + 1) = ptS (upd sg L (nI (byN j n))) (L + 1) j n := by
          show ptS (upd sg L (sgA j n)) (L + 1) j n = _
          rw [sgA_N (by omega)]
        rw [e2, show L + (n + 1) = L + 1 + n by omega] at hp
        exact hp
    have := key (cinF 8 j 0) L (mem (15, 0, 0)) (by omega) b hq
    rw [pt_w hL] at this
    exact this
  · rw [hL, nI_add] at b
    exact fun q => b (nI_le (b := 80) q (by omega))
  · exact (nI_eq (a := cinF 8 j 0) (b := 0) (by omega) (by omega)).mp a
end PD
