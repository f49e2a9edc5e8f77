/-! THE LAW'S OWN METHODS: acts -/
section LAWA
variable {g : Wg} {m mem : Mm} {P : Int32 → Mm → Prop} {PV : Mm → Prop} {N : Nu} {b : Nat}
/-- what acts leaves -/
abbrev Nxt (P : Int32 → Mm → Prop) (b : Nat) : Prop := ∀ m' N', Hx m' → Gd (b + 100) N' → 0 < nC N' → P 1 (wr m' 0 N')
theorem Q_kid0 {x y : Int32} (hO : Ok N) (hK : nK N = 0) (hp : P (-1) (wr m 0 N)) : RunI g h_N_ofChild [vO 1 0 0, vI x, vI y] (wr m 0 N) P := by
  refine T_N_ofChild hO ?_
  unfold ofChF
  rw [if_neg]
  · exact hp
  · rintro ⟨h1, h2⟩
    rw [hO.1.1.2.2.1, hK] at h2
    exact h2 (Int32.not_lt.mp h1)
theorem shr_N {n k : Nat} {s : Int32} (hn : n < 2 ^ 31) (hs : ((s &&& 31).toBitVec.smod 32).toNat = k) : nI n >>> (s &&& 31) = nI (n / 2 ^ k) := pk_shrN hn _ k hs
theorem A_76 {z : Nat} (hG : Gd b N) (hH : Hx m) (hC : 0 < nC N) (hz : z < 2 ^ 31) (hp : Nxt P b) : Go g h_Lw_acts (QI P) 76 [(0, vO 1 0 0), (2, vI (nI z)), (3, vI (N 2 0 6))] [] (wr m 0 N) := by
  have hO := hG.1
  have hn := hO.1.1.2.2.1
  have h24 := hO.1.1.2.2.2
  refine b_Lw_acts_76 ⟨fun _ => ⟨Or.inr rfl, qi (hp _ _ hH (hG.mono (by omega)) hC)⟩, fun h => ⟨by decide, by decide, by decide, ?_⟩⟩
  have h24' : nK N < 24 := by
    rw [hn] at h
    have : ¬ nK N = 24 := fun q => h (by rw [q]; rfl)
    omega
  have ea : nI z - nI z / 40 * 40 = nI (z % 40) := pk_rem (d := 40) (by omega) (by omega) (by omega)
  have ef : nI z >>> (6 &&& 31) - nI z >>> (6 &&& 31) / 6 * 6 = nI (z / 2 ^ 6 % 6) := by
    rw [shr_N (k := 6) hz (by decide)]
    exact pk_rem (d := 6) (Nat.lt_of_le_of_lt (Nat.div_le_self _ _) hz) (by omega) (by omega)
  have ew : (1 : Int32) + (nI z >>> (9 &&& 31) - nI z >>> (9 &&& 31) / 1023 * 1023) = nI (1 + z / 2 ^ 9 % 1023) := by
    rw [shr_N (k := 9) hz (by decide), ← nI_add]
    exact congrArg (fun y => (1 : Int32) + y) (pk_rem (d := 1023) (Nat.lt_of_le_of_lt (Nat.div_le_self _ _) hz) (by omega) (by omega))
  rw [ea, ef, ew]
  refine C_child hO hH ⟨?_, ?_, ?_⟩ h24' (fun m' hd => ?_)
  · exact (win (a := 0) (b := 72) (by omega) (by decide) (by decide)).mpr ⟨by omega, by omega⟩
  · exact (win (a := 0) (b := 15) (by omega) (by decide) (by decide)).mpr ⟨by omega, by omega⟩
  · exact (win (a := 1) (b := 1023) (by omega) (by decide) (by decide)).mpr ⟨by omega, by omega⟩
  generalize nI (z % 40) = a
  generalize nI (z / 2 ^ 6 % 6) = f
  generalize nI (1 + z / 2 ^ 9 % 1023) = w
  have hG' := gd_addK (a := a) (f := f) (w := w) hG h24'
  have hK := addKN_nK (N := N) (a := a) (f := f) (w := w) (by omega)
  have hC' : nC (addKN N a f w) = nC N := by
    show (addKN N a f w 2 0 5).toNatClampNeg = _
    rw [addKN_o ⟨by simp, by simp⟩]
  refine ⟨fun q => absurd hn.symm q, fun _ => ?_⟩
  rw [hn]
  refine Q_kid (j := 3) hG'.1 (by omega) (by decide) ?_
  rw [addKN_c (j := 3) (by decide)]
  exact ⟨fun q => absurd rfl q, fun _ => ⟨Or.inr rfl, qi (hp _ _ hd.sf.1 (hG'.mono (by omega)) (by omega))⟩⟩
theorem adm_nC (hO : Ok N) : nC (admN 24 N) = nC N := (admN_sm 24 N).nC
theorem A_126 (hG : Gd b N) (hH : Hx m) (hC : 0 < nC N) (hb : b < 2 ^ 27) (hp : Nxt P b) : Go g h_Lw_acts (QI P) 126 [(0, vO 1 0 0)] [] (wr m 0 N) := by
  have hO := hG.1
  have h24 := hO.1.1.2.2.2
  refine b_Lw_acts_126 (C_wouldAdm hO hH fun A m1 hA s1 => C_adm hO s1.1 fun m2 d2 => S_Lw_ones ?_)
  rw [admX_lq 24 0 hA]
  have hG' := gd_adm hG (by omega)
  have hx := fun j hj => (admX_has 24 N 0 h24 j hj).1
  have hlt : ∀ j, j < 32 → Has (admX 24 N 0) (nI j) → j < 24 := by
    intro j hj q
    rcases (hx j hj).mp q with q | q
    · exact absurd q (has_0 hj)
    · omega
  have hpc := admX_pc 24 N 0 h24 (fun j hj q => absurd q (has_0 (by omega)))
  rw [pcI_0 rfl, Nat.zero_add] at hpc
  refine ⟨fun q => absurd ?_ q, fun _ => Q_st (st := 1) hG'.1 (Or.inr (Or.inl rfl)) ⟨fun q => absurd ?_ q, fun _ => C_wouldAdm hG'.1 d2.sf.1 fun A' m3 hA' s3 => ⟨fun q => absurd ?_ q, fun _ => ⟨Or.inr rfl, qi (hp _ _ s3.1 (hG'.mono (by omega)) (by rw [adm_nC hO]; exact hC))⟩⟩⟩⟩
  · rw [cnt24 hlt, hpc]
  · refine has_ext fun j hj => ?_
    rw [has_bit hj, bt_and, Bool.and_eq_true, ← has_bit hj, ← has_bit hj, has_setI (by rw [(admN_sm 24 N).nK]; omega) hj, (admN_sm 24 N).nK]
    refine ⟨fun q => q.2, fun q => ⟨?_, q⟩⟩
    rcases (hx j hj).mp q with q | q
    · exact absurd q (has_0 hj)
    · exact ⟨q.1, q.2.1⟩
  · rw [admX_lq 24 0 hA']
    exact admX_end (adm_end 24 N (Nat.le_trans (cnt_le _ _) h24))
theorem cnt_set {c s : Nat} (hc : c < nK N) (hs : s < 10) (h8 : N 9 c 8 = -6) : cnt (fun j => ¬ nset N 9 c 8 (nI s) 9 j 8 = -6) (nK N) = cnt (fun j => ¬ N 9 j 8 = -6) (nK N) + 1 := by
  refine (cnt_one (p := fun j => ¬ nset N 9 c 8 (nI s) 9 j 8 = -6) (q := fun j => ¬ N 9 j 8 = -6) hc ?_ fun j hj => ?_).symm
  · show ¬ nset N 9 c 8 (nI s) 9 c 8 = -6
    rw [ns_s]
    exact nI_n6 (by omega)
  · show ¬ N 9 j 8 = -6 ↔ ¬ nset N 9 c 8 (nI s) 9 j 8 = -6 ∧ j ≠ c
    by_cases e : j = c
    · rw [e]
      exact ⟨fun q => absurd h8 q, fun q => absurd rfl q.2⟩
    · rw [ns_i e]
      exact ⟨fun q => ⟨q, e⟩, fun q => q.1⟩
theorem A_170 {c s : Nat} (hG : Gd b N) (hH : Hx m) (hC : 0 < nC N) (hp : Nxt P b) : Go g h_Lw_acts (QI P) 170 [(0, vO 1 0 0), (4, vI (nI c)), (5, vI (nI s))] [] (wr m 0 N) := by
  have hO := hG.1
  have h24 := hO.1.1.2.2.2
  refine b_Lw_acts_170 (Q_plan hO (C_visit hO hH (fun m' e s1 he => ⟨fun q => absurd he (Int32.not_lt.mpr q), fun _ => Q_plan hO ⟨fun q => absurd rfl q, fun _ => ⟨Or.inr rfl, qi (hp _ _ s1.1 (hG.mono (by omega)) hC)⟩⟩⟩) (fun c' s' m' d1 hc' ec hs' es hq => ?_)))
  have hG' := gd_vst hG hc' hs' hq.1 hq.2.1
  have hsm : Sm N (nset N 9 c' 8 (nI s')) := Sm.rfl'.nt (by decide)
  have hcl := cnt_le (fun j => ¬ N 9 j 8 = -6) (nK N)
  rw [cnt_set hc' hs' hq.2.2]
  refine ⟨fun _ => ⟨fun q => absurd (nI_1 _).symm q, fun _ => ?_⟩, fun q => absurd (nI_pos' (by omega)) q⟩
  rw [ec]
  refine Q_kid (j := 8) hG'.1 (by rw [hsm.nK]; exact hc') (by decide) ?_
  rw [ns_s]
  exact ⟨fun q => absurd es.symm q, fun _ => ⟨Or.inr rfl, qi (hp _ _ d1.sf.1 (hG'.mono (by omega)) (by rw [hsm.nC]; exact hC))⟩⟩
theorem A_240 {c s : Nat} (hG : Gd b N) (hH : Hx m) (hC : 0 < nC N) (hc : 0 < nK N → c < nK N) (hp : Nxt P b) : Go g h_Lw_acts (QI P) 240 [(0, vO 1 0 0), (3, vI (N 2 0 6)), (4, vI (nI c)), (5, vI (nI s))] [] (wr m 0 N) := by
  have hO := hG.1
  have hn := hO.1.1.2.2.1
  have h24 := hO.1.1.2.2.2
  have fin : ∀ m' (x9 e : Int32), Hx m' → e < 0 → Go g h_Lw_acts (QI P) 265 [(0, vO 1 0 0), (4, vI (nI c)), (5, vI (nI s)), (9, vI x9)] [vI e] (wr m' 0 N) := fun m' x9 e h1 h2 => b_Lw_acts_265 ⟨fun _ => ⟨Or.inr rfl, qi (hp _ _ h1 (hG.mono (by omega)) hC)⟩, fun q => absurd h2 q⟩
  by_cases hK : nK N = 0
  · have h0 : N 2 0 6 = 0 := by rw [hn, hK]; rfl
    refine b_Lw_acts_240 (Q_kid0 hO hK ⟨fun q => absurd h0 q, fun _ => fin _ _ _ hH (by decide)⟩)
  · have hcK := hc (by omega)
    have h0 : ¬ N 2 0 6 = 0 := by rw [hn]; exact nI_ne0 (by omega) (by omega)
    refine b_Lw_acts_240 (Q_kid (j := 5) hO hcK (by decide) ⟨fun _ => C_giveBack hO hH (fun m' e s1 he => fin _ _ _ s1.1 he) (fun c' s' m' d1 hc' ec hs' es hh => ?_), fun q => absurd q h0⟩)
    have e1 : c = c' := (nI_eq (by omega) (by omega)).mp ec
    subst e1
    have hG' := gd_give hG hc' hs' hh
    have hsm : Sm N (nset N 9 c 5 (dropI (N 9 c 5) s')) := Sm.rfl'.nt (by decide)
    have k7 := (hO.k1 hcK).2.2.2.2.2.1
    have hpd := pcI_drop (x := N 9 c 5) (c := s') (by omega) hh
    have h32 : pcI (N 9 c 5) ≤ 32 := by rw [pcI_cnt]; exact cnt_le _ _
    have hpos : ¬ nI (pcI (N 9 c 5)) - 1 < 0 := by
      rw [← hpd, nI_pred]
      exact nI_pos (by omega)
    refine b_Lw_acts_265 ⟨fun q => absurd q hpos, fun _ => S_Lw_ones ?_⟩
    rw [cnt24 (fun j hj q => by have := k7 j hj q; omega)]
    refine ⟨fun q => absurd rfl q, fun _ => Q_kid (j := 5) hG'.1 (by rw [hsm.nK]; exact hcK) (by decide) ?_⟩
    rw [ns_s, es]
    exact ⟨fun q => absurd rfl q, fun _ => ⟨Or.inr rfl, qi (hp _ _ d1.sf.1 (hG'.mono (by omega)) (by rw [hsm.nC]; exact hC))⟩⟩
theorem A_309 {c s z : Nat} (hG : Gd b N) (hH : Hx m) (hC : 0 < nC N) (hc : 0 < nK N → c < nK N) (hs : s < 10) (hz : z < 2 ^ 31) (hp : Nxt P b) : Go g h_Lw_acts (QI P) 309 [(0, vO 1 0 0), (2, vI (nI z)), (3, vI (N 2 0 6)), (4, vI (nI c)), (5, vI (nI s))] [] (wr m 0 N) := by
  have hO := hG.1
  have hn := hO.1.1.2.2.1
  have h24 := hO.1.1.2.2.2
  have et : nI z >>> (14 &&& 31) - nI z >>> (14 &&& 31) / 10 * 10 = nI (z / 2 ^ 14 % 10) := by
    rw [shr_N (k := 14) hz (by decide)]
    exact pk_rem (d := 10) (Nat.lt_of_le_of_lt (Nat.div_le_self _ _) hz) (by omega) (by omega)
  have ht : z / 2 ^ 14 % 10 < 10 := Nat.mod_lt _ (by decide)
  by_cases hK : nK N = 0
  · have h0 : N 2 0 6 = 0 := by rw [hn, hK]; rfl
    refine b_Lw_acts_309 ⟨fun q => absurd h0 q, fun _ => b_Lw_acts_323 ⟨by decide, T_N_partners hO ?_⟩⟩
    unfold paF
    rw [if_neg]
    · refine Q_kid0 hO hK ⟨fun _ => ?_, fun q => absurd (by rw [h0]; exact le_self _) q⟩
      exact b_Lw_acts_375 ⟨fun _ => ⟨Or.inr rfl, qi (hp _ _ hH (hG.mono (by omega)) hC)⟩, fun q => absurd h0 q⟩
    · rintro ⟨⟨h1, h2⟩, -⟩
      rw [h0] at h2
      exact h2 (Int32.not_lt.mp h1)
  · have hcK := hc (by omega)
    have h0 : ¬ N 2 0 6 = 0 := by rw [hn]; exact nI_ne0 (by omega) (by omega)
    have eo : nI z >>> (9 &&& 31) - nI z >>> (9 &&& 31) / N 2 0 6 * N 2 0 6 = nI (z / 2 ^ 9 % nK N) := by
      rw [shr_N (k := 9) hz (by decide), hn]
      exact pk_rem (Nat.lt_of_le_of_lt (Nat.div_le_self _ _) hz) (by omega) (by omega)
    have hoK : z / 2 ^ 9 % nK N < nK N := Nat.mod_lt _ (by omega)
    refine b_Lw_acts_309 ⟨fun _ => ⟨h0, ?_⟩, fun q => absurd q h0⟩
    rw [eo]
    generalize z / 2 ^ 9 % nK N = o at hoK
    refine b_Lw_acts_323 ⟨by decide, ?_⟩
    rw [et]
    generalize z / 2 ^ 14 % 10 = t at ht
    refine T_N_partners hO ?_
    have hcond : (¬ nI c < 0 ∧ ¬ N 2 0 6 ≤ nI c) ∧ (¬ nI s < 0 ∧ ¬ 9 < nI s) ∧ (¬ nI t < 0 ∧ ¬ 9 < nI t) := ⟨has_kid hO hcK, in9 hs, in9 ht⟩
    unfold paF
    rw [if_pos hcond, nI_clamp (n := c) (by omega), nI_clamp (n := s) (by omega), nI_clamp (n := t) (by omega)]
    have hbit : Has (setI (fun j => ¬ c = j ∧ canP N c s j t) (nK N)) (nI o) ↔ (¬ c = o ∧ canP N c s o t) := by
      rw [has_setI (by omega) (by omega)]
      exact ⟨fun q => q.2, fun q => ⟨hoK, q⟩⟩
    -- the exchange, with what the partners say
    have g375 : ∀ x0 : Int32, (x0 = 0 ↔ ¬ (¬ c = o ∧ canP N c s o t)) → Go g h_Lw_acts (QI P) 375 [(0, vO 1 0 0), (3, vI (N 2 0 6)), (4, vI (nI c)), (5, vI (nI s)), (11, vI (nI o)), (12, vI (nI t)), (14, vI (N 9 c 5))] [vI x0] (wr m 0 N) := by
      intro x0 h8
      have fin : ∀ m' (e : Int32), Hx m' → x0 = 0 → Go g h_Lw_acts (QI P) 415 [(0, vO 1 0 0), (4, vI (nI c)), (5, vI (nI s)), (12, vI (nI t)), (14, vI (N 9 c 5)), (15, vI x0)] [vI e, vI e] (wr m' 0 N) := fun m' e h1 h2 => b_Lw_acts_415 ⟨fun q => absurd rfl q, fun _ => ⟨fun _ => ⟨Or.inr rfl, qi (hp _ _ h1 (hG.mono (by omega)) hC)⟩, fun q => absurd h2 q⟩⟩
      refine b_Lw_acts_375 ⟨fun q => absurd q h0, fun _ => C_swap hO hH (fun m' s1 hno => ?_) (fun a' s' o' t' m' s1 k1 k2 k3 k4 k5 k6 k7 k8 k9 hno => ?_) (fun a' s' o' t' m' d1 k1 k2 k3 k4 k5 k6 k7 k8 k9 hyes => ?_)⟩
      · have hco : c = o := by
          by_cases e : c = o
          · exact e
          · exact absurd ⟨has_kid hO hcK, has_kid hO hoK, fun q => e ((nI_eq (by omega) (by omega)).mp q), in9 hs, in9 ht⟩ hno
        have hx : x0 = 0 := h8.mpr (fun q => q.1 hco)
        exact ⟨fun _ => ⟨fun q => absurd (by rw [hco]) q, fun _ => fin _ _ s1.1 hx⟩, fun q => absurd hx q⟩
      · have e1 : c = a' := (nI_eq (by omega) (by omega)).mp k2
        have e2 : s = s' := (nI_eq (by omega) (by omega)).mp k4
        have e3 : o = o' := (nI_eq (by omega) (by omega)).mp k6
        have e4 : t = t' := (nI_eq (by omega) (by omega)).mp k8
        subst e1; subst e2; subst e3; subst e4
        have hx : x0 = 0 := h8.mpr (fun q => hno q.2)
        exact ⟨fun _ => ⟨fun _ => fin _ _ s1.1 hx, fun q => absurd ((nI_eq (by omega) (by omega)).mp q) k9⟩, fun q => absurd hx q⟩
      · have e1 : c = a' := (nI_eq (by omega) (by omega)).mp k2
        have e2 : s = s' := (nI_eq (by omega) (by omega)).mp k4
        have e3 : o = o' := (nI_eq (by omega) (by omega)).mp k6
        have e4 : t = t' := (nI_eq (by omega) (by omega)).mp k8
        subst e1; subst e2; subst e3; subst e4
        have hx : ¬ x0 = 0 := fun q => h8.mp q ⟨k9, hyes⟩
        have hG' := gd_exc hG hcK hs hoK ht k9 hyes
        have hsm : Sm N (excN N c s o t) := (Sm.rfl'.nt (by decide)).nt (by decide)
        have h5 : excN N c s o t 9 c 5 = N 9 c 5 ^^^ bothI s t := by
          unfold excN
          rw [ns_i k9, ns_s]
        refine ⟨fun q => absurd q hx, fun _ => b_Lw_acts_415 ⟨fun q => absurd rfl q, fun _ => ⟨fun q => absurd q hx, fun _ => Q_kid (j := 5) hG'.1 (by rw [hsm.nK]; exact hcK) (by decide) ?_⟩⟩⟩
        rw [h5]
        exact ⟨fun q => absurd rfl q, fun _ => ⟨Or.inr rfl, qi (hp _ _ d1.sf.1 (hG'.mono (by omega)) (by rw [hsm.nC]; exact hC))⟩⟩
    refine Q_kid (j := 5) hO hcK (by decide) ⟨fun q => absurd q (by rw [hn]; exact nI_nle (by omega) (by omega)), fun _ => ⟨fun q => g375 0 ⟨fun _ z => q (hbit.mpr z), fun _ => rfl⟩, fun q => g375 1 ⟨fun z => absurd z (by decide), fun z => absurd (hbit.mp q) z⟩⟩⟩
theorem A_451 {z : Nat} (hG : Gd b N) (hH : Hx m) (hC : 0 < nC N) (hz : z < 2 ^ 31) (hp : Nxt P b) : Go g h_Lw_acts (QI P) 451 [(0, vO 1 0 0), (2, vI (nI z))] [] (wr m 0 N) := by
  have hO := hG.1
  have hn := hO.1.1.2.1.1
  have h12 := hO.1.2
  have h0 : ¬ N 2 0 5 = 0 := by rw [hn]; exact nI_ne0 (by omega) (by omega)
  have ek : nI z - nI z / N 2 0 5 * N 2 0 5 = nI (z % nC N) := by
    rw [hn]
    exact pk_rem hz (by omega) (by omega)
  have hkC : z % nC N < nC N := Nat.mod_lt _ hC
  refine b_Lw_acts_451 (Q_nC hO ⟨h0, ?_⟩)
  rw [ek]
  generalize z % nC N = k at hkC
  refine C_home hO hH hkC fun A m1 hA s1 => Q_car (j := 4) hO hkC (by decide) ?_
  have e2 : tooF (nset A 8 k 4 1) = tooF (nset N 8 k 4 1) := tooF_lq (hA.n8 rfl)
  rw [e2]
  refine ⟨fun h => C_sick hO s1.1 hkC (fun m2 s2 q => absurd ((hO.2.2.2.1.1 k hkC).2.resolve_left q) h) (fun m2 d2 h8 => ?_), fun h => C_sick hO s1.1 hkC (fun m2 s2 q => ?_) (fun m2 d2 q => absurd q (by rw [h]; decide))⟩
  · have hG' := gd_sick (c := k) hG
    have hsm : Sm N (nset N 8 k 4 1) := Sm.rfl'.nt (by decide)
    have hc0 := cnt_pos (p := fun j => ¬ nset N 8 k 4 1 8 j 4 = 0) hkC (by rw [ns_s]; decide)
    have hcl := cnt_le (fun j => ¬ nset N 8 k 4 1 8 j 4 = 0) (nC N)
    refine ⟨fun q => absurd q (nI_nle hc0 (by omega)), fun _ => C_home6 hG'.1 d2.sf.1 fun A' m3 hA' s3 => ⟨fun q => absurd (tooF_lq hA') q, fun _ => ⟨Or.inr rfl, qi (hp _ _ s3.1 (hG'.mono (by omega)) (by rw [hsm.nC]; exact hC))⟩⟩⟩
  · have e3 : nset N 8 k 4 1 = N := by rw [← h, ns_id]
    rw [e3]
    exact ⟨fun q => absurd rfl q, fun _ => C_home6 hO s2.1 fun A' m3 hA' s3 => ⟨fun q => absurd (tooF_lq hA').symm q, fun _ => ⟨Or.inr rfl, qi (hp _ _ s3.1 (hG.mono (by omega)) hC)⟩⟩⟩
theorem A_535 (hG : Gd b N) (hH : Hx m) (hC : 0 < nC N) (hb : b < 2 ^ 27) (hp : Nxt P b) : Go g h_Lw_acts (QI P) 535 [(0, vO 1 0 0)] [] (wr m 0 N) := by
  have hO := hG.1
  have hw : ∀ A, Lq N A → ¬ runN (fun _ => wekN) A 1 2 0 7 < 0 := fun A hA => weks_pos (hG.lq hA) (by omega)
  have hG' : Gd (b + 1) (wekN N) := gd_wek hG (by omega)
  have hsm : Sm N (wekN N) := wekN_ks.1
  refine b_Lw_acts_535 (Q_paid hO (Q_sent hO (C_home6 hO hH fun A m1 hA s1 => C_income (w := 1) hO s1.1 (by decide) (by decide) hw fun A2 m2 hA2 s2 => C_weeks (w := 1) hO s2.1 (by decide) (by decide) (hw N Lq.rfl') fun m3 d3 => ?_)))
  show RunI g h_N_count [vO 1 0 0, vI 0] (wr m3 0 (wekN N)) _
  have e9 : wekN N 2 0 9 = N 2 0 9 + (runN (fun _ => wekN) A2 1 2 0 9 - N 2 0 9) := by
    have : runN (fun _ => wekN) A2 1 2 0 9 = wekN N 2 0 9 := (wek_lq hA2 hO.1.1).c2 (by decide) (by decide)
    rw [this, Int32.add_comm, Int32.sub_add_cancel]
  have e11 : wekN N 2 0 11 = N 2 0 11 + tooF A := by
    rw [kp_wek.2.2.1, tooF_lq hA]
    exact (hs_hls (10 * nR N)).2
  refine Q_week hG'.1 ⟨fun q => absurd rfl q, fun _ => Q_paid hG'.1 ⟨fun q => absurd e9 q, fun _ => Q_sent hG'.1 ⟨fun q => absurd e11 q, fun _ => Q_plan hG'.1 ⟨fun q => absurd ?_ q, fun _ => ⟨Or.inr rfl, qi (hp _ _ d3.sf.1 (hG'.mono (by omega)) (by rw [hsm.nC]; exact hC))⟩⟩⟩⟩⟩
  rw [cnt_0 (fun j hj q => q (a8_wek j hj))]
  rfl
theorem S_Lw_acts {n : Nat} (hG : Gd b N) (hH : Hx m) (hC : 0 < nC N) (hb : b < 2 ^ 27) (hn : n < 2 ^ 31) (hp : Nxt P b) : RunI g h_Lw_acts [vO 1 0 0, vI (nI n)] (wr m 0 N) P := by
  have hO := hG.1
  have h24 := hO.1.1.2.2.2
  have hK := hO.1.1.2.2.1
  have ez : nI n >>> (3 &&& 31) = nI (n / 2 ^ 3) := shr_N hn (by decide)
  have hz : n / 2 ^ 3 < 2 ^ 31 := Nat.lt_of_le_of_lt (Nat.div_le_self _ _) hn
  have g21 : ∀ c, (0 < nK N → c < nK N) → Go g h_Lw_acts (QI P) 21 [(0, vO 1 0 0), (1, vI (nI n)), (2, vI (nI (n / 2 ^ 3))), (3, vI (N 2 0 6))] [vI (nI c)] (wr m 0 N) := by
    intro c hc
    generalize n / 2 ^ 3 = z at hz
    have es : nI z >>> (5 &&& 31) - nI z >>> (5 &&& 31) / 10 * 10 = nI (z / 2 ^ 5 % 10) := by
      rw [shr_N (k := 5) hz (by decide)]
      exact pk_rem (d := 10) (Nat.lt_of_le_of_lt (Nat.div_le_self _ _) hz) (by omega) (by omega)
    have hs : z / 2 ^ 5 % 10 < 10 := Nat.mod_lt _ (by decide)
    refine b_Lw_acts_21 ⟨by decide, fun _ => A_76 hG hH hC hz hp, fun _ => ⟨fun _ => A_76 hG hH hC hz hp, fun _ => ⟨fun _ => A_126 hG hH hC hb hp, fun _ => ⟨fun _ => ?_, fun _ => ⟨fun _ => ?_, fun _ => ⟨fun _ => ?_, fun _ => ⟨fun _ => A_451 hG hH hC hz hp, fun _ => A_535 hG hH hC hb hp⟩⟩⟩⟩⟩⟩⟩
    · rw [es]; exact A_170 hG hH hC hp
    · rw [es]; exact A_240 hG hH hC hc hp
    · rw [es]; exact A_309 hG hH hC hc hs hz hp
  refine RunI.ofGo rfl rfl (b_Lw_acts_0 (Q_nK hO ?_))
  rw [ez]
  refine ⟨fun h => ⟨h, ?_⟩, fun h => g21 0 (fun q => q)⟩
  have h0 : 0 < nK N := by
    rcases Nat.eq_zero_or_pos (nK N) with e | e
    · exact absurd (by rw [hK, e]; rfl) h
    · exact e
  have e : nI (n / 2 ^ 3) - nI (n / 2 ^ 3) / N 2 0 6 * N 2 0 6 = nI (n / 2 ^ 3 % nK N) := by
    rw [hK]
    exact pk_rem hz h0 (by omega)
  rw [e]
  exact g21 _ (fun _ => Nat.mod_lt _ h0)
end LAWA
