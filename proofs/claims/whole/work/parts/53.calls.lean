/-! BESIDE EACH OTHER: call by call -/
section CA
variable {g : Wg} {mem M : Mm} {b b' old sz : Nat} {P : Int32 → Mm → Prop} {PV : Mm → Prop}
theorem sta_0 {j : Nat} {y : Int32} (hj : j < 5) (h : ¬ y < staV 0 j) : ¬ y < 0 := by
  intro q
  apply h
  have : (0 : Int32) ≤ staV 0 j := (by decide : ∀ j, j < 5 → (0 : Int32) ≤ staV 0 j) j hj
  rw [Int32.lt_iff_toInt_lt] at q ⊢
  rw [Int32.le_iff_toInt_le] at this
  omega
theorem B_set {x y : Int32} (hI : Inv b mem) : Both g h_N_set h_Md_set [vI x, vI y] (b + 5000) mem := by
  obtain ⟨old, sz, hy⟩ := hI.2.1
  refine RunI.ofGo rfl rfl (b_N_set_0 (note_then hI hy fun M hM hy hrow _ _ => T_form ?_))
  have hH := hM.2.2.2.2.2
  have hO := hM.1.1
  refine T_St_changeSetting (PA := True) (fun a => keep_neg (by decide) (qi (ref_no hM (by omega) fun P hp => S_Md_set hM.1.2.2.2 hO hH (rcd_no hM hy) (fun _ => hp) (fun j hj e q => hp) (fun j hj e q => absurd ?_ a)))) (fun j hj e a => keep_neg (by decide) (qi (ref_no hM (by omega) fun P hp => S_Md_set hM.1.2.2.2 hO hH (rcd_no hM hy) (fun _ => hp) (fun _ _ _ _ => hp) (fun j' hj' e' q => absurd ?_ a)))) (fun j hj e a => kp_in hy (hO.2.2.2.2.2 j hj) (qi (ref_yes hM hy hrow (by omega) ⟨ok_setg hO (sta_0 hj a.1), pl_of hM.1.2.1 (ns_t (by decide)) (fun _ => ns_t (by decide)) (fun _ => ns_t (by decide)), (hM.1.2.2.1.mono (by omega)).of (ns_t (by decide)) (ns_t (by decide))⟩ fun MM m' hrec hMM P hp => S_Md_set hM.1.2.2.2 hO (fun k hk => by rw [hMM _ (by decide) (by decide)]; exact hH k hk) hrec (fun q => absurd ?_ q) (fun j' hj' e' q => absurd a ?_) (fun j' hj' e' q v' hv' => ?_))))
  · rw [e]; exact (win (a := 0) (b := 4) (by omega) (by decide) (by decide)).mpr ⟨by omega, by omega⟩
  · have : j = j' := (nI_eq (by omega) (by omega)).mp (e.symm.trans e')
    rw [this]; exact q
  · rw [e]; exact (win (a := 0) (b := 4) (by omega) (by decide) (by decide)).mpr ⟨by omega, by omega⟩
  · have : j = j' := (nI_eq (by omega) (by omega)).mp (e.symm.trans e')
    rw [this]; exact q
  · have : j = j' := (nI_eq (by omega) (by omega)).mp (e.symm.trans e')
    subst this
    exact hp v' hv'
theorem B_room {f t c r : Int32} (hI : Inv b mem) : Both g h_N_room h_Md_room [vI f, vI t, vI c, vI r] (b + 5000) mem := by
  obtain ⟨old, sz, hy⟩ := hI.2.1
  refine RunI.ofGo rfl rfl (b_N_room_0 (note_then hI hy fun M hM hy hrow _ _ => T_form ?_))
  have hO := hM.1.1
  have h5 := hO.1.1.1.2
  refine T_St_addRoom hO.1.1 (fun a => keep_neg (by decide) (qi (ref_no hM (by omega) fun P hp => S_Md_room hM.1.2.2.2 hO (rcd_no hM hy) (fun _ => hp) (fun q => absurd q a) (fun q => absurd q a)))) (fun a e => keep_neg (by decide) (qi (ref_no hM (by omega) fun P hp => S_Md_room hM.1.2.2.2 hO (rcd_no hM hy) (fun q => absurd a q) (fun _ _ => hp) (fun _ q => absurd q (by omega))))) (fun a e => kp_in hy (nI_pos (by omega)) (qi (ref_yes hM hy hrow (by omega) ⟨ok_addR hO a e, ?_, ?_⟩ fun MM m' hrec hMM P hp => S_Md_room hM.1.2.2.2 hO hrec (fun q => absurd a q) (fun _ q => absurd q (by omega)) (fun _ _ v' hv' => hp v' hv'))))
  · exact pl_of hM.1.2.1 (addRN_o ⟨by simp, by simp⟩) (fun _ => addRN_o ⟨by simp, by simp⟩) (fun _ => addRN_o ⟨by simp, by simp⟩)
  · exact (hM.1.2.2.1.mono (by omega)).of (addRN_o ⟨by simp, by simp⟩) (addRN_o ⟨by simp, by simp⟩)
theorem B_carer {r d f t : Int32} (hI : Inv b mem) : Both g h_N_carer h_Md_carer [vI r, vI d, vI f, vI t] (b + 5000) mem := by
  obtain ⟨old, sz, hy⟩ := hI.2.1
  refine RunI.ofGo rfl rfl (b_N_carer_0 (note_then hI hy fun M hM hy hrow _ _ => T_form ?_))
  have hO := hM.1.1
  have h12 := hO.1.2
  refine T_St_addCarer hO.1.1 (fun a => keep_neg (by decide) (qi (ref_no hM (by omega) fun P hp => S_Md_carer hM.1.2.2.2 hO (rcd_no hM hy) (fun _ => hp) (fun _ q => absurd q a) (fun q => absurd q a) (fun q => absurd q a)))) (fun s a => keep_neg (by decide) (qi (ref_no hM (by omega) fun P hp => S_Md_carer hM.1.2.2.2 hO (rcd_no hM hy) (fun q => absurd a q) (fun _ _ => hp) (fun _ q => absurd q s) (fun _ q => absurd q s)))) (fun a s e => keep_neg (by decide) (qi (ref_no hM (by omega) fun P hp => S_Md_carer hM.1.2.2.2 hO (rcd_no hM hy) (fun q => absurd a q) (fun q => absurd s q) (fun _ _ _ => hp) (fun _ _ q => absurd q (by omega))))) (fun a s e => kp_in hy (nI_pos (by omega)) (qi (ref_yes hM hy hrow (by omega) ⟨ok_hire hO s e, ?_, ?_⟩ fun MM m' hrec hMM P hp => S_Md_carer hM.1.2.2.2 hO hrec (fun q => absurd a q) (fun q => absurd s q) (fun _ _ q => absurd q (by omega)) (fun _ _ _ v' hv' => hp v' hv'))))
  · exact pl_of hM.1.2.1 (hirN_o ⟨by simp, by simp⟩) (fun _ => hirN_o ⟨by simp, by simp⟩) (fun _ => hirN_o ⟨by simp, by simp⟩)
  · exact (hM.1.2.2.1.mono (by omega)).of (hirN_o ⟨by simp, by simp⟩) (hirN_o ⟨by simp, by simp⟩)
theorem B_child {a f w : Int32} (hI : Inv b mem) : Both g h_N_child h_Md_child [vI a, vI f, vI w] (b + 5000) mem := by
  obtain ⟨old, sz, hy⟩ := hI.2.1
  refine RunI.ofGo rfl rfl (b_N_child_0 (note_then hI hy fun M hM hy hrow _ _ => T_form ?_))
  have hO := hM.1.1
  have h24 := hO.1.1.2.2.2
  refine T_St_addChild hO.1.1 (fun q => keep_neg (by decide) (qi (ref_no hM (by omega) fun P hp => S_Md_child hM.1.2.2.2 hO (rcd_no hM hy) (fun _ => hp) (fun z => absurd z q) (fun z => absurd z q)))) (fun q e => keep_neg (by decide) (qi (ref_no hM (by omega) fun P hp => S_Md_child hM.1.2.2.2 hO (rcd_no hM hy) (fun z => absurd q z) (fun _ _ => hp) (fun _ z => absurd z (by omega))))) (fun q e => kp_in hy (nI_pos (by omega)) (qi (ref_yes hM hy hrow (by omega) ⟨ok_addK hO e, pl_addK hM.1.2.1 e, (hM.1.2.2.1.mono (by omega)).of (addKN_o ⟨by simp, by simp⟩) (addKN_o ⟨by simp, by simp⟩)⟩ fun MM m' hrec hMM P hp => S_Md_child hM.1.2.2.2 hO hrec (fun z => absurd q z) (fun _ z => absurd z (by omega)) (fun _ _ v' hv' => hp v' hv'))))
theorem pl_qit {N : Nu} (hP : Pl N) {c : Nat} {s : Int32} : Pl (qitN N c s) := by
  intro i hi q
  rw [qitN_ks.1.nK] at hi
  by_cases e : i = c
  · subst e; simp [qitN, nset_ap]
  · have e6 : qitN N c s 9 i 6 = N 9 i 6 := by simp [qitN, nset_ap, e]
    have e8 : qitN N c s 9 i 8 = N 9 i 8 := by simp [qitN, nset_ap, e]
    rw [e6] at q
    rw [e8]
    exact hP i hi q
theorem tm_qit {N : Nu} {c : Nat} {s : Int32} (h : Tm b N) : Tm b (qitN N c s) := h.of (by simp [qitN, nset_ap]) (by simp [qitN, nset_ap])
theorem has_kid {N : Nu} (hO : Ok N) {c : Nat} (hc : c < nK N) : ¬ nI c < 0 ∧ ¬ N 2 0 6 ≤ nI c := by
  have := hO.1.1.2.2.2
  exact ⟨nI_pos (by omega), by rw [hO.1.1.2.2.1]; exact nI_ge hc (by omega)⟩
theorem has_car {N : Nu} (hO : Ok N) {c : Nat} (hc : c < nC N) : ¬ nI c < 0 ∧ ¬ N 2 0 5 ≤ nI c := by
  have := hO.1.2
  exact ⟨nI_pos (by omega), by rw [hO.1.1.2.1.1]; exact nI_ge hc (by omega)⟩
theorem B_leave {x : Int32} (hI : Inv b mem) : Both g h_N_leave h_Md_leave [vI x] (b + 5000) mem := by
  obtain ⟨old, sz, hy⟩ := hI.2.1
  refine RunI.ofGo rfl rfl (b_N_leave_0 (note_then hI hy fun M hM hy hrow _ _ => T_form ?_))
  have hO := hM.1.1
  have h24 := hO.1.1.2.2.2
  have eqc : ∀ {c c' : Nat}, c < nK (rd M 0) → c' < nK (rd M 0) → x = nI c → x = nI c' → c = c' := fun h1 h2 e1 e2 => (nI_eq (by omega) (by omega)).mp (e1.symm.trans e2)
  refine T_St_letLeave hO.1.1 (fun a => keep_neg (by decide) (qi (ref_no hM (by omega) fun P hp => S_Md_leave hM.1.2.2.2 hO (rcd_no hM hy) (fun _ => hp) (fun c hc e => absurd (e ▸ has_kid hO hc) a) (fun c hc e => absurd (e ▸ has_kid hO hc) a)))) (fun c hc e q => keep_neg (by decide) (qi (ref_no hM (by omega) fun P hp => S_Md_leave hM.1.2.2.2 hO (rcd_no hM hy) (fun z => absurd (e ▸ has_kid hO hc) z) (fun _ _ _ _ => hp) (fun c' hc' e' z => absurd (eqc hc hc' e e' ▸ q) z)))) (fun c hc e q => kp_in hy (nI_pos (by have := cnt_le (fun j => qitN (rd M 0) c 2 9 j 3 = 1) (nK (rd M 0)); omega)) (qi (ref_yes hM hy hrow (by omega) ⟨ok_qit hO hc (Or.inr rfl), pl_qit hM.1.2.1, tm_qit (hM.1.2.2.1.mono (by omega))⟩ fun MM m' hrec hMM P hp => S_Md_leave hM.1.2.2.2 hO hrec (fun z => absurd (e ▸ has_kid hO hc) z) (fun c' hc' e' z => absurd (eqc hc hc' e e' ▸ z) q) (fun c' hc' e' z v' hv' => ?_))))
  have := eqc hc hc' e e'
  subst this
  exact hp v' hv'
theorem pl_adm {f : Nat} {N : Nu} (hP : Pl N) (h24 : Ok N) : ∀ {N : Nu}, Pl N → (∀ i, i < nK N → ¬ N 9 i 3 = 1 → N 9 i 8 = -6) → Pl (admN f N) ∧ True := by
  intro N h1 h2
  refine ⟨?_, trivial⟩
  induction f generalizing N with
  | zero => exact h1
  | succ f ih =>
    unfold admN
    split
    · rename_i hx
      have hc := nxt_can hx
      have hnK := (plcN_sm (N := N) (c := nxtN N)).nK
      refine ih (fun i hi q => ?_) (fun i hi q => ?_)
      · rw [hnK] at hi
        have e8 : plcN N (nxtN N) 9 i 8 = N 9 i 8 := by simp [plcN, nset_ap]
        rw [e8]
        by_cases e : i = nxtN N
        · rw [e]
          exact h2 _ hx (by rw [hc.1]; decide)
        · have e6 : plcN N (nxtN N) 9 i 6 = N 9 i 6 := by simp [plcN, nset_ap, e]
          rw [e6] at q
          exact h1 i hi q
      · rw [hnK] at hi
        have e8 : plcN N (nxtN N) 9 i 8 = N 9 i 8 := by simp [plcN, nset_ap]
        rw [e8]
        by_cases e : i = nxtN N
        · rw [e]
          exact h2 _ hx (by rw [hc.1]; decide)
        · have e3 : plcN N (nxtN N) 9 i 3 = N 9 i 3 := by simp [plcN, nset_ap, e]
          rw [e3] at q
          exact h2 i hi q
    · exact h1
theorem adm_7 : ∀ f N, admN f N 2 0 7 = N 2 0 7
  | 0, _ => rfl
  | f + 1, N => by
    unfold admN
    split
    · rw [adm_7 f]
      simp [plcN, nset_ap]
    · rfl
theorem ok_adm : ∀ f N p, Ok N → N 2 0 8 = nI p → p + f < 2 ^ 30 → Ok (admN f N)
  | 0, _, _, h, _, _ => h
  | f + 1, N, p, h, h8, hp => by
    unfold admN
    split
    · rename_i hx
      refine ok_adm f _ (p + 1) (ok_plc h hx (nxt_can hx) (by rw [h8]; exact nI_pos (by omega))) ?_ (by omega)
      have : plcN N (nxtN N) 2 0 8 = N 2 0 8 + 1 := by simp [plcN, nset_ap]
      rw [this, h8, nI_1]
    · exact h
theorem adm_all {N : Nu} (hO : Ok N) (hP : Pl N) (hT : Tm b N) (hb : b < 2 ^ 28) : Ok (admN 24 N) ∧ Pl (admN 24 N) ∧ Tm (b + 24) (admN 24 N) := by
  obtain ⟨p, w, h1, h2, h3, h4⟩ := hT
  obtain ⟨q, hq, h5⟩ := admN_8 24 N p h3
  exact ⟨ok_adm 24 N p hO h3 (by omega), (pl_adm hP hO hP (fun i hi z => ((hO.k1 hi).2.2.2.1 z).2)).1, ⟨q, w, by omega, by omega, h5, (adm_7 24 N).trans h4⟩⟩
theorem B_admit (hI : Inv b mem) (hb : b < 2 ^ 28) : Both g h_N_admit h_Md_admit [] (b + 5000) mem := by
  obtain ⟨old, sz, hy⟩ := hI.2.1
  refine RunI.ofGo rfl rfl (b_N_admit_0 (note_then hI hy fun M hM hy hrow _ _ => T_form ?_))
  have hO := hM.1.1
  obtain ⟨q1, q2, q3⟩ := adm_all hO hM.1.2.1 hM.1.2.2.1 hb
  obtain ⟨p, w, h1, h2, h3, h4⟩ := hM.1.2.2.1
  have hc : admC 24 (rd M 0) ≤ 32 := by
    have := admX_pc 24 (rd M 0) 0 hO.1.1.2.2.2 (fun j hj q => absurd q (has_0 (by have := hO.1.1.2.2.2; omega)))
    rw [pcI_0 rfl, Nat.zero_add, pcI_cnt] at this
    rw [← this]
    exact cnt_le _ _
  exact T_Ad_admitAll hO.1.1 (kp_in hy (nI_pos (by omega)) (qi (ref_yes hM hy hrow (by omega) ⟨q1, q2, q3.mono (by omega)⟩ fun MM m' hrec hMM P hp => S_Md_admit hM.1.2.2.2 hO hrec h3 (by omega) (fun v' hv' _ => hp v' hv'))))
theorem in9 {s : Nat} (hs : s < 10) : ¬ nI s < 0 ∧ ¬ 9 < nI s := (win (a := 0) (b := 9) (by omega) (by decide) (by decide)).mpr ⟨by omega, by omega⟩
theorem B_visit {x y : Int32} (hI : Inv b mem) : Both g h_N_visit h_Md_visit [vI x, vI y] (b + 5000) mem := by
  obtain ⟨old, sz, hy⟩ := hI.2.1
  refine RunI.ofGo rfl rfl (b_N_visit_0 (note_then hI hy fun M hM hy hrow _ _ => T_form ?_))
  have hO := hM.1.1
  have h24 := hO.1.1.2.2.2
  have eqc : ∀ {c c' : Nat}, c < nK (rd M 0) → c' < nK (rd M 0) → x = nI c → x = nI c' → c = c' := fun h1 h2 e1 e2 => (nI_eq (by omega) (by omega)).mp (e1.symm.trans e2)
  have eqs : ∀ {s s' : Nat}, s < 10 → s' < 10 → y = nI s → y = nI s' → s = s' := fun h1 h2 e1 e2 => (nI_eq (by omega) (by omega)).mp (e1.symm.trans e2)
  have ok : ∀ {c s : Nat}, c < nK (rd M 0) → x = nI c → s < 10 → y = nI s → ((¬ x < 0 ∧ ¬ rd M 0 2 0 6 ≤ x) ∧ (¬ y < 0 ∧ ¬ 9 < y)) := fun hc e hs e2 => by
    rw [e, e2]; exact ⟨has_kid hO hc, in9 hs⟩
  refine T_Se_planVisit hO.1.1 hO.2.1 (fun a => keep_neg (by decide) (qi (ref_no hM (by omega) fun P hp => S_Md_visit hM.1.2.2.2 hO (rcd_no hM hy) (fun _ => hp) (fun c s hc e hs e2 => absurd (ok hc e hs e2) a) (fun c s hc e hs e2 => absurd (ok hc e hs e2) a) (fun c s hc e hs e2 => absurd (ok hc e hs e2) a)))) (fun c s hc e hs e2 q => keep_neg (by decide) (qi (ref_no hM (by omega) fun P hp => S_Md_visit hM.1.2.2.2 hO (rcd_no hM hy) (fun z => absurd (ok hc e hs e2) z) (fun _ _ _ _ _ _ _ => hp) (fun _ _ _ _ _ _ _ _ _ => hp) (fun c' s' hc' e' hs' e2' z => absurd (eqc hc' hc e' e ▸ z) q)))) (fun c s hc e hs e2 q1 q2 q3 => keep_neg (by decide) (qi (ref_no hM (by omega) fun P hp => S_Md_visit hM.1.2.2.2 hO (rcd_no hM hy) (fun z => absurd (ok hc e hs e2) z) (fun _ _ _ _ _ _ _ => hp) (fun _ _ _ _ _ _ _ _ _ => hp) (fun c' s' hc' e' hs' e2' z1 z2 => ?_)))) (fun c s hc e hs e2 q1 q2 => kp_in hy (nI_pos (by have := cnt_le (fun j => ¬ nset (rd M 0) 9 c 8 (nI s) 9 j 8 = -6) (nK (rd M 0)); omega)) (qi (ref_yes hM hy hrow (by omega) ⟨ok_vst hO hc hs q1.1, pl_vst hM.1.2.1 q1.2.1, (hM.1.2.2.1.mono (by omega)).of (ns_t (by decide)) (ns_t (by decide))⟩ fun MM m' hrec hMM P hp => S_Md_visit hM.1.2.2.2 hO hrec (fun z => absurd (ok hc e hs e2) z) (fun c' s' hc' e' hs' e2' z => ?_) (fun c' s' hc' e' hs' e2' z1 z2 z3 => ?_) (fun c' s' hc' e' hs' e2' z1 z2 v' hv' => ?_))))
  · have a1 := eqc hc' hc e' e
    have a2 := eqs hs' hs e2' e2
    subst a1; subst a2
    exact absurd z2 (fun w => w.elim q2 q3)
  · have a1 := eqc hc' hc e' e
    subst a1
    exact absurd q1 z
  · have a1 := eqc hc' hc e' e
    have a2 := eqs hs' hs e2' e2
    subst a1; subst a2
    exact absurd q2 (fun w => w.elim z2 z3)
  · have a1 := eqc hc' hc e' e
    have a2 := eqs hs' hs e2' e2
    subst a1; subst a2
    exact hp v' hv'
theorem B_swap {x y z w : Int32} (hI : Inv b mem) : Both g h_N_swap h_Md_swap [vI x, vI y, vI z, vI w] (b + 5000) mem := by
  obtain ⟨old, sz, hy⟩ := hI.2.1
  refine RunI.ofGo rfl rfl (b_N_swap_0 (note_then hI hy fun M hM hy hrow _ _ => T_form ?_))
  have hO := hM.1.1
  have h24 := hO.1.1.2.2.2
  have eqn : ∀ {u : Int32} {c c' : Nat}, c < 24 → c' < 24 → u = nI c → u = nI c' → c = c' := fun h1 h2 e1 e2 => (nI_eq (by omega) (by omega)).mp (e1.symm.trans e2)
  have ok : ∀ {a s c t : Nat}, a < nK (rd M 0) → x = nI a → s < 10 → y = nI s → c < nK (rd M 0) → z = nI c → t < 10 → w = nI t → ¬ a = c → ((¬ x < 0 ∧ ¬ rd M 0 2 0 6 ≤ x) ∧ (¬ z < 0 ∧ ¬ rd M 0 2 0 6 ≤ z) ∧ ¬ x = z ∧ (¬ y < 0 ∧ ¬ 9 < y) ∧ (¬ w < 0 ∧ ¬ 9 < w)) := fun ha e hs e2 hc e3 ht e4 ne => by
    rw [e, e2, e3, e4]
    exact ⟨has_kid hO ha, has_kid hO hc, fun q => ne ((nI_eq (by omega) (by omega)).mp q), in9 hs, in9 ht⟩
  refine T_Se_exchange hO.1.1 hO.2.1 (fun q => keep_neg (by decide) (qi (ref_no hM (by omega) fun P hp => S_Md_swap hM.1.2.2.2 hO (rcd_no hM hy) (fun _ => hp) (fun a s c t h1 h2 h3 h4 h5 h6 h7 h8 h9 => absurd (ok h1 h2 h3 h4 h5 h6 h7 h8 h9) q) (fun a s c t h1 h2 h3 h4 h5 h6 h7 h8 h9 => absurd (ok h1 h2 h3 h4 h5 h6 h7 h8 h9) q)))) (fun a s c t h1 h2 h3 h4 h5 h6 h7 h8 h9 q => keep_neg (by decide) (qi (ref_no hM (by omega) fun P hp => S_Md_swap hM.1.2.2.2 hO (rcd_no hM hy) (fun u => absurd (ok h1 h2 h3 h4 h5 h6 h7 h8 h9) u) (fun _ _ _ _ _ _ _ _ _ _ _ _ _ _ => hp) (fun a' s' c' t' k1 k2 k3 k4 k5 k6 k7 k8 k9 u => ?_)))) (fun a s c t h1 h2 h3 h4 h5 h6 h7 h8 h9 q => kp_in hy (by decide) (qi (ref_yes hM hy hrow (by omega) ⟨ok_exc hO h1 h3 h5 h7 h9 q, pl_ses (pl_ses hM.1.2.1), (hM.1.2.2.1.mono (by omega)).of (by simp [excN, nset_ap]) (by simp [excN, nset_ap])⟩ fun MM m' hrec hMM P hp => S_Md_swap hM.1.2.2.2 hO hrec (fun u => absurd (ok h1 h2 h3 h4 h5 h6 h7 h8 h9) u) (fun a' s' c' t' k1 k2 k3 k4 k5 k6 k7 k8 k9 u => ?_) (fun a' s' c' t' k1 k2 k3 k4 k5 k6 k7 k8 k9 u v' hv' => ?_))))
  · have a1 := eqn (by omega) (by omega) k2 h2
    have a2 := eqn (by omega) (by omega) k4 h4
    have a3 := eqn (by omega) (by omega) k6 h6
    have a4 := eqn (by omega) (by omega) k8 h8
    subst a1; subst a2; subst a3; subst a4
    exact absurd u q
  · have a1 := eqn (by omega) (by omega) k2 h2
    have a2 := eqn (by omega) (by omega) k4 h4
    have a3 := eqn (by omega) (by omega) k6 h6
    have a4 := eqn (by omega) (by omega) k8 h8
    subst a1; subst a2; subst a3; subst a4
    exact absurd q u
  · have a1 := eqn (by omega) (by omega) k2 h2
    have a2 := eqn (by omega) (by omega) k4 h4
    have a3 := eqn (by omega) (by omega) k6 h6
    have a4 := eqn (by omega) (by omega) k8 h8
    subst a1; subst a2; subst a3; subst a4
    exact hp v' hv'
theorem B_giveBack {x y : Int32} (hI : Inv b mem) : Both g h_N_giveBack h_Md_giveBack [vI x, vI y] (b + 5000) mem := by
  obtain ⟨old, sz, hy⟩ := hI.2.1
  refine RunI.ofGo rfl rfl (b_N_giveBack_0 (note_then hI hy fun M hM hy hrow _ _ => T_form ?_))
  have hO := hM.1.1
  have h24 := hO.1.1.2.2.2
  have eqc : ∀ {c c' : Nat}, c < nK (rd M 0) → c' < nK (rd M 0) → x = nI c → x = nI c' → c = c' := fun h1 h2 e1 e2 => (nI_eq (by omega) (by omega)).mp (e1.symm.trans e2)
  have eqs : ∀ {s s' : Nat}, s < 10 → s' < 10 → y = nI s → y = nI s' → s = s' := fun h1 h2 e1 e2 => (nI_eq (by omega) (by omega)).mp (e1.symm.trans e2)
  have ok : ∀ {c s : Nat}, c < nK (rd M 0) → x = nI c → s < 10 → y = nI s → ((¬ x < 0 ∧ ¬ rd M 0 2 0 6 ≤ x) ∧ (¬ y < 0 ∧ ¬ 9 < y)) := fun hc e hs e2 => by
    rw [e, e2]; exact ⟨has_kid hO hc, in9 hs⟩
  have pos : ∀ {c s : Nat}, s < 10 → Has (rd M 0 9 c 5) (nI s) → ¬ nI (pcI (rd M 0 9 c 5)) - 1 < 0 := fun {c s} hs h => by
    have := pcI_drop (x := rd M 0 9 c 5) (c := s) (by omega) h
    have h32 : pcI (rd M 0 9 c 5) ≤ 32 := by rw [pcI_cnt]; exact cnt_le _ _
    rw [← this, nI_pred]
    exact nI_pos (by omega)
  refine T_Se_handBack hO.1.1 (fun a => keep_neg (by decide) (qi (ref_no hM (by omega) fun P hp => S_Md_giveBack hM.1.2.2.2 hO (rcd_no hM hy) (fun _ => hp) (fun c s hc e hs e2 => absurd (ok hc e hs e2) a) (fun c s hc e hs e2 => absurd (ok hc e hs e2) a)))) (fun c s hc e hs e2 q => keep_neg (by decide) (qi (ref_no hM (by omega) fun P hp => S_Md_giveBack hM.1.2.2.2 hO (rcd_no hM hy) (fun z => absurd (ok hc e hs e2) z) (fun _ _ _ _ _ _ _ => hp) (fun c' s' hc' e' hs' e2' z1 z2 => ?_)))) (fun c s hc e hs e2 q1 q2 => kp_in hy (pos hs q1) (qi (ref_yes hM hy hrow (by omega) ⟨ok_give hO hc hs q1, pl_ses hM.1.2.1, (hM.1.2.2.1.mono (by omega)).of (ns_t (by decide)) (ns_t (by decide))⟩ fun MM m' hrec hMM P hp => S_Md_giveBack hM.1.2.2.2 hO hrec (fun z => absurd (ok hc e hs e2) z) (fun c' s' hc' e' hs' e2' z => ?_) (fun c' s' hc' e' hs' e2' z1 z2 v' hv' => ?_))))
  · have a1 := eqc hc' hc e' e
    have a2 := eqs hs' hs e2' e2
    subst a1; subst a2
    exact absurd ⟨z1, z2⟩ q
  · have a1 := eqc hc' hc e' e
    have a2 := eqs hs' hs e2' e2
    subst a1; subst a2
    exact absurd ⟨q1, q2⟩ z
  · have a1 := eqc hc' hc e' e
    have a2 := eqs hs' hs e2' e2
    subst a1; subst a2
    exact hp v' hv'
theorem B_sick {x : Int32} (hI : Inv b mem) : Both g h_N_sick h_Md_sick [vI x] (b + 5000) mem := by
  obtain ⟨old, sz, hy⟩ := hI.2.1
  refine RunI.ofGo rfl rfl (b_N_sick_0 (note_then hI hy fun M hM hy hrow _ _ => T_form ?_))
  have hO := hM.1.1
  have h12 := hO.1.2
  have eqc : ∀ {c c' : Nat}, c < nC (rd M 0) → c' < nC (rd M 0) → x = nI c → x = nI c' → c = c' := fun h1 h2 e1 e2 => (nI_eq (by omega) (by omega)).mp (e1.symm.trans e2)
  refine T_St_reportSick hO.1.1 (fun a => keep_neg (by decide) (qi (ref_no hM (by omega) fun P hp => S_Md_sick hM.1.2.2.2 hO (rcd_no hM hy) (fun _ => hp) (fun c hc e => absurd (e ▸ has_car hO hc) a) (fun c hc e => absurd (e ▸ has_car hO hc) a)))) (fun c hc e q => keep_neg (by decide) (qi (ref_no hM (by omega) fun P hp => S_Md_sick hM.1.2.2.2 hO (rcd_no hM hy) (fun z => absurd (e ▸ has_car hO hc) z) (fun _ _ _ _ => hp) (fun c' hc' e' z => absurd (eqc hc' hc e' e ▸ z) q)))) (fun c hc e q => kp_in hy (nI_pos (by have := cnt_le (fun j => ¬ nset (rd M 0) 8 c 4 1 8 j 4 = 0) (nC (rd M 0)); omega)) (qi (ref_yes hM hy hrow (by omega) ⟨ok_n8 hO (Or.inr rfl), pl_of hM.1.2.1 (ns_t (by decide)) (fun _ => ns_t (by decide)) (fun _ => ns_t (by decide)), (hM.1.2.2.1.mono (by omega)).of (ns_t (by decide)) (ns_t (by decide))⟩ fun MM m' hrec hMM P hp => S_Md_sick hM.1.2.2.2 hO hrec (fun z => absurd (e ▸ has_car hO hc) z) (fun c' hc' e' z => absurd (eqc hc hc' e e' ▸ q) z) (fun c' hc' e' z v' hv' => ?_))))
  have := eqc hc hc' e e'
  subst this
  exact hp v' hv'
end CA
