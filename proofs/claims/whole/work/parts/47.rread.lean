/-! THE REFERENCE'S QUESTIONS, keeping and bringing back, undoing, saved states -/
def sm (m : Mm) (S : Nat → Int32) : Mm := fun o => if o = (18, 1, 0) then S else m o
def sl (m : Mm) (S : Nat → Int32) : Mm := fun o => if o = (18, 3, 0) then S else m o
section RQ
variable {g : Wg} {m m' : Mm} {v S : Nat → Int32} {P : Int32 → Mm → Prop} {PV : Mm → Prop} {N : Nu}
theorem sm_at : wv (sm m S) v (18, 1, 0) = S := by
  rw [wv_ne (by decide)]
  exact if_pos rfl
theorem sm_u {k : Nat} {x : Int32} : mset (wv (sm m S) v) 18 1 0 k x = wv (sm m (upd S k x)) v := by
  funext o
  by_cases h : o = (18, 1, 0)
  · subst h
    rw [mset_at, sm_at, sm_at]
  · rw [mset_ne _ _ _ _ _ _ h]
    unfold wv sm
    rw [if_neg h, if_neg h]
theorem sm_id : sm m (m (18, 1, 0)) = m := by
  funext o
  unfold sm
  split
  · rename_i h; rw [h]
  · rfl
theorem sl_at : wv (sl m S) v (18, 3, 0) = S := by
  rw [wv_ne (by decide)]
  exact if_pos rfl
theorem sl_u {k : Nat} {x : Int32} : mset (wv (sl m S) v) 18 3 0 k x = wv (sl m (upd S k x)) v := by
  funext o
  by_cases h : o = (18, 3, 0)
  · subst h
    rw [mset_at, sl_at, sl_at]
  · rw [mset_ne _ _ _ _ _ _ h]
    unfold wv sl
    rw [if_neg h, if_neg h]
theorem sl_id : sl m (m (18, 3, 0)) = m := by
  funext o
  unfold sl
  split
  · rename_i h; rw [h]
  · rfl
theorem S_Md_keep (hp : ∀ S, (∀ k, k < 429 → S k = v k) → PV (wv (sm m S) v)) : RunV g h_Md_keep [vO 17 0 0] (wv m v) PV := by
  refine RunV.ofGo rfl rfl (b_Md_keep_0 ?_)
  have e0 : wv m v = wv (sm m (m (18, 1, 0))) v := by rw [sm_id]
  rw [e0]
  refine loopN (G := fun j => ∀ S, (∀ k, k < j → S k = v k) → Go g h_Md_keep (QV PV) 2 [(0, vO 17 0 0), (1, vI (nI j))] [] (wv (sm m S) v)) 429 ?_ ?_ 0 (Nat.zero_le _) _ (fun k hk => absurd hk (Nat.not_lt_zero k))
  · intro S hS
    exact b_Md_keep_2 ⟨fun _ => qv (hp S hS), fun q => absurd (by decide) q⟩
  · intro j hj ih S hS
    have e := nI_clamp (n := j) (by omega)
    refine b_Md_keep_2 ⟨fun q => absurd q (nI_ge (b := 429) hj (by omega)), fun _ => ⟨vp_in_nI hj (by omega), vp_in_nI hj (by omega), ?_⟩⟩
    rw [e, wv_at, sm_u, nI_1]
    refine ih _ fun k hk => ?_
    by_cases q : k = j
    · rw [q, pk_us]
    · rw [pk_un q]; exact hS k (by omega)
theorem S_Md_bringBack {w : Nat → Int32} (hS : ∀ k, k < 429 → m (18, 1, 0) k = w k) (hp : ∀ v', (∀ k, k < 429 → v' k = w k) → PV (wv m v')) : RunV g h_Md_bringBack [vO 17 0 0] (wv m v) PV := by
  refine RunV.ofGo rfl rfl (b_Md_bringBack_0 ?_)
  refine loopN (G := fun j => ∀ v', (∀ k, k < j → v' k = w k) → Go g h_Md_bringBack (QV PV) 2 [(0, vO 17 0 0), (1, vI (nI j))] [] (wv m v')) 429 ?_ ?_ 0 (Nat.zero_le _) v (fun k hk => absurd hk (Nat.not_lt_zero k))
  · intro v' hv
    exact b_Md_bringBack_2 ⟨fun _ => qv (hp v' hv), fun q => absurd (by decide) q⟩
  · intro j hj ih v' hv
    have e := nI_clamp (n := j) (by omega)
    refine b_Md_bringBack_2 ⟨fun q => absurd q (nI_ge (b := 429) hj (by omega)), fun _ => ⟨vp_in_nI hj (by omega), vp_in_nI hj (by omega), ?_⟩⟩
    rw [e, mv, nI_1, wv_ne (by decide)]
    refine ih _ fun k hk => ?_
    by_cases q : k = j
    · rw [q, pk_us]; exact hS j hj
    · rw [pk_un q]; exact hv k (by omega)
theorem S_Md_wouldAdmit (hR : RelR N v) (hO : Ok N) {p : Nat} (h8 : N 2 0 8 = nI p) (hpb : p < 2 ^ 29) (hp : ∀ S v', RelR N v' → P (admX 24 N 0) (wv (sm m S) v')) : RunI g h_Md_wouldAdmit [vO 17 0 0] (wv m v) P := by
  refine RunI.ofGo rfl rfl (b_Md_wouldAdmit_0 (S_Md_keep fun S hS => S_Md_admits hR hO h8 hpb fun v' h1 h2 => S_Md_bringBack (w := v) (fun k hk => ?_) fun v2 hv2 => qi (hp S v2 (hR.ex hv2))))
  show sm m S (18, 1, 0) k = v k
  rw [show sm m S (18, 1, 0) = S from if_pos rfl]
  exact hS k hk
theorem S_Md_income {x : Int32} (hR : RelR N v) (hO : Ok N) (hPl : Pl N) (h0 : ¬ (¬ x < 1 ∧ ¬ 52 < x) → P (-2) (wv m v)) (h1 : ∀ w, 1 ≤ w → w ≤ 52 → x = nI w → ∀ v' T' H' S', RelR N v' → P (runN (fun _ => wekN) N w 2 0 9 - N 2 0 9) (wv (th (sm m S') T' H') v')) : RunI g h_Md_income [vO 17 0 0, vI x] (wv m v) P := by
  refine RunI.ofGo rfl rfl (b_Md_income_0 (S_Md_in ?_))
  simp only [b2i_eq0, Decidable.not_not]
  refine ⟨fun a => S_Md_keep fun S hS => ?_, fun a => qi (h0 a)⟩
  have h00 : ¬ x < 0 := fun q => a.1 (Int32.lt_trans q (by decide))
  obtain ⟨w, hw, rfl⟩ := nI_of2 (M := 52) (n := 52) (by decide) h00 (Int32.not_lt.mp a.2)
  have hw1 : 1 ≤ w := by
    by_cases q : w = 0
    · subst q
      exact absurd (by decide) a.1
    · omega
  have e0 : wv (sm m S) v = wv (th (sm m S) ((sm m S) (18, 6, 0)) ((sm m S) (18, 7, 0))) v := by rw [th_id]
  have hs1 : ∀ T H w, wv (th (sm m S) T H) w (18, 1, 0) = S := fun T H w => by
    rw [wv_ne (by decide)]
    unfold th
    rw [if_neg (by decide), if_neg (by decide)]
    exact if_pos rfl
  rw [e0]
  refine loopN (G := fun j => ∀ v' T' H', RelR (runN (fun _ => wekN) N j) v' → Ok (runN (fun _ => wekN) N j) → Pl (runN (fun _ => wekN) N j) → Go g h_Md_income (QI P) 19 [(0, vO 17 0 0), (1, vI (nI w)), (2, vI (nI j))] [] (wv (th (sm m S) T' H') v')) w ?_ ?_ 0 (Nat.zero_le _) v _ _ hR hO hPl
  · intro v' T' H' hr ho hpl
    refine b_Md_income_19 ⟨fun _ => ⟨vp_in_nI (n := 9) (by decide) (by decide), vp_in_nI (n := 9) (by decide) (by decide), S_Md_bringBack (w := v) (fun k hk => ?_) fun v2 hv2 => qi ?_⟩, fun q => absurd (le_self _) q⟩
    · have := hs1 T' H' v'
      rw [wv_ne (by decide)] at this
      rw [this]
      exact hS k hk
    · rw [wv_at, hr.v9, hs1, hS 9 (by decide), hR.v9]
      exact h1 w hw1 hw rfl v2 T' H' S (hR.ex hv2)
  · intro j hj ih v' T' H' hr ho hpl
    refine b_Md_income_19 ⟨fun q => absurd q (nI_ge hj (by omega)), fun _ => S_Md_oneWeek hr ho hpl fun v2 T2 H2 h1 h2 h3 => ?_⟩
    rw [nI_1, th_th]
    exact ih v2 T2 H2 h1 h2 h3
theorem S_Md_undo {st : Nat} (h3 : m (17, 0, 0) 3 = nI st) (hst : st ≤ 6) (h0 : st = 0 → P (-5) (wv m v)) (h1 : ∀ s, st = s + 1 → ∀ v', (∀ k, k < 429 → v' k = m (18, 2, 0) (429 * s + k)) → P (nI s) (wv (hm m s (m (18, 2, 0))) v')) : RunI g h_Md_undo [vO 17 0 0] (wv m v) P := by
  refine RunI.ofGo rfl rfl (b_Md_undo_0 ?_)
  rw [wv_ne (show ¬ ((17, 0, 0) : Rf) = (18, 0, 0) by decide), h3]
  refine ⟨fun a => ?_, fun a => qi (h0 ((nI_eq (b := 0) (by omega) (by omega)).mp a))⟩
  rcases st with _ | s
  · exact absurd rfl a
  rw [nI_pred]
  have e0 : wv m v = wv (hm m (s + 1) (m (18, 2, 0))) v := by rw [hm_id h3]
  rw [e0, hm_s]
  refine loopN (G := fun j => ∀ v', (∀ k, k < j → v' k = m (18, 2, 0) (429 * s + k)) → Go g h_Md_undo (QI P) 22 [(0, vO 17 0 0), (1, vI (nI j))] [] (wv (hm m s (m (18, 2, 0))) v')) 429 ?_ ?_ 0 (Nat.zero_le _) v (fun k hk => absurd hk (Nat.not_lt_zero k))
  · intro v' hv
    refine b_Md_undo_22 ⟨fun _ => qi ?_, fun q => absurd (by decide) q⟩
    rw [hm_3]
    exact h1 s rfl v' hv
  · intro j hj ih v' hv
    have e := nI_clamp (n := j) (by omega)
    refine b_Md_undo_22 ⟨fun q => absurd q (nI_ge (b := 429) hj (by omega)), fun _ => ?_⟩
    rw [hm_3, hm_2, show (429 * nI s + nI j : Int32) = nI (429 * s + j) by rw [show (429 : Int32) = nI 429 from rfl, pk_mul, nI_add], nI_clamp (n := 429 * s + j) (by omega), e, mv, nI_1]
    refine ⟨vp_in_nI (by omega) (by omega), vp_in_nI hj (by omega), ih _ fun k hk => ?_⟩
    by_cases q : k = j
    · rw [q, pk_us]
    · rw [pk_un q]; exact hv k (by omega)
theorem S_Md_save {x : Int32} (hR : RelR N v) (h0 : ¬ (¬ x < 0 ∧ ¬ 1 < x) → P (-2) (wv m v)) (h1 : ∀ s, s < 2 → x = nI s → ∀ S, (∀ k, S k = if 429 * s ≤ k ∧ k < 429 * s + 429 then v (k - 429 * s) else m (18, 3, 0) k) → P (N 2 0 7) (mset (wv (sl m S) v) 19 0 0 s 1)) : RunI g h_Md_save [vO 17 0 0, vI x] (wv m v) P := by
  refine RunI.ofGo rfl rfl (b_Md_save_0 (S_Md_in ?_))
  simp only [b2i_eq0, Decidable.not_not]
  refine ⟨fun a => ?_, fun a => qi (h0 a)⟩
  obtain ⟨s, hs, rfl⟩ := nI_of2 (M := 1) (n := 1) (by decide) a.1 (Int32.not_lt.mp a.2)
  have es := nI_clamp (n := s) (by omega)
  have e0 : wv m v = wv (sl m (m (18, 3, 0))) v := by rw [sl_id]
  rw [e0]
  refine loopN (G := fun j => ∀ S, (∀ k, S k = if 429 * s ≤ k ∧ k < 429 * s + j then v (k - 429 * s) else m (18, 3, 0) k) → Go g h_Md_save (QI P) 14 [(0, vO 17 0 0), (1, vI (nI s)), (2, vI (nI j))] [] (wv (sl m S) v)) 429 ?_ ?_ 0 (Nat.zero_le _) _ (fun k => by rw [if_neg (by omega)])
  · intro S hS
    refine b_Md_save_14 ⟨fun _ => ⟨vp_in_nI (by omega) (by omega), vp_in_nI (n := 5) (by decide) (by decide), qi ?_⟩, fun q => absurd (by decide) q⟩
    rw [es, mset_ne _ _ _ _ _ _ (by decide), wv_at, hR.v5, show vp_nar .boolean 1 = 1 from rfl]
    exact h1 s (by omega) rfl S hS
  · intro j hj ih S hS
    have e := nI_clamp (n := j) (by omega)
    refine b_Md_save_14 ⟨fun q => absurd q (nI_ge (b := 429) hj (by omega)), fun _ => ?_⟩
    rw [show (429 * nI s + nI j : Int32) = nI (429 * s + j) by rw [show (429 : Int32) = nI 429 from rfl, pk_mul, nI_add], nI_clamp (n := 429 * s + j) (by omega), e, sl_u, nI_1, wv_at]
    refine ⟨vp_in_nI hj (by omega), vp_in_nI (by omega) (by omega), ih _ fun k => ?_⟩
    by_cases q : k = 429 * s + j
    · subst q
      rw [pk_us, if_pos (by omega)]
      congr 1
      omega
    · rw [pk_un q, hS]
      by_cases z : 429 * s ≤ k ∧ k < 429 * s + j
      · rw [if_pos z, if_pos (by omega)]
      · rw [if_neg z, if_neg (by omega)]
theorem S_Md_restore {x : Int32} (hrec : Rcd m v m') (h0 : ¬ (¬ x < 0 ∧ ¬ 1 < x) → P (-2) (wv m v)) (h1 : ∀ s, s < 2 → x = nI s → m (19, 0, 0) s = 0 → P (-5) (wv m v)) (h2 : ∀ s, s < 2 → x = nI s → ¬ m (19, 0, 0) s = 0 → ∀ v', (∀ k, k < 429 → v' k = m' (18, 3, 0) (429 * s + k)) → P (v' 5) (wv m' v')) : RunI g h_Md_restore [vO 17 0 0, vI x] (wv m v) P := by
  refine RunI.ofGo rfl rfl (b_Md_restore_0 (S_Md_in ?_))
  simp only [b2i_eq0, Decidable.not_not]
  refine ⟨fun a => ?_, fun a => qi (h0 a)⟩
  obtain ⟨s, hs, rfl⟩ := nI_of2 (M := 1) (n := 1) (by decide) a.1 (Int32.not_lt.mp a.2)
  have es := nI_clamp (n := s) (by omega)
  rw [es, wv_ne (show ¬ ((19, 0, 0) : Rf) = (18, 0, 0) by decide)]
  refine ⟨vp_in_nI (by omega) (by omega), fun b => S_Md_record hrec ?_, fun b => qi (h1 s (by omega) rfl b)⟩
  refine loopN (G := fun j => ∀ v', (∀ k, k < j → v' k = m' (18, 3, 0) (429 * s + k)) → Go g h_Md_restore (QI P) 30 [(0, vO 17 0 0), (1, vI (nI s)), (2, vI (nI j))] [] (wv m' v')) 429 ?_ ?_ 0 (Nat.zero_le _) v (fun k hk => absurd hk (Nat.not_lt_zero k))
  · intro v' hv
    refine b_Md_restore_30 ⟨fun _ => ⟨vp_in_nI (n := 5) (by decide) (by decide), qi ?_⟩, fun q => absurd (by decide) q⟩
    rw [wv_at]
    exact h2 s (by omega) rfl b v' hv
  · intro j hj ih v' hv
    have e := nI_clamp (n := j) (by omega)
    refine b_Md_restore_30 ⟨fun q => absurd q (nI_ge (b := 429) hj (by omega)), fun _ => ?_⟩
    rw [show (429 * nI s + nI j : Int32) = nI (429 * s + j) by rw [show (429 : Int32) = nI 429 from rfl, pk_mul, nI_add], nI_clamp (n := 429 * s + j) (by omega), e, mv, nI_1, wv_ne (by decide)]
    refine ⟨vp_in_nI (by omega) (by omega), vp_in_nI hj (by omega), ih _ fun k hk => ?_⟩
    by_cases q : k = j
    · rw [q, pk_us]
    · rw [pk_un q]; exact hv k (by omega)
end RQ
