/-! WHAT THE LAW RESTS ON between calls: sums of payments and of those sent home, the weeks of waiting -/
def Sums (N : Nu) : Prop := sumI (fun i => N 9 i 11) (nK N) = N 2 0 9 ∧ sumI (fun i => N 9 i 10) (nK N) = N 2 0 11
def Snc (N : Nu) : Prop := ∀ i, i < nK N → ¬ N 2 0 7 < N 9 i 12
/-- good: b bounds placings and weeks -/
def Gd (b : Nat) (N : Nu) : Prop := Ok N ∧ Pl N ∧ Tm b N ∧ Sums N ∧ Snc N
section GOOD
variable {N M A : Nu} {b b' : Nat}
theorem sums_of (h : Sums N) (hs : Sm N M) (h9 : M 2 0 9 = N 2 0 9) (h11 : M 2 0 11 = N 2 0 11) (hp : ∀ i, i < nK N → M 9 i 11 = N 9 i 11) (hh : ∀ i, i < nK N → M 9 i 10 = N 9 i 10) : Sums M := by
  unfold Sums
  rw [hs.nK, h9, h11, sumI_congr hp, sumI_congr hh]
  exact h
theorem snc_of (h : Snc N) (hs : Sm N M) (h7 : M 2 0 7 = N 2 0 7) (hp : ∀ i, i < nK N → M 9 i 12 = N 9 i 12) : Snc M := by
  intro i hi
  rw [hs.nK] at hi
  rw [h7, hp i hi]
  exact h i hi
theorem Gd.lq (h : Gd b N) (hl : Lq N A) : Gd b A :=
  ⟨ok_lq h.1 hl, pl_lq h.2.1 hl, h.2.2.1.of (hl.c2 (by decide) (by decide)) (hl.c2 (by decide) (by decide)), sums_of h.2.2.2.1 hl.sm (hl.c2 (by decide) (by decide)) (hl.c2 (by decide) (by decide)) (fun i hi => hl.c9 hi (by decide)) (fun i hi => hl.c9 hi (by decide)), snc_of h.2.2.2.2 hl.sm (hl.c2 (by decide) (by decide)) (fun i hi => hl.c9 hi (by decide))⟩
theorem Gd.mono (h : Gd b N) (hb : b ≤ b') : Gd b' N := ⟨h.1, h.2.1, h.2.2.1.mono hb, h.2.2.2⟩
theorem gd_set (h : Gd b N) {j : Nat} {y : Int32} (hy : ¬ y < 0) : Gd b (nset N 3 0 j y) :=
  ⟨ok_setg h.1 hy, pl_of h.2.1 (ns_t (by decide)) (fun _ => ns_t (by decide)) (fun _ => ns_t (by decide)), h.2.2.1.of (ns_t (by decide)) (ns_t (by decide)), sums_of h.2.2.2.1 (Sm.rfl'.nt (by decide)) (ns_t (by decide)) (ns_t (by decide)) (fun _ _ => ns_t (by decide)) (fun _ _ => ns_t (by decide)), snc_of h.2.2.2.2 (Sm.rfl'.nt (by decide)) (ns_t (by decide)) (fun _ _ => ns_t (by decide))⟩
theorem gd_sick (h : Gd b N) {c : Nat} : Gd b (nset N 8 c 4 1) :=
  ⟨ok_n8 h.1 (Or.inr rfl), pl_of h.2.1 (ns_t (by decide)) (fun _ => ns_t (by decide)) (fun _ => ns_t (by decide)), h.2.2.1.of (ns_t (by decide)) (ns_t (by decide)), sums_of h.2.2.2.1 (Sm.rfl'.nt (by decide)) (ns_t (by decide)) (ns_t (by decide)) (fun _ _ => ns_t (by decide)) (fun _ _ => ns_t (by decide)), snc_of h.2.2.2.2 (Sm.rfl'.nt (by decide)) (ns_t (by decide)) (fun _ _ => ns_t (by decide))⟩
/-- a cell of a child that isn't of the sums -/
theorem gd_n9 (h : Gd b N) {c j : Nat} {x : Int32} (hj : ¬ (j = 10 ∨ j = 11 ∨ j = 12)) (h1 : Ok (nset N 9 c j x)) (h2 : Pl (nset N 9 c j x)) : Gd b (nset N 9 c j x) :=
  ⟨h1, h2, h.2.2.1.of (ns_t (by decide)) (ns_t (by decide)), sums_of h.2.2.2.1 (Sm.rfl'.nt (by decide)) (ns_t (by decide)) (ns_t (by decide)) (fun _ _ => ns_j (by omega)) (fun _ _ => ns_j (by omega)), snc_of h.2.2.2.2 (Sm.rfl'.nt (by decide)) (ns_t (by decide)) (fun _ _ => ns_j (by omega))⟩
theorem gd_vst (h : Gd b N) {c s : Nat} (hc : c < nK N) (hs : s < 10) (h3 : N 9 c 3 = 1) (h6 : N 9 c 6 = 0) : Gd b (nset N 9 c 8 (nI s)) :=
  gd_n9 h (by omega) (ok_vst h.1 hc hs h3) (pl_vst h.2.1 h6)
theorem gd_give (h : Gd b N) {c s : Nat} (hc : c < nK N) (hs : s < 10) (hh : Has (N 9 c 5) (nI s)) : Gd b (nset N 9 c 5 (dropI (N 9 c 5) s)) :=
  gd_n9 h (by omega) (ok_give h.1 hc hs hh) (pl_ses h.2.1)
theorem gd_exc (h : Gd b N) {a s c t : Nat} (ha : a < nK N) (hs : s < 10) (hc : c < nK N) (ht : t < 10) (ne : ¬ a = c) (hcan : canP N a s c t) : Gd b (excN N a s c t) := by
  have hsm : Sm N (excN N a s c t) := (Sm.rfl'.nt (by decide)).nt (by decide)
  exact ⟨ok_exc h.1 ha hs hc ht ne hcan, pl_ses (pl_ses h.2.1), h.2.2.1.of (by simp [excN, nset_ap]) (by simp [excN, nset_ap]), sums_of h.2.2.2.1 hsm (by simp [excN, nset_ap]) (by simp [excN, nset_ap]) (fun _ _ => by simp [excN, nset_ap]) (fun _ _ => by simp [excN, nset_ap]), snc_of h.2.2.2.2 hsm (by simp [excN, nset_ap]) (fun _ _ => by simp [excN, nset_ap])⟩
theorem gd_addR (h : Gd b N) {f t c r : Int32} (hb : RoomB f t c r) (h5 : nR N < 5) : Gd b (addRN N f t c r) := by
  have o := @addRN_o N f t c r
  have e6 : addRN N f t c r 2 0 6 = N 2 0 6 := o ⟨by simp, by simp⟩
  have hK : nK (addRN N f t c r) = nK N := by show (addRN N f t c r 2 0 6).toNatClampNeg = _; rw [e6]
  refine ⟨ok_addR h.1 hb h5, pl_of h.2.1 e6 (fun _ => o ⟨by simp, by simp⟩) (fun _ => o ⟨by simp, by simp⟩), h.2.2.1.of (o ⟨by simp, by simp⟩) (o ⟨by simp, by simp⟩), ?_, fun i hi => ?_⟩
  · unfold Sums
    rw [hK, o ⟨by simp, by simp⟩, o ⟨by simp, by simp⟩, sumI_congr (fun i _ => o ⟨by simp, by simp⟩), sumI_congr (fun i _ => o ⟨by simp, by simp⟩)]
    exact h.2.2.2.1
  · rw [hK] at hi
    rw [o ⟨by simp, by simp⟩, o ⟨by simp, by simp⟩]
    exact h.2.2.2.2 i hi
theorem gd_hir (h : Gd b N) {r d f t : Int32} (hb : ShiftB d f t) (h12 : nC N < 12) : Gd b (hirN N r d f t) := by
  have o := @hirN_o N r d f t
  have e6 : hirN N r d f t 2 0 6 = N 2 0 6 := o ⟨by simp, by simp⟩
  have hK : nK (hirN N r d f t) = nK N := by show (hirN N r d f t 2 0 6).toNatClampNeg = _; rw [e6]
  refine ⟨ok_hire h.1 hb h12, pl_of h.2.1 e6 (fun _ => o ⟨by simp, by simp⟩) (fun _ => o ⟨by simp, by simp⟩), h.2.2.1.of (o ⟨by simp, by simp⟩) (o ⟨by simp, by simp⟩), ?_, fun i hi => ?_⟩
  · unfold Sums
    rw [hK, o ⟨by simp, by simp⟩, o ⟨by simp, by simp⟩, sumI_congr (fun i _ => o ⟨by simp, by simp⟩), sumI_congr (fun i _ => o ⟨by simp, by simp⟩)]
    exact h.2.2.2.1
  · rw [hK] at hi
    rw [o ⟨by simp, by simp⟩, o ⟨by simp, by simp⟩]
    exact h.2.2.2.2 i hi
theorem gd_addK (h : Gd b N) {a f w : Int32} (h24 : nK N < 24) : Gd b (addKN N a f w) := by
  have o := @addKN_o N a f w
  have c := @addKN_c N a f w
  have hK := addKN_nK (N := N) (a := a) (f := f) (w := w) (by omega)
  refine ⟨ok_addK h.1 h24, pl_addK h.2.1 h24, h.2.2.1.of (o ⟨by simp, by simp⟩) (o ⟨by simp, by simp⟩), ?_, fun i hi => ?_⟩
  · have q11 : sumI (fun i => addKN N a f w 9 i 11) (nK N + 1) = sumI (fun i => N 9 i 11) (nK N) := by
      show sumI _ (nK N) + addKN N a f w 9 (nK N) 11 = _
      rw [c (j := 11) (by decide), sumI_congr (f' := fun i => N 9 i 11) (fun i hi => o ⟨by simp; omega, by simp⟩)]
      exact Int32.add_zero _
    have q10 : sumI (fun i => addKN N a f w 9 i 10) (nK N + 1) = sumI (fun i => N 9 i 10) (nK N) := by
      show sumI _ (nK N) + addKN N a f w 9 (nK N) 10 = _
      rw [c (j := 10) (by decide), sumI_congr (f' := fun i => N 9 i 10) (fun i hi => o ⟨by simp; omega, by simp⟩)]
      exact Int32.add_zero _
    unfold Sums
    rw [hK, q11, q10, o (t := 2) (i := 0) (j := 9) ⟨by simp, by simp⟩, o (t := 2) (i := 0) (j := 11) ⟨by simp, by simp⟩]
    exact h.2.2.2.1
  · rw [hK] at hi
    rw [o (t := 2) (i := 0) (j := 7) ⟨by simp, by simp⟩]
    by_cases e : i = nK N
    · rw [e, c (j := 12) (by decide)]
      exact fun q => Int32.lt_irrefl (q : N 2 0 7 < N 2 0 7)
    · rw [o ⟨by simp; omega, by simp⟩]
      exact h.2.2.2.2 i (by omega)
theorem adm_same : ∀ f (N : Nu), (∀ i j, j = 10 ∨ j = 11 ∨ j = 12 → admN f N 9 i j = N 9 i j) ∧ (∀ j, j = 7 ∨ j = 9 ∨ j = 11 → admN f N 2 0 j = N 2 0 j)
  | 0, _ => ⟨fun _ _ _ => rfl, fun _ _ => rfl⟩
  | f + 1, N => by
    unfold admN
    split
    · obtain ⟨h1, h2⟩ := adm_same f (plcN N (nxtN N))
      refine ⟨fun i j hj => ?_, fun j hj => ?_⟩
      · rw [h1 i j hj]
        rcases hj with rfl | rfl | rfl <;> simp [plcN, nset_ap]
      · rw [h2 j hj]
        rcases hj with rfl | rfl | rfl <;> simp [plcN, nset_ap]
    · exact ⟨fun _ _ _ => rfl, fun _ _ => rfl⟩
theorem gd_adm (h : Gd b N) (hb : b < 2 ^ 28) : Gd (b + 24) (admN 24 N) := by
  obtain ⟨q1, q2, q3⟩ := adm_all h.1 h.2.1 h.2.2.1 hb
  obtain ⟨s1, s2⟩ := adm_same 24 N
  exact ⟨q1, q2, q3, sums_of h.2.2.2.1 (admN_sm 24 N) (s2 9 (by decide)) (s2 11 (by decide)) (fun i _ => s1 i 11 (by decide)) (fun i _ => s1 i 10 (by decide)), snc_of h.2.2.2.2 (admN_sm 24 N) (s2 7 (by decide)) (fun i _ => s1 i 12 (by decide))⟩
/-- behind an admission nobody can be placed -/
theorem adm_end : ∀ f (N : Nu), cnt (fun j => N 9 j 3 = 0) (nK N) ≤ f → ¬ nxtN (admN f N) < nK (admN f N)
  | 0, N, h => fun q => by
    have q : nxtN N < nK N := q
    have h1 := (nxt_can q).1
    have h2 := cnt_pos (p := fun j => N 9 j 3 = 0) q h1
    omega
  | f + 1, N, h => by
    unfold admN
    by_cases hx : nxtN N < nK N
    · rw [if_pos hx]
      refine adm_end f _ ?_
      have := wait_plc hx (nxt_can hx).1
      rw [plcN_sm.nK]
      omega
    · rw [if_neg hx]
      exact hx
theorem admX_end (h : ¬ nxtN N < nK N) : admX 24 N 0 = 0 := by
  unfold admX
  rw [if_neg h]
/-! a week -/
theorem ok_hs (h : Ok N) (hs : Hs N M) : Ok M := by
  refine ok_kids h hs.sm (hs.t (by decide) (by decide)) (hs.t (by decide) (by decide)) (hs.t (by decide) (by decide)) fun i hi => ?_
  have := h.k1 hi
  unfold K1 at this ⊢
  rw [hs.sm.nR, hs.k (by omega), hs.k (by omega), hs.k (by omega), hs.k (by omega), hs.k (by omega), hs.k (by omega)]
  exact this
theorem ok_hls (h : Ok N) : Ok (hlsN N) := ok_hs h (hs_hls (10 * nR N)).1
theorem ok_bgw (h : Ok N) : Ok (bgwN N) := by
  unfold bgwN
  have h1 : Ok (nset N 2 0 7 (N 2 0 7 + 1)) := ok_n2 h (by decide)
  have h2 : Ok (runN wellN (nset N 2 0 7 (N 2 0 7 + 1)) (nC N)) := runN_inv (I := Ok) h1 (fun j M q => ok_n8 q (Or.inl rfl)) _
  refine ok_run h2 (fun _ _ => bgnN_ks) (fun j M hM hj => ok_bgn hM hj) _ ?_
  have k2 : Ks N (runN wellN (nset N 2 0 7 (N 2 0 7 + 1)) (nC N)) := (Ks.rfl'.n2 (by decide)).trans (runN_ks (fun _ _ => wellN_ks) _)
  rw [k2.1.nK]
  exact Nat.le_refl _
theorem ok_wek (h : Ok N) : Ok (wekN N) := by
  unfold wekN
  have h1 := ok_hls h
  have k1 : Ks N (hlsN N) := hlsN_ks
  have h2 : Ok (runN stlN (hlsN N) (nK N)) := ok_run h1 (fun _ _ => stlN_ks) (fun j M hM hj => ok_stl hM hj) _ (by rw [k1.1.nK]; exact Nat.le_refl _)
  have k2 : Ks N (runN stlN (hlsN N) (nK N)) := k1.trans (runN_ks (fun _ _ => stlN_ks) _)
  have h3 := ok_bgw h2
  have k3 : Ks N (bgwN (runN stlN (hlsN N) (nK N))) := k2.trans bgwN_ks
  have h4 : Ok (runN mvgN (bgwN (runN stlN (hlsN N) (nK N))) (nK N)) := ok_run h3 (fun _ _ => mvgN_ks) (fun j M hM hj => ok_mvg hM hj) _ (by rw [k3.1.nK]; exact Nat.le_refl _)
  have k4 := k3.trans (runN_ks (fun _ _ => mvgN_ks) (nK N) (f := mvgN) (N := bgwN (runN stlN (hlsN N) (nK N))))
  exact ok_run h4 (fun _ _ => drpN_ks) (fun j M hM hj => ok_drp hM hj) _ (by rw [k4.1.nK]; exact Nat.le_refl _)
theorem a8_wek : A8 (wekN N) := by
  unfold wekN
  have k1 : Ks N (hlsN N) := hlsN_ks
  have k2 : Ks N (runN stlN (hlsN N) (nK N)) := k1.trans (runN_ks (fun _ _ => stlN_ks) _)
  generalize runN stlN (hlsN N) (nK N) = M at k2 ⊢
  have h3 : A8 (bgwN M) := by
    intro i hi
    rw [bgwN_ks.1.nK] at hi
    unfold bgwN
    have k3 : Ks M (runN wellN (nset M 2 0 7 (M 2 0 7 + 1)) (nC M)) := (Ks.rfl'.n2 (by decide)).trans (runN_ks (fun _ _ => wellN_ks) _)
    exact a8_bgn _ (by rw [k3.1.nK]; exact Nat.le_refl _) i hi
  have h4 : A8 (runN mvgN (bgwN M) (nK N)) := runN_inv (I := A8) h3 (fun j M q => a8_mvg q j) _
  exact runN_inv (I := A8) h4 (fun j M q => a8_drp q j) _
theorem pl_a8 (h : A8 N) : Pl N := fun i hi _ => h i hi
/-- sums through a week -/
theorem sums_hom (h : Sums N) {c : Nat} (hc : c < nK N) : Sums (homN N c) := by
  have hK : nK (homN N c) = nK N := homN_ks.1.nK
  have e9 : homN N c 2 0 9 = N 2 0 9 := by simp [homN, nset_ap]
  have e11 : homN N c 2 0 11 = N 2 0 11 + 1 := by simp [homN, nset_ap]
  have ep : ∀ i, homN N c 9 i 11 = N 9 i 11 := fun i => by simp [homN, nset_ap]
  unfold Sums
  rw [hK, e9, e11, sumI_congr (fun i _ => ep i), sumI_one (f := fun i => N 9 i 10) (f' := fun i => homN N c 9 i 10) (c := c) (x := 1) (by simp [homN, nset_ap]) (fun j hj => by simp [homN, nset_ap, hj]) hc, h.2]
  exact ⟨h.1, rfl⟩
theorem pc_ex {x : Int32} (h : 0 < pcI x) : ∃ j, j < 32 ∧ Has x (nI j) := by
  rw [pcI_cnt] at h
  by_cases q : ∃ j, j < 32 ∧ Has x (nI j)
  · exact q
  · rw [cnt_0 (fun j hj z => q ⟨j, hj, z⟩)] at h
    omega
theorem sums_stay : ∀ d (x : Int32) {N : Nu}, Wi N → (∀ j, j < 32 → Has x (nI j) → j < nK N) → d ≤ pcI x → Sums N → Sums (stayN d x N)
  | 0, _, _, _, _, _, h => h
  | d + 1, x, N, hW, hx, hd, h => by
    unfold stayN
    obtain ⟨j, hj, hh⟩ := pc_ex (x := x) (by omega)
    obtain ⟨c1, c2, c3⟩ := nsh_ok hW.1 hW.2.2 ⟨j, hx j hj hh, hh⟩
    have h24 := hW.1.2.2.2
    have hp := pcI_drop (x := x) (c := nshN N x) (by omega) c3
    refine sums_stay d _ (homN_ks.wi hW) (fun i hi q => ?_) (by omega) (sums_hom h c1)
    rw [homN_ks.1.nK]
    exact hx i hi ((has_drop (by omega) hi).mp q).1
theorem sums_bok (h : Sums N) (x : Int32) {i : Nat} (hi : i < nK N) : Sums (bokN x i N) := by
  unfold bokN
  split
  · split
    · refine sums_of h ((Sm.rfl'.nt (by decide)).n2 (by decide)) (by simp [nset_ap]) (by simp [nset_ap]) (fun j _ => by simp [nset_ap]) (fun j _ => by simp [nset_ap])
    · generalize feeF N i = y
      have hs : Sm N (nset (nset (nset N 9 i 9 (N 9 i 9 + 1)) 9 i 11 (N 9 i 11 + y)) 2 0 9 (N 2 0 9 + y)) := ((Sm.rfl'.nt (by decide)).nt (by decide)).n2 (by decide)
      unfold Sums
      rw [hs.nK, sumI_one (f := fun j => N 9 j 11) (f' := fun j => nset (nset (nset N 9 i 9 (N 9 i 9 + 1)) 9 i 11 (N 9 i 11 + y)) 2 0 9 (N 2 0 9 + y) 9 j 11) (c := i) (x := y) (by simp [nset_ap]) (fun j hj => by simp [nset_ap, hj]) hi, h.1, sumI_congr (f' := fun j => N 9 j 10) (fun j _ => by simp [nset_ap]), h.2]
      exact ⟨by simp [nset_ap], by simp [nset_ap]⟩
  · exact h
theorem com_lt {r s : Int32} (h24 : nK N ≤ 24) : ∀ j, j < 32 → Has (comF N r s) (nI j) → j < nK N := fun j hj q => ((has_setI (by omega) hj).mp q).1
theorem sums_hld (h : Sums N) (hW : Wi N) (r s : Nat) : Sums (hldN N r s) := by
  unfold hldN
  have h24 := hW.1.2.2.2
  have h1 : Sums (stayN (tooN N r s) (comF N (nI r) (nI s)) N) := sums_stay _ _ hW (com_lt h24) (by unfold tooN; omega) h
  have k1 : Sm N (stayN (tooN N r s) (comF N (nI r) (nI s)) N) := (stayN_ks _ _).1
  generalize stayX N (tooN N r s) (comF N (nI r) (nI s)) = x
  generalize stayN (tooN N r s) (comF N (nI r) (nI s)) N = M at h1 k1 ⊢
  have key : ∀ j, j ≤ nK N → Sums (runN (bokN x) M j) := by
    intro j
    induction j with
    | zero => exact fun _ => h1
    | succ j ih =>
      intro hj
      refine sums_bok (ih (by omega)) x ?_
      have k2 : Sm M (runN (bokN x) M j) := (runN_ks (fun _ _ => bokN_ks) j).1
      rw [k2.nK, k1.nK]
      omega
  exact key _ (Nat.le_refl _)
theorem sums_hls (h : Sums N) (hW : Wi N) : Sums (hlsN N) := by
  unfold hlsN
  have := runN_inv (f := fun q M => hldN M (q / 10) (q % 10)) (N := N) (I := fun M => Sums M ∧ Wi M) ⟨h, hW⟩ (fun j M q => ⟨sums_hld q.1 q.2 _ _, hldN_ks.wi q.2⟩) (10 * nR N)
  exact this.1
/-- the cells of the sums, and of the weeks of waiting, behind the sessions of a week -/
def Kp (N M : Nu) : Prop := Sm N M ∧ M 2 0 9 = N 2 0 9 ∧ M 2 0 11 = N 2 0 11 ∧ ∀ i, M 9 i 10 = N 9 i 10 ∧ M 9 i 11 = N 9 i 11
theorem Kp.rfl' : Kp N N := ⟨Sm.rfl', rfl, rfl, fun _ => ⟨rfl, rfl⟩⟩
theorem Kp.trans {L : Nu} (h : Kp N M) (h2 : Kp M L) : Kp N L := ⟨h.1.trans h2.1, h2.2.1.trans h.2.1, h2.2.2.1.trans h.2.2.1, fun i => ⟨(h2.2.2.2 i).1.trans (h.2.2.2 i).1, (h2.2.2.2 i).2.trans (h.2.2.2 i).2⟩⟩
theorem Kp.run {f : Nat → Nu → Nu} (hf : ∀ j M, Kp M (f j M)) (j : Nat) : Kp N (runN f N j) := runN_inv (I := Kp N) Kp.rfl' (fun j M q => q.trans (hf j M)) j
theorem Kp.n9 {i j : Nat} {x : Int32} (hj : ¬ (j = 10 ∨ j = 11)) : Kp N (nset N 9 i j x) := ⟨Sm.rfl'.nt (by decide), ns_t (by decide), ns_t (by decide), fun a => ⟨ns_j (by omega), ns_j (by omega)⟩⟩
theorem Kp.n8 {i j : Nat} {x : Int32} : Kp N (nset N 8 i j x) := ⟨Sm.rfl'.nt (by decide), ns_t (by decide), ns_t (by decide), fun a => ⟨ns_t (by decide), ns_t (by decide)⟩⟩
theorem kp_qit {j : Nat} {s : Int32} : Kp N (qitN N j s) := ((((Kp.n9 (by decide)).trans (Kp.n9 (by decide))).trans (Kp.n9 (by decide))).trans (Kp.n9 (by decide))).trans (Kp.n9 (by decide))
theorem kp_wait {j : Nat} {w : Int32} : Kp N (waitN N j w) := (kp_qit.trans (Kp.n9 (by decide))).trans (Kp.n9 (by decide))
theorem kp_stl {j : Nat} : Kp N (stlN j N) := by
  unfold stlN
  split
  · exact Kp.n9 (by decide)
  · exact Kp.rfl'
theorem kp_bgn {j : Nat} : Kp N (bgnN j N) := by
  unfold bgnN
  split
  · exact (Kp.n9 (by decide)).trans (Kp.n9 (by decide))
  · exact Kp.n9 (by decide)
theorem kp_mvg {j : Nat} : Kp N (mvgN j N) := by
  unfold mvgN movN
  split
  · split
    · split
      · exact kp_wait
      · exact (Kp.n9 (by decide)).trans (Kp.n9 (by decide))
    · exact kp_qit
  · exact Kp.rfl'
theorem kp_drp {j : Nat} : Kp N (drpN j N) := by
  unfold drpN
  split
  · exact kp_qit
  · exact Kp.rfl'
theorem kp_bgw : Kp N (bgwN N) := by
  have h1 : Kp N (nset N 2 0 7 (N 2 0 7 + 1)) := ⟨Sm.rfl'.n2 (by decide), ns_j (by decide), ns_j (by decide), fun i => ⟨ns_t (by decide), ns_t (by decide)⟩⟩
  exact (h1.trans (Kp.run (fun _ _ => Kp.n8) _)).trans (Kp.run (fun _ _ => kp_bgn) _)
theorem kp_wek : Kp (hlsN N) (wekN N) := (((Kp.run (fun _ _ => kp_stl) _).trans kp_bgw).trans (Kp.run (fun _ _ => kp_mvg) _)).trans (Kp.run (fun _ _ => kp_drp) _)
theorem sums_wek (h : Sums N) (hW : Wi N) : Sums (wekN N) := by
  have k := kp_wek (N := N)
  exact sums_of (sums_hls h hW) k.1 k.2.1 k.2.2.1 (fun i _ => (k.2.2.2 i).2) (fun i _ => (k.2.2.2 i).1)
/-- who waits since when -/
def Kw (N M : Nu) : Prop := Sm N M ∧ M 2 0 7 = N 2 0 7 ∧ ∀ i, M 9 i 12 = N 9 i 12
theorem Kw.rfl' : Kw N N := ⟨Sm.rfl', rfl, fun _ => rfl⟩
theorem Kw.trans {L : Nu} (h : Kw N M) (h2 : Kw M L) : Kw N L := ⟨h.1.trans h2.1, h2.2.1.trans h.2.1, fun i => (h2.2.2 i).trans (h.2.2 i)⟩
theorem Kw.run {f : Nat → Nu → Nu} (hf : ∀ j M, Kw M (f j M)) (j : Nat) : Kw N (runN f N j) := runN_inv (I := Kw N) Kw.rfl' (fun j M q => q.trans (hf j M)) j
theorem Kw.n9 {i j : Nat} {x : Int32} (hj : ¬ j = 12) : Kw N (nset N 9 i j x) := ⟨Sm.rfl'.nt (by decide), ns_t (by decide), fun a => ns_j (fun q => hj q.symm)⟩
theorem kw_qit {j : Nat} {s : Int32} : Kw N (qitN N j s) := ((((Kw.n9 (by decide)).trans (Kw.n9 (by decide))).trans (Kw.n9 (by decide))).trans (Kw.n9 (by decide))).trans (Kw.n9 (by decide))
theorem kw_hls : Kw N (hlsN N) := ⟨hlsN_ks.1, (hs_hls (10 * nR N)).1 2 0 7 (nd2 (by decide)), fun i => (hs_hls (10 * nR N)).1 9 i 12 (nd9 (by decide))⟩
theorem kw_stl {j : Nat} : Kw N (stlN j N) := by
  unfold stlN
  split
  · exact Kw.n9 (by decide)
  · exact Kw.rfl'
theorem kw_bgn {j : Nat} : Kw N (bgnN j N) := by
  unfold bgnN
  split
  · exact (Kw.n9 (by decide)).trans (Kw.n9 (by decide))
  · exact Kw.n9 (by decide)
theorem kw_drp {j : Nat} : Kw N (drpN j N) := by
  unfold drpN
  split
  · exact kw_qit
  · exact Kw.rfl'
theorem kw_bgw : Sm N (bgwN N) ∧ bgwN N 2 0 7 = N 2 0 7 + 1 ∧ ∀ i, bgwN N 9 i 12 = N 9 i 12 := by
  have h1 : Kw (nset N 2 0 7 (N 2 0 7 + 1)) (bgwN N) := by
    unfold bgwN
    exact (Kw.run (fun _ _ => ⟨Sm.rfl'.nt (by decide), ns_t (by decide), fun a => ns_t (by decide)⟩) _).trans (Kw.run (fun _ _ => kw_bgn) _)
  refine ⟨(Sm.rfl'.n2 (by decide)).trans h1.1, h1.2.1.trans ns_s, fun i => (h1.2.2 i).trans (ns_t (by decide))⟩
theorem snc_mvg (h : Snc N) (j : Nat) : Snc (mvgN j N) := by
  have kq : ∀ s, Snc (qitN N j s) := fun s => snc_of h kw_qit.1 kw_qit.2.1 (fun i _ => kw_qit.2.2 i)
  unfold mvgN movN
  split
  · split
    · split
      · intro i hi
        rw [waitN_ks.1.nK] at hi
        have e7 : waitN N j (N 2 0 7) 2 0 7 = N 2 0 7 := by simp [waitN, qitN, nset_ap]
        rw [e7]
        by_cases e : i = j
        · subst e
          have : waitN N i (N 2 0 7) 9 i 12 = N 2 0 7 := by simp [waitN, nset_ap]
          rw [this]
          exact fun q => Int32.lt_irrefl q
        · have : waitN N j (N 2 0 7) 9 i 12 = N 9 i 12 := by simp [waitN, qitN, nset_ap, e]
          rw [this]
          exact h i hi
      · exact snc_of h ((Kw.n9 (by decide)).trans (Kw.n9 (by decide))).1 ((Kw.n9 (by decide)).trans (Kw.n9 (by decide))).2.1 (fun i _ => ((Kw.n9 (by decide)).trans (Kw.n9 (by decide))).2.2 i)
    · exact kq 2
  · exact h
theorem snc_drp (h : Snc N) (j : Nat) : Snc (drpN j N) := snc_of h kw_drp.1 kw_drp.2.1 (fun i _ => kw_drp.2.2 i)
theorem snc_wek (h : Snc N) (hT : Tm b N) (hb : b < 2 ^ 29) : Snc (wekN N) := by
  obtain ⟨p, w, -, hw, -, h7⟩ := hT
  unfold wekN
  have k2 : Kw N (runN stlN (hlsN N) (nK N)) := kw_hls.trans (Kw.run (fun _ _ => kw_stl) _)
  have s2 : Snc (runN stlN (hlsN N) (nK N)) := snc_of h k2.1 k2.2.1 (fun i _ => k2.2.2 i)
  have t2 : runN stlN (hlsN N) (nK N) 2 0 7 = nI w := k2.2.1.trans h7
  generalize runN stlN (hlsN N) (nK N) = M at s2 t2
  have k3 := kw_bgw (N := M)
  have s3 : Snc (bgwN M) := by
    intro i hi
    rw [k3.1.nK] at hi
    have h1 := s2 i hi
    rw [k3.2.1, k3.2.2 i, t2, nI_1]
    rw [t2] at h1
    rw [Int32.lt_iff_toInt_lt, nI_toInt (by omega)] at h1 ⊢
    omega
  have s4 : Snc (runN mvgN (bgwN M) (nK N)) := runN_inv (I := Snc) s3 (fun j L q => snc_mvg q j) _
  exact runN_inv (I := Snc) s4 (fun j L q => snc_drp q j) _
theorem gd_wek (h : Gd b N) (hb : b < 2 ^ 28) : Gd (b + 1) (wekN N) := by
  obtain ⟨h1, h2, h3, h4, h5⟩ := h
  obtain ⟨p, w, hp, hw, q8, q7⟩ := id h3
  refine ⟨ok_wek h1, pl_a8 a8_wek, ⟨p, w + 1, by omega, by omega, wek_78.2.trans q8, ?_⟩, sums_wek h4 (wi_ok h1), snc_wek h5 h3 (by omega)⟩
  rw [wek_78.1, q7, nI_1]
theorem gd_weks (h : Gd b N) : ∀ w, b + w < 2 ^ 28 → Gd (b + w) (runN (fun _ => wekN) N w)
  | 0, _ => h
  | w + 1, hw => gd_wek (b := b + w) (gd_weks h w (by omega)) (by omega)
theorem weks_pos (h : Gd b N) {w : Nat} (hw : b + w < 2 ^ 28) : ¬ runN (fun _ => wekN) N w 2 0 7 < 0 := by
  obtain ⟨p, w', hp, hw', q8, q7⟩ := h.2.2.1
  rw [(weks_78 w).1, q7, nI_add]
  exact nI_pos (by omega)
end GOOD
