/-! A WEEK OF THE REFERENCE: its methods -/
section RW
variable {g : Wg} {m : Mm} {v T H : Nat → Int32} {P : Int32 → Mm → Prop} {PV : Mm → Prop} {N : Nu}
theorem S_Md_pays {c : Nat} (hR : RelR N v) (hO : Ok N) (hc : c < nK N) (hp : ∀ v', RelR (payN T H c N) v' → PV (wv (th m T H) v')) : RunV g h_Md_pays [vO 17 0 0, vI (nI c)] (wv (th m T H) v) PV := by
  have hB := hO.1.1
  have h24 := hB.2.2.2
  have hc24 : c < 24 := by omega
  have e := nI_clamp (n := c) (by omega)
  have hin := vp_in_nI (n := c) (N := 24) (by omega) (by omega)
  refine RunV.ofGo rfl rfl (b_Md_pays_0 ⟨hin, ?_⟩)
  rw [e, th_6]
  refine S_Md_ones (S_Md_priceFor hR hO hc (S_Md_of (c := c) (j := 9) hc24 (by decide) ?_))
  rw [show nI (pcI (T c &&& 1023)) = c9F T c from rfl, hR.k (j := 9) hB hc (by decide) (fun q => absurd q (by decide))]
  refine S_Md_put3 (c := c) (j := 9) hc24 (by decide) ?_
  have r1 := hR.k9 hc24 (j := 9) (by decide) (by decide) (N 9 c 9 + c9F T c)
  have o1 : Ok (nset N 9 c 9 (N 9 c 9 + c9F T c)) := ok_irr hO (by decide)
  have k1 : nK (nset N 9 c 9 (N 9 c 9 + c9F T c)) = nK N := (Sm.rfl'.nt (by decide) : Sm N _).nK
  refine S_Md_of (c := c) (j := 11) hc24 (by decide) ?_
  rw [r1.k (j := 11) o1.1.1 (by rw [k1]; exact hc) (by decide) (fun q => absurd q (by decide)), ns_j (show ¬ 11 = 9 by decide)]
  refine S_Md_put3 (c := c) (j := 11) hc24 (by decide) ⟨vp_in_nI (n := 9) (by decide) (by decide), vp_in_nI (n := 9) (by decide) (by decide), ?_⟩
  have r2 := r1.k9 hc24 (j := 11) (by decide) (by decide) (N 9 c 11 + c9F T c * feeF N c)
  have o2 := ok_irr o1 (c := c) (j := 11) (x := N 9 c 11 + c9F T c * feeF N c) (by decide)
  rw [wv_at, r2.v9, ns_t (show ¬ (2 : Fin 10) = 9 by decide), ns_t (show ¬ (2 : Fin 10) = 9 by decide), mv]
  have r3 := r2.n2 (j := 9) (by decide) (by decide) (N 2 0 9 + c9F T c * feeF N c)
  have o3 := ok_n2 o2 (j := 9) (x := N 2 0 9 + c9F T c * feeF N c) (by decide)
  have k3 : nK (nset (nset (nset N 9 c 9 (N 9 c 9 + c9F T c)) 9 c 11 (N 9 c 11 + c9F T c * feeF N c)) 2 0 9 (N 2 0 9 + c9F T c * feeF N c)) = nK N := (((Sm.rfl'.nt (by decide)).nt (by decide)).n2 (by decide) : Sm N _).nK
  have q3 := r3.k (i := c) (j := 10) o3.1.1 (by rw [k3]; exact hc) (by decide) (fun q => absurd q (by decide))
  rw [ns_t (show ¬ (9 : Fin 10) = 2 by decide), ns_j (show ¬ 10 = 11 by decide), ns_j (show ¬ 10 = 9 by decide)] at q3
  refine S_Md_of (c := c) (j := 10) hc24 (by decide) ⟨hin, ?_⟩
  rw [th_7]
  rw [show (upd (upd (upd v (93 + 14 * c + 9) (N 9 c 9 + c9F T c)) (93 + 14 * c + 11) (N 9 c 11 + c9F T c * feeF N c)) 9 (N 2 0 9 + c9F T c * feeF N c)) (93 + 14 * c + 10) = N 9 c 10 from q3]
  refine S_Md_put3 (c := c) (j := 10) hc24 (by decide) ⟨vp_in_nI (n := 11) (by decide) (by decide), hin, vp_in_nI (n := 11) (by decide) (by decide), qv ?_⟩
  rw [th_7, wv_at]
  have r4 := r3.k9 hc24 (j := 10) (by decide) (by decide) (N 9 c 10 + H c)
  have q4 := r4.v11
  rw [ns_t (show ¬ (2 : Fin 10) = 9 by decide), ns_j (show ¬ 11 = 9 by decide), ns_t (show ¬ (2 : Fin 10) = 9 by decide), ns_t (show ¬ (2 : Fin 10) = 9 by decide)] at q4
  rw [show upd (upd (upd (upd v (93 + 14 * c + 9) (N 9 c 9 + c9F T c)) (93 + 14 * c + 11) (N 9 c 11 + c9F T c * feeF N c)) 9 (N 2 0 9 + c9F T c * feeF N c)) (93 + 14 * c + 10) (N 9 c 10 + H c) 11 = N 2 0 11 from q4, mv]
  exact hp _ (r4.n2 (j := 11) (by decide) (by decide) (N 2 0 11 + H c))
theorem S_Md_settles {c : Nat} (hR : RelR N v) (hO : Ok N) (hc : c < nK N) (hp : ∀ v', RelR (svN T c N) v' → PV (wv (th m T H) v')) : RunV g h_Md_settles [vO 17 0 0, vI (nI c)] (wv (th m T H) v) PV := by
  have hB := hO.1.1
  have h24 := hB.2.2.2
  have hc24 : c < 24 := by omega
  have e := nI_clamp (n := c) (by omega)
  have hin := vp_in_nI (n := c) (N := 24) (by omega) (by omega)
  refine RunV.ofGo rfl rfl (b_Md_settles_0 ⟨hin, ?_⟩)
  rw [e, th_6]
  refine S_Md_of (c := c) (j := 7) hc24 (by decide) ?_
  rw [show T c >>> (10 &&& 31) = c7F T c from rfl, hR.k (j := 7) hB hc (by decide) (fun q => absurd q (by decide))]
  refine S_Md_put3 (c := c) (j := 7) hc24 (by decide) ⟨vp_in_nI (n := 10) (by decide) (by decide), vp_in_nI (n := 10) (by decide) (by decide), ?_⟩
  have r1 := hR.k9 hc24 (j := 7) (by decide) (by decide) (N 9 c 7 + c7F T c)
  rw [wv_at, r1.v10, ns_t (show ¬ (2 : Fin 10) = 9 by decide), mv]
  have r2 : RelR (visN T c N) _ := r1.n2 (j := 10) (by decide) (by decide) (N 2 0 10 + c7F T c)
  have o2 : Ok (visN T c N) := ok_vis hO
  have k2 : nK (visN T c N) = nK N := visN_sm.1.nK
  have q3 := r2.k (i := c) (j := 3) o2.1.1 (by rw [k2]; exact hc) (by decide) (fun q => absurd q (by decide))
  have q7 := r2.k (i := c) (j := 7) o2.1.1 (by rw [k2]; exact hc) (by decide) (fun q => absurd q (by decide))
  have qs := r2.s (j := 3) (by decide)
  have hix : ixF 2 0 10 = 10 := rfl
  rw [hix] at r2 q3 q7 qs
  refine S_Md_of (c := c) (j := 3) hc24 (by decide) ?_
  rw [q3]
  unfold svN stlN at hp
  refine ⟨fun a => qv ?_, fun a => S_Md_of (c := c) (j := 7) hc24 (by decide) ⟨vp_in_nI (n := 3) (by decide) (by decide), ?_⟩⟩
  · rw [if_neg (fun q => a q.1)] at hp
    exact hp _ r2
  · rw [q7, wv_at, qs]
    refine ⟨fun b => qv ?_, fun b => S_Md_put3 (c := c) (j := 6) hc24 (by decide) (qv ?_)⟩
    · rw [if_neg (fun q => q.2 b)] at hp
      exact hp _ r2
    · rw [if_pos ⟨a, b⟩] at hp
      exact hp _ (r2.k9 hc24 (j := 6) (by decide) (by decide) 1)
theorem S_Md_moves {c : Nat} (hR : RelR N v) (hO : Ok N) (hc : c < nK N) (hp : ∀ v', RelR (mvgN c N) v' → PV (wv m v')) : RunV g h_Md_moves [vO 17 0 0, vI (nI c)] (wv m v) PV := by
  have hB := hO.1.1
  have h24 := hB.2.2.2
  have h5 := hB.1.2
  have hc24 : c < 24 := by omega
  refine RunV.ofGo rfl rfl (b_Md_moves_0 (S_Md_of (c := c) (j := 0) hc24 (by decide) (S_Md_of (c := c) (j := 4) hc24 (by decide) (S_Md_of (c := c) (j := 3) hc24 (by decide) ?_))))
  rw [hR.k (j := 0) hB hc (by decide) (fun q => absurd q (by decide)), hR.k (j := 3) hB hc (by decide) (fun q => absurd q (by decide))]
  unfold mvgN at hp
  refine ⟨fun a => qv ?_, fun a => ?_⟩
  · rw [if_neg (fun q => by rw [((hO.2.1 c hc).2 a).1] at q; exact absurd (by decide) q.1.1)] at hp
    exact hp v hR
  obtain ⟨r, hr, er⟩ := (hO.2.1 c hc).1 a
  have i0 : (13 + (4 * nI r) : Int32) = nI (13 + 4 * r + 0) := ix2 13 4 r
  have i1 : ((13 + (4 * nI r)) + 1 : Int32) = nI (13 + 4 * r + 1) := ix3 13 4 r 1
  rw [hR.k (j := 4) hB hc (by decide) (fun _ => a), er, i1, i0, nI_clamp (n := 13 + 4 * r + 0) (by omega), nI_clamp (n := 13 + 4 * r + 1) (by omega), wv_at, hR.r (i := r) (j := 0) hB hr (by decide), hR.r (i := r) (j := 1) hB hr (by decide)]
  refine ⟨vp_in_nI (by omega) (by omega), vp_in_nI (by omega) (by omega), S_Md_in ?_⟩
  simp only [b2i_eq0, Decidable.not_not]
  rw [sub1_lt (hO.2.2.2.1.2 r hr)]
  have erm : rmN N c = r := by show (N 9 c 4).toNatClampNeg = r; rw [er, nI_clamp (by omega)]
  have hrm : (¬ N 9 c 4 < 0 ∧ ¬ N 2 0 4 ≤ N 9 c 4) := by
    rw [er, hB.1.1]
    exact ⟨nI_pos (by omega), nI_ge hr (by omega)⟩
  rw [erm] at hp
  refine ⟨fun b => ?_, fun b => qv ?_⟩
  rotate_left
  · rw [if_neg (fun q => q.2 b)] at hp
    exact hp v hR
  rw [if_pos ⟨hrm, b⟩] at hp
  refine S_Md_roomOf hR hO ?_
  unfold movN at hp
  unfold roomV
  by_cases hr2 : roomN N (N 9 c 0) < nR N
  · rw [if_pos hr2]
    rw [if_pos hr2] at hp
    have hpos : (0 : Int32) ≤ nI (roomN N (N 9 c 0)) := nI_pos' (by omega)
    refine ⟨fun _ => S_Md_of (c := c) (j := 5) hc24 (by decide) ?_, fun q => absurd hpos q⟩
    rw [hR.k (j := 5) hB hc (by decide) (fun q => absurd q (by decide))]
    refine S_Md_freeOf hR hO hr2 ⟨fun _ => S_Md_ones ⟨vp_in_nI (n := 2) (by decide) (by decide), ?_⟩, fun q => absurd hpos q⟩
    rw [wv_at, hR.s (j := 2) (by decide)]
    refine ⟨fun d => S_Md_becomes hc24 (S_Md_put3 (c := c) (j := 7) hc24 (by decide) ⟨vp_in_nI (n := 5) (by decide) (by decide), S_Md_put3 (c := c) (j := 12) hc24 (by decide) (qv ?_)⟩), fun d => S_Md_put3 (c := c) (j := 4) hc24 (by decide) (S_Md_put3 (c := c) (j := 5) hc24 (by decide) (qv ?_))⟩
    · rw [if_pos d] at hp
      have r1 := (hR.qit hc24 (s := 0) (by decide)).k9 hc24 (j := 7) (by decide) (by decide) 0
      have q5 := r1.v5
      have e5 : nset (qitN N c 0) 9 c 7 0 2 0 7 = N 2 0 7 := by simp [qitN, nset_ap]
      rw [e5] at q5
      rw [wv_at, q5]
      exact hp _ (r1.k9 hc24 (j := 12) (by decide) (by decide) (N 2 0 7))
    · rw [if_neg d] at hp
      exact hp _ ((hR.k9 hc24 (j := 4) (by decide) (by decide) _).k9 hc24 (j := 5) (by decide) (by decide) _)
  · rw [if_neg hr2]
    rw [if_neg hr2] at hp
    have hneg : ¬ (0 : Int32) ≤ -1 := by decide
    exact ⟨fun q => absurd q hneg, fun _ => ⟨fun q => absurd q hneg, fun _ => S_Md_becomes hc24 (qv (hp _ (hR.qit hc24 (s := 2) (by decide))))⟩⟩
def A8 (N : Nu) : Prop := ∀ i, i < nK N → N 9 i 8 = -6
theorem a8_mvg {N : Nu} (h : A8 N) (c : Nat) : A8 (mvgN c N) := by
  intro i hi
  rw [mvgN_ks.1.nK] at hi
  have h8 := h i hi
  unfold mvgN movN
  split
  · split
    · split
      · simp [waitN, qitN, nset_ap, h8]
      · simp [nset_ap, h8]
    · simp [qitN, nset_ap, h8]
  · exact h8
theorem a8_drp {N : Nu} (h : A8 N) (c : Nat) : A8 (drpN c N) := by
  intro i hi
  rw [drpN_ks.1.nK] at hi
  have h8 := h i hi
  unfold drpN
  split
  · simp [qitN, nset_ap, h8]
  · exact h8
theorem a8_well {N : Nu} (h : A8 N) (c : Nat) : A8 (wellN c N) := by
  intro i hi
  rw [wellN_ks.1.nK] at hi
  unfold wellN
  rw [ns_t (by decide)]
  exact h i hi
theorem a8_bgn {N : Nu} : ∀ j, j ≤ nK N → ∀ i, i < j → runN bgnN N j 9 i 8 = -6
  | 0, _, i, hi => by omega
  | j + 1, hj, i, hi => by
    have ih := a8_bgn (N := N) j (by omega) i
    show bgnN j (runN bgnN N j) 9 i 8 = -6
    generalize runN bgnN N j = L at *
    have e : bgnN j L 9 i 8 = if i = j then -6 else L 9 i 8 := by
      unfold bgnN
      split <;> simp [nset_ap]
    rw [e]
    split
    · rfl
    · exact ih (by omega)
theorem bgw_alt (N : Nu) : bgwN N = runN wellN (runN bgnN (nset N 2 0 7 (N 2 0 7 + 1)) (nK N)) (nC N) := by
  unfold bgwN
  exact (runN_comm well_bgn _ _ _).symm
theorem ns_id {N : Nu} {t : Fin 10} {i j : Nat} : nset N t i j (N t i j) = N := by
  funext a b c
  rw [nset_ap]
  split
  · rename_i h; rw [h.1, h.2.1, h.2.2]
  · rfl
theorem S_Md_oneWeek (hR : RelR N v) (hO : Ok N) (hPl : Pl N) (hp : ∀ v' T' H', RelR (wekN N) v' → Ok (wekN N) → Pl (wekN N) → PV (wv (th m T' H') v')) : RunV g h_Md_oneWeek [vO 17 0 0] (wv m v) PV := by
  have h24 := hO.1.1.2.2.2
  refine RunV.ofGo rfl rfl (b_Md_oneWeek_0 (S_Md_comeAll hR hO hPl fun T H hb => ?_))
  -- the kinds of loop
  have hv8 : ∀ (L : Nu) (w : Nat → Int32), RelR L w → Ks N L → wv (th m T H) w (18, 0, 0) 8 = nI (nK N) := fun L w h1 h2 => by rw [wv_at, h1.v8, h2.1.2.2, hO.1.1.2.2.1]
  have i8 : vp_in 8 429 := vp_in_nI (n := 8) (by decide) (by decide)
  have i5 : vp_in 5 429 := vp_in_nI (n := 5) (by decide) (by decide)
  -- the last one
  have l6 : ∀ L w, RelR L w → Ok L → Ks N L → A8 L → (∀ v', RelR (runN drpN L (nK N)) v' → Ok (runN drpN L (nK N)) → A8 (runN drpN L (nK N)) → PV (wv (th m T H) v')) → Go g h_Md_oneWeek (QV PV) 188 [(0, vO 17 0 0), (1, vI 0)] [] (wv (th m T H) w) := by
    intro L w hr ho hk h8 hp
    refine loopN (G := fun j => ∀ w, RelR (runN drpN L j) w → Ok (runN drpN L j) → Go g h_Md_oneWeek (QV PV) 188 [(0, vO 17 0 0), (1, vI (nI j))] [] (wv (th m T H) w)) (nK N) ?_ ?_ 0 (Nat.zero_le _) w hr ho
    · intro w hr ho
      exact b_Md_oneWeek_188 ⟨i8, fun _ => qv (hp w hr ho (runN_inv (I := A8) h8 (fun j M q => a8_drp q j) _)), fun h => absurd (by rw [hv8 _ _ hr (hk.trans (runN_ks (fun _ _ => drpN_ks) _))]; exact le_self _) h⟩
    · intro j hj ih w hr ho
      have hk2 : Ks N (runN drpN L j) := hk.trans (runN_ks (fun _ _ => drpN_ks) j)
      rw [show runN drpN L (j + 1) = drpN j (runN drpN L j) from rfl] at ih
      generalize runN drpN L j = M at *
      have hjm : j < nK M := by rw [hk2.1.nK]; exact hj
      have hod := ok_drp ho hjm
      refine b_Md_oneWeek_188 ⟨i8, fun h => absurd h (by rw [hv8 _ _ hr hk2]; exact nI_ge hj (by omega)), fun _ => S_Md_of (c := j) (j := 3) (by omega) (by decide) ?_⟩
      rw [hr.k (j := 3) ho.1.1 hjm (by decide) (fun q => absurd q (by decide)), nI_1]
      unfold drpN at ih hod
      refine ⟨fun a => ?_, fun a => ⟨i5, S_Md_of (c := j) (j := 12) (by omega) (by decide) ⟨vp_in_nI (n := 4) (by decide) (by decide), ?_⟩⟩⟩
      · rw [if_neg (fun q => a q.1)] at ih
        exact ih w hr ho
      · rw [hr.k (j := 12) ho.1.1 hjm (by decide) (fun q => absurd q (by decide)), wv_at, hr.v5, hr.s (j := 4) (by decide)]
        refine ⟨fun b => ?_, fun b => S_Md_becomes (by omega) ?_⟩
        · rw [if_neg (fun q => q.2 b)] at ih
          exact ih w hr ho
        · rw [if_pos ⟨a, b⟩] at ih hod
          exact ih _ (hr.qit (by omega) (by decide)) hod
  have l5 : ∀ L w, RelR L w → Ok L → Ks N L → A8 L → (∀ v', RelR (runN drpN (runN mvgN L (nK N)) (nK N)) v' → Ok (runN drpN (runN mvgN L (nK N)) (nK N)) → A8 (runN drpN (runN mvgN L (nK N)) (nK N)) → PV (wv (th m T H) v')) → Go g h_Md_oneWeek (QV PV) 164 [(0, vO 17 0 0), (1, vI 0)] [] (wv (th m T H) w) := by
    intro L w hr ho hk h8 hp
    refine loopN (G := fun j => ∀ w, RelR (runN mvgN L j) w → Ok (runN mvgN L j) → Go g h_Md_oneWeek (QV PV) 164 [(0, vO 17 0 0), (1, vI (nI j))] [] (wv (th m T H) w)) (nK N) ?_ ?_ 0 (Nat.zero_le _) w hr ho
    · intro w hr ho
      have hk2 : Ks N (runN mvgN L (nK N)) := hk.trans (runN_ks (fun _ _ => mvgN_ks) _)
      exact b_Md_oneWeek_164 ⟨i8, fun _ => l6 _ _ hr ho hk2 (runN_inv (I := A8) h8 (fun j M q => a8_mvg q j) _) hp, fun h => absurd (by rw [hv8 _ _ hr hk2]; exact le_self _) h⟩
    · intro j hj ih w hr ho
      have hk2 : Ks N (runN mvgN L j) := hk.trans (runN_ks (fun _ _ => mvgN_ks) j)
      rw [show runN mvgN L (j + 1) = mvgN j (runN mvgN L j) from rfl] at ih
      generalize runN mvgN L j = M at *
      have hjm : j < nK M := by rw [hk2.1.nK]; exact hj
      refine b_Md_oneWeek_164 ⟨i8, fun h => absurd h (by rw [hv8 _ _ hr hk2]; exact nI_ge hj (by omega)), fun _ => S_Md_moves hr ho hjm fun v' hv' => ?_⟩
      rw [nI_1]
      exact ih v' hv' (ok_mvg ho hjm)
  have l4 : ∀ L w, RelR L w → Ok L → Ks N L → A8 L → (∀ v', RelR (runN drpN (runN mvgN (runN wellN L (nC N)) (nK N)) (nK N)) v' → Ok (runN drpN (runN mvgN (runN wellN L (nC N)) (nK N)) (nK N)) → A8 (runN drpN (runN mvgN (runN wellN L (nC N)) (nK N)) (nK N)) → PV (wv (th m T H) v')) → Go g h_Md_oneWeek (QV PV) 131 [(0, vO 17 0 0), (1, vI 0)] [] (wv (th m T H) w) := by
    intro L w hr ho hk h8 hp
    have h12 := hO.1.2
    refine loopN (G := fun j => ∀ w, RelR (runN wellN L j) w → Ok (runN wellN L j) → Go g h_Md_oneWeek (QV PV) 131 [(0, vO 17 0 0), (1, vI (nI j))] [] (wv (th m T H) w)) (nC N) ?_ ?_ 0 (Nat.zero_le _) w hr ho
    · intro w hr ho
      have hk2 : Ks N (runN wellN L (nC N)) := hk.trans (runN_ks (fun _ _ => wellN_ks) _)
      exact b_Md_oneWeek_131 ⟨vp_in_nI (n := 7) (by decide) (by decide), fun _ => l5 _ _ hr ho hk2 (runN_inv (I := A8) h8 (fun j M q => a8_well q j) _) hp, fun h => absurd (by rw [wv_at, hr.v7, hk2.1.2.1, hO.1.1.2.1.1]; exact le_self _) h⟩
    · intro j hj ih w hr ho
      have hk2 : Ks N (runN wellN L j) := hk.trans (runN_ks (fun _ _ => wellN_ks) j)
      rw [show runN wellN L (j + 1) = wellN j (runN wellN L j) from rfl] at ih
      generalize runN wellN L j = M at *
      have i4 : ((33 + (5 * nI j)) + 4 : Int32) = nI (33 + 5 * j + 4) := ix3 33 5 j 4
      refine b_Md_oneWeek_131 ⟨vp_in_nI (n := 7) (by decide) (by decide), fun h => absurd h (by rw [wv_at, hr.v7, hk2.1.2.1, hO.1.1.2.1.1]; exact nI_ge hj (by omega)), fun _ => ?_⟩
      rw [i4, nI_clamp (n := 33 + 5 * j + 4) (by omega), mv, nI_1]
      exact ⟨vp_in_nI (by omega) (by omega), ih _ (RelR.set hr (t := 8) (i := j) (j := 4) (Or.inr (Or.inr (Or.inr (Or.inl ⟨rfl, by omega, by decide⟩)))) 0 (fun q => absurd q (by decide)) (fun q => absurd q.1 (by decide))) (ok_n8 ho (Or.inl rfl))⟩
  have l3 : ∀ L w, RelR L w → Ok L → Ks N L → (∀ v', RelR (runN drpN (runN mvgN (runN wellN (runN bgnN L (nK N)) (nC N)) (nK N)) (nK N)) v' → Ok (runN drpN (runN mvgN (runN wellN (runN bgnN L (nK N)) (nC N)) (nK N)) (nK N)) → A8 (runN drpN (runN mvgN (runN wellN (runN bgnN L (nK N)) (nC N)) (nK N)) (nK N)) → PV (wv (th m T H) v')) → Go g h_Md_oneWeek (QV PV) 64 [(0, vO 17 0 0), (1, vI 0)] [] (wv (th m T H) w) := by
    intro L w hr ho hk hp
    refine loopN (G := fun j => ∀ w, RelR (runN bgnN L j) w → Ok (runN bgnN L j) → Go g h_Md_oneWeek (QV PV) 64 [(0, vO 17 0 0), (1, vI (nI j))] [] (wv (th m T H) w)) (nK N) ?_ ?_ 0 (Nat.zero_le _) w hr ho
    · intro w hr ho
      have hk2 : Ks N (runN bgnN L (nK N)) := hk.trans (runN_ks (fun _ _ => bgnN_ks) _)
      refine b_Md_oneWeek_64 ⟨i8, fun _ => l4 _ _ hr ho hk2 (fun i hi => ?_) hp, fun h => absurd (by rw [hv8 _ _ hr hk2]; exact le_self _) h⟩
      exact a8_bgn (nK N) (by rw [hk.1.nK]; exact Nat.le_refl _) i (by rw [hk2.1.nK] at hi; exact hi)
    · intro j hj ih w hr ho
      have hk2 : Ks N (runN bgnN L j) := hk.trans (runN_ks (fun _ _ => bgnN_ks) j)
      rw [show runN bgnN L (j + 1) = bgnN j (runN bgnN L j) from rfl] at ih
      generalize runN bgnN L j = M at *
      have hjm : j < nK M := by rw [hk2.1.nK]; exact hj
      have hob := ok_bgn ho hjm
      have h0 := hr.k (j := 0) ho.1.1 hjm (by decide) (fun q => absurd q (by decide))
      unfold bgnN at ih hob
      have same : RelR (nset M 9 j 8 (-6)) (upd (upd w (93 + 14 * j + 0) (M 9 j 0 + 0)) (93 + 14 * j + 8) (-6)) := by
        have q := (hr.k9 (c := j) (by omega) (j := 0) (by decide) (by decide) (M 9 j 0)).k9 (c := j) (by omega) (j := 8) (by decide) (by decide) (-6)
        rw [ns_id] at q
        rw [Int32.add_zero]
        exact q
      have more : RelR (nset (nset M 9 j 8 (-6)) 9 j 0 (M 9 j 0 + 1)) (upd (upd w (93 + 14 * j + 0) (M 9 j 0 + 1)) (93 + 14 * j + 8) (-6)) := by
        rw [ns_comm (t := 9) (t' := 9) (i := j) (i' := j) (j := 8) (j' := 0) (fun q => absurd q.2.2 (by decide))]
        exact (hr.k9 (c := j) (by omega) (j := 0) (by decide) (by decide) (M 9 j 0 + 1)).k9 (c := j) (by omega) (j := 8) (by decide) (by decide) (-6)
      refine b_Md_oneWeek_64 ⟨i8, fun h => absurd h (by rw [hv8 _ _ hr hk2]; exact nI_ge hj (by omega)), fun _ => S_Md_of (c := j) (j := 0) (by omega) (by decide) ⟨i5, by decide, ?_⟩⟩
      rw [h0, wv_at, hr.v5, nI_1]
      refine ⟨fun a => S_Md_put3 (c := j) (j := 0) (by omega) (by decide) (S_Md_put3 (c := j) (j := 8) (by omega) (by decide) ?_), fun a => S_Md_of (c := j) (j := 3) (by omega) (by decide) ?_⟩
      · rw [if_neg (fun q => a q.1)] at ih hob
        exact ih _ same hob
      · rw [hr.k (j := 3) ho.1.1 hjm (by decide) (fun q => absurd q (by decide))]
        refine ⟨fun b => S_Md_put3 (c := j) (j := 0) (by omega) (by decide) (S_Md_put3 (c := j) (j := 8) (by omega) (by decide) ?_), fun b => S_Md_put3 (c := j) (j := 0) (by omega) (by decide) (S_Md_put3 (c := j) (j := 8) (by omega) (by decide) ?_)⟩
        · rw [if_neg (fun q => q.2 b)] at ih hob
          exact ih _ same hob
        · rw [if_pos ⟨a, b⟩] at ih hob
          exact ih _ more hob
  -- the first two
  refine loopN (G := fun j => ∀ w, RelR (runN (payN T H) N j) w → Ok (runN (payN T H) N j) → Go g h_Md_oneWeek (QV PV) 6 [(0, vO 17 0 0), (1, vI (nI j))] [] (wv (th m T H) w)) (nK N) ?_ ?_ 0 (Nat.zero_le _) v hR hO
  · intro w hr ho
    have hkp : Ks N (runN (payN T H) N (nK N)) := runN_ks (fun _ _ => payN_sm) _
    refine b_Md_oneWeek_6 ⟨i8, fun _ => ?_, fun h => absurd (by rw [hv8 _ _ hr hkp]; exact le_self _) h⟩
    refine loopN (G := fun j => ∀ w, RelR (runN (svN T) (runN (payN T H) N (nK N)) j) w → Ok (runN (svN T) (runN (payN T H) N (nK N)) j) → Go g h_Md_oneWeek (QV PV) 30 [(0, vO 17 0 0), (1, vI (nI j))] [] (wv (th m T H) w)) (nK N) ?_ ?_ 0 (Nat.zero_le _) w hr ho
    · intro w hr ho
      have hkv : Ks N (runN (svN T) (runN (payN T H) N (nK N)) (nK N)) := hkp.trans (runN_ks (fun _ _ => svN_ks) _)
      have hlq := week_lq hb
      have hr2 := hr.lq hlq
      have hkS : Ks N (runN stlN (hlsN N) (nK N)) := hlsN_ks.trans (runN_ks (fun _ _ => stlN_ks) _)
      have hoS : Ok (runN stlN (hlsN N) (nK N)) := by
        have hoH : Ok (hlsN N) := by
          have hH := hb.1
          refine ok_kids hO hH.sm (hH.t (by decide) (by decide)) (hH.t (by decide) (by decide)) (hH.t (by decide) (by decide)) fun i hi => ?_
          have := hO.k1 hi
          unfold K1 at this ⊢
          rw [hH.sm.nR, hH.k (by decide), hH.k (by decide), hH.k (by decide), hH.k (by decide), hH.k (by decide), hH.k (by decide)]
          exact this
        exact ok_run hoH (fun _ _ => stlN_ks) (fun j M hM hj => ok_stl hM hj) (nK N) (by rw [hlsN_ks.1.nK]; exact Nat.le_refl _)
      refine b_Md_oneWeek_30 ⟨i8, fun _ => ⟨i5, i5, ?_⟩, fun h => absurd (by rw [hv8 _ _ hr hkv]; exact le_self _) h⟩
      rw [wv_at, hr2.v5, mv]
      have hr3 := hr2.n2 (j := 7) (by decide) (by decide) (runN stlN (hlsN N) (nK N) 2 0 7 + 1)
      refine l3 _ _ hr3 (ok_n2 hoS (by decide)) (hkS.n2 (by decide)) fun v' h1 h2 h3 => ?_
      have ew : wekN N = runN drpN (runN mvgN (runN wellN (runN bgnN (nset (runN stlN (hlsN N) (nK N)) 2 0 7 (runN stlN (hlsN N) (nK N) 2 0 7 + 1)) (nK N)) (nC N)) (nK N)) (nK N) := by
        unfold wekN
        rw [bgw_alt, hkS.1.nK, hkS.1.nC]
      rw [← ew] at h1 h2 h3
      exact hp v' T H h1 h2 (fun i hi _ => h3 i hi)
    · intro j hj ih w hr ho
      have hk2 : Ks N (runN (svN T) (runN (payN T H) N (nK N)) j) := hkp.trans (runN_ks (fun _ _ => svN_ks) j)
      rw [show runN (svN T) (runN (payN T H) N (nK N)) (j + 1) = svN T j (runN (svN T) (runN (payN T H) N (nK N)) j) from rfl] at ih
      generalize runN (svN T) (runN (payN T H) N (nK N)) j = M at *
      have hjm : j < nK M := by rw [hk2.1.nK]; exact hj
      refine b_Md_oneWeek_30 ⟨i8, fun h => absurd h (by rw [hv8 _ _ hr hk2]; exact nI_ge hj (by omega)), fun _ => S_Md_settles hr ho hjm fun v' hv' => ?_⟩
      rw [nI_1]
      exact ih v' hv' (ok_stl (ok_vis ho) (by rw [visN_sm.1.nK]; exact hjm))
  · intro j hj ih w hr ho
    have hk2 : Ks N (runN (payN T H) N j) := runN_ks (fun _ _ => payN_sm) j
    rw [show runN (payN T H) N (j + 1) = payN T H j (runN (payN T H) N j) from rfl] at ih
    generalize runN (payN T H) N j = M at *
    have hjm : j < nK M := by rw [hk2.1.nK]; exact hj
    refine b_Md_oneWeek_6 ⟨i8, fun h => absurd h (by rw [hv8 _ _ hr hk2]; exact nI_ge hj (by omega)), fun _ => S_Md_pays hr ho hjm fun v' hv' => ?_⟩
    rw [nI_1]
    exact ih v' hv' (ok_pay ho)
/-- some weeks: the loop of weeks() and of income() -/
theorem weeks_k {N : Nu} : ∀ w, Ks N (runN (fun _ => wekN) N w) := fun w => runN_ks (fun _ _ => wekN_ks) w
end RW
