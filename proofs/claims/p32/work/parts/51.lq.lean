/-! STATES WITH THE SAME LIVE CELLS go the same way -/
theorem low_cong {p q : Nat → Prop} [DecidablePred p] [DecidablePred q] : ∀ d j, (∀ i, j ≤ i → i < j + d → (p i ↔ q i)) → low p j d = low q j d
  | 0, _, _ => rfl
  | d + 1, j, h => by
    have ih := low_cong d (j + 1) (fun i a b => h i (by omega) (by omega))
    by_cases hp : p j
    · rw [low_t hp, low_t ((h j (Nat.le_refl _) (by omega)).mp hp)]
    · rw [low_f hp, low_f (fun a => hp ((h j (Nat.le_refl _) (by omega)).mpr a)), ih]
section LQ
variable {N A : Nu}
theorem Lq.nd (h : Lq N A) {t : Fin 10} {i j : Nat} {x y : Int32} (hn : ¬ (t = 2 ∧ i = 0 ∧ (j = 4 ∨ j = 5 ∨ j = 6))) (hx : Lv N t i j → y = x) : Lq (nset N t i j x) (nset A t i j y) := by
  intro t' i' j' q
  have hs : Sm N (nset N t i j x) := Sm.rfl'.ns hn
  have q' : Lv N t' i' j' := by
    unfold Lv at q ⊢
    rw [hs.nR, hs.nC, hs.nK] at q
    exact q
  rw [nset_ap, nset_ap]
  by_cases e : t' = t ∧ i' = i ∧ j' = j
  · rw [if_pos e, if_pos e]
    obtain ⟨rfl, rfl, rfl⟩ := e
    exact hx q'
  · rw [if_neg e, if_neg e]
    exact h t' i' j' q'
theorem Lq.n9 (h : Lq N A) {i j : Nat} {x y : Int32} (hx : y = x) : Lq (nset N 9 i j x) (nset A 9 i j y) := h.nd (fun q => absurd q.1 (by decide)) (fun _ => hx)
theorem Lq.n8 (h : Lq N A) {i j : Nat} {x y : Int32} (hx : y = x) : Lq (nset N 8 i j x) (nset A 8 i j y) := h.nd (fun q => absurd q.1 (by decide)) (fun _ => hx)
theorem Lq.n2 (h : Lq N A) {j : Nat} {x y : Int32} (hj : 7 ≤ j) (hx : y = x) : Lq (nset N 2 0 j x) (nset A 2 0 j y) := h.nd (fun q => by omega) (fun _ => hx)
theorem taken_lq (h : Lq N A) (room s : Int32) : takenF A room s = takenF N room s := by
  unfold takenF
  rw [h.sm.nK, cnt_congr fun j hj => by
    unfold tkP
    rw [h.c9 hj (j := 4) (by decide), h.c9 hj (j := 5) (by decide)]]
theorem open_lq (h : Lq N A) {r : Nat} (hr : r < nR N) (x : Int32) : openF A r x = openF N r x := by
  unfold openF
  refine setI_congr fun s hs => ?_
  unfold openP
  rw [placesF_lq h hr, taken_lq h]
theorem roomN_lq (h : Lq N A) (a : Int32) : roomN A a = roomN N a := by
  unfold roomN
  rw [h.sm.nR]
  refine low_cong _ _ fun i _ hi => ?_
  unfold forP
  rw [h.c7 (i := i) (by omega) (j := 0) (by decide), h.c7 (i := i) (by omega) (j := 1) (by decide)]
theorem roomI_lq (h : Lq N A) (a : Int32) : roomI A a = roomI N a := by
  unfold roomI
  rw [roomN_lq h, h.sm.nR]
theorem gets_lq (h : Lq N A) {c : Nat} (hc : c < nK N) : getsF A c = getsF N c := by
  unfold getsF
  rw [h.c9 hc (j := 0) (by decide), h.c9 hc (j := 2) (by decide), h.c3 (j := 2) (by decide), roomN_lq h, h.sm.nR]
  by_cases hr : roomN N (N 9 c 0) < nR N
  · rw [if_pos hr, if_pos hr, open_lq h hr]
  · rw [if_neg hr, if_neg hr]
theorem sib_lq (h : Lq N A) {c : Nat} (hc : c < nK N) : sibD A c = sibD N c := by
  unfold sibD
  rw [h.sm.nK, low_cong (q := fun i => N 9 i 3 = 1 ∧ N 9 i 1 = N 9 c 1) _ _ fun i _ hi => by
    rw [h.c9 (i := i) (by omega) (j := 3) (by decide), h.c9 (i := i) (by omega) (j := 1) (by decide), h.c9 hc (j := 1) (by decide)]]
theorem nxt_lq (h : Lq N A) : nxtN A = nxtN N := by
  have e1 : low (canD A) 0 (nK N) = low (canD N) 0 (nK N) := low_cong _ _ fun i _ hi => by
    unfold canD
    rw [h.c9 (i := i) (by omega) (j := 3) (by decide), gets_lq h (by omega)]
  have e2 : low (fun c => canD A c ∧ sibD A c = true) 0 (nK N) = low (fun c => canD N c ∧ sibD N c = true) 0 (nK N) := low_cong _ _ fun i _ hi => by
    unfold canD
    rw [h.c9 (i := i) (by omega) (j := 3) (by decide), gets_lq h (by omega), sib_lq h (by omega)]
  unfold nxtN
  rw [h.sm.nK, e1, e2]
theorem plc_lq (h : Lq N A) {c : Nat} (hc : c < nK N) : Lq (plcN N c) (plcN A c) := by
  unfold plcN
  rw [gets_lq h hc, h.c9 hc (j := 0) (by decide), roomI_lq h, h.c3 (j := 3) (by decide), h.c2 (j := 8) (by decide) (by decide)]
  exact (((((h.n9 rfl).n9 rfl).n9 rfl).n9 rfl).n2 (by decide) rfl).n9 rfl
theorem adm_lq : ∀ f {N A : Nu}, Lq N A → Lq (admN f N) (admN f A)
  | 0, _, _, h => h
  | f + 1, N, A, h => by
    unfold admN
    rw [nxt_lq h, h.sm.nK]
    by_cases hx : nxtN N < nK N
    · rw [if_pos hx, if_pos hx]
      exact adm_lq f (plc_lq h hx)
    · rw [if_neg hx, if_neg hx]
      exact h
theorem admX_lq : ∀ f {N A : Nu} (x : Int32), Lq N A → admX f A x = admX f N x
  | 0, _, _, _, _ => rfl
  | f + 1, N, A, x, h => by
    unfold admX
    rw [nxt_lq h, h.sm.nK]
    by_cases hx : nxtN N < nK N
    · rw [if_pos hx, if_pos hx]
      exact admX_lq f _ (plc_lq h hx)
    · rw [if_neg hx, if_neg hx]
/-! a week -/
theorem com_lq (h : Lq N A) (room s : Int32) : comF A room s = comF N room s := by
  unfold comF
  rw [h.sm.nK]
  refine setI_congr fun j hj => ?_
  unfold coP comP
  rw [h.c9 hj (j := 4) (by decide), h.c9 hj (j := 5) (by decide), h.c9 hj (j := 6) (by decide), h.c9 hj (j := 8) (by decide)]
theorem too_lq (h : Lq N A) {r : Nat} (hr : r < nR N) (s : Nat) : tooN A r s = tooN N r s := by
  unfold tooN
  rw [com_lq h, placesF_lq h hr]
theorem tooF_lq (h : Lq N A) : tooF A = tooF N := by
  show sumI _ (10 * nR A) = sumI _ (10 * nR N)
  rw [h.sm.nR]
  exact sumI_congr fun q hq => by rw [too_lq h (by omega)]
theorem nsh_lq (h : Lq N A) (x : Int32) : nshF A x = nshF N x := by
  unfold nshF
  rw [h.sm.nK, lasF_congr (q := fun i => Has x (nI i) ∧ N 9 i 6 = 0) (fun j hj => by rw [h.c9 hj (j := 6) (by decide)]), maxF_congr (f' := fun i => N 9 i 13) (q := fun i => Has x (nI i)) (fun j hj => h.c9 hj (j := 13) (by decide)) (fun j _ => Iff.rfl)]
theorem nshN_lq (h : Lq N A) (x : Int32) : nshN A x = nshN N x := congrArg Int32.toNatClampNeg (nsh_lq h x)
theorem stayX_lq (h : Lq N A) : ∀ d x, stayX A d x = stayX N d x
  | 0, _ => rfl
  | d + 1, x => by
    unfold stayX
    rw [nshN_lq h, stayX_lq h d]
theorem hom_lq (h : Lq N A) (c : Nat) : Lq (homN N c) (homN A c) := by
  unfold homN
  refine Lq.n2 (h.nd (fun q => absurd q.1 (by decide)) (fun q => by rw [h 9 c 10 q])) (by decide) ?_
  rw [h.c2 (j := 11) (by decide) (by decide)]
theorem stay_lq : ∀ d x {N A : Nu}, Lq N A → Lq (stayN d x N) (stayN d x A)
  | 0, _, _, _, h => h
  | d + 1, x, N, A, h => by
    unfold stayN
    rw [nshN_lq h]
    exact stay_lq d _ (hom_lq h _)
theorem fee_lq (h : Lq N A) {i : Nat} (hi : i < nK N) : feeF A i = feeF N i := by
  unfold feeF
  rw [h.c3 (j := 0) (by decide), h.c3 (j := 1) (by decide), low_cong (q := fun j => ¬ N 9 j 6 = 0 ∧ N 9 j 1 = N 9 i 1) _ _ fun j _ hj => by
    rw [h.c9 (i := j) (by omega) (j := 6) (by decide), h.c9 (i := j) (by omega) (j := 1) (by decide), h.c9 hi (j := 1) (by decide)]]
theorem bok_lq (h : Lq N A) (x : Int32) {i : Nat} (hi : i < nK N) : Lq (bokN x i N) (bokN x i A) := by
  unfold bokN
  rw [fee_lq h hi, h.c9 hi (j := 6) (by decide), h.c9 hi (j := 7) (by decide), h.c9 hi (j := 9) (by decide), h.c9 hi (j := 11) (by decide), h.c2 (j := 10) (by decide) (by decide), h.c2 (j := 9) (by decide) (by decide)]
  split
  · split
    · exact (h.n9 rfl).n2 (by decide) rfl
    · exact ((h.n9 rfl).n9 rfl).n2 (by decide) rfl
  · exact h
theorem run_lq {f k : Nat → Nu → Nu} (hf : ∀ j M, Sm M (f j M)) {n : Nat} (hs : ∀ j M B, j < n → Sm N M → Lq M B → Lq (f j M) (k j B)) (h : Lq N A) : ∀ j, j ≤ n → Lq (runN f N j) (runN k A j)
  | 0, _ => h
  | j + 1, hj => hs j _ _ (by omega) (runN_inv (I := Sm N) Sm.rfl' (fun j M q => q.trans (hf j M)) j) (run_lq hf hs h j (by omega))
theorem hld_lq (h : Lq N A) {r : Nat} (hr : r < nR N) (s : Nat) : Lq (hldN N r s) (hldN A r s) := by
  unfold hldN
  rw [too_lq h hr, com_lq h, stayX_lq h, h.sm.nK]
  have h1 := stay_lq (tooN N r s) (comF N (nI r) (nI s)) h
  have k1 : Sm N (stayN (tooN N r s) (comF N (nI r) (nI s)) N) := (stayN_ks _ _).1
  generalize stayX N (tooN N r s) (comF N (nI r) (nI s)) = x at h1 k1 ⊢
  generalize stayN (tooN N r s) (comF N (nI r) (nI s)) N = M1 at h1 k1 ⊢
  generalize stayN (tooN N r s) (comF N (nI r) (nI s)) A = B1 at h1 k1 ⊢
  have key := run_lq (N := M1) (A := B1) (f := bokN x) (k := bokN x) (n := nK N) (fun j M => bokN_ks.1) (fun j M B hj hs hl => bok_lq hl x (by rw [hs.nK, k1.nK]; exact hj)) h1
  exact key _ (Nat.le_refl _)
theorem hls_lq (h : Lq N A) : Lq (hlsN N) (hlsN A) := by
  unfold hlsN
  rw [h.sm.nR]
  have key := run_lq (N := N) (A := A) (f := fun q M => hldN M (q / 10) (q % 10)) (k := fun q M => hldN M (q / 10) (q % 10)) (n := 10 * nR N) (fun j M => hldN_ks.1) (fun j M B hj hs hl => hld_lq hl (by rw [hs.nR]; omega) _) h
  exact key _ (Nat.le_refl _)
theorem stl_lq (h : Lq N A) {j : Nat} (hj : j < nK N) : Lq (stlN j N) (stlN j A) := by
  unfold stlN
  rw [h.c9 hj (j := 3) (by decide), h.c9 hj (j := 7) (by decide), h.c3 (j := 3) (by decide)]
  split
  · exact h.n9 rfl
  · exact h
theorem bgn_lq (h : Lq N A) {j : Nat} (hj : j < nK N) : Lq (bgnN j N) (bgnN j A) := by
  unfold bgnN
  rw [h.c9 hj (j := 3) (by decide), h.c9 hj (j := 0) (by decide), h.c2 (j := 7) (by decide) (by decide)]
  split
  · exact (h.n9 rfl).n9 rfl
  · exact h.n9 rfl
theorem bgw_lq (h : Lq N A) : Lq (bgwN N) (bgwN A) := by
  unfold bgwN
  rw [h.sm.nC, h.sm.nK]
  have h1 : Lq (nset N 2 0 7 (N 2 0 7 + 1)) (nset A 2 0 7 (A 2 0 7 + 1)) := h.n2 (by decide) (by rw [h.c2 (j := 7) (by decide) (by decide)])
  have k1 : Sm N (nset N 2 0 7 (N 2 0 7 + 1)) := Sm.rfl'.n2 (by decide)
  generalize nset N 2 0 7 (N 2 0 7 + 1) = N1 at h1 k1 ⊢
  generalize nset A 2 0 7 (A 2 0 7 + 1) = A1 at h1 ⊢
  have h2 := run_lq (N := N1) (A := A1) (n := nC N) (f := wellN) (k := wellN) (fun j M => wellN_ks.1) (fun j M B hj hs hl => hl.n8 rfl) h1 (nC N) (Nat.le_refl _)
  have k2 : Sm N (runN wellN N1 (nC N)) := k1.trans (runN_ks (fun _ _ => wellN_ks) _).1
  generalize runN wellN N1 (nC N) = N2 at h2 k2 ⊢
  generalize runN wellN A1 (nC N) = A2 at h2 ⊢
  have key := run_lq (N := N2) (A := A2) (n := nK N) (f := bgnN) (k := bgnN) (fun j M => bgnN_ks.1) (fun j M B hj hs hl => bgn_lq hl (by rw [hs.nK, k2.nK]; exact hj)) h2
  exact key _ (Nat.le_refl _)
theorem qit_lq (h : Lq N A) (j : Nat) (s : Int32) : Lq (qitN N j s) (qitN A j s) := ((((h.n9 rfl).n9 rfl).n9 rfl).n9 rfl).n9 rfl
theorem mov_lq (h : Lq N A) {j : Nat} (hj : j < nK N) : Lq (movN j N) (movN j A) := by
  unfold movN
  rw [h.c9 hj (j := 0) (by decide), h.c9 hj (j := 5) (by decide), h.c3 (j := 2) (by decide), h.c2 (j := 7) (by decide) (by decide), roomN_lq h, h.sm.nR]
  by_cases hr : roomN N (N 9 j 0) < nR N
  · rw [if_pos hr, if_pos hr, open_lq h hr]
    split
    · exact ((qit_lq h j 0).n9 rfl).n9 rfl
    · exact (h.n9 rfl).n9 rfl
  · rw [if_neg hr, if_neg hr]
    exact qit_lq h j 2
theorem mvg_lq (h : Lq N A) (hB : Bd N) {j : Nat} (hj : j < nK N) : Lq (mvgN j N) (mvgN j A) := by
  unfold mvgN rmN
  rw [h.c9 hj (j := 4) (by decide), h.c9 hj (j := 0) (by decide), h.sm.1]
  by_cases hg : ¬ N 9 j 4 < 0 ∧ ¬ N 2 0 4 ≤ N 9 j 4
  · have g2 := hg
    rw [hB.1.1] at g2
    have h5 := hB.1.2
    obtain ⟨r, hr, er⟩ := (hasG (by omega)).mp g2
    have e : forP A (N 9 j 0) (N 9 j 4).toNatClampNeg ↔ forP N (N 9 j 0) (N 9 j 4).toNatClampNeg := by
      rw [er, nI_clamp (by omega)]
      unfold forP
      rw [h.c7 hr (j := 0) (by decide), h.c7 hr (j := 1) (by decide)]
    by_cases hf : forP N (N 9 j 0) (N 9 j 4).toNatClampNeg
    · rw [if_neg (fun q => q.2 hf), if_neg (fun q => q.2 (e.mpr hf))]
      exact h
    · rw [if_pos ⟨hg, hf⟩, if_pos ⟨hg, fun q => hf (e.mp q)⟩]
      exact mov_lq h hj
  · rw [if_neg (fun q => hg q.1), if_neg (fun q => hg q.1)]
    exact h
theorem drp_lq (h : Lq N A) {j : Nat} (hj : j < nK N) : Lq (drpN j N) (drpN j A) := by
  unfold drpN
  rw [h.c9 hj (j := 3) (by decide), h.c9 hj (j := 12) (by decide), h.c3 (j := 4) (by decide), h.c2 (j := 7) (by decide) (by decide)]
  split
  · exact qit_lq h j 2
  · exact h
theorem wek_lq (h : Lq N A) (hB : Bd N) : Lq (wekN N) (wekN A) := by
  unfold wekN
  rw [h.sm.nK]
  have h1 := hls_lq h
  have k1 : Sm N (hlsN N) := hlsN_ks.1
  have h2 := run_lq (n := nK N) (f := stlN) (k := stlN) (fun j M => stlN_ks.1) (fun j M B hj hs hl => stl_lq hl (by rw [hs.nK, k1.nK]; exact hj)) h1 _ (Nat.le_refl _)
  have k2 : Sm N (runN stlN (hlsN N) (nK N)) := k1.trans (runN_ks (fun _ _ => stlN_ks) _).1
  have h3 := bgw_lq h2
  have k3 : Sm N (bgwN (runN stlN (hlsN N) (nK N))) := k2.trans bgwN_ks.1
  have h4 := run_lq (n := nK N) (f := mvgN) (k := mvgN) (fun j M => mvgN_ks.1) (fun j M B hj hs hl => mvg_lq hl ((k3.trans hs).bd hB) (by rw [hs.nK, k3.nK]; exact hj)) h3 _ (Nat.le_refl _)
  have k4 : Sm N (runN mvgN (bgwN (runN stlN (hlsN N) (nK N))) (nK N)) := k3.trans (runN_ks (fun _ _ => mvgN_ks) _).1
  exact run_lq (n := nK N) (f := drpN) (k := drpN) (fun j M => drpN_ks.1) (fun j M B hj hs hl => drp_lq hl (by rw [hs.nK, k4.nK]; exact hj)) h4 _ (Nat.le_refl _)
end LQ
