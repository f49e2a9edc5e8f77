/-! A WEEK OF THE REFERENCE: come, comeAll -/
section CM
variable {g : Wg} {m : Mm} {v T H : Nat → Int32} {P : Int32 → Mm → Prop} {PV : Mm → Prop} {N M : Nu}
theorem S_Md_isVisiting {c s : Nat} (hR : RelR N v) (hO : Ok N) (hc : c < nK N) (hp : P (b2i (N 9 c 6 = 0 ∧ N 9 c 8 = nI s)) (wv m v)) : RunI g h_Md_isVisiting [vO 17 0 0, vI (nI c), vI (nI s)] (wv m v) P := by
  have hB := hO.1.1
  have h24 := hB.2.2.2
  refine RunI.ofGo rfl rfl (b_Md_isVisiting_0 (S_Md_of (c := c) (j := 6) (by omega) (by decide) ?_))
  rw [hR.k (j := 6) hB hc (by decide) (fun q => absurd q (by decide))]
  refine ⟨fun a => ⟨by decide, qi ?_⟩, fun a => S_Md_of (c := c) (j := 8) (by omega) (by decide) ?_⟩
  · rwa [b2i_f (fun q => a q.1)] at hp
  rw [hR.k (j := 8) hB hc (by decide) (fun q => absurd q (by decide))]
  refine ⟨fun b => ⟨by decide, qi ?_⟩, fun b => ⟨by decide, qi ?_⟩⟩
  · rwa [b2i_f (fun q => b q.2)] at hp
  · rwa [b2i_t ⟨a, b⟩] at hp
/-- who is found while the children are gone through: with a visitor among them; without -/
def whF (N : Nu) (y : Int32) (j : Nat) : Int32 := if lasF (fun i => Has y (nI i) ∧ N 9 i 6 = 0) j = -6 then -1 else lasF (fun i => Has y (nI i) ∧ N 9 i 6 = 0) j
def wsF (N : Nu) (y : Int32) (j : Nat) : Int32 := if (maxF (fun i => N 9 i 13) (fun i => Has y (nI i)) j).1 = -6 then -1 else (maxF (fun i => N 9 i 13) (fun i => Has y (nI i)) j).1
theorem S_Md_come {r s : Nat} (hR : RelR N v) (hO : Ok N) (hPl : Pl N) (hr : r < nR N) (hs : s < 10) (hBk : Bk N (10 * r + s) M T H) (hp : ∀ T' H', Bk N (10 * r + s + 1) (hldN M r s) T' H' → PV (wv (th m T' H') v)) : RunV g h_Md_come [vO 17 0 0, vI (nI r), vI (nI s)] (wv (th m T H) v) PV := by
  have hB := hO.1.1
  have h24 := hB.2.2.2
  have h5 := hB.1.2
  have hn := hB.2.2.1
  have hv8 : ∀ m' : Mm, wv m' v (18, 0, 0) 8 = nI (nK N) := fun m' => by rw [wv_at, hR.v8, hn]
  -- the bookings
  have book : ∀ y M T H, (∀ i, i < nK N → Has y (nI i) → coP N (nI r) (nI s) i) → Bk N (10 * r + s) M T H → (∀ T' H', Bk N (10 * r + s + 1) (runN (bokN y) M (nK N)) T' H' → PV (wv (th m T' H') v)) → Go g h_Md_come (QV PV) 272 [(0, vO 17 0 0), (2, vI (nI s)), (3, vI (seA N y)), (4, vI (seB N y)), (6, vI 0)] [] (wv (th m T H) v) := by
    intro y M T H hy hBk hp
    refine loopN (G := fun i => ∀ T, Bk N (10 * r + s + 1) (runN (bokN y) M i) T H → (∀ c, i ≤ c → c < nK N → ∀ j, j < 32 → Has (T c) (nI j) → (j < 10 ∧ ∃ q', q' < 10 * r + s ∧ N 9 c 4 = nI (q' / 10) ∧ q' % 10 = j ∧ ¬ N 9 c 6 = 0) ∨ (j = 10 ∧ ∃ q', q' < 10 * r + s ∧ N 9 c 4 = nI (q' / 10) ∧ N 9 c 6 = 0 ∧ N 9 c 8 = nI (q' % 10))) → Go g h_Md_come (QV PV) 272 [(0, vO 17 0 0), (2, vI (nI s)), (3, vI (seA N y)), (4, vI (seB N y)), (6, vI (nI i))] [] (wv (th m T H) v)) (nK N) ?_ ?_ 0 (Nat.zero_le _) T (hBk.mono (by omega)) (fun c _ hc => hBk.2.2.2 c hc)
    · intro T hB2 _
      exact b_Md_come_272 ⟨vp_in_nI (n := 8) (by decide) (by decide), fun _ => qv (hp T H hB2), fun h => absurd (by rw [hv8]; exact le_self _) h⟩
    · intro i hi ih T hB2 hold
      have e := nI_clamp (n := i) (by omega)
      have hin := vp_in_nI (n := i) (N := 24) (by omega) (by omega)
      have hf : ∀ j, j < 32 → Has y (nI i) → Has (T i) (nI j) → ¬ (j = s ∨ j = 10) := by
        intro j hj hyi hT hjj
        have hco := hy i hi hyi
        rcases hold i (Nat.le_refl _) hi j hj hT with ⟨a, q', b, c, d, f⟩ | ⟨a, q', b, c, d, f⟩
        · rw [hco.1, nI_eq (by omega) (by omega)] at c
          omega
        · have h6 := hco.2
          unfold comP at h6
          rw [if_pos d, f, nI_eq (by omega) (by omega)] at h6
          have hc1 := hco.1
          rw [c, nI_eq (by omega) (by omega)] at hc1
          omega
      have keep : ∀ x c, i + 1 ≤ c → c < nK N → ∀ j, j < 32 → Has (upd T i x c) (nI j) → _ := fun x c h1 h2 j hj q => hold c (by omega) h2 j hj (by rwa [pk_un (by omega)] at q)
      refine b_Md_come_272 ⟨vp_in_nI (n := 8) (by decide) (by decide), fun h => absurd h (by rw [hv8]; exact nI_ge hi (by omega)), fun _ => ⟨by rw [e] at *; exact hin, S_Md_has ?_⟩⟩
      simp only [b2i_eq0, Decidable.not_not, e, th_6, tm_6, pk_us, upd_uu, or_0, nI_1]
      have hstep : runN (bokN y) M (i + 1) = bokN y i (runN (bokN y) M i) := rfl
      rw [hstep] at ih
      refine ⟨fun a => ⟨hin, hin, S_Md_has ?_⟩, fun a => ⟨hin, hin, S_Md_has ?_⟩⟩ <;> simp only [b2i_eq0, Decidable.not_not, e, th_6, tm_6, pk_us, upd_uu, or_0, nI_1]
      · rw [seA_has h24 (by omega)] at a
        refine ⟨fun b => ⟨hin, ?_⟩, fun b => ⟨hin, ?_⟩⟩
        · rw [seB_has h24 (by omega)] at b
          have hny : ¬ Has y (nI i) := fun q => by
            by_cases h6 : N 9 i 6 = 0
            · exact b ⟨hi, q, h6⟩
            · exact a ⟨hi, q, h6⟩
          rw [show bokN y i (runN (bokN y) M i) = runN (bokN y) M i from if_neg hny] at ih
          rw [upd_id]
          exact ih T hB2 (fun c h1 => hold c (by omega))
        · rw [seB_has h24 (by omega)] at b
          have hco := hy i hi b.2.1
          have h8 := hco.2
          unfold comP at h8
          rw [if_pos b.2.2] at h8
          exact ih _ (hB2.visit rfl hs hi b.2.1 b.2.2 hco.1 h8 (fun q => hf 10 (by decide) b.2.1 q (Or.inr rfl))) (keep _)
      · rw [seA_has h24 (by omega)] at a
        have hco := hy i hi a.2.1
        refine ⟨fun b => ⟨hin, ?_⟩, fun b => ?_⟩
        · exact ih _ (hB2.book rfl hs hi a.2.1 a.2.2 hco.1 (fun q => hf s (by omega) a.2.1 q (Or.inl rfl))) (keep _)
        · rw [seB_has h24 (by omega)] at b
          exact absurd b.2.2 a.2.2
  -- who is sent home
  obtain ⟨L, hL, eL⟩ := hO.2.2.1.places hB hr s 0
  have send : ∀ e y M T H yl, (∀ i, i < 32 → Has y (nI i) → i < nK N ∧ coP N (nI r) (nI s) i) → e = pcI y - L → yl = stayX N e y → Bk N (10 * r + s) M T H → (∀ T' H', Bk N (10 * r + s + 1) (runN (bokN yl) (stayN e y M) (nK N)) T' H' → PV (wv (th m T' H') v)) → Go g h_Md_come (QV PV) 116 [(0, vO 17 0 0), (2, vI (nI s)), (3, vI (seA N y)), (4, vI (seB N y)), (5, vI (nI L))] [] (wv (th m T H) v) := by
    intro e
    induction e with
    | zero =>
      intro y M T H yl hy he hyl hBk hp
      have hle := cnt_le (fun j => Has y (nI j)) 32
      have hpc := seAB_pc h24 (fun i hi q => (hy i hi q).1)
      have hpc2 := pcI_cnt y
      refine b_Md_come_116 (S_Md_ones (S_Md_ones ⟨fun _ => ?_, fun h => absurd ?_ h⟩))
      · have hyl' : yl = y := hyl
        rw [hyl'] at hp
        exact book y M T H (fun i hi q => (hy i (by omega) q).2) hBk hp
      · rw [nI_add, hpc]
        exact nI_le (by omega) (by omega)
    | succ e ih =>
      intro y M T H yl hy he hyl hBk hp
      have hle := cnt_le (fun j => Has y (nI j)) 32
      have hpc := seAB_pc h24 (fun i hi q => (hy i hi q).1)
      have hpc2 := pcI_cnt y
      refine b_Md_come_116 (S_Md_ones (S_Md_ones ⟨fun h => absurd h ?_, fun _ => ?_⟩))
      · rw [nI_add, hpc]
        exact nI_ge (by omega) (by omega)
      have hex : ∃ i, i < nK N ∧ Has y (nI i) := by
        by_cases q : ∃ i, i < nK N ∧ Has y (nI i)
        · exact q
        · have : pcI y = 0 := by
            rw [hpc2]
            exact cnt_0 fun j hj a => q ⟨j, (hy j hj a).1, a⟩
          omega
      obtain ⟨c1, c2, c3⟩ := nsh_ok hB (fun i hi => (hO.k1 hi).2.2.2.2.2.2) hex
      have hw : ∀ x6, (seB N y = 0 → x6 = wsF N y (nK N)) → (¬ seB N y = 0 → x6 = whF N y (nK N)) → x6 = nI (nshN N y) := by
        intro x6 h0 h1
        rw [← c2]
        unfold nshF
        have hB0 : seB N y = 0 ↔ ∀ j, j < nK N → ¬ (Has y (nI j) ∧ N 9 j 6 = 0) := setI_0 (by omega)
        rcases lasF_ok (p := fun i => Has y (nI i) ∧ N 9 i 6 = 0) (n := nK N) (by omega) with ⟨a, b⟩ | ⟨c, a, b, d⟩
        · rw [if_pos a, h0 (hB0.mpr b)]
          unfold wsF
          rcases maxF_ok (f := fun i => N 9 i 13) (p := fun i => Has y (nI i)) (n := nK N) (fun j hj _ => (hO.k1 hj).2.2.2.2.2.2) with ⟨a2, b2⟩ | ⟨c, a2, b2, d2⟩
          · obtain ⟨i, hi, q⟩ := hex
            exact absurd q (b2 i hi)
          · rw [d2, if_neg (nI_n6 (by omega))]
        · have hne : ¬ lasF (fun i => Has y (nI i) ∧ N 9 i 6 = 0) (nK N) = -6 := by rw [d]; exact nI_n6 (by omega)
          rw [if_neg hne, h1 (fun q => hB0.mp q c a b)]
          unfold whF
          rw [if_neg hne]
      have hp1 := pcI_drop (x := y) (c := nshN N y) (by omega) c3
      have hM : stayN (e + 1) y M = stayN e (dropI y (nshN N y)) (homN M (nshN N y)) := by
        show stayN e (dropI y (nshN M y)) (homN M (nshN M y)) = _
        rw [hBk.1.nsh]
      rw [hM] at hp
      have next : Go g h_Md_come (QV PV) 116 [(0, vO 17 0 0), (2, vI (nI s)), (3, vI (seA N (dropI y (nshN N y)))), (4, vI (seB N (dropI y (nshN N y)))), (5, vI (nI L))] [] (wv (th m T (upd H (nshN N y) (H (nshN N y) + 1))) v) :=
        ih (dropI y (nshN N y)) (homN M (nshN N y)) T _ yl (fun i hi q => hy i hi ((has_drop (by omega) hi).mp q).1) (by omega) hyl (hBk.home c1) hp
      refine loopN (G := fun j => ∀ x6, (seB N y = 0 → x6 = wsF N y j) → (¬ seB N y = 0 → x6 = whF N y j) → Go g h_Md_come (QV PV) 137 [(0, vO 17 0 0), (2, vI (nI s)), (3, vI (seA N y)), (4, vI (seB N y)), (5, vI (nI L)), (6, vI x6), (7, vI (nI j))] [] (wv (th m T H) v)) (nK N) ?_ ?_ 0 (Nat.zero_le _) (-1) (fun _ => rfl) (fun _ => rfl)
      · intro x6 h0 h1
        have hx := hw x6 h0 h1
        subst hx
        have e6 := nI_clamp (n := nshN N y) (by omega)
        have hin := vp_in_nI (n := nshN N y) (N := 24) (by omega) (by omega)
        refine b_Md_come_137 ⟨vp_in_nI (n := 8) (by decide) (by decide), fun _ => ⟨hin, hin, ?_⟩, fun h => absurd (by rw [hv8]; exact le_self _) h⟩
        rw [e6, tm_7, th_7]
        refine S_Md_has ?_
        simp only [b2i_eq0, Decidable.not_not]
        have eB : seB N y &&& ((1 <<< (nI (nshN N y) &&& 31)) ^^^ (-1)) = seB N (dropI y (nshN N y)) := seB_drop h24 (by omega)
        have eA : seA N y &&& ((1 <<< (nI (nshN N y) &&& 31)) ^^^ (-1)) = seA N (dropI y (nshN N y)) := seA_drop h24 (by omega)
        rw [eB, eA, and_m1]
        refine ⟨fun a => ?_, fun a => S_Md_isVisiting hR hO c1 ?_⟩
        · rw [seA_has h24 (by omega)] at a
          have h6 : N 9 (nshN N y) 6 = 0 := by
            by_cases q : N 9 (nshN N y) 6 = 0
            · exact q
            · exact absurd ⟨c1, c3, q⟩ a
          rw [← seA_keep h24 (y := y) (c := nshN N y) (by omega) h6]
          exact next
        · rw [seA_has h24 (by omega)] at a
          simp only [b2i_eq0, Decidable.not_not]
          exact ⟨fun b => absurd b.1 a.2.2, fun _ => next⟩
      · intro j hj ihj x6 h0 h1
        have e := nI_clamp (n := j) (by omega)
        refine b_Md_come_137 ⟨vp_in_nI (n := 8) (by decide) (by decide), fun h => absurd h (by rw [hv8]; exact nI_ge hj (by omega)), fun _ => S_Md_has ?_⟩
        simp only [b2i_eq0, Decidable.not_not]
        rw [nI_1]
        have hl := lasF_ok (p := fun i => Has y (nI i) ∧ N 9 i 6 = 0) (n := j) (by omega)
        refine ⟨fun a => ?_, fun a => ⟨fun b => ?_, fun b => S_Md_has ?_⟩⟩
        · rw [seB_has h24 (by omega)] at a
          refine ihj _ (fun q => ?_) (fun _ => ?_)
          · exact absurd a.2 ((setI_0 (by omega)).mp q j hj)
          · unfold whF
            rw [lasF_t (p := fun i => Has y (nI i) ∧ N 9 i 6 = 0) a.2, if_neg (nI_n6 (by omega))]
        · rw [seB_has h24 (by omega)] at a
          refine ihj _ (fun q => absurd q b) (fun q => ?_)
          rw [h1 q]
          unfold whF
          rw [lasF_f (p := fun i => Has y (nI i) ∧ N 9 i 6 = 0) (fun z => a ⟨hj, z⟩)]
        · simp only [b2i_eq0, Decidable.not_not]
          have hx := h0 b
          have hnB := (setI_0 (p := fun c => Has y (nI c) ∧ N 9 c 6 = 0) (by omega)).mp b
          have hhas : Has (seA N y) (nI j) ↔ Has y (nI j) := by
            rw [seA_has h24 (by omega)]
            exact ⟨fun q => q.2.1, fun q => ⟨hj, q, fun z => hnB j hj ⟨q, z⟩⟩⟩
          rw [hhas]
          have hmx := maxF_ok (f := fun i => N 9 i 13) (p := fun i => Has y (nI i)) (n := j) (fun c hc _ => (hO.k1 (by omega)).2.2.2.2.2.2)
          have hfj := (hO.k1 hj).2.2.2.2.2.2
          refine ⟨fun c => ihj _ (fun _ => ?_) (fun q => absurd b q), fun c => ?_⟩
          · rw [hx]
            unfold wsF
            rw [maxF_f (fun z => c z.1)]
          · rcases hmx with ⟨a2, b2⟩ | ⟨w, a2, b2, d2⟩
            · have hx1 : x6 = -1 := by
                rw [hx]
                unfold wsF
                rw [a2, if_pos rfl]
              rw [hx1]
              refine ⟨fun _ => ihj _ (fun _ => ?_) (fun q => absurd b q), fun q => absurd (by decide) q⟩
              unfold wsF
              rw [maxF_t (f := fun i => N 9 i 13) c (by
                rw [a2]
                simp only [Int32.lt_iff_toInt_lt, Int32.le_iff_toInt_le, Int32.reduceToInt, Int32.toInt_zero] at hfj ⊢
                omega), if_neg (nI_n6 (by omega))]
            · have hx1 : x6 = nI w := by
                rw [hx]
                unfold wsF
                rw [d2, if_neg (nI_n6 (by omega))]
              rw [hx1]
              refine ⟨fun q => absurd q (nI_pos (by omega)), fun _ => S_Md_of (c := j) (j := 13) (by omega) (by decide) (S_Md_of (c := w) (j := 13) (by omega) (by decide) ?_)⟩
              rw [hR.k (j := 13) hB hj (by decide) (fun q => absurd q (by decide)), hR.k (i := w) (j := 13) hB (by omega) (by decide) (fun q => absurd q (by decide))]
              refine ⟨fun d => ihj _ (fun _ => ?_) (fun q => absurd b q), fun d => ihj _ (fun _ => ?_) (fun q => absurd b q)⟩
              · unfold wsF
                rw [maxF_f (fun z => z.2 (by rw [d2]; exact d)), d2, if_neg (nI_n6 (by omega))]
              · unfold wsF
                rw [maxF_t (f := fun i => N 9 i 13) c (by rw [d2]; exact d), if_neg (nI_n6 (by omega))]
  -- who comes
  refine RunV.ofGo rfl rfl (b_Md_come_0 ?_)
  refine loopN (G := fun j => Go g h_Md_come (QV PV) 8 [(0, vO 17 0 0), (1, vI (nI r)), (2, vI (nI s)), (3, vI (setI (fun c => coP N (nI r) (nI s) c ∧ ¬ N 9 c 6 = 0) j)), (4, vI (setI (fun c => coP N (nI r) (nI s) c ∧ N 9 c 6 = 0) j)), (5, vI (nI j))] [] (wv (th m T H) v)) (nK N) ?_ ?_ 0 (Nat.zero_le _)
  · refine b_Md_come_8 ⟨vp_in_nI (n := 8) (by decide) (by decide), fun _ => S_Md_places hR hO hr hs ?_, fun h => absurd (by rw [hv8]; exact le_self _) h⟩
    have hx : ∀ c, c < 32 → (Has (comF N (nI r) (nI s)) (nI c) ↔ c < nK N ∧ coP N (nI r) (nI s) c) := fun c hc => has_setI (by omega) hc
    have e1 : setI (fun c => coP N (nI r) (nI s) c ∧ ¬ N 9 c 6 = 0) (nK N) = seA N (comF N (nI r) (nI s)) := setI_congr fun c hc => by
      rw [hx c (by omega)]
      exact ⟨fun q => ⟨⟨hc, q.1⟩, q.2⟩, fun q => ⟨q.1.2, q.2⟩⟩
    have e2 : setI (fun c => coP N (nI r) (nI s) c ∧ N 9 c 6 = 0) (nK N) = seB N (comF N (nI r) (nI s)) := setI_congr fun c hc => by
      rw [hx c (by omega)]
      exact ⟨fun q => ⟨⟨hc, q.1⟩, q.2⟩, fun q => ⟨q.1.2, q.2⟩⟩
    rw [e1, e2, eL]
    have ht : tooN N r s = pcI (comF N (nI r) (nI s)) - L := by
      unfold tooN
      rw [eL, nI_clamp (by omega)]
    refine send (tooN N r s) (comF N (nI r) (nI s)) M T H _ (fun i hi q => (hx i hi).mp q) ht rfl hBk ?_
    have hh : hldN M r s = runN (bokN (stayX N (tooN N r s) (comF N (nI r) (nI s)))) (stayN (tooN N r s) (comF N (nI r) (nI s)) M) (nK N) := by
      unfold hldN
      rw [hBk.1.too, hBk.1.com, hBk.1.sty, hBk.1.sm.nK]
    rw [hh] at hp
    exact hp
  · intro j hj ih
    have aT := setI_t (p := fun c => coP N (nI r) (nI s) c ∧ ¬ N 9 c 6 = 0) (n := j)
    have aF := setI_f (p := fun c => coP N (nI r) (nI s) c ∧ ¬ N 9 c 6 = 0) (n := j)
    have bT := setI_t (p := fun c => coP N (nI r) (nI s) c ∧ N 9 c 6 = 0) (n := j)
    have bF := setI_f (p := fun c => coP N (nI r) (nI s) c ∧ N 9 c 6 = 0) (n := j)
    refine b_Md_come_8 ⟨vp_in_nI (n := 8) (by decide) (by decide), fun h => absurd h (by rw [hv8]; exact nI_ge hj (by omega)), fun _ => S_Md_isIn hR hO hj ?_⟩
    simp only [b2i_eq0, Decidable.not_not]
    rw [inP_iff hO hj (by omega), or_0, or_0, nI_1]
    have k3 := (hO.k1 hj).2.2.1
    have k8 := hR.k (j := 8) hB hj (by decide) (fun q => absurd q (by decide))
    have nob : ¬ N 9 j 6 = 0 → ¬ N 9 j 8 = nI s := fun q z => by
      rw [hPl j hj q] at z
      exact nI_n6 (f := s) (by omega) z.symm
    have none' : ¬ coP N (nI r) (nI s) j → Go g h_Md_come (QV PV) 8 [(0, vO 17 0 0), (1, vI (nI r)), (2, vI (nI s)), (3, vI (setI (fun c => coP N (nI r) (nI s) c ∧ ¬ N 9 c 6 = 0) j)), (4, vI (setI (fun c => coP N (nI r) (nI s) c ∧ N 9 c 6 = 0) j)), (5, vI (nI (j + 1)))] [] (wv (th m T H) v) := by
      intro q
      rwa [aF (fun z => q z.1), bF (fun z => q z.1)] at ih
    have cop : N 9 j 4 = nI r → (coP N (nI r) (nI s) j ↔ comP N j (nI s)) := fun a => ⟨fun q => q.2, fun q => ⟨a, q⟩⟩
    refine ⟨fun a => ⟨fun _ => none' (fun q => a q.1), fun q => absurd q a⟩, fun a => S_Md_of (c := j) (j := 6) (by omega) (by decide) ?_⟩
    rw [hR.k (j := 6) hB hj (by decide) (fun q => absurd q (by decide))]
    refine ⟨fun b => ?_, fun b => ?_⟩
    · have h6 : N 9 j 6 = 0 := k3.resolve_right b
      refine ⟨fun q => absurd a q, fun _ => S_Md_of (c := j) (j := 8) (by omega) (by decide) ?_⟩
      rw [k8]
      refine ⟨fun c => none' (fun q => ?_), fun c => ?_⟩
      · have := q.2
        unfold comP at this
        rw [if_pos h6] at this
        exact c this
      · have hco : coP N (nI r) (nI s) j := ⟨a, by unfold comP; rw [if_pos h6]; exact c⟩
        rwa [aF (fun z => z.2 h6), bT ⟨hco, h6⟩] at ih
    · have h6 : ¬ N 9 j 6 = 0 := by rw [b]; decide
      refine S_Md_of (c := j) (j := 5) (by omega) (by decide) ?_
      rw [hR.k (j := 5) hB hj (by decide) (fun q => absurd q (by decide))]
      refine S_Md_has ?_
      simp only [b2i_eq0, Decidable.not_not]
      refine ⟨fun c => ⟨fun q => absurd a q, fun _ => S_Md_of (c := j) (j := 8) (by omega) (by decide) ?_⟩, fun c => ⟨fun q => absurd a q, fun _ => S_Md_of (c := j) (j := 8) (by omega) (by decide) ?_⟩⟩
      · rw [k8]
        refine ⟨fun _ => none' (fun q => ?_), fun z => absurd z (nob h6)⟩
        have := q.2
        unfold comP at this
        rw [if_neg h6] at this
        exact c this
      · rw [k8]
        refine ⟨fun _ => ?_, fun z => absurd z (nob h6)⟩
        have hco : coP N (nI r) (nI s) j := ⟨a, by unfold comP; rw [if_neg h6]; exact c⟩
        rwa [aT ⟨hco, h6⟩, bF (fun z => h6 z.2)] at ih
theorem Bk.zero {N : Nu} {T H : Nat → Int32} (hT : ∀ i, i < nK N → T i = 0) (hH : ∀ i, i < nK N → H i = 0) : Bk N 0 N T H := by
  have z9 : ∀ i, i < nK N → c9F T i = 0 := fun i hi => by
    unfold c9F
    rw [hT i hi, pcI_0 (by decide)]
    rfl
  have z7 : ∀ i, i < nK N → c7F T i = 0 := fun i hi => by
    unfold c7F
    rw [hT i hi]
    decide
  have s0 : ∀ n, sumI (fun _ => 0) n = 0 := by
    intro n
    induction n with
    | zero => rfl
    | succ n ih =>
      show sumI (fun _ => 0) n + 0 = 0
      rw [ih, Int32.add_zero]
  refine ⟨Hs.rfl', fun i hi => ?_, ⟨?_, ?_, ?_⟩, fun i hi j hj q => ?_⟩
  · rw [z9 i hi, z7 i hi, hH i hi, Int32.zero_mul, Int32.add_zero, Int32.add_zero, Int32.add_zero, Int32.add_zero]
    exact ⟨rfl, rfl, rfl, rfl⟩
  · rw [sumI_congr (f' := fun _ => 0) (fun j hj => by rw [z9 j hj, Int32.zero_mul]), s0, Int32.add_zero]
  · rw [sumI_congr (f' := fun _ => 0) (fun j hj => by rw [z7 j hj]), s0, Int32.add_zero]
  · rw [sumI_congr (f' := fun _ => 0) (fun j hj => by rw [hH j hj]), s0, Int32.add_zero]
  · rw [hT i hi] at q
    exact absurd q (has_0 hj)
theorem S_Md_comeAll (hR : RelR N v) (hO : Ok N) (hPl : Pl N) (hp : ∀ T' H', Bk N (10 * nR N) (hlsN N) T' H' → PV (wv (th m T' H') v)) : RunV g h_Md_comeAll [vO 17 0 0] (wv m v) PV := by
  have hB := hO.1.1
  have h5 := hB.1.2
  have h24 := hB.2.2.2
  refine RunV.ofGo rfl rfl (b_Md_comeAll_0 ?_)
  have e0 : wv m v = wv (th m (m (18, 6, 0)) (m (18, 7, 0))) v := by rw [th_id]
  rw [e0]
  refine loopN (G := fun j => ∀ T H, (∀ i, i < j → T i = 0 ∧ H i = 0) → Go g h_Md_comeAll (QV PV) 2 [(0, vO 17 0 0), (1, vI (nI j))] [] (wv (th m T H) v)) 24 ?_ ?_ 0 (Nat.zero_le _) _ _ (fun i hi => absurd hi (Nat.not_lt_zero i))
  · intro T H hz
    refine b_Md_comeAll_2 ⟨fun _ => ?_, fun h => absurd (by decide) h⟩
    refine loopN (G := fun q => ∀ T H, Bk N q (runN (fun q M => hldN M (q / 10) (q % 10)) N q) T H → Go g h_Md_comeAll (QV PV) 30 [(0, vO 17 0 0), (1, vI (nI q))] [] (wv (th m T H) v)) (10 * nR N) ?_ ?_ 0 (Nat.zero_le _) T H (Bk.zero (fun i hi => (hz i (by omega)).1) (fun i hi => (hz i (by omega)).2))
    · intro T H hb
      refine b_Md_comeAll_30 ⟨vp_in_nI (n := 6) (by decide) (by decide), fun _ => qv (hp T H hb), fun h => absurd ?_ h⟩
      rw [wv_at, hR.v6, hB.1.1, show (10 : Int32) = nI 10 from rfl, pk_mul]
      exact le_self _
    · intro q hq ih T H hb
      refine b_Md_comeAll_30 ⟨vp_in_nI (n := 6) (by decide) (by decide), fun h => absurd h ?_, fun _ => ⟨by decide, by decide, ?_⟩⟩
      · rw [wv_at, hR.v6, hB.1.1, show (10 : Int32) = nI 10 from rfl, pk_mul]
        exact nI_ge hq (by omega)
      · rw [show nI q - nI q / 10 * 10 = nI (q % 10) from pk_rem (d := 10) (by omega) (by omega) (by omega), show nI q / 10 = nI (q / 10) from pk_div (d := 10) (by omega) (by omega) (by omega), nI_1]
        have eq : 10 * (q / 10) + q % 10 = q := by omega
        refine S_Md_come (r := q / 10) (s := q % 10) hR hO hPl (by omega) (by omega) (by rw [eq]; exact hb) (fun T' H' h => ?_)
        rw [eq] at h
        exact ih T' H' h
  · intro j hj ih T H hz
    have e := nI_clamp (n := j) (by omega)
    refine b_Md_comeAll_2 ⟨fun h => absurd h (nI_ge (b := 24) hj (by omega)), fun _ => ⟨vp_in_nI (by omega) (by omega), vp_in_nI (by omega) (by omega), ?_⟩⟩
    rw [e, tm_6, tm_7, nI_1]
    refine ih _ _ fun i hi => ?_
    by_cases q : i = j
    · rw [q, pk_us, pk_us]; exact ⟨rfl, rfl⟩
    · rw [pk_un q, pk_un q]; exact hz i (by omega)
end CM
