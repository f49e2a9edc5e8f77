/-! BESIDE EACH OTHER: what would be, and the pad -/
theorem Inv.st {b b' : Nat} {m : Mm} {N' : Nu} {v' : Nat → Int32} (hI : Inv b m) (h : Ro b' N' v') (hb : b ≤ b') : Inv b' (wv (wr m 0 N') v') := by
  have hI := hI.mono hb
  obtain ⟨h1, ⟨old, sz, a1, a2, a3, a4, a5, a6⟩, h3, ⟨L, h4⟩, h5, h6⟩ := hI
  have big : ∀ t k i, ¬ t < 10 → ¬ ((t, k, i) : Rf) = (18, 0, 0) → wv (wr m 0 N') v' (t, k, i) = m (t, k, i) := fun t k i ht hn => by rw [wv_ne hn, wr_big ht]
  have rdk : ∀ k, ¬ k = 0 → rd (wv (wr m 0 N') v') k = rd m k := by
    intro k hk
    funext t i j
    show wv (wr m 0 N') v' (t.val, k, i) j = m (t.val, k, i) j
    rw [wv_ne (by intro q; simp only [Prod.mk.injEq] at q; exact hk q.2.1), wr_ne hk]
  have rd0 : rd (wv (wr m 0 N') v') 0 = N' := by
    funext t i j
    show wv (wr m 0 N') v' (t.val, 0, i) j = _
    rw [wv_ne (by intro q; have := t.isLt; simp only [Prod.mk.injEq] at q; omega)]
    exact wr_in t.isLt i j
  refine ⟨?_, ⟨old, sz, a1, a2, ?_, ?_, ?_, fun i hi => ?_⟩, fun s hs => ?_, ⟨L, ?_⟩, ?_, fun j hj => ?_⟩
  · rw [rd0, wv_at]; exact h
  · rw [big 10 0 0 (by decide) (by decide)]; exact a3
  · rw [big 10 0 0 (by decide) (by decide)]; exact a4
  · rw [big 17 0 0 (by decide) (by decide)]; exact a5
  · rw [rdk _ (by omega), big 18 2 0 (by decide) (by decide)]; exact a6 i hi
  · rw [rdk _ (by omega), big 18 3 0 (by decide) (by decide), big 13 0 0 (by decide) (by decide), big 19 0 0 (by decide) (by decide)]; exact h3 s hs
  · obtain ⟨⟨b1, b2, b3⟩, ⟨c1, c2, c3⟩, d⟩ := h4
    refine ⟨⟨?_, b2, ?_⟩, ⟨?_, c2, ?_⟩, ?_⟩
    · rw [big 14 0 0 (by decide) (by decide)]; exact b1
    · rw [big 15 0 0 (by decide) (by decide)]; exact b3
    · rw [big 17 0 0 (by decide) (by decide)]; exact c1
    · rw [big 18 4 0 (by decide) (by decide)]; exact c3
    · rw [big 15 0 0 (by decide) (by decide), big 18 4 0 (by decide) (by decide)]; exact d
  · rw [big 17 0 0 (by decide) (by decide)]; exact h5
  · rw [big 18 5 0 (by decide) (by decide)]; exact h6 j hj
theorem Inv.v {b : Nat} {m : Mm} {v' : Nat → Int32} (hI : Inv b m) (h : RelR (rd m 0) v') : Inv b (wv m v') := by
  have := hI.st (N' := rd m 0) (v' := v') ⟨hI.1.1, hI.1.2.1, hI.1.2.2.1, h⟩ (Nat.le_refl _)
  rwa [wr_rd] at this
theorem fl_ok {N : Nu} (h : Ok N) : Fl N := ⟨fun i hi => (h.2.2.2.1.1 i hi).2, fun i hi => (h.k1 hi).2.2.1⟩
theorem wi_ok {N : Nu} (h : Ok N) : Wi N := ⟨h.1.1, h.2.2.1, fun i hi => (h.k1 hi).2.2.2.2.2.2⟩
/-- how many are sent home in all -/
theorem Hs.trans {N M L : Nu} (h : Hs N M) (h2 : Hs M L) : Hs N L := fun t i j q => (h2 t i j q).trans (h t i j q)
theorem hs_home {N : Nu} {c : Nat} : Hs N (homN N c) := (Hs.rfl'.ns (Or.inl ⟨rfl, by decide⟩)).ns (Or.inr ⟨rfl, by decide⟩)
theorem hs_stay : ∀ d x (N : Nu), Hs N (stayN d x N) ∧ stayN d x N 2 0 11 = N 2 0 11 + nI d
  | 0, _, N => ⟨Hs.rfl', (Int32.add_zero _).symm⟩
  | d + 1, x, N => by
    obtain ⟨h1, h2⟩ := hs_stay d (dropI x (nshN N x)) (homN N (nshN N x))
    refine ⟨hs_home.trans h1, ?_⟩
    show stayN d (dropI x (nshN N x)) (homN N (nshN N x)) 2 0 11 = _
    have e : homN N (nshN N x) 2 0 11 = N 2 0 11 + 1 := by simp [homN, nset_ap]
    rw [h2, e, nI_succ, Int32.add_assoc, Int32.add_comm 1]
theorem hs_bok {x : Int32} {i : Nat} {N : Nu} : Hs N (bokN x i N) ∧ bokN x i N 2 0 11 = N 2 0 11 := by
  unfold bokN
  split
  · split
    · exact ⟨(Hs.rfl'.ns (Or.inl ⟨rfl, by decide⟩)).ns (Or.inr ⟨rfl, by decide⟩), by simp [nset_ap]⟩
    · exact ⟨((Hs.rfl'.ns (Or.inl ⟨rfl, by decide⟩)).ns (Or.inl ⟨rfl, by decide⟩)).ns (Or.inr ⟨rfl, by decide⟩), by simp [nset_ap]⟩
  · exact ⟨Hs.rfl', rfl⟩
theorem hs_hld {N : Nu} {r s : Nat} : Hs N (hldN N r s) ∧ hldN N r s 2 0 11 = N 2 0 11 + nI (tooN N r s) := by
  obtain ⟨h1, h2⟩ := hs_stay (tooN N r s) (comF N (nI r) (nI s)) N
  unfold hldN
  generalize stayN (tooN N r s) (comF N (nI r) (nI s)) N = M at *
  have := runN_inv (f := bokN (stayX N (tooN N r s) (comF N (nI r) (nI s)))) (N := M) (I := fun L => Hs N L ∧ L 2 0 11 = M 2 0 11) ⟨h1, rfl⟩ (fun j L q => ⟨q.1.trans hs_bok.1, hs_bok.2.trans q.2⟩) (nK N)
  exact ⟨this.1, this.2.trans h2⟩
abbrev tooF (N : Nu) : Int32 := sumI (fun q => nI (tooN N (q / 10) (q % 10))) (10 * nR N)
theorem hs_hls {N : Nu} : ∀ j, Hs N (runN (fun q M => hldN M (q / 10) (q % 10)) N j) ∧ runN (fun q M => hldN M (q / 10) (q % 10)) N j 2 0 11 = N 2 0 11 + sumI (fun q => nI (tooN N (q / 10) (q % 10))) j
  | 0 => ⟨Hs.rfl', (Int32.add_zero _).symm⟩
  | j + 1 => by
    obtain ⟨h1, h2⟩ := hs_hls (N := N) j
    show Hs N (hldN (runN _ N j) (j / 10) (j % 10)) ∧ hldN (runN _ N j) (j / 10) (j % 10) 2 0 11 = _
    generalize runN (fun q M => hldN M (q / 10) (q % 10)) N j = M at *
    refine ⟨h1.trans hs_hld.1, ?_⟩
    rw [hs_hld.2, h2, h1.too, Int32.add_assoc]
    rfl
theorem bk_too {N : Nu} {T H : Nat → Int32} {q : Nat} (h : Bk N q (hlsN N) T H) : sumI H (nK N) = tooF N := by
  have h1 := h.2.2.1.2.2
  have h2 := (hs_hls (N := N) (10 * nR N)).2
  have h3 : N 2 0 11 + sumI H (nK N) = N 2 0 11 + tooF N := h1.symm.trans h2
  have h4 := congrArg (fun z => z - N 2 0 11) h3
  simpa only [Int32.add_comm (N 2 0 11), Int32.add_sub_cancel] using h4
/-- the weeks go on -/
theorem wek_78 {N : Nu} : wekN N 2 0 7 = N 2 0 7 + 1 ∧ wekN N 2 0 8 = N 2 0 8 := by
  have i9 : ∀ {M : Nu} {i j : Nat} {x : Int32}, nset M 9 i j x 2 0 7 = M 2 0 7 ∧ nset M 9 i j x 2 0 8 = M 2 0 8 := fun {M i j x} => ⟨ns_t (by decide), ns_t (by decide)⟩
  have s1 : hlsN N 2 0 7 = N 2 0 7 ∧ hlsN N 2 0 8 = N 2 0 8 := ⟨(hs_hls (10 * nR N)).1 2 0 7 (nd2 (by decide)), (hs_hls (10 * nR N)).1 2 0 8 (nd2 (by decide))⟩
  unfold wekN
  have run : ∀ (f : Nat → Nu → Nu) (M : Nu) (n : Nat), (∀ j L, f j L 2 0 7 = L 2 0 7 ∧ f j L 2 0 8 = L 2 0 8) → runN f M n 2 0 7 = M 2 0 7 ∧ runN f M n 2 0 8 = M 2 0 8 := fun f M n h => runN_inv (I := fun L => L 2 0 7 = M 2 0 7 ∧ L 2 0 8 = M 2 0 8) ⟨rfl, rfl⟩ (fun j L q => ⟨(h j L).1.trans q.1, (h j L).2.trans q.2⟩) n
  have fq : ∀ (L : Nu) j s, qitN L j s 2 0 7 = L 2 0 7 ∧ qitN L j s 2 0 8 = L 2 0 8 := fun L j s => ⟨by simp [qitN, nset_ap], by simp [qitN, nset_ap]⟩
  have f1 : ∀ j L, stlN j L 2 0 7 = L 2 0 7 ∧ stlN j L 2 0 8 = L 2 0 8 := fun j L => by
    unfold stlN
    split
    · exact i9
    · exact ⟨rfl, rfl⟩
  have f2 : ∀ j L, bgnN j L 2 0 7 = L 2 0 7 ∧ bgnN j L 2 0 8 = L 2 0 8 := fun j L => by
    unfold bgnN
    split
    · exact ⟨i9.1.trans i9.1, i9.2.trans i9.2⟩
    · exact i9
  have f3 : ∀ j L, wellN j L 2 0 7 = L 2 0 7 ∧ wellN j L 2 0 8 = L 2 0 8 := fun j L => ⟨ns_t (by decide), ns_t (by decide)⟩
  have f4 : ∀ j L, mvgN j L 2 0 7 = L 2 0 7 ∧ mvgN j L 2 0 8 = L 2 0 8 := fun j L => by
    unfold mvgN movN
    split
    · split
      · split
        · exact ⟨by simp [waitN, qitN, nset_ap], by simp [waitN, qitN, nset_ap]⟩
        · exact ⟨i9.1.trans i9.1, i9.2.trans i9.2⟩
      · exact fq _ _ _
    · exact ⟨rfl, rfl⟩
  have f5 : ∀ j L, drpN j L 2 0 7 = L 2 0 7 ∧ drpN j L 2 0 8 = L 2 0 8 := fun j L => by
    unfold drpN
    split
    · exact fq _ _ _
    · exact ⟨rfl, rfl⟩
  have r1 := run stlN (hlsN N) (nK N) f1
  generalize runN stlN (hlsN N) (nK N) = M1 at *
  have r2 : bgwN M1 2 0 7 = M1 2 0 7 + 1 ∧ bgwN M1 2 0 8 = M1 2 0 8 := by
    unfold bgwN
    have a := run bgnN (runN wellN (nset M1 2 0 7 (M1 2 0 7 + 1)) (nC M1)) (nK M1) f2
    have c := run wellN (nset M1 2 0 7 (M1 2 0 7 + 1)) (nC M1) f3
    rw [a.1, a.2, c.1, c.2, ns_s, ns_j (by decide)]
    exact ⟨rfl, rfl⟩
  have r3 := run mvgN (bgwN M1) (nK N) f4
  have r4 := run drpN (runN mvgN (bgwN M1) (nK N)) (nK N) f5
  rw [r4.1, r4.2, r3.1, r3.2, r2.1, r2.2, r1.1, r1.2, s1.1, s1.2]
  exact ⟨rfl, rfl⟩
theorem weks_78 {N : Nu} : ∀ w, runN (fun _ => wekN) N w 2 0 7 = N 2 0 7 + nI w ∧ runN (fun _ => wekN) N w 2 0 8 = N 2 0 8
  | 0 => ⟨(Int32.add_zero _).symm, rfl⟩
  | w + 1 => by
    obtain ⟨h1, h2⟩ := weks_78 (N := N) w
    show wekN (runN _ N w) 2 0 7 = _ ∧ wekN (runN _ N w) 2 0 8 = _
    rw [wek_78.1, wek_78.2, h1, h2, nI_succ, Int32.add_assoc]
    exact ⟨rfl, rfl⟩
theorem placesF_lq {N A : Nu} (h : Lq N A) {r : Nat} (hr : r < nR N) (s : Nat) (q : Int32) : placesF A r s q = placesF N r s q := by
  unfold placesF
  generalize s / 2 = d
  generalize s % 2 * 5 = f
  generalize 5 = n
  have hcar : ∀ x, carersF A (nI r) (nI d) x q = carersF N (nI r) (nI d) x q := by
    intro x
    unfold carersF
    rw [h.sm.nC]
    rw [cnt_congr (q := dutyP N (nI r) (nI d) x q) fun j hj => by
      unfold dutyP
      rw [h.c8 hj (by decide), h.c8 hj (by decide), h.c8 hj (by decide), h.c8 hj (by decide), h.c8 hj (by decide)]]
  induction n with
  | zero => exact h.c7 hr (by decide)
  | succ n ih =>
    unfold plF
    rw [ih, hcar, h.c7 hr (by decide)]
theorem allF_lq {N A : Nu} (h : Lq N A) {r : Nat} (hr : r < nR N) : allF A r = allF N r := sumI_congr fun s _ => placesF_lq h hr s 1
section TR
variable {g : Wg} {mem m : Mm} {b : Nat} {v : Nat → Int32} {P : Int32 → Mm → Prop} {N : Nu}
theorem S_Md_sentHome {x : Int32} (hR : RelR N v) (hO : Ok N) (hPl : Pl N) (h0 : ¬ x = -6 → ¬ (¬ x < 0 ∧ ¬ N 2 0 5 ≤ x) → P (-1) (wv m v)) (h1 : x = -6 → ∀ T H, P (tooF N) (wv (th m T H) v)) (h2 : ∀ c, c < nC N → x = nI c → ∀ T H, P (tooF (nset N 8 c 4 1)) (wv (th m T H) v)) : RunI g h_Md_sentHome [vO 17 0 0, vI x] (wv m v) P := by
  have hB := hO.1.1
  have h12 := hO.1.2
  have h24 := hB.2.2.2
  have i0 : vp_in 0 429 := vp_in_nI (n := 0) (by decide) (by decide)
  -- the sum
  have sum : ∀ (T H : Nat → Int32), P (sumI H (nK N)) (wv (th m T H) v) → Go g h_Md_sentHome (QI P) 76 [(0, vO 17 0 0), (4, vI 0), (5, vI 0)] [] (wv (th m T H) v) := by
    intro T H hp
    refine loopN (G := fun j => Go g h_Md_sentHome (QI P) 76 [(0, vO 17 0 0), (4, vI (sumI H j)), (5, vI (nI j))] [] (wv (th m T H) v)) (nK N) ?_ ?_ 0 (Nat.zero_le _)
    · exact b_Md_sentHome_76 ⟨vp_in_nI (n := 8) (by decide) (by decide), fun _ => qi hp, fun q => absurd (by rw [wv_at, hR.v8, hB.2.2.1]; exact le_self _) q⟩
    · intro j hj ih
      have e := nI_clamp (n := j) (by omega)
      refine b_Md_sentHome_76 ⟨vp_in_nI (n := 8) (by decide) (by decide), fun q => absurd q (by rw [wv_at, hR.v8, hB.2.2.1]; exact nI_ge hj (by omega)), fun _ => ⟨vp_in_nI (by omega) (by omega), ?_⟩⟩
      rw [e, th_7, nI_1]
      exact ih
  refine RunI.ofGo rfl rfl (b_Md_sentHome_0 ⟨fun e => ⟨fun q => absurd e q, fun _ => ⟨i0, fun q => absurd e q, fun _ => ⟨i0, ?_⟩⟩⟩, fun e => S_Md_isCarer hR hB ?_⟩)
  · rw [mv, wv_at, upd_id]
    refine S_Md_comeAll hR hO hPl fun T H hb => ⟨i0, ?_⟩
    rw [mv, upd_id]
    refine sum T H ?_
    rw [bk_too hb]
    exact h1 e T H
  · simp only [b2i_eq0, Decidable.not_not]
    refine ⟨fun a => ⟨fun _ => ?_, fun q => absurd q e⟩, fun a => qi (h0 e a)⟩
    rw [hB.2.1.1] at a
    obtain ⟨c, hc, rfl⟩ := (hasG (by omega)).mp a
    have i4 : ((33 + (5 * nI c)) + 4 : Int32) = nI (33 + 5 * c + 4) := ix3 33 5 c 4
    have hin : vp_in (nI (33 + 5 * c + 4)) 429 := vp_in_nI (by omega) (by omega)
    rw [i4, nI_clamp (n := 33 + 5 * c + 4) (by omega)]
    refine ⟨hin, fun _ => ⟨hin, ?_⟩, fun q => absurd q e⟩
    rw [mv, wv_at]
    have r1 : RelR (nset N 8 c 4 1) (upd v (33 + 5 * c + 4) 1) := RelR.set hR (t := 8) (i := c) (j := 4) (Or.inr (Or.inr (Or.inr (Or.inl ⟨rfl, by omega, by decide⟩)))) 1 (fun q => absurd q (by decide)) (fun q => absurd q.1 (by decide))
    have o1 : Ok (nset N 8 c 4 1) := ok_n8 hO (Or.inr rfl)
    have p1 : Pl (nset N 8 c 4 1) := pl_of hPl (ns_t (by decide)) (fun _ => ns_t (by decide)) (fun _ => ns_t (by decide))
    have hnK : nK (nset N 8 c 4 1) = nK N := (Sm.rfl'.nt (by decide) : Sm N _).nK
    refine S_Md_comeAll r1 o1 p1 fun T H hb => ⟨hin, ?_⟩
    rw [mv, upd_uu, upd_id]
    refine sum T H ?_
    have := bk_too hb
    rw [hnK] at this
    rw [this]
    exact h2 c hc rfl T H
theorem copy_trial {PV : Mm → Prop} (hI : Inv b mem) (hp : ∀ A, Lq (rd mem 0) A → Ro b A (mem (18, 0, 0)) → PV (wr mem 1 A)) : RunV g h_St_copyFrom [vO 2 1 0, vO 2 0 0] mem PV := by
  have e1 : wr mem 1 (rd mem 1) = mem := wr_rd
  have := T_St_copyFrom (g := g) (m := mem) (k := 1) (N := rd mem 1) (PV := PV) (k1 := 0) (by decide) hI.1.1.1.1 (fl_ok hI.1.1) (fun A hA => hp A hA (hI.1.lq hA))
  rwa [e1] at this
theorem wr1_v {A : Nu} : wr mem 1 A = wv (wr mem 1 A) (mem (18, 0, 0)) := by
  have : wr mem 1 A (18, 0, 0) = mem (18, 0, 0) := wr_big (by decide)
  rw [← this, wv_id]
theorem B_wouldAdmit (hI : Inv b mem) (hb : b < 2 ^ 28) : Both g h_N_wouldAdmit h_Md_wouldAdmit [] b mem := by
  refine RunI.ofGo rfl rfl (b_N_wouldAdmit_0 (copy_trial hI fun A hA hRo => ?_))
  have hOA := hRo.1
  have h24 := hOA.1.1.2.2.2
  have hs := admN_sm 24 A
  refine T_Ad_admitAll hOA.1.1 (T_St_childrenInState (hs.bd hOA.1.1) ?_)
  have e0 : rd (wr mem 1 (admN 24 A)) 0 = rd mem 0 := rd_ne (by decide)
  refine S_St_childrenInState (by rw [e0]; exact hI.1.1.1.1) ?_
  rw [e0]
  have hres : setI (fun j => admN 24 A 9 j 3 = 1) (nK (admN 24 A)) &&& (setI (fun j => rd mem 0 9 j 3 = 1) (nK (rd mem 0)) ^^^ -1) = admX 24 A 0 := by
    refine has_ext fun j hj => ?_
    have hx := (admX_has 24 A 0 h24 j hj).1
    rw [hx, has_bit hj, bt_and, bt_xor, bt_neg hj, Bool.and_eq_true, ← has_bit hj, Bool.xor_true, Bool.not_eq_true', ← Bool.not_eq_true, ← has_bit hj, has_setI (by rw [hs.nK]; omega) hj, has_setI (by have := hI.1.1.1.1.2.2.2; omega) hj, hs.nK, hA.sm.nK]
    constructor
    · rintro ⟨⟨q1, q2⟩, q3⟩
      exact Or.inr ⟨q1, q2, fun z => q3 ⟨q1, by rwa [hA.c9 q1 (by decide)] at z⟩⟩
    · rintro (q | ⟨q1, q2, q3⟩)
      · exact absurd q (has_0 hj)
      · exact ⟨⟨q1, q2⟩, fun z => q3 (by rw [hA.c9 q1 (by decide)]; exact z.2)⟩
  refine qi ?_
  rw [hres, wr1_v]
  obtain ⟨p, w, hp, hw, h8, h7⟩ := hRo.2.2.1
  refine S_Md_wouldAdmit hRo.2.2.2 hOA h8 (by omega) fun S v' hv' => ⟨rfl, ?_⟩
  have h1 : Inv b (wr mem 1 (admN 24 A)) := hI.agr agr_wr
  refine Inv.agr (h1.v (v' := v') ?_) agr_sm
  rw [e0]
  exact hv'.lq hA.symm
theorem B_sentHome {x : Int32} (hI : Inv b mem) : Both g h_N_sentHome h_Md_sentHome [vI x] b mem := by
  have fin : ∀ A, Ro b A (mem (18, 0, 0)) → ∀ B, (x = -6 → tooF B = tooF A) → (¬ x = -6 → ¬ (¬ x < 0 ∧ ¬ A 2 0 5 ≤ x) → False) → (∀ c, c < nC A → x = nI c → tooF B = tooF (nset A 8 c 4 1)) → RunI g h_Md_sentHome [vO 17 0 0, vI x] (wr mem 1 B) (fun r' m2 => tooF B = r' ∧ Inv b m2) := by
    intro A hRo B hB1 hB0 hB2
    rw [wr1_v]
    have hIn : ∀ T H, Inv b (wv (th (wr mem 1 B) T H) (mem (18, 0, 0))) := fun T H => by
      refine Inv.agr ?_ agr_th
      rw [← wr1_v]
      exact hI.agr agr_wr
    exact S_Md_sentHome hRo.2.2.2 hRo.1 hRo.2.1 (fun q1 q2 => (hB0 q1 q2).elim) (fun q T H => ⟨hB1 q, hIn T H⟩) (fun c hc e T H => ⟨hB2 c hc e, hIn T H⟩)
  have body : (x = -6 ∨ (¬ x < 0 ∧ ¬ rd mem 0 2 0 5 ≤ x)) → RunV g h_St_copyFrom [vO 2 1 0, vO 2 0 0] mem (fun m1 => RunI g h_St_reportSick [vO 2 1 0, vI x] m1 (fun _ m2 => RunI g h_Wk_countTooMany [vO 2 1 0] m2 (fun r3 m3 => QI (fun r m1 => RunI g h_Md_sentHome [vO 17 0 0, vI x] m1 (fun r' m2 => r = r' ∧ Inv b m2)) (some (vI r3)) m3))) := by
    intro hx
    refine copy_trial hI fun A hA hRo => ?_
    have hOA := hRo.1
    have hn5 : A 2 0 5 = rd mem 0 2 0 5 := hA.sm.2.1
    refine T_St_reportSick hOA.1.1 (fun q => T_Wk_countTooMany (wi_ok hOA) (qi (fin A hRo A (fun _ => rfl) (fun q1 q2 => ?_) (fun c hc e => ?_)))) (fun c hc e q => T_Wk_countTooMany (wi_ok hOA) (qi (fin A hRo A (fun _ => rfl) (fun q1 q2 => ?_) (fun c' hc' e' => ?_)))) (fun c hc e q => T_Wk_countTooMany (wi_ok (ok_n8 hOA (Or.inr rfl))) (qi (fin A hRo _ (fun z => ?_) (fun q1 q2 => ?_) (fun c' hc' e' => ?_))))
    · rw [hn5] at q2
      exact q2 (hx.resolve_left q1)
    · have h12 := hOA.1.2
      exact absurd ⟨by rw [e]; exact nI_pos (by omega), by rw [e, hOA.1.1.2.1.1]; exact nI_ge hc (by omega)⟩ q
    · rw [hn5] at q2
      exact q2 (hx.resolve_left q1)
    · have h12 := hOA.1.2
      have : c = c' := (nI_eq (by omega) (by omega)).mp (e.symm.trans e')
      subst this
      have h1 : A 8 c 4 = 1 := (hOA.2.2.2.1.1 c hc).2.resolve_left q
      rw [← h1, ns_id]
    · have h12 := hOA.1.2
      rw [e] at z
      exact absurd z (nI_n6 (by omega))
    · rw [hn5] at q2
      exact q2 (hx.resolve_left q1)
    · have h12 := hOA.1.2
      have : c = c' := (nI_eq (by omega) (by omega)).mp (e.symm.trans e')
      rw [this]
  refine RunI.ofGo rfl rfl (b_N_sentHome_0 ⟨fun e => body (Or.inl e), fun e => S_St_hasCarer ?_⟩)
  simp only [b2i_eq0, Decidable.not_not]
  refine ⟨fun a => body (Or.inr a), fun a => qi ?_⟩
  have e2 : mem = wv mem (mem (18, 0, 0)) := wv_id.symm
  have hIn := hI
  rw [e2]
  refine S_Md_sentHome hI.1.2.2.2 hI.1.1 hI.1.2.1 (fun _ _ => ⟨rfl, by rw [wv_id]; exact hI⟩) (fun q => absurd q e) (fun c hc z => ?_)
  have h12 := hI.1.1.1.2
  exact absurd ⟨by rw [z]; exact nI_pos (by omega), by rw [z]; show ¬ rd mem 0 2 0 5 ≤ nI c; rw [hI.1.1.1.1.2.1.1]; exact nI_ge hc (by omega)⟩ a
theorem B_moreBy {x d f t : Int32} (hI : Inv b mem) : Both g h_N_moreBy h_Md_moreBy [vI x, vI d, vI f, vI t] b mem := by
  have hO := hI.1.1
  have h5 := hO.1.1.1.2
  refine RunI.ofGo rfl rfl (b_N_moreBy_0 (S_St_hasRoom ?_))
  simp only [b2i_eq0, Decidable.not_not]
  have e2 : mem = wv mem (mem (18, 0, 0)) := wv_id.symm
  have hRd : ∀ r, r < nR (rd mem 0) → x = nI r → (¬ x < 0 ∧ ¬ mem (2, 0, 0) 4 ≤ x) := fun r hr e => by
    rw [e]
    refine ⟨nI_pos (by omega), ?_⟩
    show ¬ rd mem 0 2 0 4 ≤ nI r
    rw [hO.1.1.1.1]
    exact nI_ge hr (by omega)
  refine ⟨fun a => S_N_isShift ?_, fun a => qi ?_⟩
  rotate_left
  · rw [e2]
    exact S_Md_moreBy hI.1.2.2.2 hO (fun _ => ⟨rfl, by rw [wv_id]; exact hI⟩) (fun q => absurd q a) (fun r hr e => absurd (hRd r hr e) a)
  simp only [b2i_eq0, Decidable.not_not]
  refine ⟨fun s => copy_trial hI fun A hA hRo => ?_, fun s => qi ?_⟩
  rotate_left
  · rw [e2]
    exact S_Md_moreBy hI.1.2.2.2 hO (fun q => absurd a q) (fun _ _ => ⟨rfl, by rw [wv_id]; exact hI⟩) (fun r hr e z => absurd z s)
  have hOA := hRo.1
  have a2 : ¬ x < 0 ∧ ¬ nI (nR (rd mem 0)) ≤ x := by
    have := a
    rw [show mem (2, 0, 0) 4 = nI (nR (rd mem 0)) from hO.1.1.1.1] at this
    exact this
  obtain ⟨r, hr, rfl⟩ := (hasG (by omega)).mp a2
  have hrA : r < nR A := by rw [hA.sm.nR]; exact hr
  have h12 := hOA.1.2
  refine T_St_hire hOA.1.1 h12 ?_
  have hBh : Bd (hirN A (nI r) d f t) := by
    have o := @hirN_o A (nI r) d f t
    have e4 : hirN A (nI r) d f t 2 0 4 = A 2 0 4 := o ⟨by simp, by simp⟩
    have e6 : hirN A (nI r) d f t 2 0 6 = A 2 0 6 := o ⟨by simp, by simp⟩
    have e5 : hirN A (nI r) d f t 2 0 5 = nI (nC A + 1) := by simp [hirN, nset_ap]
    have nCe := hirN_nC (N := A) (r := nI r) (d := d) (f := f) (t := t) (by omega)
    have nRe : nR (hirN A (nI r) d f t) = nR A := by show (hirN A (nI r) d f t 2 0 4).toNatClampNeg = _; rw [e4]
    have nKe : nK (hirN A (nI r) d f t) = nK A := by show (hirN A (nI r) d f t 2 0 6).toNatClampNeg = _; rw [e6]
    exact ⟨⟨by rw [nRe, e4]; exact hOA.1.1.1.1, by rw [nRe]; exact hOA.1.1.1.2⟩, ⟨by rw [nCe, e5], by omega⟩, ⟨by rw [nKe, e6]; exact hOA.1.1.2.2.1, by rw [nKe]; exact hOA.1.1.2.2.2⟩⟩
  have hrh : r < nR (hirN A (nI r) d f t) := by
    have e4 : hirN A (nI r) d f t 2 0 4 = A 2 0 4 := hirN_o ⟨by simp, by simp⟩
    have nRe : nR (hirN A (nI r) d f t) = nR A := by show (hirN A (nI r) d f t 2 0 4).toNatClampNeg = _; rw [e4]
    rw [nRe]; exact hrA
  refine T_St_placesInAll hBh hrh ?_
  have e0 : rd (wr mem 1 (hirN A (nI r) d f t)) 0 = rd mem 0 := rd_ne (by decide)
  refine S_St_placesInAll (by rw [e0]; exact hO.1.1) (by rw [e0]; exact hr) (qi ?_)
  rw [e0, ← allF_lq hA hr, wr1_v]
  have h5A := hOA.1.1.1.2
  have hRm : (¬ nI r < 0 ∧ ¬ A 2 0 4 ≤ nI r) := ⟨nI_pos (by omega), by rw [hOA.1.1.1.1]; exact nI_ge hrA (by omega)⟩
  refine S_Md_moreBy hRo.2.2.2 hOA (fun q => absurd hRm q) (fun _ q => absurd s q) (fun r' hr' e _ => ⟨?_, ?_⟩)
  · have h5A := hOA.1.1.1.2
    have : r = r' := (nI_eq (by omega) (by omega)).mp e
    rw [this]
  · rw [← wr1_v]
    exact hI.agr agr_wr
theorem B_income {x : Int32} (hI : Inv b mem) (hb : b < 2 ^ 28) : Both g h_N_income h_Md_income [vI x] b mem := by
  refine RunI.ofGo rfl rfl (b_N_income_0 (copy_trial hI fun A hA hRo => ?_))
  have hOA := hRo.1
  obtain ⟨p, w0, hp, hw0, h8, h7⟩ := hRo.2.2.1
  refine T_Wk_passWeeks (wi_ok hOA) (fun q => ⟨fun z => absurd z (by decide), fun _ => qi ?_⟩) (fun w h1 h52 e => ⟨fun _ => qi ?_, fun z => absurd ?_ z⟩)
  · rw [wr1_v]
    refine S_Md_income hRo.2.2.2 hOA hRo.2.1 (fun _ => ⟨rfl, ?_⟩) (fun w h1 h52 e => absurd ?_ q)
    · rw [← wr1_v]; exact hI.agr agr_wr
    · rw [e]
      exact (win (a := 1) (b := 52) (by omega) (by decide) (by decide)).mpr ⟨h1, h52⟩
  · have e1 : wr mem 1 (runN (fun _ => wekN) A w) (2, 1, 0) 9 = runN (fun _ => wekN) A w 2 0 9 := wr_2 0 9
    have e2 : wr mem 1 (runN (fun _ => wekN) A w) (2, 0, 0) 9 = A 2 0 9 := by
      rw [wr_ne (by decide), hA.c2 (j := 9) (by decide) (by decide)]
      rfl
    rw [e1, e2, wr1_v]
    refine S_Md_income hRo.2.2.2 hOA hRo.2.1 (fun q => absurd ?_ q) (fun w' h1' h52' e' v' T H S hv' => ⟨?_, ?_⟩)
    · rw [e]
      exact (win (a := 1) (b := 52) (by omega) (by decide) (by decide)).mpr ⟨h1, h52⟩
    · have : w = w' := (nI_eq (by omega) (by omega)).mp (e.symm.trans e')
      rw [this]
    · have h1 : Inv b (wr mem 1 (runN (fun _ => wekN) A w)) := hI.agr agr_wr
      have e0 : rd (wr mem 1 (runN (fun _ => wekN) A w)) 0 = rd mem 0 := rd_ne (by decide)
      exact (Inv.agr (h1.v (v' := v') (by rw [e0]; exact hv'.lq hA.symm)) agr_sm).agr agr_th
  · rw [(weks_78 w).1, h7, nI_add]
    exact nI_pos' (by omega)
end TR
