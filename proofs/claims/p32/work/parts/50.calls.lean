/-! THE CLASS'S CALLS ALONE: what each answers, and the state behind it -/
theorem wr_comm {m : Mm} {k k' : Nat} {A B : Nu} (h : ¬ k = k') : wr (wr m k A) k' B = wr (wr m k' B) k A := by
  funext o j
  obtain ⟨t, q, i⟩ := o
  have e : ∀ (M : Mm) (kk : Nat) (C : Nu), ¬ (q = kk ∧ t < 10) → wr M kk C (t, q, i) j = M (t, q, i) j := fun M kk C hh => dif_neg hh
  by_cases h1 : q = k ∧ t < 10
  · obtain ⟨rfl, ht⟩ := h1
    rw [e _ _ _ (fun z => h z.1), wr_in ht, wr_in ht]
  · by_cases h2 : q = k' ∧ t < 10
    · obtain ⟨rfl, ht⟩ := h2
      rw [wr_in ht, e _ _ _ (fun z => h z.1.symm), wr_in ht]
    · rw [e _ _ _ h2, e _ _ _ h1, e _ _ _ h1, e _ _ _ h2]
theorem mset_wr {m : Mm} {N : Nu} {q t k i j : Nat} {x : Int32} (ht : ¬ t < 10) : mset (wr m q N) t k i j x = wr (mset m t k i j x) q N := by
  funext o j'
  obtain ⟨t', k', i'⟩ := o
  by_cases h : ((t', k', i') : Rf) = (t, k, i)
  · rw [h, mset_at, wr_big ht, wr_big ht, mset_at]
  · rw [mset_ne _ _ _ _ _ _ h]
    by_cases h2 : k' = q ∧ t' < 10
    · obtain ⟨rfl, ht'⟩ := h2
      rw [wr_in ht', wr_in ht']
    · have e : ∀ (M : Mm), wr M q N (t', k', i') j' = M (t', k', i') j' := fun M => dif_neg h2
      rw [e, e, mset_ne _ _ _ _ _ _ h]
def kpM (m : Mm) (old sz : Nat) : Mm := if sz = 6 then mset m 10 0 0 1 (nI ((old + 1) % 7)) else mset m 10 0 0 2 (nI (sz + 1))
theorem kp_ne {m : Mm} {old sz : Nat} {o : Rf} (h : ¬ o = (10, 0, 0)) : kpM m old sz o = m o := by
  unfold kpM
  split
  · exact mset_ne _ _ _ _ _ _ h
  · exact mset_ne _ _ _ _ _ _ h
theorem kp_wr {m : Mm} {N : Nu} {old sz : Nat} : kpM (wr m 0 N) old sz = wr (kpM m old sz) 0 N := by
  unfold kpM
  split
  · exact mset_wr (by decide)
  · exact mset_wr (by decide)
theorem rd_kp {m : Mm} {old sz k : Nat} : rd (kpM m old sz) k = rd m k := by
  funext t i j
  have ht := t.isLt
  show kpM m old sz (t.val, k, i) j = m (t.val, k, i) j
  rw [kp_ne (by intro z; simp only [Prod.mk.injEq] at z; omega)]
/-- the history's two numbers -/
def Hn (m : Mm) (old sz : Nat) : Prop := old < 7 ∧ sz ≤ 6 ∧ m (10, 0, 0) 1 = nI old ∧ m (10, 0, 0) 2 = nI sz
def Hx (m : Mm) : Prop := ∃ old sz, Hn m old sz
/-- behind a call that recorded nothing -/
def Sf (m m' : Mm) : Prop := Hx m' ∧ rd m' 10 = rd m 10 ∧ m' (13, 0, 0) = m (13, 0, 0)
/-- behind a call that recorded the state N -/
def Dn (m : Mm) (N : Nu) (m' : Mm) : Prop := (∃ old sz, Hn m' old (sz + 1) ∧ Lq N (rd m' (2 + (old + sz) % 7))) ∧ rd m' 10 = rd m 10 ∧ m' (13, 0, 0) = m (13, 0, 0)
theorem Dn.sf {m m' : Mm} {N : Nu} (h : Dn m N m') : Sf m m' := by
  obtain ⟨⟨old, sz, h1, -⟩, h2, h3⟩ := h
  exact ⟨⟨old, sz + 1, h1⟩, h2, h3⟩
theorem Sf.rfl' {m : Mm} (h : Hx m) : Sf m m := ⟨h, rfl, rfl⟩
theorem Sf.trans {m m' m'' : Mm} (h : Sf m m') (h2 : Sf m' m'') : Sf m m'' := ⟨h2.1, h2.2.1.trans h.2.1, h2.2.2.trans h.2.2⟩
theorem hn_wr {m : Mm} {k old sz : Nat} {A : Nu} (h : Hn m old sz) : Hn (wr m k A) old sz := by
  have e : wr m k A (10, 0, 0) = m (10, 0, 0) := wr_big (by decide)
  exact ⟨h.1, h.2.1, by rw [e]; exact h.2.2.1, by rw [e]; exact h.2.2.2⟩
theorem sf_wr {m : Mm} {k : Nat} {A : Nu} (h : Hx m) (hk : ¬ k = 10) : Sf m (wr m k A) := by
  obtain ⟨old, sz, h⟩ := h
  exact ⟨⟨old, sz, hn_wr h⟩, rd_ne (fun z => hk z.symm), wr_big (by decide)⟩
theorem done_c {m : Mm} {N A : Nu} {old sz : Nat} (h : Hn m old sz) (hA : Lq N A) : Dn m N (kpM (wr m (2 + (old + sz) % 7) A) old sz) := by
  have h1 := hn_wr (k := 2 + (old + sz) % 7) (A := A) h
  obtain ⟨a1, a2, a3, a4⟩ := h1
  refine ⟨?_, ?_, ?_⟩
  · by_cases h6 : sz = 6
    · refine ⟨(old + 1) % 7, 5, ⟨Nat.mod_lt _ (by decide), by decide, ?_, ?_⟩, ?_⟩
      · unfold kpM
        rw [if_pos h6, mset_at, pk_us]
      · unfold kpM
        rw [if_pos h6, mset_at, pk_un (by decide), a4, h6]
      · rw [rd_kp, show 2 + ((old + 1) % 7 + 5) % 7 = 2 + (old + sz) % 7 by omega, rd_wr]
        exact hA
    · refine ⟨old, sz, ⟨a1, by omega, ?_, ?_⟩, ?_⟩
      · unfold kpM
        rw [if_neg h6, mset_at, pk_un (by decide), a3]
      · unfold kpM
        rw [if_neg h6, mset_at, pk_us]
      · rw [rd_kp, rd_wr]
        exact hA
  · rw [rd_kp, rd_ne (by omega)]
  · rw [kp_ne (by decide), wr_big (by decide)]
section CALLS
variable {g : Wg} {m M : Mm} {P : Int32 → Mm → Prop} {PV : Mm → Prop} {N N' : Nu} {old sz : Nat}
theorem note_c (hO : Ok N) (hH : Hn m old sz) (hp : ∀ A, Lq N A → PV (wr (wr m (2 + (old + sz) % 7) A) 0 N)) : RunV g h_Hi_note [vO 10 0 0, vO 2 0 0] (wr m 0 N) PV := by
  obtain ⟨a1, a2, a3, a4⟩ := hn_wr (k := 0) (A := N) hH
  refine RunV.ofGo rfl rfl (b_Hi_note_0 ?_)
  rw [a3, a4, nI_add, show nI (old + sz) - nI (old + sz) / 7 * 7 = nI ((old + sz) % 7) from pk_rem (d := 7) (by omega) (by omega) (by omega), nI_clamp (n := (old + sz) % 7) (by omega)]
  refine ⟨by decide, vp_in_nI (by omega) (by omega), ?_⟩
  have e1 : wr (wr m 0 N) (2 + (old + sz) % 7) (rd (wr m 0 N) (2 + (old + sz) % 7)) = wr m 0 N := wr_rd
  have e0 : rd (wr m 0 N) 0 = N := rd_wr
  have := T_St_copyFrom (g := g) (m := wr m 0 N) (k := 2 + (old + sz) % 7) (N := rd (wr m 0 N) (2 + (old + sz) % 7)) (PV := fun m1 => QV PV none m1) (k1 := 0) (by omega) (by rw [e0]; exact hO.1.1) (by rw [e0]; exact fl_ok hO) (fun A hA => qv ?_)
  · rwa [e1] at this
  · rw [e0] at hA
    rw [wr_comm (by omega)]
    exact hp A hA
theorem keep_neg {x : Int32} {m : Mm} (hx : x < 0) (hp : P x m) : RunI g h_Hi_keepIfDone [vO 10 0 0, vI x] m P :=
  RunI.ofGo rfl rfl (b_Hi_keepIfDone_0 ⟨fun z => absurd hx (Int32.not_lt.mpr z), fun _ => qi hp⟩)
theorem keep_pos {x : Int32} {m : Mm} (hx : ¬ x < 0) (h : Hn m old sz) (hp : P x (kpM m old sz)) : RunI g h_Hi_keepIfDone [vO 10 0 0, vI x] m P := by
  obtain ⟨ho, hs, h1, h2⟩ := h
  unfold kpM at hp
  refine RunI.ofGo rfl rfl (b_Hi_keepIfDone_0 ⟨fun _ => ?_, fun z => absurd (Int32.not_lt.mp hx) z⟩)
  rw [h1, h2]
  refine ⟨fun z => ⟨by decide, qi ?_⟩, fun z => qi ?_⟩
  · have : sz = 6 := by
      have := (nI_leI (a := 6) (by omega) (by omega)).mp z
      omega
    rw [if_pos this] at hp
    rw [nI_1, show nI (old + 1) - nI (old + 1) / 7 * 7 = nI ((old + 1) % 7) from pk_rem (d := 7) (by omega) (by omega) (by omega)]
    exact hp
  · have : ¬ sz = 6 := fun q => z (by rw [q]; decide)
    rw [if_neg this] at hp
    rw [nI_1]
    exact hp
theorem kp_c {x : Int32} (h : Hn M old sz) (hx : ¬ x < 0) (hp : P x (wr (kpM M old sz) 0 N')) : RunI g h_Hi_keepIfDone [vO 10 0 0, vI x] (wr M 0 N') P :=
  keep_pos hx (hn_wr h) (by rw [kp_wr]; exact hp)
theorem C_set {x y : Int32} {j : Nat} (hO : Ok N) (hH : Hx m) (hj : j < 5) (hx : x = nI j) (hr : ¬ y < staV 0 j ∧ ¬ staV 1 j < y) (hp : ∀ m', Dn m N m' → P (N 3 0 j) (wr m' 0 (nset N 3 0 j y))) : RunI g h_N_set [vO 1 0 0, vI x, vI y] (wr m 0 N) P := by
  obtain ⟨old, sz, hH⟩ := hH
  refine RunI.ofGo rfl rfl (b_N_set_0 (note_c hO hH fun A hA => ?_))
  refine T_St_changeSetting (PA := True) (fun q => absurd ?_ q) (fun j' hj' e a => absurd ?_ a) (fun j' hj' e a => ?_)
  · rw [hx]; exact (win (a := 0) (b := 4) (by omega) (by decide) (by decide)).mpr ⟨by omega, by omega⟩
  · have : j = j' := (nI_eq (by omega) (by omega)).mp (hx.symm.trans e)
    rw [← this]; exact hr
  · have : j = j' := (nI_eq (by omega) (by omega)).mp (hx.symm.trans e)
    subst this
    exact kp_c (hn_wr hH) (hO.2.2.2.2.2 j hj) (qi (hp _ (done_c hH hA)))
theorem C_room {f t c r : Int32} (hO : Ok N) (hH : Hx m) (hb : RoomB f t c r) (h5 : nR N < 5) (hp : ∀ m', Dn m N m' → P (nI (nR N)) (wr m' 0 (addRN N f t c r))) : RunI g h_N_room [vO 1 0 0, vI f, vI t, vI c, vI r] (wr m 0 N) P := by
  obtain ⟨old, sz, hH⟩ := hH
  refine RunI.ofGo rfl rfl (b_N_room_0 (note_c hO hH fun A hA => ?_))
  exact T_St_addRoom hO.1.1 (fun q => absurd hb q) (fun _ q => absurd q (by omega)) (fun _ _ => kp_c (hn_wr hH) (nI_pos (by omega)) (qi (hp _ (done_c hH hA))))
theorem C_carer {r : Nat} {d f t : Int32} (hO : Ok N) (hH : Hx m) (hr : r < nR N) (hs : ShiftB d f t) (h12 : nC N < 12) (hp : ∀ m', Dn m N m' → P (nI (nC N)) (wr m' 0 (hirN N (nI r) d f t))) : RunI g h_N_carer [vO 1 0 0, vI (nI r), vI d, vI f, vI t] (wr m 0 N) P := by
  obtain ⟨old, sz, hH⟩ := hH
  have h5 := hO.1.1.1.2
  have hR : ¬ nI r < 0 ∧ ¬ N 2 0 4 ≤ nI r := ⟨nI_pos (by omega), by rw [hO.1.1.1.1]; exact nI_ge hr (by omega)⟩
  refine RunI.ofGo rfl rfl (b_N_carer_0 (note_c hO hH fun A hA => ?_))
  exact T_St_addCarer hO.1.1 (fun q => absurd hR q) (fun q => absurd hs q) (fun _ _ q => absurd q (by omega)) (fun _ _ _ => kp_c (hn_wr hH) (nI_pos (by omega)) (qi (hp _ (done_c hH hA))))
theorem C_child {a f w : Int32} (hO : Ok N) (hH : Hx m) (hb : ChildB a f w) (h24 : nK N < 24) (hp : ∀ m', Dn m N m' → P (nI (nK N)) (wr m' 0 (addKN N a f w))) : RunI g h_N_child [vO 1 0 0, vI a, vI f, vI w] (wr m 0 N) P := by
  obtain ⟨old, sz, hH⟩ := hH
  refine RunI.ofGo rfl rfl (b_N_child_0 (note_c hO hH fun A hA => ?_))
  exact T_St_addChild hO.1.1 (fun q => absurd hb q) (fun _ q => absurd q (by omega)) (fun _ _ => kp_c (hn_wr hH) (nI_pos (by omega)) (qi (hp _ (done_c hH hA))))
theorem admC_le (hO : Ok N) : admC 24 N ≤ 32 := by
  have := admX_pc 24 N 0 hO.1.1.2.2.2 (fun j hj q => absurd q (has_0 (by have := hO.1.1.2.2.2; omega)))
  rw [pcI_0 rfl, Nat.zero_add, pcI_cnt] at this
  rw [← this]
  exact cnt_le _ _
theorem C_adm (hO : Ok N) (hH : Hx m) (hp : ∀ m', Dn m N m' → P (nI (admC 24 N)) (wr m' 0 (admN 24 N))) : RunI g h_N_admit [vO 1 0 0] (wr m 0 N) P := by
  obtain ⟨old, sz, hH⟩ := hH
  have hc := admC_le hO
  refine RunI.ofGo rfl rfl (b_N_admit_0 (note_c hO hH fun A hA => ?_))
  exact T_Ad_admitAll hO.1.1 (kp_c (hn_wr hH) (nI_pos (by omega)) (qi (hp _ (done_c hH hA))))
theorem C_weeks {w : Nat} (hO : Ok N) (hH : Hx m) (h1 : 1 ≤ w) (h52 : w ≤ 52) (hw : ¬ runN (fun _ => wekN) N w 2 0 7 < 0) (hp : ∀ m', Dn m N m' → P (runN (fun _ => wekN) N w 2 0 7) (wr m' 0 (runN (fun _ => wekN) N w))) : RunI g h_N_weeks [vO 1 0 0, vI (nI w)] (wr m 0 N) P := by
  obtain ⟨old, sz, hH⟩ := hH
  refine RunI.ofGo rfl rfl (b_N_weeks_0 (note_c hO hH fun A hA => ?_))
  refine T_Wk_passWeeks (wi_ok hO) (fun q => absurd ?_ q) (fun w' h1' h2' e => ?_)
  · exact (win (a := 1) (b := 52) (by omega) (by decide) (by decide)).mpr ⟨h1, h52⟩
  · have : w = w' := (nI_eq (by omega) (by omega)).mp e
    subst this
    exact kp_c (hn_wr hH) hw (qi (hp _ (done_c hH hA)))
theorem C_visit {x y : Int32} (hO : Ok N) (hH : Hx m) (h0 : ∀ m' e, Sf m m' → e < 0 → P e (wr m' 0 N)) (h1 : ∀ c s m', Dn m N m' → c < nK N → x = nI c → s < 10 → y = nI s → (N 9 c 3 = 1 ∧ N 9 c 6 = 0 ∧ N 9 c 8 = -6) → P (nI (cnt (fun j => ¬ nset N 9 c 8 (nI s) 9 j 8 = -6) (nK N))) (wr m' 0 (nset N 9 c 8 (nI s)))) : RunI g h_N_visit [vO 1 0 0, vI x, vI y] (wr m 0 N) P := by
  obtain ⟨old, sz, hH⟩ := hH
  have h24 := hO.1.1.2.2.2
  refine RunI.ofGo rfl rfl (b_N_visit_0 (note_c hO hH fun A hA => ?_))
  have hs : Sf m (wr m (2 + (old + sz) % 7) A) := sf_wr ⟨old, sz, hH⟩ (by omega)
  refine T_Se_planVisit hO.1.1 hO.2.1 (fun _ => keep_neg (by decide) (qi (h0 _ _ hs (by decide)))) (fun _ _ _ _ _ _ _ => keep_neg (by decide) (qi (h0 _ _ hs (by decide)))) (fun _ _ _ _ _ _ _ _ _ => keep_neg (by decide) (qi (h0 _ _ hs (by decide)))) (fun c s hc e hs e2 q _ => kp_c (hn_wr hH) (nI_pos ?_) (qi (h1 c s _ (done_c hH hA) hc e hs e2 q)))
  have := cnt_le (fun j => ¬ nset N 9 c 8 (nI s) 9 j 8 = -6) (nK N)
  omega
theorem C_swap {x y z w : Int32} (hO : Ok N) (hH : Hx m) (h0 : ∀ m', Sf m m' → ¬ ((¬ x < 0 ∧ ¬ N 2 0 6 ≤ x) ∧ (¬ z < 0 ∧ ¬ N 2 0 6 ≤ z) ∧ ¬ x = z ∧ (¬ y < 0 ∧ ¬ 9 < y) ∧ (¬ w < 0 ∧ ¬ 9 < w)) → P (-1) (wr m' 0 N)) (h1 : ∀ a s b t m', Sf m m' → a < nK N → x = nI a → s < 10 → y = nI s → b < nK N → z = nI b → t < 10 → w = nI t → ¬ a = b → ¬ canP N a s b t → P (-5) (wr m' 0 N)) (h2 : ∀ a s b t m', Dn m N m' → a < nK N → x = nI a → s < 10 → y = nI s → b < nK N → z = nI b → t < 10 → w = nI t → ¬ a = b → canP N a s b t → P 1 (wr m' 0 (excN N a s b t))) : RunI g h_N_swap [vO 1 0 0, vI x, vI y, vI z, vI w] (wr m 0 N) P := by
  obtain ⟨old, sz, hH⟩ := hH
  refine RunI.ofGo rfl rfl (b_N_swap_0 (note_c hO hH fun A hA => ?_))
  have hs : Sf m (wr m (2 + (old + sz) % 7) A) := sf_wr ⟨old, sz, hH⟩ (by omega)
  exact T_Se_exchange hO.1.1 hO.2.1 (fun q => keep_neg (by decide) (qi (h0 _ hs q))) (fun a s b t k1 k2 k3 k4 k5 k6 k7 k8 k9 q => keep_neg (by decide) (qi (h1 a s b t _ hs k1 k2 k3 k4 k5 k6 k7 k8 k9 q))) (fun a s b t k1 k2 k3 k4 k5 k6 k7 k8 k9 q => kp_c (hn_wr hH) (by decide) (qi (h2 a s b t _ (done_c hH hA) k1 k2 k3 k4 k5 k6 k7 k8 k9 q)))
theorem C_giveBack {x y : Int32} (hO : Ok N) (hH : Hx m) (h0 : ∀ m' e, Sf m m' → e < 0 → P e (wr m' 0 N)) (h1 : ∀ c s m', Dn m N m' → c < nK N → x = nI c → s < 10 → y = nI s → Has (N 9 c 5) (nI s) → P (nI (pcI (N 9 c 5)) - 1) (wr m' 0 (nset N 9 c 5 (dropI (N 9 c 5) s)))) : RunI g h_N_giveBack [vO 1 0 0, vI x, vI y] (wr m 0 N) P := by
  obtain ⟨old, sz, hH⟩ := hH
  refine RunI.ofGo rfl rfl (b_N_giveBack_0 (note_c hO hH fun A hA => ?_))
  have hs : Sf m (wr m (2 + (old + sz) % 7) A) := sf_wr ⟨old, sz, hH⟩ (by omega)
  have pos : ∀ {c s : Nat}, s < 10 → Has (N 9 c 5) (nI s) → ¬ nI (pcI (N 9 c 5)) - 1 < 0 := fun {c s} hs h => by
    have := pcI_drop (x := N 9 c 5) (c := s) (by omega) h
    have h32 : pcI (N 9 c 5) ≤ 32 := by rw [pcI_cnt]; exact cnt_le _ _
    rw [← this, nI_pred]
    exact nI_pos (by omega)
  exact T_Se_handBack hO.1.1 (fun _ => keep_neg (by decide) (qi (h0 _ _ hs (by decide)))) (fun _ _ _ _ _ _ _ => keep_neg (by decide) (qi (h0 _ _ hs (by decide)))) (fun c s hc e hs e2 q1 q2 => kp_c (hn_wr hH) (pos hs q1) (qi (h1 c s _ (done_c hH hA) hc e hs e2 q1)))
theorem C_sick {c : Nat} (hO : Ok N) (hH : Hx m) (hc : c < nC N) (h0 : ∀ m', Sf m m' → ¬ N 8 c 4 = 0 → P (-5) (wr m' 0 N)) (h1 : ∀ m', Dn m N m' → N 8 c 4 = 0 → P (nI (cnt (fun j => ¬ nset N 8 c 4 1 8 j 4 = 0) (nC N))) (wr m' 0 (nset N 8 c 4 1))) : RunI g h_N_sick [vO 1 0 0, vI (nI c)] (wr m 0 N) P := by
  obtain ⟨old, sz, hH⟩ := hH
  have h12 := hO.1.2
  refine RunI.ofGo rfl rfl (b_N_sick_0 (note_c hO hH fun A hA => ?_))
  have hs : Sf m (wr m (2 + (old + sz) % 7) A) := sf_wr ⟨old, sz, hH⟩ (by omega)
  have eqc : ∀ {c' : Nat}, c' < nC N → nI c = nI c' → c = c' := fun h2 e => (nI_eq (by omega) (by omega)).mp e
  refine T_St_reportSick hO.1.1 (fun q => absurd (has_car hO hc) q) (fun c' hc' e q => keep_neg (by decide) (qi (h0 _ hs ?_))) (fun c' hc' e q => ?_)
  · rw [eqc hc' e]; exact q
  · have := eqc hc' e
    subst this
    refine kp_c (hn_wr hH) (nI_pos ?_) (qi (h1 _ (done_c hH hA) q))
    have := cnt_le (fun j => ¬ nset N 8 c 4 1 8 j 4 = 0) (nC N)
    omega
/-! what would be: on the trial state -/
theorem trial_c {PV : Mm → Prop} (hO : Ok N) (hp : ∀ A, Lq N A → PV (wr (wr m 0 N) 1 A)) : RunV g h_St_copyFrom [vO 2 1 0, vO 2 0 0] (wr m 0 N) PV := by
  have e1 : wr (wr m 0 N) 1 (rd (wr m 0 N) 1) = wr m 0 N := wr_rd
  have e0 : rd (wr m 0 N) 0 = N := rd_wr
  have := T_St_copyFrom (g := g) (m := wr m 0 N) (k := 1) (N := rd (wr m 0 N) 1) (PV := PV) (k1 := 0) (by decide) (by rw [e0]; exact hO.1.1) (by rw [e0]; exact fl_ok hO) (fun A hA => by rw [e0] at hA; exact hp A hA)
  rwa [e1] at this
theorem tr_sw {A : Nu} : wr (wr m 0 N) 1 A = wr (wr m 1 A) 0 N := wr_comm (by decide)
theorem C_wouldAdm (hO : Ok N) (hH : Hx m) (hp : ∀ A m', Lq N A → Sf m m' → P (admX 24 A 0) (wr m' 0 N)) : RunI g h_N_wouldAdmit [vO 1 0 0] (wr m 0 N) P := by
  refine RunI.ofGo rfl rfl (b_N_wouldAdmit_0 (trial_c hO fun A hA => ?_))
  have hOA := ok_lq hO hA
  have h24 := hOA.1.1.2.2.2
  have hs := admN_sm 24 A
  refine T_Ad_admitAll hOA.1.1 (T_St_childrenInState (hs.bd hOA.1.1) ?_)
  rw [tr_sw]
  refine T_St_childrenInState hO.1.1 ?_
  have hres : setI (fun j => admN 24 A 9 j 3 = 1) (nK (admN 24 A)) &&& (setI (fun j => N 9 j 3 = 1) (nK N) ^^^ -1) = admX 24 A 0 := by
    refine has_ext fun j hj => ?_
    have hx := (admX_has 24 A 0 h24 j hj).1
    rw [hx, has_bit hj, bt_and, bt_xor, bt_neg hj, Bool.and_eq_true, ← has_bit hj, Bool.xor_true, Bool.not_eq_true', ← Bool.not_eq_true, ← has_bit hj, has_setI (by rw [hs.nK]; omega) hj, has_setI (by have := hO.1.1.2.2.2; omega) hj, hs.nK, hA.sm.nK]
    constructor
    · rintro ⟨⟨q1, q2⟩, q3⟩
      exact Or.inr ⟨q1, q2, fun z => q3 ⟨q1, by rwa [hA.c9 q1 (by decide)] at z⟩⟩
    · rintro (q | ⟨q1, q2, q3⟩)
      · exact absurd q (has_0 hj)
      · exact ⟨⟨q1, q2⟩, fun z => q3 (by rw [hA.c9 q1 (by decide)]; exact z.2)⟩
  refine qi ?_
  rw [hres]
  exact hp A _ hA (sf_wr hH (by decide))
theorem C_home6 (hO : Ok N) (hH : Hx m) (hp : ∀ A m', Lq N A → Sf m m' → P (tooF A) (wr m' 0 N)) : RunI g h_N_sentHome [vO 1 0 0, vI (-6)] (wr m 0 N) P := by
  refine RunI.ofGo rfl rfl (b_N_sentHome_0 ⟨fun _ => trial_c hO fun A hA => ?_, fun q => absurd rfl q⟩)
  have hOA := ok_lq hO hA
  have h12 := hOA.1.2
  have fin : P (tooF A) (wr (wr m 0 N) 1 A) := by rw [tr_sw]; exact hp A _ hA (sf_wr hH (by decide))
  refine T_St_reportSick hOA.1.1 (fun _ => T_Wk_countTooMany (wi_ok hOA) (qi fin)) (fun c hc e q => absurd e.symm (nI_n6 (by omega))) (fun c hc e q => absurd e.symm (nI_n6 (by omega)))
theorem C_home {c : Nat} (hO : Ok N) (hH : Hx m) (hc : c < nC N) (hp : ∀ A m', Lq N A → Sf m m' → P (tooF (nset A 8 c 4 1)) (wr m' 0 N)) : RunI g h_N_sentHome [vO 1 0 0, vI (nI c)] (wr m 0 N) P := by
  have h12 := hO.1.2
  refine RunI.ofGo rfl rfl (b_N_sentHome_0 ⟨fun e => absurd e (nI_n6 (by omega)), fun _ => T_St_hasCarer ?_⟩)
  simp only [b2i_eq0, Decidable.not_not]
  refine ⟨fun _ => trial_c hO fun A hA => ?_, fun q => absurd (has_car hO hc) q⟩
  have hOA := ok_lq hO hA
  have hcA : c < nC A := by rw [hA.sm.nC]; exact hc
  have eqc : ∀ {c' : Nat}, c' < nC A → nI c = nI c' → c = c' := fun h2 e => (nI_eq (by omega) (by have := hOA.1.2; omega)).mp e
  have fin : ∀ B, P (tooF (nset A 8 c 4 1)) (wr (wr m 0 N) 1 B) := fun B => by rw [tr_sw]; exact hp A _ hA (sf_wr hH (by decide))
  refine T_St_reportSick hOA.1.1 (fun q => absurd (has_car hOA hcA) q) (fun c' hc' e q => T_Wk_countTooMany (wi_ok hOA) (qi ?_)) (fun c' hc' e q => T_Wk_countTooMany (wi_ok (ok_n8 hOA (Or.inr rfl))) (qi ?_))
  · have := eqc hc' e
    subst this
    have h1 : A 8 c 4 = 1 := (hOA.2.2.2.1.1 c hcA).2.resolve_left q
    have h2 : nset A 8 c 4 1 = A := by rw [← h1, ns_id]
    have := fin A
    rwa [h2] at this
  · have := eqc hc' e
    subst this
    exact fin _
theorem hir_bd {r : Nat} {d f t : Int32} (hO : Ok N) : Bd (hirN N (nI r) d f t) ∧ nR (hirN N (nI r) d f t) = nR N := by
  have h12 := hO.1.2
  have o := @hirN_o N (nI r) d f t
  have e4 : hirN N (nI r) d f t 2 0 4 = N 2 0 4 := o ⟨by simp, by simp⟩
  have e6 : hirN N (nI r) d f t 2 0 6 = N 2 0 6 := o ⟨by simp, by simp⟩
  have e5 : hirN N (nI r) d f t 2 0 5 = nI (nC N + 1) := by simp [hirN, nset_ap]
  have nCe := hirN_nC (N := N) (r := nI r) (d := d) (f := f) (t := t) (by omega)
  have nRe : nR (hirN N (nI r) d f t) = nR N := by show (hirN N (nI r) d f t 2 0 4).toNatClampNeg = _; rw [e4]
  have nKe : nK (hirN N (nI r) d f t) = nK N := by show (hirN N (nI r) d f t 2 0 6).toNatClampNeg = _; rw [e6]
  exact ⟨⟨⟨by rw [nRe, e4]; exact hO.1.1.1.1, by rw [nRe]; exact hO.1.1.1.2⟩, ⟨by rw [nCe, e5], by omega⟩, ⟨by rw [nKe, e6]; exact hO.1.1.2.2.1, by rw [nKe]; exact hO.1.1.2.2.2⟩⟩, nRe⟩
theorem C_moreBy {r : Nat} {d f t : Int32} (hO : Ok N) (hH : Hx m) (hr : r < nR N) (hs : ShiftB d f t) (hp : ∀ A m', Lq N A → Sf m m' → P (allF (hirN A (nI r) d f t) r - allF N r) (wr m' 0 N)) : RunI g h_N_moreBy [vO 1 0 0, vI (nI r), vI d, vI f, vI t] (wr m 0 N) P := by
  have h5 := hO.1.1.1.2
  have hR : ¬ nI r < 0 ∧ ¬ N 2 0 4 ≤ nI r := ⟨nI_pos (by omega), by rw [hO.1.1.1.1]; exact nI_ge hr (by omega)⟩
  refine RunI.ofGo rfl rfl (b_N_moreBy_0 (T_St_hasRoom ?_))
  simp only [b2i_eq0, Decidable.not_not]
  refine ⟨fun _ => S_N_isShift ?_, fun q => absurd hR q⟩
  simp only [b2i_eq0, Decidable.not_not]
  refine ⟨fun _ => trial_c hO fun A hA => ?_, fun q => absurd hs q⟩
  have hOA := ok_lq hO hA
  obtain ⟨hBh, hRh⟩ := hir_bd (r := r) (d := d) (f := f) (t := t) hOA
  refine T_St_hire hOA.1.1 hOA.1.2 (T_St_placesInAll hBh (by rw [hRh, hA.sm.nR]; exact hr) ?_)
  rw [tr_sw]
  exact T_St_placesInAll hO.1.1 hr (qi (hp A _ hA (sf_wr hH (by decide))))
theorem C_income {w : Nat} (hO : Ok N) (hH : Hx m) (h1 : 1 ≤ w) (h52 : w ≤ 52) (hw : ∀ A, Lq N A → ¬ runN (fun _ => wekN) A w 2 0 7 < 0) (hp : ∀ A m', Lq N A → Sf m m' → P (runN (fun _ => wekN) A w 2 0 9 - N 2 0 9) (wr m' 0 N)) : RunI g h_N_income [vO 1 0 0, vI (nI w)] (wr m 0 N) P := by
  refine RunI.ofGo rfl rfl (b_N_income_0 (trial_c hO fun A hA => ?_))
  have hOA := ok_lq hO hA
  refine T_Wk_passWeeks (wi_ok hOA) (fun q => absurd ?_ q) (fun w' h1' h2' e => ?_)
  · exact (win (a := 1) (b := 52) (by omega) (by decide) (by decide)).mpr ⟨h1, h52⟩
  · have : w = w' := (nI_eq (by omega) (by omega)).mp e
    subst this
    refine ⟨fun _ => qi ?_, fun q => absurd (Int32.not_lt.mp (hw A hA)) q⟩
    have e1 : wr (wr m 0 N) 1 (runN (fun _ => wekN) A w) (2, 1, 0) 9 = runN (fun _ => wekN) A w 2 0 9 := wr_2 0 9
    have e2 : wr (wr m 0 N) 1 (runN (fun _ => wekN) A w) (2, 0, 0) 9 = N 2 0 9 := by
      rw [wr_ne (by decide), wr_2]
    rw [e1, e2, tr_sw]
    exact hp A _ hA (sf_wr hH (by decide))
/-! undoing, saving, restoring -/
theorem C_undo {A : Nu} (hH : Hn m old (sz + 1)) (hA : rd m (2 + (old + sz) % 7) = A) (hO : Ok A) (hp : ∀ B m', Lq A B → Sf m m' → P (nI sz) (wr m' 0 B)) : RunI g h_N_undo [vO 1 0 0] (wr m 0 N) P := by
  obtain ⟨a1, a2, a3, a4⟩ := hn_wr (k := 0) (A := N) hH
  refine RunI.ofGo rfl rfl (b_N_undo_0 (RunI.ofGo rfl rfl (b_Hi_takeBack_0 ?_)))
  rw [a4]
  refine ⟨fun _ => ?_, fun q => absurd q (nI_ne0 (by omega) (by omega))⟩
  rw [nI_pred, mset_at, pk_us, pk_un (by decide), a3, nI_add, show nI (old + sz) - nI (old + sz) / 7 * 7 = nI ((old + sz) % 7) from pk_rem (d := 7) (by omega) (by omega) (by omega), nI_clamp (n := (old + sz) % 7) (by omega)]
  refine ⟨by decide, vp_in_nI (by omega) (by omega), ?_⟩
  rw [mset_wr (by decide)]
  have er : rd (wr (mset m 10 0 0 2 (nI sz)) 0 N) (2 + (old + sz) % 7) = A := by
    rw [rd_ne (by omega), ← hA]
    funext t i j
    have ht := t.isLt
    show mset m 10 0 0 2 (nI sz) (t.val, _, i) j = m (t.val, _, i) j
    rw [mset_ne _ _ _ _ _ _ (by intro z; simp only [Prod.mk.injEq] at z; omega)]
  have e1 : wr (wr (mset m 10 0 0 2 (nI sz)) 0 N) 0 (rd (wr (mset m 10 0 0 2 (nI sz)) 0 N) 0) = wr (mset m 10 0 0 2 (nI sz)) 0 N := wr_rd
  have := T_St_copyFrom (g := g) (m := wr (mset m 10 0 0 2 (nI sz)) 0 N) (k := 0) (N := rd (wr (mset m 10 0 0 2 (nI sz)) 0 N) 0) (k1 := 2 + (old + sz) % 7) (PV := fun m1 => QI (fun r m => QI P (some (vI r)) m) (some (vI (m1 (10, 0, 0) 2))) m1) (by omega) (by rw [er]; exact hO.1.1) (by rw [er]; exact fl_ok hO) (fun B hB => ?_)
  · rwa [e1] at this
  · rw [er] at hB
    have e2 : wr (wr (mset m 10 0 0 2 (nI sz)) 0 N) 0 B (10, 0, 0) 2 = nI sz := by
      rw [wr_big (by decide), wr_big (by decide), mset_at, pk_us]
    rw [e2, wr_wr]
    refine qi (qi (hp B _ hB ⟨⟨old, sz, a1, by omega, ?_, ?_⟩, ?_, ?_⟩))
    · rw [mset_at, pk_un (by decide)]; exact hH.2.2.1
    · rw [mset_at, pk_us]
    · funext t i j
      have ht := t.isLt
      show mset m 10 0 0 2 (nI sz) (t.val, _, i) j = m (t.val, _, i) j
      rw [mset_ne _ _ _ _ _ _ (by intro z; simp only [Prod.mk.injEq] at z; omega)]
    · rw [mset_ne _ _ _ _ _ _ (by decide)]
theorem C_save1 (hO : Ok N) (hH : Hx m) (hp : ∀ m', Hx m' → Lq N (rd m' 10) → m' (13, 0, 0) 1 = 1 → P (N 2 0 7) (wr m' 0 N)) : RunI g h_N_save [vO 1 0 0, vI 1] (wr m 0 N) P := by
  obtain ⟨old, sz, hH⟩ := hH
  refine RunI.ofGo rfl rfl (b_N_save_0 (S_N_isSlot ?_))
  simp only [b2i_eq0, Decidable.not_not]
  refine ⟨fun _ => ?_, fun q => absurd (by decide) q⟩
  rw [show (1 : Int32).toNatClampNeg = 1 by decide]
  refine ⟨vp_in_nI (n := 1) (N := 2) (by omega) (by omega), ?_⟩
  have e1 : wr (wr m 0 N) (9 + 1) (rd (wr m 0 N) (9 + 1)) = wr m 0 N := wr_rd
  have e0 : rd (wr m 0 N) 0 = N := rd_wr
  have := T_St_copyFrom (g := g) (m := wr m 0 N) (k := 9 + 1) (N := rd (wr m 0 N) (9 + 1)) (PV := fun m2 => vp_in 1 2 ∧ QI P (some (vI ((mset m2 13 0 0 1 (vp_nar .boolean 1)) (2, 0, 0) 7))) (mset m2 13 0 0 1 (vp_nar .boolean 1))) (k1 := 0) (by decide) (by rw [e0]; exact hO.1.1) (by rw [e0]; exact fl_ok hO) (fun A hA => ⟨vp_in_nI (n := 1) (N := 2) (by omega) (by omega), qi ?_⟩)
  · rwa [e1] at this
  · rw [e0] at hA
    rw [show vp_nar .boolean 1 = 1 from rfl, wr_comm (by decide), mset_wr (by decide), wr_2]
    have g10 : mset (wr m (9 + 1) A) 13 0 0 1 1 (10, 0, 0) = m (10, 0, 0) := by rw [mset_ne _ _ _ _ _ _ (by decide), wr_big (by decide)]
    refine hp _ ⟨old, sz, hH.1, hH.2.1, by rw [g10]; exact hH.2.2.1, by rw [g10]; exact hH.2.2.2⟩ ?_ (by rw [mset_at, pk_us])
    have : rd (mset (wr m (9 + 1) A) 13 0 0 1 1) 10 = A := by
      funext t i j
      have ht := t.isLt
      show mset (wr m (9 + 1) A) 13 0 0 1 1 (t.val, 9 + 1, i) j = _
      rw [mset_ne _ _ _ _ _ _ (by intro z; simp only [Prod.mk.injEq] at z; omega)]
      exact wr_in ht i j
    rw [this]
    exact hA
theorem C_restore1 {A : Nu} (hO : Ok N) (hH : Hx m) (h13 : m (13, 0, 0) 1 = 1) (hA : rd m 10 = A) (hOA : Ok A) (hw : ¬ A 2 0 7 < 0) (hp : ∀ B m', Lq A B → Sf m m' → P (A 2 0 7) (wr m' 0 B)) : RunI g h_N_restore [vO 1 0 0, vI 1] (wr m 0 N) P := by
  obtain ⟨old, sz, hH⟩ := hH
  refine RunI.ofGo rfl rfl (b_N_restore_0 (S_N_isSlot ?_))
  simp only [b2i_eq0, Decidable.not_not]
  refine ⟨fun _ => ?_, fun q => absurd (by decide) q⟩
  rw [show (1 : Int32).toNatClampNeg = 1 by decide, wr_big (by decide), h13]
  refine ⟨vp_in_nI (n := 1) (N := 2) (by omega) (by omega), fun _ => note_c hO hH fun C hC => ⟨vp_in_nI (n := 1) (N := 2) (by omega) (by omega), ?_⟩, fun q => absurd q (by decide)⟩
  have er : rd (wr (wr m (2 + (old + sz) % 7) C) 0 N) (9 + 1) = A := by
    rw [rd_ne (by decide), rd_ne (by omega)]
    exact hA
  have e1 : wr (wr (wr m (2 + (old + sz) % 7) C) 0 N) 0 (rd (wr (wr m (2 + (old + sz) % 7) C) 0 N) 0) = wr (wr m (2 + (old + sz) % 7) C) 0 N := wr_rd
  have := T_St_copyFrom (g := g) (m := wr (wr m (2 + (old + sz) % 7) C) 0 N) (k := 0) (N := rd (wr (wr m (2 + (old + sz) % 7) C) 0 N) 0) (k1 := 9 + 1) (PV := fun m3 => RunI g h_Hi_keepIfDone [vO 10 0 0, vI (m3 (2, 0, 0) 7)] m3 (fun r4 m4 => QI P (some (vI r4)) m4)) (by decide) (by rw [er]; exact hOA.1.1) (by rw [er]; exact fl_ok hOA) (fun B hB => ?_)
  · rwa [e1] at this
  · rw [er] at hB
    rw [wr_wr, wr_2]
    have hB7 : B 2 0 7 = A 2 0 7 := hB.c2 (by decide) (by decide)
    rw [hB7]
    exact kp_c (hn_wr hH) hw (qi (hp B _ hB (done_c hH hC).sf))
end CALLS
