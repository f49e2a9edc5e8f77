/-! A WEEK: who comes, who is sent home -/
theorem plF_congr {A B : Nu} (h7 : A 7 = B 7) (h8 : A 8 = B 8) (h2 : A 2 0 5 = B 2 0 5) (r d f : Nat) (q : Int32) : ∀ j, plF A r d f q j = plF B r d f q j
  | 0 => by unfold plF; rw [h7]
  | j + 1 => by
    have ih := plF_congr h7 h8 h2 r d f q j
    unfold plF
    rw [ih]
    unfold carersF dutyP nC
    rw [h7, h8, h2]
theorem placesF_congr {A B : Nu} (h7 : A 7 = B 7) (h8 : A 8 = B 8) (h2 : A 2 0 5 = B 2 0 5) (r s : Nat) (q : Int32) : placesF A r s q = placesF B r s q := plF_congr h7 h8 h2 _ _ _ _ _
/-- rooms have small capacities and ratios -/
def RB (N : Nu) : Prop := ∀ r, r < nR N → (∃ c, c ≤ 40 ∧ N 7 r 2 = nI c) ∧ (∃ a, a ≤ 12 ∧ N 7 r 3 = nI a)
theorem RB.places {N : Nu} (h : RB N) (hB : Bd N) {r : Nat} (hr : r < nR N) (s : Nat) (q : Int32) : ∃ L, L ≤ 40 ∧ placesF N r s q = nI L := by
  obtain ⟨⟨c, hc, ec⟩, ⟨a, ha, ea⟩⟩ := h r hr
  unfold placesF
  generalize s / 2 = d
  generalize s % 2 * 5 = f
  generalize 5 = n
  induction n with
  | zero => exact ⟨c, hc, ec⟩
  | succ n ih =>
    obtain ⟨L, hL, eL⟩ := ih
    unfold plF
    rw [eL, ea]
    unfold carersF
    have hk := cnt_le (dutyP N (nI r) (nI d) (nI (f + n)) q) (nC N)
    have h13 := hB.2.1.2
    rw [pk_mul]
    have hm : a * cnt (dutyP N (nI r) (nI d) (nI (f + n)) q) (nC N) ≤ 12 * 13 := Nat.mul_le_mul ha (by omega)
    split
    · rename_i hlt
      refine ⟨_, ?_, rfl⟩
      have := (nI_ltI (by omega) (by omega)).mp hlt
      omega
    · exact ⟨L, hL, rfl⟩
abbrev coP (N : Nu) (room s : Int32) (i : Nat) : Prop := N 9 i 4 = room ∧ comP N i s
def comF (N : Nu) (room s : Int32) : Int32 := setI (coP N room s) (nK N)
/-- the last place where p holds -/
def lasF (p : Nat → Prop) [DecidablePred p] : Nat → Int32
  | 0 => -6
  | j + 1 => if p j then nI j else lasF p j
/-- the first place with the greatest number -/
def maxF (f : Nat → Int32) (p : Nat → Prop) [DecidablePred p] : Nat → Int32 × Int32
  | 0 => (-6, -1)
  | j + 1 => if p j ∧ ¬ f j ≤ (maxF f p j).2 then (nI j, f j) else maxF f p j
theorem lasF_t {p : Nat → Prop} [DecidablePred p] {j : Nat} (h : p j) : lasF p (j + 1) = nI j := if_pos h
theorem lasF_f {p : Nat → Prop} [DecidablePred p] {j : Nat} (h : ¬ p j) : lasF p (j + 1) = lasF p j := if_neg h
theorem maxF_t {f : Nat → Int32} {p : Nat → Prop} [DecidablePred p] {j : Nat} (h : p j) (h2 : ¬ f j ≤ (maxF f p j).2) : maxF f p (j + 1) = (nI j, f j) := if_pos ⟨h, h2⟩
theorem maxF_f {f : Nat → Int32} {p : Nat → Prop} [DecidablePred p] {j : Nat} (h : ¬ (p j ∧ ¬ f j ≤ (maxF f p j).2)) : maxF f p (j + 1) = maxF f p j := if_neg h
theorem lasF_congr {p q : Nat → Prop} [DecidablePred p] [DecidablePred q] : ∀ {n : Nat}, (∀ j, j < n → (p j ↔ q j)) → lasF p n = lasF q n
  | 0, _ => rfl
  | n + 1, h => by
    have ih := lasF_congr (n := n) (fun j hj => h j (by omega))
    by_cases hp : p n
    · rw [lasF_t hp, lasF_t ((h n (by omega)).mp hp)]
    · rw [lasF_f hp, lasF_f (fun a => hp ((h n (by omega)).mpr a)), ih]
theorem maxF_congr {f f' : Nat → Int32} {p q : Nat → Prop} [DecidablePred p] [DecidablePred q] : ∀ {n : Nat}, (∀ j, j < n → f j = f' j) → (∀ j, j < n → (p j ↔ q j)) → maxF f p n = maxF f' q n
  | 0, _, _ => rfl
  | n + 1, hf, h => by
    have ih := maxF_congr (n := n) (fun j hj => hf j (by omega)) (fun j hj => h j (by omega))
    by_cases hp : p n ∧ ¬ f n ≤ (maxF f p n).2
    · rw [maxF_t hp.1 hp.2, maxF_t ((h n (by omega)).mp hp.1) (by rw [← ih, ← hf n (by omega)]; exact hp.2), hf n (by omega)]
    · rw [maxF_f hp, maxF_f, ih]
      rw [← ih, ← hf n (by omega)]
      exact fun a => hp ⟨(h n (by omega)).mpr a.1, a.2⟩
theorem lasF_ok {p : Nat → Prop} [DecidablePred p] : ∀ {n : Nat}, n < 2 ^ 31 → (lasF p n = -6 ∧ (∀ j, j < n → ¬ p j)) ∨ (∃ c, c < n ∧ p c ∧ lasF p n = nI c)
  | 0, _ => Or.inl ⟨rfl, fun j hj => absurd hj (Nat.not_lt_zero j)⟩
  | n + 1, h => by
    by_cases hp : p n
    · exact Or.inr ⟨n, by omega, hp, lasF_t hp⟩
    · rw [lasF_f hp]
      rcases lasF_ok (p := p) (n := n) (by omega) with ⟨a, b⟩ | ⟨c, a, b, d⟩
      · refine Or.inl ⟨a, fun j hj => ?_⟩
        by_cases e : j = n
        · rw [e]; exact hp
        · exact b j (by omega)
      · exact Or.inr ⟨c, by omega, b, d⟩
theorem maxF_ok {f : Nat → Int32} {p : Nat → Prop} [DecidablePred p] : ∀ {n : Nat}, (∀ j, j < n → p j → ¬ f j < 0) → (maxF f p n = (-6, -1) ∧ (∀ j, j < n → ¬ p j)) ∨ (∃ c, c < n ∧ p c ∧ maxF f p n = (nI c, f c))
  | 0, _ => Or.inl ⟨rfl, fun j hj => absurd hj (Nat.not_lt_zero j)⟩
  | n + 1, h => by
    rcases maxF_ok (f := f) (p := p) (n := n) (fun j hj => h j (by omega)) with ⟨a, b⟩ | ⟨c, a, b, d⟩
    · by_cases hp : p n
      · refine Or.inr ⟨n, by omega, hp, maxF_t hp ?_⟩
        rw [a]
        have := h n (by omega) hp
        simp only [Int32.lt_iff_toInt_lt, Int32.le_iff_toInt_le, Int32.reduceToInt, Int32.toInt_zero] at this ⊢
        omega
      · rw [maxF_f (fun z => hp z.1)]
        refine Or.inl ⟨a, fun j hj => ?_⟩
        by_cases e : j = n
        · rw [e]; exact hp
        · exact b j (by omega)
    · by_cases hp : p n ∧ ¬ f n ≤ (maxF f p n).2
      · exact Or.inr ⟨n, by omega, hp.1, maxF_t hp.1 hp.2⟩
      · rw [maxF_f hp]
        exact Or.inr ⟨c, by omega, b, d⟩
def nshF (N : Nu) (x : Int32) : Int32 := if lasF (fun i => Has x (nI i) ∧ N 9 i 6 = 0) (nK N) = -6 then (maxF (fun i => N 9 i 13) (fun i => Has x (nI i)) (nK N)).1 else lasF (fun i => Has x (nI i) ∧ N 9 i 6 = 0) (nK N)
abbrev nshN (N : Nu) (x : Int32) : Nat := (nshF N x).toNatClampNeg
theorem nsh_ok {N : Nu} {x : Int32} (hB : Bd N) (hpl : ∀ i, i < nK N → ¬ N 9 i 13 < 0) (h : ∃ i, i < nK N ∧ Has x (nI i)) : nshN N x < nK N ∧ nshF N x = nI (nshN N x) ∧ Has x (nI (nshN N x)) := by
  have h24 := hB.2.2.2
  have key : ∃ c, c < nK N ∧ nshF N x = nI c ∧ Has x (nI c) := by
    unfold nshF
    rcases lasF_ok (p := fun i => Has x (nI i) ∧ N 9 i 6 = 0) (n := nK N) (by omega) with ⟨a, b⟩ | ⟨c, a, b, d⟩
    · rw [if_pos a]
      rcases maxF_ok (f := fun i => N 9 i 13) (p := fun i => Has x (nI i)) (n := nK N) (fun j hj _ => hpl j hj) with ⟨a2, b2⟩ | ⟨c, a2, b2, d2⟩
      · obtain ⟨i, hi, q⟩ := h
        exact absurd q (b2 i hi)
      · exact ⟨c, a2, by rw [d2], b2⟩
    · rw [d, if_neg (nI_n6 (by omega))]
      exact ⟨c, a, rfl, b.1⟩
  obtain ⟨c, hc, e, q⟩ := key
  have : nshN N x = c := by show (nshF N x).toNatClampNeg = c; rw [e, nI_clamp (by omega)]
  rw [this]
  exact ⟨hc, e, q⟩
theorem nshF_congr {A B : Nu} (h2 : A 2 0 6 = B 2 0 6) (h6 : ∀ i, A 9 i 6 = B 9 i 6) (h13 : ∀ i, A 9 i 13 = B 9 i 13) (x : Int32) : nshF A x = nshF B x := by
  unfold nshF nK
  rw [h2, lasF_congr (q := fun i => Has x (nI i) ∧ B 9 i 6 = 0) (fun j _ => by rw [h6]), maxF_congr (f' := fun i => B 9 i 13) (q := fun i => Has x (nI i)) (fun j _ => h13 j) (fun j _ => Iff.rfl)]
/-- without one -/
abbrev dropI (x : Int32) (c : Nat) : Int32 := x &&& ((1 <<< (nI c &&& 31)) ^^^ (-1))
theorem has_drop {x : Int32} {c j : Nat} (hc : c < 32) (hj : j < 32) : Has (dropI x c) (nI j) ↔ Has x (nI j) ∧ j ≠ c := by
  rw [has_bit hj, has_bit hj]
  show bq (x &&& ((1 <<< (nI c &&& 31)) ^^^ (-1))) j = true ↔ _
  rw [bt_and, bt_xor, bt_one hc hj, bt_neg hj]
  by_cases e : j = c
  · simp [e]
  · simp [e]
theorem pcI_drop {x : Int32} {c : Nat} (hc : c < 32) (h : Has x (nI c)) : pcI (dropI x c) + 1 = pcI x := by
  rw [pcI_cnt, pcI_cnt]
  exact cnt_one hc h (fun j hj => has_drop hc hj)
def homN (N : Nu) (c : Nat) : Nu := nset (nset N 9 c 10 (N 9 c 10 + 1)) 2 0 11 (N 2 0 11 + 1)
/-- who stays, when d are sent home; what the state is then -/
def stayX (N : Nu) : Nat → Int32 → Int32
  | 0, x => x
  | d + 1, x => stayX N d (dropI x (nshN N x))
def stayN : Nat → Int32 → Nu → Nu
  | 0, _, N => N
  | d + 1, x, N => stayN d (dropI x (nshN N x)) (homN N (nshN N x))
def feeF (N : Nu) (i : Nat) : Int32 := if low (fun j => ¬ N 9 j 6 = 0 ∧ N 9 j 1 = N 9 i 1) 0 i < i then N 3 0 0 * (100 - N 3 0 1) / 100 else N 3 0 0
def bokN (x : Int32) (i : Nat) (N : Nu) : Nu := if Has x (nI i) then (if N 9 i 6 = 0 then nset (nset N 9 i 7 (N 9 i 7 + 1)) 2 0 10 (N 2 0 10 + 1) else nset (nset (nset N 9 i 9 (N 9 i 9 + 1)) 9 i 11 (N 9 i 11 + feeF N i)) 2 0 9 (N 2 0 9 + feeF N i)) else N
/-- how many too many -/
def tooN (N : Nu) (r s : Nat) : Nat := pcI (comF N (nI r) (nI s)) - (placesF N r s 0).toNatClampNeg
def hldN (N : Nu) (r s : Nat) : Nu := runN (bokN (stayX N (tooN N r s) (comF N (nI r) (nI s)))) (stayN (tooN N r s) (comF N (nI r) (nI s)) N) (nK N)
/-- what a week leaves -/
def Ks (N M : Nu) : Prop := Sm N M ∧ M 7 = N 7 ∧ ∀ i, M 9 i 13 = N 9 i 13
theorem Ks.rfl' {N : Nu} : Ks N N := ⟨Sm.rfl', rfl, fun _ => rfl⟩
theorem Ks.trans {N M L : Nu} (h : Ks N M) (h2 : Ks M L) : Ks N L := ⟨h.1.trans h2.1, h2.2.1.trans h.2.1, fun i => (h2.2.2 i).trans (h.2.2 i)⟩
theorem Ks.n9 {N M : Nu} (h : Ks N M) {i j : Nat} {x : Int32} (hj : ¬ j = 13) : Ks N (nset M 9 i j x) := ⟨h.1.nt (by decide), by rw [← h.2.1]; funext a b; exact ns_t (by decide), fun a => by rw [← h.2.2]; exact ns_j (fun q => hj q.symm)⟩
theorem Ks.n8 {N M : Nu} (h : Ks N M) {i j : Nat} {x : Int32} : Ks N (nset M 8 i j x) := ⟨h.1.nt (by decide), by rw [← h.2.1]; funext a b; exact ns_t (by decide), fun a => by rw [← h.2.2]; exact ns_t (by decide)⟩
theorem Ks.n2 {N M : Nu} (h : Ks N M) {j : Nat} {x : Int32} (hj : 7 ≤ j) : Ks N (nset M 2 0 j x) := ⟨h.1.n2 hj, by rw [← h.2.1]; funext a b; exact ns_t (by decide), fun a => by rw [← h.2.2]; exact ns_t (by decide)⟩
def Wi (N : Nu) : Prop := Bd N ∧ RB N ∧ ∀ i, i < nK N → ¬ N 9 i 13 < 0
theorem Ks.wi {N M : Nu} (h : Ks N M) (hW : Wi N) : Wi M := by
  refine ⟨h.1.bd hW.1, fun r hr => ?_, fun i hi => ?_⟩
  · rw [h.2.1]; rw [h.1.nR] at hr; exact hW.2.1 r hr
  · rw [h.2.2]; rw [h.1.nK] at hi; exact hW.2.2 i hi
theorem homN_ks {N : Nu} {c : Nat} : Ks N (homN N c) := (Ks.rfl'.n9 (by decide)).n2 (by decide)
theorem stayN_ks : ∀ d x {N : Nu}, Ks N (stayN d x N)
  | 0, _, _ => Ks.rfl'
  | d + 1, _, _ => homN_ks.trans (stayN_ks d _)
theorem bokN_ks {x : Int32} {i : Nat} {N : Nu} : Ks N (bokN x i N) := by
  unfold bokN
  split
  · split
    · exact (Ks.rfl'.n9 (by decide)).n2 (by decide)
    · exact ((Ks.rfl'.n9 (by decide)).n9 (by decide)).n2 (by decide)
  · exact Ks.rfl'
theorem runN_ks {f : Nat → Nu → Nu} (h : ∀ j M, Ks M (f j M)) {N : Nu} (j : Nat) : Ks N (runN f N j) := runN_inv (I := Ks N) Ks.rfl' (fun j M q => q.trans (h j M)) j
theorem hldN_ks {N : Nu} {r s : Nat} : Ks N (hldN N r s) := (stayN_ks _ _).trans (runN_ks (fun _ _ => bokN_ks) _)
section WK
variable {g : Wg} {m : Mm} {P : Int32 → Mm → Prop} {PV : Mm → Prop} {k : Nat} {N : Nu}
theorem T_Wk_comersTo {room s : Int32} (hB : Bd N) (hp : P (comF N room s) (wr m k N)) : RunI g h_Wk_comersTo [vO 2 k 0, vI room, vI s] (wr m k N) P := by
  have hn := hB.2.2.1
  have h24 := hB.2.2.2
  refine RunI.ofGo rfl rfl (b_Wk_comersTo_0 ?_)
  refine loopN (G := fun j => Go g h_Wk_comersTo (QI P) 5 [(0, vO 2 k 0), (1, vI room), (2, vI s), (3, vI (setI (coP N room s) j)), (4, vI (nI j))] [] (wr m k N)) (nK N) ?_ ?_ 0 (Nat.zero_le _)
  · exact b_Wk_comersTo_5 ⟨fun _ => qi hp, fun h => absurd (by rw [wr_2, hn]; exact le_self _) h⟩
  · intro j hj ih
    have hc := nI_clamp (n := j) (by omega)
    have hin := vp_in_nI (n := j) (N := 24) (by omega) (by omega)
    have hT := setI_t (p := coP N room s) (n := j)
    have hF := setI_f (p := coP N room s) (n := j)
    refine b_Wk_comersTo_5 ⟨fun h => absurd h (by rw [wr_2, hn]; exact nI_ge hj (by omega)), fun _ => ⟨hin, ?_⟩⟩
    simp only [hc, wr_9]
    refine ⟨fun h1 => ?_, fun h1 => T_Ch_comesTo ?_⟩
    · rw [hF (fun q => h1 q.1), nI_succ] at ih
      exact ih
    · simp only [b2i_eq0, Decidable.not_not]
      refine ⟨fun h2 => ?_, fun h2 => ?_⟩
      · rw [hF (fun q => h2 q.2), nI_succ] at ih
        exact ih
      · rw [hT ⟨h1, h2⟩, nI_succ] at ih
        exact ih
theorem T_Wk_tooMany {r s : Nat} (hW : Wi N) (hr : r < nR N) (hs : s < 10) (hp : P (nI (tooN N r s)) (wr m k N)) : RunI g h_Wk_tooMany [vO 2 k 0, vI (nI r), vI (nI s), vI (comF N (nI r) (nI s))] (wr m k N) P := by
  refine RunI.ofGo rfl rfl (b_Wk_tooMany_0 ⟨fun h => S_Int_bitCount (T_St_placesIn hW.1 hr hs (qi ?_)), fun h => qi ?_⟩)
  · obtain ⟨L, hL, eL⟩ := hW.2.1.places hW.1 hr s 0
    unfold tooN at hp
    have hx : pcI (comF N (nI r) (nI s)) ≤ 32 := by rw [pcI_cnt]; exact cnt_le _ _
    rw [eL] at hp ⊢
    rw [nI_clamp (by omega)] at hp
    generalize pcI (comF N (nI r) (nI s)) = a at hx hp ⊢
    by_cases h2 : L < a
    · rw [pk_sub (by omega), if_pos (show (0 : Int32) < nI (a - L) from nI_lt (a := 0) (by omega) (by omega))]
      exact hp
    · rw [if_neg, show (0 : Int32) = nI (a - L) by rw [show a - L = 0 by omega]; rfl]
      · exact hp
      · by_cases h3 : a = L
        · rw [h3, Int32.sub_self]; decide
        · have := pk_sneg (a := a) (b := L) (by omega) (by omega)
          intro q
          simp only [Int32.lt_iff_toInt_lt, Int32.toInt_zero] at this q
          omega
  · unfold tooN at hp
    rwa [pcI_0 h, Nat.zero_sub] at hp
theorem T_Wk_countTooMany (hW : Wi N) (hp : P (sumI (fun q => nI (tooN N (q / 10) (q % 10))) (10 * nR N)) (wr m k N)) : RunI g h_Wk_countTooMany [vO 2 k 0] (wr m k N) P := by
  have hn := hW.1.1.1
  have h5 := hW.1.1.2
  refine RunI.ofGo rfl rfl (b_Wk_countTooMany_0 ?_)
  refine loopN (G := fun r => Go g h_Wk_countTooMany (QI P) 4 [(0, vO 2 k 0), (1, vI (sumI (fun q => nI (tooN N (q / 10) (q % 10))) (10 * r))), (2, vI (nI r))] [] (wr m k N)) (nR N) ?_ ?_ 0 (Nat.zero_le _)
  · exact b_Wk_countTooMany_4 ⟨fun _ => qi hp, fun h => absurd (by rw [wr_2, hn]; exact le_self _) h⟩
  · intro r hr ih
    refine b_Wk_countTooMany_4 ⟨fun h => absurd h (by rw [wr_2, hn]; exact nI_ge hr (by omega)), fun _ => ?_⟩
    refine loopN (G := fun s => Go g h_Wk_countTooMany (QI P) 14 [(0, vO 2 k 0), (1, vI (sumI (fun q => nI (tooN N (q / 10) (q % 10))) (10 * r + s))), (2, vI (nI r)), (3, vI (nI s))] [] (wr m k N)) 10 ?_ ?_ 0 (Nat.zero_le _)
    · refine b_Wk_countTooMany_14 ⟨fun _ => ?_, fun h => absurd (by decide) h⟩
      rw [nI_1]
      exact ih
    · intro s hs ih2
      refine b_Wk_countTooMany_14 ⟨fun h => absurd h (nI_ge (b := 10) hs (by omega)), fun _ => T_Wk_comersTo hW.1 (T_Wk_tooMany hW hr hs ?_)⟩
      rw [nI_1]
      have e : sumI (fun q => nI (tooN N (q / 10) (q % 10))) (10 * r + (s + 1)) = sumI (fun q => nI (tooN N (q / 10) (q % 10))) (10 * r + s) + nI (tooN N r s) := by
        show _ + nI (tooN N ((10 * r + s) / 10) ((10 * r + s) % 10)) = _
        rw [show (10 * r + s) / 10 = r by omega, show (10 * r + s) % 10 = s by omega]
        rfl
      rw [e] at ih2
      exact ih2
theorem T_Wk_nextSentHome {x : Int32} (hB : Bd N) (hp : P (nshF N x) (wr m k N)) : RunI g h_Wk_nextSentHome [vO 2 k 0, vI x] (wr m k N) P := by
  have hn := hB.2.2.1
  have h24 := hB.2.2.2
  unfold nshF at hp
  refine RunI.ofGo rfl rfl (b_Wk_nextSentHome_0 ?_)
  refine loopN (G := fun j => Go g h_Wk_nextSentHome (QI P) 12 [(0, vO 2 k 0), (1, vI x), (2, vI (lasF (fun i => Has x (nI i) ∧ N 9 i 6 = 0) j)), (3, vI (maxF (fun i => N 9 i 13) (fun i => Has x (nI i)) j).1), (4, vI (maxF (fun i => N 9 i 13) (fun i => Has x (nI i)) j).2), (5, vI (nI j))] [] (wr m k N)) (nK N) ?_ ?_ 0 (Nat.zero_le _)
  · refine b_Wk_nextSentHome_12 ⟨fun _ => ⟨fun h => qi ?_, fun h => qi ?_⟩, fun h => absurd (by rw [wr_2, hn]; exact le_self _) h⟩
    · rwa [if_pos h] at hp
    · rwa [if_neg h] at hp
  · intro j hj ih
    have hc := nI_clamp (n := j) (by omega)
    have hin := vp_in_nI (n := j) (N := 24) (by omega) (by omega)
    have lT := lasF_t (p := fun i => Has x (nI i) ∧ N 9 i 6 = 0) (j := j)
    have lF := lasF_f (p := fun i => Has x (nI i) ∧ N 9 i 6 = 0) (j := j)
    have mT := maxF_t (f := fun i => N 9 i 13) (p := fun i => Has x (nI i)) (j := j)
    have mF := maxF_f (f := fun i => N 9 i 13) (p := fun i => Has x (nI i)) (j := j)
    refine b_Wk_nextSentHome_12 ⟨fun h => absurd h (by rw [wr_2, hn]; exact nI_ge hj (by omega)), fun _ => ⟨hin, S_N_holds ?_⟩⟩
    simp only [b2i_eq0, Decidable.not_not, hc, wr_9]
    refine ⟨fun a => S_N_holds ?_, fun a => ⟨fun b => S_N_holds ?_, fun b => S_N_holds ?_⟩⟩ <;> simp only [b2i_eq0, Decidable.not_not, wr_9]
    · refine ⟨fun c => ?_, fun c => absurd c a⟩
      rw [lF (fun q => a q.1), mF (fun q => a q.1), nI_succ] at ih
      exact ih
    · refine ⟨fun c => absurd a c, fun c => ⟨fun d => ?_, fun d => ?_⟩⟩
      · rw [lF (fun q => b q.2), mF (fun q => q.2 d), nI_succ] at ih
        exact ih
      · rw [lF (fun q => b q.2), mT a d, nI_succ] at ih
        exact ih
    · refine ⟨fun c => absurd a c, fun c => ⟨fun d => ?_, fun d => ?_⟩⟩
      · rw [lT ⟨a, b⟩, mF (fun q => q.2 d), nI_succ] at ih
        exact ih
      · rw [lT ⟨a, b⟩, mT a d, nI_succ] at ih
        exact ih
theorem T_Wk_feeFor {c : Nat} (hB : Bd N) (hc : c < nK N) (hp : P (feeF N c) (wr m k N)) : RunI g h_Wk_feeFor [vO 2 k 0, vI (nI c)] (wr m k N) P := by
  have h24 := hB.2.2.2
  have e := nI_clamp (n := c) (by omega)
  unfold feeF at hp
  refine RunI.ofGo rfl rfl (b_Wk_feeFor_0 ?_)
  simp only [e, wr_9, wr_3]
  refine ⟨vp_in_nI (by omega) (by omega), vp_in_nI (n := 0) (N := 5) (by omega) (by omega), ?_⟩
  refine loopN (G := fun j => (∀ i, i < j → ¬ (¬ N 9 i 6 = 0 ∧ N 9 i 1 = N 9 c 1)) → Go g h_Wk_feeFor (QI P) 20 [(0, vO 2 k 0), (1, vI (nI c)), (2, vI (N 9 c 1)), (3, vI (N 3 0 0)), (4, vI (nI j))] [] (wr m k N)) c ?_ ?_ 0 (Nat.zero_le _) (fun i hi => absurd hi (Nat.not_lt_zero i))
  · intro hno
    refine b_Wk_feeFor_20 ⟨fun _ => qi ?_, fun h => absurd (le_self _) h⟩
    rwa [low_n hno, if_neg (Nat.lt_irrefl _)] at hp
  · intro j hj ih hno
    have hcj := nI_clamp (n := j) (by omega)
    have hinj := vp_in_nI (n := j) (N := 24) (by omega) (by omega)
    have nx : ¬ (¬ N 9 j 6 = 0 ∧ N 9 j 1 = N 9 c 1) → Go g h_Wk_feeFor (QI P) 20 [(0, vO 2 k 0), (1, vI (nI c)), (2, vI (N 9 c 1)), (3, vI (N 3 0 0)), (4, vI (nI j + 1))] [] (wr m k N) := by
      intro h
      rw [nI_1]
      refine ih fun i hi => ?_
      by_cases q : i = j
      · rw [q]; exact h
      · exact hno i (by omega)
    refine b_Wk_feeFor_20 ⟨fun h => absurd h (nI_ge hj (by omega)), fun _ => ⟨hinj, ?_⟩⟩
    simp only [hcj, wr_9, wr_3]
    refine ⟨fun h1 => nx (fun q => q.1 h1), fun h1 => ⟨fun h2 => nx (fun q => h2 q.2), fun h2 => ⟨vp_in_nI (n := 1) (N := 5) (by omega) (by omega), by decide, qi ?_⟩⟩⟩
    rwa [low_eq hj ⟨h1, h2⟩ hno, if_pos hj] at hp
theorem T_Wk_bookCame {c : Nat} {x : Int32} (hB : Bd N) (hc : c < nK N) (hx : Has x (nI c)) (hp : PV (wr m k (bokN x c N))) : RunV g h_Wk_bookCame [vO 2 k 0, vI (nI c)] (wr m k N) PV := by
  have h24 := hB.2.2.2
  have e := nI_clamp (n := c) (by omega)
  unfold bokN at hp
  rw [if_pos hx] at hp
  refine RunV.ofGo rfl rfl (b_Wk_bookCame_0 ?_)
  simp only [e, wr_9]
  refine ⟨vp_in_nI (by omega) (by omega), fun h => T_Wk_feeFor hB hc ?_, fun h => ?_⟩
  · rw [if_neg h] at hp
    refine qv ?_
    simp only [ms_9, wr_9, ms_2, wr_2]
    rw [ns_j (by decide), ns_t (by decide), ns_t (by decide)]
    exact hp
  · rw [if_pos h] at hp
    refine qv ?_
    simp only [ms_9, wr_9, ms_2, wr_2]
    rw [ns_t (by decide)]
    exact hp
theorem T_Wk_holdSession {r s : Nat} (hW : Wi N) (hr : r < nR N) (hs : s < 10) (hp : PV (wr m k (hldN N r s))) : RunV g h_Wk_holdSession [vO 2 k 0, vI (nI r), vI (nI s)] (wr m k N) PV := by
  refine RunV.ofGo rfl rfl (b_Wk_holdSession_0 (T_Wk_comersTo hW.1 (T_Wk_tooMany hW hr hs ?_)))
  unfold hldN at hp
  have hd : tooN N r s ≤ pcI (comF N (nI r) (nI s)) := Nat.sub_le _ _
  have hin : ∀ i, i < 32 → Has (comF N (nI r) (nI s)) (nI i) → i < nK N := fun i hi q => ((has_setI (by have := hW.1.2.2.2; omega) hi).mp q).1
  generalize tooN N r s = d at hp hd ⊢
  generalize comF N (nI r) (nI s) = x at hp hd hin ⊢
  have book : ∀ M : Nu, Ks N M → PV (wr m k (runN (bokN (stayX N d x)) M (nK N))) → ∀ y, y = stayX N d x → Go g h_Wk_holdSession (QV PV) 82 [(0, vO 2 k 0), (3, vI y), (4, vI 0)] [] (wr m k M) := by
    rintro M hK hp y rfl
    generalize stayX N d x = y at hp ⊢
    have hB := (hK.wi hW).1
    have hn := hB.2.2.1
    have h24 := hB.2.2.2
    rw [← hK.1.nK] at hp
    refine loopN (G := fun j => Go g h_Wk_holdSession (QV PV) 82 [(0, vO 2 k 0), (3, vI y), (4, vI (nI j))] [] (wr m k (runN (bokN y) M j))) (nK M) ?_ ?_ 0 (Nat.zero_le _)
    · refine b_Wk_holdSession_82 ⟨fun _ => qv hp, fun h => absurd ?_ h⟩
      rw [wr_2, (runN_ks (fun _ _ => bokN_ks) (nK M)).1.2.2, hn]
      exact le_self _
    · intro j hj ih
      have hK2 : Ks M (runN (bokN y) M j) := runN_ks (fun _ _ => bokN_ks) j
      refine b_Wk_holdSession_82 ⟨fun h => absurd h ?_, fun _ => S_N_holds ?_⟩
      · rw [wr_2, hK2.1.2.2, hn]
        exact nI_ge hj (by omega)
      · simp only [b2i_eq0, Decidable.not_not]
        rw [nI_1]
        refine ⟨fun a => ?_, fun a => T_Wk_bookCame (hK2.1.bd hB) (by rw [hK2.1.nK]; exact hj) a ih⟩
        have e : runN (bokN y) M (j + 1) = runN (bokN y) M j := if_neg a
        rw [e] at ih
        exact ih
  have send : ∀ e (y : Int32) (M : Nu), Ks N M → (∀ i, M 9 i 6 = N 9 i 6) → e ≤ pcI y → (∀ i, i < 32 → Has y (nI i) → i < nK N) → stayX N e y = stayX N d x → PV (wr m k (runN (bokN (stayX N d x)) (stayN e y M) (nK N))) → Go g h_Wk_holdSession (QV PV) 16 [(0, vO 2 k 0), (3, vI y), (4, vI (nI e))] [] (wr m k M) := by
    intro e
    induction e with
    | zero =>
      intro y M hK h6 he hy hst hp
      exact b_Wk_holdSession_16 ⟨fun _ => book M hK hp y hst, fun h => absurd (by decide) h⟩
    | succ e ih =>
      intro y M hK h6 he hy hst hp
      have hWM := hK.wi hW
      have hn := hWM.1.2.2.1
      have h24 := hWM.1.2.2.2
      have h32 := pcI_cnt y
      have hle := cnt_le (fun j => Has y (nI j)) 32
      refine b_Wk_holdSession_16 ⟨fun h => absurd h (nI_nle (by omega) (by omega)), fun _ => T_Wk_nextSentHome hWM.1 (T_St_hasChild ?_)⟩
      have hex : ∃ i, i < nK M ∧ Has y (nI i) := by
        by_cases q : ∃ i, i < nK M ∧ Has y (nI i)
        · exact q
        · have : pcI y = 0 := by
            rw [h32]
            refine cnt_0 fun j hj a => q ⟨j, ?_, a⟩
            rw [hK.1.nK]
            exact hy j hj a
          omega
      have ec : nshF M y = nshF N y := nshF_congr hK.1.2.2 h6 hK.2.2 y
      obtain ⟨c1, c2, c3⟩ := nsh_ok hWM.1 hWM.2.2 hex
      have hcc : nshN M y = nshN N y := by show (nshF M y).toNatClampNeg = _; rw [ec]
      simp only [b2i_eq0, Decidable.not_not]
      refine ⟨fun _ => ?_, fun h => absurd ⟨by rw [c2]; exact nI_pos (by omega), by rw [c2, hn]; exact nI_ge c1 (by omega)⟩ h⟩
      rw [show (nshF M y).toNatClampNeg = nshN M y from rfl]
      rw [c2]
      refine ⟨vp_in_nI (by omega) (by omega), ?_⟩
      simp only [ms_9, wr_9, ms_2, wr_2]
      rw [ns_t (by decide), pk_m1]
      rw [hcc] at c1 c2 c3 ⊢
      have hp1 := pcI_drop (x := y) (c := nshN N y) (by omega) c3
      refine ih (dropI y (nshN N y)) (homN M (nshN N y)) (hK.trans homN_ks) (fun i => ?_) (by omega) (fun i hi q => hy i hi ((has_drop (by omega) hi).mp q).1) hst ?_
      · show nset (nset M 9 _ 10 _) 2 0 11 _ 9 i 6 = _
        rw [ns_t (by decide), ns_j (by decide), h6]
      · show PV (wr m k (runN (bokN (stayX N d x)) (stayN e (dropI y (nshN N y)) (homN M (nshN N y))) (nK N)))
        have : stayN (e + 1) y M = stayN e (dropI y (nshN M y)) (homN M (nshN M y)) := rfl
        rw [this, hcc] at hp
        exact hp
  exact send d x N Ks.rfl' (fun _ => rfl) hd hin rfl hp
def hlsN (N : Nu) : Nu := runN (fun q M => hldN M (q / 10) (q % 10)) N (10 * nR N)
theorem T_Wk_holdSessions (hW : Wi N) (hp : PV (wr m k (hlsN N))) : RunV g h_Wk_holdSessions [vO 2 k 0] (wr m k N) PV := by
  have hn := hW.1.1.1
  have h5 := hW.1.1.2
  have hk : ∀ j, Ks N (runN (fun q M => hldN M (q / 10) (q % 10)) N j) := fun j => runN_ks (fun _ _ => hldN_ks) j
  refine RunV.ofGo rfl rfl (b_Wk_holdSessions_0 ?_)
  refine loopN (G := fun r => Go g h_Wk_holdSessions (QV PV) 2 [(0, vO 2 k 0), (1, vI (nI r))] [] (wr m k (runN (fun q M => hldN M (q / 10) (q % 10)) N (10 * r)))) (nR N) ?_ ?_ 0 (Nat.zero_le _)
  · exact b_Wk_holdSessions_2 ⟨fun _ => qv hp, fun h => absurd (by rw [wr_2, (hk _).1.1, hn]; exact le_self _) h⟩
  · intro r hr ih
    refine b_Wk_holdSessions_2 ⟨fun h => absurd h (by rw [wr_2, (hk _).1.1, hn]; exact nI_ge hr (by omega)), fun _ => ?_⟩
    refine loopN (G := fun s => Go g h_Wk_holdSessions (QV PV) 12 [(0, vO 2 k 0), (1, vI (nI r)), (2, vI (nI s))] [] (wr m k (runN (fun q M => hldN M (q / 10) (q % 10)) N (10 * r + s)))) 10 ?_ ?_ 0 (Nat.zero_le _)
    · refine b_Wk_holdSessions_12 ⟨fun _ => ?_, fun h => absurd (by decide) h⟩
      rw [nI_1]
      exact ih
    · intro s hs ih2
      refine b_Wk_holdSessions_12 ⟨fun h => absurd h (nI_ge (b := 10) hs (by omega)), fun _ => T_Wk_holdSession ((hk _).wi hW) (by rw [(hk _).1.nR]; exact hr) hs ?_⟩
      rw [nI_1]
      have e : runN (fun q M => hldN M (q / 10) (q % 10)) N (10 * r + (s + 1)) = hldN (runN (fun q M => hldN M (q / 10) (q % 10)) N (10 * r + s)) r s := by
        show hldN _ ((10 * r + s) / 10) ((10 * r + s) % 10) = _
        rw [show (10 * r + s) / 10 = r by omega, show (10 * r + s) % 10 = s by omega]
        rfl
      rw [e] at ih2
      exact ih2
end WK
