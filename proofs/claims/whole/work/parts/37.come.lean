/-! A WEEK OF THE REFERENCE: who comes, beside what the class books -/
def th (m : Mm) (T H : Nat → Int32) : Mm := fun o => if o = (18, 6, 0) then T else if o = (18, 7, 0) then H else m o
section TH
variable {m : Mm} {v T H : Nat → Int32}
theorem th_6 : wv (th m T H) v (18, 6, 0) = T := by
  rw [wv_ne (by decide)]
  exact if_pos rfl
theorem th_7 : wv (th m T H) v (18, 7, 0) = H := by
  rw [wv_ne (by decide)]
  unfold th
  rw [if_neg (by decide), if_pos rfl]
theorem tm_6 {j : Nat} {x : Int32} : mset (wv (th m T H) v) 18 6 0 j x = wv (th m (upd T j x) H) v := by
  funext o
  by_cases h : o = (18, 6, 0)
  · subst h
    rw [mset_at, th_6, th_6]
  · rw [mset_ne _ _ _ _ _ _ h]
    unfold wv th
    rw [if_neg h, if_neg h]
theorem tm_7 {j : Nat} {x : Int32} : mset (wv (th m T H) v) 18 7 0 j x = wv (th m T (upd H j x)) v := by
  funext o
  by_cases h : o = (18, 7, 0)
  · subst h
    rw [mset_at, th_7, th_7]
  · rw [mset_ne _ _ _ _ _ _ h]
    unfold wv th
    by_cases h6 : o = (18, 6, 0)
    · rw [if_pos h6, if_pos h6]
    · rw [if_neg h, if_neg h]
theorem th_th {T' H' : Nat → Int32} : th (th m T H) T' H' = th m T' H' := by
  funext o
  unfold th
  by_cases h6 : o = (18, 6, 0)
  · simp only [h6, if_true]
  · by_cases h7 : o = (18, 7, 0)
    · simp only [h6, h7, if_true, if_false]
    · simp only [h6, h7, if_false]
theorem th_id : th m (m (18, 6, 0)) (m (18, 7, 0)) = m := by
  funext o
  unfold th
  by_cases h6 : o = (18, 6, 0)
  · rw [if_pos h6, h6]
  · by_cases h7 : o = (18, 7, 0)
    · rw [if_neg h6, if_pos h7, h7]
    · rw [if_neg h6, if_neg h7]
end TH
/-- the cells that a week's sessions change -/
def dyn (t : Fin 10) (j : Nat) : Prop := (t = 9 ∧ (j = 7 ∨ j = 9 ∨ j = 10 ∨ j = 11)) ∨ (t = 2 ∧ (j = 9 ∨ j = 10 ∨ j = 11))
def Hs (N M : Nu) : Prop := ∀ t i j, ¬ dyn t j → M t i j = N t i j
theorem Hs.rfl' {N : Nu} : Hs N N := fun _ _ _ _ => rfl
theorem Hs.ns {N M : Nu} (h : Hs N M) {t : Fin 10} {i j : Nat} {x : Int32} (hd : dyn t j) : Hs N (nset M t i j x) := by
  intro t' i' j' hn
  rw [nset_ap, if_neg]
  · exact h t' i' j' hn
  · rintro ⟨rfl, -, rfl⟩
    exact hn hd
theorem nd9 {j : Nat} (h : ¬ (j = 7 ∨ j = 9 ∨ j = 10 ∨ j = 11)) : ¬ dyn 9 j := by
  rintro (⟨-, q⟩ | ⟨q, -⟩)
  · exact h q
  · exact absurd q (by decide)
theorem nd2 {j : Nat} (h : ¬ (j = 9 ∨ j = 10 ∨ j = 11)) : ¬ dyn 2 j := by
  rintro (⟨q, -⟩ | ⟨-, q⟩)
  · exact absurd q (by decide)
  · exact h q
theorem ndt {t : Fin 10} {j : Nat} (h : ¬ t = 9) (h2 : ¬ t = 2) : ¬ dyn t j := by
  rintro (⟨q, -⟩ | ⟨q, -⟩)
  · exact h q
  · exact h2 q
theorem Hs.k {N M : Nu} (h : Hs N M) {i j : Nat} (hj : ¬ (j = 7 ∨ j = 9 ∨ j = 10 ∨ j = 11)) : M 9 i j = N 9 i j := h 9 i j (nd9 hj)
theorem Hs.sm {N M : Nu} (h : Hs N M) : Sm N M := ⟨h 2 0 4 (nd2 (by decide)), h 2 0 5 (nd2 (by decide)), h 2 0 6 (nd2 (by decide))⟩
theorem Hs.t {N M : Nu} (h : Hs N M) {t : Fin 10} (h9 : ¬ t = 9) (h2 : ¬ t = 2) : M t = N t := by
  funext i j
  exact h t i j (ndt h9 h2)
theorem Hs.com {N M : Nu} (h : Hs N M) (room s : Int32) : comF M room s = comF N room s := by
  unfold comF
  rw [h.sm.nK]
  refine setI_congr fun i _ => ?_
  unfold coP comP
  rw [h.k (by decide), h.k (by decide), h.k (by decide), h.k (by decide)]
theorem Hs.plc {N M : Nu} (h : Hs N M) (r s : Nat) (q : Int32) : placesF M r s q = placesF N r s q := placesF_congr (h.t (by decide) (by decide)) (h.t (by decide) (by decide)) h.sm.2.1 r s q
theorem Hs.too {N M : Nu} (h : Hs N M) (r s : Nat) : tooN M r s = tooN N r s := by
  unfold tooN
  rw [h.com, h.plc]
theorem Hs.nsh {N M : Nu} (h : Hs N M) (x : Int32) : nshN M x = nshN N x := by
  show (nshF M x).toNatClampNeg = (nshF N x).toNatClampNeg
  rw [nshF_congr h.sm.2.2 (fun i => h.k (by decide)) (fun i => h.k (by decide))]
theorem Hs.sty {N M : Nu} (h : Hs N M) : ∀ d x, stayX M d x = stayX N d x
  | 0, _ => rfl
  | d + 1, x => by
    show stayX M d (dropI x (nshN M x)) = stayX N d (dropI x (nshN N x))
    rw [h.nsh, h.sty d]
theorem low_congr {p q : Nat → Prop} [DecidablePred p] [DecidablePred q] (h : ∀ j, p j ↔ q j) : ∀ d j, low p j d = low q j d
  | 0, _ => rfl
  | d + 1, j => by
    by_cases hp : p j
    · rw [low_t hp, low_t ((h j).mp hp)]
    · rw [low_f hp, low_f (fun a => hp ((h j).mpr a)), low_congr h d]
theorem Hs.fee {N M : Nu} (h : Hs N M) (i : Nat) : feeF M i = feeF N i := by
  unfold feeF
  rw [low_congr (q := fun j => ¬ N 9 j 6 = 0 ∧ N 9 j 1 = N 9 i 1) (fun j => by rw [h.k (by decide), h.k (by decide), h.k (by decide)]), h.t (t := 3) (by decide) (by decide)]
theorem sumI_congr {f f' : Nat → Int32} : ∀ {n : Nat}, (∀ j, j < n → f j = f' j) → sumI f n = sumI f' n
  | 0, _ => rfl
  | n + 1, h => by
    show sumI f n + f n = sumI f' n + f' n
    rw [sumI_congr (fun j hj => h j (by omega)), h n (by omega)]
theorem sumI_one {f f' : Nat → Int32} {c : Nat} {x : Int32} (hc : f' c = f c + x) (h : ∀ j, ¬ j = c → f' j = f j) : ∀ {n : Nat}, c < n → sumI f' n = sumI f n + x
  | 0, hn => by omega
  | n + 1, hn => by
    show sumI f' n + f' n = sumI f n + f n + x
    by_cases e : c = n
    · rw [← e, sumI_congr (fun j hj => h j (by omega)), hc, Int32.add_assoc]
    · rw [sumI_one hc h (by omega), h n (fun q => e q.symm), Int32.add_assoc, Int32.add_comm x, ← Int32.add_assoc]
/-- settled children have no planned visit -/
def Pl (N : Nu) : Prop := ∀ i, i < nK N → ¬ N 9 i 6 = 0 → N 9 i 8 = -6
def c9F (T : Nat → Int32) (i : Nat) : Int32 := nI (pcI (T i &&& 1023))
def c7F (T : Nat → Int32) (i : Nat) : Int32 := T i >>> (10 &&& 31)
/-- what class and reference have booked after q sessions of rooms -/
def Bk (N : Nu) (q : Nat) (M : Nu) (T H : Nat → Int32) : Prop :=
  Hs N M ∧
  (∀ i, i < nK N → M 9 i 9 = N 9 i 9 + c9F T i ∧ M 9 i 11 = N 9 i 11 + c9F T i * feeF N i ∧ M 9 i 7 = N 9 i 7 + c7F T i ∧ M 9 i 10 = N 9 i 10 + H i) ∧
  (M 2 0 9 = N 2 0 9 + sumI (fun i => c9F T i * feeF N i) (nK N) ∧ M 2 0 10 = N 2 0 10 + sumI (c7F T) (nK N) ∧ M 2 0 11 = N 2 0 11 + sumI H (nK N)) ∧
  ∀ i, i < nK N → ∀ j, j < 32 → Has (T i) (nI j) → (j < 10 ∧ ∃ q', q' < q ∧ N 9 i 4 = nI (q' / 10) ∧ q' % 10 = j ∧ ¬ N 9 i 6 = 0) ∨ (j = 10 ∧ ∃ q', q' < q ∧ N 9 i 4 = nI (q' / 10) ∧ N 9 i 6 = 0 ∧ N 9 i 8 = nI (q' % 10))
theorem c9_s {T : Nat → Int32} {i s : Nat} (hs : s < 10) (h : ¬ Has (T i) (nI s)) : c9F (upd T i (T i ||| (1 <<< (nI s &&& 31)))) i = c9F T i + 1 := by
  show nI (pcI (upd T i _ i &&& 1023)) = nI (pcI (T i &&& 1023)) + 1
  rw [show upd T i (T i ||| (1 <<< (nI s &&& 31))) i = T i ||| (1 <<< (nI s &&& 31)) from pk_us, nI_1]
  have e : pcI (T i &&& 1023) + 1 = pcI ((T i ||| (1 <<< (nI s &&& 31))) &&& 1023) := by
    rw [pcI_cnt, pcI_cnt]
    refine cnt_one (p := fun j => Has ((T i ||| (1 <<< (nI s &&& 31))) &&& 1023) (nI j)) (q := fun j => Has (T i &&& 1023) (nI j)) (c := s) (by omega) ?_ fun j hj => ?_
    · rw [has_bit (by omega), bt_and, bt_or, bt_one (by omega) (by omega), bt_1023 (by omega)]
      simp [hs]
    · rw [has_bit hj, has_bit hj, bt_and, bt_and, bt_or, bt_one (by omega) hj, bt_1023 hj]
      by_cases e : j = s
      · subst e
        rw [has_bit hj] at h
        simp [h]
      · simp [e]
  rw [e]
theorem c9_10 {T : Nat → Int32} {i : Nat} : c9F (upd T i (T i ||| 1024)) i = c9F T i := by
  show nI (pcI (upd T i _ i &&& 1023)) = nI (pcI (T i &&& 1023))
  rw [show upd T i (T i ||| 1024) i = T i ||| 1024 from pk_us]
  have e : (T i ||| 1024) &&& 1023 = T i &&& 1023 := by
    refine bt_ext fun j hj => ?_
    rw [bt_and, bt_and, bt_or, bt_1023 hj]
    by_cases e : j < 10
    · have : bq 1024 j = false := (by decide +kernel : ∀ j, j < 10 → bq 1024 j = false) j e
      rw [this, Bool.or_false]
    · simp [e]
  rw [e]
theorem bt_1024 {j : Nat} (hj : j < 32) : bq 1024 j = decide (j = 10) := (by decide +kernel : ∀ j, j < 32 → bq 1024 j = decide (j = 10)) j hj
/-- of a set within eleven, its tenth -/
theorem sh10 {x : Int32} (h : ∀ j, j < 32 → Has x (nI j) → j < 11) : x >>> (10 &&& 31) = if Has x (nI 10) then 1 else 0 := by
  have key : ∀ y : Int32, ((y >>> (nI 10 &&& 31)) &&& 1 = 1 ∨ (y >>> (nI 10 &&& 31)) &&& 1 = 0) := by
    intro y
    obtain ⟨k, hk, e⟩ := pk_andE (y >>> (nI 10 &&& 31)) (m := 1) 1 (by decide)
    rcases k with _ | _ | k
    · exact Or.inr e
    · exact Or.inl e
    · omega
  have hx : x >>> (10 &&& 31) = (x >>> (nI 10 &&& 31)) &&& 1 := by
    refine bt_ext fun j hj => ?_
    rw [bt_and]
    by_cases e : j = 0
    · subst e
      rw [show bq 1 0 = true by decide, Bool.and_true]
      rfl
    · have h1 : bq 1 j = false := (by decide +kernel : ∀ j, j < 32 → ¬ j = 0 → bq 1 j = false) j hj e
      rw [h1, Bool.and_false]
      show (x >>> (nI 10 &&& 31)).toBitVec.getLsbD j = false
      rw [Int32.toBitVec_shiftRight, show x.toBitVec.sshiftRight' ((nI 10 &&& 31).toBitVec.smod 32) = x.toBitVec.sshiftRight ((nI 10 &&& 31).toBitVec.smod 32).toNat from rfl, nI_sm (by decide), BitVec.getLsbD_sshiftRight]
      have hm : ∀ k, 11 ≤ k → k < 32 → x.toBitVec.getLsbD k = false := by
        intro k hk hk2
        have := fun q => h k hk2 ((has_bit hk2).mpr q)
        cases hb : x.toBitVec.getLsbD k
        · rfl
        · exact absurd (this hb) (by omega)
      have hmsb : x.toBitVec.msb = false := by
        rw [BitVec.msb_eq_getLsbD_last]
        exact hm 31 (by decide) (by decide)
      split
      · rw [hm _ (by omega) (by assumption)]
        simp
      · rw [hmsb]
        simp
  rw [hx]
  by_cases hh : Has x (nI 10)
  · rw [if_pos hh]
    exact hh
  · rw [if_neg hh]
    exact (key x).resolve_left hh
theorem Bk.lt {N M : Nu} {q : Nat} {T H : Nat → Int32} (h : Bk N q M T H) {i : Nat} (hi : i < nK N) : ∀ j, j < 32 → Has (T i) (nI j) → j < 11 := by
  intro j hj q
  rcases h.2.2.2 i hi j hj q with ⟨a, -⟩ | ⟨a, -⟩ <;> omega
theorem c9_ne {T : Nat → Int32} {i c : Nat} {x : Int32} (h : ¬ c = i) : c9F (upd T i x) c = c9F T c := by
  unfold c9F
  rw [pk_un h]
theorem c7_ne {T : Nat → Int32} {i c : Nat} {x : Int32} (h : ¬ c = i) : c7F (upd T i x) c = c7F T c := by
  unfold c7F
  rw [pk_un h]
theorem c7_v {T : Nat → Int32} {i : Nat} (h : ∀ j, j < 32 → Has (T i) (nI j) → j < 11) : c7F T i = if Has (T i) (nI 10) then 1 else 0 := sh10 h
