/-! WHAT HOLDS OF A STATE BETWEEN CALLS: rows that whole's reference rows hold too, without the reference -/
def Kd (N : Nu) : Prop := ∀ i, i < nK N → (N 9 i 3 = 0 ∨ N 9 i 3 = 1 ∨ N 9 i 3 = 2) ∧ (N 9 i 6 = 0 ∨ N 9 i 6 = 1) ∧ (¬ N 9 i 3 = 1 → N 9 i 6 = 0 ∧ N 9 i 8 = -6) ∧ (N 9 i 8 = -6 ∨ ∃ s, s < 10 ∧ N 9 i 8 = nI s) ∧ (∀ j, j < 32 → Has (N 9 i 5) (nI j) → j < 10) ∧ ¬ N 9 i 13 < 0
def Ok (N : Nu) : Prop := (Bd N ∧ nC N ≤ 12) ∧ Rk N ∧ RB N ∧ ((∀ i, i < nC N → ¬ N 8 i 3 < 0 ∧ (N 8 i 4 = 0 ∨ N 8 i 4 = 1)) ∧ (∀ r, r < nR N → ¬ N 7 r 1 < 0)) ∧ Kd N ∧ ∀ j, j < 5 → ¬ N 3 0 j < 0
section BASE
variable {N : Nu}
theorem inP_iff {c r : Nat} (hO : Ok N) (hc : c < nK N) (hr : r < 2 ^ 31) : (N 9 c 3 = 1 ∧ N 9 c 4 = nI r) ↔ N 9 c 4 = nI r := by
  refine ⟨fun q => q.2, fun q => ⟨?_, q⟩⟩
  by_cases h : N 9 c 3 = 1
  · exact h
  · have := ((hO.2.1 c hc).2 h).1
    rw [q] at this
    exact absurd this (nI_n6 hr)
theorem b2i_congr {p q : Prop} [Decidable p] [Decidable q] (h : p ↔ q) : b2i p = b2i q := by
  by_cases hp : p
  · rw [b2i_t hp, b2i_t (h.mp hp)]
  · rw [b2i_f hp, b2i_f (fun a => hp (h.mpr a))]
theorem or_0 (x : Int32) : x ||| 0 = x := by
  refine bt_ext fun j hj => ?_
  rw [bt_or, bt_0 hj, Bool.or_false]
theorem ns_comm {N : Nu} {t t' : Fin 10} {i j i' j' : Nat} {x y : Int32} (h : ¬ (t' = t ∧ i' = i ∧ j' = j)) : nset (nset N t i j x) t' i' j' y = nset (nset N t' i' j' y) t i j x := by
  funext a b c
  rw [nset_ap, nset_ap, nset_ap, nset_ap]
  by_cases h1 : a = t' ∧ b = i' ∧ c = j'
  · rw [if_pos h1, if_pos h1, if_neg]
    rintro ⟨q1, q2, q3⟩
    exact h ⟨h1.1.symm.trans q1, h1.2.1.symm.trans q2, h1.2.2.symm.trans q3⟩
  · rw [if_neg h1, if_neg h1]
def K1 (N : Nu) (i : Nat) : Prop := ((N 9 i 3 = 1 → ∃ r, r < nR N ∧ N 9 i 4 = nI r) ∧ (¬ N 9 i 3 = 1 → N 9 i 4 = -6 ∧ N 9 i 5 = 0)) ∧ (N 9 i 3 = 0 ∨ N 9 i 3 = 1 ∨ N 9 i 3 = 2) ∧ (N 9 i 6 = 0 ∨ N 9 i 6 = 1) ∧ (¬ N 9 i 3 = 1 → N 9 i 6 = 0 ∧ N 9 i 8 = -6) ∧ (N 9 i 8 = -6 ∨ ∃ s, s < 10 ∧ N 9 i 8 = nI s) ∧ (∀ j, j < 32 → Has (N 9 i 5) (nI j) → j < 10) ∧ ¬ N 9 i 13 < 0
theorem Ok.k1 {N : Nu} (h : Ok N) {i : Nat} (hi : i < nK N) : K1 N i := ⟨h.2.1 i hi, h.2.2.2.2.1 i hi⟩
theorem ok_kids {N M : Nu} (hO : Ok N) (hs : Sm N M) (h3 : M 3 = N 3) (h7 : M 7 = N 7) (h8 : M 8 = N 8) (hk : ∀ i, i < nK N → K1 M i) : Ok M := by
  refine ⟨⟨hs.bd hO.1.1, by rw [hs.nC]; exact hO.1.2⟩, fun i hi => (hk i (by rw [hs.nK] at hi; exact hi)).1, ?_, ⟨?_, ?_⟩, fun i hi => (hk i (by rw [hs.nK] at hi; exact hi)).2, ?_⟩
  · intro r hr
    rw [hs.nR] at hr
    rw [h7]
    exact hO.2.2.1 r hr
  · intro i hi
    rw [hs.nC] at hi
    rw [h8]
    exact hO.2.2.2.1.1 i hi
  · intro r hr
    rw [hs.nR] at hr
    rw [h7]
    exact hO.2.2.2.1.2 r hr
  · rw [h3]; exact hO.2.2.2.2.2
theorem ok_kid {N M : Nu} {c : Nat} (hO : Ok N) (hs : Sm N M) (h3 : M 3 = N 3) (h7 : M 7 = N 7) (h8 : M 8 = N 8) (hk : ∀ i, ¬ i = c → M 9 i = N 9 i) (h1 : K1 M c) : Ok M := by
  refine ok_kids hO hs h3 h7 h8 fun i hi => ?_
  by_cases e : i = c
  · rw [e]; exact h1
  · have := hO.k1 hi
    unfold K1 at this ⊢
    rw [hk i e, hs.nR]
    exact this
theorem ok_irr {N : Nu} (hO : Ok N) {c j : Nat} {x : Int32} (hj : ¬ (j = 3 ∨ j = 4 ∨ j = 5 ∨ j = 6 ∨ j = 8 ∨ j = 13)) : Ok (nset N 9 c j x) := by
  have hs : Sm N (nset N 9 c j x) := Sm.rfl'.nt (by decide)
  refine ok_kids hO hs (by funext a b; exact ns_t (by decide)) (by funext a b; exact ns_t (by decide)) (by funext a b; exact ns_t (by decide)) fun i hi => ?_
  have := hO.k1 hi
  unfold K1 at this ⊢
  rw [hs.nR, ns_j (by omega), ns_j (by omega), ns_j (by omega), ns_j (by omega), ns_j (by omega), ns_j (by omega)]
  exact this
theorem ok_n2 {N : Nu} (hO : Ok N) {j : Nat} {x : Int32} (hj : 7 ≤ j) : Ok (nset N 2 0 j x) := by
  have hs : Sm N (nset N 2 0 j x) := Sm.rfl'.n2 hj
  refine ok_kids hO hs (by funext a b; exact ns_t (by decide)) (by funext a b; exact ns_t (by decide)) (by funext a b; exact ns_t (by decide)) fun i hi => ?_
  have := hO.k1 hi
  unfold K1 at this ⊢
  rw [hs.nR, ns_t (by decide), ns_t (by decide), ns_t (by decide), ns_t (by decide), ns_t (by decide), ns_t (by decide)]
  exact this
theorem ok_n8 {N : Nu} (hO : Ok N) {c : Nat} {x : Int32} (hx : x = 0 ∨ x = 1) : Ok (nset N 8 c 4 x) := by
  have hs : Sm N (nset N 8 c 4 x) := Sm.rfl'.nt (by decide)
  have h9 : (nset N 8 c 4 x) 9 = N 9 := by funext a b; exact ns_t (by decide)
  refine ⟨⟨hs.bd hO.1.1, by rw [hs.nC]; exact hO.1.2⟩, ?_, ?_, ⟨?_, ?_⟩, ?_, ?_⟩
  · intro i hi
    rw [hs.nK] at hi
    rw [hs.nR, h9]
    exact hO.2.1 i hi
  · intro r hr
    rw [hs.nR] at hr
    rw [ns_t (by decide), ns_t (by decide)]
    exact hO.2.2.1 r hr
  · intro i hi
    rw [hs.nC] at hi
    have := hO.2.2.2.1.1 i hi
    rw [ns_j (by decide)]
    refine ⟨this.1, ?_⟩
    by_cases e : i = c
    · rw [e, ns_s]; exact hx
    · rw [ns_i e]; exact this.2
  · intro r hr
    rw [hs.nR] at hr
    rw [ns_t (by decide)]
    exact hO.2.2.2.1.2 r hr
  · intro i hi
    rw [hs.nK] at hi
    rw [h9]
    exact hO.2.2.2.2.1 i hi
  · intro j hj
    rw [ns_t (by decide)]
    exact hO.2.2.2.2.2 j hj
theorem ok_qit {N : Nu} (hO : Ok N) {c : Nat} (hc : c < nK N) {s : Int32} (hs : s = 0 ∨ s = 2) : Ok (qitN N c s) := by
  refine ok_kid (c := c) hO qitN_ks.1 (by funext a b; simp [qitN, nset_ap]) (by funext a b; simp [qitN, nset_ap]) (by funext a b; simp [qitN, nset_ap]) (fun i hi => by funext b; simp [qitN, nset_ap, hi]) ?_
  have h := hO.k1 hc
  have e3 : qitN N c s 9 c 3 = s := by simp [qitN, nset_ap]
  have e4 : qitN N c s 9 c 4 = -6 := by simp [qitN, nset_ap]
  have e5 : qitN N c s 9 c 5 = 0 := by simp [qitN, nset_ap]
  have e6 : qitN N c s 9 c 6 = 0 := by simp [qitN, nset_ap]
  have e8 : qitN N c s 9 c 8 = -6 := by simp [qitN, nset_ap]
  have e13 : qitN N c s 9 c 13 = N 9 c 13 := by simp [qitN, nset_ap]
  have hs1 : ¬ s = 1 := by rcases hs with rfl | rfl <;> decide
  unfold K1
  rw [e3, e4, e5, e6, e8, e13]
  refine ⟨⟨fun q => absurd q hs1, fun _ => ⟨rfl, rfl⟩⟩, ?_, Or.inl rfl, fun _ => ⟨rfl, rfl⟩, Or.inl rfl, fun j hj q => absurd q (has_0 hj), h.2.2.2.2.2.2⟩
  rcases hs with rfl | rfl
  · exact Or.inl rfl
  · exact Or.inr (Or.inr rfl)
theorem ok_wait {N : Nu} (hO : Ok N) {c : Nat} (hc : c < nK N) {w : Int32} : Ok (waitN N c w) := ok_irr (ok_irr (ok_qit hO hc (Or.inl rfl)) (by omega)) (by omega)
theorem open_lt {N : Nu} {r : Nat} {set : Int32} {j : Nat} (hj : j < 32) (h : Has (openF N r set) (nI j)) : j < 10 := ((has_setI (by decide) hj).mp h).1
theorem gets_lt {N : Nu} {c j : Nat} (hj : j < 32) (h : Has (getsF N c) (nI j)) : j < 10 := by
  unfold getsF at h
  split at h
  · split at h
    · exact absurd h (has_0 hj)
    · exact open_lt hj h
  · exact absurd h (has_0 hj)
theorem gets_room {N : Nu} {c : Nat} (h : ¬ getsF N c = 0) : roomN N (N 9 c 0) < nR N := by
  by_cases q : roomN N (N 9 c 0) < nR N
  · exact q
  · exact absurd (if_neg q) h
theorem ok_plc {N : Nu} (hO : Ok N) {c : Nat} (hc : c < nK N) (hcan : canD N c) (hp : ¬ N 2 0 8 < 0) : Ok (plcN N c) := by
  refine ok_kid (c := c) hO plcN_sm (by funext a b; simp [plcN, nset_ap]) (by funext a b; simp [plcN, nset_ap]) (by funext a b; simp [plcN, nset_ap]) (fun i hi => by funext b; simp [plcN, nset_ap, hi]) ?_
  have h := hO.k1 hc
  have e3 : plcN N c 9 c 3 = 1 := by simp [plcN, nset_ap]
  have e4 : plcN N c 9 c 4 = roomI N (N 9 c 0) := by simp [plcN, nset_ap]
  have e5 : plcN N c 9 c 5 = getsF N c := by simp [plcN, nset_ap]
  have e6 : plcN N c 9 c 6 = if N 3 0 3 = 0 then 1 else 0 := by simp [plcN, nset_ap]
  have e8 : plcN N c 9 c 8 = N 9 c 8 := by simp [plcN, nset_ap]
  have e13 : plcN N c 9 c 13 = N 2 0 8 := by simp [plcN, nset_ap]
  have hr := gets_room hcan.2
  unfold K1
  rw [e3, e4, e5, e6, e8, e13, plcN_sm.nR]
  refine ⟨⟨fun _ => ⟨_, hr, if_pos hr⟩, fun q => absurd rfl q⟩, Or.inr (Or.inl rfl), ?_, fun q => absurd rfl q, h.2.2.2.2.1, fun j hj q => gets_lt hj q, hp⟩
  split
  · exact Or.inr rfl
  · exact Or.inl rfl
theorem pln_neg {N : Nu} (hO : Ok N) {j : Nat} (hj : j < nK N) : N 9 j 8 < 0 ↔ N 9 j 8 = -6 := by
  rcases (hO.k1 hj).2.2.2.2.1 with h | ⟨s, hs, h⟩
  · rw [h]; exact ⟨fun _ => rfl, fun _ => by decide⟩
  · rw [h]; exact ⟨fun q => absurd q (nI_pos (by omega)), fun q => absurd q (nI_n6 (by omega))⟩
def dyn (t : Fin 10) (j : Nat) : Prop := (t = 9 ∧ (j = 7 ∨ j = 9 ∨ j = 10 ∨ j = 11)) ∨ (t = 2 ∧ (j = 9 ∨ j = 10 ∨ j = 11))
def Hs (N M : Nu) : Prop := ∀ t i j, ¬ dyn t j → M t i j = N t i j
theorem Hs.rfl' {N : Nu} : Hs N N := fun _ _ _ _ => rfl
theorem Hs.ns {N M : Nu} (h : Hs N M) {t : Fin 10} {i j : Nat} {x : Int32} (hd : dyn t j) : Hs N (nset M t i j x) := by
  intro t' i' j' hn
  rw [nset_ap, if_neg]
  · exact h t' i' j' hn
  · rintro ⟨rfl, -, rfl⟩
    exact hn hd
theorem nd9 {j : Nat} (h : ¬ (j = 7 ∨ j = 9 ∨ j = 10 ∨ j = 11)) : ¬ dyn 9 j := by
  rintro (⟨-, q⟩ | ⟨q, -⟩)
  · exact h q
  · exact absurd q (by decide)
theorem nd2 {j : Nat} (h : ¬ (j = 9 ∨ j = 10 ∨ j = 11)) : ¬ dyn 2 j := by
  rintro (⟨q, -⟩ | ⟨-, q⟩)
  · exact absurd q (by decide)
  · exact h q
theorem ndt {t : Fin 10} {j : Nat} (h : ¬ t = 9) (h2 : ¬ t = 2) : ¬ dyn t j := by
  rintro (⟨q, -⟩ | ⟨q, -⟩)
  · exact h q
  · exact h2 q
theorem Hs.k {N M : Nu} (h : Hs N M) {i j : Nat} (hj : ¬ (j = 7 ∨ j = 9 ∨ j = 10 ∨ j = 11)) : M 9 i j = N 9 i j := h 9 i j (nd9 hj)
theorem Hs.sm {N M : Nu} (h : Hs N M) : Sm N M := ⟨h 2 0 4 (nd2 (by decide)), h 2 0 5 (nd2 (by decide)), h 2 0 6 (nd2 (by decide))⟩
theorem Hs.t {N M : Nu} (h : Hs N M) {t : Fin 10} (h9 : ¬ t = 9) (h2 : ¬ t = 2) : M t = N t := by
  funext i j
  exact h t i j (ndt h9 h2)
theorem Hs.com {N M : Nu} (h : Hs N M) (room s : Int32) : comF M room s = comF N room s := by
  unfold comF
  rw [h.sm.nK]
  refine setI_congr fun i _ => ?_
  unfold coP comP
  rw [h.k (by decide), h.k (by decide), h.k (by decide), h.k (by decide)]
theorem Hs.plc {N M : Nu} (h : Hs N M) (r s : Nat) (q : Int32) : placesF M r s q = placesF N r s q := placesF_congr (h.t (by decide) (by decide)) (h.t (by decide) (by decide)) h.sm.2.1 r s q
theorem Hs.too {N M : Nu} (h : Hs N M) (r s : Nat) : tooN M r s = tooN N r s := by
  unfold tooN
  rw [h.com, h.plc]
theorem Hs.nsh {N M : Nu} (h : Hs N M) (x : Int32) : nshN M x = nshN N x := by
  show (nshF M x).toNatClampNeg = (nshF N x).toNatClampNeg
  rw [nshF_congr h.sm.2.2 (fun i => h.k (by decide)) (fun i => h.k (by decide))]
theorem Hs.sty {N M : Nu} (h : Hs N M) : ∀ d x, stayX M d x = stayX N d x
  | 0, _ => rfl
  | d + 1, x => by
    show stayX M d (dropI x (nshN M x)) = stayX N d (dropI x (nshN N x))
    rw [h.nsh, h.sty d]
theorem low_congr {p q : Nat → Prop} [DecidablePred p] [DecidablePred q] (h : ∀ j, p j ↔ q j) : ∀ d j, low p j d = low q j d
  | 0, _ => rfl
  | d + 1, j => by
    by_cases hp : p j
    · rw [low_t hp, low_t ((h j).mp hp)]
    · rw [low_f hp, low_f (fun a => hp ((h j).mpr a)), low_congr h d]
theorem Hs.fee {N M : Nu} (h : Hs N M) (i : Nat) : feeF M i = feeF N i := by
  unfold feeF
  rw [low_congr (q := fun j => ¬ N 9 j 6 = 0 ∧ N 9 j 1 = N 9 i 1) (fun j => by rw [h.k (by decide), h.k (by decide), h.k (by decide)]), h.t (t := 3) (by decide) (by decide)]
theorem sumI_congr {f f' : Nat → Int32} : ∀ {n : Nat}, (∀ j, j < n → f j = f' j) → sumI f n = sumI f' n
  | 0, _ => rfl
  | n + 1, h => by
    show sumI f n + f n = sumI f' n + f' n
    rw [sumI_congr (fun j hj => h j (by omega)), h n (by omega)]
theorem sumI_one {f f' : Nat → Int32} {c : Nat} {x : Int32} (hc : f' c = f c + x) (h : ∀ j, ¬ j = c → f' j = f j) : ∀ {n : Nat}, c < n → sumI f' n = sumI f n + x
  | 0, hn => by omega
  | n + 1, hn => by
    show sumI f' n + f' n = sumI f n + f n + x
    by_cases e : c = n
    · rw [← e, sumI_congr (fun j hj => h j (by omega)), hc, Int32.add_assoc]
    · rw [sumI_one hc h (by omega), h n (fun q => e q.symm), Int32.add_assoc, Int32.add_comm x, ← Int32.add_assoc]
def Pl (N : Nu) : Prop := ∀ i, i < nK N → ¬ N 9 i 6 = 0 → N 9 i 8 = -6
theorem cnt_split {p q : Nat → Prop} [DecidablePred p] [DecidablePred q] : ∀ n, cnt (fun c => p c ∧ ¬ q c) n + cnt (fun c => p c ∧ q c) n = cnt p n
  | 0 => rfl
  | n + 1 => by
    have ih := cnt_split (p := p) (q := q) n
    by_cases hp : p n
    · by_cases hq : q n
      · rw [cnt_f (p := fun c => p c ∧ ¬ q c) (fun z => z.2 hq), cnt_t (p := fun c => p c ∧ q c) ⟨hp, hq⟩, cnt_t hp]; omega
      · rw [cnt_t (p := fun c => p c ∧ ¬ q c) ⟨hp, hq⟩, cnt_f (p := fun c => p c ∧ q c) (fun z => hq z.2), cnt_t hp]; omega
    · rw [cnt_f (p := fun c => p c ∧ ¬ q c) (fun z => hp z.1), cnt_f (p := fun c => p c ∧ q c) (fun z => hp z.1), cnt_f hp]; omega
theorem and_m1 (x : Int32) : x &&& (-1) = x := by
  refine bt_ext fun j hj => ?_
  rw [bt_and, bt_neg hj, Bool.and_true]
theorem has_or {x y : Int32} {j : Nat} (hj : j < 32) : Has (x ||| y) (nI j) ↔ Has x (nI j) ∨ Has y (nI j) := by
  rw [has_bit hj, has_bit hj, has_bit hj, bt_or, Bool.or_eq_true]
theorem has_one {s j : Nat} (hs : s < 32) (hj : j < 32) : Has (1 <<< (nI s &&& 31)) (nI j) ↔ j = s := by
  rw [has_bit hj, bt_one hs hj, decide_eq_true_iff]
def admX : Nat → Nu → Int32 → Int32
  | 0, _, x => x
  | f + 1, N, x => if nxtN N < nK N then admX f (plcN N (nxtN N)) (x ||| (1 <<< (nI (nxtN N) &&& 31))) else x
theorem nxt_can {N : Nu} (h : nxtN N < nK N) : canD N (nxtN N) := by
  unfold nxtN at h ⊢
  split
  · rename_i h2
    exact (low_p (fun c => canD N c ∧ sibD N c = true) (nK N) 0 (by rw [Nat.zero_add]; exact h2)).1
  · rename_i h2
    rw [if_neg h2] at h
    exact low_p (canD N) (nK N) 0 (by rw [Nat.zero_add]; exact h)
theorem wait_plc {N : Nu} {c : Nat} (hc : c < nK N) (h0 : N 9 c 3 = 0) : cnt (fun j => plcN N c 9 j 3 = 0) (nK N) + 1 = cnt (fun j => N 9 j 3 = 0) (nK N) := by
  refine cnt_one hc h0 fun j hj => ?_
  by_cases e : j = c
  · subst e
    have : plcN N j 9 j 3 = 1 := by simp [plcN, nset_ap]
    rw [this]
    exact ⟨fun q => absurd q (by decide), fun q => absurd rfl q.2⟩
  · have : plcN N c 9 j 3 = N 9 j 3 := by simp [plcN, nset_ap, e]
    rw [this]
    exact ⟨fun q => ⟨q, e⟩, fun q => q.1⟩
theorem admN_sm : ∀ f N, Sm N (admN f N)
  | 0, _ => Sm.rfl'
  | f + 1, N => by
    unfold admN
    split
    · exact plcN_sm.trans (admN_sm f _)
    · exact Sm.rfl'
theorem admX_pc : ∀ f N x, nK N ≤ 24 → (∀ j, j < nK N → Has x (nI j) → ¬ N 9 j 3 = 0) → pcI (admX f N x) = pcI x + admC f N
  | 0, N, x, _, _ => by
    unfold admX admC
    rw [Nat.add_zero]
  | f + 1, N, x, h24, h => by
    unfold admX admC
    by_cases hx : nxtN N < nK N
    · rw [if_pos hx, if_pos hx]
      have hc := nxt_can hx
      have e6 := (plcN_sm (N := N) (c := nxtN N)).nK
      rw [admX_pc f (plcN N (nxtN N)) _ (by rw [e6]; exact h24) (fun j hj q => ?_)]
      · have hno : ¬ Has x (nI (nxtN N)) := fun q => h _ hx q hc.1
        have : pcI x + 1 = pcI (x ||| (1 <<< (nI (nxtN N) &&& 31))) := by
          rw [pcI_cnt, pcI_cnt]
          refine cnt_one (c := nxtN N) (by omega) ((has_or (by omega)).mpr (Or.inr ((has_one (by omega) (by omega)).mpr rfl))) fun j hj => ?_
          rw [has_or hj, has_one (by omega) hj]
          refine ⟨fun q => ⟨Or.inl q, fun e => hno (e ▸ q)⟩, fun q => q.1.resolve_right q.2⟩
        omega
      · rw [e6] at hj
        rw [has_or (by omega), has_one (by omega) (by omega)] at q
        by_cases e : j = nxtN N
        · have : plcN N (nxtN N) 9 j 3 = 1 := by rw [e]; simp [plcN, nset_ap]
          rw [this]; decide
        · have : plcN N (nxtN N) 9 j 3 = N 9 j 3 := by simp [plcN, nset_ap, e]
          rw [this]
          exact h j hj (q.resolve_right e)
    · rw [if_neg hx, if_neg hx, Nat.add_zero]
theorem admX_has : ∀ f N x, nK N ≤ 24 → ∀ j, j < 32 → (Has (admX f N x) (nI j) ↔ Has x (nI j) ∨ (j < nK N ∧ admN f N 9 j 3 = 1 ∧ ¬ N 9 j 3 = 1)) ∧ (N 9 j 3 = 1 → admN f N 9 j 3 = 1)
  | 0, N, x, _, j, _ => ⟨⟨Or.inl, fun q => q.elim id (fun z => absurd z.2.1 z.2.2)⟩, id⟩
  | f + 1, N, x, h24, j, hj => by
    unfold admX admN
    by_cases hx : nxtN N < nK N
    · rw [if_pos hx, if_pos hx]
      have hc := nxt_can hx
      have e6 := (plcN_sm (N := N) (c := nxtN N)).nK
      obtain ⟨i1, i2⟩ := admX_has f (plcN N (nxtN N)) (x ||| (1 <<< (nI (nxtN N) &&& 31))) (by rw [e6]; exact h24) j hj
      rw [i1, has_or hj, has_one (by omega) hj, e6]
      by_cases e : j = nxtN N
      · have h1 : plcN N (nxtN N) 9 j 3 = 1 := by rw [e]; simp [plcN, nset_ap]
        have h0 : ¬ N 9 j 3 = 1 := by rw [e, hc.1]; decide
        refine ⟨⟨fun _ => Or.inr ⟨by omega, i2 h1, h0⟩, fun _ => Or.inl (Or.inr e)⟩, fun q => absurd q h0⟩
      · have h1 : plcN N (nxtN N) 9 j 3 = N 9 j 3 := by simp [plcN, nset_ap, e]
        rw [h1] at i2 ⊢
        refine ⟨⟨fun q => q.elim (fun z => Or.inl (z.resolve_right e)) Or.inr, fun q => q.elim (fun z => Or.inl (Or.inl z)) Or.inr⟩, i2⟩
    · rw [if_neg hx, if_neg hx]
      exact ⟨⟨Or.inl, fun q => q.elim id (fun z => absurd z.2.1 z.2.2)⟩, id⟩
theorem admN_8 : ∀ f N p, N 2 0 8 = nI p → ∃ q, q ≤ p + f ∧ admN f N 2 0 8 = nI q
  | 0, N, p, h => ⟨p, by omega, h⟩
  | f + 1, N, p, h => by
    unfold admN
    split
    · have e : plcN N (nxtN N) 2 0 8 = nI (p + 1) := by
        have : plcN N (nxtN N) 2 0 8 = N 2 0 8 + 1 := by simp [plcN, nset_ap]
        rw [this, h, nI_1]
      obtain ⟨q, h1, h2⟩ := admN_8 f _ (p + 1) e
      exact ⟨q, by omega, h2⟩
    · exact ⟨p, by omega, h⟩
theorem ok_six {N : Nu} (hO : Ok N) {c : Nat} (hc : c < nK N) (h1 : N 9 c 3 = 1) : Ok (nset N 9 c 6 1) := by
  have hs : Sm N (nset N 9 c 6 1) := Sm.rfl'.nt (by decide)
  refine ok_kid (c := c) hO hs (by funext a b; exact ns_t (by decide)) (by funext a b; exact ns_t (by decide)) (by funext a b; exact ns_t (by decide)) (fun i hi => by funext b; exact ns_i hi) ?_
  have h := hO.k1 hc
  unfold K1 at h ⊢
  rw [hs.nR, ns_s, ns_j (j' := 3) (by decide), ns_j (j' := 4) (by decide), ns_j (j' := 5) (by decide), ns_j (j' := 8) (by decide), ns_j (j' := 13) (by decide)]
  exact ⟨h.1, h.2.1, Or.inr rfl, fun q => absurd h1 q, h.2.2.2.2⟩
theorem ok_eight {N : Nu} (hO : Ok N) {c : Nat} (hc : c < nK N) : Ok (nset N 9 c 8 (-6)) := by
  have hs : Sm N (nset N 9 c 8 (-6)) := Sm.rfl'.nt (by decide)
  refine ok_kid (c := c) hO hs (by funext a b; exact ns_t (by decide)) (by funext a b; exact ns_t (by decide)) (by funext a b; exact ns_t (by decide)) (fun i hi => by funext b; exact ns_i hi) ?_
  have h := hO.k1 hc
  unfold K1 at h ⊢
  rw [hs.nR, ns_s, ns_j (j' := 3) (by decide), ns_j (j' := 4) (by decide), ns_j (j' := 5) (by decide), ns_j (j' := 6) (by decide), ns_j (j' := 13) (by decide)]
  exact ⟨h.1, h.2.1, h.2.2.1, fun q => ⟨(h.2.2.2.1 q).1, rfl⟩, Or.inl rfl, h.2.2.2.2.2⟩
theorem ok_mov {N : Nu} (hO : Ok N) {c : Nat} (hc : c < nK N) (h1 : N 9 c 3 = 1) {r : Nat} (hr : r < nR N) {x : Int32} (hx : ∀ j, j < 32 → Has x (nI j) → j < 10) : Ok (nset (nset N 9 c 4 (nI r)) 9 c 5 x) := by
  have hs : Sm N (nset (nset N 9 c 4 (nI r)) 9 c 5 x) := (Sm.rfl'.nt (by decide)).nt (by decide)
  refine ok_kid (c := c) hO hs (by funext a b; rw [ns_t (by decide), ns_t (by decide)]) (by funext a b; rw [ns_t (by decide), ns_t (by decide)]) (by funext a b; rw [ns_t (by decide), ns_t (by decide)]) (fun i hi => by funext b; rw [ns_i hi, ns_i hi]) ?_
  have h := hO.k1 hc
  have e3 : nset (nset N 9 c 4 (nI r)) 9 c 5 x 9 c 3 = N 9 c 3 := by simp [nset_ap]
  have e4 : nset (nset N 9 c 4 (nI r)) 9 c 5 x 9 c 4 = nI r := by simp [nset_ap]
  have e5 : nset (nset N 9 c 4 (nI r)) 9 c 5 x 9 c 5 = x := by simp [nset_ap]
  have e6 : nset (nset N 9 c 4 (nI r)) 9 c 5 x 9 c 6 = N 9 c 6 := by simp [nset_ap]
  have e8 : nset (nset N 9 c 4 (nI r)) 9 c 5 x 9 c 8 = N 9 c 8 := by simp [nset_ap]
  have e13 : nset (nset N 9 c 4 (nI r)) 9 c 5 x 9 c 13 = N 9 c 13 := by simp [nset_ap]
  unfold K1 at h ⊢
  rw [hs.nR, e3, e4, e5, e6, e8, e13]
  exact ⟨⟨fun _ => ⟨r, hr, rfl⟩, fun q => absurd h1 q⟩, h.2.1, h.2.2.1, h.2.2.2.1, h.2.2.2.2.1, hx, h.2.2.2.2.2.2⟩
theorem ok_stl {N : Nu} (hO : Ok N) {c : Nat} (hc : c < nK N) : Ok (stlN c N) := by
  unfold stlN
  split
  · rename_i h; exact ok_six hO hc h.1
  · exact hO
theorem ok_bgn {N : Nu} (hO : Ok N) {c : Nat} (hc : c < nK N) : Ok (bgnN c N) := by
  unfold bgnN
  split
  · exact ok_irr (ok_eight hO hc) (by decide)
  · exact ok_eight hO hc
theorem ok_mvg {N : Nu} (hO : Ok N) {c : Nat} (hc : c < nK N) : Ok (mvgN c N) := by
  unfold mvgN
  split
  · rename_i h
    have h1 : N 9 c 3 = 1 := by
      by_cases q : N 9 c 3 = 1
      · exact q
      · have := ((hO.2.1 c hc).2 q).1
        rw [this] at h
        exact absurd (by decide) h.1.1
    unfold movN
    split
    · split
      · exact ok_wait hO hc
      · rename_i hr _
        exact ok_mov hO hc h1 hr (fun j hj q => open_lt hj q)
    · exact ok_qit hO hc (Or.inr rfl)
  · exact hO
theorem ok_drp {N : Nu} (hO : Ok N) {c : Nat} (hc : c < nK N) : Ok (drpN c N) := by
  unfold drpN
  split
  · exact ok_qit hO hc (Or.inr rfl)
  · exact hO
theorem ok_run {f : Nat → Nu → Nu} {N : Nu} (hO : Ok N) (hk : ∀ j M, Ks M (f j M)) (hf : ∀ j M, Ok M → j < nK M → Ok (f j M)) : ∀ j, j ≤ nK N → Ok (runN f N j)
  | 0, _ => hO
  | j + 1, h => hf j _ (ok_run hO hk hf j (by omega)) (by rw [(runN_ks hk j).1.nK]; omega)
def A8 (N : Nu) : Prop := ∀ i, i < nK N → N 9 i 8 = -6
theorem a8_mvg {N : Nu} (h : A8 N) (c : Nat) : A8 (mvgN c N) := by
  intro i hi
  rw [mvgN_ks.1.nK] at hi
  have h8 := h i hi
  unfold mvgN movN
  split
  · split
    · split
      · simp [waitN, qitN, nset_ap, h8]
      · simp [nset_ap, h8]
    · simp [qitN, nset_ap, h8]
  · exact h8
theorem a8_drp {N : Nu} (h : A8 N) (c : Nat) : A8 (drpN c N) := by
  intro i hi
  rw [drpN_ks.1.nK] at hi
  have h8 := h i hi
  unfold drpN
  split
  · simp [qitN, nset_ap, h8]
  · exact h8
theorem a8_well {N : Nu} (h : A8 N) (c : Nat) : A8 (wellN c N) := by
  intro i hi
  rw [wellN_ks.1.nK] at hi
  unfold wellN
  rw [ns_t (by decide)]
  exact h i hi
theorem a8_bgn {N : Nu} : ∀ j, j ≤ nK N → ∀ i, i < j → runN bgnN N j 9 i 8 = -6
  | 0, _, i, hi => by omega
  | j + 1, hj, i, hi => by
    have ih := a8_bgn (N := N) j (by omega) i
    show bgnN j (runN bgnN N j) 9 i 8 = -6
    generalize runN bgnN N j = L at *
    have e : bgnN j L 9 i 8 = if i = j then -6 else L 9 i 8 := by
      unfold bgnN
      split <;> simp [nset_ap]
    rw [e]
    split
    · rfl
    · exact ih (by omega)
theorem ns_id {N : Nu} {t : Fin 10} {i j : Nat} : nset N t i j (N t i j) = N := by
  funext a b c
  rw [nset_ap]
  split
  · rename_i h; rw [h.1, h.2.1, h.2.2]
  · rfl
theorem weeks_k {N : Nu} : ∀ w, Ks N (runN (fun _ => wekN) N w) := fun w => runN_ks (fun _ _ => wekN_ks) w
theorem pl_of {N M : Nu} (h : Pl N) (hs : M 2 0 6 = N 2 0 6) (h6 : ∀ i, M 9 i 6 = N 9 i 6) (h8 : ∀ i, M 9 i 8 = N 9 i 8) : Pl M := by
  intro i hi q
  have hi2 : i < nK N := by
    have e : nK M = nK N := by show (M 2 0 6).toNatClampNeg = _; rw [hs]
    rwa [e] at hi
  rw [h6] at q
  rw [h8]
  exact h i hi2 q
theorem addRN_nR {N : Nu} {f t c r : Int32} (h : nR N < 5) : nR (addRN N f t c r) = nR N + 1 := by
  show (addRN N f t c r 2 0 4).toNatClampNeg = _
  have : addRN N f t c r 2 0 4 = nI (nR N + 1) := by simp [addRN, nset_ap]
  rw [this, nI_clamp (by omega)]
theorem addRN_o {N : Nu} {f t c r : Int32} {a : Fin 10} {i j : Nat} (h : ¬ (a = 7 ∧ i = nR N) ∧ ¬ (a = 2 ∧ j = 4)) : addRN N f t c r a i j = N a i j := by
  unfold addRN
  rw [nset_ap, if_neg (fun q => h.2 ⟨q.1, q.2.2⟩), nset_ap, if_neg (fun q => h.1 ⟨q.1, q.2.1⟩), nset_ap, if_neg (fun q => h.1 ⟨q.1, q.2.1⟩), nset_ap, if_neg (fun q => h.1 ⟨q.1, q.2.1⟩), nset_ap, if_neg (fun q => h.1 ⟨q.1, q.2.1⟩)]
theorem ok_addR {N : Nu} {f t c r : Int32} (hO : Ok N) (hb : RoomB f t c r) (h5 : nR N < 5) : Ok (addRN N f t c r) := by
  have o := @addRN_o N f t c r
  have e5 : addRN N f t c r 2 0 5 = N 2 0 5 := o ⟨by simp, by simp⟩
  have e6 : addRN N f t c r 2 0 6 = N 2 0 6 := o ⟨by simp, by simp⟩
  have e4 : addRN N f t c r 2 0 4 = nI (nR N + 1) := by simp [addRN, nset_ap]
  have nRe := addRN_nR (f := f) (t := t) (c := c) (r := r) h5
  have nCe : nC (addRN N f t c r) = nC N := by show (addRN N f t c r 2 0 5).toNatClampNeg = _; rw [e5]
  have nKe : nK (addRN N f t c r) = nK N := by show (addRN N f t c r 2 0 6).toNatClampNeg = _; rw [e6]
  have o9 : addRN N f t c r 9 = N 9 := by funext i j; exact o ⟨by simp, by simp⟩
  have o8 : addRN N f t c r 8 = N 8 := by funext i j; exact o ⟨by simp, by simp⟩
  have o3 : addRN N f t c r 3 = N 3 := by funext i j; exact o ⟨by simp, by simp⟩
  have q1 : addRN N f t c r 7 (nR N) 1 = t := by simp [addRN, nset_ap]
  have q2 : addRN N f t c r 7 (nR N) 2 = c := by simp [addRN, nset_ap]
  have q3 : addRN N f t c r 7 (nR N) 3 = r := by simp [addRN, nset_ap]
  obtain ⟨hf, htf, ht, hc, hr⟩ := hb
  refine ⟨⟨⟨⟨by rw [nRe, e4], by omega⟩, ⟨by rw [nCe, e5]; exact hO.1.1.2.1.1, by rw [nCe]; exact hO.1.1.2.1.2⟩, ⟨by rw [nKe, e6]; exact hO.1.1.2.2.1, by rw [nKe]; exact hO.1.1.2.2.2⟩⟩, by rw [nCe]; exact hO.1.2⟩, fun i hi => ?_, fun i hi => ?_, ⟨fun i hi => ?_, fun i hi => ?_⟩, fun i hi => ?_, fun j hj => ?_⟩
  · rw [nKe] at hi
    rw [o9, nRe]
    obtain ⟨a, b⟩ := hO.2.1 i hi
    exact ⟨fun q => (by obtain ⟨k, hk, ek⟩ := a q; exact ⟨k, by omega, ek⟩), b⟩
  · rw [nRe] at hi
    by_cases e : i = nR N
    · subst e
      rw [q2, q3]
      obtain ⟨k, hk, ek⟩ := nI_of2 (x := c) (M := 40) (n := 40) (by decide) (fun q => hc.1 (Int32.lt_trans q (by decide))) (Int32.not_lt.mp hc.2)
      obtain ⟨l, hl, el⟩ := nI_of2 (x := r) (M := 12) (n := 12) (by decide) (fun q => hr.1 (Int32.lt_trans q (by decide))) (Int32.not_lt.mp hr.2)
      exact ⟨⟨k, hk, ek⟩, ⟨l, hl, el⟩⟩
    · rw [o ⟨fun q => e q.2, by simp⟩, o ⟨fun q => e q.2, by simp⟩]
      exact hO.2.2.1 i (by omega)
  · rw [nCe] at hi
    rw [o8]
    exact hO.2.2.2.1.1 i hi
  · rw [nRe] at hi
    by_cases e : i = nR N
    · subst e
      rw [q1]
      intro q
      apply htf
      obtain ⟨k, hk, ek⟩ := nI_of hf.1
      rw [ek, Int32.le_iff_toInt_le, nI_toInt hk]
      rw [Int32.lt_iff_toInt_lt, Int32.toInt_zero] at q
      omega
    · rw [o ⟨fun q => e q.2, by simp⟩]
      exact hO.2.2.2.1.2 i (by omega)
  · rw [nKe] at hi
    rw [o9]
    exact hO.2.2.2.2.1 i hi
  · rw [o3]
    exact hO.2.2.2.2.2 j hj
theorem hirN_nC {N : Nu} {r d f t : Int32} (h : nC N < 2 ^ 30) : nC (hirN N r d f t) = nC N + 1 := by
  show (hirN N r d f t 2 0 5).toNatClampNeg = _
  have : hirN N r d f t 2 0 5 = nI (nC N + 1) := by simp [hirN, nset_ap]
  rw [this, nI_clamp (by omega)]
theorem hirN_o {N : Nu} {r d f t : Int32} {a : Fin 10} {i j : Nat} (h : ¬ (a = 8 ∧ i = nC N) ∧ ¬ (a = 2 ∧ j = 5)) : hirN N r d f t a i j = N a i j := by
  unfold hirN
  rw [nset_ap, if_neg (fun q => h.2 ⟨q.1, q.2.2⟩), nset_ap, if_neg (fun q => h.1 ⟨q.1, q.2.1⟩), nset_ap, if_neg (fun q => h.1 ⟨q.1, q.2.1⟩), nset_ap, if_neg (fun q => h.1 ⟨q.1, q.2.1⟩), nset_ap, if_neg (fun q => h.1 ⟨q.1, q.2.1⟩), nset_ap, if_neg (fun q => h.1 ⟨q.1, q.2.1⟩)]
theorem ok_hire {N : Nu} {r d f t : Int32} (hO : Ok N) (hb : ShiftB d f t) (h12 : nC N < 12) : Ok (hirN N r d f t) := by
  have o := @hirN_o N r d f t
  have e4 : hirN N r d f t 2 0 4 = N 2 0 4 := o ⟨by simp, by simp⟩
  have e6 : hirN N r d f t 2 0 6 = N 2 0 6 := o ⟨by simp, by simp⟩
  have e5 : hirN N r d f t 2 0 5 = nI (nC N + 1) := by simp [hirN, nset_ap]
  have nCe := hirN_nC (r := r) (d := d) (f := f) (t := t) (show nC N < 2 ^ 30 by omega)
  have nRe : nR (hirN N r d f t) = nR N := by show (hirN N r d f t 2 0 4).toNatClampNeg = _; rw [e4]
  have nKe : nK (hirN N r d f t) = nK N := by show (hirN N r d f t 2 0 6).toNatClampNeg = _; rw [e6]
  have o9 : hirN N r d f t 9 = N 9 := by funext i j; exact o ⟨by simp, by simp⟩
  have o7 : hirN N r d f t 7 = N 7 := by funext i j; exact o ⟨by simp, by simp⟩
  have o3 : hirN N r d f t 3 = N 3 := by funext i j; exact o ⟨by simp, by simp⟩
  have q3 : hirN N r d f t 8 (nC N) 3 = t := by simp [hirN, nset_ap]
  have q4 : hirN N r d f t 8 (nC N) 4 = 0 := by simp [hirN, nset_ap]
  obtain ⟨hd, hf, htf, ht⟩ := hb
  refine ⟨⟨⟨⟨by rw [nRe, e4]; exact hO.1.1.1.1, by rw [nRe]; exact hO.1.1.1.2⟩, ⟨by rw [nCe, e5], by omega⟩, ⟨by rw [nKe, e6]; exact hO.1.1.2.2.1, by rw [nKe]; exact hO.1.1.2.2.2⟩⟩, by omega⟩, fun i hi => ?_, fun i hi => ?_, ⟨fun i hi => ?_, fun i hi => ?_⟩, fun i hi => ?_, fun j hj => ?_⟩
  · rw [nKe] at hi
    rw [o9, nRe]
    exact hO.2.1 i hi
  · rw [nRe] at hi
    rw [o7]
    exact hO.2.2.1 i hi
  · rw [nCe] at hi
    by_cases e : i = nC N
    · subst e
      rw [q3, q4]
      refine ⟨fun q => ?_, Or.inl rfl⟩
      apply htf
      obtain ⟨k, hk, ek⟩ := nI_of hf.1
      rw [ek, Int32.le_iff_toInt_le, nI_toInt hk]
      rw [Int32.lt_iff_toInt_lt, Int32.toInt_zero] at q
      omega
    · rw [o ⟨fun q => e q.2, by simp⟩, o ⟨fun q => e q.2, by simp⟩]
      exact hO.2.2.2.1.1 i (by omega)
  · rw [nRe] at hi
    rw [o7]
    exact hO.2.2.2.1.2 i hi
  · rw [nKe] at hi
    rw [o9]
    exact hO.2.2.2.2.1 i hi
  · rw [o3]
    exact hO.2.2.2.2.2 j hj
theorem addKN_o {N : Nu} {a f w : Int32} {t : Fin 10} {i j : Nat} (h : ¬ (t = 9 ∧ i = nK N) ∧ ¬ (t = 2 ∧ j = 6)) : addKN N a f w t i j = N t i j := by
  have e9 : ∀ (x y : Nat) (z : Int32) (L : Nu), x = nK N → nset L 9 x y z t i j = L t i j := by
    intro x y z L hx
    subst hx
    exact if_neg (fun q => h.1 ⟨q.1, q.2.1⟩)
  unfold addKN
  rw [nset_ap, if_neg (fun q => h.2 ⟨q.1, q.2.2⟩)]
  unfold comeN waitN qitN
  repeat rw [e9 _ _ _ _ rfl]
theorem addKN_nK {N : Nu} {a f w : Int32} (h : nK N < 2 ^ 30) : nK (addKN N a f w) = nK N + 1 := by
  show (addKN N a f w 2 0 6).toNatClampNeg = _
  have : addKN N a f w 2 0 6 = nI (nK N + 1) := by simp [addKN, nset_ap]
  rw [this, nI_clamp (by omega)]
theorem addKN_c {N : Nu} {a f w : Int32} {j : Nat} (hj : j < 14) : addKN N a f w 9 (nK N) j = if j = 0 then a else if j = 1 then f else if j = 2 then w else if j = 4 then -6 else if j = 8 then -6 else if j = 12 then N 2 0 7 else 0 := by
  rcases (show j = 0 ∨ j = 1 ∨ j = 2 ∨ j = 3 ∨ j = 4 ∨ j = 5 ∨ j = 6 ∨ j = 7 ∨ j = 8 ∨ j = 9 ∨ j = 10 ∨ j = 11 ∨ j = 12 ∨ j = 13 by omega) with rfl | rfl | rfl | rfl | rfl | rfl | rfl | rfl | rfl | rfl | rfl | rfl | rfl | rfl <;> simp [addKN, comeN, waitN, qitN, nset_ap]
theorem ok_addK {N : Nu} {a f w : Int32} (hO : Ok N) (h24 : nK N < 24) : Ok (addKN N a f w) := by
  have o := @addKN_o N a f w
  have e4 : addKN N a f w 2 0 4 = N 2 0 4 := o ⟨by simp, by simp⟩
  have e5 : addKN N a f w 2 0 5 = N 2 0 5 := o ⟨by simp, by simp⟩
  have e6 : addKN N a f w 2 0 6 = nI (nK N + 1) := by simp [addKN, nset_ap]
  have nKe := addKN_nK (a := a) (f := f) (w := w) (show nK N < 2 ^ 30 by omega)
  have nRe : nR (addKN N a f w) = nR N := by show (addKN N a f w 2 0 4).toNatClampNeg = _; rw [e4]
  have nCe : nC (addKN N a f w) = nC N := by show (addKN N a f w 2 0 5).toNatClampNeg = _; rw [e5]
  have o7 : addKN N a f w 7 = N 7 := by funext i j; exact o ⟨by simp, by simp⟩
  have o8 : addKN N a f w 8 = N 8 := by funext i j; exact o ⟨by simp, by simp⟩
  have o3 : addKN N a f w 3 = N 3 := by funext i j; exact o ⟨by simp, by simp⟩
  have k1 : ∀ i, i < nK N + 1 → K1 (addKN N a f w) i := by
    intro i hi
    by_cases e : i = nK N
    · subst e
      have c3 := addKN_c (N := N) (a := a) (f := f) (w := w) (j := 3) (by decide)
      have c4 := addKN_c (N := N) (a := a) (f := f) (w := w) (j := 4) (by decide)
      have c5 := addKN_c (N := N) (a := a) (f := f) (w := w) (j := 5) (by decide)
      have c6 := addKN_c (N := N) (a := a) (f := f) (w := w) (j := 6) (by decide)
      have c8 := addKN_c (N := N) (a := a) (f := f) (w := w) (j := 8) (by decide)
      have c13 := addKN_c (N := N) (a := a) (f := f) (w := w) (j := 13) (by decide)
      simp only [Nat.reduceEqDiff, if_true, if_false, reduceIte] at c3 c4 c5 c6 c8 c13
      unfold K1
      rw [c3, c4, c5, c6, c8, c13]
      exact ⟨⟨fun q => absurd q (by decide), fun _ => ⟨rfl, rfl⟩⟩, Or.inl rfl, Or.inl rfl, fun _ => ⟨rfl, rfl⟩, Or.inl rfl, fun j hj q => absurd q (has_0 hj), by decide⟩
    · have := hO.k1 (show i < nK N by omega)
      unfold K1 at this ⊢
      rw [nRe, o ⟨fun q => e q.2, by simp⟩, o ⟨fun q => e q.2, by simp⟩, o ⟨fun q => e q.2, by simp⟩, o ⟨fun q => e q.2, by simp⟩, o ⟨fun q => e q.2, by simp⟩, o ⟨fun q => e q.2, by simp⟩]
      exact this
  refine ⟨⟨⟨⟨by rw [nRe, e4]; exact hO.1.1.1.1, by rw [nRe]; exact hO.1.1.1.2⟩, ⟨by rw [nCe, e5]; exact hO.1.1.2.1.1, by rw [nCe]; exact hO.1.1.2.1.2⟩, ⟨by rw [nKe, e6], by omega⟩⟩, by rw [nCe]; exact hO.1.2⟩, fun i hi => (k1 i (by rw [nKe] at hi; exact hi)).1, fun i hi => ?_, ⟨fun i hi => ?_, fun i hi => ?_⟩, fun i hi => (k1 i (by rw [nKe] at hi; exact hi)).2, fun j hj => ?_⟩
  · rw [nRe] at hi
    rw [o7]
    exact hO.2.2.1 i hi
  · rw [nCe] at hi
    rw [o8]
    exact hO.2.2.2.1.1 i hi
  · rw [nRe] at hi
    rw [o7]
    exact hO.2.2.2.1.2 i hi
  · rw [o3]
    exact hO.2.2.2.2.2 j hj
theorem pl_addK {N : Nu} {a f w : Int32} (hP : Pl N) (h24 : nK N < 24) : Pl (addKN N a f w) := by
  intro i hi q
  rw [addKN_nK (by omega)] at hi
  by_cases e : i = nK N
  · subst e
    have c8 := addKN_c (N := N) (a := a) (f := f) (w := w) (j := 8) (by decide)
    simpa using c8
  · rw [addKN_o ⟨fun z => e z.2, by simp⟩] at q ⊢
    exact hP i (by omega) q
theorem ok_setg {N : Nu} (hO : Ok N) {j : Nat} {y : Int32} (hy : ¬ y < 0) : Ok (nset N 3 0 j y) := by
  have hs : Sm N (nset N 3 0 j y) := Sm.rfl'.nt (by decide)
  have h9 : nset N 3 0 j y 9 = N 9 := by funext a b; exact ns_t (by decide)
  have h8 : nset N 3 0 j y 8 = N 8 := by funext a b; exact ns_t (by decide)
  have h7 : nset N 3 0 j y 7 = N 7 := by funext a b; exact ns_t (by decide)
  refine ⟨⟨hs.bd hO.1.1, by rw [hs.nC]; exact hO.1.2⟩, fun i hi => ?_, fun i hi => ?_, ⟨fun i hi => ?_, fun i hi => ?_⟩, fun i hi => ?_, fun k hk => ?_⟩
  · rw [hs.nK] at hi
    rw [h9, hs.nR]
    exact hO.2.1 i hi
  · rw [hs.nR] at hi
    rw [h7]
    exact hO.2.2.1 i hi
  · rw [hs.nC] at hi
    rw [h8]
    exact hO.2.2.2.1.1 i hi
  · rw [hs.nR] at hi
    rw [h7]
    exact hO.2.2.2.1.2 i hi
  · rw [hs.nK] at hi
    rw [h9]
    exact hO.2.2.2.2.1 i hi
  · rw [nset_ap]
    split
    · exact hy
    · exact hO.2.2.2.2.2 k hk
theorem ok_vst {N : Nu} (hO : Ok N) {c s : Nat} (hc : c < nK N) (hs : s < 10) (h3 : N 9 c 3 = 1) : Ok (nset N 9 c 8 (nI s)) := by
  have hsm : Sm N (nset N 9 c 8 (nI s)) := Sm.rfl'.nt (by decide)
  refine ok_kid (c := c) hO hsm (by funext a b; exact ns_t (by decide)) (by funext a b; exact ns_t (by decide)) (by funext a b; exact ns_t (by decide)) (fun i hi => by funext b; exact ns_i hi) ?_
  have h := hO.k1 hc
  unfold K1 at h ⊢
  rw [hsm.nR, ns_s, ns_j (j' := 3) (by decide), ns_j (j' := 4) (by decide), ns_j (j' := 5) (by decide), ns_j (j' := 6) (by decide), ns_j (j' := 13) (by decide)]
  exact ⟨h.1, h.2.1, h.2.2.1, fun q => absurd h3 q, Or.inr ⟨s, hs, rfl⟩, h.2.2.2.2.2⟩
theorem pl_vst {N : Nu} (hP : Pl N) {c s : Nat} (h6 : N 9 c 6 = 0) : Pl (nset N 9 c 8 (nI s)) := by
  intro i hi q
  rw [(Sm.rfl'.nt (by decide) : Sm N (nset N 9 c 8 (nI s))).nK] at hi
  rw [ns_j (by decide)] at q
  by_cases e : i = c
  · subst e
    exact absurd h6 q
  · rw [ns_i e]
    exact hP i hi q
theorem ok_ses {N : Nu} (hO : Ok N) {c : Nat} (hc : c < nK N) (h3 : N 9 c 3 = 1) {x : Int32} (hx : ∀ j, j < 32 → Has x (nI j) → j < 10) : Ok (nset N 9 c 5 x) := by
  have hsm : Sm N (nset N 9 c 5 x) := Sm.rfl'.nt (by decide)
  refine ok_kid (c := c) hO hsm (by funext a b; exact ns_t (by decide)) (by funext a b; exact ns_t (by decide)) (by funext a b; exact ns_t (by decide)) (fun i hi => by funext b; exact ns_i hi) ?_
  have h := hO.k1 hc
  unfold K1 at h ⊢
  rw [hsm.nR, ns_s, ns_j (j' := 3) (by decide), ns_j (j' := 4) (by decide), ns_j (j' := 8) (by decide), ns_j (j' := 6) (by decide), ns_j (j' := 13) (by decide)]
  exact ⟨⟨h.1.1, fun q => absurd h3 q⟩, h.2.1, h.2.2.1, h.2.2.2.1, h.2.2.2.2.1, hx, h.2.2.2.2.2.2⟩
theorem pl_ses {N : Nu} (hP : Pl N) {c : Nat} {x : Int32} : Pl (nset N 9 c 5 x) := pl_of hP (ns_t (by decide)) (fun _ => ns_j (by decide)) (fun _ => ns_j (by decide))
theorem has_xor {x y : Int32} {j : Nat} (hj : j < 32) : Has (x ^^^ y) (nI j) ↔ ¬ (Has x (nI j) ↔ Has y (nI j)) := by
  rw [has_bit hj, has_bit hj, has_bit hj, bt_xor]
  cases bq x j <;> cases bq y j <;> decide
theorem both_lt {s t j : Nat} (hs : s < 10) (ht : t < 10) (hj : j < 32) (h : Has (bothI s t) (nI j)) : j < 10 := by
  have h2 := (has_or hj).mp h
  rw [has_one (by omega) hj, has_one (by omega) hj] at h2
  omega
theorem xor_lt {x : Int32} {s t : Nat} (hs : s < 10) (ht : t < 10) (hx : ∀ j, j < 32 → Has x (nI j) → j < 10) : ∀ j, j < 32 → Has (x ^^^ bothI s t) (nI j) → j < 10 := by
  intro j hj q
  rw [has_xor hj] at q
  by_cases a : Has x (nI j)
  · exact hx j hj a
  · by_cases b : Has (bothI s t) (nI j)
    · exact both_lt hs ht hj b
    · exact absurd ⟨fun z => absurd z a, fun z => absurd z b⟩ q
theorem ok_exc {N : Nu} (hO : Ok N) {a s b t : Nat} (ha : a < nK N) (hs : s < 10) (hb : b < nK N) (ht : t < 10) (ne : ¬ a = b) (hcan : canP N a s b t) : Ok (excN N a s b t) := by
  have h5 := hO.1.1.1.2
  have pa := (hO.2.1.room h5 ha (by omega) hcan.1).1
  have pb := (hO.2.1.room h5 hb (by omega) hcan.2.2.1).1
  unfold excN
  have o1 := ok_ses hO ha pa (xor_lt hs ht (hO.k1 ha).2.2.2.2.2.1)
  refine ok_ses o1 (by rw [(Sm.rfl'.nt (by decide) : Sm N (nset N 9 a 5 _)).nK]; exact hb) (by rw [ns_j (by decide)]; exact pb) (xor_lt hs ht (hO.k1 hb).2.2.2.2.2.1)
theorem give_x {x : Int32} {s : Nat} (hs : s < 32) (h : Has x (nI s)) : x ^^^ (1 <<< (nI s &&& 31)) = dropI x s := by
  refine has_ext fun j hj => ?_
  rw [has_drop hs hj, has_xor hj, has_one hs hj]
  by_cases e : j = s
  · subst e
    exact ⟨fun q => absurd ⟨fun _ => rfl, fun _ => h⟩ q, fun q => absurd rfl q.2⟩
  · refine ⟨fun q => ⟨?_, e⟩, fun q z => e (z.mp q.1)⟩
    by_cases a : Has x (nI j)
    · exact a
    · exact absurd ⟨fun z => absurd z a, fun z => absurd z e⟩ q
theorem ok_give {N : Nu} (hO : Ok N) {c s : Nat} (hc : c < nK N) (hs : s < 10) (h : Has (N 9 c 5) (nI s)) : Ok (nset N 9 c 5 (dropI (N 9 c 5) s)) :=
  ok_ses hO hc (hO.2.1.room hO.1.1.1.2 hc (by omega) h).1 (fun j hj q => (hO.k1 hc).2.2.2.2.2.1 j hj ((has_drop (by omega) hj).mp q).1)
theorem ok_lq {N A : Nu} (h : Ok N) (hl : Lq N A) : Ok A := by
  have hs := hl.sm
  have h24 := h.1.1.2.2.2
  refine ⟨⟨hs.bd h.1.1, by rw [hs.nC]; exact h.1.2⟩, fun i hi => ?_, fun i hi => ?_, ⟨fun i hi => ?_, fun i hi => ?_⟩, fun i hi => ?_, fun j hj => ?_⟩
  · rw [hs.nK] at hi
    rw [hs.nR, hl.c9 hi (by decide), hl.c9 hi (by decide), hl.c9 hi (by decide)]
    exact h.2.1 i hi
  · rw [hs.nR] at hi
    rw [hl.c7 hi (by decide), hl.c7 hi (by decide)]
    exact h.2.2.1 i hi
  · rw [hs.nC] at hi
    rw [hl.c8 hi (by decide), hl.c8 hi (by decide)]
    exact h.2.2.2.1.1 i hi
  · rw [hs.nR] at hi
    rw [hl.c7 hi (by decide)]
    exact h.2.2.2.1.2 i hi
  · rw [hs.nK] at hi
    rw [hl.c9 hi (by decide), hl.c9 hi (by decide), hl.c9 hi (by decide), hl.c9 hi (by decide), hl.c9 hi (by decide)]
    exact h.2.2.2.2.1 i hi
  · rw [hl.c3 hj]
    exact h.2.2.2.2.2 j hj
theorem pl_lq {N A : Nu} (h : Pl N) (hl : Lq N A) : Pl A := by
  intro i hi q
  rw [hl.sm.nK] at hi
  rw [hl.c9 hi (by decide)] at q ⊢
  exact h i hi q
def Tm (b : Nat) (N : Nu) : Prop := ∃ p w, p ≤ b ∧ w ≤ b ∧ N 2 0 8 = nI p ∧ N 2 0 7 = nI w
theorem Tm.mono {b b' : Nat} {N : Nu} (h : Tm b N) (hb : b ≤ b') : Tm b' N := by
  obtain ⟨p, w, h1, h2, h3⟩ := h
  exact ⟨p, w, by omega, by omega, h3⟩
theorem Tm.of {b : Nat} {N M : Nu} (h : Tm b N) (h8 : M 2 0 8 = N 2 0 8) (h7 : M 2 0 7 = N 2 0 7) : Tm b M := by
  obtain ⟨p, w, h1, h2, h3, h4⟩ := h
  exact ⟨p, w, h1, h2, h8.trans h3, h7.trans h4⟩
theorem fl_ok {N : Nu} (h : Ok N) : Fl N := ⟨fun i hi => (h.2.2.2.1.1 i hi).2, fun i hi => (h.k1 hi).2.2.1⟩
theorem wi_ok {N : Nu} (h : Ok N) : Wi N := ⟨h.1.1, h.2.2.1, fun i hi => (h.k1 hi).2.2.2.2.2.2⟩
theorem Hs.trans {N M L : Nu} (h : Hs N M) (h2 : Hs M L) : Hs N L := fun t i j q => (h2 t i j q).trans (h t i j q)
theorem hs_home {N : Nu} {c : Nat} : Hs N (homN N c) := (Hs.rfl'.ns (Or.inl ⟨rfl, by decide⟩)).ns (Or.inr ⟨rfl, by decide⟩)
theorem hs_stay : ∀ d x (N : Nu), Hs N (stayN d x N) ∧ stayN d x N 2 0 11 = N 2 0 11 + nI d
  | 0, _, N => ⟨Hs.rfl', (Int32.add_zero _).symm⟩
  | d + 1, x, N => by
    obtain ⟨h1, h2⟩ := hs_stay d (dropI x (nshN N x)) (homN N (nshN N x))
    refine ⟨hs_home.trans h1, ?_⟩
    show stayN d (dropI x (nshN N x)) (homN N (nshN N x)) 2 0 11 = _
    have e : homN N (nshN N x) 2 0 11 = N 2 0 11 + 1 := by simp [homN, nset_ap]
    rw [h2, e, nI_succ, Int32.add_assoc, Int32.add_comm 1]
theorem hs_bok {x : Int32} {i : Nat} {N : Nu} : Hs N (bokN x i N) ∧ bokN x i N 2 0 11 = N 2 0 11 := by
  unfold bokN
  split
  · split
    · exact ⟨(Hs.rfl'.ns (Or.inl ⟨rfl, by decide⟩)).ns (Or.inr ⟨rfl, by decide⟩), by simp [nset_ap]⟩
    · exact ⟨((Hs.rfl'.ns (Or.inl ⟨rfl, by decide⟩)).ns (Or.inl ⟨rfl, by decide⟩)).ns (Or.inr ⟨rfl, by decide⟩), by simp [nset_ap]⟩
  · exact ⟨Hs.rfl', rfl⟩
theorem hs_hld {N : Nu} {r s : Nat} : Hs N (hldN N r s) ∧ hldN N r s 2 0 11 = N 2 0 11 + nI (tooN N r s) := by
  obtain ⟨h1, h2⟩ := hs_stay (tooN N r s) (comF N (nI r) (nI s)) N
  unfold hldN
  generalize stayN (tooN N r s) (comF N (nI r) (nI s)) N = M at *
  have := runN_inv (f := bokN (stayX N (tooN N r s) (comF N (nI r) (nI s)))) (N := M) (I := fun L => Hs N L ∧ L 2 0 11 = M 2 0 11) ⟨h1, rfl⟩ (fun j L q => ⟨q.1.trans hs_bok.1, hs_bok.2.trans q.2⟩) (nK N)
  exact ⟨this.1, this.2.trans h2⟩
abbrev tooF (N : Nu) : Int32 := sumI (fun q => nI (tooN N (q / 10) (q % 10))) (10 * nR N)
theorem hs_hls {N : Nu} : ∀ j, Hs N (runN (fun q M => hldN M (q / 10) (q % 10)) N j) ∧ runN (fun q M => hldN M (q / 10) (q % 10)) N j 2 0 11 = N 2 0 11 + sumI (fun q => nI (tooN N (q / 10) (q % 10))) j
  | 0 => ⟨Hs.rfl', (Int32.add_zero _).symm⟩
  | j + 1 => by
    obtain ⟨h1, h2⟩ := hs_hls (N := N) j
    show Hs N (hldN (runN _ N j) (j / 10) (j % 10)) ∧ hldN (runN _ N j) (j / 10) (j % 10) 2 0 11 = _
    generalize runN (fun q M => hldN M (q / 10) (q % 10)) N j = M at *
    refine ⟨h1.trans hs_hld.1, ?_⟩
    rw [hs_hld.2, h2, h1.too, Int32.add_assoc]
    rfl
theorem wek_78 {N : Nu} : wekN N 2 0 7 = N 2 0 7 + 1 ∧ wekN N 2 0 8 = N 2 0 8 := by
  have i9 : ∀ {M : Nu} {i j : Nat} {x : Int32}, nset M 9 i j x 2 0 7 = M 2 0 7 ∧ nset M 9 i j x 2 0 8 = M 2 0 8 := fun {M i j x} => ⟨ns_t (by decide), ns_t (by decide)⟩
  have s1 : hlsN N 2 0 7 = N 2 0 7 ∧ hlsN N 2 0 8 = N 2 0 8 := ⟨(hs_hls (10 * nR N)).1 2 0 7 (nd2 (by decide)), (hs_hls (10 * nR N)).1 2 0 8 (nd2 (by decide))⟩
  unfold wekN
  have run : ∀ (f : Nat → Nu → Nu) (M : Nu) (n : Nat), (∀ j L, f j L 2 0 7 = L 2 0 7 ∧ f j L 2 0 8 = L 2 0 8) → runN f M n 2 0 7 = M 2 0 7 ∧ runN f M n 2 0 8 = M 2 0 8 := fun f M n h => runN_inv (I := fun L => L 2 0 7 = M 2 0 7 ∧ L 2 0 8 = M 2 0 8) ⟨rfl, rfl⟩ (fun j L q => ⟨(h j L).1.trans q.1, (h j L).2.trans q.2⟩) n
  have fq : ∀ (L : Nu) j s, qitN L j s 2 0 7 = L 2 0 7 ∧ qitN L j s 2 0 8 = L 2 0 8 := fun L j s => ⟨by simp [qitN, nset_ap], by simp [qitN, nset_ap]⟩
  have f1 : ∀ j L, stlN j L 2 0 7 = L 2 0 7 ∧ stlN j L 2 0 8 = L 2 0 8 := fun j L => by
    unfold stlN
    split
    · exact i9
    · exact ⟨rfl, rfl⟩
  have f2 : ∀ j L, bgnN j L 2 0 7 = L 2 0 7 ∧ bgnN j L 2 0 8 = L 2 0 8 := fun j L => by
    unfold bgnN
    split
    · exact ⟨i9.1.trans i9.1, i9.2.trans i9.2⟩
    · exact i9
  have f3 : ∀ j L, wellN j L 2 0 7 = L 2 0 7 ∧ wellN j L 2 0 8 = L 2 0 8 := fun j L => ⟨ns_t (by decide), ns_t (by decide)⟩
  have f4 : ∀ j L, mvgN j L 2 0 7 = L 2 0 7 ∧ mvgN j L 2 0 8 = L 2 0 8 := fun j L => by
    unfold mvgN movN
    split
    · split
      · split
        · exact ⟨by simp [waitN, qitN, nset_ap], by simp [waitN, qitN, nset_ap]⟩
        · exact ⟨i9.1.trans i9.1, i9.2.trans i9.2⟩
      · exact fq _ _ _
    · exact ⟨rfl, rfl⟩
  have f5 : ∀ j L, drpN j L 2 0 7 = L 2 0 7 ∧ drpN j L 2 0 8 = L 2 0 8 := fun j L => by
    unfold drpN
    split
    · exact fq _ _ _
    · exact ⟨rfl, rfl⟩
  have r1 := run stlN (hlsN N) (nK N) f1
  generalize runN stlN (hlsN N) (nK N) = M1 at *
  have r2 : bgwN M1 2 0 7 = M1 2 0 7 + 1 ∧ bgwN M1 2 0 8 = M1 2 0 8 := by
    unfold bgwN
    have a := run bgnN (runN wellN (nset M1 2 0 7 (M1 2 0 7 + 1)) (nC M1)) (nK M1) f2
    have c := run wellN (nset M1 2 0 7 (M1 2 0 7 + 1)) (nC M1) f3
    rw [a.1, a.2, c.1, c.2, ns_s, ns_j (by decide)]
    exact ⟨rfl, rfl⟩
  have r3 := run mvgN (bgwN M1) (nK N) f4
  have r4 := run drpN (runN mvgN (bgwN M1) (nK N)) (nK N) f5
  rw [r4.1, r4.2, r3.1, r3.2, r2.1, r2.2, r1.1, r1.2, s1.1, s1.2]
  exact ⟨rfl, rfl⟩
theorem weks_78 {N : Nu} : ∀ w, runN (fun _ => wekN) N w 2 0 7 = N 2 0 7 + nI w ∧ runN (fun _ => wekN) N w 2 0 8 = N 2 0 8
  | 0 => ⟨(Int32.add_zero _).symm, rfl⟩
  | w + 1 => by
    obtain ⟨h1, h2⟩ := weks_78 (N := N) w
    show wekN (runN _ N w) 2 0 7 = _ ∧ wekN (runN _ N w) 2 0 8 = _
    rw [wek_78.1, wek_78.2, h1, h2, nI_succ, Int32.add_assoc]
    exact ⟨rfl, rfl⟩
theorem placesF_lq {N A : Nu} (h : Lq N A) {r : Nat} (hr : r < nR N) (s : Nat) (q : Int32) : placesF A r s q = placesF N r s q := by
  unfold placesF
  generalize s / 2 = d
  generalize s % 2 * 5 = f
  generalize 5 = n
  have hcar : ∀ x, carersF A (nI r) (nI d) x q = carersF N (nI r) (nI d) x q := by
    intro x
    unfold carersF
    rw [h.sm.nC]
    rw [cnt_congr (q := dutyP N (nI r) (nI d) x q) fun j hj => by
      unfold dutyP
      rw [h.c8 hj (by decide), h.c8 hj (by decide), h.c8 hj (by decide), h.c8 hj (by decide), h.c8 hj (by decide)]]
  induction n with
  | zero => exact h.c7 hr (by decide)
  | succ n ih =>
    unfold plF
    rw [ih, hcar, h.c7 hr (by decide)]
theorem allF_lq {N A : Nu} (h : Lq N A) {r : Nat} (hr : r < nR N) : allF A r = allF N r := sumI_congr fun s _ => placesF_lq h hr s 1
theorem sta_0 {j : Nat} {y : Int32} (hj : j < 5) (h : ¬ y < staV 0 j) : ¬ y < 0 := by
  intro q
  apply h
  have : (0 : Int32) ≤ staV 0 j := (by decide : ∀ j, j < 5 → (0 : Int32) ≤ staV 0 j) j hj
  rw [Int32.lt_iff_toInt_lt] at q ⊢
  rw [Int32.le_iff_toInt_le] at this
  omega
theorem pl_qit {N : Nu} (hP : Pl N) {c : Nat} {s : Int32} : Pl (qitN N c s) := by
  intro i hi q
  rw [qitN_ks.1.nK] at hi
  by_cases e : i = c
  · subst e; simp [qitN, nset_ap]
  · have e6 : qitN N c s 9 i 6 = N 9 i 6 := by simp [qitN, nset_ap, e]
    have e8 : qitN N c s 9 i 8 = N 9 i 8 := by simp [qitN, nset_ap, e]
    rw [e6] at q
    rw [e8]
    exact hP i hi q
theorem has_kid {N : Nu} (hO : Ok N) {c : Nat} (hc : c < nK N) : ¬ nI c < 0 ∧ ¬ N 2 0 6 ≤ nI c := by
  have := hO.1.1.2.2.2
  exact ⟨nI_pos (by omega), by rw [hO.1.1.2.2.1]; exact nI_ge hc (by omega)⟩
theorem has_car {N : Nu} (hO : Ok N) {c : Nat} (hc : c < nC N) : ¬ nI c < 0 ∧ ¬ N 2 0 5 ≤ nI c := by
  have := hO.1.2
  exact ⟨nI_pos (by omega), by rw [hO.1.1.2.1.1]; exact nI_ge hc (by omega)⟩
theorem pl_adm {f : Nat} {N : Nu} (hP : Pl N) (h24 : Ok N) : ∀ {N : Nu}, Pl N → (∀ i, i < nK N → ¬ N 9 i 3 = 1 → N 9 i 8 = -6) → Pl (admN f N) ∧ True := by
  intro N h1 h2
  refine ⟨?_, trivial⟩
  induction f generalizing N with
  | zero => exact h1
  | succ f ih =>
    unfold admN
    split
    · rename_i hx
      have hc := nxt_can hx
      have hnK := (plcN_sm (N := N) (c := nxtN N)).nK
      refine ih (fun i hi q => ?_) (fun i hi q => ?_)
      · rw [hnK] at hi
        have e8 : plcN N (nxtN N) 9 i 8 = N 9 i 8 := by simp [plcN, nset_ap]
        rw [e8]
        by_cases e : i = nxtN N
        · rw [e]
          exact h2 _ hx (by rw [hc.1]; decide)
        · have e6 : plcN N (nxtN N) 9 i 6 = N 9 i 6 := by simp [plcN, nset_ap, e]
          rw [e6] at q
          exact h1 i hi q
      · rw [hnK] at hi
        have e8 : plcN N (nxtN N) 9 i 8 = N 9 i 8 := by simp [plcN, nset_ap]
        rw [e8]
        by_cases e : i = nxtN N
        · rw [e]
          exact h2 _ hx (by rw [hc.1]; decide)
        · have e3 : plcN N (nxtN N) 9 i 3 = N 9 i 3 := by simp [plcN, nset_ap, e]
          rw [e3] at q
          exact h2 i hi q
    · exact h1
theorem adm_7 : ∀ f N, admN f N 2 0 7 = N 2 0 7
  | 0, _ => rfl
  | f + 1, N => by
    unfold admN
    split
    · rw [adm_7 f]
      simp [plcN, nset_ap]
    · rfl
theorem ok_adm : ∀ f N p, Ok N → N 2 0 8 = nI p → p + f < 2 ^ 30 → Ok (admN f N)
  | 0, _, _, h, _, _ => h
  | f + 1, N, p, h, h8, hp => by
    unfold admN
    split
    · rename_i hx
      refine ok_adm f _ (p + 1) (ok_plc h hx (nxt_can hx) (by rw [h8]; exact nI_pos (by omega))) ?_ (by omega)
      have : plcN N (nxtN N) 2 0 8 = N 2 0 8 + 1 := by simp [plcN, nset_ap]
      rw [this, h8, nI_1]
    · exact h
end BASE
section BASE2
variable {b : Nat}
theorem adm_all {N : Nu} (hO : Ok N) (hP : Pl N) (hT : Tm b N) (hb : b < 2 ^ 28) : Ok (admN 24 N) ∧ Pl (admN 24 N) ∧ Tm (b + 24) (admN 24 N) := by
  obtain ⟨p, w, h1, h2, h3, h4⟩ := hT
  obtain ⟨q, hq, h5⟩ := admN_8 24 N p h3
  exact ⟨ok_adm 24 N p hO h3 (by omega), (pl_adm hP hO hP (fun i hi z => ((hO.k1 hi).2.2.2.1 z).2)).1, ⟨q, w, by omega, by omega, h5, (adm_7 24 N).trans h4⟩⟩
end BASE2
