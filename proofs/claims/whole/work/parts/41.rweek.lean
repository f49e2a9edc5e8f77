/-! A WEEK OF THE REFERENCE: what comes behind its sessions -/
def payN (T H : Nat → Int32) (c : Nat) (L : Nu) : Nu := nset (nset (nset (nset (nset L 9 c 9 (L 9 c 9 + c9F T c)) 9 c 11 (L 9 c 11 + c9F T c * feeF L c)) 2 0 9 (L 2 0 9 + c9F T c * feeF L c)) 9 c 10 (L 9 c 10 + H c)) 2 0 11 (L 2 0 11 + H c)
def visN (T : Nat → Int32) (c : Nat) (L : Nu) : Nu := nset (nset L 9 c 7 (L 9 c 7 + c7F T c)) 2 0 10 (L 2 0 10 + c7F T c)
theorem ok_six {N : Nu} (hO : Ok N) {c : Nat} (hc : c < nK N) (h1 : N 9 c 3 = 1) : Ok (nset N 9 c 6 1) := by
  have hs : Sm N (nset N 9 c 6 1) := Sm.rfl'.nt (by decide)
  refine ok_kid (c := c) hO hs (by funext a b; exact ns_t (by decide)) (by funext a b; exact ns_t (by decide)) (by funext a b; exact ns_t (by decide)) (fun i hi => by funext b; exact ns_i hi) ?_
  have h := hO.k1 hc
  unfold K1 at h ⊢
  rw [hs.nR, ns_s, ns_j (j' := 3) (by decide), ns_j (j' := 4) (by decide), ns_j (j' := 5) (by decide), ns_j (j' := 8) (by decide), ns_j (j' := 13) (by decide)]
  exact ⟨h.1, h.2.1, Or.inr rfl, fun q => absurd h1 q, h.2.2.2.2⟩
theorem ok_eight {N : Nu} (hO : Ok N) {c : Nat} (hc : c < nK N) : Ok (nset N 9 c 8 (-6)) := by
  have hs : Sm N (nset N 9 c 8 (-6)) := Sm.rfl'.nt (by decide)
  refine ok_kid (c := c) hO hs (by funext a b; exact ns_t (by decide)) (by funext a b; exact ns_t (by decide)) (by funext a b; exact ns_t (by decide)) (fun i hi => by funext b; exact ns_i hi) ?_
  have h := hO.k1 hc
  unfold K1 at h ⊢
  rw [hs.nR, ns_s, ns_j (j' := 3) (by decide), ns_j (j' := 4) (by decide), ns_j (j' := 5) (by decide), ns_j (j' := 6) (by decide), ns_j (j' := 13) (by decide)]
  exact ⟨h.1, h.2.1, h.2.2.1, fun q => ⟨(h.2.2.2.1 q).1, rfl⟩, Or.inl rfl, h.2.2.2.2.2⟩
theorem ok_mov {N : Nu} (hO : Ok N) {c : Nat} (hc : c < nK N) (h1 : N 9 c 3 = 1) {r : Nat} (hr : r < nR N) {x : Int32} (hx : ∀ j, j < 32 → Has x (nI j) → j < 10) : Ok (nset (nset N 9 c 4 (nI r)) 9 c 5 x) := by
  have hs : Sm N (nset (nset N 9 c 4 (nI r)) 9 c 5 x) := (Sm.rfl'.nt (by decide)).nt (by decide)
  refine ok_kid (c := c) hO hs (by funext a b; rw [ns_t (by decide), ns_t (by decide)]) (by funext a b; rw [ns_t (by decide), ns_t (by decide)]) (by funext a b; rw [ns_t (by decide), ns_t (by decide)]) (fun i hi => by funext b; rw [ns_i hi, ns_i hi]) ?_
  have h := hO.k1 hc
  have e3 : nset (nset N 9 c 4 (nI r)) 9 c 5 x 9 c 3 = N 9 c 3 := by simp [nset_ap]
  have e4 : nset (nset N 9 c 4 (nI r)) 9 c 5 x 9 c 4 = nI r := by simp [nset_ap]
  have e5 : nset (nset N 9 c 4 (nI r)) 9 c 5 x 9 c 5 = x := by simp [nset_ap]
  have e6 : nset (nset N 9 c 4 (nI r)) 9 c 5 x 9 c 6 = N 9 c 6 := by simp [nset_ap]
  have e8 : nset (nset N 9 c 4 (nI r)) 9 c 5 x 9 c 8 = N 9 c 8 := by simp [nset_ap]
  have e13 : nset (nset N 9 c 4 (nI r)) 9 c 5 x 9 c 13 = N 9 c 13 := by simp [nset_ap]
  unfold K1 at h ⊢
  rw [hs.nR, e3, e4, e5, e6, e8, e13]
  exact ⟨⟨fun _ => ⟨r, hr, rfl⟩, fun q => absurd h1 q⟩, h.2.1, h.2.2.1, h.2.2.2.1, h.2.2.2.2.1, hx, h.2.2.2.2.2.2⟩
theorem ok_pay {N : Nu} {T H : Nat → Int32} (hO : Ok N) {c : Nat} : Ok (payN T H c N) := ok_n2 (ok_irr (ok_n2 (ok_irr (ok_irr hO (by decide)) (by decide)) (by decide)) (by decide)) (by decide)
theorem ok_vis {N : Nu} {T : Nat → Int32} (hO : Ok N) {c : Nat} : Ok (visN T c N) := ok_n2 (ok_irr hO (by decide)) (by decide)
theorem ok_stl {N : Nu} (hO : Ok N) {c : Nat} (hc : c < nK N) : Ok (stlN c N) := by
  unfold stlN
  split
  · rename_i h; exact ok_six hO hc h.1
  · exact hO
theorem ok_bgn {N : Nu} (hO : Ok N) {c : Nat} (hc : c < nK N) : Ok (bgnN c N) := by
  unfold bgnN
  split
  · exact ok_irr (ok_eight hO hc) (by decide)
  · exact ok_eight hO hc
theorem ok_mvg {N : Nu} (hO : Ok N) {c : Nat} (hc : c < nK N) : Ok (mvgN c N) := by
  unfold mvgN
  split
  · rename_i h
    have h1 : N 9 c 3 = 1 := by
      by_cases q : N 9 c 3 = 1
      · exact q
      · have := ((hO.2.1 c hc).2 q).1
        rw [this] at h
        exact absurd (by decide) h.1.1
    unfold movN
    split
    · split
      · exact ok_wait hO hc
      · rename_i hr _
        exact ok_mov hO hc h1 hr (fun j hj q => open_lt hj q)
    · exact ok_qit hO hc (Or.inr rfl)
  · exact hO
theorem ok_drp {N : Nu} (hO : Ok N) {c : Nat} (hc : c < nK N) : Ok (drpN c N) := by
  unfold drpN
  split
  · exact ok_qit hO hc (Or.inr rfl)
  · exact hO
theorem ok_run {f : Nat → Nu → Nu} {N : Nu} (hO : Ok N) (hk : ∀ j M, Ks M (f j M)) (hf : ∀ j M, Ok M → j < nK M → Ok (f j M)) : ∀ j, j ≤ nK N → Ok (runN f N j)
  | 0, _ => hO
  | j + 1, h => hf j _ (ok_run hO hk hf j (by omega)) (by rw [(runN_ks hk j).1.nK]; omega)
theorem payN_sm {T H : Nat → Int32} {c : Nat} {N : Nu} : Ks N (payN T H c N) := ((((Ks.rfl'.n9 (by decide)).n9 (by decide)).n2 (by decide)).n9 (by decide)).n2 (by decide)
theorem visN_sm {T : Nat → Int32} {c : Nat} {N : Nu} : Ks N (visN T c N) := (Ks.rfl'.n9 (by decide)).n2 (by decide)
def svN (T : Nat → Int32) (c : Nat) (L : Nu) : Nu := stlN c (visN T c L)
theorem svN_ks {T : Nat → Int32} {c : Nat} {N : Nu} : Ks N (svN T c N) := visN_sm.trans stlN_ks
/-- the cells behind the payments; behind the visits; behind the settling of the class -/
def PayP (N : Nu) (T H : Nat → Int32) (j : Nat) (L : Nu) : Prop := Hs N L ∧ (∀ i, L 9 i 9 = (if i < j then N 9 i 9 + c9F T i else N 9 i 9) ∧ L 9 i 11 = (if i < j then N 9 i 11 + c9F T i * feeF N i else N 9 i 11) ∧ L 9 i 10 = (if i < j then N 9 i 10 + H i else N 9 i 10) ∧ L 9 i 7 = N 9 i 7) ∧ L 2 0 9 = N 2 0 9 + sumI (fun i => c9F T i * feeF N i) j ∧ L 2 0 11 = N 2 0 11 + sumI H j ∧ L 2 0 10 = N 2 0 10
theorem payP {N : Nu} {T H : Nat → Int32} : ∀ j, PayP N T H j (runN (payN T H) N j)
  | 0 => ⟨Hs.rfl', fun i => ⟨(if_neg (Nat.not_lt_zero _)).symm, (if_neg (Nat.not_lt_zero _)).symm, (if_neg (Nat.not_lt_zero _)).symm, rfl⟩, (Int32.add_zero _).symm, (Int32.add_zero _).symm, rfl⟩
  | j + 1 => by
    obtain ⟨h1, h2, h3, h4, h5⟩ := payP (N := N) (T := T) (H := H) j
    show PayP N T H (j + 1) (payN T H j (runN (payN T H) N j))
    generalize runN (payN T H) N j = L at *
    have hf : feeF L j = feeF N j := h1.fee j
    refine ⟨((((h1.ns (Or.inl ⟨rfl, by decide⟩)).ns (Or.inl ⟨rfl, by decide⟩)).ns (Or.inr ⟨rfl, by decide⟩)).ns (Or.inl ⟨rfl, by decide⟩)).ns (Or.inr ⟨rfl, by decide⟩), fun i => ?_, ?_, ?_, ?_⟩
    · have q9 : payN T H j L 9 i 9 = if i = j then L 9 j 9 + c9F T j else L 9 i 9 := by simp [payN, nset_ap]
      have q11 : payN T H j L 9 i 11 = if i = j then L 9 j 11 + c9F T j * feeF L j else L 9 i 11 := by simp [payN, nset_ap]
      have q10 : payN T H j L 9 i 10 = if i = j then L 9 j 10 + H j else L 9 i 10 := by simp [payN, nset_ap]
      have q7 : payN T H j L 9 i 7 = L 9 i 7 := by simp [payN, nset_ap]
      rw [q9, q11, q10, q7]
      obtain ⟨a, b, c, d⟩ := h2 i
      by_cases e : i = j
      · subst e
        rw [if_neg (Nat.lt_irrefl _)] at a b c
        rw [if_pos rfl, if_pos rfl, if_pos rfl, if_pos (by omega), if_pos (by omega), if_pos (by omega), a, b, c, hf]
        exact ⟨rfl, rfl, rfl, d⟩
      · rw [if_neg e, if_neg e, if_neg e, a, b, c]
        by_cases z : i < j
        · rw [if_pos z, if_pos z, if_pos z, if_pos (by omega), if_pos (by omega), if_pos (by omega)]
          exact ⟨rfl, rfl, rfl, d⟩
        · rw [if_neg z, if_neg z, if_neg z, if_neg (by omega), if_neg (by omega), if_neg (by omega)]
          exact ⟨rfl, rfl, rfl, d⟩
    · have q : payN T H j L 2 0 9 = L 2 0 9 + c9F T j * feeF L j := by simp [payN, nset_ap]
      rw [q, h3, hf, Int32.add_assoc]
      rfl
    · have q : payN T H j L 2 0 11 = L 2 0 11 + H j := by simp [payN, nset_ap]
      rw [q, h4, Int32.add_assoc]
      rfl
    · have q : payN T H j L 2 0 10 = L 2 0 10 := by simp [payN, nset_ap]
      rw [q, h5]
abbrev nsix (t : Fin 10) (j : Nat) : Prop := ¬ (t = 9 ∧ (j = 6 ∨ j = 7)) ∧ ¬ (t = 2 ∧ j = 10)
def VisP (N : Nu) (T : Nat → Int32) (j : Nat) (L : Nu) : Prop := (∀ t i j', nsix t j' → L t i j' = N t i j') ∧ (∀ i, L 9 i 7 = (if i < j then N 9 i 7 + c7F T i else N 9 i 7) ∧ L 9 i 6 = (if i < j ∧ N 9 i 3 = 1 ∧ ¬ N 9 i 7 + c7F T i < N 3 0 3 then 1 else N 9 i 6)) ∧ L 2 0 10 = N 2 0 10 + sumI (c7F T) j
theorem visT {N : Nu} {T : Nat → Int32} : ∀ j, VisP N T j (runN (svN T) N j)
  | 0 => ⟨fun _ _ _ _ => rfl, fun i => ⟨(if_neg (Nat.not_lt_zero _)).symm, (if_neg (fun q => absurd q.1 (Nat.not_lt_zero _))).symm⟩, (Int32.add_zero _).symm⟩
  | j + 1 => by
    obtain ⟨h1, h2, h3⟩ := visT (N := N) (T := T) j
    show VisP N T (j + 1) (svN T j (runN (svN T) N j))
    generalize runN (svN T) N j = L at *
    have l3 : L 9 j 3 = N 9 j 3 := h1 9 j 3 ⟨by decide, by decide⟩
    have l33 : L 3 0 3 = N 3 0 3 := h1 3 0 3 ⟨by decide, by decide⟩
    have l7 := (h2 j).1
    have l6 := (h2 j).2
    rw [if_neg (Nat.lt_irrefl _)] at l7
    rw [if_neg (fun q => absurd q.1 (Nat.lt_irrefl _))] at l6
    have v3 : visN T j L 9 j 3 = N 9 j 3 := by rw [← l3]; simp [visN, nset_ap]
    have v33 : visN T j L 3 0 3 = N 3 0 3 := by rw [← l33]; simp [visN, nset_ap]
    have v7 : visN T j L 9 j 7 = N 9 j 7 + c7F T j := by rw [← l7]; simp [visN, nset_ap]
    have es : svN T j L = if N 9 j 3 = 1 ∧ ¬ N 9 j 7 + c7F T j < N 3 0 3 then nset (visN T j L) 9 j 6 1 else visN T j L := by
      unfold svN stlN
      rw [v3, v33, v7]
    have w7 : ∀ i, svN T j L 9 i 7 = if i = j then L 9 j 7 + c7F T j else L 9 i 7 := by
      intro i
      rw [es]
      split <;> simp [visN, nset_ap]
    have w6 : ∀ i, svN T j L 9 i 6 = if i = j ∧ N 9 j 3 = 1 ∧ ¬ N 9 j 7 + c7F T j < N 3 0 3 then 1 else L 9 i 6 := by
      intro i
      rw [es]
      by_cases q : N 9 j 3 = 1 ∧ ¬ N 9 j 7 + c7F T j < N 3 0 3
      · rw [if_pos q]
        by_cases e : i = j
        · rw [if_pos ⟨e, q⟩, e, ns_s]
        · rw [if_neg (fun z => e z.1), ns_i e]
          simp [visN, nset_ap]
      · rw [if_neg q, if_neg (fun z => q z.2)]
        simp [visN, nset_ap]
    have w10 : svN T j L 2 0 10 = L 2 0 10 + c7F T j := by
      rw [es]
      split <;> simp [visN, nset_ap]
    refine ⟨fun t i j' hn => ?_, fun i => ?_, ?_⟩
    · rw [← h1 t i j' hn, es]
      have e1 : visN T j L t i j' = L t i j' := by
        unfold visN
        rw [nset_ap, if_neg (fun q => hn.2 ⟨q.1, q.2.2⟩), nset_ap, if_neg (fun q => hn.1 ⟨q.1, Or.inr q.2.2⟩)]
      split
      · rw [nset_ap, if_neg (fun q => hn.1 ⟨q.1, Or.inl q.2.2⟩), e1]
      · exact e1
    · rw [w7, w6]
      obtain ⟨a, b⟩ := h2 i
      by_cases e : i = j
      · subst e
        rw [if_pos rfl, if_pos (by omega), l7, l6]
        refine ⟨rfl, ?_⟩
        by_cases q : N 9 i 3 = 1 ∧ ¬ N 9 i 7 + c7F T i < N 3 0 3
        · rw [if_pos ⟨rfl, q⟩, if_pos ⟨by omega, q⟩]
        · rw [if_neg (fun z => q z.2), if_neg (fun z => q z.2)]
      · rw [if_neg e, if_neg (show ¬ (i = j ∧ N 9 j 3 = 1 ∧ ¬ N 9 j 7 + c7F T j < N 3 0 3) from fun z => e z.1), a, b]
        by_cases z : i < j
        · rw [if_pos z, if_pos (show i < j + 1 by omega)]
          refine ⟨rfl, ?_⟩
          by_cases q : N 9 i 3 = 1 ∧ ¬ N 9 i 7 + c7F T i < N 3 0 3
          · rw [if_pos ⟨z, q⟩, if_pos ⟨by omega, q⟩]
          · rw [if_neg (fun z => q z.2), if_neg (fun z => q z.2)]
        · rw [if_neg z, if_neg (show ¬ i < j + 1 by omega), if_neg (show ¬ (i < j ∧ N 9 i 3 = 1 ∧ ¬ N 9 i 7 + c7F T i < N 3 0 3) from fun y => z y.1), if_neg (show ¬ (i < j + 1 ∧ N 9 i 3 = 1 ∧ ¬ N 9 i 7 + c7F T i < N 3 0 3) from fun y => z (by have := y.1; omega))]
          exact ⟨rfl, rfl⟩
    · rw [w10, h3, Int32.add_assoc]
      rfl
def StlP (N : Nu) (j : Nat) (L : Nu) : Prop := (∀ t i j', ¬ (t = 9 ∧ j' = 6) → L t i j' = N t i j') ∧ ∀ i, L 9 i 6 = (if i < j ∧ N 9 i 3 = 1 ∧ ¬ N 9 i 7 < N 3 0 3 then 1 else N 9 i 6)
theorem stlP {N : Nu} : ∀ j, StlP N j (runN stlN N j)
  | 0 => ⟨fun _ _ _ _ => rfl, fun i => (if_neg (fun q => absurd q.1 (Nat.not_lt_zero _))).symm⟩
  | j + 1 => by
    obtain ⟨h1, h2⟩ := stlP (N := N) j
    show StlP N (j + 1) (stlN j (runN stlN N j))
    generalize runN stlN N j = L at *
    have es : stlN j L = if N 9 j 3 = 1 ∧ ¬ N 9 j 7 < N 3 0 3 then nset L 9 j 6 1 else L := by
      unfold stlN
      rw [h1 9 j 3 (by decide), h1 9 j 7 (by decide), h1 3 0 3 (by decide)]
    rw [es]
    refine ⟨fun t i j' hn => ?_, fun i => ?_⟩
    · rw [← h1 t i j' hn]
      split
      · rw [nset_ap, if_neg (fun q => hn ⟨q.1, q.2.2⟩)]
      · rfl
    · have b := h2 i
      by_cases q : N 9 j 3 = 1 ∧ ¬ N 9 j 7 < N 3 0 3
      · rw [if_pos q]
        by_cases e : i = j
        · subst e
          rw [ns_s, if_pos ⟨by omega, q⟩]
        · rw [ns_i e, b]
          by_cases z : i < j ∧ N 9 i 3 = 1 ∧ ¬ N 9 i 7 < N 3 0 3
          · rw [if_pos z, if_pos ⟨by omega, z.2⟩]
          · rw [if_neg z, if_neg (fun y => z ⟨by have := y.1; omega, y.2⟩)]
      · rw [if_neg q, b]
        by_cases z : i < j ∧ N 9 i 3 = 1 ∧ ¬ N 9 i 7 < N 3 0 3
        · rw [if_pos z, if_pos ⟨by omega, z.2⟩]
        · rw [if_neg z, if_neg]
          rintro ⟨y1, y2⟩
          by_cases e : i = j
          · subst e; exact q y2
          · exact z ⟨by omega, y2⟩
/-- the reference's way through a week's bookings ends where the class's does -/
theorem week_lq {N M : Nu} {T H : Nat → Int32} {q : Nat} (hb : Bk N q M T H) : Lq (runN (svN T) (runN (payN T H) N (nK N)) (nK N)) (runN stlN M (nK N)) := by
  obtain ⟨p1, p2, p3, p4, p5⟩ := payP (N := N) (T := T) (H := H) (nK N)
  have hv := visT (N := runN (payN T H) N (nK N)) (T := T) (nK N)
  have hk : Ks N (runN (payN T H) N (nK N)) := runN_ks (fun _ _ => payN_sm) _
  have hk2 : Ks N (runN (svN T) (runN (payN T H) N (nK N)) (nK N)) := hk.trans (runN_ks (fun _ _ => svN_ks) _)
  generalize runN (payN T H) N (nK N) = L at *
  generalize runN (svN T) L (nK N) = W at *
  obtain ⟨v1, v2, v3⟩ := hv
  obtain ⟨s1, s2⟩ := stlP (N := M) (nK N)
  obtain ⟨b1, b2, ⟨b3, b4, b5⟩, -⟩ := hb
  generalize runN stlN M (nK N) = S at *
  have stat : ∀ t i j, ¬ dyn t j → ¬ (t = 9 ∧ j = 6) → S t i j = W t i j := by
    intro t i j h1 h2
    rw [s1 t i j h2, b1 t i j h1, v1 t i j ⟨fun q => ?_, fun q => h1 (Or.inr ⟨q.1, Or.inr (Or.inl q.2)⟩)⟩, p1 t i j h1]
    rcases q with ⟨q1, q2 | q2⟩
    · exact h2 ⟨q1, q2⟩
    · exact h1 (Or.inl ⟨q1, Or.inl q2⟩)
  rintro t i j hl
  rcases hl with ⟨rfl, rfl, a, b⟩ | ⟨rfl, rfl, a⟩ | ⟨rfl, a, b⟩ | ⟨rfl, a, b⟩ | ⟨rfl, a, b⟩
  · by_cases h9 : j = 9
    · subst h9
      rw [s1 2 0 9 (by decide), b3, v1 2 0 9 ⟨by decide, by decide⟩, p3]
    · by_cases h10 : j = 10
      · subst h10
        rw [s1 2 0 10 (by decide), b4, v3, p5]
      · by_cases h11 : j = 11
        · subst h11
          rw [s1 2 0 11 (by decide), b5, v1 2 0 11 ⟨by decide, by decide⟩, p4]
        · exact stat 2 0 j (nd2 (by omega)) (by rintro ⟨q, -⟩; exact absurd q (by decide))
  · exact stat 3 0 j (ndt (by decide) (by decide)) (by rintro ⟨q, -⟩; exact absurd q (by decide))
  · exact stat 7 i j (ndt (by decide) (by decide)) (by rintro ⟨q, -⟩; exact absurd q (by decide))
  · exact stat 8 i j (ndt (by decide) (by decide)) (by rintro ⟨q, -⟩; exact absurd q (by decide))
  · rw [hk2.1.nK] at a
    obtain ⟨c9, c11, c7, c10⟩ := b2 i a
    obtain ⟨d9, d11, d10, d7⟩ := p2 i
    rw [if_pos a] at d9 d11 d10
    by_cases h9 : j = 9
    · subst h9
      rw [s1 9 i 9 (by decide), c9, v1 9 i 9 ⟨by decide, by decide⟩, d9]
    · by_cases h10 : j = 10
      · subst h10
        rw [s1 9 i 10 (by decide), c10, v1 9 i 10 ⟨by decide, by decide⟩, d10]
      · by_cases h11 : j = 11
        · subst h11
          rw [s1 9 i 11 (by decide), c11, v1 9 i 11 ⟨by decide, by decide⟩, d11]
        · by_cases h7 : j = 7
          · subst h7
            rw [s1 9 i 7 (by decide), c7, (v2 i).1, if_pos a, d7]
          · by_cases h6 : j = 6
            · subst h6
              rw [s2 i, (v2 i).2, c7, d7, b1 9 i 3 (nd9 (by decide)), b1 3 0 3 (ndt (by decide) (by decide)), b1 9 i 6 (nd9 (by decide)), p1 9 i 3 (nd9 (by decide)), p1 3 0 3 (ndt (by decide) (by decide)), p1 9 i 6 (nd9 (by decide))]
            · exact stat 9 i j (nd9 (by omega)) (fun q => h6 q.2)
theorem runN_comm {f h : Nat → Nu → Nu} (hc : ∀ i j L, f i (h j L) = h j (f i L)) (N : Nu) (b : Nat) : ∀ a, runN f (runN h N b) a = runN h (runN f N a) b
  | 0 => rfl
  | a + 1 => by
    show f a (runN f (runN h N b) a) = _
    rw [runN_comm hc N b a]
    have key : ∀ b M, f a (runN h M b) = runN h (f a M) b := by
      intro b M
      induction b with
      | zero => rfl
      | succ b ih =>
        show f a (h b (runN h M b)) = h b (runN h (f a M) b)
        rw [hc, ih]
    rw [key]
    rfl
theorem well_bgn (i j : Nat) (L : Nu) : wellN i (bgnN j L) = bgnN j (wellN i L) := by
  unfold wellN bgnN
  rw [ns_t (t := 8) (t' := 2) (by decide), ns_t (t := 8) (t' := 9) (by decide), ns_t (t := 8) (t' := 9) (by decide)]
  split
  · rw [ns_comm (t := 9) (t' := 8) (fun q => absurd q.1 (by decide)), ns_comm (t := 9) (t' := 8) (fun q => absurd q.1 (by decide))]
  · rw [ns_comm (t := 9) (t' := 8) (fun q => absurd q.1 (by decide))]
