/-! A WEEK OF THE REFERENCE: one session, all sessions -/
theorem upd_uu {f : Nat → Int32} {k : Nat} {x y : Int32} : upd (upd f k x) k y = upd f k y := by
  funext j
  unfold upd
  split <;> rfl
theorem upd_id {f : Nat → Int32} {k : Nat} : upd f k (f k) = f := by
  funext j
  unfold upd
  split
  · rename_i h; rw [h]
  · rfl
theorem cnt_split {p q : Nat → Prop} [DecidablePred p] [DecidablePred q] : ∀ n, cnt (fun c => p c ∧ ¬ q c) n + cnt (fun c => p c ∧ q c) n = cnt p n
  | 0 => rfl
  | n + 1 => by
    have ih := cnt_split (p := p) (q := q) n
    by_cases hp : p n
    · by_cases hq : q n
      · rw [cnt_f (p := fun c => p c ∧ ¬ q c) (fun z => z.2 hq), cnt_t (p := fun c => p c ∧ q c) ⟨hp, hq⟩, cnt_t hp]; omega
      · rw [cnt_t (p := fun c => p c ∧ ¬ q c) ⟨hp, hq⟩, cnt_f (p := fun c => p c ∧ q c) (fun z => hq z.2), cnt_t hp]; omega
    · rw [cnt_f (p := fun c => p c ∧ ¬ q c) (fun z => hp z.1), cnt_f (p := fun c => p c ∧ q c) (fun z => hp z.1), cnt_f hp]; omega
/-- of a set: the settled ones; the others -/
def seA (N : Nu) (y : Int32) : Int32 := setI (fun c => Has y (nI c) ∧ ¬ N 9 c 6 = 0) (nK N)
def seB (N : Nu) (y : Int32) : Int32 := setI (fun c => Has y (nI c) ∧ N 9 c 6 = 0) (nK N)
theorem seA_has {N : Nu} (h24 : nK N ≤ 24) {y : Int32} {c : Nat} (hc : c < 32) : Has (seA N y) (nI c) ↔ c < nK N ∧ Has y (nI c) ∧ ¬ N 9 c 6 = 0 := has_setI (by omega) hc
theorem seB_has {N : Nu} (h24 : nK N ≤ 24) {y : Int32} {c : Nat} (hc : c < 32) : Has (seB N y) (nI c) ↔ c < nK N ∧ Has y (nI c) ∧ N 9 c 6 = 0 := has_setI (by omega) hc
theorem seA_drop {N : Nu} (h24 : nK N ≤ 24) {y : Int32} {c : Nat} (hc : c < 32) : dropI (seA N y) c = seA N (dropI y c) := by
  refine has_ext fun j hj => ?_
  rw [has_drop hc hj, seA_has h24 hj, seA_has h24 hj, has_drop hc hj]
  exact ⟨fun q => ⟨q.1.1, ⟨q.1.2.1, q.2⟩, q.1.2.2⟩, fun q => ⟨⟨q.1, q.2.1.1, q.2.2⟩, q.2.1.2⟩⟩
theorem seB_drop {N : Nu} (h24 : nK N ≤ 24) {y : Int32} {c : Nat} (hc : c < 32) : dropI (seB N y) c = seB N (dropI y c) := by
  refine has_ext fun j hj => ?_
  rw [has_drop hc hj, seB_has h24 hj, seB_has h24 hj, has_drop hc hj]
  exact ⟨fun q => ⟨q.1.1, ⟨q.1.2.1, q.2⟩, q.1.2.2⟩, fun q => ⟨⟨q.1, q.2.1.1, q.2.2⟩, q.2.1.2⟩⟩
theorem seA_keep {N : Nu} (h24 : nK N ≤ 24) {y : Int32} {c : Nat} (hc : c < 32) (h6 : N 9 c 6 = 0) : seA N (dropI y c) = seA N y := by
  refine has_ext fun j hj => ?_
  rw [seA_has h24 hj, seA_has h24 hj, has_drop hc hj]
  refine ⟨fun q => ⟨q.1, q.2.1.1, q.2.2⟩, fun q => ⟨q.1, ⟨q.2.1, ?_⟩, q.2.2⟩⟩
  rintro rfl
  exact q.2.2 h6
theorem and_m1 (x : Int32) : x &&& (-1) = x := by
  refine bt_ext fun j hj => ?_
  rw [bt_and, bt_neg hj, Bool.and_true]
theorem seAB_pc {N : Nu} (h24 : nK N ≤ 24) {y : Int32} (hy : ∀ i, i < 32 → Has y (nI i) → i < nK N) : pcI (seA N y) + pcI (seB N y) = pcI y := by
  unfold seA seB
  rw [pcI_setI _ (by omega), pcI_setI _ (by omega), cnt_split (p := fun c => Has y (nI c)) (q := fun c => N 9 c 6 = 0), pcI_cnt]
  have e : cnt (fun j => Has y (nI j)) (nK N + (32 - nK N)) = cnt (fun j => Has y (nI j)) (nK N) := cnt_more fun j a b q => by
    have := hy j (by omega) q
    omega
  rw [show nK N + (32 - nK N) = 32 by omega] at e
  exact e.symm
theorem Bk.home {N M : Nu} {q : Nat} {T H : Nat → Int32} (h : Bk N q M T H) {c : Nat} (hc : c < nK N) : Bk N q (homN M c) T (upd H c (H c + 1)) := by
  obtain ⟨h1, h2, ⟨h3, h4, h5⟩, h6⟩ := h
  have q9 : ∀ i, homN M c 9 i 9 = M 9 i 9 := fun i => by simp [homN, nset_ap]
  have q11 : ∀ i, homN M c 9 i 11 = M 9 i 11 := fun i => by simp [homN, nset_ap]
  have q7 : ∀ i, homN M c 9 i 7 = M 9 i 7 := fun i => by simp [homN, nset_ap]
  have q10 : ∀ i, homN M c 9 i 10 = if i = c then M 9 c 10 + 1 else M 9 i 10 := fun i => by simp [homN, nset_ap]
  have p9 : homN M c 2 0 9 = M 2 0 9 := by simp [homN, nset_ap]
  have p10 : homN M c 2 0 10 = M 2 0 10 := by simp [homN, nset_ap]
  have p11 : homN M c 2 0 11 = M 2 0 11 + 1 := by simp [homN, nset_ap]
  have hH : Hs N (homN M c) := (h1.ns (Or.inl ⟨rfl, by decide⟩)).ns (Or.inr ⟨rfl, by decide⟩)
  generalize homN M c = M' at *
  refine ⟨hH, fun i hi => ?_, ⟨?_, ?_, ?_⟩, h6⟩
  · obtain ⟨a, b, d, e⟩ := h2 i hi
    rw [q9, q11, q7, q10]
    refine ⟨a, b, d, ?_⟩
    by_cases q : i = c
    · subst q
      rw [if_pos rfl, e, pk_us, Int32.add_assoc]
    · rw [if_neg q, pk_un q, e]
  · rw [p9]; exact h3
  · rw [p10]; exact h4
  · rw [p11, h5, sumI_one (f := H) (f' := upd H c (H c + 1)) (c := c) (x := 1) pk_us (fun j hj => pk_un hj) hc, Int32.add_assoc]
theorem Bk.mono {N M : Nu} {q q2 : Nat} {T H : Nat → Int32} (h : Bk N q M T H) (hq : q ≤ q2) : Bk N q2 M T H := by
  refine ⟨h.1, h.2.1, h.2.2.1, fun i hi j hj z => ?_⟩
  rcases h.2.2.2 i hi j hj z with ⟨a, q', b, c⟩ | ⟨a, q', b, c⟩
  · exact Or.inl ⟨a, q', by omega, c⟩
  · exact Or.inr ⟨a, q', by omega, c⟩
theorem has_or {x y : Int32} {j : Nat} (hj : j < 32) : Has (x ||| y) (nI j) ↔ Has x (nI j) ∨ Has y (nI j) := by
  rw [has_bit hj, has_bit hj, has_bit hj, bt_or, Bool.or_eq_true]
theorem has_one {s j : Nat} (hs : s < 32) (hj : j < 32) : Has (1 <<< (nI s &&& 31)) (nI j) ↔ j = s := by
  rw [has_bit hj, bt_one hs hj, decide_eq_true_iff]
theorem has_1024 {j : Nat} (hj : j < 32) : Has 1024 (nI j) ↔ j = 10 := by
  rw [has_bit hj, bt_1024 hj, decide_eq_true_iff]
theorem Bk.book {N M : Nu} {q r s i : Nat} {y : Int32} {T H : Nat → Int32} (h : Bk N (q + 1) M T H) (hq : q = 10 * r + s) (hs : s < 10) (hi : i < nK N) (hy : Has y (nI i)) (h6 : ¬ N 9 i 6 = 0) (hr : N 9 i 4 = nI r) (hf : ¬ Has (T i) (nI s)) : Bk N (q + 1) (bokN y i M) (upd T i (T i ||| (1 <<< (nI s &&& 31)))) H := by
  have hlt := h.lt hi
  obtain ⟨h1, h2, ⟨h3, h4, h5⟩, h7⟩ := h
  have hlt2 : ∀ j, j < 32 → Has (upd T i (T i ||| (1 <<< (nI s &&& 31))) i) (nI j) → j < 11 := by
    intro j hj z
    rw [pk_us] at z
    exact ((has_or hj).mp z).elim (hlt j hj) (fun z => by rw [has_one (by omega) hj] at z; omega)
  have e7 : c7F (upd T i (T i ||| (1 <<< (nI s &&& 31)))) i = c7F T i := by
    rw [c7_v hlt, c7_v hlt2]
    have : Has (upd T i (T i ||| (1 <<< (nI s &&& 31))) i) (nI 10) ↔ Has (T i) (nI 10) := by
      rw [pk_us, has_or (by decide), has_one (by omega) (by decide)]
      exact ⟨fun z => z.elim id (fun z => absurd z (by omega)), Or.inl⟩
    by_cases hh : Has (T i) (nI 10)
    · rw [if_pos hh, if_pos (this.mpr hh)]
    · rw [if_neg hh, if_neg (fun z => hh (this.mp z))]
  have e9 := c9_s (T := T) (i := i) hs hf
  have ebk : bokN y i M = nset (nset (nset M 9 i 9 (M 9 i 9 + 1)) 9 i 11 (M 9 i 11 + feeF N i)) 2 0 9 (M 2 0 9 + feeF N i) := by
    unfold bokN
    rw [if_pos hy, if_neg (by rw [h1.k (by decide)]; exact h6), h1.fee]
  have q9 : ∀ c, bokN y i M 9 c 9 = if c = i then M 9 i 9 + 1 else M 9 c 9 := fun c => by rw [ebk]; simp [nset_ap]
  have q11 : ∀ c, bokN y i M 9 c 11 = if c = i then M 9 i 11 + feeF N i else M 9 c 11 := fun c => by rw [ebk]; simp [nset_ap]
  have q7 : ∀ c, bokN y i M 9 c 7 = M 9 c 7 := fun c => by rw [ebk]; simp [nset_ap]
  have q10 : ∀ c, bokN y i M 9 c 10 = M 9 c 10 := fun c => by rw [ebk]; simp [nset_ap]
  have p9 : bokN y i M 2 0 9 = M 2 0 9 + feeF N i := by rw [ebk]; simp [nset_ap]
  have p10 : bokN y i M 2 0 10 = M 2 0 10 := by rw [ebk]; simp [nset_ap]
  have p11 : bokN y i M 2 0 11 = M 2 0 11 := by rw [ebk]; simp [nset_ap]
  have hH : Hs N (bokN y i M) := by
    rw [ebk]
    exact ((h1.ns (Or.inl ⟨rfl, by decide⟩)).ns (Or.inl ⟨rfl, by decide⟩)).ns (Or.inr ⟨rfl, by decide⟩)
  clear ebk
  generalize bokN y i M = M' at *
  refine ⟨hH, fun c hc => ?_, ⟨?_, ?_, ?_⟩, fun c hc j hj z => ?_⟩
  · obtain ⟨a, b, d, e⟩ := h2 c hc
    rw [q9, q11, q7, q10]
    by_cases z : c = i
    · subst z
      rw [if_pos rfl, if_pos rfl, e7, e9]
      refine ⟨by rw [a, Int32.add_assoc], ?_, d, e⟩
      rw [b, Int32.add_assoc, Int32.add_mul, Int32.one_mul]
    · rw [if_neg z, if_neg z, c9_ne z, c7_ne z]
      exact ⟨a, b, d, e⟩
  · rw [p9, h3, sumI_one (f := fun i => c9F T i * feeF N i) (f' := fun c => c9F (upd T i (T i ||| (1 <<< (nI s &&& 31)))) c * feeF N c) (c := i) (x := feeF N i) (by rw [e9, Int32.add_mul, Int32.one_mul]) (fun j hj => by rw [c9_ne hj]) hi, Int32.add_assoc]
  · rw [p10, h4, sumI_congr (f := c7F T) (f' := c7F (upd T i (T i ||| (1 <<< (nI s &&& 31))))) (fun j hj => by
      by_cases z : j = i
      · rw [z, e7]
      · rw [c7_ne z])]
  · rw [p11, h5]
  · by_cases e : c = i
    · subst e
      rw [pk_us, has_or hj, has_one (by omega) hj] at z
      rcases z with z | rfl
      · exact h7 c hc j hj z
      · exact Or.inl ⟨hs, q, by omega, by rw [hr, hq, show (10 * r + j) / 10 = r by omega], by omega, h6⟩
    · rw [pk_un e] at z
      exact h7 c hc j hj z
theorem Bk.visit {N M : Nu} {q r s i : Nat} {y : Int32} {T H : Nat → Int32} (h : Bk N (q + 1) M T H) (hq : q = 10 * r + s) (hs : s < 10) (hi : i < nK N) (hy : Has y (nI i)) (h6 : N 9 i 6 = 0) (hr : N 9 i 4 = nI r) (h8 : N 9 i 8 = nI s) (hf : ¬ Has (T i) (nI 10)) : Bk N (q + 1) (bokN y i M) (upd T i (T i ||| 1024)) H := by
  have hlt := h.lt hi
  obtain ⟨h1, h2, ⟨h3, h4, h5⟩, h7⟩ := h
  have hlt2 : ∀ j, j < 32 → Has (upd T i (T i ||| 1024) i) (nI j) → j < 11 := by
    intro j hj z
    rw [pk_us] at z
    exact ((has_or hj).mp z).elim (hlt j hj) (fun z => by rw [has_1024 hj] at z; omega)
  have e7 : c7F (upd T i (T i ||| 1024)) i = c7F T i + 1 := by
    rw [c7_v hlt, c7_v hlt2, if_neg hf, if_pos (by rw [pk_us]; exact (has_or (by decide)).mpr (Or.inr ((has_1024 (by decide)).mpr rfl)))]
    rfl
  have e9 := c9_10 (T := T) (i := i)
  have ebk : bokN y i M = nset (nset M 9 i 7 (M 9 i 7 + 1)) 2 0 10 (M 2 0 10 + 1) := by
    unfold bokN
    rw [if_pos hy, if_pos (by rw [h1.k (by decide)]; exact h6)]
  have q9 : ∀ c, bokN y i M 9 c 9 = M 9 c 9 := fun c => by rw [ebk]; simp [nset_ap]
  have q11 : ∀ c, bokN y i M 9 c 11 = M 9 c 11 := fun c => by rw [ebk]; simp [nset_ap]
  have q7 : ∀ c, bokN y i M 9 c 7 = if c = i then M 9 i 7 + 1 else M 9 c 7 := fun c => by rw [ebk]; simp [nset_ap]
  have q10 : ∀ c, bokN y i M 9 c 10 = M 9 c 10 := fun c => by rw [ebk]; simp [nset_ap]
  have p9 : bokN y i M 2 0 9 = M 2 0 9 := by rw [ebk]; simp [nset_ap]
  have p10 : bokN y i M 2 0 10 = M 2 0 10 + 1 := by rw [ebk]; simp [nset_ap]
  have p11 : bokN y i M 2 0 11 = M 2 0 11 := by rw [ebk]; simp [nset_ap]
  have hH : Hs N (bokN y i M) := by
    rw [ebk]
    exact (h1.ns (Or.inl ⟨rfl, by decide⟩)).ns (Or.inr ⟨rfl, by decide⟩)
  clear ebk
  generalize bokN y i M = M' at *
  refine ⟨hH, fun c hc => ?_, ⟨?_, ?_, ?_⟩, fun c hc j hj z => ?_⟩
  · obtain ⟨a, b, d, e⟩ := h2 c hc
    rw [q9, q11, q7, q10]
    by_cases z : c = i
    · subst z
      rw [if_pos rfl, e7, e9]
      exact ⟨a, b, by rw [d, Int32.add_assoc], e⟩
    · rw [if_neg z, c9_ne z, c7_ne z]
      exact ⟨a, b, d, e⟩
  · rw [p9, h3, sumI_congr (f := fun i => c9F T i * feeF N i) (f' := fun c => c9F (upd T i (T i ||| 1024)) c * feeF N c) (fun j hj => by
      by_cases z : j = i
      · rw [z, e9]
      · rw [c9_ne z])]
  · rw [p10, h4, sumI_one (f := c7F T) (f' := c7F (upd T i (T i ||| 1024))) (c := i) (x := 1) e7 (fun j hj => c7_ne hj) hi, Int32.add_assoc]
  · rw [p11, h5]
  · by_cases e : c = i
    · subst e
      rw [pk_us, has_or hj, has_1024 hj] at z
      rcases z with z | rfl
      · exact h7 c hc j hj z
      · exact Or.inr ⟨rfl, q, by omega, by rw [hr, hq, show (10 * r + s) / 10 = r by omega], h6, by rw [h8, hq, show (10 * r + s) % 10 = s by omega]⟩
    · rw [pk_un e] at z
      exact h7 c hc j hj z
