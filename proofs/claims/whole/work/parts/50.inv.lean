/-! WHAT HOLDS BETWEEN CALLS -/
theorem ok_lq {N A : Nu} (h : Ok N) (hl : Lq N A) : Ok A := by
  have hs := hl.sm
  have h24 := h.1.1.2.2.2
  refine ⟨⟨hs.bd h.1.1, by rw [hs.nC]; exact h.1.2⟩, fun i hi => ?_, fun i hi => ?_, ⟨fun i hi => ?_, fun i hi => ?_⟩, fun i hi => ?_, fun j hj => ?_⟩
  · rw [hs.nK] at hi
    rw [hs.nR, hl.c9 hi (by decide), hl.c9 hi (by decide), hl.c9 hi (by decide)]
    exact h.2.1 i hi
  · rw [hs.nR] at hi
    rw [hl.c7 hi (by decide), hl.c7 hi (by decide)]
    exact h.2.2.1 i hi
  · rw [hs.nC] at hi
    rw [hl.c8 hi (by decide), hl.c8 hi (by decide)]
    exact h.2.2.2.1.1 i hi
  · rw [hs.nR] at hi
    rw [hl.c7 hi (by decide)]
    exact h.2.2.2.1.2 i hi
  · rw [hs.nK] at hi
    rw [hl.c9 hi (by decide), hl.c9 hi (by decide), hl.c9 hi (by decide), hl.c9 hi (by decide), hl.c9 hi (by decide)]
    exact h.2.2.2.2.1 i hi
  · rw [hl.c3 hj]
    exact h.2.2.2.2.2 j hj
theorem pl_lq {N A : Nu} (h : Pl N) (hl : Lq N A) : Pl A := by
  intro i hi q
  rw [hl.sm.nK] at hi
  rw [hl.c9 hi (by decide)] at q ⊢
  exact h i hi q
/-- how many placings, how many weeks -/
def Tm (b : Nat) (N : Nu) : Prop := ∃ p w, p ≤ b ∧ w ≤ b ∧ N 2 0 8 = nI p ∧ N 2 0 7 = nI w
theorem Tm.mono {b b' : Nat} {N : Nu} (h : Tm b N) (hb : b ≤ b') : Tm b' N := by
  obtain ⟨p, w, h1, h2, h3⟩ := h
  exact ⟨p, w, by omega, by omega, h3⟩
theorem Tm.of {b : Nat} {N M : Nu} (h : Tm b N) (h8 : M 2 0 8 = N 2 0 8) (h7 : M 2 0 7 = N 2 0 7) : Tm b M := by
  obtain ⟨p, w, h1, h2, h3, h4⟩ := h
  exact ⟨p, w, h1, h2, h8.trans h3, h7.trans h4⟩
/-- a state beside a row -/
def Ro (b : Nat) (N : Nu) (v : Nat → Int32) : Prop := Ok N ∧ Pl N ∧ Tm b N ∧ RelR N v
theorem Ro.lq {b : Nat} {N A : Nu} {v : Nat → Int32} (h : Ro b N v) (hl : Lq N A) : Ro b A v := ⟨ok_lq h.1 hl, pl_lq h.2.1 hl, h.2.2.1.of (hl.c2 (by decide) (by decide)) (hl.c2 (by decide) (by decide)), h.2.2.2.lq hl⟩
theorem Ro.mono {b b' : Nat} {N : Nu} {v : Nat → Int32} (h : Ro b N v) (hb : b ≤ b') : Ro b' N v := ⟨h.1, h.2.1, h.2.2.1.mono hb, h.2.2.2⟩
theorem Ro.ex {b : Nat} {N : Nu} {v w : Nat → Int32} (h : Ro b N v) (hw : ∀ k, k < 429 → w k = v k) : Ro b N w := ⟨h.1, h.2.1, h.2.2.1, h.2.2.2.ex hw⟩
/-- the histories of both -/
def Hy (b : Nat) (mem : Mm) (old sz : Nat) : Prop := old < 7 ∧ sz ≤ 6 ∧ mem (10, 0, 0) 1 = nI old ∧ mem (10, 0, 0) 2 = nI sz ∧ mem (17, 0, 0) 3 = nI sz ∧ ∀ i, i < sz → Ro b (rd mem (2 + (old + i) % 7)) (fun k => mem (18, 2, 0) (429 * i + k))
/-- saved states, settings' bounds, pads -/
def Sv (b : Nat) (mem : Mm) : Prop := ∀ s, s < 2 → mem (13, 0, 0) s = mem (19, 0, 0) s ∧ (¬ mem (13, 0, 0) s = 0 → Ro b (rd mem (9 + s)) (fun k => mem (18, 3, 0) (429 * s + k)))
def Pd (mem : Mm) (L : Nat) : Prop := Tx mem L ∧ Tr mem L ∧ mem (15, 0, 0) = mem (18, 4, 0)
def Inv (b : Nat) (mem : Mm) : Prop := Ro b (rd mem 0) (mem (18, 0, 0)) ∧ (∃ old sz, Hy b mem old sz) ∧ Sv b mem ∧ (∃ L, Pd mem L) ∧ mem (17, 0, 0) 4 = 0 ∧ ∀ j, j < 5 → mem (18, 5, 0) j = staV 1 j
/-- cells that nobody reads again -/
def junk (o : Rf) (j : Nat) : Prop := o = (18, 1, 0) ∨ o = (18, 6, 0) ∨ o = (18, 7, 0) ∨ o = (18, 8, 0) ∨ o = (16, 0, 0) ∨ (o.1 < 10 ∧ o.2.1 = 1) ∨ (o = (14, 0, 0) ∧ (j = 2 ∨ j = 3 ∨ j = 5)) ∨ (o = (17, 0, 0) ∧ (j = 12 ∨ j = 13))
def Agr (m m' : Mm) : Prop := ∀ o j, ¬ junk o j → m' o j = m o j
theorem Agr.rfl' {m : Mm} : Agr m m := fun _ _ _ => rfl
theorem Agr.trans {m m' m'' : Mm} (h : Agr m m') (h2 : Agr m' m'') : Agr m m'' := fun o j q => (h2 o j q).trans (h o j q)
theorem nj {t k i j : Nat} (h : (Nat.beq t 18 && Nat.beq i 0 && (Nat.beq k 1 || Nat.beq k 6 || Nat.beq k 7 || Nat.beq k 8)) = false) (h1 : ¬ t = 16) (h2 : ¬ (t < 10 ∧ k = 1)) (h3 : ¬ (t = 14 ∧ (j = 2 ∨ j = 3 ∨ j = 5))) (h4 : ¬ (t = 17 ∧ (j = 12 ∨ j = 13))) : ¬ junk (t, k, i) j := by
  rintro (q | q | q | q | q | q | q | q)
  · cases q; exact absurd h (by decide)
  · cases q; exact absurd h (by decide)
  · cases q; exact absurd h (by decide)
  · cases q; exact absurd h (by decide)
  · cases q; exact h1 rfl
  · exact h2 q
  · obtain ⟨q, r⟩ := q
    cases q
    exact h3 ⟨rfl, r⟩
  · obtain ⟨q, r⟩ := q
    cases q
    exact h4 ⟨rfl, r⟩
theorem Agr.rd {m m' : Mm} (h : Agr m m') {k : Nat} (hk : ¬ k = 1) : rd m' k = rd m k := by
  funext t i j
  refine h _ _ (nj ?_ ?_ ?_ ?_ ?_)
  · have ht := t.isLt
    have : Nat.beq t.val 18 = false := by
      cases hb : Nat.beq t.val 18
      · rfl
      · exact absurd (Nat.eq_of_beq_eq_true hb) (by omega)
    rw [this]
    rfl
  · have := t.isLt; omega
  · exact fun q => hk q.2
  · have := t.isLt; omega
  · have := t.isLt; omega
theorem Inv.agr {b : Nat} {m m' : Mm} (hI : Inv b m) (h : Agr m m') : Inv b m' := by
  obtain ⟨h1, ⟨old, sz, h2⟩, h3, ⟨L, h4⟩, h5, h6⟩ := hI
  have e18 : ∀ k, k = 0 ∨ k = 2 ∨ k = 3 ∨ k = 4 ∨ k = 5 → m' (18, k, 0) = m (18, k, 0) := by
    intro k hk
    funext j
    refine h _ _ (nj ?_ (by decide) (by omega) (by omega) (by omega))
    rcases hk with rfl | rfl | rfl | rfl | rfl <;> decide
  have c : ∀ t j, ¬ t = 18 → ¬ t = 16 → ¬ (t = 14 ∧ (j = 2 ∨ j = 3 ∨ j = 5)) → ¬ (t = 17 ∧ (j = 12 ∨ j = 13)) → m' (t, 0, 0) j = m (t, 0, 0) j := by
    intro t j a1 a2 a3 a4
    refine h _ _ (nj ?_ a2 (by omega) a3 a4)
    have : Nat.beq t 18 = false := by
      cases hb : Nat.beq t 18
      · rfl
      · exact absurd (Nat.eq_of_beq_eq_true hb) a1
    rw [this]
    rfl
  refine ⟨?_, ⟨old, sz, ?_⟩, ?_, ⟨L, ?_⟩, ?_, fun j hj => ?_⟩
  · rw [h.rd (by decide), e18 0 (by decide)]
    exact h1
  · obtain ⟨a1, a2, a3, a4, a5, a6⟩ := h2
    refine ⟨a1, a2, by rw [c 10 1 (by decide) (by decide) (by omega) (by omega)]; exact a3, by rw [c 10 2 (by decide) (by decide) (by omega) (by omega)]; exact a4, by rw [c 17 3 (by decide) (by decide) (by omega) (by omega)]; exact a5, fun i hi => ?_⟩
    rw [h.rd (by omega), e18 2 (by decide)]
    exact a6 i hi
  · intro s hs
    obtain ⟨a1, a2⟩ := h3 s hs
    rw [c 13 s (by decide) (by decide) (by omega) (by omega), c 19 s (by decide) (by decide) (by omega) (by omega), h.rd (by omega), e18 3 (by decide)]
    exact ⟨a1, a2⟩
  · obtain ⟨⟨a1, a2, a3⟩, ⟨b1, b2, b3⟩, d⟩ := h4
    have e15 : m' (15, 0, 0) = m (15, 0, 0) := by funext j; exact c 15 j (by decide) (by decide) (by omega) (by omega)
    refine ⟨⟨by rw [c 14 1 (by decide) (by decide) (by omega) (by omega)]; exact a1, a2, by rw [e15]; exact a3⟩, ⟨by rw [c 17 8 (by decide) (by decide) (by omega) (by omega)]; exact b1, b2, by rw [e18 4 (by decide)]; exact b3⟩, by rw [e15, e18 4 (by decide)]; exact d⟩
  · rw [c 17 4 (by decide) (by decide) (by omega) (by omega)]; exact h5
  · rw [e18 5 (by decide)]; exact h6 j hj
theorem Inv.mono {b b' : Nat} {m : Mm} (h : Inv b m) (hb : b ≤ b') : Inv b' m := by
  obtain ⟨h1, ⟨old, sz, a1, a2, a3, a4, a5, a6⟩, h3, h4, h5, h6⟩ := h
  exact ⟨h1.mono hb, ⟨old, sz, a1, a2, a3, a4, a5, fun i hi => (a6 i hi).mono hb⟩, fun s hs => ⟨(h3 s hs).1, fun q => ((h3 s hs).2 q).mono hb⟩, h4, h5, h6⟩
theorem agr_wr {m : Mm} {A : Nu} : Agr m (wr m 1 A) := by
  intro o j hn
  refine dif_neg fun q => hn ?_
  exact Or.inr (Or.inr (Or.inr (Or.inr (Or.inr (Or.inl ⟨q.2, q.1⟩)))))
theorem agr_th {m : Mm} {T H v : Nat → Int32} : Agr (wv m v) (wv (th m T H) v) := by
  intro o j hn
  unfold wv th
  split
  · rfl
  · split
    · rename_i h; exact absurd (Or.inr (Or.inl h)) hn
    · split
      · rename_i h; exact absurd (Or.inr (Or.inr (Or.inl h))) hn
      · rfl
theorem agr_sm {m : Mm} {S v : Nat → Int32} : Agr (wv m v) (wv (sm m S) v) := by
  intro o j hn
  unfold wv sm
  split
  · rfl
  · split
    · rename_i h; exact absurd (Or.inl h) hn
    · rfl
theorem agr_pw {m : Mm} {c nc : Nat} {kd : Int32} {nu : Nat → Int32} : Agr m (pw m c kd nc nu) := by
  intro o j hn
  unfold pw
  split
  · rename_i h
    split
    · rename_i h2; exact absurd (Or.inr (Or.inr (Or.inr (Or.inr (Or.inr (Or.inr (Or.inl ⟨h, Or.inl h2⟩))))))) hn
    · split
      · rename_i h2; exact absurd (Or.inr (Or.inr (Or.inr (Or.inr (Or.inr (Or.inr (Or.inl ⟨h, Or.inr (Or.inl h2)⟩))))))) hn
      · split
        · rename_i h2; exact absurd (Or.inr (Or.inr (Or.inr (Or.inr (Or.inr (Or.inr (Or.inl ⟨h, Or.inr (Or.inr h2)⟩))))))) hn
        · rfl
  · split
    · rename_i h; exact absurd (Or.inr (Or.inr (Or.inr (Or.inr (Or.inl h))))) hn
    · rfl
theorem agr_rp {m : Mm} {c : Nat} {lt : Int32} {nu : Nat → Int32} : Agr m (rp m c lt nu) := by
  intro o j hn
  unfold rp
  split
  · rename_i h
    split
    · rename_i h2; exact absurd (Or.inr (Or.inr (Or.inr (Or.inr (Or.inr (Or.inr (Or.inr ⟨h, Or.inl h2⟩))))))) hn
    · split
      · rename_i h2; exact absurd (Or.inr (Or.inr (Or.inr (Or.inr (Or.inr (Or.inr (Or.inr ⟨h, Or.inr h2⟩))))))) hn
      · rfl
  · split
    · rename_i h; exact absurd (Or.inr (Or.inr (Or.inr (Or.inl h)))) hn
    · rfl
/-- two steps beside each other: class, then reference -/
def Both (g : Wg) (hc hm : Hd) (as : List Vl) (b : Nat) (mem : Mm) : Prop := RunI g hc (vO 1 0 0 :: as) mem (fun r m1 => RunI g hm (vO 17 0 0 :: as) m1 (fun r' m2 => r = r' ∧ Inv b m2))
section BO
variable {g : Wg} {mem : Mm} {b : Nat}
/-- a question: both answer F and change nothing -/
theorem quest {hc hm : Hd} {as : List Vl} {F : Int32} (hI : Inv b mem) (h1 : ∀ P : Int32 → Mm → Prop, P F (wr mem 0 (rd mem 0)) → RunI g hc (vO 1 0 0 :: as) (wr mem 0 (rd mem 0)) P) (h2 : ∀ P : Int32 → Mm → Prop, P F (wv mem (mem (18, 0, 0))) → RunI g hm (vO 17 0 0 :: as) (wv mem (mem (18, 0, 0))) P) : Both g hc hm as b mem := by
  unfold Both
  have e1 : wr mem 0 (rd mem 0) = mem := wr_rd
  have e2 : wv mem (mem (18, 0, 0)) = mem := wv_id
  rw [e1] at h1
  rw [e2] at h2
  exact h1 _ (h2 _ ⟨rfl, hI⟩)
theorem B_ofRoom {x y : Int32} (hI : Inv b mem) : Both g h_N_ofRoom h_Md_ofRoom [vI x, vI y] b mem := quest hI (fun _ h => T_N_ofRoom hI.1.1 h) (fun _ h => S_Md_ofRoom hI.1.2.2.2 hI.1.1 h)
theorem B_ofCarer {x y : Int32} (hI : Inv b mem) : Both g h_N_ofCarer h_Md_ofCarer [vI x, vI y] b mem := quest hI (fun _ h => T_N_ofCarer hI.1.1 h) (fun _ h => S_Md_ofCarer hI.1.2.2.2 hI.1.1 h)
theorem B_ofChild {x y : Int32} (hI : Inv b mem) : Both g h_N_ofChild h_Md_ofChild [vI x, vI y] b mem := quest hI (fun _ h => T_N_ofChild hI.1.1 h) (fun _ h => S_Md_ofChild hI.1.2.2.2 hI.1.1 h)
theorem B_free {x y : Int32} (hI : Inv b mem) : Both g h_N_free h_Md_free [vI x, vI y] b mem := quest hI (fun _ h => T_N_free hI.1.1 h) (fun _ h => S_Md_free hI.1.2.2.2 hI.1.1 h)
theorem B_wouldGet {x : Int32} (hI : Inv b mem) : Both g h_N_wouldGet h_Md_wouldGet [vI x] b mem := quest hI (fun _ h => T_N_wouldGet hI.1.1 h) (fun _ h => S_Md_wouldGet hI.1.2.2.2 hI.1.1 h)
theorem B_partners {x y z : Int32} (hI : Inv b mem) : Both g h_N_partners h_Md_partners [vI x, vI y, vI z] b mem := quest hI (fun _ h => T_N_partners hI.1.1 h) (fun _ h => S_Md_partners hI.1.2.2.2 hI.1.1 h)
theorem B_count {x : Int32} (hI : Inv b mem) : Both g h_N_count h_Md_count [vI x] b mem := by
  obtain ⟨old, sz, -, -, -, a4, a5, -⟩ := hI.2.1
  obtain ⟨L, ⟨t1, -⟩, ⟨r1, -⟩, -⟩ := hI.2.2.2.1
  refine quest (F := couF (rd mem 0) (nI L) (nI sz) x) hI (fun _ h => T_N_count hI.1.1 ?_) (fun _ h => S_Md_count hI.1.2.2.2 hI.1.1 ?_)
  · rw [t1, a4]; exact h
  · rw [r1, a5]; exact h
end BO
