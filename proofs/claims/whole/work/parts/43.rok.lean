/-! NEW ROOMS, CARERS, CHILDREN; SETTINGS, VISITS, SESSIONS: what holds, and the row beside the state -/
theorem pl_of {N M : Nu} (h : Pl N) (hs : M 2 0 6 = N 2 0 6) (h6 : ∀ i, M 9 i 6 = N 9 i 6) (h8 : ∀ i, M 9 i 8 = N 9 i 8) : Pl M := by
  intro i hi q
  have hi2 : i < nK N := by
    have e : nK M = nK N := by show (M 2 0 6).toNatClampNeg = _; rw [hs]
    rwa [e] at hi
  rw [h6] at q
  rw [h8]
  exact h i hi2 q
/-- rooms -/
theorem addRN_nR {N : Nu} {f t c r : Int32} (h : nR N < 5) : nR (addRN N f t c r) = nR N + 1 := by
  show (addRN N f t c r 2 0 4).toNatClampNeg = _
  have : addRN N f t c r 2 0 4 = nI (nR N + 1) := by simp [addRN, nset_ap]
  rw [this, nI_clamp (by omega)]
theorem addRN_o {N : Nu} {f t c r : Int32} {a : Fin 10} {i j : Nat} (h : ¬ (a = 7 ∧ i = nR N) ∧ ¬ (a = 2 ∧ j = 4)) : addRN N f t c r a i j = N a i j := by
  unfold addRN
  rw [nset_ap, if_neg (fun q => h.2 ⟨q.1, q.2.2⟩), nset_ap, if_neg (fun q => h.1 ⟨q.1, q.2.1⟩), nset_ap, if_neg (fun q => h.1 ⟨q.1, q.2.1⟩), nset_ap, if_neg (fun q => h.1 ⟨q.1, q.2.1⟩), nset_ap, if_neg (fun q => h.1 ⟨q.1, q.2.1⟩)]
theorem ok_addR {N : Nu} {f t c r : Int32} (hO : Ok N) (hb : RoomB f t c r) (h5 : nR N < 5) : Ok (addRN N f t c r) := by
  have o := @addRN_o N f t c r
  have e5 : addRN N f t c r 2 0 5 = N 2 0 5 := o ⟨by simp, by simp⟩
  have e6 : addRN N f t c r 2 0 6 = N 2 0 6 := o ⟨by simp, by simp⟩
  have e4 : addRN N f t c r 2 0 4 = nI (nR N + 1) := by simp [addRN, nset_ap]
  have nRe := addRN_nR (f := f) (t := t) (c := c) (r := r) h5
  have nCe : nC (addRN N f t c r) = nC N := by show (addRN N f t c r 2 0 5).toNatClampNeg = _; rw [e5]
  have nKe : nK (addRN N f t c r) = nK N := by show (addRN N f t c r 2 0 6).toNatClampNeg = _; rw [e6]
  have o9 : addRN N f t c r 9 = N 9 := by funext i j; exact o ⟨by simp, by simp⟩
  have o8 : addRN N f t c r 8 = N 8 := by funext i j; exact o ⟨by simp, by simp⟩
  have o3 : addRN N f t c r 3 = N 3 := by funext i j; exact o ⟨by simp, by simp⟩
  have q1 : addRN N f t c r 7 (nR N) 1 = t := by simp [addRN, nset_ap]
  have q2 : addRN N f t c r 7 (nR N) 2 = c := by simp [addRN, nset_ap]
  have q3 : addRN N f t c r 7 (nR N) 3 = r := by simp [addRN, nset_ap]
  obtain ⟨hf, htf, ht, hc, hr⟩ := hb
  refine ⟨⟨⟨⟨by rw [nRe, e4], by omega⟩, ⟨by rw [nCe, e5]; exact hO.1.1.2.1.1, by rw [nCe]; exact hO.1.1.2.1.2⟩, ⟨by rw [nKe, e6]; exact hO.1.1.2.2.1, by rw [nKe]; exact hO.1.1.2.2.2⟩⟩, by rw [nCe]; exact hO.1.2⟩, fun i hi => ?_, fun i hi => ?_, ⟨fun i hi => ?_, fun i hi => ?_⟩, fun i hi => ?_, fun j hj => ?_⟩
  · rw [nKe] at hi
    rw [o9, nRe]
    obtain ⟨a, b⟩ := hO.2.1 i hi
    exact ⟨fun q => (by obtain ⟨k, hk, ek⟩ := a q; exact ⟨k, by omega, ek⟩), b⟩
  · rw [nRe] at hi
    by_cases e : i = nR N
    · subst e
      rw [q2, q3]
      obtain ⟨k, hk, ek⟩ := nI_of2 (x := c) (M := 40) (n := 40) (by decide) (fun q => hc.1 (Int32.lt_trans q (by decide))) (Int32.not_lt.mp hc.2)
      obtain ⟨l, hl, el⟩ := nI_of2 (x := r) (M := 12) (n := 12) (by decide) (fun q => hr.1 (Int32.lt_trans q (by decide))) (Int32.not_lt.mp hr.2)
      exact ⟨⟨k, hk, ek⟩, ⟨l, hl, el⟩⟩
    · rw [o ⟨fun q => e q.2, by simp⟩, o ⟨fun q => e q.2, by simp⟩]
      exact hO.2.2.1 i (by omega)
  · rw [nCe] at hi
    rw [o8]
    exact hO.2.2.2.1.1 i hi
  · rw [nRe] at hi
    by_cases e : i = nR N
    · subst e
      rw [q1]
      intro q
      apply htf
      obtain ⟨k, hk, ek⟩ := nI_of hf.1
      rw [ek, Int32.le_iff_toInt_le, nI_toInt hk]
      rw [Int32.lt_iff_toInt_lt, Int32.toInt_zero] at q
      omega
    · rw [o ⟨fun q => e q.2, by simp⟩]
      exact hO.2.2.2.1.2 i (by omega)
  · rw [nKe] at hi
    rw [o9]
    exact hO.2.2.2.2.1 i hi
  · rw [o3]
    exact hO.2.2.2.2.2 j hj
theorem RelR.addR {N : Nu} {v : Nat → Int32} (h : RelR N v) {f t c r : Int32} (h5 : nR N < 5) : RelR (addRN N f t c r) (upd (upd (upd (upd (upd v (13 + 4 * nR N + 0) f) (13 + 4 * nR N + 1) t) (13 + 4 * nR N + 2) c) (13 + 4 * nR N + 3) r) 6 (nI (nR N + 1))) := by
  have b7 : ∀ j, j < 4 → Bx 7 (nR N) j := fun j hj => Or.inr (Or.inr (Or.inl ⟨rfl, h5, hj⟩))
  have h1 := Rl.set (Rl.set (Rl.set (Rl.set (Rl.set h (b7 0 (by decide)) f) (b7 1 (by decide)) t) (b7 2 (by decide)) c) (b7 3 (by decide)) r) (bx2 (j := 4) (by decide) (by decide)) (nI (nR N + 1))
  refine Rl.mono h1 fun a i j _ hl => ?_
  have e5 : addRN N f t c r 2 0 5 = N 2 0 5 := addRN_o ⟨by simp, by simp⟩
  have e6 : addRN N f t c r 2 0 6 = N 2 0 6 := addRN_o ⟨by simp, by simp⟩
  have nCe : nC (addRN N f t c r) = nC N := by show (addRN N f t c r 2 0 5).toNatClampNeg = _; rw [e5]
  have nKe : nK (addRN N f t c r) = nK N := by show (addRN N f t c r 2 0 6).toNatClampNeg = _; rw [e6]
  have hl2 := hl.2
  have e3 : ∀ i, addRN N f t c r 9 i 3 = N 9 i 3 := fun i => addRN_o ⟨by simp, by simp⟩
  rcases hl.1 with ⟨rfl, rfl, p, q⟩ | ⟨rfl, rfl, p⟩ | ⟨rfl, p, q⟩ | ⟨rfl, p, q⟩ | ⟨rfl, p, q⟩
  · exact Or.inl (Or.inl (Or.inl (Or.inl (Or.inl ⟨Or.inl ⟨rfl, rfl, p, q⟩, fun z => absurd z (by decide)⟩))))
  · exact Or.inl (Or.inl (Or.inl (Or.inl (Or.inl ⟨Or.inr (Or.inl ⟨rfl, rfl, p⟩), fun z => absurd z (by decide)⟩))))
  · rw [addRN_nR h5] at p
    by_cases e : i = nR N
    · subst e
      rcases (show j = 0 ∨ j = 1 ∨ j = 2 ∨ j = 3 by omega) with rfl | rfl | rfl | rfl
      · exact Or.inl (Or.inl (Or.inl (Or.inl (Or.inr ⟨rfl, rfl, rfl⟩))))
      · exact Or.inl (Or.inl (Or.inl (Or.inr ⟨rfl, rfl, rfl⟩)))
      · exact Or.inl (Or.inl (Or.inr ⟨rfl, rfl, rfl⟩))
      · exact Or.inl (Or.inr ⟨rfl, rfl, rfl⟩)
    · exact Or.inl (Or.inl (Or.inl (Or.inl (Or.inl ⟨Or.inr (Or.inr (Or.inl ⟨rfl, by omega, q⟩)), fun z => absurd z (by decide)⟩))))
  · rw [nCe] at p
    exact Or.inl (Or.inl (Or.inl (Or.inl (Or.inl ⟨Or.inr (Or.inr (Or.inr (Or.inl ⟨rfl, p, q⟩))), fun z => absurd z (by decide)⟩))))
  · rw [nKe] at p
    rw [e3] at hl2
    exact Or.inl (Or.inl (Or.inl (Or.inl (Or.inl ⟨Or.inr (Or.inr (Or.inr (Or.inr ⟨rfl, p, q⟩))), hl2⟩))))
/-- carers -/
theorem hirN_nC {N : Nu} {r d f t : Int32} (h : nC N < 2 ^ 30) : nC (hirN N r d f t) = nC N + 1 := by
  show (hirN N r d f t 2 0 5).toNatClampNeg = _
  have : hirN N r d f t 2 0 5 = nI (nC N + 1) := by simp [hirN, nset_ap]
  rw [this, nI_clamp (by omega)]
theorem hirN_o {N : Nu} {r d f t : Int32} {a : Fin 10} {i j : Nat} (h : ¬ (a = 8 ∧ i = nC N) ∧ ¬ (a = 2 ∧ j = 5)) : hirN N r d f t a i j = N a i j := by
  unfold hirN
  rw [nset_ap, if_neg (fun q => h.2 ⟨q.1, q.2.2⟩), nset_ap, if_neg (fun q => h.1 ⟨q.1, q.2.1⟩), nset_ap, if_neg (fun q => h.1 ⟨q.1, q.2.1⟩), nset_ap, if_neg (fun q => h.1 ⟨q.1, q.2.1⟩), nset_ap, if_neg (fun q => h.1 ⟨q.1, q.2.1⟩), nset_ap, if_neg (fun q => h.1 ⟨q.1, q.2.1⟩)]
theorem ok_hire {N : Nu} {r d f t : Int32} (hO : Ok N) (hb : ShiftB d f t) (h12 : nC N < 12) : Ok (hirN N r d f t) := by
  have o := @hirN_o N r d f t
  have e4 : hirN N r d f t 2 0 4 = N 2 0 4 := o ⟨by simp, by simp⟩
  have e6 : hirN N r d f t 2 0 6 = N 2 0 6 := o ⟨by simp, by simp⟩
  have e5 : hirN N r d f t 2 0 5 = nI (nC N + 1) := by simp [hirN, nset_ap]
  have nCe := hirN_nC (r := r) (d := d) (f := f) (t := t) (show nC N < 2 ^ 30 by omega)
  have nRe : nR (hirN N r d f t) = nR N := by show (hirN N r d f t 2 0 4).toNatClampNeg = _; rw [e4]
  have nKe : nK (hirN N r d f t) = nK N := by show (hirN N r d f t 2 0 6).toNatClampNeg = _; rw [e6]
  have o9 : hirN N r d f t 9 = N 9 := by funext i j; exact o ⟨by simp, by simp⟩
  have o7 : hirN N r d f t 7 = N 7 := by funext i j; exact o ⟨by simp, by simp⟩
  have o3 : hirN N r d f t 3 = N 3 := by funext i j; exact o ⟨by simp, by simp⟩
  have q3 : hirN N r d f t 8 (nC N) 3 = t := by simp [hirN, nset_ap]
  have q4 : hirN N r d f t 8 (nC N) 4 = 0 := by simp [hirN, nset_ap]
  obtain ⟨hd, hf, htf, ht⟩ := hb
  refine ⟨⟨⟨⟨by rw [nRe, e4]; exact hO.1.1.1.1, by rw [nRe]; exact hO.1.1.1.2⟩, ⟨by rw [nCe, e5], by omega⟩, ⟨by rw [nKe, e6]; exact hO.1.1.2.2.1, by rw [nKe]; exact hO.1.1.2.2.2⟩⟩, by omega⟩, fun i hi => ?_, fun i hi => ?_, ⟨fun i hi => ?_, fun i hi => ?_⟩, fun i hi => ?_, fun j hj => ?_⟩
  · rw [nKe] at hi
    rw [o9, nRe]
    exact hO.2.1 i hi
  · rw [nRe] at hi
    rw [o7]
    exact hO.2.2.1 i hi
  · rw [nCe] at hi
    by_cases e : i = nC N
    · subst e
      rw [q3, q4]
      refine ⟨fun q => ?_, Or.inl rfl⟩
      apply htf
      obtain ⟨k, hk, ek⟩ := nI_of hf.1
      rw [ek, Int32.le_iff_toInt_le, nI_toInt hk]
      rw [Int32.lt_iff_toInt_lt, Int32.toInt_zero] at q
      omega
    · rw [o ⟨fun q => e q.2, by simp⟩, o ⟨fun q => e q.2, by simp⟩]
      exact hO.2.2.2.1.1 i (by omega)
  · rw [nRe] at hi
    rw [o7]
    exact hO.2.2.2.1.2 i hi
  · rw [nKe] at hi
    rw [o9]
    exact hO.2.2.2.2.1 i hi
  · rw [o3]
    exact hO.2.2.2.2.2 j hj
theorem RelR.hire {N : Nu} {v : Nat → Int32} (h : RelR N v) {r d f t : Int32} (h12 : nC N < 12) : RelR (hirN N r d f t) (upd (upd (upd (upd (upd (upd v (33 + 5 * nC N + 0) r) (33 + 5 * nC N + 1) d) (33 + 5 * nC N + 2) f) (33 + 5 * nC N + 3) t) (33 + 5 * nC N + 4) 0) 7 (nI (nC N + 1))) := by
  have b8 : ∀ j, j < 5 → Bx 8 (nC N) j := fun j hj => Or.inr (Or.inr (Or.inr (Or.inl ⟨rfl, h12, hj⟩)))
  have h1 := Rl.set (Rl.set (Rl.set (Rl.set (Rl.set (Rl.set h (b8 0 (by decide)) r) (b8 1 (by decide)) d) (b8 2 (by decide)) f) (b8 3 (by decide)) t) (b8 4 (by decide)) 0) (bx2 (j := 5) (by decide) (by decide)) (nI (nC N + 1))
  refine Rl.mono h1 fun a i j _ hl => ?_
  have e4 : hirN N r d f t 2 0 4 = N 2 0 4 := hirN_o ⟨by simp, by simp⟩
  have e6 : hirN N r d f t 2 0 6 = N 2 0 6 := hirN_o ⟨by simp, by simp⟩
  have nRe : nR (hirN N r d f t) = nR N := by show (hirN N r d f t 2 0 4).toNatClampNeg = _; rw [e4]
  have nKe : nK (hirN N r d f t) = nK N := by show (hirN N r d f t 2 0 6).toNatClampNeg = _; rw [e6]
  have hl2 := hl.2
  have e3 : ∀ i, hirN N r d f t 9 i 3 = N 9 i 3 := fun i => hirN_o ⟨by simp, by simp⟩
  rcases hl.1 with ⟨rfl, rfl, p, q⟩ | ⟨rfl, rfl, p⟩ | ⟨rfl, p, q⟩ | ⟨rfl, p, q⟩ | ⟨rfl, p, q⟩
  · exact Or.inl (Or.inl (Or.inl (Or.inl (Or.inl (Or.inl ⟨Or.inl ⟨rfl, rfl, p, q⟩, fun z => absurd z (by decide)⟩)))))
  · exact Or.inl (Or.inl (Or.inl (Or.inl (Or.inl (Or.inl ⟨Or.inr (Or.inl ⟨rfl, rfl, p⟩), fun z => absurd z (by decide)⟩)))))
  · rw [nRe] at p
    exact Or.inl (Or.inl (Or.inl (Or.inl (Or.inl (Or.inl ⟨Or.inr (Or.inr (Or.inl ⟨rfl, p, q⟩)), fun z => absurd z (by decide)⟩)))))
  · rw [hirN_nC (show nC N < 2 ^ 30 by omega)] at p
    by_cases e : i = nC N
    · subst e
      rcases (show j = 0 ∨ j = 1 ∨ j = 2 ∨ j = 3 ∨ j = 4 by omega) with rfl | rfl | rfl | rfl | rfl
      · exact Or.inl (Or.inl (Or.inl (Or.inl (Or.inl (Or.inr ⟨rfl, rfl, rfl⟩)))))
      · exact Or.inl (Or.inl (Or.inl (Or.inl (Or.inr ⟨rfl, rfl, rfl⟩))))
      · exact Or.inl (Or.inl (Or.inl (Or.inr ⟨rfl, rfl, rfl⟩)))
      · exact Or.inl (Or.inl (Or.inr ⟨rfl, rfl, rfl⟩))
      · exact Or.inl (Or.inr ⟨rfl, rfl, rfl⟩)
    · exact Or.inl (Or.inl (Or.inl (Or.inl (Or.inl (Or.inl ⟨Or.inr (Or.inr (Or.inr (Or.inl ⟨rfl, by omega, q⟩))), fun z => absurd z (by decide)⟩)))))
  · rw [nKe] at p
    rw [e3] at hl2
    exact Or.inl (Or.inl (Or.inl (Or.inl (Or.inl (Or.inl ⟨Or.inr (Or.inr (Or.inr (Or.inr ⟨rfl, p, q⟩))), hl2⟩)))))
/-- children -/
theorem addKN_o {N : Nu} {a f w : Int32} {t : Fin 10} {i j : Nat} (h : ¬ (t = 9 ∧ i = nK N) ∧ ¬ (t = 2 ∧ j = 6)) : addKN N a f w t i j = N t i j := by
  have e9 : ∀ (x y : Nat) (z : Int32) (L : Nu), x = nK N → nset L 9 x y z t i j = L t i j := by
    intro x y z L hx
    subst hx
    exact if_neg (fun q => h.1 ⟨q.1, q.2.1⟩)
  unfold addKN
  rw [nset_ap, if_neg (fun q => h.2 ⟨q.1, q.2.2⟩)]
  unfold comeN waitN qitN
  repeat rw [e9 _ _ _ _ rfl]
theorem addKN_nK {N : Nu} {a f w : Int32} (h : nK N < 2 ^ 30) : nK (addKN N a f w) = nK N + 1 := by
  show (addKN N a f w 2 0 6).toNatClampNeg = _
  have : addKN N a f w 2 0 6 = nI (nK N + 1) := by simp [addKN, nset_ap]
  rw [this, nI_clamp (by omega)]
theorem addKN_c {N : Nu} {a f w : Int32} {j : Nat} (hj : j < 14) : addKN N a f w 9 (nK N) j = if j = 0 then a else if j = 1 then f else if j = 2 then w else if j = 4 then -6 else if j = 8 then -6 else if j = 12 then N 2 0 7 else 0 := by
  rcases (show j = 0 ∨ j = 1 ∨ j = 2 ∨ j = 3 ∨ j = 4 ∨ j = 5 ∨ j = 6 ∨ j = 7 ∨ j = 8 ∨ j = 9 ∨ j = 10 ∨ j = 11 ∨ j = 12 ∨ j = 13 by omega) with rfl | rfl | rfl | rfl | rfl | rfl | rfl | rfl | rfl | rfl | rfl | rfl | rfl | rfl <;> simp [addKN, comeN, waitN, qitN, nset_ap]
theorem ok_addK {N : Nu} {a f w : Int32} (hO : Ok N) (h24 : nK N < 24) : Ok (addKN N a f w) := by
  have o := @addKN_o N a f w
  have e4 : addKN N a f w 2 0 4 = N 2 0 4 := o ⟨by simp, by simp⟩
  have e5 : addKN N a f w 2 0 5 = N 2 0 5 := o ⟨by simp, by simp⟩
  have e6 : addKN N a f w 2 0 6 = nI (nK N + 1) := by simp [addKN, nset_ap]
  have nKe := addKN_nK (a := a) (f := f) (w := w) (show nK N < 2 ^ 30 by omega)
  have nRe : nR (addKN N a f w) = nR N := by show (addKN N a f w 2 0 4).toNatClampNeg = _; rw [e4]
  have nCe : nC (addKN N a f w) = nC N := by show (addKN N a f w 2 0 5).toNatClampNeg = _; rw [e5]
  have o7 : addKN N a f w 7 = N 7 := by funext i j; exact o ⟨by simp, by simp⟩
  have o8 : addKN N a f w 8 = N 8 := by funext i j; exact o ⟨by simp, by simp⟩
  have o3 : addKN N a f w 3 = N 3 := by funext i j; exact o ⟨by simp, by simp⟩
  have k1 : ∀ i, i < nK N + 1 → K1 (addKN N a f w) i := by
    intro i hi
    by_cases e : i = nK N
    · subst e
      have c3 := addKN_c (N := N) (a := a) (f := f) (w := w) (j := 3) (by decide)
      have c4 := addKN_c (N := N) (a := a) (f := f) (w := w) (j := 4) (by decide)
      have c5 := addKN_c (N := N) (a := a) (f := f) (w := w) (j := 5) (by decide)
      have c6 := addKN_c (N := N) (a := a) (f := f) (w := w) (j := 6) (by decide)
      have c8 := addKN_c (N := N) (a := a) (f := f) (w := w) (j := 8) (by decide)
      have c13 := addKN_c (N := N) (a := a) (f := f) (w := w) (j := 13) (by decide)
      simp only [Nat.reduceEqDiff, if_true, if_false, reduceIte] at c3 c4 c5 c6 c8 c13
      unfold K1
      rw [c3, c4, c5, c6, c8, c13]
      exact ⟨⟨fun q => absurd q (by decide), fun _ => ⟨rfl, rfl⟩⟩, Or.inl rfl, Or.inl rfl, fun _ => ⟨rfl, rfl⟩, Or.inl rfl, fun j hj q => absurd q (has_0 hj), by decide⟩
    · have := hO.k1 (show i < nK N by omega)
      unfold K1 at this ⊢
      rw [nRe, o ⟨fun q => e q.2, by simp⟩, o ⟨fun q => e q.2, by simp⟩, o ⟨fun q => e q.2, by simp⟩, o ⟨fun q => e q.2, by simp⟩, o ⟨fun q => e q.2, by simp⟩, o ⟨fun q => e q.2, by simp⟩]
      exact this
  refine ⟨⟨⟨⟨by rw [nRe, e4]; exact hO.1.1.1.1, by rw [nRe]; exact hO.1.1.1.2⟩, ⟨by rw [nCe, e5]; exact hO.1.1.2.1.1, by rw [nCe]; exact hO.1.1.2.1.2⟩, ⟨by rw [nKe, e6], by omega⟩⟩, by rw [nCe]; exact hO.1.2⟩, fun i hi => (k1 i (by rw [nKe] at hi; exact hi)).1, fun i hi => ?_, ⟨fun i hi => ?_, fun i hi => ?_⟩, fun i hi => (k1 i (by rw [nKe] at hi; exact hi)).2, fun j hj => ?_⟩
  · rw [nRe] at hi
    rw [o7]
    exact hO.2.2.1 i hi
  · rw [nCe] at hi
    rw [o8]
    exact hO.2.2.2.1.1 i hi
  · rw [nRe] at hi
    rw [o7]
    exact hO.2.2.2.1.2 i hi
  · rw [o3]
    exact hO.2.2.2.2.2 j hj
theorem pl_addK {N : Nu} {a f w : Int32} (hP : Pl N) (h24 : nK N < 24) : Pl (addKN N a f w) := by
  intro i hi q
  rw [addKN_nK (by omega)] at hi
  by_cases e : i = nK N
  · subst e
    have c8 := addKN_c (N := N) (a := a) (f := f) (w := w) (j := 8) (by decide)
    simpa using c8
  · rw [addKN_o ⟨fun z => e z.2, by simp⟩] at q ⊢
    exact hP i (by omega) q
theorem RelR.addK {N : Nu} {v v' : Nat → Int32} (h : RelR N v) {a f w : Int32} (h24 : nK N < 24) (hv : ∀ k, ¬ (93 + 14 * nK N ≤ k ∧ k < 93 + 14 * nK N + 14) → ¬ k = 8 → v' k = v k) (h8 : v' 8 = nI (nK N + 1)) (hc : ∀ j, j < 14 → ¬ j = 4 → v' (93 + 14 * nK N + j) = if j = 0 then a else if j = 1 then f else if j = 2 then w else if j = 8 then -6 else if j = 12 then N 2 0 7 else 0) : RelR (addKN N a f w) v' := by
  have o := @addKN_o N a f w
  have e4 : addKN N a f w 2 0 4 = N 2 0 4 := o ⟨by simp, by simp⟩
  have e5 : addKN N a f w 2 0 5 = N 2 0 5 := o ⟨by simp, by simp⟩
  have nRe : nR (addKN N a f w) = nR N := by show (addKN N a f w 2 0 4).toNatClampNeg = _; rw [e4]
  have nCe : nC (addKN N a f w) = nC N := by show (addKN N a f w 2 0 5).toNatClampNeg = _; rw [e5]
  have old : ∀ t i j, Bx t i j → Lp N t i j → ¬ (t = 9 ∧ i = nK N) → ¬ (t = 2 ∧ j = 6) → v' (ixF t i j) = addKN N a f w t i j := by
    intro t i j hb hl h1 h2
    rw [o ⟨h1, h2⟩, ← h t i j hb hl]
    refine hv _ (fun q => ?_) (fun q => ?_)
    · have hb' : Bx 9 (nK N) (ixF t i j - (93 + 14 * nK N)) := bx9 h24 (by omega)
      have := ixF_inj hb hb' (by show _ = 93 + 14 * nK N + _; omega)
      exact h1 ⟨this.1, this.2.1⟩
    · have := ixF_inj hb (bx2 (j := 6) (by decide) (by decide)) q
      exact h2 ⟨this.1, this.2.2⟩
  intro t i j hb hl
  have hl2 := hl.2
  rcases hl.1 with ⟨rfl, rfl, p, q⟩ | ⟨rfl, rfl, p⟩ | ⟨rfl, p, q⟩ | ⟨rfl, p, q⟩ | ⟨rfl, p, q⟩
  · by_cases e : j = 6
    · subst e
      have : addKN N a f w 2 0 6 = nI (nK N + 1) := by simp [addKN, nset_ap]
      rw [this]
      exact h8
    · exact old 2 0 j hb ⟨Or.inl ⟨rfl, rfl, p, q⟩, fun z => absurd z (by decide)⟩ (by simp) (fun z => e z.2)
  · exact old 3 0 j hb ⟨Or.inr (Or.inl ⟨rfl, rfl, p⟩), fun z => absurd z (by decide)⟩ (by simp) (by simp)
  · rw [nRe] at p
    exact old 7 i j hb ⟨Or.inr (Or.inr (Or.inl ⟨rfl, p, q⟩)), fun z => absurd z (by decide)⟩ (by simp) (by simp)
  · rw [nCe] at p
    exact old 8 i j hb ⟨Or.inr (Or.inr (Or.inr (Or.inl ⟨rfl, p, q⟩))), fun z => absurd z (by decide)⟩ (by simp) (by simp)
  · rw [addKN_nK (by omega)] at p
    by_cases e : i = nK N
    · subst e
      have h4 : ¬ j = 4 := fun z => by
        have := hl2 rfl z
        have c3 := addKN_c (N := N) (a := a) (f := f) (w := w) (j := 3) (by decide)
        simp only [Nat.reduceEqDiff, if_true, if_false, reduceIte] at c3
        rw [c3] at this
        exact absurd this (by decide)
      rw [addKN_c q]
      show v' (93 + 14 * nK N + j) = _
      rw [hc j q h4, if_neg h4]
    · refine old 9 i j hb ⟨Or.inr (Or.inr (Or.inr (Or.inr ⟨rfl, by omega, q⟩))), fun _ z => ?_⟩ (fun z => e z.2) (by simp)
      have := hl2 rfl z
      rwa [o ⟨fun z => e z.2, by simp⟩] at this
/-- settings, visits, sessions -/
theorem ok_setg {N : Nu} (hO : Ok N) {j : Nat} {y : Int32} (hy : ¬ y < 0) : Ok (nset N 3 0 j y) := by
  have hs : Sm N (nset N 3 0 j y) := Sm.rfl'.nt (by decide)
  have h9 : nset N 3 0 j y 9 = N 9 := by funext a b; exact ns_t (by decide)
  have h8 : nset N 3 0 j y 8 = N 8 := by funext a b; exact ns_t (by decide)
  have h7 : nset N 3 0 j y 7 = N 7 := by funext a b; exact ns_t (by decide)
  refine ⟨⟨hs.bd hO.1.1, by rw [hs.nC]; exact hO.1.2⟩, fun i hi => ?_, fun i hi => ?_, ⟨fun i hi => ?_, fun i hi => ?_⟩, fun i hi => ?_, fun k hk => ?_⟩
  · rw [hs.nK] at hi
    rw [h9, hs.nR]
    exact hO.2.1 i hi
  · rw [hs.nR] at hi
    rw [h7]
    exact hO.2.2.1 i hi
  · rw [hs.nC] at hi
    rw [h8]
    exact hO.2.2.2.1.1 i hi
  · rw [hs.nR] at hi
    rw [h7]
    exact hO.2.2.2.1.2 i hi
  · rw [hs.nK] at hi
    rw [h9]
    exact hO.2.2.2.2.1 i hi
  · rw [nset_ap]
    split
    · exact hy
    · exact hO.2.2.2.2.2 k hk
theorem ok_vst {N : Nu} (hO : Ok N) {c s : Nat} (hc : c < nK N) (hs : s < 10) (h3 : N 9 c 3 = 1) : Ok (nset N 9 c 8 (nI s)) := by
  have hsm : Sm N (nset N 9 c 8 (nI s)) := Sm.rfl'.nt (by decide)
  refine ok_kid (c := c) hO hsm (by funext a b; exact ns_t (by decide)) (by funext a b; exact ns_t (by decide)) (by funext a b; exact ns_t (by decide)) (fun i hi => by funext b; exact ns_i hi) ?_
  have h := hO.k1 hc
  unfold K1 at h ⊢
  rw [hsm.nR, ns_s, ns_j (j' := 3) (by decide), ns_j (j' := 4) (by decide), ns_j (j' := 5) (by decide), ns_j (j' := 6) (by decide), ns_j (j' := 13) (by decide)]
  exact ⟨h.1, h.2.1, h.2.2.1, fun q => absurd h3 q, Or.inr ⟨s, hs, rfl⟩, h.2.2.2.2.2⟩
theorem pl_vst {N : Nu} (hP : Pl N) {c s : Nat} (h6 : N 9 c 6 = 0) : Pl (nset N 9 c 8 (nI s)) := by
  intro i hi q
  rw [(Sm.rfl'.nt (by decide) : Sm N (nset N 9 c 8 (nI s))).nK] at hi
  rw [ns_j (by decide)] at q
  by_cases e : i = c
  · subst e
    exact absurd h6 q
  · rw [ns_i e]
    exact hP i hi q
theorem ok_ses {N : Nu} (hO : Ok N) {c : Nat} (hc : c < nK N) (h3 : N 9 c 3 = 1) {x : Int32} (hx : ∀ j, j < 32 → Has x (nI j) → j < 10) : Ok (nset N 9 c 5 x) := by
  have hsm : Sm N (nset N 9 c 5 x) := Sm.rfl'.nt (by decide)
  refine ok_kid (c := c) hO hsm (by funext a b; exact ns_t (by decide)) (by funext a b; exact ns_t (by decide)) (by funext a b; exact ns_t (by decide)) (fun i hi => by funext b; exact ns_i hi) ?_
  have h := hO.k1 hc
  unfold K1 at h ⊢
  rw [hsm.nR, ns_s, ns_j (j' := 3) (by decide), ns_j (j' := 4) (by decide), ns_j (j' := 8) (by decide), ns_j (j' := 6) (by decide), ns_j (j' := 13) (by decide)]
  exact ⟨⟨h.1.1, fun q => absurd h3 q⟩, h.2.1, h.2.2.1, h.2.2.2.1, h.2.2.2.2.1, hx, h.2.2.2.2.2.2⟩
theorem pl_ses {N : Nu} (hP : Pl N) {c : Nat} {x : Int32} : Pl (nset N 9 c 5 x) := pl_of hP (ns_t (by decide)) (fun _ => ns_j (by decide)) (fun _ => ns_j (by decide))
theorem has_xor {x y : Int32} {j : Nat} (hj : j < 32) : Has (x ^^^ y) (nI j) ↔ ¬ (Has x (nI j) ↔ Has y (nI j)) := by
  rw [has_bit hj, has_bit hj, has_bit hj, bt_xor]
  cases bq x j <;> cases bq y j <;> decide
theorem both_lt {s t j : Nat} (hs : s < 10) (ht : t < 10) (hj : j < 32) (h : Has (bothI s t) (nI j)) : j < 10 := by
  have h2 := (has_or hj).mp h
  rw [has_one (by omega) hj, has_one (by omega) hj] at h2
  omega
theorem xor_lt {x : Int32} {s t : Nat} (hs : s < 10) (ht : t < 10) (hx : ∀ j, j < 32 → Has x (nI j) → j < 10) : ∀ j, j < 32 → Has (x ^^^ bothI s t) (nI j) → j < 10 := by
  intro j hj q
  rw [has_xor hj] at q
  by_cases a : Has x (nI j)
  · exact hx j hj a
  · by_cases b : Has (bothI s t) (nI j)
    · exact both_lt hs ht hj b
    · exact absurd ⟨fun z => absurd z a, fun z => absurd z b⟩ q
theorem ok_exc {N : Nu} (hO : Ok N) {a s b t : Nat} (ha : a < nK N) (hs : s < 10) (hb : b < nK N) (ht : t < 10) (ne : ¬ a = b) (hcan : canP N a s b t) : Ok (excN N a s b t) := by
  have h5 := hO.1.1.1.2
  have pa := (hO.2.1.room h5 ha (by omega) hcan.1).1
  have pb := (hO.2.1.room h5 hb (by omega) hcan.2.2.1).1
  unfold excN
  have o1 := ok_ses hO ha pa (xor_lt hs ht (hO.k1 ha).2.2.2.2.2.1)
  refine ok_ses o1 (by rw [(Sm.rfl'.nt (by decide) : Sm N (nset N 9 a 5 _)).nK]; exact hb) (by rw [ns_j (by decide)]; exact pb) (xor_lt hs ht (hO.k1 hb).2.2.2.2.2.1)
theorem give_x {x : Int32} {s : Nat} (hs : s < 32) (h : Has x (nI s)) : x ^^^ (1 <<< (nI s &&& 31)) = dropI x s := by
  refine has_ext fun j hj => ?_
  rw [has_drop hs hj, has_xor hj, has_one hs hj]
  by_cases e : j = s
  · subst e
    exact ⟨fun q => absurd ⟨fun _ => rfl, fun _ => h⟩ q, fun q => absurd rfl q.2⟩
  · refine ⟨fun q => ⟨?_, e⟩, fun q z => e (z.mp q.1)⟩
    by_cases a : Has x (nI j)
    · exact a
    · exact absurd ⟨fun z => absurd z a, fun z => absurd z e⟩ q
theorem ok_give {N : Nu} (hO : Ok N) {c s : Nat} (hc : c < nK N) (hs : s < 10) (h : Has (N 9 c 5) (nI s)) : Ok (nset N 9 c 5 (dropI (N 9 c 5) s)) :=
  ok_ses hO hc (hO.2.1.room hO.1.1.1.2 hc (by omega) h).1 (fun j hj q => (hO.k1 hc).2.2.2.2.2.1 j hj ((has_drop (by omega) hj).mp q).1)
