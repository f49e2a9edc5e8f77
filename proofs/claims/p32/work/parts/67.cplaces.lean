/-! THE CLASS'S CONSTRUCTOR -/
def naB (g : Wg) (b a : Nat) (r : Nat) : va_E :=
  if r < 48 then stB g (b + 1) 42 (r - 1) else if r < 95 then stB g (b + 48) 42 (r - 48) else if r < 426 then hiB g (b + 95) 7 (r - 95)
  else if r = 426 then .inl (gC g 6, 2, .inr (.inr (.inr (.inr (fun q => if q < 2 ∧ q < a then some (gB g + (b + 427 + 47 * q)) else none)))))
  else if r < 474 then stB g (b + 427) 42 (r - 427) else if r < 521 then stB g (b + 474) 42 (r - 474) else if r = 521 then .inl (gC g 1, 2, .inl (fun _ => 0))
  else [.inr (6, [.ref (gB g + (b + 522 + 1)), .int 0, .int 0, .int 0, .ref (gB g + (b + 522 + 2)), .int 0]), .inl (gC g 2, 80, .inl (fun _ => 0)), .inl (gC g 0, 4, .inl (fun _ => 0))].getD (r - 522) (.inr (0, []))
def naC (g : Wg) (b : Nat) (fs : List Value) (a : Nat) (cf : Nat → va_E) : Nat → va_E := fun i => if i < b then cf i else if i = b then .inr (0, fs) else naB g b a (i - b)
theorem naC_0 {g : Wg} {b a : Nat} {fs : List Value} {cf : Nat → va_E} : naC g b fs a cf b = .inr (0, fs) := by
  unfold naC
  rw [if_neg (by omega), if_pos rfl]
theorem naC_at {g : Wg} {b a r : Nat} {fs : List Value} {cf : Nat → va_E} (h : 0 < r) : naC g b fs a cf (b + r) = naB g b a r := by
  unfold naC
  rw [if_neg (by omega), if_neg (by omega), Nat.add_sub_cancel_left]
theorem na_put {g : Wg} {b a i : Nat} {fs fs' : List Value} {cf : Nat → va_E} : cup (naC g b fs a cf) b (.inr (0, fs')) i = naC g b fs' a cf i := by
  unfold cup
  by_cases h : i = b
  · rw [if_pos h, h, naC_0]
  · rw [if_neg h]
    unfold naC
    by_cases h2 : i < b
    · rw [if_pos h2, if_pos h2]
    · rw [if_neg h2, if_neg h2, if_neg h, if_neg h]
/-- a block laid at place b + r over the world before -/
theorem na_lay {g : Wg} {b a r z i : Nat} {fs : List Value} {cf nf : Nat → va_E} (h0 : 0 < r) (hlo : ∀ i, i < b + r → nf i = naC g b fs a cf i) (hhi : ∀ k, k < z → nf (b + r + k) = naB g b a (r + k)) (hi : i < b + r + z) : nf i = naC g b fs a cf i := by
  by_cases h : i < b + r
  · exact hlo i h
  · obtain ⟨k, rfl⟩ : ∃ k, i = b + r + k := ⟨i - (b + r), by omega⟩
    rw [hhi k (by omega), Nat.add_assoc, naC_at (by omega)]
theorem na_1 {g : Wg} {b a i : Nat} {fs : List Value} {cf : Nat → va_E} {e : va_E} (hi : i < b + 1 + 47) : stC g (b + 1) 42 (cup (naC g b fs a cf) (b + 1) e) i = naC g b fs a cf i := by
  refine na_lay (r := 1) (z := 47) (by decide) (fun i h => stC_cup h) (fun k hk => ?_) hi
  rw [stC_at]
  unfold naB
  rw [if_pos (by omega), show 1 + k - 1 = k by omega]
theorem na_2 {g : Wg} {b a i : Nat} {fs : List Value} {cf : Nat → va_E} {e : va_E} (hi : i < b + 48 + 47) : stC g (b + 48) 42 (cup (naC g b fs a cf) (b + 48) e) i = naC g b fs a cf i := by
  refine na_lay (r := 48) (z := 47) (by decide) (fun i h => stC_cup h) (fun k hk => ?_) hi
  rw [stC_at]
  unfold naB
  rw [if_neg (by omega), if_pos (by omega), show 48 + k - 48 = k by omega]
theorem na_3 {g : Wg} {b a i : Nat} {fs : List Value} {cf : Nat → va_E} {e : va_E} (hi : i < b + 95 + 331) : hiC g (b + 95) 7 (cup (naC g b fs a cf) (b + 95) e) i = naC g b fs a cf i := by
  refine na_lay (r := 95) (z := 331) (by decide) (fun i h => ?_) (fun k hk => ?_) hi
  · unfold hiC cup
    rw [if_pos h, if_neg (by omega)]
  · rw [hiC_at]
    unfold naB
    rw [if_neg (by omega), if_neg (by omega), if_pos (by omega), show 95 + k - 95 = k by omega]
theorem na_4 {g : Wg} {b i : Nat} {fs : List Value} {cf : Nat → va_E} (hi : i < b + 426 + 1) : cup (naC g b fs 0 cf) (b + 426) (.inl (gC g 6, 2, .inr (.inr (.inr (.inr (fun _ => none)))))) i = naC g b fs 0 cf i := by
  refine na_lay (r := 426) (z := 1) (by decide) (fun i h => if_neg (by omega)) (fun k hk => ?_) hi
  have hk : k = 0 := by omega
  subst hk
  unfold cup naB
  rw [if_pos rfl, if_neg (by omega), if_neg (by omega), if_neg (by omega), if_pos rfl]
  refine congrArg (fun f => (.inl (gC g 6, 2, .inr (.inr (.inr (.inr f)))) : va_E)) (funext fun q => ?_)
  exact (if_neg (by omega)).symm
theorem na_5 {g : Wg} {b a i : Nat} {fs : List Value} {cf : Nat → va_E} {e : va_E} (hi : i < b + 427 + 47) : stC g (b + 427) 42 (cup (naC g b fs a cf) (b + 427) e) i = naC g b fs a cf i := by
  refine na_lay (r := 427) (z := 47) (by decide) (fun i h => stC_cup h) (fun k hk => ?_) hi
  rw [stC_at]
  unfold naB
  rw [if_neg (by omega), if_neg (by omega), if_neg (by omega), if_neg (by omega), if_pos (by omega), show 427 + k - 427 = k by omega]
theorem na_6 {g : Wg} {b a i : Nat} {fs : List Value} {cf : Nat → va_E} {e : va_E} (hi : i < b + 474 + 47) : stC g (b + 474) 42 (cup (naC g b fs a cf) (b + 474) e) i = naC g b fs a cf i := by
  refine na_lay (r := 474) (z := 47) (by decide) (fun i h => stC_cup h) (fun k hk => ?_) hi
  rw [stC_at]
  unfold naB
  rw [if_neg (by omega), if_neg (by omega), if_neg (by omega), if_neg (by omega), if_neg (by omega), if_pos (by omega), show 474 + k - 474 = k by omega]
theorem na_7 {g : Wg} {b a i : Nat} {fs : List Value} {cf : Nat → va_E} (hi : i < b + 521 + 1) : cup (naC g b fs a cf) (b + 521) (.inl (gC g 1, 2, .inl (fun _ => 0))) i = naC g b fs a cf i := by
  refine na_lay (r := 521) (z := 1) (by decide) (fun i h => if_neg (by omega)) (fun k hk => ?_) hi
  have hk : k = 0 := by omega
  subst hk
  unfold cup naB
  rw [if_pos rfl, if_neg (by omega), if_neg (by omega), if_neg (by omega), if_neg (by omega), if_neg (by omega), if_neg (by omega), if_pos rfl]
theorem na_8 {g : Wg} {b a i : Nat} {fs : List Value} {cf : Nat → va_E} {e : va_E} (hi : i < b + 522 + 3) : bl (b + 522) [.inr (6, [.ref (gB g + (b + 522 + 1)), .int 0, .int 0, .int 0, .ref (gB g + (b + 522 + 2)), .int 0]), .inl (gC g 2, 80, .inl (fun _ => 0)), .inl (gC g 0, 4, .inl (fun _ => 0))] (cup (naC g b fs a cf) (b + 522) e) i = naC g b fs a cf i := by
  refine na_lay (r := 522) (z := 3) (by decide) (fun i h => ?_) (fun k hk => ?_) hi
  · unfold bl cup
    rw [if_pos h, if_neg (by omega)]
  · unfold bl naB
    rw [if_neg (by omega), if_neg (by omega), if_neg (by omega), if_neg (by omega), if_neg (by omega), if_neg (by omega), if_neg (by omega), if_neg (by omega), show b + 522 + k - (b + 522) = k by omega, show 522 + k - 522 = k by omega]
theorem na_up {g : Wg} {b t i : Nat} {fs : List Value} {cf : Nat → va_E} {x : Int32} (hx : x.toNatClampNeg = t) (ht : t < 2) : cup (naC g b fs t cf) (b + 426) (.inl (gC g 6, 2, .inr (.inr (.inr (.inr (va_up (fun q => if q < 2 ∧ q < t then some (gB g + (b + 427 + 47 * q)) else none) x.toNatClampNeg (some (gB g + (b + 427 + 47 * t))))))))) i = naC g b fs (t + 1) cf i := by
  unfold cup
  by_cases h : i = b + 426
  · rw [if_pos h, h, naC_at (by decide)]
    unfold naB
    rw [if_neg (by omega), if_neg (by omega), if_neg (by omega), if_pos rfl]
    refine congrArg (fun f => (.inl (gC g 6, 2, .inr (.inr (.inr (.inr f)))) : va_E)) (funext fun q => ?_)
    unfold va_up
    rw [hx]
    by_cases hq : q = t
    · rw [if_pos hq, if_pos (by omega), hq]
    · rw [if_neg hq]
      exact ifp_c (by omega)
  · rw [if_neg h]
    unfold naC
    by_cases h2 : i < b
    · rw [if_pos h2, if_pos h2]
    · rw [if_neg h2, if_neg h2]
      by_cases h3 : i = b
      · rw [if_pos h3, if_pos h3]
      · rw [if_neg h3, if_neg h3]
        unfold naB
        rw [if_neg (show ¬ i - b = 426 by omega), if_neg (show ¬ i - b = 426 by omega)]
theorem na_h {g : Wg} {b a : Nat} {fs : List Value} {cf : Nat → va_E} : naC g b fs a cf (b + 427) = stB g (b + 427) 42 0 ∧ naC g b fs a cf (b + 474) = stB g (b + 474) 42 0 ∧ naC g b fs a cf (b + 426) = .inl (gC g 6, 2, .inr (.inr (.inr (.inr (fun q => if q < 2 ∧ q < a then some (gB g + (b + 427 + 47 * q)) else none))))) := by
  refine ⟨?_, ?_, ?_⟩
  · rw [naC_at (by decide)]
    unfold naB
    rw [if_neg (by omega), if_neg (by omega), if_neg (by omega), if_neg (by omega), if_pos (by omega)]
  · rw [naC_at (by decide)]
    unfold naB
    rw [if_neg (by omega), if_neg (by omega), if_neg (by omega), if_neg (by omega), if_neg (by omega), if_pos (by omega)]
  · rw [naC_at (by decide)]
    unfold naB
    rw [if_neg (by omega), if_neg (by omega), if_neg (by omega), if_pos rfl]
