/-! THE FIRST MEMORY: what the constructors leave -/
def mem0 : Mm := fun o => match o.1 with
  | 3 => stV
  | _ => fun _ => 0
def cfF (g : Wg) (cf : Nat → va_E) : Nat → va_E := naC g 0 (fsN g 0) 2 cf
theorem cfF_0 {g : Wg} {cf : Nat → va_E} : cfF g cf 0 = .inr (0, fsN g 0) := by
  unfold cfF
  rw [naC_0]
theorem cfF_n {g : Wg} {cf : Nat → va_E} {r : Nat} (h0 : 0 < r) (h : r < 525) : cfF g cf r = naB g 0 2 r := by
  unfold cfF
  have e := naC_at (g := g) (b := 0) (a := 2) (r := r) (fs := fsN g 0) (cf := cf) h0
  rw [Nat.zero_add] at e
  exact e
theorem naB_st {g : Wg} {k r : Nat} (hk : k < 11) (hr : r < 47) : naB g 0 2 (sbO k + r) = stB g (sbO k) 42 r := by
  unfold naB
  by_cases h0 : k = 0
  · subst h0
    rw [show sbO 0 = 1 from rfl, if_pos (by omega), show 1 + r - 1 = r by omega]
  by_cases h1 : k = 1
  · subst h1
    rw [show sbO 1 = 48 from rfl, if_neg (by omega), if_pos (by omega), show 48 + r - 48 = r by omega]
  by_cases h9 : k = 9
  · subst h9
    rw [show sbO 9 = 427 from rfl, if_neg (by omega), if_neg (by omega), if_neg (by omega), if_neg (by omega), if_pos (by omega), show 427 + r - 427 = r by omega]
  by_cases h10 : k = 10
  · subst h10
    rw [show sbO 10 = 474 from rfl, if_neg (by omega), if_neg (by omega), if_neg (by omega), if_neg (by omega), if_neg (by omega), if_pos (by omega), show 474 + r - 474 = r by omega]
  have e : sbO k = 0 + 95 + 2 + 47 * (k - 2) := by
    unfold sbO
    rw [if_neg (by omega), if_pos (by omega)]
    omega
  rw [if_neg (by omega), if_neg (by omega), if_pos (by omega), show sbO k + r - 95 = 2 + 47 * (k - 2) + r by omega, hiB_st hr, ← e]
theorem sbO_lt {k : Nat} (hk : k < 11) : 0 < sbO k ∧ sbO k + 47 ≤ 521 := by
  unfold sbO
  constructor
  · split
    · omega
    · split <;> omega
  · split
    · omega
    · split <;> omega
theorem cfF_st {g : Wg} {cf : Nat → va_E} {k r : Nat} (hk : k < 11) (hr : r < 47) : cfF g cf (sbO k + r) = stB g (sbO k) 42 r := by
  have := sbO_lt hk
  rw [cfF_n (by omega) (by omega), naB_st hk hr]
theorem at_q {D : va_G} {cl : List vw_C} {a n : Nat} {cA : ClassId} {f f' : Nat → Option Nat} {H : Heap} (h : va_at D cl (a, .inl (cA, n, .inr (.inr (.inr (.inr f))))) H) (e : ∀ j, j < n → f j = f' j) : va_at D cl (a, .inl (cA, n, .inr (.inr (.inr (.inr f'))))) H := by
  have h : H[a]? = some (vp_cell cA (n, .inr (.inr (.inr (.inr f))))) := h
  show H[a]? = some (vp_cell cA (n, .inr (.inr (.inr (.inr f')))))
  rw [h, vp_cell_q, vp_cell_q]
  unfold arrV
  congr 2
  refine congrArg Array.ofFn (funext fun j => ?_)
  show va_rf (f j.val) = va_rf (f' j.val)
  rw [e j.val j.isLt]
set_option maxHeartbeats 4000000 in
theorem fin_at {g : Wg} {cf : Nat → va_E} {H : Heap} (h : ∀ i, i < 525 → va_at (gD g) clsL (gB g + i, cfF g cf i) H) {t k i : Nat} (ho : okO t k i = true) : va_at (gD g) clsL (adO g t k i, cellO g mem0 (t, k, i)) H := by
  obtain ⟨ht, hk, hi⟩ := okO_lt ho
  have hs : ∀ r, r < 47 → k < 11 → va_at (gD g) clsL (gB g + (sbO k + r), stB g (sbO k) 42 r) H := fun r hr hk => by
    have := sbO_lt hk
    rw [← cfF_st (cf := cf) hk hr]
    exact h _ (by omega)
  rcases (show t = 0 ∨ t = 1 ∨ t = 2 ∨ t = 3 ∨ t = 4 ∨ t = 5 ∨ t = 6 ∨ t = 7 ∨ t = 8 ∨ t = 9 ∨ t = 10 ∨ t = 11 ∨ t = 12 ∨ t = 13 ∨ t = 14 ∨ t = 15 ∨ t = 16 ∨ t = 17 ∨ t = 18 ∨ t = 19 by omega) with rfl | rfl | rfl | rfl | rfl | rfl | rfl | rfl | rfl | rfl | rfl | rfl | rfl | rfl | rfl | rfl | rfl | rfl | rfl | rfl
  · cases ho
  · obtain ⟨rfl, rfl⟩ : k = 0 ∧ i = 0 := by simpa [okO] using ho
    have h0 := h 0 (by omega)
    rw [cfF_0] at h0
    exact h0
  · obtain ⟨-, rfl⟩ : k < 11 ∧ i = 0 := by simpa [okO, Nat.blt, Nat.succ_le_iff] using ho
    exact hs 0 (by omega) hk
  · obtain ⟨-, rfl⟩ : k < 11 ∧ i = 0 := by simpa [okO, Nat.blt, Nat.succ_le_iff] using ho
    exact hs 1 (by omega) hk
  · obtain ⟨-, rfl⟩ : k < 11 ∧ i = 0 := by simpa [okO, Nat.blt, Nat.succ_le_iff] using ho
    exact at_q (hs 2 (by omega) hk) (fun j hj => (if_pos (by have hj : j < 5 := hj; omega)).trans (congrArg (fun z => some (gB g + z)) (show sbO k + 5 + j = ordO 7 k j from rfl)))
  · obtain ⟨-, rfl⟩ : k < 11 ∧ i = 0 := by simpa [okO, Nat.blt, Nat.succ_le_iff] using ho
    exact at_q (hs 3 (by omega) hk) (fun j hj => (if_pos (by have hj : j < 13 := hj; omega)).trans (congrArg (fun z => some (gB g + z)) (show sbO k + 10 + j = ordO 8 k j from rfl)))
  · obtain ⟨-, rfl⟩ : k < 11 ∧ i = 0 := by simpa [okO, Nat.blt, Nat.succ_le_iff] using ho
    exact at_q (hs 4 (by omega) hk) (fun j hj => (if_pos (by have hj : j < 24 := hj; omega)).trans (congrArg (fun z => some (gB g + z)) (show sbO k + 23 + j = ordO 9 k j from rfl)))
  · obtain ⟨-, h5⟩ : k < 11 ∧ i < 5 := by simpa [okO, Nat.blt, Nat.succ_le_iff] using ho
    have h1 := hs (5 + i) (by omega) hk
    rw [stB_5, if_pos h5, show sbO k + (5 + i) = sbO k + 5 + i by omega] at h1
    exact h1
  · obtain ⟨-, h5⟩ : k < 11 ∧ i < 13 := by simpa [okO, Nat.blt, Nat.succ_le_iff] using ho
    have h1 := hs (5 + (5 + i)) (by omega) hk
    rw [stB_5, if_neg (by omega), if_pos (by omega), show sbO k + (5 + (5 + i)) = sbO k + 10 + i by omega] at h1
    exact h1
  · obtain ⟨-, h5⟩ : k < 11 ∧ i < 24 := by simpa [okO, Nat.blt, Nat.succ_le_iff] using ho
    have h1 := hs (5 + (18 + i)) (by omega) hk
    rw [stB_5, if_neg (by omega), if_neg (by omega), show sbO k + (5 + (18 + i)) = sbO k + 23 + i by omega] at h1
    exact h1
  · obtain ⟨rfl, rfl⟩ : k = 0 ∧ i = 0 := by simpa [okO] using ho
    have h0 := h 95 (by omega)
    rw [cfF_n (by omega) (by omega)] at h0
    exact h0
  · obtain ⟨rfl, rfl⟩ : k = 0 ∧ i = 0 := by simpa [okO] using ho
    have h0 := h 96 (by omega)
    rw [cfF_n (by omega) (by omega)] at h0
    refine at_q (f := fun q => if q < 7 ∧ q < 7 then some (gB g + (0 + 95 + 2 + 47 * q)) else none) h0 (fun j hj => (if_pos (by have hj : j < 7 := hj; omega)).trans (congrArg (fun z => some (gB g + z)) ?_))
    show 0 + 95 + 2 + 47 * j = sbO (2 + j)
    unfold sbO
    rw [if_neg (by omega), if_pos (by have hj : j < 7 := hj; omega)]
    omega
  · obtain ⟨rfl, rfl⟩ : k = 0 ∧ i = 0 := by simpa [okO] using ho
    have h0 := h 426 (by omega)
    rw [cfF_n (by omega) (by omega)] at h0
    refine at_q (f := fun q => if q < 2 ∧ q < 2 then some (gB g + (0 + 427 + 47 * q)) else none) h0 (fun j hj => (if_pos (by have hj : j < 2 := hj; omega)).trans (congrArg (fun z => some (gB g + z)) ?_))
    show 0 + 427 + 47 * j = sbO (9 + j)
    unfold sbO
    rw [if_neg (by omega), if_neg (by omega)]
    omega
  · obtain ⟨rfl, rfl⟩ : k = 0 ∧ i = 0 := by simpa [okO] using ho
    have h0 := h 521 (by omega)
    rw [cfF_n (by omega) (by omega)] at h0
    exact h0
  · obtain ⟨rfl, rfl⟩ : k = 0 ∧ i = 0 := by simpa [okO] using ho
    have h0 := h 522 (by omega)
    rw [cfF_n (by omega) (by omega)] at h0
    exact h0
  · obtain ⟨rfl, rfl⟩ : k = 0 ∧ i = 0 := by simpa [okO] using ho
    have h0 := h 523 (by omega)
    rw [cfF_n (by omega) (by omega)] at h0
    exact h0
  · obtain ⟨rfl, rfl⟩ : k = 0 ∧ i = 0 := by simpa [okO] using ho
    have h0 := h 524 (by omega)
    rw [cfF_n (by omega) (by omega)] at h0
    exact h0
  · cases ho
  · cases ho
  · cases ho
set_option maxRecDepth 100000 in
theorem allR_ok : allR.all (fun o => okO o.1 o.2.1 o.2.2) = true := by decide +kernel
theorem fin_P {g : Wg} {cf : Nat → va_E} {H : Heap} (h : va_P (gD g) clsL (wf g 525 (cfF g cf)) H) : va_P (gD g) clsL (wsO g mem0) H := by
  intro n q hq
  unfold wsO at hq
  rw [List.getElem?_map] at hq
  cases ho : allR[n]? with
  | none => rw [ho] at hq; cases hq
  | some o =>
    rw [ho] at hq
    cases hq
    exact fin_at (fun i hi => h i _ (wf_at hi)) (List.all_eq_true.mp allR_ok o (List.mem_of_getElem? ho))
