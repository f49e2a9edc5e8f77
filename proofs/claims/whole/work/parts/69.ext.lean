/-! WHAT LIES OUTSIDE, out of what the Statement says of the start -/
section EXT
variable {A : Array Value} {s : State}
theorem ex_lt {T : Nat → Nat} {a0 a1 : Nat} {k v : Nat → Nat} (hT : T = fun n => if n = 0 then a0 else if n = 1 then a1 else if n < 20 then k (n - 10) else v (n - 20)) {i : Nat} (hi : i < 5) : T (10 + i) = k i ∧ T (20 + i) = v i := by
  subst hT
  dsimp only
  rw [if_neg (by omega), if_neg (by omega), if_pos (by omega), if_neg (by omega), if_neg (by omega), if_neg (by omega), show 10 + i - 10 = i by omega, show 20 + i - 20 = i by omega]
  exact ⟨rfl, rfl⟩
set_option maxHeartbeats 4000000 in
set_option maxRecDepth 100000 in
theorem ext_all (hts : ∀ w ∈ lw_tbl, w.before A s = true) (hgv : (Jvm.Cond.and given_1 narrow_1).before A s = true) {P : Nat → Prop} (hP : ∀ a : Nat, a < s.heap.size → ¬ P a) : ∃ (T : Nat → Nat) (F : Option Nat),
    va_Z "NurseryPlaces" "LOWEST_SETTING" "[I" (.ref (T 0)) P s s.heap ∧ va_Z "NurseryPlaces" "HIGHEST_SETTING" "[I" (.ref (T 1)) P s s.heap ∧
    va_T .int (T 0) 5 (fun j => .int (staV 0 j)) P s s.heap ∧ va_T .int (T 1) 5 (fun j => .int (staV 1 j)) P s s.heap ∧
    va_Z "java/lang/String" "COMPACT_STRINGS" "Z" (.int 1) P s s.heap ∧ va_Z "jdk/internal/util/Preconditions" "SIOOBE_FORMATTER" "Ljava/util/function/BiFunction;" (va_rf F) P s s.heap ∧
    vk_S 5 [5, 3, 7, 1, 0] [strB 0, strB 1, strB 2, strB 3, strB 4] (fun i => T (10 + i)) (fun i => T (20 + i)) P s s.heap ∧
    (∀ k, k < 5 → vk_R "NurseryPlaces$Pad" (strP k) (strX k) (T (10 + k)) s) := by
  have hs := flat_of_before _ hgv
  obtain ⟨t0, e0, h0⟩ := va_Tof (tm := .static "NurseryPlaces" "LOWEST_SETTING" "[I") (ty := .int) (N := 5) (f := fun j => .int (staV 0 j)) (A := P) (by decide) (hs _ (by decide +kernel)) (va_eqt (hs _ (by decide +kernel))) (fun j hj => by
    rcases (show j = 0 ∨ j = 1 ∨ j = 2 ∨ j = 3 ∨ j = 4 by omega) with rfl | rfl | rfl | rfl | rfl <;> exact va_eqt (hs _ (by decide +kernel))) hP
  obtain ⟨t1, e1, h1⟩ := va_Tof (tm := .static "NurseryPlaces" "HIGHEST_SETTING" "[I") (ty := .int) (N := 5) (f := fun j => .int (staV 1 j)) (A := P) (by decide) (hs _ (by decide +kernel)) (va_eqt (hs _ (by decide +kernel))) (fun j hj => by
    rcases (show j = 0 ∨ j = 1 ∨ j = 2 ∨ j = 3 ∨ j = 4 by omega) with rfl | rfl | rfl | rfl | rfl <;> exact va_eqt (hs _ (by decide +kernel))) hP
  have z0 : va_Z "NurseryPlaces" "LOWEST_SETTING" "[I" (.ref t0) P s s.heap := va_Zref (hts _ (by decide +kernel)) (hts _ (by decide +kernel)) e0 hP
  have z1 : va_Z "NurseryPlaces" "HIGHEST_SETTING" "[I" (.ref t1) P s s.heap := va_Zref (hts _ (by decide +kernel)) (hts _ (by decide +kernel)) e1 hP
  have z2 : va_Z "java/lang/String" "COMPACT_STRINGS" "Z" (.int 1) P s s.heap := va_Zof (hts _ (by decide +kernel)) (hts _ (by decide +kernel)) (va_eqt (hs _ (by decide +kernel))) hP
  have z3 : ∃ F : Option Nat, va_Z "jdk/internal/util/Preconditions" "SIOOBE_FORMATTER" "Ljava/util/function/BiFunction;" (va_rf F) P s s.heap := by
    rcases va_Zqof (C := "jdk/internal/util/Preconditions") (n := "SIOOBE_FORMATTER") (d := "Ljava/util/function/BiFunction;") (A := P) (hts _ (by decide +kernel)) (hts _ (by decide +kernel)) (hs _ (by decide +kernel)) hP with h | ⟨t, h⟩
    · exact ⟨none, h⟩
    · exact ⟨some t, h⟩
  obtain ⟨F, z3⟩ := z3
  obtain ⟨adK, adV, hS, hev⟩ := vk_Sof (tm := fun i => .string "NurseryPlaces$Pad" (strP i)) (N := 5) (len := [5, 3, 7, 1, 0]) (byt := [strB 0, strB 1, strB 2, strB 3, strB 4]) (A := P) (args := A) (s := s)
    (fun i hi => by rcases (show i = 0 ∨ i = 1 ∨ i = 2 ∨ i = 3 ∨ i = 4 by omega) with rfl | rfl | rfl | rfl | rfl <;> decide)
    (fun i hi => by rcases (show i = 0 ∨ i = 1 ∨ i = 2 ∨ i = 3 ∨ i = 4 by omega) with rfl | rfl | rfl | rfl | rfl <;> exact hs _ (by decide +kernel))
    (fun i hi => by rcases (show i = 0 ∨ i = 1 ∨ i = 2 ∨ i = 3 ∨ i = 4 by omega) with rfl | rfl | rfl | rfl | rfl <;> exact hs _ (by decide +kernel))
    (fun i hi => by rcases (show i = 0 ∨ i = 1 ∨ i = 2 ∨ i = 3 ∨ i = 4 by omega) with rfl | rfl | rfl | rfl | rfl <;> exact hs _ (by decide +kernel))
    (fun i hi => by rcases (show i = 0 ∨ i = 1 ∨ i = 2 ∨ i = 3 ∨ i = 4 by omega) with rfl | rfl | rfl | rfl | rfl <;> exact hs _ (by decide +kernel))
    (fun i hi j hj => by
      rcases (show i = 0 ∨ i = 1 ∨ i = 2 ∨ i = 3 ∨ i = 4 by omega) with rfl | rfl | rfl | rfl | rfl
      · have hj : j < 5 := hj
        rcases (show j = 0 ∨ j = 1 ∨ j = 2 ∨ j = 3 ∨ j = 4 by omega) with rfl | rfl | rfl | rfl | rfl <;> exact hs _ (by decide +kernel)
      · have hj : j < 3 := hj
        rcases (show j = 0 ∨ j = 1 ∨ j = 2 by omega) with rfl | rfl | rfl <;> exact hs _ (by decide +kernel)
      · have hj : j < 7 := hj
        rcases (show j = 0 ∨ j = 1 ∨ j = 2 ∨ j = 3 ∨ j = 4 ∨ j = 5 ∨ j = 6 by omega) with rfl | rfl | rfl | rfl | rfl | rfl | rfl <;> exact hs _ (by decide +kernel)
      · have hj : j < 1 := hj
        rcases (show j = 0 by omega) with rfl
        exact hs _ (by decide +kernel)
      · have hj : j < 0 := hj
        omega)
    (fun i j hi hj hne => by
      rcases (show i = 0 ∨ i = 1 ∨ i = 2 ∨ i = 3 ∨ i = 4 by omega) with rfl | rfl | rfl | rfl | rfl <;> rcases (show j = 0 ∨ j = 1 ∨ j = 2 ∨ j = 3 ∨ j = 4 by omega) with rfl | rfl | rfl | rfl | rfl <;> first | exact absurd rfl hne | exact Or.inl (hs _ (by decide +kernel)) | exact Or.inr (hs _ (by decide +kernel)))
    hP
  obtain ⟨T, hT⟩ : ∃ T : Nat → Nat, T = fun n => if n = 0 then t0 else if n = 1 then t1 else if n < 20 then adK (n - 10) else adV (n - 20) := ⟨_, rfl⟩
  have q0 : T 0 = t0 := by rw [hT]; rfl
  have q1 : T 1 = t1 := by rw [hT]; rfl
  refine ⟨T, F, ?_, ?_, ?_, ?_, z2, z3, ⟨fun i hi => ?_, fun i j hi hj e => ?_⟩, fun k hk => ?_⟩
  · rw [q0]; exact z0
  · rw [q1]; exact z1
  · rw [q0]; exact h0
  · rw [q1]; exact h1
  · obtain ⟨a, b⟩ := ex_lt hT hi
    dsimp only
    rw [a, b]
    exact hS.1 i hi
  · have e : T (10 + i) = T (10 + j) := e
    rw [(ex_lt hT hi).1, (ex_lt hT hj).1] at e
    exact hS.2 i j hi hj e
  · rw [(ex_lt hT hk).1]
    refine vk_R.of (A := A) ?_ ?_
    · rcases (show k = 0 ∨ k = 1 ∨ k = 2 ∨ k = 3 ∨ k = 4 by omega) with rfl | rfl | rfl | rfl | rfl <;> exact hts _ (by decide +kernel)
    · exact hev k hk
end EXT
