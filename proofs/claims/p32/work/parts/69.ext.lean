/-! WHAT LIES OUTSIDE, out of what the Statement says of the start -/
section EXT
variable {A : Array Value} {s : State}
set_option maxHeartbeats 4000000 in
set_option maxRecDepth 100000 in
theorem ext_all (hts : ∀ w ∈ lw_tbl, w.before A s = true) (hgv : (Jvm.Cond.and given_1 narrow_1).before A s = true) {P : Nat → Prop} (hP : ∀ a : Nat, a < s.heap.size → ¬ P a) : ∃ T : Nat → Nat,
    va_Z "NurseryPlaces" "LOWEST_SETTING" "[I" (.ref (T 0)) P s s.heap ∧ va_Z "NurseryPlaces" "HIGHEST_SETTING" "[I" (.ref (T 1)) P s s.heap ∧
    va_T .int (T 0) 5 (fun j => .int (staV 0 j)) P s s.heap ∧ va_T .int (T 1) 5 (fun j => .int (staV 1 j)) P s s.heap := by
  have hs := flat_of_before _ hgv
  obtain ⟨t0, e0, h0⟩ := va_Tof (tm := .static "NurseryPlaces" "LOWEST_SETTING" "[I") (ty := .int) (N := 5) (f := fun j => .int (staV 0 j)) (A := P) (by decide) (hs _ (by decide +kernel)) (va_eqt (hs _ (by decide +kernel))) (fun j hj => by
    rcases (show j = 0 ∨ j = 1 ∨ j = 2 ∨ j = 3 ∨ j = 4 by omega) with rfl | rfl | rfl | rfl | rfl <;> exact va_eqt (hs _ (by decide +kernel))) hP
  obtain ⟨t1, e1, h1⟩ := va_Tof (tm := .static "NurseryPlaces" "HIGHEST_SETTING" "[I") (ty := .int) (N := 5) (f := fun j => .int (staV 1 j)) (A := P) (by decide) (hs _ (by decide +kernel)) (va_eqt (hs _ (by decide +kernel))) (fun j hj => by
    rcases (show j = 0 ∨ j = 1 ∨ j = 2 ∨ j = 3 ∨ j = 4 by omega) with rfl | rfl | rfl | rfl | rfl <;> exact va_eqt (hs _ (by decide +kernel))) hP
  have z0 : va_Z "NurseryPlaces" "LOWEST_SETTING" "[I" (.ref t0) P s s.heap := va_Zref (hts _ (by decide +kernel)) (hts _ (by decide +kernel)) e0 hP
  have z1 : va_Z "NurseryPlaces" "HIGHEST_SETTING" "[I" (.ref t1) P s s.heap := va_Zref (hts _ (by decide +kernel)) (hts _ (by decide +kernel)) e1 hP
  exact ⟨fun n => if n = 0 then t0 else t1, z0, z1, h0, h1⟩
end EXT
