/-! THE LAW'S LOOP: from a memory with what holds between calls, the law comes to its end with 1 -/
theorem nI_add1 {i : Nat} : nI i + 1 = nI (i + 1) := by rw [show (1 : Int32) = nI 1 by decide, nI_add]
theorem nI_add2 {i : Nat} : nI i + 2 = nI (i + 2) := by rw [show (2 : Int32) = nI 2 by decide, nI_add]
theorem nI_add3 {i : Nat} : nI i + 3 = nI (i + 3) := by rw [show (3 : Int32) = nI 3 by decide, nI_add]
theorem nI_add4 {i : Nat} : nI i + 4 = nI (i + 4) := by rw [show (4 : Int32) = nI 4 by decide, nI_add]
theorem nI_add5 {i : Nat} : nI i + 5 = nI (i + 5) := by rw [show (5 : Int32) = nI 5 by decide, nI_add]
abbrev Llw (x : Int32) : Lc := [(0, vO 20 0 0), (1, vO 1 0 0), (2, vO 17 0 0), (3, vI x)]
section LAW
variable {g : Wg} {mem : Mm} {b i : Nat} {Q : Option Vl → Mm → Prop}
def Nx (g : Wg) (Q : Option Vl → Mm → Prop) (b i : Nat) : Prop := ∀ m2, Inv (b + 5000) m2 → Go g h_Lw_law Q 1031 (Llw (nI i)) [] m2
theorem lc_164 (hi : i + 5 ≤ (gX g).2.1) (hL : (gX g).2.1 ≤ 2560) (hI : Inv b mem) (h27 : b < 2 ^ 27) (h28 : b < 2 ^ 28) (hN : Nx g Q b i) : Go g h_Lw_law Q 164 (Llw (nI i)) [] mem := by
  have v1 : vp_in (nI i + 1) (gX g).2.1 := by rw [nI_add1]; exact vp_in_nI (by omega) (by omega)
  have v2 : vp_in (nI i + 2) (gX g).2.1 := by rw [nI_add2]; exact vp_in_nI (by omega) (by omega)
  exact b_Lw_law_164 ⟨v1, v2, RunI.mono (B_set hI) fun r1 m1 h1 => ⟨v1, v2, RunI.mono h1 fun r2 m2 h2 => ⟨fun _ => hN m2 (h2.2), fun q => absurd h2.1 q⟩⟩⟩
theorem lc_197 (hi : i + 5 ≤ (gX g).2.1) (hL : (gX g).2.1 ≤ 2560) (hI : Inv b mem) (h27 : b < 2 ^ 27) (h28 : b < 2 ^ 28) (hN : Nx g Q b i) : Go g h_Lw_law Q 197 (Llw (nI i)) [] mem := by
  have v1 : vp_in (nI i + 1) (gX g).2.1 := by rw [nI_add1]; exact vp_in_nI (by omega) (by omega)
  have v2 : vp_in (nI i + 2) (gX g).2.1 := by rw [nI_add2]; exact vp_in_nI (by omega) (by omega)
  have v3 : vp_in (nI i + 3) (gX g).2.1 := by rw [nI_add3]; exact vp_in_nI (by omega) (by omega)
  have v4 : vp_in (nI i + 4) (gX g).2.1 := by rw [nI_add4]; exact vp_in_nI (by omega) (by omega)
  exact b_Lw_law_197 ⟨v1, v2, v3, v4, RunI.mono (B_room hI) fun r1 m1 h1 => ⟨v1, v2, v3, v4, RunI.mono h1 fun r2 m2 h2 => ⟨fun _ => hN m2 (h2.2), fun q => absurd h2.1 q⟩⟩⟩
theorem lc_250 (hi : i + 5 ≤ (gX g).2.1) (hL : (gX g).2.1 ≤ 2560) (hI : Inv b mem) (h27 : b < 2 ^ 27) (h28 : b < 2 ^ 28) (hN : Nx g Q b i) : Go g h_Lw_law Q 250 (Llw (nI i)) [] mem := by
  have v1 : vp_in (nI i + 1) (gX g).2.1 := by rw [nI_add1]; exact vp_in_nI (by omega) (by omega)
  have v2 : vp_in (nI i + 2) (gX g).2.1 := by rw [nI_add2]; exact vp_in_nI (by omega) (by omega)
  have v3 : vp_in (nI i + 3) (gX g).2.1 := by rw [nI_add3]; exact vp_in_nI (by omega) (by omega)
  have v4 : vp_in (nI i + 4) (gX g).2.1 := by rw [nI_add4]; exact vp_in_nI (by omega) (by omega)
  exact b_Lw_law_250 ⟨v1, v2, v3, v4, RunI.mono (B_carer hI) fun r1 m1 h1 => ⟨v1, v2, v3, v4, RunI.mono h1 fun r2 m2 h2 => ⟨fun _ => hN m2 (h2.2), fun q => absurd h2.1 q⟩⟩⟩
theorem lc_303 (hi : i + 5 ≤ (gX g).2.1) (hL : (gX g).2.1 ≤ 2560) (hI : Inv b mem) (h27 : b < 2 ^ 27) (h28 : b < 2 ^ 28) (hN : Nx g Q b i) : Go g h_Lw_law Q 303 (Llw (nI i)) [] mem := by
  have v1 : vp_in (nI i + 1) (gX g).2.1 := by rw [nI_add1]; exact vp_in_nI (by omega) (by omega)
  have v2 : vp_in (nI i + 2) (gX g).2.1 := by rw [nI_add2]; exact vp_in_nI (by omega) (by omega)
  have v3 : vp_in (nI i + 3) (gX g).2.1 := by rw [nI_add3]; exact vp_in_nI (by omega) (by omega)
  exact b_Lw_law_303 ⟨v1, v2, v3, RunI.mono (B_child hI) fun r1 m1 h1 => ⟨v1, v2, v3, RunI.mono h1 fun r2 m2 h2 => ⟨fun _ => hN m2 (h2.2), fun q => absurd h2.1 q⟩⟩⟩
theorem lc_346 (hi : i + 5 ≤ (gX g).2.1) (hL : (gX g).2.1 ≤ 2560) (hI : Inv b mem) (h27 : b < 2 ^ 27) (h28 : b < 2 ^ 28) (hN : Nx g Q b i) : Go g h_Lw_law Q 346 (Llw (nI i)) [] mem := by
  have v1 : vp_in (nI i + 1) (gX g).2.1 := by rw [nI_add1]; exact vp_in_nI (by omega) (by omega)
  exact b_Lw_law_346 ⟨v1, RunI.mono (B_leave hI) fun r1 m1 h1 => ⟨v1, RunI.mono h1 fun r2 m2 h2 => ⟨fun _ => hN m2 (h2.2), fun q => absurd h2.1 q⟩⟩⟩
theorem lc_369 (hi : i + 5 ≤ (gX g).2.1) (hL : (gX g).2.1 ≤ 2560) (hI : Inv b mem) (h27 : b < 2 ^ 27) (h28 : b < 2 ^ 28) (hN : Nx g Q b i) : Go g h_Lw_law Q 369 (Llw (nI i)) [] mem := by
  exact b_Lw_law_369 (RunI.mono (B_admit hI h28) fun r1 m1 h1 => RunI.mono h1 fun r2 m2 h2 => ⟨fun _ => hN m2 (h2.2), fun q => absurd h2.1 q⟩)
theorem lc_382 (hi : i + 5 ≤ (gX g).2.1) (hL : (gX g).2.1 ≤ 2560) (hI : Inv b mem) (h27 : b < 2 ^ 27) (h28 : b < 2 ^ 28) (hN : Nx g Q b i) : Go g h_Lw_law Q 382 (Llw (nI i)) [] mem := by
  have v1 : vp_in (nI i + 1) (gX g).2.1 := by rw [nI_add1]; exact vp_in_nI (by omega) (by omega)
  have v2 : vp_in (nI i + 2) (gX g).2.1 := by rw [nI_add2]; exact vp_in_nI (by omega) (by omega)
  exact b_Lw_law_382 ⟨v1, v2, RunI.mono (B_visit hI) fun r1 m1 h1 => ⟨v1, v2, RunI.mono h1 fun r2 m2 h2 => ⟨fun _ => hN m2 (h2.2), fun q => absurd h2.1 q⟩⟩⟩
theorem lc_415 (hi : i + 5 ≤ (gX g).2.1) (hL : (gX g).2.1 ≤ 2560) (hI : Inv b mem) (h27 : b < 2 ^ 27) (h28 : b < 2 ^ 28) (hN : Nx g Q b i) : Go g h_Lw_law Q 415 (Llw (nI i)) [] mem := by
  have v1 : vp_in (nI i + 1) (gX g).2.1 := by rw [nI_add1]; exact vp_in_nI (by omega) (by omega)
  have v2 : vp_in (nI i + 2) (gX g).2.1 := by rw [nI_add2]; exact vp_in_nI (by omega) (by omega)
  have v3 : vp_in (nI i + 3) (gX g).2.1 := by rw [nI_add3]; exact vp_in_nI (by omega) (by omega)
  have v4 : vp_in (nI i + 4) (gX g).2.1 := by rw [nI_add4]; exact vp_in_nI (by omega) (by omega)
  exact b_Lw_law_415 ⟨v1, v2, v3, v4, RunI.mono (B_swap hI) fun r1 m1 h1 => ⟨v1, v2, v3, v4, RunI.mono h1 fun r2 m2 h2 => ⟨fun _ => hN m2 (h2.2), fun q => absurd h2.1 q⟩⟩⟩
theorem lc_468 (hi : i + 5 ≤ (gX g).2.1) (hL : (gX g).2.1 ≤ 2560) (hI : Inv b mem) (h27 : b < 2 ^ 27) (h28 : b < 2 ^ 28) (hN : Nx g Q b i) : Go g h_Lw_law Q 468 (Llw (nI i)) [] mem := by
  have v1 : vp_in (nI i + 1) (gX g).2.1 := by rw [nI_add1]; exact vp_in_nI (by omega) (by omega)
  have v2 : vp_in (nI i + 2) (gX g).2.1 := by rw [nI_add2]; exact vp_in_nI (by omega) (by omega)
  exact b_Lw_law_468 ⟨v1, v2, RunI.mono (B_giveBack hI) fun r1 m1 h1 => ⟨v1, v2, RunI.mono h1 fun r2 m2 h2 => ⟨fun _ => hN m2 (h2.2), fun q => absurd h2.1 q⟩⟩⟩
theorem lc_501 (hi : i + 5 ≤ (gX g).2.1) (hL : (gX g).2.1 ≤ 2560) (hI : Inv b mem) (h27 : b < 2 ^ 27) (h28 : b < 2 ^ 28) (hN : Nx g Q b i) : Go g h_Lw_law Q 501 (Llw (nI i)) [] mem := by
  have v1 : vp_in (nI i + 1) (gX g).2.1 := by rw [nI_add1]; exact vp_in_nI (by omega) (by omega)
  exact b_Lw_law_501 ⟨v1, RunI.mono (B_sick hI) fun r1 m1 h1 => ⟨v1, RunI.mono h1 fun r2 m2 h2 => ⟨fun _ => hN m2 (h2.2), fun q => absurd h2.1 q⟩⟩⟩
theorem lc_524 (hi : i + 5 ≤ (gX g).2.1) (hL : (gX g).2.1 ≤ 2560) (hI : Inv b mem) (h27 : b < 2 ^ 27) (h28 : b < 2 ^ 28) (hN : Nx g Q b i) : Go g h_Lw_law Q 524 (Llw (nI i)) [] mem := by
  have v1 : vp_in (nI i + 1) (gX g).2.1 := by rw [nI_add1]; exact vp_in_nI (by omega) (by omega)
  exact b_Lw_law_524 ⟨v1, RunI.mono (B_weeks hI h28) fun r1 m1 h1 => ⟨v1, RunI.mono h1 fun r2 m2 h2 => ⟨fun _ => hN m2 (h2.2), fun q => absurd h2.1 q⟩⟩⟩
theorem lc_547 (hi : i + 5 ≤ (gX g).2.1) (hL : (gX g).2.1 ≤ 2560) (hI : Inv b mem) (h27 : b < 2 ^ 27) (h28 : b < 2 ^ 28) (hN : Nx g Q b i) : Go g h_Lw_law Q 547 (Llw (nI i)) [] mem := by
  have v1 : vp_in (nI i + 1) (gX g).2.1 := by rw [nI_add1]; exact vp_in_nI (by omega) (by omega)
  have v2 : vp_in (nI i + 2) (gX g).2.1 := by rw [nI_add2]; exact vp_in_nI (by omega) (by omega)
  exact b_Lw_law_547 ⟨v1, v2, RunI.mono (B_ofRoom hI) fun r1 m1 h1 => ⟨v1, v2, RunI.mono h1 fun r2 m2 h2 => ⟨fun _ => hN m2 (h2.2.mono (by omega)), fun q => absurd h2.1 q⟩⟩⟩
theorem lc_580 (hi : i + 5 ≤ (gX g).2.1) (hL : (gX g).2.1 ≤ 2560) (hI : Inv b mem) (h27 : b < 2 ^ 27) (h28 : b < 2 ^ 28) (hN : Nx g Q b i) : Go g h_Lw_law Q 580 (Llw (nI i)) [] mem := by
  have v1 : vp_in (nI i + 1) (gX g).2.1 := by rw [nI_add1]; exact vp_in_nI (by omega) (by omega)
  have v2 : vp_in (nI i + 2) (gX g).2.1 := by rw [nI_add2]; exact vp_in_nI (by omega) (by omega)
  exact b_Lw_law_580 ⟨v1, v2, RunI.mono (B_ofCarer hI) fun r1 m1 h1 => ⟨v1, v2, RunI.mono h1 fun r2 m2 h2 => ⟨fun _ => hN m2 (h2.2.mono (by omega)), fun q => absurd h2.1 q⟩⟩⟩
theorem lc_613 (hi : i + 5 ≤ (gX g).2.1) (hL : (gX g).2.1 ≤ 2560) (hI : Inv b mem) (h27 : b < 2 ^ 27) (h28 : b < 2 ^ 28) (hN : Nx g Q b i) : Go g h_Lw_law Q 613 (Llw (nI i)) [] mem := by
  have v1 : vp_in (nI i + 1) (gX g).2.1 := by rw [nI_add1]; exact vp_in_nI (by omega) (by omega)
  have v2 : vp_in (nI i + 2) (gX g).2.1 := by rw [nI_add2]; exact vp_in_nI (by omega) (by omega)
  exact b_Lw_law_613 ⟨v1, v2, RunI.mono (B_ofChild hI) fun r1 m1 h1 => ⟨v1, v2, RunI.mono h1 fun r2 m2 h2 => ⟨fun _ => hN m2 (h2.2.mono (by omega)), fun q => absurd h2.1 q⟩⟩⟩
theorem lc_646 (hi : i + 5 ≤ (gX g).2.1) (hL : (gX g).2.1 ≤ 2560) (hI : Inv b mem) (h27 : b < 2 ^ 27) (h28 : b < 2 ^ 28) (hN : Nx g Q b i) : Go g h_Lw_law Q 646 (Llw (nI i)) [] mem := by
  have v1 : vp_in (nI i + 1) (gX g).2.1 := by rw [nI_add1]; exact vp_in_nI (by omega) (by omega)
  exact b_Lw_law_646 ⟨v1, RunI.mono (B_count hI) fun r1 m1 h1 => ⟨v1, RunI.mono h1 fun r2 m2 h2 => ⟨fun _ => hN m2 (h2.2.mono (by omega)), fun q => absurd h2.1 q⟩⟩⟩
theorem lc_669 (hi : i + 5 ≤ (gX g).2.1) (hL : (gX g).2.1 ≤ 2560) (hI : Inv b mem) (h27 : b < 2 ^ 27) (h28 : b < 2 ^ 28) (hN : Nx g Q b i) : Go g h_Lw_law Q 669 (Llw (nI i)) [] mem := by
  have v1 : vp_in (nI i + 1) (gX g).2.1 := by rw [nI_add1]; exact vp_in_nI (by omega) (by omega)
  have v2 : vp_in (nI i + 2) (gX g).2.1 := by rw [nI_add2]; exact vp_in_nI (by omega) (by omega)
  exact b_Lw_law_669 ⟨v1, v2, RunI.mono (B_free hI) fun r1 m1 h1 => ⟨v1, v2, RunI.mono h1 fun r2 m2 h2 => ⟨fun _ => hN m2 (h2.2.mono (by omega)), fun q => absurd h2.1 q⟩⟩⟩
theorem lc_702 (hi : i + 5 ≤ (gX g).2.1) (hL : (gX g).2.1 ≤ 2560) (hI : Inv b mem) (h27 : b < 2 ^ 27) (h28 : b < 2 ^ 28) (hN : Nx g Q b i) : Go g h_Lw_law Q 702 (Llw (nI i)) [] mem := by
  have v1 : vp_in (nI i + 1) (gX g).2.1 := by rw [nI_add1]; exact vp_in_nI (by omega) (by omega)
  exact b_Lw_law_702 ⟨v1, RunI.mono (B_wouldGet hI) fun r1 m1 h1 => ⟨v1, RunI.mono h1 fun r2 m2 h2 => ⟨fun _ => hN m2 (h2.2.mono (by omega)), fun q => absurd h2.1 q⟩⟩⟩
theorem lc_725 (hi : i + 5 ≤ (gX g).2.1) (hL : (gX g).2.1 ≤ 2560) (hI : Inv b mem) (h27 : b < 2 ^ 27) (h28 : b < 2 ^ 28) (hN : Nx g Q b i) : Go g h_Lw_law Q 725 (Llw (nI i)) [] mem := by
  exact b_Lw_law_725 (RunI.mono (B_wouldAdmit hI h28) fun r1 m1 h1 => RunI.mono h1 fun r2 m2 h2 => ⟨fun _ => hN m2 (h2.2.mono (by omega)), fun q => absurd h2.1 q⟩)
theorem lc_738 (hi : i + 5 ≤ (gX g).2.1) (hL : (gX g).2.1 ≤ 2560) (hI : Inv b mem) (h27 : b < 2 ^ 27) (h28 : b < 2 ^ 28) (hN : Nx g Q b i) : Go g h_Lw_law Q 738 (Llw (nI i)) [] mem := by
  have v1 : vp_in (nI i + 1) (gX g).2.1 := by rw [nI_add1]; exact vp_in_nI (by omega) (by omega)
  have v2 : vp_in (nI i + 2) (gX g).2.1 := by rw [nI_add2]; exact vp_in_nI (by omega) (by omega)
  have v3 : vp_in (nI i + 3) (gX g).2.1 := by rw [nI_add3]; exact vp_in_nI (by omega) (by omega)
  exact b_Lw_law_738 ⟨v1, v2, v3, RunI.mono (B_partners hI) fun r1 m1 h1 => ⟨v1, v2, v3, RunI.mono h1 fun r2 m2 h2 => ⟨fun _ => hN m2 (h2.2.mono (by omega)), fun q => absurd h2.1 q⟩⟩⟩
theorem lc_781 (hi : i + 5 ≤ (gX g).2.1) (hL : (gX g).2.1 ≤ 2560) (hI : Inv b mem) (h27 : b < 2 ^ 27) (h28 : b < 2 ^ 28) (hN : Nx g Q b i) : Go g h_Lw_law Q 781 (Llw (nI i)) [] mem := by
  have v1 : vp_in (nI i + 1) (gX g).2.1 := by rw [nI_add1]; exact vp_in_nI (by omega) (by omega)
  exact b_Lw_law_781 ⟨v1, RunI.mono (B_sentHome hI) fun r1 m1 h1 => ⟨v1, RunI.mono h1 fun r2 m2 h2 => ⟨fun _ => hN m2 (h2.2.mono (by omega)), fun q => absurd h2.1 q⟩⟩⟩
theorem lc_804 (hi : i + 5 ≤ (gX g).2.1) (hL : (gX g).2.1 ≤ 2560) (hI : Inv b mem) (h27 : b < 2 ^ 27) (h28 : b < 2 ^ 28) (hN : Nx g Q b i) : Go g h_Lw_law Q 804 (Llw (nI i)) [] mem := by
  have v1 : vp_in (nI i + 1) (gX g).2.1 := by rw [nI_add1]; exact vp_in_nI (by omega) (by omega)
  have v2 : vp_in (nI i + 2) (gX g).2.1 := by rw [nI_add2]; exact vp_in_nI (by omega) (by omega)
  have v3 : vp_in (nI i + 3) (gX g).2.1 := by rw [nI_add3]; exact vp_in_nI (by omega) (by omega)
  have v4 : vp_in (nI i + 4) (gX g).2.1 := by rw [nI_add4]; exact vp_in_nI (by omega) (by omega)
  exact b_Lw_law_804 ⟨v1, v2, v3, v4, RunI.mono (B_moreBy hI) fun r1 m1 h1 => ⟨v1, v2, v3, v4, RunI.mono h1 fun r2 m2 h2 => ⟨fun _ => hN m2 (h2.2.mono (by omega)), fun q => absurd h2.1 q⟩⟩⟩
theorem lc_857 (hi : i + 5 ≤ (gX g).2.1) (hL : (gX g).2.1 ≤ 2560) (hI : Inv b mem) (h27 : b < 2 ^ 27) (h28 : b < 2 ^ 28) (hN : Nx g Q b i) : Go g h_Lw_law Q 857 (Llw (nI i)) [] mem := by
  have v1 : vp_in (nI i + 1) (gX g).2.1 := by rw [nI_add1]; exact vp_in_nI (by omega) (by omega)
  exact b_Lw_law_857 ⟨v1, RunI.mono (B_income hI h28) fun r1 m1 h1 => ⟨v1, RunI.mono h1 fun r2 m2 h2 => ⟨fun _ => hN m2 (h2.2.mono (by omega)), fun q => absurd h2.1 q⟩⟩⟩
theorem lc_880 (hi : i + 5 ≤ (gX g).2.1) (hL : (gX g).2.1 ≤ 2560) (hI : Inv b mem) (h27 : b < 2 ^ 27) (h28 : b < 2 ^ 28) (hN : Nx g Q b i) : Go g h_Lw_law Q 880 (Llw (nI i)) [] mem := by
  have v1 : vp_in (nI i + 1) (gX g).2.1 := by rw [nI_add1]; exact vp_in_nI (by omega) (by omega)
  have v2 : vp_in (nI i + 2) (gX g).2.1 := by rw [nI_add2]; exact vp_in_nI (by omega) (by omega)
  exact b_Lw_law_880 ⟨v1, v2, RunI.mono (B_put hI) fun r1 m1 h1 => ⟨v1, v2, RunI.mono h1 fun r2 m2 h2 => ⟨fun _ => hN m2 (h2.2.mono (by omega)), fun q => absurd h2.1 q⟩⟩⟩
theorem lc_933 (hi : i + 5 ≤ (gX g).2.1) (hL : (gX g).2.1 ≤ 2560) (hI : Inv b mem) (h27 : b < 2 ^ 27) (h28 : b < 2 ^ 28) (hN : Nx g Q b i) : Go g h_Lw_law Q 933 (Llw (nI i)) [] mem := by
  exact b_Lw_law_933 (RunI.mono (B_wipe hI) fun r1 m1 h1 => RunI.mono h1 fun r2 m2 h2 => ⟨fun _ => hN m2 (h2.2.mono (by omega)), fun q => absurd h2.1 q⟩)
theorem lc_946 (hi : i + 5 ≤ (gX g).2.1) (hL : (gX g).2.1 ≤ 2560) (hI : Inv b mem) (h27 : b < 2 ^ 27) (h28 : b < 2 ^ 28) (hN : Nx g Q b i) : Go g h_Lw_law Q 946 (Llw (nI i)) [] mem := by
  exact b_Lw_law_946 (RunI.mono (B_fault hI) fun r1 m1 h1 => RunI.mono h1 fun r2 m2 h2 => ⟨fun _ => hN m2 (h2.2.mono (by omega)), fun q => absurd h2.1 q⟩)
theorem lc_959 (hi : i + 5 ≤ (gX g).2.1) (hL : (gX g).2.1 ≤ 2560) (hI : Inv b mem) (h27 : b < 2 ^ 27) (h28 : b < 2 ^ 28) (hN : Nx g Q b i) : Go g h_Lw_law Q 959 (Llw (nI i)) [] mem := by
  exact b_Lw_law_959 (RunI.mono (B_carryOut hI h27) fun r1 m1 h1 => RunI.mono h1 fun r2 m2 h2 => ⟨fun _ => hN m2 (h2.2), fun q => absurd h2.1 q⟩)
theorem lc_972 (hi : i + 5 ≤ (gX g).2.1) (hL : (gX g).2.1 ≤ 2560) (hI : Inv b mem) (h27 : b < 2 ^ 27) (h28 : b < 2 ^ 28) (hN : Nx g Q b i) : Go g h_Lw_law Q 972 (Llw (nI i)) [] mem := by
  exact b_Lw_law_972 (RunI.mono (B_undo hI) fun r1 m1 h1 => RunI.mono h1 fun r2 m2 h2 => ⟨fun _ => hN m2 (h2.2.mono (by omega)), fun q => absurd h2.1 q⟩)
theorem lc_985 (hi : i + 5 ≤ (gX g).2.1) (hL : (gX g).2.1 ≤ 2560) (hI : Inv b mem) (h27 : b < 2 ^ 27) (h28 : b < 2 ^ 28) (hN : Nx g Q b i) : Go g h_Lw_law Q 985 (Llw (nI i)) [] mem := by
  have v1 : vp_in (nI i + 1) (gX g).2.1 := by rw [nI_add1]; exact vp_in_nI (by omega) (by omega)
  exact b_Lw_law_985 ⟨v1, RunI.mono (B_save hI) fun r1 m1 h1 => ⟨v1, RunI.mono h1 fun r2 m2 h2 => ⟨fun _ => hN m2 (h2.2.mono (by omega)), fun q => absurd h2.1 q⟩⟩⟩
theorem lc_1008 (hi : i + 5 ≤ (gX g).2.1) (hL : (gX g).2.1 ≤ 2560) (hI : Inv b mem) (h27 : b < 2 ^ 27) (h28 : b < 2 ^ 28) (hN : Nx g Q b i) : Go g h_Lw_law Q 1008 (Llw (nI i)) [] mem := by
  have v1 : vp_in (nI i + 1) (gX g).2.1 := by rw [nI_add1]; exact vp_in_nI (by omega) (by omega)
  exact b_Lw_law_1008 ⟨v1, RunI.mono (B_restore hI h28) fun r1 m1 h1 => ⟨v1, RunI.mono h1 fun r2 m2 h2 => ⟨fun _ => hN m2 (h2.2), fun q => absurd h2.1 q⟩⟩⟩
end LAW
theorem lw_past {L i : Nat} (hL : L ≤ 2560) (hi : i ≤ 2560) (h : L < i + 5) : Int32.ofNat L - 5 < nI i := by
  rcases Nat.lt_or_ge L 5 with q | q
  · have h0 : Int32.ofNat L - 5 < 0 := (by decide : ∀ L < 5, Int32.ofNat L - 5 < 0) L q
    exact Int32.lt_of_lt_of_le h0 (nI_pos' (by omega))
  · have e : Int32.ofNat L - 5 = nI (L - 5) := by
      show nI L - 5 = nI (L - 5)
      have e2 : nI (L - 5) + 5 = nI L := by rw [nI_add5]; congr 1; omega
      rw [← e2]
      exact Int32.add_sub_cancel _ _
    rw [e]
    exact nI_lt (by omega) (by omega)
theorem lw_loop {g : Wg} {Q : Option Vl → Mm → Prop} (hL : (gX g).2.1 ≤ 2560) (hQ : ∀ m, Q (some (vI 1)) m) : ∀ (n j : Nat) (mem : Mm), j + n = 513 → 5 * j ≤ (gX g).2.1 → Inv (5000 * j) mem → Go g h_Lw_law Q 18 (Llw (nI (5 * j))) [] mem := by
  intro n
  induction n with
  | zero => exact fun j mem h1 h2 => absurd h2 (by omega)
  | succ n ih =>
    intro j mem hj h5 hI
    refine b_Lw_law_18 ⟨fun _ => ⟨Or.inr rfl, hQ mem⟩, fun q => ?_⟩
    have hi : 5 * j + 5 ≤ (gX g).2.1 := by
      refine Nat.le_of_not_lt fun q2 => q ?_
      exact lw_past (by omega) (by omega) (by omega)
    have h27 : 5000 * j < 2 ^ 27 := by omega
    have h28 : 5000 * j < 2 ^ 28 := by omega
    have hN : Nx g Q (5000 * j) (5 * j) := by
      intro m2 h2
      refine b_Lw_law_1031 ?_
      rw [nI_add5]
      exact ih (j + 1) m2 (by omega) (by omega) (h2.mono (by omega))
    refine ⟨vp_in_nI (by omega) (by omega), ?_⟩
    refine ⟨fun _ => lc_164 hi hL hI h27 h28 hN, fun _ => ?_⟩
    refine ⟨fun _ => lc_197 hi hL hI h27 h28 hN, fun _ => ?_⟩
    refine ⟨fun _ => lc_250 hi hL hI h27 h28 hN, fun _ => ?_⟩
    refine ⟨fun _ => lc_303 hi hL hI h27 h28 hN, fun _ => ?_⟩
    refine ⟨fun _ => lc_346 hi hL hI h27 h28 hN, fun _ => ?_⟩
    refine ⟨fun _ => lc_369 hi hL hI h27 h28 hN, fun _ => ?_⟩
    refine ⟨fun _ => lc_382 hi hL hI h27 h28 hN, fun _ => ?_⟩
    refine ⟨fun _ => lc_415 hi hL hI h27 h28 hN, fun _ => ?_⟩
    refine ⟨fun _ => lc_468 hi hL hI h27 h28 hN, fun _ => ?_⟩
    refine ⟨fun _ => lc_501 hi hL hI h27 h28 hN, fun _ => ?_⟩
    refine ⟨fun _ => lc_524 hi hL hI h27 h28 hN, fun _ => ?_⟩
    refine ⟨fun _ => lc_547 hi hL hI h27 h28 hN, fun _ => ?_⟩
    refine ⟨fun _ => lc_580 hi hL hI h27 h28 hN, fun _ => ?_⟩
    refine ⟨fun _ => lc_613 hi hL hI h27 h28 hN, fun _ => ?_⟩
    refine ⟨fun _ => lc_646 hi hL hI h27 h28 hN, fun _ => ?_⟩
    refine ⟨fun _ => lc_669 hi hL hI h27 h28 hN, fun _ => ?_⟩
    refine ⟨fun _ => lc_702 hi hL hI h27 h28 hN, fun _ => ?_⟩
    refine ⟨fun _ => lc_725 hi hL hI h27 h28 hN, fun _ => ?_⟩
    refine ⟨fun _ => lc_738 hi hL hI h27 h28 hN, fun _ => ?_⟩
    refine ⟨fun _ => lc_781 hi hL hI h27 h28 hN, fun _ => ?_⟩
    refine ⟨fun _ => lc_804 hi hL hI h27 h28 hN, fun _ => ?_⟩
    refine ⟨fun _ => lc_857 hi hL hI h27 h28 hN, fun _ => ?_⟩
    refine ⟨fun _ => lc_880 hi hL hI h27 h28 hN, fun _ => ?_⟩
    refine ⟨fun _ => lc_933 hi hL hI h27 h28 hN, fun _ => ?_⟩
    refine ⟨fun _ => lc_946 hi hL hI h27 h28 hN, fun _ => ?_⟩
    refine ⟨fun _ => lc_959 hi hL hI h27 h28 hN, fun _ => ?_⟩
    refine ⟨fun _ => lc_972 hi hL hI h27 h28 hN, fun _ => ?_⟩
    refine ⟨fun _ => lc_985 hi hL hI h27 h28 hN, fun _ => ?_⟩
    refine ⟨fun _ => lc_1008 hi hL hI h27 h28 hN, fun _ => ?_⟩
    exact hN mem (hI.mono (by omega))
