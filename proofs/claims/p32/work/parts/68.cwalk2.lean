/-! THE CLASS'S CONSTRUCTOR, its walk (laid by a program) -/
abbrev fsN (g : Wg) (o : Nat) : List Value := [.ref (gB g + (o + 1)), .ref (gB g + (o + 48)), .ref (gB g + (o + 95)), .ref (gB g + (o + 426)), .ref (gB g + (o + 521)), .ref (gB g + (o + 522))]
set_option maxHeartbeats 8000000 in
theorem K_N_init {g : Wg} {o : Nat} {cf : Nat → va_E} (hcf : cf o = .inr (0, df_0)) : Con g h_N_init o (o + 525) 524 7936 cf (naC g o (fsN g o) 2 cf) := by
  refine Con.of rfl rfl rfl (Nat.le_of_ble_eq_true rfl) ?_
  intro p e R s m args below meth c H ls Q C hin hrc hrs w hl kk
  have hx := C.1
  have hb := C.2.1
  have hTa := C.2.2.2.2.2.2.2.2
  have w := w.eq (n' := o + 1) (cf' := naC g o [.null, .null, .null, .null, .null, .null] 0 cf) rfl (fun i hi => by
    unfold naC
    by_cases h : i < o
    · rw [if_pos h]
    · rw [if_neg h, if_pos (by omega), show i = o by omega, hcf])
  refine lv_aload_n hx hb dn_N_0 rfl (lv_at hl 0 rfl) ?_
  refine w_obj C hl.1 dn_N_1 ho_N_init (Nat.le_of_ble_eq_true rfl) (Nat.le_of_ble_eq_true rfl) ?_
  refine lv_aload_n hx hb dn_N_4 rfl (lv_at hl 0 rfl) ?_
  refine w_new C (ci := 1) (fs := df_1) (by decide) dn_N_5 ln_N_7 cn_1 cz_1 dv_1 (by rw [hrc]; exact Nat.le_of_ble_eq_true rfl) (by rw [hrs]; exact Nat.le_of_ble_eq_true rfl) w (fun H w => ?_)
  refine lv_dup hx hb dn_N_8 rfl ?_
  refine w_init C (hd := h_St_init) (o := o + 1) (K_St_init (if_pos rfl)) rfl hl.1 dn_N_9 hk_St_init rfl rfl (Nat.le_of_ble_eq_true rfl) (Nat.le_of_ble_eq_true rfl) ln_N_9 hi_St_init (Nat.le_of_ble_eq_true rfl) ⟨by rw [hrc]; exact Nat.le_of_ble_eq_true rfl, by rw [hrs]; exact Nat.le_of_ble_eq_true rfl⟩ w (fun H locs w => ?_)
  have w := w.eq (n' := o + 48) (cf' := naC g o [.null, .null, .null, .null, .null, .null] 0 cf) rfl (fun i hi => na_1 hi)
  refine w_putF C hin (o := o) (ci := 0) (k := 0) (fs := [.null, .null, .null, .null, .null, .null]) (Nat.le_of_ble_eq_true rfl) rfl (by omega) naC_0 (Nat.le_of_ble_eq_true rfl) ln_N_10 rfl rfl rfl rfl (Nat.le_of_ble_eq_true rfl) dn_N_12 w (fun H locs w => ?_)
  have w := w.eq (n' := _) (cf' := naC g o [.ref (gB g + (o + 1)), .null, .null, .null, .null, .null] 0 cf) rfl (fun i _ => na_put)
  refine lv_aload_n hx hb dn_N_15 rfl (lv_at hl 0 rfl) ?_
  refine w_new C (ci := 1) (fs := df_1) (by decide) dn_N_16 ln_N_7 cn_1 cz_1 dv_1 (by rw [hrc]; exact Nat.le_of_ble_eq_true rfl) (by rw [hrs]; exact Nat.le_of_ble_eq_true rfl) w (fun H w => ?_)
  refine lv_dup hx hb dn_N_19 rfl ?_
  refine w_init C (hd := h_St_init) (o := o + 48) (K_St_init (if_pos rfl)) rfl hl.1 dn_N_20 hk_St_init rfl rfl (Nat.le_of_ble_eq_true rfl) (Nat.le_of_ble_eq_true rfl) ln_N_9 hi_St_init (Nat.le_of_ble_eq_true rfl) ⟨by rw [hrc]; exact Nat.le_of_ble_eq_true rfl, by rw [hrs]; exact Nat.le_of_ble_eq_true rfl⟩ w (fun H locs w => ?_)
  have w := w.eq (n' := o + 95) (cf' := naC g o [.ref (gB g + (o + 1)), .null, .null, .null, .null, .null] 0 cf) rfl (fun i hi => na_2 hi)
  refine w_putF C hin (o := o) (ci := 0) (k := 1) (fs := [.ref (gB g + (o + 1)), .null, .null, .null, .null, .null]) (Nat.le_of_ble_eq_true rfl) rfl (by omega) naC_0 (Nat.le_of_ble_eq_true rfl) ln_N_16 rfl rfl rfl rfl (Nat.le_of_ble_eq_true rfl) dn_N_23 w (fun H locs w => ?_)
  have w := w.eq (n' := _) (cf' := naC g o [.ref (gB g + (o + 1)), .ref (gB g + (o + 48)), .null, .null, .null, .null] 0 cf) rfl (fun i _ => na_put)
  refine lv_aload_n hx hb dn_N_26 rfl (lv_at hl 0 rfl) ?_
  refine w_new C (ci := 5) (fs := df_5) (by decide) dn_N_27 ln_N_19 cn_5 cz_5 dv_5 (by rw [hrc]; exact Nat.le_of_ble_eq_true rfl) (by rw [hrs]; exact Nat.le_of_ble_eq_true rfl) w (fun H w => ?_)
  refine lv_dup hx hb dn_N_30 rfl ?_
  refine w_init C (hd := h_Hi_init) (o := o + 95) (K_Hi_init (if_pos rfl)) rfl hl.1 dn_N_31 hk_Hi_init rfl rfl (Nat.le_of_ble_eq_true rfl) (Nat.le_of_ble_eq_true rfl) ln_N_21 hi_Hi_init (Nat.le_of_ble_eq_true rfl) ⟨by rw [hrc]; exact Nat.le_of_ble_eq_true rfl, by rw [hrs]; exact Nat.le_of_ble_eq_true rfl⟩ w (fun H locs w => ?_)
  have w := w.eq (n' := o + 426) (cf' := naC g o [.ref (gB g + (o + 1)), .ref (gB g + (o + 48)), .null, .null, .null, .null] 0 cf) rfl (fun i hi => na_3 hi)
  refine w_putF C hin (o := o) (ci := 0) (k := 2) (fs := [.ref (gB g + (o + 1)), .ref (gB g + (o + 48)), .null, .null, .null, .null]) (Nat.le_of_ble_eq_true rfl) rfl (by omega) naC_0 (Nat.le_of_ble_eq_true rfl) ln_N_22 rfl rfl rfl rfl (Nat.le_of_ble_eq_true rfl) dn_N_34 w (fun H locs w => ?_)
  have w := w.eq (n' := _) (cf' := naC g o [.ref (gB g + (o + 1)), .ref (gB g + (o + 48)), .ref (gB g + (o + 95)), .null, .null, .null] 0 cf) rfl (fun i _ => na_put)
  refine lv_aload_n hx hb dn_N_37 rfl (lv_at hl 0 rfl) ?_
  refine lv_iconst (v := 2) hx hb dn_N_38 (by decide) ?_
  refine w_anew C (q := 6) (N := 2) (Nat.le_of_ble_eq_true rfl) rfl dn_N_39 ln_N_7 hTa.2.2.2.2.2.2 (by decide) (by decide) (Nat.le_of_ble_eq_true rfl) (by rw [hrc]; exact Nat.le_of_ble_eq_true rfl) (by rw [hrs]; exact Nat.le_of_ble_eq_true rfl) w (fun H w => ?_)
  have w := w.eq (n' := o + 427) (cf' := naC g o [.ref (gB g + (o + 1)), .ref (gB g + (o + 48)), .ref (gB g + (o + 95)), .null, .null, .null] 0 cf) rfl (fun i hi => na_4 hi)
  refine lv_dup hx hb dn_N_42 rfl ?_
  refine lv_iconst (v := 0) hx hb dn_N_43 (by decide) ?_
  refine w_new C (ci := 1) (fs := df_1) (by decide) dn_N_44 ln_N_7 cn_1 cz_1 dv_1 (by rw [hrc]; exact Nat.le_of_ble_eq_true rfl) (by rw [hrs]; exact Nat.le_of_ble_eq_true rfl) w (fun H w => ?_)
  refine lv_dup hx hb dn_N_47 rfl ?_
  refine w_init C (hd := h_St_init) (o := o + 427) (K_St_init (if_pos rfl)) rfl hl.1 dn_N_48 hk_St_init rfl rfl (Nat.le_of_ble_eq_true rfl) (Nat.le_of_ble_eq_true rfl) ln_N_9 hi_St_init (Nat.le_of_ble_eq_true rfl) ⟨by rw [hrc]; exact Nat.le_of_ble_eq_true rfl, by rw [hrs]; exact Nat.le_of_ble_eq_true rfl⟩ w (fun H locs w => ?_)
  have w := w.eq (n' := o + 474) (cf' := naC g o [.ref (gB g + (o + 1)), .ref (gB g + (o + 48)), .ref (gB g + (o + 95)), .null, .null, .null] 0 cf) rfl (fun i hi => na_5 hi)
  refine w_aast C (o := o + 426) (q := 6) (ci := 1) (v := o + 427) (by decide) (by decide) rfl (by omega) na_h.2.2 (by omega) na_h.1 (by unfold vp_in; decide) dn_N_51 w (fun H locs w => ?_)
  have w := w.eq (n' := _) (cf' := naC g o [.ref (gB g + (o + 1)), .ref (gB g + (o + 48)), .ref (gB g + (o + 95)), .null, .null, .null] 1 cf) rfl (fun i _ => na_up (t := 0) (by decide) (by decide))
  refine lv_dup hx hb dn_N_52 rfl ?_
  refine lv_iconst (v := 1) hx hb dn_N_53 (by decide) ?_
  refine w_new C (ci := 1) (fs := df_1) (by decide) dn_N_54 ln_N_7 cn_1 cz_1 dv_1 (by rw [hrc]; exact Nat.le_of_ble_eq_true rfl) (by rw [hrs]; exact Nat.le_of_ble_eq_true rfl) w (fun H w => ?_)
  refine lv_dup hx hb dn_N_57 rfl ?_
  refine w_init C (hd := h_St_init) (o := o + 474) (K_St_init (if_pos rfl)) rfl hl.1 dn_N_58 hk_St_init rfl rfl (Nat.le_of_ble_eq_true rfl) (Nat.le_of_ble_eq_true rfl) ln_N_9 hi_St_init (Nat.le_of_ble_eq_true rfl) ⟨by rw [hrc]; exact Nat.le_of_ble_eq_true rfl, by rw [hrs]; exact Nat.le_of_ble_eq_true rfl⟩ w (fun H locs w => ?_)
  have w := w.eq (n' := o + 521) (cf' := naC g o [.ref (gB g + (o + 1)), .ref (gB g + (o + 48)), .ref (gB g + (o + 95)), .null, .null, .null] 1 cf) rfl (fun i hi => na_6 hi)
  refine w_aast C (o := o + 426) (q := 6) (ci := 1) (v := o + 474) (by decide) (by decide) rfl (by omega) na_h.2.2 (by omega) na_h.2.1 (by unfold vp_in; decide) dn_N_61 w (fun H locs w => ?_)
  have w := w.eq (n' := _) (cf' := naC g o [.ref (gB g + (o + 1)), .ref (gB g + (o + 48)), .ref (gB g + (o + 95)), .null, .null, .null] 2 cf) rfl (fun i _ => na_up (t := 1) (by decide) (by decide))
  refine w_putF C hin (o := o) (ci := 0) (k := 3) (fs := [.ref (gB g + (o + 1)), .ref (gB g + (o + 48)), .ref (gB g + (o + 95)), .null, .null, .null]) (Nat.le_of_ble_eq_true rfl) rfl (by omega) naC_0 (Nat.le_of_ble_eq_true rfl) ln_N_26 rfl rfl rfl rfl (Nat.le_of_ble_eq_true rfl) dn_N_62 w (fun H locs w => ?_)
  have w := w.eq (n' := _) (cf' := naC g o [.ref (gB g + (o + 1)), .ref (gB g + (o + 48)), .ref (gB g + (o + 95)), .ref (gB g + (o + 426)), .null, .null] 2 cf) rfl (fun i _ => na_put)
  refine lv_aload_n hx hb dn_N_65 rfl (lv_at hl 0 rfl) ?_
  refine lv_iconst (v := 2) hx hb dn_N_66 (by decide) ?_
  refine w_newa C (q := 1) (N := 2) (Nat.le_of_ble_eq_true rfl) rfl rfl rfl dn_N_67 hTa.2.1 (by decide) (by decide) (Nat.le_of_ble_eq_true rfl) (by rw [hrc]; exact Nat.le_of_ble_eq_true rfl) (by rw [hrs]; exact Nat.le_of_ble_eq_true rfl) w (fun H w => ?_)
  have w := w.eq (n' := o + 522) (cf' := naC g o [.ref (gB g + (o + 1)), .ref (gB g + (o + 48)), .ref (gB g + (o + 95)), .ref (gB g + (o + 426)), .null, .null] 2 cf) rfl (fun i hi => na_7 hi)
  refine w_putF C hin (o := o) (ci := 0) (k := 4) (fs := [.ref (gB g + (o + 1)), .ref (gB g + (o + 48)), .ref (gB g + (o + 95)), .ref (gB g + (o + 426)), .null, .null]) (Nat.le_of_ble_eq_true rfl) rfl (by omega) naC_0 (Nat.le_of_ble_eq_true rfl) ln_N_30 rfl rfl rfl rfl (Nat.le_of_ble_eq_true rfl) dn_N_69 w (fun H locs w => ?_)
  have w := w.eq (n' := _) (cf' := naC g o [.ref (gB g + (o + 1)), .ref (gB g + (o + 48)), .ref (gB g + (o + 95)), .ref (gB g + (o + 426)), .ref (gB g + (o + 521)), .null] 2 cf) rfl (fun i _ => na_put)
  refine lv_aload_n hx hb dn_N_72 rfl (lv_at hl 0 rfl) ?_
  refine w_new C (ci := 6) (fs := df_6) (by decide) dn_N_73 ln_N_34 cn_6 cz_6 dv_6 (by rw [hrc]; exact Nat.le_of_ble_eq_true rfl) (by rw [hrs]; exact Nat.le_of_ble_eq_true rfl) w (fun H w => ?_)
  refine lv_dup hx hb dn_N_76 rfl ?_
  refine w_init C (hd := h_Pd_init) (o := o + 522) (K_Pd_init (if_pos rfl)) rfl hl.1 dn_N_77 hk_Pd_init rfl rfl (Nat.le_of_ble_eq_true rfl) (Nat.le_of_ble_eq_true rfl) ln_N_36 hi_Pd_init (Nat.le_of_ble_eq_true rfl) ⟨by rw [hrc]; exact Nat.le_of_ble_eq_true rfl, by rw [hrs]; exact Nat.le_of_ble_eq_true rfl⟩ w (fun H locs w => ?_)
  have w := w.eq (n' := o + 525) (cf' := naC g o [.ref (gB g + (o + 1)), .ref (gB g + (o + 48)), .ref (gB g + (o + 95)), .ref (gB g + (o + 426)), .ref (gB g + (o + 521)), .null] 2 cf) rfl (fun i hi => na_8 hi)
  refine w_putF C hin (o := o) (ci := 0) (k := 5) (fs := [.ref (gB g + (o + 1)), .ref (gB g + (o + 48)), .ref (gB g + (o + 95)), .ref (gB g + (o + 426)), .ref (gB g + (o + 521)), .null]) (Nat.le_of_ble_eq_true rfl) rfl (by omega) naC_0 (Nat.le_of_ble_eq_true rfl) ln_N_37 rfl rfl rfl rfl (Nat.le_of_ble_eq_true rfl) dn_N_80 w (fun H locs w => ?_)
  have w := w.eq (n' := _) (cf' := naC g o [.ref (gB g + (o + 1)), .ref (gB g + (o + 48)), .ref (gB g + (o + 95)), .ref (gB g + (o + 426)), .ref (gB g + (o + 521)), .ref (gB g + (o + 522))] 2 cf) rfl (fun i _ => na_put)
  refine W.widen (k := 524) (n := 7936) (Nat.le_of_ble_eq_true rfl) (Nat.le_of_ble_eq_true rfl) ?_
  exact kk _ _ _ _ dn_N_83 w
