/-! CONSTRUCTORS that walk straight (laid by a program) -/
set_option maxHeartbeats 4000000 in
theorem K_Rm_init {g : Wg} {o : Nat} {cf : Nat → va_E} (hcf : cf o = .inr (2, df_2)) : Con g h_Rm_init o (o + 1) 0 0 cf (bl o [.inr (2, [.int 0, .int 0, .int 0, .int 0])] cf) := by
  refine Con.of rfl rfl rfl (Nat.le_of_ble_eq_true rfl) ?_
  intro p e R s m args below meth c H ls Q C hin hrc hrs w hl kk
  have hx := C.1
  have hb := C.2.1
  have hTa := C.2.2.2.2.2.2.2.2
  have w := Bw.start w hcf
  refine lv_aload_n hx hb dn_Rm_0 rfl (lv_at hl 0 rfl) ?_
  refine w_obj C hl.1 dn_Rm_1 ho_Rm_init (Nat.le_of_ble_eq_true rfl) (Nat.le_of_ble_eq_true rfl) ?_
  exact kk _ _ _ _ dn_Rm_4 w
set_option maxHeartbeats 4000000 in
theorem K_Ca_init {g : Wg} {o : Nat} {cf : Nat → va_E} (hcf : cf o = .inr (3, df_3)) : Con g h_Ca_init o (o + 1) 0 0 cf (bl o [.inr (3, [.int 0, .int 0, .int 0, .int 0, .int 0])] cf) := by
  refine Con.of rfl rfl rfl (Nat.le_of_ble_eq_true rfl) ?_
  intro p e R s m args below meth c H ls Q C hin hrc hrs w hl kk
  have hx := C.1
  have hb := C.2.1
  have hTa := C.2.2.2.2.2.2.2.2
  have w := Bw.start w hcf
  refine lv_aload_n hx hb dn_Ca_0 rfl (lv_at hl 0 rfl) ?_
  refine w_obj C hl.1 dn_Ca_1 ho_Ca_init (Nat.le_of_ble_eq_true rfl) (Nat.le_of_ble_eq_true rfl) ?_
  exact kk _ _ _ _ dn_Ca_4 w
set_option maxHeartbeats 4000000 in
theorem K_Ch_init {g : Wg} {o : Nat} {cf : Nat → va_E} (hcf : cf o = .inr (4, df_4)) : Con g h_Ch_init o (o + 1) 0 0 cf (bl o [.inr (4, [.int 0, .int 0, .int 0, .int 0, .int 0, .int 0, .int 0, .int 0, .int 0, .int 0, .int 0, .int 0, .int 0, .int 0])] cf) := by
  refine Con.of rfl rfl rfl (Nat.le_of_ble_eq_true rfl) ?_
  intro p e R s m args below meth c H ls Q C hin hrc hrs w hl kk
  have hx := C.1
  have hb := C.2.1
  have hTa := C.2.2.2.2.2.2.2.2
  have w := Bw.start w hcf
  refine lv_aload_n hx hb dn_Ch_0 rfl (lv_at hl 0 rfl) ?_
  refine w_obj C hl.1 dn_Ch_1 ho_Ch_init (Nat.le_of_ble_eq_true rfl) (Nat.le_of_ble_eq_true rfl) ?_
  exact kk _ _ _ _ dn_Ch_4 w
set_option maxHeartbeats 4000000 in
theorem K_Pd_init {g : Wg} {o : Nat} {cf : Nat → va_E} (hcf : cf o = .inr (6, df_6)) : Con g h_Pd_init o (o + 3) 2 84 cf (bl o [.inr (6, [.ref (gB g + (o + 1)), .int 0, .int 0, .int 0, .ref (gB g + (o + 2)), .int 0]), .inl (gC g 2, 80, .inl (fun _ => 0)), .inl (gC g 0, 4, .inl (fun _ => 0))] cf) := by
  refine Con.of rfl rfl rfl (Nat.le_of_ble_eq_true rfl) ?_
  intro p e R s m args below meth c H ls Q C hin hrc hrs w hl kk
  have hx := C.1
  have hb := C.2.1
  have hTa := C.2.2.2.2.2.2.2.2
  have w := Bw.start w hcf
  refine lv_aload_n hx hb dn_Pd_0 rfl (lv_at hl 0 rfl) ?_
  refine w_obj C hl.1 dn_Pd_1 ho_Pd_init (Nat.le_of_ble_eq_true rfl) (Nat.le_of_ble_eq_true rfl) ?_
  refine lv_aload_n hx hb dn_Pd_4 rfl (lv_at hl 0 rfl) ?_
  refine lv_bipush (v := 80) hx hb dn_Pd_5 (by decide) ?_
  refine b_newa C (q := 2) (N := 80) (Nat.le_of_ble_eq_true rfl) rfl rfl rfl dn_Pd_7 hTa.2.2.1 (by decide) (by decide) (Nat.le_of_ble_eq_true rfl) (by rw [hrc]; exact Nat.le_of_ble_eq_true rfl) (by rw [hrs]; exact Nat.le_of_ble_eq_true rfl) w (fun H w => ?_)
  have w : Bw g s o [.inr (6, [.null, .int 0, .int 0, .int 0, .null, .int 0]), .inl (gC g 2, 80, .inl (fun _ => 0))] cf H _ := w
  refine b_putF C hin 0 (ci := 6) (k := 0) (Nat.le_of_ble_eq_true rfl) rfl rfl (Nat.le_of_ble_eq_true rfl) ln_Pd_9 rfl rfl rfl rfl (Nat.le_of_ble_eq_true rfl) dn_Pd_9 w (fun H locs w => ?_)
  have w : Bw g s o [.inr (6, [.ref (gB g + (o + 1)), .int 0, .int 0, .int 0, .null, .int 0]), .inl (gC g 2, 80, .inl (fun _ => 0))] cf H _ := w
  refine lv_aload_n hx hb dn_Pd_12 rfl (lv_at hl 0 rfl) ?_
  refine lv_iconst (v := 4) hx hb dn_Pd_13 (by decide) ?_
  refine b_newa C (q := 0) (N := 4) (Nat.le_of_ble_eq_true rfl) rfl rfl rfl dn_Pd_14 hTa.1 (by decide) (by decide) (Nat.le_of_ble_eq_true rfl) (by rw [hrc]; exact Nat.le_of_ble_eq_true rfl) (by rw [hrs]; exact Nat.le_of_ble_eq_true rfl) w (fun H w => ?_)
  have w : Bw g s o [.inr (6, [.ref (gB g + (o + 1)), .int 0, .int 0, .int 0, .null, .int 0]), .inl (gC g 2, 80, .inl (fun _ => 0)), .inl (gC g 0, 4, .inl (fun _ => 0))] cf H _ := w
  refine b_putF C hin 0 (ci := 6) (k := 4) (Nat.le_of_ble_eq_true rfl) rfl rfl (Nat.le_of_ble_eq_true rfl) ln_Pd_15 rfl rfl rfl rfl (Nat.le_of_ble_eq_true rfl) dn_Pd_16 w (fun H locs w => ?_)
  have w : Bw g s o [.inr (6, [.ref (gB g + (o + 1)), .int 0, .int 0, .int 0, .ref (gB g + (o + 2)), .int 0]), .inl (gC g 2, 80, .inl (fun _ => 0)), .inl (gC g 0, 4, .inl (fun _ => 0))] cf H _ := w
  exact kk _ _ _ _ dn_Pd_19 w
set_option maxHeartbeats 4000000 in
theorem K_Md_init {g : Wg} {o : Nat} {cf : Nat → va_E} (hcf : cf o = .inr (7, df_7)) : Con g h_Md_init o (o + 11) 10 4429 cf (bl o [.inr (7, [.ref (gB g + (o + 1)), .ref (gB g + (o + 2)), .ref (gB g + (o + 3)), .int 0, .int 0, .ref (gB g + (o + 4)), .ref (gB g + (o + 5)), .ref (gB g + (o + 6)), .int 0, .ref (gB g + (o + 7)), .ref (gB g + (o + 8)), .ref (gB g + (o + 9)), .int 0, .int 0, .ref (gB g + (o + 10))]), .inl (gC g 0, 429, .inl (upd (upd (upd (upd (upd (fun _ => 0) 0 3000) 1 20) 2 2) 3 3) 4 12)), .inl (gC g 0, 429, .inl (fun _ => 0)), .inl (gC g 0, 2574, .inl (fun _ => 0)), .inl (gC g 0, 858, .inl (fun _ => 0)), .inl (gC g 1, 2, .inl (fun _ => 0)), .inl (gC g 0, 80, .inl (fun _ => 0)), .inl (gC g 0, 5, .inl (upd (upd (upd (upd (upd (fun _ => 0) 0 10000) 1 100) 2 10) 3 9) 4 99)), .inl (gC g 0, 24, .inl (fun _ => 0)), .inl (gC g 0, 24, .inl (fun _ => 0)), .inl (gC g 0, 4, .inl (fun _ => 0))] cf) := by
  refine Con.of rfl rfl rfl (Nat.le_of_ble_eq_true rfl) ?_
  intro p e R s m args below meth c H ls Q C hin hrc hrs w hl kk
  have hx := C.1
  have hb := C.2.1
  have hTa := C.2.2.2.2.2.2.2.2
  have w := Bw.start w hcf
  refine lv_aload_n hx hb dn_Md_0 rfl (lv_at hl 0 rfl) ?_
  refine w_obj C hl.1 dn_Md_1 ho_Md_init (Nat.le_of_ble_eq_true rfl) (Nat.le_of_ble_eq_true rfl) ?_
  refine lv_aload_n hx hb dn_Md_4 rfl (lv_at hl 0 rfl) ?_
  refine lv_sipush (v := 429) hx hb dn_Md_5 (by decide) ?_
  refine b_newa C (q := 0) (N := 429) (Nat.le_of_ble_eq_true rfl) rfl rfl rfl dn_Md_8 hTa.1 (by decide) (by decide) (Nat.le_of_ble_eq_true rfl) (by rw [hrc]; exact Nat.le_of_ble_eq_true rfl) (by rw [hrs]; exact Nat.le_of_ble_eq_true rfl) w (fun H w => ?_)
  have w : Bw g s o [.inr (7, [.null, .null, .null, .int 0, .int 0, .null, .null, .null, .int 0, .null, .null, .null, .int 0, .int 0, .null]), .inl (gC g 0, 429, .inl (fun _ => 0))] cf H _ := w
  refine b_putF C hin 0 (ci := 7) (k := 0) (Nat.le_of_ble_eq_true rfl) rfl rfl (Nat.le_of_ble_eq_true rfl) ln_Md_7 rfl rfl rfl rfl (Nat.le_of_ble_eq_true rfl) dn_Md_10 w (fun H locs w => ?_)
  have w : Bw g s o [.inr (7, [.ref (gB g + (o + 1)), .null, .null, .int 0, .int 0, .null, .null, .null, .int 0, .null, .null, .null, .int 0, .int 0, .null]), .inl (gC g 0, 429, .inl (fun _ => 0))] cf H _ := w
  refine lv_aload_n hx hb dn_Md_13 rfl (lv_at hl 0 rfl) ?_
  refine lv_sipush (v := 429) hx hb dn_Md_14 (by decide) ?_
  refine b_newa C (q := 0) (N := 429) (Nat.le_of_ble_eq_true rfl) rfl rfl rfl dn_Md_17 hTa.1 (by decide) (by decide) (Nat.le_of_ble_eq_true rfl) (by rw [hrc]; exact Nat.le_of_ble_eq_true rfl) (by rw [hrs]; exact Nat.le_of_ble_eq_true rfl) w (fun H w => ?_)
  have w : Bw g s o [.inr (7, [.ref (gB g + (o + 1)), .null, .null, .int 0, .int 0, .null, .null, .null, .int 0, .null, .null, .null, .int 0, .int 0, .null]), .inl (gC g 0, 429, .inl (fun _ => 0)), .inl (gC g 0, 429, .inl (fun _ => 0))] cf H _ := w
  refine b_putF C hin 0 (ci := 7) (k := 1) (Nat.le_of_ble_eq_true rfl) rfl rfl (Nat.le_of_ble_eq_true rfl) ln_Md_13 rfl rfl rfl rfl (Nat.le_of_ble_eq_true rfl) dn_Md_19 w (fun H locs w => ?_)
  have w : Bw g s o [.inr (7, [.ref (gB g + (o + 1)), .ref (gB g + (o + 2)), .null, .int 0, .int 0, .null, .null, .null, .int 0, .null, .null, .null, .int 0, .int 0, .null]), .inl (gC g 0, 429, .inl (fun _ => 0)), .inl (gC g 0, 429, .inl (fun _ => 0))] cf H _ := w
  refine lv_aload_n hx hb dn_Md_22 rfl (lv_at hl 0 rfl) ?_
  refine lv_sipush (v := 2574) hx hb dn_Md_23 (by decide) ?_
  refine b_newa C (q := 0) (N := 2574) (Nat.le_of_ble_eq_true rfl) rfl rfl rfl dn_Md_26 hTa.1 (by decide) (by decide) (Nat.le_of_ble_eq_true rfl) (by rw [hrc]; exact Nat.le_of_ble_eq_true rfl) (by rw [hrs]; exact Nat.le_of_ble_eq_true rfl) w (fun H w => ?_)
  have w : Bw g s o [.inr (7, [.ref (gB g + (o + 1)), .ref (gB g + (o + 2)), .null, .int 0, .int 0, .null, .null, .null, .int 0, .null, .null, .null, .int 0, .int 0, .null]), .inl (gC g 0, 429, .inl (fun _ => 0)), .inl (gC g 0, 429, .inl (fun _ => 0)), .inl (gC g 0, 2574, .inl (fun _ => 0))] cf H _ := w
  refine b_putF C hin 0 (ci := 7) (k := 2) (Nat.le_of_ble_eq_true rfl) rfl rfl (Nat.le_of_ble_eq_true rfl) ln_Md_16 rfl rfl rfl rfl (Nat.le_of_ble_eq_true rfl) dn_Md_28 w (fun H locs w => ?_)
  have w : Bw g s o [.inr (7, [.ref (gB g + (o + 1)), .ref (gB g + (o + 2)), .ref (gB g + (o + 3)), .int 0, .int 0, .null, .null, .null, .int 0, .null, .null, .null, .int 0, .int 0, .null]), .inl (gC g 0, 429, .inl (fun _ => 0)), .inl (gC g 0, 429, .inl (fun _ => 0)), .inl (gC g 0, 2574, .inl (fun _ => 0))] cf H _ := w
  refine lv_aload_n hx hb dn_Md_31 rfl (lv_at hl 0 rfl) ?_
  refine lv_sipush (v := 858) hx hb dn_Md_32 (by decide) ?_
  refine b_newa C (q := 0) (N := 858) (Nat.le_of_ble_eq_true rfl) rfl rfl rfl dn_Md_35 hTa.1 (by decide) (by decide) (Nat.le_of_ble_eq_true rfl) (by rw [hrc]; exact Nat.le_of_ble_eq_true rfl) (by rw [hrs]; exact Nat.le_of_ble_eq_true rfl) w (fun H w => ?_)
  have w : Bw g s o [.inr (7, [.ref (gB g + (o + 1)), .ref (gB g + (o + 2)), .ref (gB g + (o + 3)), .int 0, .int 0, .null, .null, .null, .int 0, .null, .null, .null, .int 0, .int 0, .null]), .inl (gC g 0, 429, .inl (fun _ => 0)), .inl (gC g 0, 429, .inl (fun _ => 0)), .inl (gC g 0, 2574, .inl (fun _ => 0)), .inl (gC g 0, 858, .inl (fun _ => 0))] cf H _ := w
  refine b_putF C hin 0 (ci := 7) (k := 5) (Nat.le_of_ble_eq_true rfl) rfl rfl (Nat.le_of_ble_eq_true rfl) ln_Md_19 rfl rfl rfl rfl (Nat.le_of_ble_eq_true rfl) dn_Md_37 w (fun H locs w => ?_)
  have w : Bw g s o [.inr (7, [.ref (gB g + (o + 1)), .ref (gB g + (o + 2)), .ref (gB g + (o + 3)), .int 0, .int 0, .ref (gB g + (o + 4)), .null, .null, .int 0, .null, .null, .null, .int 0, .int 0, .null]), .inl (gC g 0, 429, .inl (fun _ => 0)), .inl (gC g 0, 429, .inl (fun _ => 0)), .inl (gC g 0, 2574, .inl (fun _ => 0)), .inl (gC g 0, 858, .inl (fun _ => 0))] cf H _ := w
  refine lv_aload_n hx hb dn_Md_40 rfl (lv_at hl 0 rfl) ?_
  refine lv_iconst (v := 2) hx hb dn_Md_41 (by decide) ?_
  refine b_newa C (q := 1) (N := 2) (Nat.le_of_ble_eq_true rfl) rfl rfl rfl dn_Md_42 hTa.2.1 (by decide) (by decide) (Nat.le_of_ble_eq_true rfl) (by rw [hrc]; exact Nat.le_of_ble_eq_true rfl) (by rw [hrs]; exact Nat.le_of_ble_eq_true rfl) w (fun H w => ?_)
  have w : Bw g s o [.inr (7, [.ref (gB g + (o + 1)), .ref (gB g + (o + 2)), .ref (gB g + (o + 3)), .int 0, .int 0, .ref (gB g + (o + 4)), .null, .null, .int 0, .null, .null, .null, .int 0, .int 0, .null]), .inl (gC g 0, 429, .inl (fun _ => 0)), .inl (gC g 0, 429, .inl (fun _ => 0)), .inl (gC g 0, 2574, .inl (fun _ => 0)), .inl (gC g 0, 858, .inl (fun _ => 0)), .inl (gC g 1, 2, .inl (fun _ => 0))] cf H _ := w
  refine b_putF C hin 0 (ci := 7) (k := 6) (Nat.le_of_ble_eq_true rfl) rfl rfl (Nat.le_of_ble_eq_true rfl) ln_Md_22 rfl rfl rfl rfl (Nat.le_of_ble_eq_true rfl) dn_Md_44 w (fun H locs w => ?_)
  have w : Bw g s o [.inr (7, [.ref (gB g + (o + 1)), .ref (gB g + (o + 2)), .ref (gB g + (o + 3)), .int 0, .int 0, .ref (gB g + (o + 4)), .ref (gB g + (o + 5)), .null, .int 0, .null, .null, .null, .int 0, .int 0, .null]), .inl (gC g 0, 429, .inl (fun _ => 0)), .inl (gC g 0, 429, .inl (fun _ => 0)), .inl (gC g 0, 2574, .inl (fun _ => 0)), .inl (gC g 0, 858, .inl (fun _ => 0)), .inl (gC g 1, 2, .inl (fun _ => 0))] cf H _ := w
  refine lv_aload_n hx hb dn_Md_47 rfl (lv_at hl 0 rfl) ?_
  refine lv_bipush (v := 80) hx hb dn_Md_48 (by decide) ?_
  refine b_newa C (q := 0) (N := 80) (Nat.le_of_ble_eq_true rfl) rfl rfl rfl dn_Md_50 hTa.1 (by decide) (by decide) (Nat.le_of_ble_eq_true rfl) (by rw [hrc]; exact Nat.le_of_ble_eq_true rfl) (by rw [hrs]; exact Nat.le_of_ble_eq_true rfl) w (fun H w => ?_)
  have w : Bw g s o [.inr (7, [.ref (gB g + (o + 1)), .ref (gB g + (o + 2)), .ref (gB g + (o + 3)), .int 0, .int 0, .ref (gB g + (o + 4)), .ref (gB g + (o + 5)), .null, .int 0, .null, .null, .null, .int 0, .int 0, .null]), .inl (gC g 0, 429, .inl (fun _ => 0)), .inl (gC g 0, 429, .inl (fun _ => 0)), .inl (gC g 0, 2574, .inl (fun _ => 0)), .inl (gC g 0, 858, .inl (fun _ => 0)), .inl (gC g 1, 2, .inl (fun _ => 0)), .inl (gC g 0, 80, .inl (fun _ => 0))] cf H _ := w
  refine b_putF C hin 0 (ci := 7) (k := 7) (Nat.le_of_ble_eq_true rfl) rfl rfl (Nat.le_of_ble_eq_true rfl) ln_Md_26 rfl rfl rfl rfl (Nat.le_of_ble_eq_true rfl) dn_Md_52 w (fun H locs w => ?_)
  have w : Bw g s o [.inr (7, [.ref (gB g + (o + 1)), .ref (gB g + (o + 2)), .ref (gB g + (o + 3)), .int 0, .int 0, .ref (gB g + (o + 4)), .ref (gB g + (o + 5)), .ref (gB g + (o + 6)), .int 0, .null, .null, .null, .int 0, .int 0, .null]), .inl (gC g 0, 429, .inl (fun _ => 0)), .inl (gC g 0, 429, .inl (fun _ => 0)), .inl (gC g 0, 2574, .inl (fun _ => 0)), .inl (gC g 0, 858, .inl (fun _ => 0)), .inl (gC g 1, 2, .inl (fun _ => 0)), .inl (gC g 0, 80, .inl (fun _ => 0))] cf H _ := w
  refine lv_aload_n hx hb dn_Md_55 rfl (lv_at hl 0 rfl) ?_
  refine lv_iconst (v := 5) hx hb dn_Md_56 (by decide) ?_
  refine b_newa C (q := 0) (N := 5) (Nat.le_of_ble_eq_true rfl) rfl rfl rfl dn_Md_57 hTa.1 (by decide) (by decide) (Nat.le_of_ble_eq_true rfl) (by rw [hrc]; exact Nat.le_of_ble_eq_true rfl) (by rw [hrs]; exact Nat.le_of_ble_eq_true rfl) w (fun H w => ?_)
  have w : Bw g s o [.inr (7, [.ref (gB g + (o + 1)), .ref (gB g + (o + 2)), .ref (gB g + (o + 3)), .int 0, .int 0, .ref (gB g + (o + 4)), .ref (gB g + (o + 5)), .ref (gB g + (o + 6)), .int 0, .null, .null, .null, .int 0, .int 0, .null]), .inl (gC g 0, 429, .inl (fun _ => 0)), .inl (gC g 0, 429, .inl (fun _ => 0)), .inl (gC g 0, 2574, .inl (fun _ => 0)), .inl (gC g 0, 858, .inl (fun _ => 0)), .inl (gC g 1, 2, .inl (fun _ => 0)), .inl (gC g 0, 80, .inl (fun _ => 0)), .inl (gC g 0, 5, .inl (fun _ => 0))] cf H _ := w
  refine lv_dup hx hb dn_Md_59 rfl ?_
  refine lv_iconst (v := 0) hx hb dn_Md_60 (by decide) ?_
  refine lv_sipush (v := 10000) hx hb dn_Md_61 (by decide) ?_
  refine b_iast C 7 (ix := 0) rfl (by unfold vp_in; decide) (by decide) dn_Md_64 w (fun H locs w => ?_)
  have w : Bw g s o [.inr (7, [.ref (gB g + (o + 1)), .ref (gB g + (o + 2)), .ref (gB g + (o + 3)), .int 0, .int 0, .ref (gB g + (o + 4)), .ref (gB g + (o + 5)), .ref (gB g + (o + 6)), .int 0, .null, .null, .null, .int 0, .int 0, .null]), .inl (gC g 0, 429, .inl (fun _ => 0)), .inl (gC g 0, 429, .inl (fun _ => 0)), .inl (gC g 0, 2574, .inl (fun _ => 0)), .inl (gC g 0, 858, .inl (fun _ => 0)), .inl (gC g 1, 2, .inl (fun _ => 0)), .inl (gC g 0, 80, .inl (fun _ => 0)), .inl (gC g 0, 5, .inl (upd (fun _ => 0) 0 10000))] cf H _ := w
  refine lv_dup hx hb dn_Md_65 rfl ?_
  refine lv_iconst (v := 1) hx hb dn_Md_66 (by decide) ?_
  refine lv_bipush (v := 100) hx hb dn_Md_67 (by decide) ?_
  refine b_iast C 7 (ix := 1) rfl (by unfold vp_in; decide) (by decide) dn_Md_69 w (fun H locs w => ?_)
  have w : Bw g s o [.inr (7, [.ref (gB g + (o + 1)), .ref (gB g + (o + 2)), .ref (gB g + (o + 3)), .int 0, .int 0, .ref (gB g + (o + 4)), .ref (gB g + (o + 5)), .ref (gB g + (o + 6)), .int 0, .null, .null, .null, .int 0, .int 0, .null]), .inl (gC g 0, 429, .inl (fun _ => 0)), .inl (gC g 0, 429, .inl (fun _ => 0)), .inl (gC g 0, 2574, .inl (fun _ => 0)), .inl (gC g 0, 858, .inl (fun _ => 0)), .inl (gC g 1, 2, .inl (fun _ => 0)), .inl (gC g 0, 80, .inl (fun _ => 0)), .inl (gC g 0, 5, .inl (upd (upd (fun _ => 0) 0 10000) 1 100))] cf H _ := w
  refine lv_dup hx hb dn_Md_70 rfl ?_
  refine lv_iconst (v := 2) hx hb dn_Md_71 (by decide) ?_
  refine lv_bipush (v := 10) hx hb dn_Md_72 (by decide) ?_
  refine b_iast C 7 (ix := 2) rfl (by unfold vp_in; decide) (by decide) dn_Md_74 w (fun H locs w => ?_)
  have w : Bw g s o [.inr (7, [.ref (gB g + (o + 1)), .ref (gB g + (o + 2)), .ref (gB g + (o + 3)), .int 0, .int 0, .ref (gB g + (o + 4)), .ref (gB g + (o + 5)), .ref (gB g + (o + 6)), .int 0, .null, .null, .null, .int 0, .int 0, .null]), .inl (gC g 0, 429, .inl (fun _ => 0)), .inl (gC g 0, 429, .inl (fun _ => 0)), .inl (gC g 0, 2574, .inl (fun _ => 0)), .inl (gC g 0, 858, .inl (fun _ => 0)), .inl (gC g 1, 2, .inl (fun _ => 0)), .inl (gC g 0, 80, .inl (fun _ => 0)), .inl (gC g 0, 5, .inl (upd (upd (upd (fun _ => 0) 0 10000) 1 100) 2 10))] cf H _ := w
  refine lv_dup hx hb dn_Md_75 rfl ?_
  refine lv_iconst (v := 3) hx hb dn_Md_76 (by decide) ?_
  refine lv_bipush (v := 9) hx hb dn_Md_77 (by decide) ?_
  refine b_iast C 7 (ix := 3) rfl (by unfold vp_in; decide) (by decide) dn_Md_79 w (fun H locs w => ?_)
  have w : Bw g s o [.inr (7, [.ref (gB g + (o + 1)), .ref (gB g + (o + 2)), .ref (gB g + (o + 3)), .int 0, .int 0, .ref (gB g + (o + 4)), .ref (gB g + (o + 5)), .ref (gB g + (o + 6)), .int 0, .null, .null, .null, .int 0, .int 0, .null]), .inl (gC g 0, 429, .inl (fun _ => 0)), .inl (gC g 0, 429, .inl (fun _ => 0)), .inl (gC g 0, 2574, .inl (fun _ => 0)), .inl (gC g 0, 858, .inl (fun _ => 0)), .inl (gC g 1, 2, .inl (fun _ => 0)), .inl (gC g 0, 80, .inl (fun _ => 0)), .inl (gC g 0, 5, .inl (upd (upd (upd (upd (fun _ => 0) 0 10000) 1 100) 2 10) 3 9))] cf H _ := w
  refine lv_dup hx hb dn_Md_80 rfl ?_
  refine lv_iconst (v := 4) hx hb dn_Md_81 (by decide) ?_
  refine lv_bipush (v := 99) hx hb dn_Md_82 (by decide) ?_
  refine b_iast C 7 (ix := 4) rfl (by unfold vp_in; decide) (by decide) dn_Md_84 w (fun H locs w => ?_)
  have w : Bw g s o [.inr (7, [.ref (gB g + (o + 1)), .ref (gB g + (o + 2)), .ref (gB g + (o + 3)), .int 0, .int 0, .ref (gB g + (o + 4)), .ref (gB g + (o + 5)), .ref (gB g + (o + 6)), .int 0, .null, .null, .null, .int 0, .int 0, .null]), .inl (gC g 0, 429, .inl (fun _ => 0)), .inl (gC g 0, 429, .inl (fun _ => 0)), .inl (gC g 0, 2574, .inl (fun _ => 0)), .inl (gC g 0, 858, .inl (fun _ => 0)), .inl (gC g 1, 2, .inl (fun _ => 0)), .inl (gC g 0, 80, .inl (fun _ => 0)), .inl (gC g 0, 5, .inl (upd (upd (upd (upd (upd (fun _ => 0) 0 10000) 1 100) 2 10) 3 9) 4 99))] cf H _ := w
  refine b_putF C hin 0 (ci := 7) (k := 9) (Nat.le_of_ble_eq_true rfl) rfl rfl (Nat.le_of_ble_eq_true rfl) ln_Md_29 rfl rfl rfl rfl (Nat.le_of_ble_eq_true rfl) dn_Md_85 w (fun H locs w => ?_)
  have w : Bw g s o [.inr (7, [.ref (gB g + (o + 1)), .ref (gB g + (o + 2)), .ref (gB g + (o + 3)), .int 0, .int 0, .ref (gB g + (o + 4)), .ref (gB g + (o + 5)), .ref (gB g + (o + 6)), .int 0, .ref (gB g + (o + 7)), .null, .null, .int 0, .int 0, .null]), .inl (gC g 0, 429, .inl (fun _ => 0)), .inl (gC g 0, 429, .inl (fun _ => 0)), .inl (gC g 0, 2574, .inl (fun _ => 0)), .inl (gC g 0, 858, .inl (fun _ => 0)), .inl (gC g 1, 2, .inl (fun _ => 0)), .inl (gC g 0, 80, .inl (fun _ => 0)), .inl (gC g 0, 5, .inl (upd (upd (upd (upd (upd (fun _ => 0) 0 10000) 1 100) 2 10) 3 9) 4 99))] cf H _ := w
  refine lv_aload_n hx hb dn_Md_88 rfl (lv_at hl 0 rfl) ?_
  refine lv_bipush (v := 24) hx hb dn_Md_89 (by decide) ?_
  refine b_newa C (q := 0) (N := 24) (Nat.le_of_ble_eq_true rfl) rfl rfl rfl dn_Md_91 hTa.1 (by decide) (by decide) (Nat.le_of_ble_eq_true rfl) (by rw [hrc]; exact Nat.le_of_ble_eq_true rfl) (by rw [hrs]; exact Nat.le_of_ble_eq_true rfl) w (fun H w => ?_)
  have w : Bw g s o [.inr (7, [.ref (gB g + (o + 1)), .ref (gB g + (o + 2)), .ref (gB g + (o + 3)), .int 0, .int 0, .ref (gB g + (o + 4)), .ref (gB g + (o + 5)), .ref (gB g + (o + 6)), .int 0, .ref (gB g + (o + 7)), .null, .null, .int 0, .int 0, .null]), .inl (gC g 0, 429, .inl (fun _ => 0)), .inl (gC g 0, 429, .inl (fun _ => 0)), .inl (gC g 0, 2574, .inl (fun _ => 0)), .inl (gC g 0, 858, .inl (fun _ => 0)), .inl (gC g 1, 2, .inl (fun _ => 0)), .inl (gC g 0, 80, .inl (fun _ => 0)), .inl (gC g 0, 5, .inl (upd (upd (upd (upd (upd (fun _ => 0) 0 10000) 1 100) 2 10) 3 9) 4 99)), .inl (gC g 0, 24, .inl (fun _ => 0))] cf H _ := w
  refine b_putF C hin 0 (ci := 7) (k := 10) (Nat.le_of_ble_eq_true rfl) rfl rfl (Nat.le_of_ble_eq_true rfl) ln_Md_32 rfl rfl rfl rfl (Nat.le_of_ble_eq_true rfl) dn_Md_93 w (fun H locs w => ?_)
  have w : Bw g s o [.inr (7, [.ref (gB g + (o + 1)), .ref (gB g + (o + 2)), .ref (gB g + (o + 3)), .int 0, .int 0, .ref (gB g + (o + 4)), .ref (gB g + (o + 5)), .ref (gB g + (o + 6)), .int 0, .ref (gB g + (o + 7)), .ref (gB g + (o + 8)), .null, .int 0, .int 0, .null]), .inl (gC g 0, 429, .inl (fun _ => 0)), .inl (gC g 0, 429, .inl (fun _ => 0)), .inl (gC g 0, 2574, .inl (fun _ => 0)), .inl (gC g 0, 858, .inl (fun _ => 0)), .inl (gC g 1, 2, .inl (fun _ => 0)), .inl (gC g 0, 80, .inl (fun _ => 0)), .inl (gC g 0, 5, .inl (upd (upd (upd (upd (upd (fun _ => 0) 0 10000) 1 100) 2 10) 3 9) 4 99)), .inl (gC g 0, 24, .inl (fun _ => 0))] cf H _ := w
  refine lv_aload_n hx hb dn_Md_96 rfl (lv_at hl 0 rfl) ?_
  refine lv_bipush (v := 24) hx hb dn_Md_97 (by decide) ?_
  refine b_newa C (q := 0) (N := 24) (Nat.le_of_ble_eq_true rfl) rfl rfl rfl dn_Md_99 hTa.1 (by decide) (by decide) (Nat.le_of_ble_eq_true rfl) (by rw [hrc]; exact Nat.le_of_ble_eq_true rfl) (by rw [hrs]; exact Nat.le_of_ble_eq_true rfl) w (fun H w => ?_)
  have w : Bw g s o [.inr (7, [.ref (gB g + (o + 1)), .ref (gB g + (o + 2)), .ref (gB g + (o + 3)), .int 0, .int 0, .ref (gB g + (o + 4)), .ref (gB g + (o + 5)), .ref (gB g + (o + 6)), .int 0, .ref (gB g + (o + 7)), .ref (gB g + (o + 8)), .null, .int 0, .int 0, .null]), .inl (gC g 0, 429, .inl (fun _ => 0)), .inl (gC g 0, 429, .inl (fun _ => 0)), .inl (gC g 0, 2574, .inl (fun _ => 0)), .inl (gC g 0, 858, .inl (fun _ => 0)), .inl (gC g 1, 2, .inl (fun _ => 0)), .inl (gC g 0, 80, .inl (fun _ => 0)), .inl (gC g 0, 5, .inl (upd (upd (upd (upd (upd (fun _ => 0) 0 10000) 1 100) 2 10) 3 9) 4 99)), .inl (gC g 0, 24, .inl (fun _ => 0)), .inl (gC g 0, 24, .inl (fun _ => 0))] cf H _ := w
  refine b_putF C hin 0 (ci := 7) (k := 11) (Nat.le_of_ble_eq_true rfl) rfl rfl (Nat.le_of_ble_eq_true rfl) ln_Md_35 rfl rfl rfl rfl (Nat.le_of_ble_eq_true rfl) dn_Md_101 w (fun H locs w => ?_)
  have w : Bw g s o [.inr (7, [.ref (gB g + (o + 1)), .ref (gB g + (o + 2)), .ref (gB g + (o + 3)), .int 0, .int 0, .ref (gB g + (o + 4)), .ref (gB g + (o + 5)), .ref (gB g + (o + 6)), .int 0, .ref (gB g + (o + 7)), .ref (gB g + (o + 8)), .ref (gB g + (o + 9)), .int 0, .int 0, .null]), .inl (gC g 0, 429, .inl (fun _ => 0)), .inl (gC g 0, 429, .inl (fun _ => 0)), .inl (gC g 0, 2574, .inl (fun _ => 0)), .inl (gC g 0, 858, .inl (fun _ => 0)), .inl (gC g 1, 2, .inl (fun _ => 0)), .inl (gC g 0, 80, .inl (fun _ => 0)), .inl (gC g 0, 5, .inl (upd (upd (upd (upd (upd (fun _ => 0) 0 10000) 1 100) 2 10) 3 9) 4 99)), .inl (gC g 0, 24, .inl (fun _ => 0)), .inl (gC g 0, 24, .inl (fun _ => 0))] cf H _ := w
  refine lv_aload_n hx hb dn_Md_104 rfl (lv_at hl 0 rfl) ?_
  refine lv_iconst (v := 4) hx hb dn_Md_105 (by decide) ?_
  refine b_newa C (q := 0) (N := 4) (Nat.le_of_ble_eq_true rfl) rfl rfl rfl dn_Md_106 hTa.1 (by decide) (by decide) (Nat.le_of_ble_eq_true rfl) (by rw [hrc]; exact Nat.le_of_ble_eq_true rfl) (by rw [hrs]; exact Nat.le_of_ble_eq_true rfl) w (fun H w => ?_)
  have w : Bw g s o [.inr (7, [.ref (gB g + (o + 1)), .ref (gB g + (o + 2)), .ref (gB g + (o + 3)), .int 0, .int 0, .ref (gB g + (o + 4)), .ref (gB g + (o + 5)), .ref (gB g + (o + 6)), .int 0, .ref (gB g + (o + 7)), .ref (gB g + (o + 8)), .ref (gB g + (o + 9)), .int 0, .int 0, .null]), .inl (gC g 0, 429, .inl (fun _ => 0)), .inl (gC g 0, 429, .inl (fun _ => 0)), .inl (gC g 0, 2574, .inl (fun _ => 0)), .inl (gC g 0, 858, .inl (fun _ => 0)), .inl (gC g 1, 2, .inl (fun _ => 0)), .inl (gC g 0, 80, .inl (fun _ => 0)), .inl (gC g 0, 5, .inl (upd (upd (upd (upd (upd (fun _ => 0) 0 10000) 1 100) 2 10) 3 9) 4 99)), .inl (gC g 0, 24, .inl (fun _ => 0)), .inl (gC g 0, 24, .inl (fun _ => 0)), .inl (gC g 0, 4, .inl (fun _ => 0))] cf H _ := w
  refine b_putF C hin 0 (ci := 7) (k := 14) (Nat.le_of_ble_eq_true rfl) rfl rfl (Nat.le_of_ble_eq_true rfl) ln_Md_38 rfl rfl rfl rfl (Nat.le_of_ble_eq_true rfl) dn_Md_108 w (fun H locs w => ?_)
  have w : Bw g s o [.inr (7, [.ref (gB g + (o + 1)), .ref (gB g + (o + 2)), .ref (gB g + (o + 3)), .int 0, .int 0, .ref (gB g + (o + 4)), .ref (gB g + (o + 5)), .ref (gB g + (o + 6)), .int 0, .ref (gB g + (o + 7)), .ref (gB g + (o + 8)), .ref (gB g + (o + 9)), .int 0, .int 0, .ref (gB g + (o + 10))]), .inl (gC g 0, 429, .inl (fun _ => 0)), .inl (gC g 0, 429, .inl (fun _ => 0)), .inl (gC g 0, 2574, .inl (fun _ => 0)), .inl (gC g 0, 858, .inl (fun _ => 0)), .inl (gC g 1, 2, .inl (fun _ => 0)), .inl (gC g 0, 80, .inl (fun _ => 0)), .inl (gC g 0, 5, .inl (upd (upd (upd (upd (upd (fun _ => 0) 0 10000) 1 100) 2 10) 3 9) 4 99)), .inl (gC g 0, 24, .inl (fun _ => 0)), .inl (gC g 0, 24, .inl (fun _ => 0)), .inl (gC g 0, 4, .inl (fun _ => 0))] cf H _ := w
  refine lv_aload_n hx hb dn_Md_111 rfl (lv_at hl 0 rfl) ?_
  refine b_get C 0 (ci := 7) (k := 0) (Nat.le_of_ble_eq_true rfl) rfl (Nat.le_of_ble_eq_true rfl) ln_Md_7 rfl dn_Md_112 w ?_
  refine lv_iconst (v := 0) hx hb dn_Md_115 (by decide) ?_
  refine lv_sipush (v := 3000) hx hb dn_Md_116 (by decide) ?_
  refine b_iast C 1 (ix := 0) rfl (by unfold vp_in; decide) (by decide) dn_Md_119 w (fun H locs w => ?_)
  have w : Bw g s o [.inr (7, [.ref (gB g + (o + 1)), .ref (gB g + (o + 2)), .ref (gB g + (o + 3)), .int 0, .int 0, .ref (gB g + (o + 4)), .ref (gB g + (o + 5)), .ref (gB g + (o + 6)), .int 0, .ref (gB g + (o + 7)), .ref (gB g + (o + 8)), .ref (gB g + (o + 9)), .int 0, .int 0, .ref (gB g + (o + 10))]), .inl (gC g 0, 429, .inl (upd (fun _ => 0) 0 3000)), .inl (gC g 0, 429, .inl (fun _ => 0)), .inl (gC g 0, 2574, .inl (fun _ => 0)), .inl (gC g 0, 858, .inl (fun _ => 0)), .inl (gC g 1, 2, .inl (fun _ => 0)), .inl (gC g 0, 80, .inl (fun _ => 0)), .inl (gC g 0, 5, .inl (upd (upd (upd (upd (upd (fun _ => 0) 0 10000) 1 100) 2 10) 3 9) 4 99)), .inl (gC g 0, 24, .inl (fun _ => 0)), .inl (gC g 0, 24, .inl (fun _ => 0)), .inl (gC g 0, 4, .inl (fun _ => 0))] cf H _ := w
  refine lv_aload_n hx hb dn_Md_120 rfl (lv_at hl 0 rfl) ?_
  refine b_get C 0 (ci := 7) (k := 0) (Nat.le_of_ble_eq_true rfl) rfl (Nat.le_of_ble_eq_true rfl) ln_Md_7 rfl dn_Md_121 w ?_
  refine lv_iconst (v := 1) hx hb dn_Md_124 (by decide) ?_
  refine lv_bipush (v := 20) hx hb dn_Md_125 (by decide) ?_
  refine b_iast C 1 (ix := 1) rfl (by unfold vp_in; decide) (by decide) dn_Md_127 w (fun H locs w => ?_)
  have w : Bw g s o [.inr (7, [.ref (gB g + (o + 1)), .ref (gB g + (o + 2)), .ref (gB g + (o + 3)), .int 0, .int 0, .ref (gB g + (o + 4)), .ref (gB g + (o + 5)), .ref (gB g + (o + 6)), .int 0, .ref (gB g + (o + 7)), .ref (gB g + (o + 8)), .ref (gB g + (o + 9)), .int 0, .int 0, .ref (gB g + (o + 10))]), .inl (gC g 0, 429, .inl (upd (upd (fun _ => 0) 0 3000) 1 20)), .inl (gC g 0, 429, .inl (fun _ => 0)), .inl (gC g 0, 2574, .inl (fun _ => 0)), .inl (gC g 0, 858, .inl (fun _ => 0)), .inl (gC g 1, 2, .inl (fun _ => 0)), .inl (gC g 0, 80, .inl (fun _ => 0)), .inl (gC g 0, 5, .inl (upd (upd (upd (upd (upd (fun _ => 0) 0 10000) 1 100) 2 10) 3 9) 4 99)), .inl (gC g 0, 24, .inl (fun _ => 0)), .inl (gC g 0, 24, .inl (fun _ => 0)), .inl (gC g 0, 4, .inl (fun _ => 0))] cf H _ := w
  refine lv_aload_n hx hb dn_Md_128 rfl (lv_at hl 0 rfl) ?_
  refine b_get C 0 (ci := 7) (k := 0) (Nat.le_of_ble_eq_true rfl) rfl (Nat.le_of_ble_eq_true rfl) ln_Md_7 rfl dn_Md_129 w ?_
  refine lv_iconst (v := 2) hx hb dn_Md_132 (by decide) ?_
  refine lv_iconst (v := 2) hx hb dn_Md_133 (by decide) ?_
  refine b_iast C 1 (ix := 2) rfl (by unfold vp_in; decide) (by decide) dn_Md_134 w (fun H locs w => ?_)
  have w : Bw g s o [.inr (7, [.ref (gB g + (o + 1)), .ref (gB g + (o + 2)), .ref (gB g + (o + 3)), .int 0, .int 0, .ref (gB g + (o + 4)), .ref (gB g + (o + 5)), .ref (gB g + (o + 6)), .int 0, .ref (gB g + (o + 7)), .ref (gB g + (o + 8)), .ref (gB g + (o + 9)), .int 0, .int 0, .ref (gB g + (o + 10))]), .inl (gC g 0, 429, .inl (upd (upd (upd (fun _ => 0) 0 3000) 1 20) 2 2)), .inl (gC g 0, 429, .inl (fun _ => 0)), .inl (gC g 0, 2574, .inl (fun _ => 0)), .inl (gC g 0, 858, .inl (fun _ => 0)), .inl (gC g 1, 2, .inl (fun _ => 0)), .inl (gC g 0, 80, .inl (fun _ => 0)), .inl (gC g 0, 5, .inl (upd (upd (upd (upd (upd (fun _ => 0) 0 10000) 1 100) 2 10) 3 9) 4 99)), .inl (gC g 0, 24, .inl (fun _ => 0)), .inl (gC g 0, 24, .inl (fun _ => 0)), .inl (gC g 0, 4, .inl (fun _ => 0))] cf H _ := w
  refine lv_aload_n hx hb dn_Md_135 rfl (lv_at hl 0 rfl) ?_
  refine b_get C 0 (ci := 7) (k := 0) (Nat.le_of_ble_eq_true rfl) rfl (Nat.le_of_ble_eq_true rfl) ln_Md_7 rfl dn_Md_136 w ?_
  refine lv_iconst (v := 3) hx hb dn_Md_139 (by decide) ?_
  refine lv_iconst (v := 3) hx hb dn_Md_140 (by decide) ?_
  refine b_iast C 1 (ix := 3) rfl (by unfold vp_in; decide) (by decide) dn_Md_141 w (fun H locs w => ?_)
  have w : Bw g s o [.inr (7, [.ref (gB g + (o + 1)), .ref (gB g + (o + 2)), .ref (gB g + (o + 3)), .int 0, .int 0, .ref (gB g + (o + 4)), .ref (gB g + (o + 5)), .ref (gB g + (o + 6)), .int 0, .ref (gB g + (o + 7)), .ref (gB g + (o + 8)), .ref (gB g + (o + 9)), .int 0, .int 0, .ref (gB g + (o + 10))]), .inl (gC g 0, 429, .inl (upd (upd (upd (upd (fun _ => 0) 0 3000) 1 20) 2 2) 3 3)), .inl (gC g 0, 429, .inl (fun _ => 0)), .inl (gC g 0, 2574, .inl (fun _ => 0)), .inl (gC g 0, 858, .inl (fun _ => 0)), .inl (gC g 1, 2, .inl (fun _ => 0)), .inl (gC g 0, 80, .inl (fun _ => 0)), .inl (gC g 0, 5, .inl (upd (upd (upd (upd (upd (fun _ => 0) 0 10000) 1 100) 2 10) 3 9) 4 99)), .inl (gC g 0, 24, .inl (fun _ => 0)), .inl (gC g 0, 24, .inl (fun _ => 0)), .inl (gC g 0, 4, .inl (fun _ => 0))] cf H _ := w
  refine lv_aload_n hx hb dn_Md_142 rfl (lv_at hl 0 rfl) ?_
  refine b_get C 0 (ci := 7) (k := 0) (Nat.le_of_ble_eq_true rfl) rfl (Nat.le_of_ble_eq_true rfl) ln_Md_7 rfl dn_Md_143 w ?_
  refine lv_iconst (v := 4) hx hb dn_Md_146 (by decide) ?_
  refine lv_bipush (v := 12) hx hb dn_Md_147 (by decide) ?_
  refine b_iast C 1 (ix := 4) rfl (by unfold vp_in; decide) (by decide) dn_Md_149 w (fun H locs w => ?_)
  have w : Bw g s o [.inr (7, [.ref (gB g + (o + 1)), .ref (gB g + (o + 2)), .ref (gB g + (o + 3)), .int 0, .int 0, .ref (gB g + (o + 4)), .ref (gB g + (o + 5)), .ref (gB g + (o + 6)), .int 0, .ref (gB g + (o + 7)), .ref (gB g + (o + 8)), .ref (gB g + (o + 9)), .int 0, .int 0, .ref (gB g + (o + 10))]), .inl (gC g 0, 429, .inl (upd (upd (upd (upd (upd (fun _ => 0) 0 3000) 1 20) 2 2) 3 3) 4 12)), .inl (gC g 0, 429, .inl (fun _ => 0)), .inl (gC g 0, 2574, .inl (fun _ => 0)), .inl (gC g 0, 858, .inl (fun _ => 0)), .inl (gC g 1, 2, .inl (fun _ => 0)), .inl (gC g 0, 80, .inl (fun _ => 0)), .inl (gC g 0, 5, .inl (upd (upd (upd (upd (upd (fun _ => 0) 0 10000) 1 100) 2 10) 3 9) 4 99)), .inl (gC g 0, 24, .inl (fun _ => 0)), .inl (gC g 0, 24, .inl (fun _ => 0)), .inl (gC g 0, 4, .inl (fun _ => 0))] cf H _ := w
  exact kk _ _ _ _ dn_Md_150 w
