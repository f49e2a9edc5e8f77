/-! CONSTRUCTORS that walk straight (laid by a program) -/
set_option maxHeartbeats 4000000 in
theorem K_Rm_init {g : Wg} {o : Nat} {cf : Nat → va_E} (hcf : cf o = .inr (2, df_2)) : Con g h_Rm_init o (o + 1) 0 0 cf (bl o [.inr (2, [.int 0, .int 0, .int 0, .int 0])] cf) := by
  refine Con.of rfl rfl rfl (Nat.le_of_ble_eq_true rfl) ?_
  intro p e R s m args below meth c H ls Q C hin hrc hrs w hl kk
  have hx := C.1
  have hb := C.2.1
  have hTa := C.2.2.2.2.2.2.2.2
  have w := Bw.start w hcf
  refine lv_aload_n hx hb dn_Rm_0 rfl (lv_at hl 0 rfl) ?_
  refine w_obj C hl.1 dn_Rm_1 ho_Rm_init (Nat.le_of_ble_eq_true rfl) (Nat.le_of_ble_eq_true rfl) ?_
  exact kk _ _ _ _ dn_Rm_4 w
set_option maxHeartbeats 4000000 in
theorem K_Ca_init {g : Wg} {o : Nat} {cf : Nat → va_E} (hcf : cf o = .inr (3, df_3)) : Con g h_Ca_init o (o + 1) 0 0 cf (bl o [.inr (3, [.int 0, .int 0, .int 0, .int 0, .int 0])] cf) := by
  refine Con.of rfl rfl rfl (Nat.le_of_ble_eq_true rfl) ?_
  intro p e R s m args below meth c H ls Q C hin hrc hrs w hl kk
  have hx := C.1
  have hb := C.2.1
  have hTa := C.2.2.2.2.2.2.2.2
  have w := Bw.start w hcf
  refine lv_aload_n hx hb dn_Ca_0 rfl (lv_at hl 0 rfl) ?_
  refine w_obj C hl.1 dn_Ca_1 ho_Ca_init (Nat.le_of_ble_eq_true rfl) (Nat.le_of_ble_eq_true rfl) ?_
  exact kk _ _ _ _ dn_Ca_4 w
set_option maxHeartbeats 4000000 in
theorem K_Ch_init {g : Wg} {o : Nat} {cf : Nat → va_E} (hcf : cf o = .inr (4, df_4)) : Con g h_Ch_init o (o + 1) 0 0 cf (bl o [.inr (4, [.int 0, .int 0, .int 0, .int 0, .int 0, .int 0, .int 0, .int 0, .int 0, .int 0, .int 0, .int 0, .int 0, .int 0])] cf) := by
  refine Con.of rfl rfl rfl (Nat.le_of_ble_eq_true rfl) ?_
  intro p e R s m args below meth c H ls Q C hin hrc hrs w hl kk
  have hx := C.1
  have hb := C.2.1
  have hTa := C.2.2.2.2.2.2.2.2
  have w := Bw.start w hcf
  refine lv_aload_n hx hb dn_Ch_0 rfl (lv_at hl 0 rfl) ?_
  refine w_obj C hl.1 dn_Ch_1 ho_Ch_init (Nat.le_of_ble_eq_true rfl) (Nat.le_of_ble_eq_true rfl) ?_
  exact kk _ _ _ _ dn_Ch_4 w
set_option maxHeartbeats 4000000 in
theorem K_Pd_init {g : Wg} {o : Nat} {cf : Nat → va_E} (hcf : cf o = .inr (6, df_6)) : Con g h_Pd_init o (o + 3) 2 84 cf (bl o [.inr (6, [.ref (gB g + (o + 1)), .int 0, .int 0, .int 0, .ref (gB g + (o + 2)), .int 0]), .inl (gC g 2, 80, .inl (fun _ => 0)), .inl (gC g 0, 4, .inl (fun _ => 0))] cf) := by
  refine Con.of rfl rfl rfl (Nat.le_of_ble_eq_true rfl) ?_
  intro p e R s m args below meth c H ls Q C hin hrc hrs w hl kk
  have hx := C.1
  have hb := C.2.1
  have hTa := C.2.2.2.2.2.2.2.2
  have w := Bw.start w hcf
  refine lv_aload_n hx hb dn_Pd_0 rfl (lv_at hl 0 rfl) ?_
  refine w_obj C hl.1 dn_Pd_1 ho_Pd_init (Nat.le_of_ble_eq_true rfl) (Nat.le_of_ble_eq_true rfl) ?_
  refine lv_aload_n hx hb dn_Pd_4 rfl (lv_at hl 0 rfl) ?_
  refine lv_bipush (v := 80) hx hb dn_Pd_5 (by decide) ?_
  refine b_newa C (q := 2) (N := 80) (Nat.le_of_ble_eq_true rfl) rfl rfl rfl dn_Pd_7 hTa.2.2.1 (by decide) (by decide) (Nat.le_of_ble_eq_true rfl) (by rw [hrc]; exact Nat.le_of_ble_eq_true rfl) (by rw [hrs]; exact Nat.le_of_ble_eq_true rfl) w (fun H w => ?_)
  have w : Bw g s o [.inr (6, [.null, .int 0, .int 0, .int 0, .null, .int 0]), .inl (gC g 2, 80, .inl (fun _ => 0))] cf H _ := w
  refine b_putF C hin 0 (ci := 6) (k := 0) (Nat.le_of_ble_eq_true rfl) rfl rfl (Nat.le_of_ble_eq_true rfl) ln_Pd_9 rfl rfl rfl rfl (Nat.le_of_ble_eq_true rfl) dn_Pd_9 w (fun H locs w => ?_)
  have w : Bw g s o [.inr (6, [.ref (gB g + (o + 1)), .int 0, .int 0, .int 0, .null, .int 0]), .inl (gC g 2, 80, .inl (fun _ => 0))] cf H _ := w
  refine lv_aload_n hx hb dn_Pd_12 rfl (lv_at hl 0 rfl) ?_
  refine lv_iconst (v := 4) hx hb dn_Pd_13 (by decide) ?_
  refine b_newa C (q := 0) (N := 4) (Nat.le_of_ble_eq_true rfl) rfl rfl rfl dn_Pd_14 hTa.1 (by decide) (by decide) (Nat.le_of_ble_eq_true rfl) (by rw [hrc]; exact Nat.le_of_ble_eq_true rfl) (by rw [hrs]; exact Nat.le_of_ble_eq_true rfl) w (fun H w => ?_)
  have w : Bw g s o [.inr (6, [.ref (gB g + (o + 1)), .int 0, .int 0, .int 0, .null, .int 0]), .inl (gC g 2, 80, .inl (fun _ => 0)), .inl (gC g 0, 4, .inl (fun _ => 0))] cf H _ := w
  refine b_putF C hin 0 (ci := 6) (k := 4) (Nat.le_of_ble_eq_true rfl) rfl rfl (Nat.le_of_ble_eq_true rfl) ln_Pd_15 rfl rfl rfl rfl (Nat.le_of_ble_eq_true rfl) dn_Pd_16 w (fun H locs w => ?_)
  have w : Bw g s o [.inr (6, [.ref (gB g + (o + 1)), .int 0, .int 0, .int 0, .ref (gB g + (o + 2)), .int 0]), .inl (gC g 2, 80, .inl (fun _ => 0)), .inl (gC g 0, 4, .inl (fun _ => 0))] cf H _ := w
  exact kk _ _ _ _ dn_Pd_19 w
