/-! HISTORY'S CONSTRUCTOR -/
def hiB (g : Wg) (b t : Nat) (i : Nat) : va_E := match i with
  | 0 => .inr (5, [.ref (gB g + (b + 1)), .int 0, .int 0])
  | 1 => .inl (gC g 6, 7, .inr (.inr (.inr (.inr (fun q => if q < 7 ∧ q < t then some (gB g + (b + 2 + 47 * q)) else none)))))
  | r + 2 => stB g (b + 2 + 47 * (r / 47)) 42 (r % 47)
def hiC (g : Wg) (b t : Nat) (cf : Nat → va_E) : Nat → va_E := fun i => if i < b then cf i else hiB g b t (i - b)
theorem hiC_at {g : Wg} {b t k : Nat} {cf : Nat → va_E} : hiC g b t cf (b + k) = hiB g b t k := by
  unfold hiC
  rw [if_neg (by omega), Nat.add_sub_cancel_left]
theorem hiB_st {g : Wg} {b t u r : Nat} (hr : r < 47) : hiB g b t (2 + 47 * u + r) = stB g (b + 2 + 47 * u) 42 r := by
  rw [show 2 + 47 * u + r = (47 * u + r) + 2 by omega]
  show stB g (b + 2 + 47 * ((47 * u + r) / 47)) 42 ((47 * u + r) % 47) = _
  rw [show (47 * u + r) / 47 = u by omega, show (47 * u + r) % 47 = r by omega]
/-- a State made at place b: its block over the world before -/
theorem stC_cup {g : Wg} {b i : Nat} {cf : Nat → va_E} {e : va_E} (h : i < b) : stC g b 42 (cup cf b e) i = cf i := by
  unfold stC cup
  rw [if_pos h, if_neg (by omega)]
theorem stC_ge {g : Wg} {b i : Nat} {cf : Nat → va_E} (h : ¬ i < b) : stC g b 42 cf i = stB g b 42 (i - b) := by
  unfold stC
  rw [if_neg h]
theorem hi_new {g : Wg} {b t i : Nat} {cf : Nat → va_E} {e : va_E} (hi : i < b + 2 + 47 * t + 47) : stC g (b + 2 + 47 * t) 42 (cup (hiC g b t cf) (b + 2 + 47 * t) e) i = hiC g b t cf i := by
  by_cases h : i < b + 2 + 47 * t
  · rw [stC_cup h]
  · rw [stC_ge h]
    obtain ⟨r, rfl⟩ : ∃ r, i = b + (2 + 47 * t + r) := ⟨i - (b + 2 + 47 * t), by omega⟩
    rw [hiC_at, hiB_st (by omega)]
    congr 1
    omega
theorem hi_up {g : Wg} {b t i : Nat} {cf : Nat → va_E} (ht : t < 7) : cup (hiC g b t cf) (b + 1) (.inl (gC g 6, 7, .inr (.inr (.inr (.inr (va_up (fun q => if q < 7 ∧ q < t then some (gB g + (b + 2 + 47 * q)) else none) (nI t).toNatClampNeg (some (gB g + (b + 2 + 47 * t))))))))) i = hiC g b (t + 1) cf i := by
  unfold cup
  by_cases h : i = b + 1
  · rw [if_pos h, h, hiC_at]
    refine congrArg (fun f => (.inl (gC g 6, 7, .inr (.inr (.inr (.inr f)))) : va_E)) (funext fun q => ?_)
    unfold va_up
    rw [nI_clamp (by omega)]
    by_cases hq : q = t
    · rw [if_pos hq, if_pos (by omega), hq]
    · rw [if_neg hq]
      exact ifp_c (by omega)
  · rw [if_neg h]
    unfold hiC
    by_cases h2 : i < b
    · rw [if_pos h2, if_pos h2]
    · rw [if_neg h2, if_neg h2]
      obtain ⟨j, rfl⟩ : ∃ j, i = b + j := ⟨i - b, by omega⟩
      rw [Nat.add_sub_cancel_left]
      match j with
      | 0 => rfl
      | 1 => exact absurd rfl h
      | j + 2 => rfl
theorem hi_head {g : Wg} {b t : Nat} {cf : Nat → va_E} : hiC g b t cf (b + 2 + 47 * t) = stB g (b + 2 + 47 * t) 42 0 := (congrArg (hiC g b t cf) (show b + 2 + 47 * t = b + (2 + 47 * t + 0) by omega)).trans (hiC_at.trans (hiB_st (by decide)))
theorem hi_start {g : Wg} {b i : Nat} {cf : Nat → va_E} (hi : i < b + 2) : bl b [.inr (5, [.ref (gB g + (b + 1)), .int 0, .int 0]), .inl (gC g 6, 7, .inr (.inr (.inr (.inr (fun _ => none)))))] cf i = hiC g b 0 cf i := by
  unfold bl hiC
  by_cases h : i < b
  · rw [if_pos h, if_pos h]
  · rw [if_neg h, if_neg h]
    obtain ⟨j, rfl⟩ : ∃ j, i = b + j := ⟨i - b, by omega⟩
    rw [Nat.add_sub_cancel_left]
    rcases (show j = 0 ∨ j = 1 by omega) with rfl | rfl
    · rfl
    · refine congrArg (fun f => (.inl (gC g 6, 7, .inr (.inr (.inr (.inr f)))) : va_E)) (funext fun q => ?_)
      exact (if_neg (by omega)).symm
set_option maxHeartbeats 4000000 in
theorem Hi_l {g : Wg} {p : Program} {e : Env} {R : Room} {s : State} {m : MethodId} {args : Array Value} {below : List Frame} {meth : Method} {c : Code} {Q : State → Prop} {o : Nat} {cf : Nat → va_E} (C : Cx g h_Hi_init p R s m c) (hrc : R.cells = 330) (hrs : R.slots = 4991) (KK : ∀ H locs ls, Cw g s (o + 331) (hiC g o 7 cf) H locs → W p (gL g) e R s m args below meth c H locs 330 4991 Q (F0 m 40 ls [])) :
    ∀ (n j : Nat) (H : Heap) (locs : List Loc) (ls : Array Slot), j + n = 7 → Cw g s (o + 2 + 47 * j) (hiC g o j cf) H locs → lv_has ls 2 [(1, .int (nI j)), (0, .ref (gB g + o))] → W p (gL g) e R s m args below meth c H locs (1 + 47 * j) (7 + 712 * j) Q (F0 m 15 ls []) := by
  have hx := C.1
  have hb := C.2.1
  intro n
  induction n with
  | zero =>
    intro j H locs ls hj w hl
    have hj : j = 7 := by omega
    subst hj
    refine lv_iload_n hx hb dn_Hi_15 rfl (lv_at hl 0 rfl) ?_
    refine lv_bipush (v := 7) hx hb dn_Hi_16 (by decide) ?_
    refine lv_icmp_ge (tgt := 40) hx hb dn_Hi_18 (by decide) (fun _ => ?_) (fun q => absurd (by decide) q)
    exact KK H locs ls w
  | succ n ih =>
    intro j H locs ls hj w hl
    have hlt : j < 7 := by omega
    refine lv_iload_n hx hb dn_Hi_15 rfl (lv_at hl 0 rfl) ?_
    refine lv_bipush (v := 7) hx hb dn_Hi_16 (by decide) ?_
    refine lv_icmp_ge (tgt := 40) hx hb dn_Hi_18 (by decide) (fun q => ?_) (fun _ => ?_)
    · exact absurd q (nI_ge (b := 7) hlt (by decide))
    refine lv_aload_n hx hb dn_Hi_21 rfl (lv_at hl 1 rfl) ?_
    refine w_get C (o := o) (ci := 5) (k := 0) (v := .ref (gB g + (o + 1))) (by decide) (by omega) (hiC_at (k := 0)) (by decide) ln_Hi_13 rfl dn_Hi_22 w ?_
    refine lv_iload_n hx hb dn_Hi_25 rfl (lv_at hl 0 rfl) ?_
    refine w_new C (ci := 1) (fs := df_1) (by decide) dn_Hi_26 ln_Hi_11 cn_1 cz_1 dv_1 (by rw [hrc]; omega) (by rw [hrs]; show _ + 12 ≤ _; omega) w (fun H w => ?_)
    refine lv_dup hx hb dn_Hi_29 rfl ?_
    refine w_init C (hd := h_St_init) (o := o + 2 + 47 * j) (K_St_init (if_pos rfl)) rfl hl.1 dn_Hi_30 hk_St_init rfl rfl (Nat.le_of_ble_eq_true rfl) (Nat.le_of_ble_eq_true rfl) ln_Hi_17 hi_St_init (Nat.le_of_ble_eq_true rfl) (by rw [hrc, hrs]; constructor <;> (try show _ + 12 + 700 ≤ _) <;> omega) w (fun H locs w => ?_)
    have w := w.eq (n' := o + 2 + 47 * j + 47) (cf' := hiC g o j cf) rfl (fun i hi => hi_new hi)
    refine w_aast C (o := o + 1) (q := 6) (ci := 1) (v := o + 2 + 47 * j) (by decide) (by decide) rfl (by omega) hiC_at (by omega) hi_head (vp_in_nI hlt (by decide)) dn_Hi_33 w (fun H locs w => ?_)
    have w := w.eq (n' := o + 2 + 47 * (j + 1)) (cf' := hiC g o (j + 1) cf) (by omega) (fun i _ => hi_up hlt)
    refine lv_iinc (v := nI (j + 1)) (lv' := [(1, .int (nI (j + 1))), (0, .ref (gB g + o))]) hx hb dn_Hi_34 hl (k := 0) rfl (nI_1 j) (by decide) rfl (fun ls hl => ?_)
    refine lv_goto (tgt := 15) hx hb dn_Hi_37 (by decide) ?_
    refine W.widen (k := 1 + 47 * (j + 1)) (n := 7 + 712 * (j + 1)) (by omega) (by show _ + 12 + 700 ≤ _; omega) ?_
    exact ih (j + 1) H locs ls (by omega) w hl
set_option maxHeartbeats 4000000 in
theorem K_Hi_init {g : Wg} {o : Nat} {cf : Nat → va_E} (hcf : cf o = .inr (5, df_5)) : Con g h_Hi_init o (o + 331) 330 4991 cf (hiC g o 7 cf) := by
  refine Con.of rfl rfl rfl (Nat.le_of_ble_eq_true rfl) ?_
  intro p e R s m args below meth c H ls Q C hin hrc hrs w hl kk
  have hx := C.1
  have hb := C.2.1
  have hTa := C.2.2.2.2.2.2.2.2
  have w := Bw.start w hcf
  refine lv_aload_n hx hb dn_Hi_0 rfl (lv_at hl 0 rfl) ?_
  refine w_obj C hl.1 dn_Hi_1 ho_Hi_init (Nat.le_of_ble_eq_true rfl) (Nat.le_of_ble_eq_true rfl) ?_
  refine lv_aload_n hx hb dn_Hi_4 rfl (lv_at hl 0 rfl) ?_
  refine lv_bipush (v := 7) hx hb dn_Hi_5 (by decide) ?_
  refine b_anew C (q := 6) (N := 7) (Nat.le_of_ble_eq_true rfl) rfl dn_Hi_7 ln_Hi_11 hTa.2.2.2.2.2.2 (by decide) (by decide) (Nat.le_of_ble_eq_true rfl) (by rw [hrc]; exact Nat.le_of_ble_eq_true rfl) (by rw [hrs]; exact Nat.le_of_ble_eq_true rfl) w (fun H w => ?_)
  have w : Bw g s o [.inr (5, df_5), .inl (gC g 6, 7, .inr (.inr (.inr (.inr (fun _ => none)))))] cf H _ := w
  refine b_putF C hin 0 (ci := 5) (k := 0) (Nat.le_of_ble_eq_true rfl) rfl rfl (Nat.le_of_ble_eq_true rfl) ln_Hi_13 rfl rfl rfl rfl (Nat.le_of_ble_eq_true rfl) dn_Hi_10 w (fun H locs w => ?_)
  have w : Bw g s o [.inr (5, [.ref (gB g + (o + 1)), .int 0, .int 0]), .inl (gC g 6, 7, .inr (.inr (.inr (.inr (fun _ => none)))))] cf H _ := w
  have w := w.eq (n' := o + 2 + 47 * 0) (cf' := hiC g o 0 cf) rfl (fun i hi => hi_start hi)
  refine lv_iconst (v := 0) hx hb dn_Hi_13 (by decide) ?_
  refine lv_istore_n (lv' := [(1, .int 0), (0, .ref (gB g + o))]) hx hb dn_Hi_14 rfl hl (by decide) rfl (fun ls hl => ?_)
  refine W.widen (k := 1 + 47 * 0) (n := 7 + 712 * 0) (Nat.le_of_ble_eq_true rfl) (Nat.le_of_ble_eq_true rfl) ?_
  exact Hi_l C hrc hrs (fun H locs ls w => kk _ _ _ _ dn_Hi_40 w) 7 0 _ _ ls rfl w hl
