/-! STATE'S CONSTRUCTOR (laid by a program) -/
theorem ifp_c {α : Type} {A B : Prop} [Decidable A] [Decidable B] {a b : α} (h : A ↔ B) : (if A then a else b) = if B then a else b := by
  by_cases hp : A
  · rw [if_pos hp, if_pos (h.mp hp)]
  · rw [if_neg hp, if_neg (fun q => hp (h.mpr q))]
def stV : Nat → Int32 := upd (upd (upd (upd (upd (fun _ => 0) 0 3000) 1 20) 2 2) 3 3) 4 12
/-- the cells of a State at place b, when t of its rooms, carers and children are there -/
def stB (g : Wg) (b t : Nat) (i : Nat) : va_E := match i with
  | 0 => .inr (1, [.ref (gB g + (b + 1)), .ref (gB g + (b + 2)), .ref (gB g + (b + 3)), .ref (gB g + (b + 4)), .int 0, .int 0, .int 0, .int 0, .int 0, .int 0, .int 0, .int 0])
  | 1 => .inl (gC g 0, 5, .inl stV)
  | 2 => .inl (gC g 3, 5, .inr (.inr (.inr (.inr (fun q => if q < 5 ∧ q < t then some (gB g + (b + 5 + q)) else none)))))
  | 3 => .inl (gC g 4, 13, .inr (.inr (.inr (.inr (fun q => if q < 13 ∧ q + 5 < t then some (gB g + (b + 10 + q)) else none)))))
  | 4 => .inl (gC g 5, 24, .inr (.inr (.inr (.inr (fun q => if q < 24 ∧ q + 18 < t then some (gB g + (b + 23 + q)) else none)))))
  | i + 5 => if i < 5 then .inr (2, df_2) else if i < 18 then .inr (3, df_3) else .inr (4, df_4)
def stC (g : Wg) (b t : Nat) (cf : Nat → va_E) : Nat → va_E := fun i => if i < b then cf i else stB g b t (i - b)
theorem stC_at {g : Wg} {b t k : Nat} {cf : Nat → va_E} : stC g b t cf (b + k) = stB g b t k := by
  unfold stC
  rw [if_neg (by omega), Nat.add_sub_cancel_left]
theorem stB_5 {g : Wg} {b t k : Nat} : stB g b t (5 + k) = if k < 5 then .inr (2, df_2) else if k < 18 then .inr (3, df_3) else .inr (4, df_4) := by
  rw [Nat.add_comm]
  rfl
theorem st_new {g : Wg} {b t i : Nat} {cf : Nat → va_E} {e : va_E} (he : stB g b t (5 + t) = e) : cup (stC g b t cf) (b + 5 + t) e i = stC g b t cf i := by
  unfold cup
  by_cases h : i = b + 5 + t
  · rw [if_pos h, h, ← he, Nat.add_assoc, stC_at]
  · rw [if_neg h]
theorem st_bl {g : Wg} {b t i : Nat} {cf : Nat → va_E} {e : va_E} (he : stB g b t (5 + t) = e) (hi : i < b + 5 + t + 1) : bl (b + 5 + t) [e] (stC g b t cf) i = stC g b t cf i := by
  unfold bl
  by_cases h : i < b + 5 + t
  · rw [if_pos h]
  · rw [if_neg h, show i = b + (5 + t) by omega, stC_at, he, show b + (5 + t) - (b + 5 + t) = 0 by omega]
    rfl
theorem st_up {g : Wg} {b t k i : Nat} {cf : Nat → va_E} {e : va_E} (hk : stB g b (t + 1) k = e) (ho : ∀ j, ¬ j = k → stB g b t j = stB g b (t + 1) j) : cup (stC g b t cf) (b + k) e i = stC g b (t + 1) cf i := by
  unfold cup
  by_cases h : i = b + k
  · rw [if_pos h, h, stC_at, hk]
  · rw [if_neg h]
    unfold stC
    by_cases h2 : i < b
    · rw [if_pos h2, if_pos h2]
    · rw [if_neg h2, if_neg h2, ho _ (by omega)]
theorem st_ot {g : Wg} {b t k : Nat} (hk : (k = 2 ∧ t < 5) ∨ (k = 3 ∧ 5 ≤ t ∧ t < 18) ∨ (k = 4 ∧ 18 ≤ t ∧ t < 42)) : ∀ j, ¬ j = k → stB g b t j = stB g b (t + 1) j := by
  intro j hj
  match j with
  | 0 => rfl
  | 1 => rfl
  | 2 =>
    refine congrArg (fun f => (.inl (gC g 3, 5, .inr (.inr (.inr (.inr f)))) : va_E)) (funext fun q => ?_)
    exact ifp_c (by omega)
  | 3 =>
    refine congrArg (fun f => (.inl (gC g 4, 13, .inr (.inr (.inr (.inr f)))) : va_E)) (funext fun q => ?_)
    exact ifp_c (by omega)
  | 4 =>
    refine congrArg (fun f => (.inl (gC g 5, 24, .inr (.inr (.inr (.inr f)))) : va_E)) (funext fun q => ?_)
    exact ifp_c (by omega)
  | j + 5 => rfl
theorem St_u1 {g : Wg} {o j : Nat} (hlt : j < 5) : stB g o (0 + j + 1) 2 = .inl (gC g 3, 5, .inr (.inr (.inr (.inr (va_up (fun x => if x < 5 ∧ x < 0 + j then some (gB g + (o + 5 + x)) else none) (nI j).toNatClampNeg (some (gB g + (o + 5 + (0 + j)))))))))  := by
  refine congrArg (fun f => (.inl (gC g 3, 5, .inr (.inr (.inr (.inr f)))) : va_E)) (funext fun x => ?_)
  unfold va_up
  rw [nI_clamp (by omega)]
  by_cases hq : x = j
  · rw [if_pos hq, if_pos (by omega), hq]
    congr 1
    omega
  · rw [if_neg hq]
    exact ifp_c (by omega)
theorem St_u2 {g : Wg} {o j : Nat} (hlt : j < 13) : stB g o (5 + j + 1) 3 = .inl (gC g 4, 13, .inr (.inr (.inr (.inr (va_up (fun x => if x < 13 ∧ x + 5 < 5 + j then some (gB g + (o + 10 + x)) else none) (nI j).toNatClampNeg (some (gB g + (o + 5 + (5 + j)))))))))  := by
  refine congrArg (fun f => (.inl (gC g 4, 13, .inr (.inr (.inr (.inr f)))) : va_E)) (funext fun x => ?_)
  unfold va_up
  rw [nI_clamp (by omega)]
  by_cases hq : x = j
  · rw [if_pos hq, if_pos (by omega), hq]
    congr 1
    omega
  · rw [if_neg hq]
    exact ifp_c (by omega)
theorem St_u3 {g : Wg} {o j : Nat} (hlt : j < 24) : stB g o (18 + j + 1) 4 = .inl (gC g 5, 24, .inr (.inr (.inr (.inr (va_up (fun x => if x < 24 ∧ x + 18 < 18 + j then some (gB g + (o + 23 + x)) else none) (nI j).toNatClampNeg (some (gB g + (o + 5 + (18 + j)))))))))  := by
  refine congrArg (fun f => (.inl (gC g 5, 24, .inr (.inr (.inr (.inr f)))) : va_E)) (funext fun x => ?_)
  unfold va_up
  rw [nI_clamp (by omega)]
  by_cases hq : x = j
  · rw [if_pos hq, if_pos (by omega), hq]
    congr 1
    omega
  · rw [if_neg hq]
    exact ifp_c (by omega)
set_option maxHeartbeats 4000000 in
theorem St_l1 {g : Wg} {p : Program} {e : Env} {R : Room} {s : State} {m : MethodId} {args : Array Value} {below : List Frame} {meth : Method} {c : Code} {Q : State → Prop} {o : Nat} {cf : Nat → va_E} (C : Cx g h_St_init p R s m c) (hrc : R.cells = 46) (hrs : R.slots = 700) (KK : ∀ H locs ls, Cw g s (o + 5 + 5) (stC g o 5 cf) H locs → lv_has ls 2 [(0, .ref (gB g + o))] → W p (gL g) e R s m args below meth c H locs 9 117 Q (F0 m 87 ls [])) :
    ∀ (n j : Nat) (H : Heap) (locs : List Loc) (ls : Array Slot), j + n = 5 → Cw g s (o + 5 + (0 + j)) (stC g o (0 + j) cf) H locs → lv_has ls 2 [(1, .int (nI j)), (0, .ref (gB g + o))] → W p (gL g) e R s m args below meth c H locs (4 + (0 + j)) (47 + 14 * (0 + j)) Q (F0 m 63 ls []) := by
  have hx := C.1
  have hb := C.2.1
  intro n
  induction n with
  | zero =>
    intro j H locs ls hj w hl
    have hj : j = 5 := by omega
    subst hj
    refine lv_iload_n hx hb dn_St_63 rfl (lv_at hl 0 rfl) ?_
    refine lv_iconst (v := 5) hx hb dn_St_64 (by decide) ?_
    refine lv_icmp_ge (tgt := 87) hx hb dn_St_65 (by decide) (fun _ => ?_) (fun q => absurd (by decide) q)
    exact KK H locs ls w (lv_sub hl [1] rfl)
  | succ n ih =>
    intro j H locs ls hj w hl
    have hlt : j < 5 := by omega
    have hnj : stB g o (0 + j) (5 + (0 + j)) = .inr (2, df_2) := by
      rw [stB_5]
      rw [if_pos (by omega)]
    refine lv_iload_n hx hb dn_St_63 rfl (lv_at hl 0 rfl) ?_
    refine lv_iconst (v := 5) hx hb dn_St_64 (by decide) ?_
    refine lv_icmp_ge (tgt := 87) hx hb dn_St_65 (by decide) (fun q => ?_) (fun _ => ?_)
    · exact absurd q (nI_ge (b := 5) hlt (by decide))
    refine lv_aload_n hx hb dn_St_68 rfl (lv_at hl 1 rfl) ?_
    refine w_get C (o := o) (ci := 1) (k := 1) (v := .ref (gB g + (o + 2))) (by decide) (by omega) (stC_at (k := 0)) (by decide) ln_St_17 rfl dn_St_69 w ?_
    refine lv_iload_n hx hb dn_St_72 rfl (lv_at hl 0 rfl) ?_
    refine w_new C (ci := 2) (fs := df_2) (by decide) dn_St_73 ln_St_15 cn_2 cz_2 dv_2 (by rw [hrc]; omega) (by rw [hrs]; show _ + 4 ≤ _; omega) w (fun H w => ?_)
    have w := w.eq (n' := o + 5 + (0 + j) + 1) (cf' := stC g o (0 + j) cf) rfl (fun i _ => st_new hnj)
    refine lv_dup hx hb dn_St_76 rfl ?_
    refine w_init C (hd := h_Rm_init) (o := o + 5 + (0 + j)) (K_Rm_init ((Nat.add_assoc o 5 (0 + j)).symm ▸ stC_at.trans hnj)) rfl hl.1 dn_St_77 hk_Rm_init rfl rfl (Nat.le_of_ble_eq_true rfl) (Nat.le_of_ble_eq_true rfl) ln_St_33 hi_Rm_init (Nat.le_of_ble_eq_true rfl) (by rw [hrc, hrs]; constructor <;> (try show _ + 4 + 0 ≤ _) <;> omega) w (fun H locs w => ?_)
    have w := w.eq (n' := o + 5 + (0 + j) + 1) (cf' := stC g o (0 + j) cf) rfl (fun i hi => st_bl hnj hi)
    refine w_aast C (o := o + 2) (q := 3) (ci := 2) (v := o + 5 + (0 + j)) (by decide) (by decide) rfl (by omega) stC_at (by omega) ((Nat.add_assoc o 5 (0 + j)).symm ▸ stC_at.trans hnj) (vp_in_nI hlt (by decide)) dn_St_80 w (fun H locs w => ?_)
    have w := w.eq (n' := o + 5 + (0 + (j + 1))) (cf' := stC g o (0 + (j + 1)) cf) rfl (fun i _ => st_up (k := 2) (St_u1 hlt) (st_ot (by omega)))
    refine lv_iinc (v := nI (j + 1)) (lv' := [(1, .int (nI (j + 1))), (0, .ref (gB g + o))]) hx hb dn_St_81 hl (k := 0) rfl (nI_1 j) (by decide) rfl (fun ls hl => ?_)
    refine lv_goto (tgt := 63) hx hb dn_St_84 (by decide) ?_
    refine W.widen (k := (4 + (0 + (j + 1)))) (n := (47 + 14 * (0 + (j + 1)))) (by omega) (by show _ + 4 + 0 ≤ _; omega) ?_
    exact ih (j + 1) H locs ls (by omega) w hl
set_option maxHeartbeats 4000000 in
theorem St_l2 {g : Wg} {p : Program} {e : Env} {R : Room} {s : State} {m : MethodId} {args : Array Value} {below : List Frame} {meth : Method} {c : Code} {Q : State → Prop} {o : Nat} {cf : Nat → va_E} (C : Cx g h_St_init p R s m c) (hrc : R.cells = 46) (hrs : R.slots = 700) (KK : ∀ H locs ls, Cw g s (o + 5 + 18) (stC g o 18 cf) H locs → lv_has ls 2 [(0, .ref (gB g + o))] → W p (gL g) e R s m args below meth c H locs 22 299 Q (F0 m 114 ls [])) :
    ∀ (n j : Nat) (H : Heap) (locs : List Loc) (ls : Array Slot), j + n = 13 → Cw g s (o + 5 + (5 + j)) (stC g o (5 + j) cf) H locs → lv_has ls 2 [(1, .int (nI j)), (0, .ref (gB g + o))] → W p (gL g) e R s m args below meth c H locs (4 + (5 + j)) (47 + 14 * (5 + j)) Q (F0 m 89 ls []) := by
  have hx := C.1
  have hb := C.2.1
  intro n
  induction n with
  | zero =>
    intro j H locs ls hj w hl
    have hj : j = 13 := by omega
    subst hj
    refine lv_iload_n hx hb dn_St_89 rfl (lv_at hl 0 rfl) ?_
    refine lv_bipush (v := 12) hx hb dn_St_90 (by decide) ?_
    refine lv_icmp_gt (tgt := 114) hx hb dn_St_92 (by decide) (fun _ => ?_) (fun q => absurd (by decide) q)
    exact KK H locs ls w (lv_sub hl [1] rfl)
  | succ n ih =>
    intro j H locs ls hj w hl
    have hlt : j < 13 := by omega
    have hnj : stB g o (5 + j) (5 + (5 + j)) = .inr (3, df_3) := by
      rw [stB_5]
      rw [if_neg (by omega), if_pos (by omega)]
    refine lv_iload_n hx hb dn_St_89 rfl (lv_at hl 0 rfl) ?_
    refine lv_bipush (v := 12) hx hb dn_St_90 (by decide) ?_
    refine lv_icmp_gt (tgt := 114) hx hb dn_St_92 (by decide) (fun q => ?_) (fun _ => ?_)
    · exact absurd q (nI_nlt (a := 12) (b := j) (by omega) (by decide))
    refine lv_aload_n hx hb dn_St_95 rfl (lv_at hl 1 rfl) ?_
    refine w_get C (o := o) (ci := 1) (k := 2) (v := .ref (gB g + (o + 3))) (by decide) (by omega) (stC_at (k := 0)) (by decide) ln_St_23 rfl dn_St_96 w ?_
    refine lv_iload_n hx hb dn_St_99 rfl (lv_at hl 0 rfl) ?_
    refine w_new C (ci := 3) (fs := df_3) (by decide) dn_St_100 ln_St_21 cn_3 cz_3 dv_3 (by rw [hrc]; omega) (by rw [hrs]; show _ + 5 ≤ _; omega) w (fun H w => ?_)
    have w := w.eq (n' := o + 5 + (5 + j) + 1) (cf' := stC g o (5 + j) cf) rfl (fun i _ => st_new hnj)
    refine lv_dup hx hb dn_St_103 rfl ?_
    refine w_init C (hd := h_Ca_init) (o := o + 5 + (5 + j)) (K_Ca_init ((Nat.add_assoc o 5 (5 + j)).symm ▸ stC_at.trans hnj)) rfl hl.1 dn_St_104 hk_Ca_init rfl rfl (Nat.le_of_ble_eq_true rfl) (Nat.le_of_ble_eq_true rfl) ln_St_34 hi_Ca_init (Nat.le_of_ble_eq_true rfl) (by rw [hrc, hrs]; constructor <;> (try show _ + 5 + 0 ≤ _) <;> omega) w (fun H locs w => ?_)
    have w := w.eq (n' := o + 5 + (5 + j) + 1) (cf' := stC g o (5 + j) cf) rfl (fun i hi => st_bl hnj hi)
    refine w_aast C (o := o + 3) (q := 4) (ci := 3) (v := o + 5 + (5 + j)) (by decide) (by decide) rfl (by omega) stC_at (by omega) ((Nat.add_assoc o 5 (5 + j)).symm ▸ stC_at.trans hnj) (vp_in_nI hlt (by decide)) dn_St_107 w (fun H locs w => ?_)
    have w := w.eq (n' := o + 5 + (5 + (j + 1))) (cf' := stC g o (5 + (j + 1)) cf) rfl (fun i _ => st_up (k := 3) (St_u2 hlt) (st_ot (by omega)))
    refine lv_iinc (v := nI (j + 1)) (lv' := [(1, .int (nI (j + 1))), (0, .ref (gB g + o))]) hx hb dn_St_108 hl (k := 0) rfl (nI_1 j) (by decide) rfl (fun ls hl => ?_)
    refine lv_goto (tgt := 89) hx hb dn_St_111 (by decide) ?_
    refine W.widen (k := (4 + (5 + (j + 1)))) (n := (47 + 14 * (5 + (j + 1)))) (by omega) (by show _ + 5 + 0 ≤ _; omega) ?_
    exact ih (j + 1) H locs ls (by omega) w hl
set_option maxHeartbeats 4000000 in
theorem St_l3 {g : Wg} {p : Program} {e : Env} {R : Room} {s : State} {m : MethodId} {args : Array Value} {below : List Frame} {meth : Method} {c : Code} {Q : State → Prop} {o : Nat} {cf : Nat → va_E} (C : Cx g h_St_init p R s m c) (hrc : R.cells = 46) (hrs : R.slots = 700) (KK : ∀ H locs ls, Cw g s (o + 5 + 42) (stC g o 42 cf) H locs → lv_has ls 2 [(0, .ref (gB g + o))] → W p (gL g) e R s m args below meth c H locs 46 635 Q (F0 m 141 ls [])) :
    ∀ (n j : Nat) (H : Heap) (locs : List Loc) (ls : Array Slot), j + n = 24 → Cw g s (o + 5 + (18 + j)) (stC g o (18 + j) cf) H locs → lv_has ls 2 [(1, .int (nI j)), (0, .ref (gB g + o))] → W p (gL g) e R s m args below meth c H locs (4 + (18 + j)) (47 + 14 * (18 + j)) Q (F0 m 116 ls []) := by
  have hx := C.1
  have hb := C.2.1
  intro n
  induction n with
  | zero =>
    intro j H locs ls hj w hl
    have hj : j = 24 := by omega
    subst hj
    refine lv_iload_n hx hb dn_St_116 rfl (lv_at hl 0 rfl) ?_
    refine lv_bipush (v := 24) hx hb dn_St_117 (by decide) ?_
    refine lv_icmp_ge (tgt := 141) hx hb dn_St_119 (by decide) (fun _ => ?_) (fun q => absurd (by decide) q)
    exact KK H locs ls w (lv_sub hl [1] rfl)
  | succ n ih =>
    intro j H locs ls hj w hl
    have hlt : j < 24 := by omega
    have hnj : stB g o (18 + j) (5 + (18 + j)) = .inr (4, df_4) := by
      rw [stB_5]
      rw [if_neg (by omega), if_neg (by omega)]
    refine lv_iload_n hx hb dn_St_116 rfl (lv_at hl 0 rfl) ?_
    refine lv_bipush (v := 24) hx hb dn_St_117 (by decide) ?_
    refine lv_icmp_ge (tgt := 141) hx hb dn_St_119 (by decide) (fun q => ?_) (fun _ => ?_)
    · exact absurd q (nI_ge (b := 24) hlt (by decide))
    refine lv_aload_n hx hb dn_St_122 rfl (lv_at hl 1 rfl) ?_
    refine w_get C (o := o) (ci := 1) (k := 3) (v := .ref (gB g + (o + 4))) (by decide) (by omega) (stC_at (k := 0)) (by decide) ln_St_29 rfl dn_St_123 w ?_
    refine lv_iload_n hx hb dn_St_126 rfl (lv_at hl 0 rfl) ?_
    refine w_new C (ci := 4) (fs := df_4) (by decide) dn_St_127 ln_St_27 cn_4 cz_4 dv_4 (by rw [hrc]; omega) (by rw [hrs]; show _ + 14 ≤ _; omega) w (fun H w => ?_)
    have w := w.eq (n' := o + 5 + (18 + j) + 1) (cf' := stC g o (18 + j) cf) rfl (fun i _ => st_new hnj)
    refine lv_dup hx hb dn_St_130 rfl ?_
    refine w_init C (hd := h_Ch_init) (o := o + 5 + (18 + j)) (K_Ch_init ((Nat.add_assoc o 5 (18 + j)).symm ▸ stC_at.trans hnj)) rfl hl.1 dn_St_131 hk_Ch_init rfl rfl (Nat.le_of_ble_eq_true rfl) (Nat.le_of_ble_eq_true rfl) ln_St_35 hi_Ch_init (Nat.le_of_ble_eq_true rfl) (by rw [hrc, hrs]; constructor <;> (try show _ + 14 + 0 ≤ _) <;> omega) w (fun H locs w => ?_)
    have w := w.eq (n' := o + 5 + (18 + j) + 1) (cf' := stC g o (18 + j) cf) rfl (fun i hi => st_bl hnj hi)
    refine w_aast C (o := o + 4) (q := 5) (ci := 4) (v := o + 5 + (18 + j)) (by decide) (by decide) rfl (by omega) stC_at (by omega) ((Nat.add_assoc o 5 (18 + j)).symm ▸ stC_at.trans hnj) (vp_in_nI hlt (by decide)) dn_St_134 w (fun H locs w => ?_)
    have w := w.eq (n' := o + 5 + (18 + (j + 1))) (cf' := stC g o (18 + (j + 1)) cf) rfl (fun i _ => st_up (k := 4) (St_u3 hlt) (st_ot (by omega)))
    refine lv_iinc (v := nI (j + 1)) (lv' := [(1, .int (nI (j + 1))), (0, .ref (gB g + o))]) hx hb dn_St_135 hl (k := 0) rfl (nI_1 j) (by decide) rfl (fun ls hl => ?_)
    refine lv_goto (tgt := 116) hx hb dn_St_138 (by decide) ?_
    refine W.widen (k := (4 + (18 + (j + 1)))) (n := (47 + 14 * (18 + (j + 1)))) (by omega) (by show _ + 14 + 0 ≤ _; omega) ?_
    exact ih (j + 1) H locs ls (by omega) w hl
theorem st_start {g : Wg} {o i : Nat} {cf : Nat → va_E} (hi : i < o + 5) : bl o [.inr (1, [.ref (gB g + (o + 1)), .ref (gB g + (o + 2)), .ref (gB g + (o + 3)), .ref (gB g + (o + 4)), .int 0, .int 0, .int 0, .int 0, .int 0, .int 0, .int 0, .int 0]), .inl (gC g 0, 5, .inl (upd (upd (upd (upd (upd (fun _ => 0) 0 3000) 1 20) 2 2) 3 3) 4 12)), .inl (gC g 3, 5, .inr (.inr (.inr (.inr (fun _ => none))))), .inl (gC g 4, 13, .inr (.inr (.inr (.inr (fun _ => none))))), .inl (gC g 5, 24, .inr (.inr (.inr (.inr (fun _ => none)))))] cf i = stC g o 0 cf i := by
  unfold bl stC
  by_cases h : i < o
  · rw [if_pos h, if_pos h]
  · rw [if_neg h, if_neg h]
    obtain ⟨j, rfl⟩ : ∃ j, i = o + j := ⟨i - o, by omega⟩
    rw [Nat.add_sub_cancel_left]
    have hj : j < 5 := by omega
    rcases (show j = 0 ∨ j = 1 ∨ j = 2 ∨ j = 3 ∨ j = 4 by omega) with rfl | rfl | rfl | rfl | rfl
    · rfl
    · rfl
    · refine congrArg (fun f => (.inl (gC g 3, 5, .inr (.inr (.inr (.inr f)))) : va_E)) (funext fun q => ?_)
      exact (if_neg (by omega)).symm
    · refine congrArg (fun f => (.inl (gC g 4, 13, .inr (.inr (.inr (.inr f)))) : va_E)) (funext fun q => ?_)
      exact (if_neg (by omega)).symm
    · refine congrArg (fun f => (.inl (gC g 5, 24, .inr (.inr (.inr (.inr f)))) : va_E)) (funext fun q => ?_)
      exact (if_neg (by omega)).symm
set_option maxHeartbeats 4000000 in
theorem K_St_init {g : Wg} {o : Nat} {cf : Nat → va_E} (hcf : cf o = .inr (1, df_1)) : Con g h_St_init o (o + 47) 46 700 cf (stC g o 42 cf) := by
  refine Con.of rfl rfl rfl (Nat.le_of_ble_eq_true rfl) ?_
  intro p e R s m args below meth c H ls Q C hin hrc hrs w hl kk
  have hx := C.1
  have hb := C.2.1
  have hTa := C.2.2.2.2.2.2.2.2
  have w := Bw.start w hcf
  refine lv_aload_n hx hb dn_St_0 rfl (lv_at hl 0 rfl) ?_
  refine w_obj C hl.1 dn_St_1 ho_St_init (Nat.le_of_ble_eq_true rfl) (Nat.le_of_ble_eq_true rfl) ?_
  refine lv_aload_n hx hb dn_St_4 rfl (lv_at hl 0 rfl) ?_
  refine lv_iconst (v := 5) hx hb dn_St_5 (by decide) ?_
  refine b_newa C (q := 0) (N := 5) (Nat.le_of_ble_eq_true rfl) rfl rfl rfl dn_St_6 hTa.1 (by decide) (by decide) (Nat.le_of_ble_eq_true rfl) (by rw [hrc]; exact Nat.le_of_ble_eq_true rfl) (by rw [hrs]; exact Nat.le_of_ble_eq_true rfl) w (fun H w => ?_)
  have w : Bw g s o [.inr (1, [.null, .null, .null, .null, .int 0, .int 0, .int 0, .int 0, .int 0, .int 0, .int 0, .int 0]), .inl (gC g 0, 5, .inl (fun _ => 0))] cf H _ := w
  refine lv_dup hx hb dn_St_8 rfl ?_
  refine lv_iconst (v := 0) hx hb dn_St_9 (by decide) ?_
  refine lv_sipush (v := 3000) hx hb dn_St_10 (by decide) ?_
  refine b_iast C 1 (ix := 0) rfl (by unfold vp_in; decide) (by decide) dn_St_13 w (fun H locs w => ?_)
  have w : Bw g s o [.inr (1, [.null, .null, .null, .null, .int 0, .int 0, .int 0, .int 0, .int 0, .int 0, .int 0, .int 0]), .inl (gC g 0, 5, .inl (upd (fun _ => 0) 0 3000))] cf H _ := w
  refine lv_dup hx hb dn_St_14 rfl ?_
  refine lv_iconst (v := 1) hx hb dn_St_15 (by decide) ?_
  refine lv_bipush (v := 20) hx hb dn_St_16 (by decide) ?_
  refine b_iast C 1 (ix := 1) rfl (by unfold vp_in; decide) (by decide) dn_St_18 w (fun H locs w => ?_)
  have w : Bw g s o [.inr (1, [.null, .null, .null, .null, .int 0, .int 0, .int 0, .int 0, .int 0, .int 0, .int 0, .int 0]), .inl (gC g 0, 5, .inl (upd (upd (fun _ => 0) 0 3000) 1 20))] cf H _ := w
  refine lv_dup hx hb dn_St_19 rfl ?_
  refine lv_iconst (v := 2) hx hb dn_St_20 (by decide) ?_
  refine lv_iconst (v := 2) hx hb dn_St_21 (by decide) ?_
  refine b_iast C 1 (ix := 2) rfl (by unfold vp_in; decide) (by decide) dn_St_22 w (fun H locs w => ?_)
  have w : Bw g s o [.inr (1, [.null, .null, .null, .null, .int 0, .int 0, .int 0, .int 0, .int 0, .int 0, .int 0, .int 0]), .inl (gC g 0, 5, .inl (upd (upd (upd (fun _ => 0) 0 3000) 1 20) 2 2))] cf H _ := w
  refine lv_dup hx hb dn_St_23 rfl ?_
  refine lv_iconst (v := 3) hx hb dn_St_24 (by decide) ?_
  refine lv_iconst (v := 3) hx hb dn_St_25 (by decide) ?_
  refine b_iast C 1 (ix := 3) rfl (by unfold vp_in; decide) (by decide) dn_St_26 w (fun H locs w => ?_)
  have w : Bw g s o [.inr (1, [.null, .null, .null, .null, .int 0, .int 0, .int 0, .int 0, .int 0, .int 0, .int 0, .int 0]), .inl (gC g 0, 5, .inl (upd (upd (upd (upd (fun _ => 0) 0 3000) 1 20) 2 2) 3 3))] cf H _ := w
  refine lv_dup hx hb dn_St_27 rfl ?_
  refine lv_iconst (v := 4) hx hb dn_St_28 (by decide) ?_
  refine lv_bipush (v := 12) hx hb dn_St_29 (by decide) ?_
  refine b_iast C 1 (ix := 4) rfl (by unfold vp_in; decide) (by decide) dn_St_31 w (fun H locs w => ?_)
  have w : Bw g s o [.inr (1, [.null, .null, .null, .null, .int 0, .int 0, .int 0, .int 0, .int 0, .int 0, .int 0, .int 0]), .inl (gC g 0, 5, .inl (upd (upd (upd (upd (upd (fun _ => 0) 0 3000) 1 20) 2 2) 3 3) 4 12))] cf H _ := w
  refine b_putF C hin 0 (ci := 1) (k := 0) (Nat.le_of_ble_eq_true rfl) rfl rfl (Nat.le_of_ble_eq_true rfl) ln_St_9 rfl rfl rfl rfl (Nat.le_of_ble_eq_true rfl) dn_St_32 w (fun H locs w => ?_)
  have w : Bw g s o [.inr (1, [.ref (gB g + (o + 1)), .null, .null, .null, .int 0, .int 0, .int 0, .int 0, .int 0, .int 0, .int 0, .int 0]), .inl (gC g 0, 5, .inl (upd (upd (upd (upd (upd (fun _ => 0) 0 3000) 1 20) 2 2) 3 3) 4 12))] cf H _ := w
  refine lv_aload_n hx hb dn_St_35 rfl (lv_at hl 0 rfl) ?_
  refine lv_iconst (v := 5) hx hb dn_St_36 (by decide) ?_
  refine b_anew C (q := 3) (N := 5) (Nat.le_of_ble_eq_true rfl) rfl dn_St_37 ln_St_15 hTa.2.2.2.1 (by decide) (by decide) (Nat.le_of_ble_eq_true rfl) (by rw [hrc]; exact Nat.le_of_ble_eq_true rfl) (by rw [hrs]; exact Nat.le_of_ble_eq_true rfl) w (fun H w => ?_)
  have w : Bw g s o [.inr (1, [.ref (gB g + (o + 1)), .null, .null, .null, .int 0, .int 0, .int 0, .int 0, .int 0, .int 0, .int 0, .int 0]), .inl (gC g 0, 5, .inl (upd (upd (upd (upd (upd (fun _ => 0) 0 3000) 1 20) 2 2) 3 3) 4 12)), .inl (gC g 3, 5, .inr (.inr (.inr (.inr (fun _ => none)))))] cf H _ := w
  refine b_putF C hin 0 (ci := 1) (k := 1) (Nat.le_of_ble_eq_true rfl) rfl rfl (Nat.le_of_ble_eq_true rfl) ln_St_17 rfl rfl rfl rfl (Nat.le_of_ble_eq_true rfl) dn_St_40 w (fun H locs w => ?_)
  have w : Bw g s o [.inr (1, [.ref (gB g + (o + 1)), .ref (gB g + (o + 2)), .null, .null, .int 0, .int 0, .int 0, .int 0, .int 0, .int 0, .int 0, .int 0]), .inl (gC g 0, 5, .inl (upd (upd (upd (upd (upd (fun _ => 0) 0 3000) 1 20) 2 2) 3 3) 4 12)), .inl (gC g 3, 5, .inr (.inr (.inr (.inr (fun _ => none)))))] cf H _ := w
  refine lv_aload_n hx hb dn_St_43 rfl (lv_at hl 0 rfl) ?_
  refine lv_bipush (v := 13) hx hb dn_St_44 (by decide) ?_
  refine b_anew C (q := 4) (N := 13) (Nat.le_of_ble_eq_true rfl) rfl dn_St_46 ln_St_21 hTa.2.2.2.2.1 (by decide) (by decide) (Nat.le_of_ble_eq_true rfl) (by rw [hrc]; exact Nat.le_of_ble_eq_true rfl) (by rw [hrs]; exact Nat.le_of_ble_eq_true rfl) w (fun H w => ?_)
  have w : Bw g s o [.inr (1, [.ref (gB g + (o + 1)), .ref (gB g + (o + 2)), .null, .null, .int 0, .int 0, .int 0, .int 0, .int 0, .int 0, .int 0, .int 0]), .inl (gC g 0, 5, .inl (upd (upd (upd (upd (upd (fun _ => 0) 0 3000) 1 20) 2 2) 3 3) 4 12)), .inl (gC g 3, 5, .inr (.inr (.inr (.inr (fun _ => none))))), .inl (gC g 4, 13, .inr (.inr (.inr (.inr (fun _ => none)))))] cf H _ := w
  refine b_putF C hin 0 (ci := 1) (k := 2) (Nat.le_of_ble_eq_true rfl) rfl rfl (Nat.le_of_ble_eq_true rfl) ln_St_23 rfl rfl rfl rfl (Nat.le_of_ble_eq_true rfl) dn_St_49 w (fun H locs w => ?_)
  have w : Bw g s o [.inr (1, [.ref (gB g + (o + 1)), .ref (gB g + (o + 2)), .ref (gB g + (o + 3)), .null, .int 0, .int 0, .int 0, .int 0, .int 0, .int 0, .int 0, .int 0]), .inl (gC g 0, 5, .inl (upd (upd (upd (upd (upd (fun _ => 0) 0 3000) 1 20) 2 2) 3 3) 4 12)), .inl (gC g 3, 5, .inr (.inr (.inr (.inr (fun _ => none))))), .inl (gC g 4, 13, .inr (.inr (.inr (.inr (fun _ => none)))))] cf H _ := w
  refine lv_aload_n hx hb dn_St_52 rfl (lv_at hl 0 rfl) ?_
  refine lv_bipush (v := 24) hx hb dn_St_53 (by decide) ?_
  refine b_anew C (q := 5) (N := 24) (Nat.le_of_ble_eq_true rfl) rfl dn_St_55 ln_St_27 hTa.2.2.2.2.2.1 (by decide) (by decide) (Nat.le_of_ble_eq_true rfl) (by rw [hrc]; exact Nat.le_of_ble_eq_true rfl) (by rw [hrs]; exact Nat.le_of_ble_eq_true rfl) w (fun H w => ?_)
  have w : Bw g s o [.inr (1, [.ref (gB g + (o + 1)), .ref (gB g + (o + 2)), .ref (gB g + (o + 3)), .null, .int 0, .int 0, .int 0, .int 0, .int 0, .int 0, .int 0, .int 0]), .inl (gC g 0, 5, .inl (upd (upd (upd (upd (upd (fun _ => 0) 0 3000) 1 20) 2 2) 3 3) 4 12)), .inl (gC g 3, 5, .inr (.inr (.inr (.inr (fun _ => none))))), .inl (gC g 4, 13, .inr (.inr (.inr (.inr (fun _ => none))))), .inl (gC g 5, 24, .inr (.inr (.inr (.inr (fun _ => none)))))] cf H _ := w
  refine b_putF C hin 0 (ci := 1) (k := 3) (Nat.le_of_ble_eq_true rfl) rfl rfl (Nat.le_of_ble_eq_true rfl) ln_St_29 rfl rfl rfl rfl (Nat.le_of_ble_eq_true rfl) dn_St_58 w (fun H locs w => ?_)
  have w : Bw g s o [.inr (1, [.ref (gB g + (o + 1)), .ref (gB g + (o + 2)), .ref (gB g + (o + 3)), .ref (gB g + (o + 4)), .int 0, .int 0, .int 0, .int 0, .int 0, .int 0, .int 0, .int 0]), .inl (gC g 0, 5, .inl (upd (upd (upd (upd (upd (fun _ => 0) 0 3000) 1 20) 2 2) 3 3) 4 12)), .inl (gC g 3, 5, .inr (.inr (.inr (.inr (fun _ => none))))), .inl (gC g 4, 13, .inr (.inr (.inr (.inr (fun _ => none))))), .inl (gC g 5, 24, .inr (.inr (.inr (.inr (fun _ => none)))))] cf H _ := w
  have w := w.eq (n' := o + 5 + (0 + 0)) (cf' := stC g o (0 + 0) cf) rfl (fun i hi => st_start hi)
  refine lv_iconst (v := 0) hx hb dn_St_61 (by decide) ?_
  refine lv_istore_n (lv' := [(1, .int 0), (0, .ref (gB g + o))]) hx hb dn_St_62 rfl hl (by decide) rfl (fun ls hl => ?_)
  refine W.widen (k := 4 + (0 + 0)) (n := 47 + 14 * (0 + 0)) (Nat.le_of_ble_eq_true rfl) (Nat.le_of_ble_eq_true rfl) ?_
  refine St_l1 C hrc hrs (fun H locs ls w hl => ?_) 5 0 _ _ ls rfl w hl
  refine lv_iconst (v := 0) hx hb dn_St_87 (by decide) ?_
  refine lv_istore_n (lv' := [(1, .int 0), (0, .ref (gB g + o))]) hx hb dn_St_88 rfl hl (by decide) rfl (fun ls hl => ?_)
  refine St_l2 C hrc hrs (fun H locs ls w hl => ?_) 13 0 _ _ ls rfl w hl
  refine lv_iconst (v := 0) hx hb dn_St_114 (by decide) ?_
  refine lv_istore_n (lv' := [(1, .int 0), (0, .ref (gB g + o))]) hx hb dn_St_115 rfl hl (by decide) rfl (fun ls hl => ?_)
  refine St_l3 C hrc hrs (fun H locs ls w hl => ?_) 24 0 _ _ ls rfl w hl
  refine W.widen (k := 46) (n := 700) (Nat.le_of_ble_eq_true rfl) (Nat.le_of_ble_eq_true rfl) ?_
  exact kk _ _ _ _ dn_St_141 w
