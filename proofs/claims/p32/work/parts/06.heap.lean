/-! SOUNDNESS of the small machine's step: the heap, calls, ends -/
section SNH
variable {g : Wg} {h : Hd} {Q : Option Vl → Mm → Prop} {p : Program} {e : Env} {R : Room} {s : State} {m : MethodId} {args : Array Value} {below : List Frame} {meth : Method} {c : Code} {cells slots : Nat} {Z : State → Prop} {pc : Nat} {L : Lc} {S : List Vl} {mem : Mm}
theorem ciO_ok {t k i : Nat} (h1 : okR t k i = true) (h2 : ciO t < 7) : okO t k i = true ∧ t ≠ 0 ∧ t ≠ 25 ∧ t < 20 := by
  unfold ciO at h2
  split at h2 <;> first | exact ⟨h1, by decide, by decide, by decide⟩ | omega
theorem okF_sp {t ci j : Nat} (h : okF t ci j = true) : ciO t = ci ∧ j < nfO ci ∧ ci < 7 := by
  unfold okF at h
  simp only [Bool.and_eq_true] at h
  have h1 := Nat.eq_of_beq_eq_true h.1
  have h2 : j < nfO ci := Nat.ble_eq.mp h.2
  refine ⟨h1, h2, ?_⟩
  unfold nfO at h2
  split at h2 <;> omega
theorem cellO_cls {g : Wg} {mem : Mm} {t k i ci : Nat} (h : ciO t = ci) (hc : ci < 7) : cellO g mem (t, k, i) = .inr (ci, fldO g mem t k i (nfO ci)) := by
  unfold cellO
  dsimp only
  rw [h]
  split
  · omega
  · rfl
theorem cellO_arr {g : Wg} {mem : Mm} {t k i : Nat} (h : ciO t = 99) (hq : isQ t = false) : cellO g mem (t, k, i) = .inl (gC g (tyO t), lenO t k, .inl (mem (t, k, i))) := by
  unfold cellO
  dsimp only
  rw [h, hq]
  rfl
theorem cellO_arq {g : Wg} {mem : Mm} {t k i : Nat} (h : ciO t = 99) (hq : isQ t = true) : cellO g mem (t, k, i) = .inl (gC g (tyO t), lenO t k, .inr (.inr (.inr (.inr (fun j => match elO t k j with
      | (t, k, i) => some (adO g t k i)))))) := by
  unfold cellO
  dsimp only
  rw [h, hq]
  rfl
theorem isP_sp {t k i : Nat} (h1 : okR t k i = true) (h2 : isP t = true) : okO t k i = true ∧ t ≠ 0 ∧ t ≠ 25 ∧ ciO t = 99 ∧ isQ t = false ∧ tyO t = 0 := by
  unfold isP at h2
  split at h2 <;> first | exact ⟨h1, by decide, by decide, rfl, rfl, rfl⟩ | cases h2
theorem isZ_sp {t k i : Nat} (h1 : okR t k i = true) (h2 : isZ t = true) : okO t k i = true ∧ t ≠ 0 ∧ t ≠ 25 ∧ ciO t = 99 ∧ isQ t = false ∧ tyO t = 1 := by
  unfold isZ at h2
  split at h2 <;> first | exact ⟨h1, by decide, by decide, rfl, rfl, rfl⟩ | cases h2
theorem isC_sp {t k i : Nat} (h1 : okR t k i = true) (h2 : t = 15) : okO t k i = true ∧ t ≠ 0 ∧ t ≠ 25 ∧ ciO t = 99 ∧ isQ t = false ∧ tyO t = 2 := by
  subst h2
  exact ⟨h1, by decide, by decide, rfl, rfl, rfl⟩
theorem isQ_sp {t k i : Nat} (h1 : okR t k i = true) (h2 : isQ t = true) : okO t k i = true ∧ t ≠ 0 ∧ t ≠ 25 ∧ ciO t = 99 ∧ tyO t < 7 ∧ ∃ C, arrT (tyO t) = .object C := by
  unfold isQ at h2
  split at h2 <;> first | exact ⟨h1, by decide, by decide, rfl, by decide, _, rfl⟩ | cases h2
theorem elO_ref {g : Wg} {t k j : Nat} : va_rf (match elO t k j with
      | (t, k, i) => some (adO g t k i)) = vvO g (.inr (.inr (elO t k j))) := by
  have h1 : (elO t k j).1 ≠ 0 ∧ (elO t k j).1 ≠ 25 := by
    unfold elO
    split <;> (dsimp only; exact ⟨by decide, by decide⟩)
  generalize elO t k j = o at h1 ⊢
  obtain ⟨a, b, d⟩ := o
  exact (vvO_ref h1.1 h1.2).symm
theorem nrC_sp {ty : FieldType} {x : Int32} {P : Prop} (h : nrC ty x P) (hty : ∃ n, (ty = .int ∨ ty = .boolean ∨ ty = .char) ∧ n = 0) : narrow ty (.int x) = .int x ∧ fits ty (.int x) = true ∧ P := by
  obtain ⟨-, h0 | h0 | h0, -⟩ := hty <;> subst h0
  · exact ⟨rfl, rfl, h⟩
  · obtain ⟨rfl | rfl, h2⟩ := h
    · exact ⟨rfl, rfl, h2⟩
    · exact ⟨rfl, rfl, h2⟩
  · obtain ⟨⟨h1, h3⟩, h2⟩ := h
    obtain ⟨n, hn, rfl⟩ := nI_of2 (M := 65535) (n := 65535) (by decide) (fun q => by rw [Int32.lt_iff_toInt_lt] at q; rw [Int32.le_iff_toInt_le] at h1; omega) h3
    exact ⟨(pk_charN (by omega)).1, (pk_charN (by omega)).2, h2⟩
theorem cls_kind {ci j : Nat} (hc : ci < 7) (hj : j < nfO ci) (hf : (clsT ci j).2.2.2 = false) : ∃ n, (clsF ci j = .int ∨ clsF ci j = .boolean ∨ clsF ci j = .char) ∧ n = 0 := ⟨0, by
  have h0 : ∀ ci, ci < 7 → ∀ j, j < nfO ci → ((clsT ci j).2.2.2 || (decide (clsF ci j = .int) || (decide (clsF ci j = .boolean) || decide (clsF ci j = .char)))) = true := by decide +kernel
  have h1 := h0 ci hc j hj
  rw [hf] at h1
  simpa using h1, rfl⟩

theorem s_getfield (C : Okc g h Q p e R s m args below meth c cells slots Z) {idx t k i ci j : Nat} (hd : decode (hB h) pc = .ok (.getfield idx, 3)) (ho : okF t ci j = true) (hlk : InT (.fieldLink (hY h).cls idx (clsT ci j).1 (clsT ci j).2.1 (clsT ci j).2.2.1)) (hk : AtO g h p e R s m args below meth c cells slots Z (pc + 3) L (fvO mem t k i j :: S) mem) : AtO g h p e R s m args below meth c cells slots Z pc L (vO t k i :: S) mem := by
  obtain ⟨hx, hb, hml, hown, hrm, hK, hT, hE, hq1, hq2, hq3⟩ := C
  intro H locs ls hP hS hl hLo hSo
  obtain ⟨h1, hj, hc⟩ := okF_sp ho
  have h8 : ciO t < 7 := by omega
  obtain ⟨hok, h0, h25, h20⟩ := ciO_ok (okS_h hSo) h8
  rw [List.map_cons, vvO_ref h0 h25]
  refine va_get (D := gD g) (cl := clsL) (ci := ci) (C := clsN ci) (T := clsT ci) (N := nfO ci) (Ts := u_ws (clsN ci) (clsT ci) (nfO ci)) (v := vvO g (fvO mem t k i j)) (fs := fldO g mem t k i (nfO ci)) hx hb (fun w hw => hT.use (cls_InT hc w hw)) (fun _ hw => hw) hown hK hP (ordO t k i) ?_ (clsL_at hc) j hj (hT.use hlk) (fun _ h9 => h9) (fldO_get hj) hd (hk H locs ls hP hS hl hLo (okS_c (okV_ref hok) (okS_t hSo)))
  rw [wsO_at hok, cellO_cls h1 hc]
theorem s_putfield (C : Okc g h Q p e R s m args below meth c cells slots Z) {idx t k i ci j : Nat} {x : Int32} (hd : decode (hB h) pc = .ok (.putfield idx, 3)) (ho : okF t ci j = true) (hr : refO t k j = none) (hfin : (clsT ci j).2.2.2 = false) (hlk : InT (.fieldLink (hY h).cls idx (clsT ci j).1 (clsT ci j).2.1 (clsT ci j).2.2.1)) (hn : narrow (clsF ci j) (.int x) = .int x) (hf : fits (clsF ci j) (.int x) = true) (hk : AtO g h p e R s m args below meth c cells slots Z (pc + 3) L S (mset mem t k i j x)) : AtO g h p e R s m args below meth c cells slots Z pc L (vI x :: vO t k i :: S) mem := by
  obtain ⟨hx, hb, hml, hown, hrm, hK, hT, hE, hq1, hq2, hq3⟩ := C
  intro H locs ls hP hS hl hLo hSo
  obtain ⟨h1, hj, hc⟩ := okF_sp ho
  have h8 : ciO t < 7 := by omega
  obtain ⟨hok, h0, h25, h20⟩ := ciO_ok (okS_h (okS_t hSo)) h8
  rw [List.map_cons, List.map_cons, vvO_ref h0 h25]
  refine va_put (D := gD g) (cl := clsL) (A := gA g) (ci := ci) (v := .int x) (C := clsN ci) (T := clsT ci) (N := nfO ci) (Ts := u_ws (clsN ci) (clsT ci) (nfO ci)) (ty := clsF ci j) (fs := fldO g mem t k i (nfO ci)) hx hb (fun w hw => hT.use (cls_InT hc w hw)) (fun _ hw => hw) (clsF ci) (cls_ty0 ci hc) (cls_nm0 ci hc) hown hK hP (wsO_D g mem) hS (ordO t k i) ?_ (clsL_at hc) j hj (hT.use hlk) (fun _ h9 => h9) hfin (cls_ty0 ci hc j hj) hn hf (by rw [fldO_len]; exact hj) hd (fun H1 locs1 hP1 hD1 hS1 => ?_)
  · rw [wsO_at hok, cellO_cls h1 hc]
  · rw [fldO_set hr hj, wsO_set (mem' := mset mem t k i j x) hok (fun o ho => mset_ne _ _ _ _ _ _ ho) (cellO_cls h1 hc)] at hP1
    exact hk H1 locs1 ls hP1 hS1 hl hLo (okS_t (okS_t hSo))
theorem s_stat0 (C : Okc g h Q p e R s m args below meth c cells slots Z) {idx : Nat} {host : String} (hd : decode (hB h) pc = .ok (.getstatic idx, 3)) (hlk : InT (.fieldLinkNest (hY h).cls idx "NurseryPlaces" "LOWEST_SETTING" "[I" host)) (hk : AtO g h p e R s m args below meth c cells slots Z (pc + 3) L (vO 22 0 0 :: S) mem) : AtO g h p e R s m args below meth c cells slots Z pc L S mem := by
  obtain ⟨hx, hb, hml, hown, hrm, hK, hT, hE, hq1, hq2, hq3⟩ := C
  intro H locs ls hP hS hl hLo hSo
  exact va_getsN hx hb hE.1 hS hown (hT.use hlk) (fun _ h9 => h9) hd (hk H locs ls hP hS hl hLo (okS_c rfl hSo))
theorem s_stat1 (C : Okc g h Q p e R s m args below meth c cells slots Z) {idx : Nat} {host : String} (hd : decode (hB h) pc = .ok (.getstatic idx, 3)) (hlk : InT (.fieldLinkNest (hY h).cls idx "NurseryPlaces" "HIGHEST_SETTING" "[I" host)) (hk : AtO g h p e R s m args below meth c cells slots Z (pc + 3) L (vO 22 1 0 :: S) mem) : AtO g h p e R s m args below meth c cells slots Z pc L S mem := by
  obtain ⟨hx, hb, hml, hown, hrm, hK, hT, hE, hq1, hq2, hq3⟩ := C
  intro H locs ls hP hS hl hLo hSo
  exact va_getsN hx hb hE.2.1 hS hown (hT.use hlk) (fun _ h9 => h9) hd (hk H locs ls hP hS hl hLo (okS_c rfl hSo))
theorem s_aaload (C : Okc g h Q p e R s m args below meth c cells slots Z) {t k i : Nat} {x : Int32} (hd : decode (hB h) pc = .ok (.aaload, 1)) (hq : isQ t = true) (hin : vp_in x (lenO t k)) (hk : AtO g h p e R s m args below meth c cells slots Z (pc + 1) L (.inr (.inr (elO t k x.toNatClampNeg)) :: S) mem) : AtO g h p e R s m args below meth c cells slots Z pc L (vI x :: vO t k i :: S) mem := by
  obtain ⟨hx, hb, hml, hown, hrm, hK, hT, hE, hq1, hq2, hq3⟩ := C
  intro H locs ls hP hS hl hLo hSo
  obtain ⟨hok, h0, h25, h99, h7, CC, hC⟩ := isQ_sp (okS_h (okS_t hSo)) hq
  rw [List.map_cons, List.map_cons, vvO_ref h0 h25]
  have hlt : x.toNatClampNeg < lenO t k := Nat.not_le.mp fun q => hin (Or.inr q)
  have hw := hk H locs ls hP hS hl hLo (okS_c (okV_el hok hq hlt) (okS_t (okS_t hSo)))
  rw [List.map_cons, ← elO_ref] at hw
  refine va_aldq (D := gD g) (cl := clsL) hx hb hK hP (ordO t k i) (tyO t) (C := CC) (f := fun j => match elO t k j with | (t, k, i) => some (adO g t k i)) (n := lenO t k) (cA := gC g (tyO t)) ?_ ?_ hin hd hw
  · rw [wsO_at hok, cellO_arq h99 hq]
  · rw [tysO_at h7, hC]
theorem s_iaload (C : Okc g h Q p e R s m args below meth c cells slots Z) {t k i : Nat} {x : Int32} (hd : decode (hB h) pc = .ok (.iaload, 1)) (hq : isP t = true) (hin : vp_in x (lenO t k)) (hk : AtO g h p e R s m args below meth c cells slots Z (pc + 1) L (vI (mem (t, k, i) x.toNatClampNeg) :: S) mem) : AtO g h p e R s m args below meth c cells slots Z pc L (vI x :: vO t k i :: S) mem := by
  obtain ⟨hx, hb, hml, hown, hrm, hK, hT, hE, hq1, hq2, hq3⟩ := C
  intro H locs ls hP hS hl hLo hSo
  obtain ⟨hok, h0, h25, h99, hq2, hty⟩ := isP_sp (okS_h (okS_t hSo)) hq
  rw [List.map_cons, List.map_cons, vvO_ref h0 h25]
  refine va_iald (D := gD g) (cl := clsL) (f := mem (t, k, i)) (n := lenO t k) hx hb hK hP (ordO t k i) 0 ?_ (tysO_at (by decide)) hin hd (hk H locs ls hP hS hl hLo (okS_c trivial (okS_t (okS_t hSo))))
  rw [wsO_at hok, cellO_arr h99 hq2, hty]
theorem s_zaload (C : Okc g h Q p e R s m args below meth c cells slots Z) {t k i : Nat} {x : Int32} (hd : decode (hB h) pc = .ok (.baload, 1)) (hq : isZ t = true) (hin : vp_in x (lenO t k)) (hk : AtO g h p e R s m args below meth c cells slots Z (pc + 1) L (vI (mem (t, k, i) x.toNatClampNeg) :: S) mem) : AtO g h p e R s m args below meth c cells slots Z pc L (vI x :: vO t k i :: S) mem := by
  obtain ⟨hx, hb, hml, hown, hrm, hK, hT, hE, hq1, hq2, hq3⟩ := C
  intro H locs ls hP hS hl hLo hSo
  obtain ⟨hok, h0, h25, h99, hq2, hty⟩ := isZ_sp (okS_h (okS_t hSo)) hq
  rw [List.map_cons, List.map_cons, vvO_ref h0 h25]
  refine va_zald (D := gD g) (cl := clsL) (f := mem (t, k, i)) (n := lenO t k) hx hb hK hP (ordO t k i) 1 ?_ (tysO_at (by decide)) hin hd (hk H locs ls hP hS hl hLo (okS_c trivial (okS_t (okS_t hSo))))
  rw [wsO_at hok, cellO_arr h99 hq2, hty]
theorem s_caload (C : Okc g h Q p e R s m args below meth c cells slots Z) {t k i : Nat} {x : Int32} (hd : decode (hB h) pc = .ok (.caload, 1)) (hq : t = 15) (hin : vp_in x (lenO t k)) (hk : AtO g h p e R s m args below meth c cells slots Z (pc + 1) L (vI (mem (t, k, i) x.toNatClampNeg) :: S) mem) : AtO g h p e R s m args below meth c cells slots Z pc L (vI x :: vO t k i :: S) mem := by
  obtain ⟨hx, hb, hml, hown, hrm, hK, hT, hE, hq1, hq2, hq3⟩ := C
  intro H locs ls hP hS hl hLo hSo
  obtain ⟨hok, h0, h25, h99, hq2, hty⟩ := isC_sp (okS_h (okS_t hSo)) hq
  rw [List.map_cons, List.map_cons, vvO_ref h0 h25]
  refine va_cald (D := gD g) (cl := clsL) (f := mem (t, k, i)) (n := lenO t k) hx hb hK hP (ordO t k i) 2 ?_ (tysO_at (by decide)) hin hd (hk H locs ls hP hS hl hLo (okS_c trivial (okS_t (okS_t hSo))))
  rw [wsO_at hok, cellO_arr h99 hq2, hty]
theorem s_iastore (C : Okc g h Q p e R s m args below meth c cells slots Z) {t k i : Nat} {x v : Int32} (hd : decode (hB h) pc = .ok (.iastore, 1)) (hq : isP t = true) (hin : vp_in x (lenO t k)) (hk : AtO g h p e R s m args below meth c cells slots Z (pc + 1) L S (mset mem t k i x.toNatClampNeg v)) : AtO g h p e R s m args below meth c cells slots Z pc L (vI v :: vI x :: vO t k i :: S) mem := by
  obtain ⟨hx, hb, hml, hown, hrm, hK, hT, hE, hq1, hq2, hq3⟩ := C
  intro H locs ls hP hS hl hLo hSo
  obtain ⟨hok, h0, h25, h99, hq2, hty⟩ := isP_sp (okS_h (okS_t (okS_t hSo))) hq
  rw [List.map_cons, List.map_cons, List.map_cons, vvO_ref h0 h25]
  refine va_iast (D := gD g) (cl := clsL) (A := gA g) (f := mem (t, k, i)) (n := lenO t k) (cA := gC g 0) hx hb hK hP (wsO_D g mem) hS (ordO t k i) 0 ?_ (tysO_at (by decide)) hin hd (fun H1 locs1 hP1 hD1 hS1 => ?_)
  · rw [wsO_at hok, cellO_arr h99 hq2, hty]
  · rw [← mset_at mem t k i x.toNatClampNeg v, wsO_set (mem' := mset mem t k i x.toNatClampNeg v) hok (fun o ho => mset_ne _ _ _ _ _ _ ho) (by rw [cellO_arr h99 hq2, hty])] at hP1
    exact hk H1 locs1 ls hP1 hS1 hl hLo (okS_t (okS_t (okS_t hSo)))
theorem s_zastore (C : Okc g h Q p e R s m args below meth c cells slots Z) {t k i : Nat} {x v : Int32} (hd : decode (hB h) pc = .ok (.bastore, 1)) (hq : isZ t = true) (hin : vp_in x (lenO t k)) (hk : AtO g h p e R s m args below meth c cells slots Z (pc + 1) L S (mset mem t k i x.toNatClampNeg (vp_nar .boolean v))) : AtO g h p e R s m args below meth c cells slots Z pc L (vI v :: vI x :: vO t k i :: S) mem := by
  obtain ⟨hx, hb, hml, hown, hrm, hK, hT, hE, hq1, hq2, hq3⟩ := C
  intro H locs ls hP hS hl hLo hSo
  obtain ⟨hok, h0, h25, h99, hq2, hty⟩ := isZ_sp (okS_h (okS_t (okS_t hSo))) hq
  rw [List.map_cons, List.map_cons, List.map_cons, vvO_ref h0 h25]
  refine va_zast (D := gD g) (cl := clsL) (A := gA g) (f := mem (t, k, i)) (n := lenO t k) (cA := gC g 1) hx hb hK hP (wsO_D g mem) hS (ordO t k i) 1 ?_ (tysO_at (by decide)) hin hd (fun H1 locs1 hP1 hD1 hS1 => ?_)
  · rw [wsO_at hok, cellO_arr h99 hq2, hty]
  · rw [← mset_at mem t k i x.toNatClampNeg (vp_nar .boolean v), wsO_set (mem' := mset mem t k i x.toNatClampNeg (vp_nar .boolean v)) hok (fun o ho => mset_ne _ _ _ _ _ _ ho) (by rw [cellO_arr h99 hq2, hty])] at hP1
    exact hk H1 locs1 ls hP1 hS1 hl hLo (okS_t (okS_t (okS_t hSo)))
theorem s_castore (C : Okc g h Q p e R s m args below meth c cells slots Z) {t k i : Nat} {x v : Int32} (hd : decode (hB h) pc = .ok (.castore, 1)) (hq : t = 15) (hin : vp_in x (lenO t k)) (hk : AtO g h p e R s m args below meth c cells slots Z (pc + 1) L S (mset mem t k i x.toNatClampNeg (vp_nar .char v))) : AtO g h p e R s m args below meth c cells slots Z pc L (vI v :: vI x :: vO t k i :: S) mem := by
  obtain ⟨hx, hb, hml, hown, hrm, hK, hT, hE, hq1, hq2, hq3⟩ := C
  intro H locs ls hP hS hl hLo hSo
  obtain ⟨hok, h0, h25, h99, hq2, hty⟩ := isC_sp (okS_h (okS_t (okS_t hSo))) hq
  rw [List.map_cons, List.map_cons, List.map_cons, vvO_ref h0 h25]
  refine va_cast (D := gD g) (cl := clsL) (A := gA g) (f := mem (t, k, i)) (n := lenO t k) (cA := gC g 2) hx hb hK hP (wsO_D g mem) hS (ordO t k i) 2 ?_ (tysO_at (by decide)) hin hd (fun H1 locs1 hP1 hD1 hS1 => ?_)
  · rw [wsO_at hok, cellO_arr h99 hq2, hty]
  · rw [← mset_at mem t k i x.toNatClampNeg (vp_nar .char v), wsO_set (mem' := mset mem t k i x.toNatClampNeg (vp_nar .char v)) hok (fun o ho => mset_ne _ _ _ _ _ _ ho) (by rw [cellO_arr h99 hq2, hty])] at hP1
    exact hk H1 locs1 ls hP1 hS1 hl hLo (okS_t (okS_t (okS_t hSo)))
theorem s_script (C : Okc g h Q p e R s m args below meth c cells slots Z) {k i : Nat} {x : Int32} (hd : decode (hB h) pc = .ok (.iaload, 1)) (hin : vp_in x (gX g).2.1) (hk : AtO g h p e R s m args below meth c cells slots Z (pc + 1) L (vI ((gX g).2.2 x.toNatClampNeg) :: S) mem) : AtO g h p e R s m args below meth c cells slots Z pc L (vI x :: vO 20 k i :: S) mem := by
  obtain ⟨hx, hb, hml, hown, hrm, hK, hT, hE, hq1, hq2, hq3⟩ := C
  intro H locs ls hP hS hl hLo hSo
  obtain ⟨hX, hbl, hbA⟩ := hE.2.2.2.2
  exact va_sld hx hb hX hbl hbA hS hin hd (hk H locs ls hP hS hl hLo (okS_c trivial (okS_t (okS_t hSo))))
theorem s_scriptL (C : Okc g h Q p e R s m args below meth c cells slots Z) {k i : Nat} (hd : decode (hB h) pc = .ok (.arraylength, 1)) (hk : AtO g h p e R s m args below meth c cells slots Z (pc + 1) L (vI (Int32.ofNat (gX g).2.1) :: S) mem) : AtO g h p e R s m args below meth c cells slots Z pc L (vO 20 k i :: S) mem := by
  obtain ⟨hx, hb, hml, hown, hrm, hK, hT, hE, hq1, hq2, hq3⟩ := C
  intro H locs ls hP hS hl hLo hSo
  obtain ⟨hX, hbl, hbA⟩ := hE.2.2.2.2
  exact va_slen hx hb hX hbl hbA hS hd (hk H locs ls hP hS hl hLo (okS_c trivial (okS_t hSo)))
theorem s_statA (C : Okc g h Q p e R s m args below meth c cells slots Z) {k i : Nat} {x : Int32} (hd : decode (hB h) pc = .ok (.iaload, 1)) (hin : vp_in x 5) (hk : AtO g h p e R s m args below meth c cells slots Z (pc + 1) L (vI (staV k x.toNatClampNeg) :: S) mem) : AtO g h p e R s m args below meth c cells slots Z pc L (vI x :: vO 22 k i :: S) mem := by
  obtain ⟨hx, hb, hml, hown, hrm, hK, hT, hE, hq1, hq2, hq3⟩ := C
  intro H locs ls hP hS hl hLo hSo
  have h2 : k < 2 := Nat.ble_eq.mp (okS_h (okS_t hSo))
  have hw := hk H locs ls hP hS hl hLo (okS_c trivial (okS_t (okS_t hSo)))
  have hk2 : k = 0 ∨ k = 1 := by omega
  rcases hk2 with rfl | rfl
  · exact va_ti hx hb hE.2.2.1 hS hin rfl hd hw
  · exact va_ti hx hb hE.2.2.2.1 hS hin rfl hd hw
theorem s_alen (C : Okc g h Q p e R s m args below meth c cells slots Z) {t k i : Nat} (hd : decode (hB h) pc = .ok (.arraylength, 1)) (hq : (isP t || isQ t) = true) (hk : AtO g h p e R s m args below meth c cells slots Z (pc + 1) L (vI (Int32.ofNat (lenO t k)) :: S) mem) : AtO g h p e R s m args below meth c cells slots Z pc L (vO t k i :: S) mem := by
  obtain ⟨hx, hb, hml, hown, hrm, hK, hT, hE, hq1, hq2, hq3⟩ := C
  intro H locs ls hP hS hl hLo hSo
  have hw := hk H locs ls hP hS hl hLo (okS_c trivial (okS_t hSo))
  simp only [Bool.or_eq_true] at hq
  rcases hq with hq | hq
  · obtain ⟨hok, h0, h25, h99, hq2, hty⟩ := isP_sp (okS_h hSo) hq
    rw [List.map_cons, vvO_ref h0 h25]
    refine va_alen (D := gD g) (cl := clsL) hx hb hK hP (ordO t k i) 0 (x := (lenO t k, .inl (mem (t, k, i)))) ?_ (tysO_at (by decide)) rfl hd hw
    rw [wsO_at hok, cellO_arr h99 hq2, hty]
  · obtain ⟨hok, h0, h25, h99, h7, CC, hC⟩ := isQ_sp (okS_h hSo) hq
    rw [List.map_cons, vvO_ref h0 h25]
    refine va_alen (D := gD g) (cl := clsL) hx hb hK hP (ordO t k i) (tyO t) (x := (lenO t k, .inr (.inr (.inr (.inr (fun j => match elO t k j with | (t, k, i) => some (adO g t k i))))))) ?_ (tysO_at h7) rfl hd hw
    rw [wsO_at hok, cellO_arq h99 hq]
end SNH
