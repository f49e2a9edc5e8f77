/-! THE LAW FROM ITS ENTRY -/
theorem ok_0 : Ok (rd mem0 0) := by
  refine ⟨⟨⟨⟨nI_0.symm, Nat.zero_le _⟩, ⟨nI_0.symm, Nat.zero_le _⟩, ⟨nI_0.symm, Nat.zero_le _⟩⟩, Nat.zero_le _⟩, fun i hi => absurd hi (Nat.not_lt_zero i), fun i hi => absurd hi (Nat.not_lt_zero i), ⟨fun i hi => absurd hi (Nat.not_lt_zero i), fun i hi => absurd hi (Nat.not_lt_zero i)⟩, fun i hi => absurd hi (Nat.not_lt_zero i), fun j hj => ?_⟩
  show ¬ stV j < 0
  rcases (show j = 0 ∨ j = 1 ∨ j = 2 ∨ j = 3 ∨ j = 4 by omega) with rfl | rfl | rfl | rfl | rfl <;> decide
theorem gd_0 : Gd 0 (rd mem0 0) := ⟨ok_0, fun i hi => absurd hi (Nat.not_lt_zero i), ⟨0, 0, Nat.le_refl 0, Nat.le_refl 0, nI_0.symm, nI_0.symm⟩, ⟨rfl, rfl⟩, fun i hi => absurd hi (Nat.not_lt_zero i)⟩
theorem hx_0 : Hx mem0 := ⟨0, 0, by decide, by decide, nI_0.symm, nI_0.symm⟩
theorem dl_0 : decode (hB h_Lw_law) 0 = .ok (.new 10, 3) := by decide +kernel
theorem dl_3 : decode (hB h_Lw_law) 3 = .ok (.dup, 1) := by decide +kernel
theorem dl_4 : decode (hB h_Lw_law) 4 = .ok (.invokespecial 72, 3) := by decide +kernel
theorem dl_7 : decode (hB h_Lw_law) 7 = .ok (.astore_n 1, 1) := by decide +kernel
set_option maxRecDepth 100000 in
theorem ll_new : InT (.classLink (hY h_Lw_law).cls 10 (clsN 0)) := InT.of 14 rfl rfl
set_option maxRecDepth 100000 in
theorem ll_ini : InT (.methodLink (hY h_Lw_law).cls 72 (hY h_N_init)) ∨ ∃ host, InT (.methodLinkNest (hY h_Lw_law).cls 72 (hY h_N_init) host) := Or.inl (InT.of 16 rfl rfl)
set_option maxHeartbeats 4000000 in
theorem law_from {g : Wg} {p : Program} {e : Env} {s : State} {m : MethodId} {below : List Frame} {meth : Method} {c : Code} (hx : p.tables.exec = Jvm.exec) (hb : c.code = code) (hr : meth.sig.returnType = ret) (hml : c.maxLocals = 11) (hown : s.vm.findClass R_law = some m.cls) (hlocks : meth.locks = false) (hT : Tb s) (hTa : Ta s) (hB : gB g = s.heap.size) (hK : va_K (gD g) clsL (tysO g) s) (hE : Ext g s s.heap) (hL : (gX g).2.1 ≤ 260) : W p (gL g) e room_1 s m #[Value.ref (gX g).1] below meth c s.heap [] 0 0 (lw_Z below #[Value.ref (gX g).1] s) (entryFrame m ([Value.ref (gX g).1] : List Value).toArray 11) := by
  have C : Cx g h_Lw_law p room_1 s m c := ⟨hx, hb, hml, hown, ⟨Nat.le_of_ble_eq_true rfl, Nat.le_of_ble_eq_true rfl⟩, hK, hT, by omega, hTa⟩
  have hl := lv_entry ([Value.ref (gX g).1]) (n := 11) (Nat.le_of_ble_eq_true rfl)
  rw [lg_entry_eq]
  generalize (lg_sl ([Value.ref (gX g).1]) ++ List.replicate (11 - (lg_sl ([Value.ref (gX g).1])).length) Slot.unset).toArray = ls at hl ⊢
  have hl : lv_has ls 11 [(0, .ref (gX g).1)] := hl
  have w : Cw g s 0 (fun _ => .inr (0, [])) s.heap [] := ⟨hB.symm, fun k q hq => by simp [wf] at hq, va_S.rf⟩
  refine w_new C (ci := 0) (fs := df_0) (by decide) dl_0 ll_new cn_0 cz_0 dv_0 (Nat.le_of_ble_eq_true rfl) (Nat.le_of_ble_eq_true rfl) w (fun H w => ?_)
  refine lv_dup hx hb dl_3 rfl ?_
  refine w_init C (hd := h_N_init) (o := 0) (K_N_init (if_pos rfl)) rfl hl.1 dl_4 hk_N_init rfl rfl (Nat.le_of_ble_eq_true rfl) (Nat.le_of_ble_eq_true rfl) ll_ini hi_N_init (Nat.le_of_ble_eq_true rfl) ⟨Nat.le_of_ble_eq_true rfl, Nat.le_of_ble_eq_true rfl⟩ w (fun H locs w => ?_)
  refine lv_astore_n (lv' := [(1, .ref (gB g + 0)), (0, .ref (gX g).1)]) hx hb dl_7 rfl hl (by decide) rfl (fun ls hl => ?_)
  have hP := fin_P (g := g) (cf := cup (fun _ => .inr (0, [])) 0 (.inr (0, df_0))) w.2.1
  have hS := w.2.2
  refine W.widen (k := 600000) (n := 7302250) (Nat.le_of_ble_eq_true rfl) (Nat.le_of_ble_eq_true rfl) ?_
  have G : Go g h_Lw_law (QI (fun x _ => x = 1)) 8 [(0, vO 20 0 0), (1, vO 1 0 0)] [] (wr mem0 0 (rd mem0 0)) := L_8 (m := mem0) hL gd_0 hx_0 ⟨rfl, rfl, rfl⟩ rfl rfl rfl (fun _ => rfl)
  rw [wr_rd] at G
  refine G p e room_1 s m _ below meth c 600000 7302250 _ ⟨hx, hb, hml, hown, ⟨Nat.le_of_ble_eq_true rfl, Nat.le_of_ble_eq_true rfl, Nat.le_of_ble_eq_true rfl, Nat.le_of_ble_eq_true rfl⟩, hK, hT, hE, ?_, ?_, ?_⟩ H locs ls hP hS (lv_sub hl [1, 0] rfl) ?_ (fun _ q => by cases q)
  · intro H locs ls pc x mem hd hq hP hS
    obtain ⟨-, y, hy, rfl⟩ : (x = 0 ∨ x = 1) ∧ ∃ y, some (vI x) = some (vI y) ∧ y = 1 := hq
    have hx1 : x = 1 := Sum.inl.inj (Option.some.inj hy)
    subst hx1
    refine va_forget (fun q hq => ?_) ?_
    · have := hS.2.2 q hq
      have this : gB g ≤ q.base := this
      omega
    · exact lw_ret hx hb hr hlocks hd
  · intro H locs ls pc mem hd hq
    exact hq.elim
  · intro H locs ls pc t k i mem hd ho hq
    exact hq.elim
  · intro q hq
    rcases List.mem_cons.mp hq with rfl | hq
    · rfl
    rcases List.mem_cons.mp hq with rfl | hq
    · rfl
    cases hq
theorem D_all {A : Array Value} {s : State} (hts : ∀ w ∈ lw_tbl, w.before A s = true) : ∃ D : va_G, ∀ ci, ci < 7 → u_Kn s (clsN ci) (clsT ci) (nfO ci) (D.1 ci) (D.2 ci) := by
  have h0 : ∀ ci : Nat, ∃ q : ClassId × (Nat → Nat), ci < 7 → u_Kn s (clsN ci) (clsT ci) (nfO ci) q.1 q.2 := by
    intro ci
    by_cases h : ci < 7
    · have hi : InT (.instantiable (clsN ci) (nfO ci)) := by
        rcases (show ci = 0 ∨ ci = 1 ∨ ci = 2 ∨ ci = 3 ∨ ci = 4 ∨ ci = 5 ∨ ci = 6 by omega) with rfl | rfl | rfl | rfl | rfl | rfl | rfl
        · exact cn_0
        · exact cn_1
        · exact cn_2
        · exact cn_3
        · exact cn_4
        · exact cn_5
        · exact cn_6
      obtain ⟨c, i, hk⟩ := u_known hts (fun w hw => (cls_InT h w hw).1) (hts _ hi.1)
      exact ⟨(c, i), fun _ => hk⟩
    · exact ⟨(0, fun _ => 0), fun q => absurd q h⟩
  obtain ⟨f, hf⟩ := Classical.axiomOfChoice h0
  exact ⟨(fun ci => (f ci).1, fun ci => (f ci).2), hf⟩
set_option maxRecDepth 100000 in
theorem Ta_of {A : Array Value} {s : State} (hts : ∀ w ∈ lw_tbl, w.before A s = true) : Ta s := by
  have a (ty : FieldType) (h : Cond.arrayClass ty ∈ lw_tbl) : ∀ B : Array Value, (Cond.arrayClass ty).before B s = true := fun B => word_at (State.WarmedH.refl s) (Or.inr ⟨_, rfl⟩) (hts _ h)
  exact ⟨a _ (List.mem_of_getElem? (i := 60) rfl), a _ (List.mem_of_getElem? (i := 292) rfl), a _ (List.mem_of_getElem? (i := 293) rfl), va_AO.of (hts _ (List.mem_of_getElem? (i := 29) rfl)), va_AO.of (hts _ (List.mem_of_getElem? (i := 31) rfl)), va_AO.of (hts _ (List.mem_of_getElem? (i := 33) rfl)), va_AO.of (hts _ (List.mem_of_getElem? (i := 257) rfl))⟩
theorem arr_p {s : State} {ty : FieldType} (hra : ∀ cA, va_RA s cA ty = (s.vm.findClass ("[" ++ ty.toString) = some cA)) (h : ∀ A : Array Value, (Cond.arrayClass ty).before A s = true) : ∃ cA : ClassId, ArrOfT s cA ty ∧ va_RA s cA ty := by
  obtain ⟨c, k, comp, h1, h2, h3⟩ := Cond.arrayClass_spec (h #[])
  exact ⟨c, fun n z => ⟨fun k h => (by cases h), k, h2, comp, h3⟩, by rw [hra]; exact h1⟩
theorem arr_q {s : State} {cn : String} (h : va_AO cn s) : ∃ cA : ClassId, ArrOfT s cA (.object cn) ∧ va_RA s cA (.object cn) := by
  obtain ⟨comp, c, k, h1, h2, h3, h4, h5⟩ := Cond.arrayOver_spec h
  exact ⟨c, fun n z => ⟨fun k h => (by cases h), k, h3, comp, h4⟩, k, comp, h3, h4, h1, h5⟩
theorem C_all {s : State} (h : Ta s) : ∃ gc : Nat → ClassId, ∀ q, q < 7 → ArrOfT s (gc q) (arrT q) ∧ va_RA s (gc q) (arrT q) := by
  have h0 : ∀ q : Nat, ∃ cA : ClassId, q < 7 → ArrOfT s cA (arrT q) ∧ va_RA s cA (arrT q) := by
    intro q
    by_cases hq : q < 7
    · obtain ⟨a1, a2, a3, a4, a5, a6, a7⟩ := h
      have key : ∃ cA : ClassId, ArrOfT s cA (arrT q) ∧ va_RA s cA (arrT q) := by
        rcases (show q = 0 ∨ q = 1 ∨ q = 2 ∨ q = 3 ∨ q = 4 ∨ q = 5 ∨ q = 6 by omega) with rfl | rfl | rfl | rfl | rfl | rfl | rfl
        · exact arr_p (fun _ => rfl) a1
        · exact arr_p (fun _ => rfl) a2
        · exact arr_p (fun _ => rfl) a3
        · exact arr_q a4
        · exact arr_q a5
        · exact arr_q a6
        · exact arr_q a7
      obtain ⟨cA, hc⟩ := key
      exact ⟨cA, fun _ => hc⟩
    · exact ⟨0, fun q => absurd q hq⟩
  exact Classical.axiomOfChoice h0
theorem clsL_of {c : Nat} {q : vw_C} (h : clsL[c]? = some q) : c < 7 ∧ q = (clsN c, clsT c, nfO c) := by
  have hc : c < 7 := (List.getElem?_eq_some_iff.mp h).1
  rw [clsL_at hc] at h
  exact ⟨hc, (Option.some.inj h).symm⟩
theorem tysO_of {g : Wg} {c : Nat} {q : ClassId × FieldType} (h : (tysO g)[c]? = some q) : c < 7 ∧ q = (gC g c, arrT c) := by
  have hc : c < 7 := (List.getElem?_eq_some_iff.mp h).1
  rw [tysO_at hc] at h
  exact ⟨hc, (Option.some.inj h).symm⟩
/-- from the entry, for every script of at most 260 ints, the law comes to its end with true -/
theorem whole_start {p : Program} {e : Env} {s : State} {m : MethodId} {below : List Frame} {meth : Method} {c : Code} (l : Launch) (hflags : l.flags = flags0) {b L : Nat} {xs : Nat → Int32} (hL : L ≤ 260) (C0 : lw_At p s m meth c b L xs) : W p l e room_1 s m #[Value.ref b] below meth c s.heap [] 0 0 (lw_Z below #[Value.ref b] s) (entryFrame m ([Value.ref b] : List Value).toArray 11) := by
  obtain ⟨hx, hb, hr, hml, hown, hts, hX, hbl, hlocks, hgv⟩ := C0
  obtain ⟨D, hD⟩ := D_all hts
  have hTa := Ta_of hts
  obtain ⟨gc, hgc⟩ := C_all hTa
  obtain ⟨T, e1, e2, e3, e4⟩ := ext_all (P := fun q => s.heap.size ≤ q) hts hgv (fun a h => Nat.not_le.mpr h)
  refine law_from (g := (l, D, s.heap.size, gc, T, none, (b, L, xs))) hx hb hr hml hown hlocks (Tb.of hts) hTa rfl ⟨fun k q hq => ?_, fun k q hq => ?_⟩ ⟨e1, e2, e3, e4, hX, hbl, Nat.not_le.mpr hbl⟩ hL
  · obtain ⟨h1, rfl⟩ := clsL_of hq
    exact hD k h1
  · obtain ⟨h1, rfl⟩ := tysO_of hq
    exact hgc k h1
