/-! CONSTRUCTORS: a world that grows, object after object; rows for what makes and lays -/
def wf (g : Wg) (n : Nat) (cf : Nat → va_E) : va_W := (List.range n).map (fun i => (gB g + i, cf i))
def cup (cf : Nat → va_E) (k : Nat) (e : va_E) : Nat → va_E := fun j => if j = k then e else cf j
theorem wf_len {g : Wg} {n : Nat} {cf : Nat → va_E} : (wf g n cf).length = n := by simp [wf]
theorem wf_at {g : Wg} {n i : Nat} {cf : Nat → va_E} (h : i < n) : (wf g n cf)[i]? = some (gB g + i, cf i) := by
  unfold wf
  rw [List.getElem?_map, List.getElem?_range h]
  rfl
theorem wf_of {g : Wg} {n k : Nat} {cf : Nat → va_E} {q : Nat × va_E} (h : (wf g n cf)[k]? = some q) : k < n ∧ q = (gB g + k, cf k) := by
  have hk : k < n := by
    have := (List.getElem?_eq_some_iff.mp h).1
    rw [wf_len] at this
    exact this
  rw [wf_at hk] at h
  exact ⟨hk, (Option.some.inj h).symm⟩
theorem wf_set {g : Wg} {n k : Nat} {cf : Nat → va_E} {e : va_E} (h : k < n) : (wf g n cf).set k (gB g + k, e) = wf g n (cup cf k e) := by
  apply List.ext_getElem?
  intro j
  by_cases hj : j < n
  · rw [wf_at hj]
    by_cases hk : j = k
    · subst hk
      rw [List.getElem?_set_self (by rw [wf_len]; exact hj)]
      simp [cup]
    · rw [List.getElem?_set_ne (Ne.symm hk), wf_at hj]
      simp [cup, hk]
  · rw [List.getElem?_eq_none (by rw [List.length_set, wf_len]; omega), List.getElem?_eq_none (by rw [wf_len]; omega)]
theorem wf_push {g : Wg} {n : Nat} {cf : Nat → va_E} {e : va_E} : wf g n cf ++ [(gB g + n, e)] = wf g (n + 1) (cup cf n e) := by
  apply List.ext_getElem?
  intro j
  by_cases hj : j < n
  · rw [List.getElem?_append_left (by rw [wf_len]; exact hj), wf_at hj, wf_at (by omega)]
    simp [cup, Nat.ne_of_lt hj]
  · by_cases hk : j = n
    · subst hk
      rw [List.getElem?_append_right (by rw [wf_len]; omega), wf_len, Nat.sub_self, wf_at (by omega)]
      simp [cup]
    · rw [List.getElem?_eq_none (by rw [List.length_append, wf_len]; show n + 1 ≤ j; omega), List.getElem?_eq_none (by rw [wf_len]; omega)]
theorem wf_D {g : Wg} {n : Nat} {cf : Nat → va_E} : va_D (gA g) (wf g n cf) := by
  refine ⟨fun i j x y hx hy e => ?_, fun k q hq => ?_⟩
  · rw [(wf_of hx).2, (wf_of hy).2] at e
    have e : gB g + i = gB g + j := e
    omega
  · rw [(wf_of hq).2]
    show gB g ≤ gB g + k
    omega
theorem wf_eq {g : Wg} {n : Nat} {cf cf' : Nat → va_E} (h : ∀ i, i < n → cf i = cf' i) : wf g n cf = wf g n cf' := by
  apply List.ext_getElem?
  intro j
  by_cases hj : j < n
  · rw [wf_at hj, wf_at hj, h j hj]
  · rw [List.getElem?_eq_none (by rw [wf_len]; omega), List.getElem?_eq_none (by rw [wf_len]; omega)]
/-- the words of arrays' classes -/
def Ta (s : State) : Prop := (∀ A : Array Value, (Cond.arrayClass .int).before A s = true) ∧ (∀ A : Array Value, (Cond.arrayClass .boolean).before A s = true) ∧ (∀ A : Array Value, (Cond.arrayClass .char).before A s = true) ∧ va_AO "NurseryPlaces$Room" s ∧ va_AO "NurseryPlaces$Carer" s ∧ va_AO "NurseryPlaces$Child" s ∧ va_AO "NurseryPlaces$State" s
theorem Ta.warm {s U : State} (hW : s.WarmedH U.vm) (h : Ta s) : Ta U := by
  obtain ⟨h1, h2, h3, h4, h5, h6, h7⟩ := h
  exact ⟨fun A => word_at hW (Or.inr ⟨_, rfl⟩) (h1 #[]), fun A => word_at hW (Or.inr ⟨_, rfl⟩) (h2 #[]), fun A => word_at hW (Or.inr ⟨_, rfl⟩) (h3 #[]), h4.moved hW.alike, h5.moved hW.alike, h6.moved hW.alike, h7.moved hW.alike⟩
/-- what a constructor knows of the machine; its world -/
def Cx (g : Wg) (h : Hd) (p : Program) (R : Room) (s : State) (m : MethodId) (c : Code) : Prop := p.tables.exec = Jvm.exec ∧ c.code = hB h ∧ c.maxLocals = hM h ∧ s.vm.findClass (hY h).cls = some m.cls ∧ (hF h ≤ R.frames ∧ hL h ≤ R.locals) ∧ va_K (gD g) clsL (tysO g) s ∧ Tb s ∧ gB g ≤ s.heap.size ∧ Ta s
def Cw (g : Wg) (s : State) (n : Nat) (cf : Nat → va_E) (H : Heap) (locs : List Loc) : Prop := H.size = gB g + n ∧ va_P (gD g) clsL (wf g n cf) H ∧ va_S (gA g) s.heap H locs
theorem Cw.eq {g : Wg} {s : State} {n n' : Nat} {cf cf' : Nat → va_E} {H : Heap} {locs : List Loc} (w : Cw g s n cf H locs) (hn : n = n') (h : ∀ i, i < n → cf i = cf' i) : Cw g s n' cf' H locs := by
  subst hn
  exact ⟨w.1, by rw [← wf_eq h]; exact w.2.1, w.2.2⟩
set_option maxRecDepth 100000 in
theorem obj_in : InT (.instanceMethod Lib.objectInit) ∧ InT (.code Lib.objectInit ⟨#[0xb1]⟩ 1 none) := ⟨InT.of 20 rfl rfl, InT.of 21 rfl rfl⟩
section CON
variable {g : Wg} {h : Hd} {p : Program} {l : Launch} {e : Env} {R : Room} {s : State} {m : MethodId} {args : Array Value} {below : List Frame} {meth : Method} {c : Code} {H : Heap} {locs : List Loc} {cells slots : Nat} {Q : State → Prop} {pc : Nat} {ls : Array Slot} {rest : List Value} {n : Nat} {cf : Nat → va_E}
theorem w_new (C : Cx g h p R s m c) {idx ci : Nat} (hci : ci < 7) (hd : decode (hB h) pc = .ok (.new idx, 3)) (h1 : InT (.classLink (hY h).cls idx (clsN ci))) (h2 : InT (.instantiable (clsN ci) (nfO ci))) (h3 : InT (.initialized (clsN ci))) {fs : List Value} (hfs : ∀ j, j < nfO ci → defaultValue (clsF ci j) = vp_V fs j) (hc : cells + 1 ≤ R.cells) (hs : slots + nfO ci ≤ R.slots) (w : Cw g s n cf H locs)
    (kk : ∀ H1, Cw g s (n + 1) (cup cf n (.inr (ci, fs))) H1 locs → W p l e R s m args below meth c H1 locs (cells + 1) (slots + nfO ci) Q (F0 m (pc + 3) ls (.ref (gB g + n) :: rest))) : W p l e R s m args below meth c H locs cells slots Q (F0 m pc ls rest) := by
  obtain ⟨hx, hb, hml, hown, -, hK, hT, hB⟩ := C
  obtain ⟨hz, hP, hS⟩ := w
  have hKn := hK.1 ci _ (clsL_at hci)
  refine W.newcK hx hb hown (hT.use h1) (hT.use h2) (hT.use h3) rfl hd hc hs hKn.2.1 hz fun H1 kC hkC e1 z1 o1 => ?_
  have hle := hS.1
  refine kk H1 ⟨by rw [z1]; omega, ?_, ⟨by omega, fun x a1 a2 => (o1 x (by omega)).trans (hS.2.1 x a1 a2), hS.2.2⟩⟩
  rw [← wf_push]
  refine (hP.kept fun k x hx => o1 x.1 (by rw [← hz]; exact (hP k x hx).lt)).app (fun k x hx => ?_)
  have hk1 : k < 1 := (List.getElem?_eq_some_iff.mp hx).1
  rw [show k = 0 by omega] at hx
  cases hx
  exact ⟨_, clsL_at hci, (u_born (args := #[]) (clsF ci) (fun w hw => hT.use (cls_InT hci w hw)) (fun _ q => q) hKn hkC e1 (cls_ty0 ci hci)).to hfs⟩
theorem w_newa (C : Cx g h p R s m c) {q N : Nat} {x : Int32} {atype : ArrayType} (hq : q < 7) (hty : newarray.typeOf atype = arrT q) (hra : va_RA s (gC g q) (arrT q) = (s.vm.findClass ("[" ++ (arrT q).toString) = some (gC g q))) (hdv : defaultValue (arrT q) = .int 0) (hd : decode (hB h) pc = .ok (.newarray atype, 2)) (h1 : ∀ A : Array Value, (Cond.arrayClass (newarray.typeOf atype)).before A s = true) (hn : ¬ x < 0) (hN : x.toNatClampNeg = N) (hby : N * componentBytes (newarray.typeOf atype) ≤ 536870912) (hc : cells + 1 ≤ R.cells) (hs : slots + N ≤ R.slots) (w : Cw g s n cf H locs)
    (kk : ∀ H1, Cw g s (n + 1) (cup cf n (.inl (gC g q, N, .inl (fun _ => 0)))) H1 locs → W p l e R s m args below meth c H1 locs (cells + 1) (slots + N) Q (F0 m (pc + 2) ls (.ref (gB g + n) :: rest))) : W p l e R s m args below meth c H locs cells slots Q (F0 m pc ls (.int x :: rest)) := by
  obtain ⟨hx, hb, hml, hown, -, hK, hT, hB⟩ := C
  obtain ⟨hz, hP, hS⟩ := w
  have hra2 := (hK.2 q _ (tysO_at hq)).2
  rw [hra] at hra2
  refine va_newaK hx hb (h1 _) rfl hd rfl hn hN hby hc hs hz fun H1 cA e1 z1 o1 hAr hNm => ?_
  have hle := hS.1
  have hcA : cA = gC g q := by
    rw [hty] at hNm
    exact Option.some.inj (hNm.symm.trans hra2)
  subst hcA
  refine kk H1 ⟨by rw [z1]; omega, ?_, ⟨by omega, fun x a1 a2 => (o1 x (by omega)).trans (hS.2.1 x a1 a2), hS.2.2⟩⟩
  rw [← wf_push]
  refine (hP.kept fun k x hx => o1 x.1 (by rw [← hz]; exact (hP k x hx).lt)).app (fun k x hx => ?_)
  have hk1 : k < 1 := (List.getElem?_eq_some_iff.mp hx).1
  rw [show k = 0 by omega] at hx
  cases hx
  show H1[gB g + n]? = some (vp_cell _ _)
  rw [e1, hty, hdv]
  rfl
theorem w_anew (C : Cx g h p R s m c) {q N idx : Nat} {x : Int32} {cn : String} (hq : q < 7) (hty : arrT q = .object cn) (hd : decode (hB h) pc = .ok (.anewarray idx, 3)) (h1 : InT (.classLink (hY h).cls idx cn)) (h2 : va_AO cn s) (hn : ¬ x < 0) (hN : x.toNatClampNeg = N) (hby : N * 4 ≤ 536870912) (hc : cells + 1 ≤ R.cells) (hs : slots + N ≤ R.slots) (w : Cw g s n cf H locs)
    (kk : ∀ H1, Cw g s (n + 1) (cup cf n (.inl (gC g q, N, .inr (.inr (.inr (.inr (fun _ => none))))))) H1 locs → W p l e R s m args below meth c H1 locs (cells + 1) (slots + N) Q (F0 m (pc + 3) ls (.ref (gB g + n) :: rest))) : W p l e R s m args below meth c H locs cells slots Q (F0 m pc ls (.int x :: rest)) := by
  obtain ⟨hx, hb, hml, hown, -, hK, hT, hB⟩ := C
  obtain ⟨hz, hP, hS⟩ := w
  subst hN
  have hra := (hK.2 q _ (tysO_at hq)).2
  rw [hty] at hra
  obtain ⟨-, -, -, -, -, hra⟩ := hra
  refine W.anew hx hb hown (hT.use h1) (va_AO.use h2) rfl hd rfl hn hby hc hs fun cA kA comp f1 f2 f3 f4 => ?_
  have hcA : cA = gC g q := Option.some.inj (f1.symm.trans hra)
  subst hcA
  generalize hH1 : H.push ({ cls := gC g q, slots := Array.replicate x.toNatClampNeg .null, vm := .none } : Cell) = H1
  have z1 : H1.size = H.size + 1 := by rw [← hH1, Array.size_push]
  have e1 : H1[H.size]? = some (arrV (gC g q) x.toNatClampNeg (fun _ => .null)) := by rw [← hH1, Array.getElem?_push_size, ← arrV_new]
  have o1 : ∀ q : Nat, q < H.size → H1[q]? = H[q]? := fun q hq => by rw [← hH1, Array.getElem?_push, if_neg (Nat.ne_of_lt hq)]
  have hle := hS.1
  rw [hz] at e1 ⊢
  refine kk H1 ⟨by rw [z1]; omega, ?_, ⟨by omega, fun x a1 a2 => (o1 x (by omega)).trans (hS.2.1 x a1 a2), hS.2.2⟩⟩
  rw [← wf_push]
  refine (hP.kept fun k x hx => o1 x.1 ((hP k x hx).lt)).app (fun k y hy => ?_)
  have hk1 : k < 1 := (List.getElem?_eq_some_iff.mp hy).1
  rw [show k = 0 by omega] at hy
  cases hy
  show H1[gB g + n]? = some (vp_cell _ _)
  rw [vp_cell_q]
  exact e1
theorem w_putF (C : Cx g h p R s m c) (hin : meth.name = "<init>") {idx ci k o : Nat} {fs : List Value} {v : Value} (hci : ci < 7) (hcn : (hY h).cls = clsN ci) (ho : o < n) (hcf : cf o = .inr (ci, fs)) (hk : k < nfO ci) (hlk : LkF (hY h).cls idx ci k) (hfin : (clsT ci k).2.2.2 = true) (hdc : (clsT ci k).1 = (hY h).cls) (hn : narrow (clsF ci k) v = v) (hfit : fits (clsF ci k) v = true) (hl : k < fs.length) (hd : decode (hB h) pc = .ok (.putfield idx, 3)) (w : Cw g s n cf H locs)
    (kk : ∀ H1 locs1, Cw g s n (cup cf o (.inr (ci, fs.set k v))) H1 locs1 → W p l e R s m args below meth c H1 locs1 cells slots Q (F0 m (pc + 3) ls rest)) : W p l e R s m args below meth c H locs cells slots Q (F0 m pc ls (v :: .ref (gB g + o) :: rest)) := by
  obtain ⟨hx, hb, hml, hown, -, hK, hT, hB⟩ := C
  obtain ⟨hz, hP, hS⟩ := w
  have hts : ∀ w ∈ u_ws (clsN ci) (clsT ci) (nfO ci), w.before args s = true := fun w hw => hT.use (cls_InT hci w hw)
  have hap := va_apart (own := (hY h).cls) hts (fun _ q => q) (clsF ci) (cls_ty0 ci hci) (cls_nm0 ci hci) hK (clsL_at hci)
  have he : (wf g n cf)[o]? = some (gB g + o, .inr (ci, fs)) := by rw [wf_at ho, hcf]
  obtain ⟨r, h1, cell, q1, q2, q3, q4⟩ := hP o _ he
  have hr : r = (clsN ci, clsT ci, nfO ci) := Option.some.inj (h1.symm.trans (clsL_at hci))
  subst hr
  obtain ⟨hSl, hfc, kC, hkC, hkind⟩ := hK.1 ci _ (clsL_at hci)
  obtain ⟨cf2, kf, fi, f, hi, hsl⟩ := hSl k hk
  have hlay := hts _ (u_in_lay hk)
  unfold u_lay at hlay
  rw [if_pos hfin] at hlay
  have hst := (u_facts hfc hkC (u_lays hts (fun _ q => q) hk) hi).1
  have hcf2 : m.cls = cf2 := by
    obtain ⟨_, _, c', _, _, _, -, -, hf', -, -, -, hown2, -⟩ := Cond.laysFinal_spec hlay
    have e1 : c' = cf2 := by have := hi.symm.trans hf'; simp at this; exact this.1.symm
    rw [hdc] at hown2
    rw [← e1]; exact Option.some.inj (hown.symm.trans hown2)
  have h6 := u_fits hfc hkC hkind (Or.inr hlay) hi (cls_ty0 ci hci k hk) hn hfit
  refine W.putFinK hx hb hown (hT.use hlk) hi hst hcf2 hin (by rw [q2]; exact h6) q1 q3 (by rw [hsl]; exact k2_hasslot (q4 k hk)) rfl rfl hd fun H' e1 e2 e3 => ?_
  rw [hsl] at e1 ⊢
  refine kk H' _ ⟨by rw [e2]; exact hz, ?_, hS.put e2 e3 (wf_D.2 o _ he)⟩
  rw [← wf_set ho]
  exact hP.set wf_D he ⟨_, clsL_at hci, t_OB.to (V := updV (vp_V fs) k v) ⟨_, e1, q2, q3, t_set q4 hap hk v⟩ (fun j _ => vp_updV_set hl v j)⟩ e3
theorem w_get (C : Cx g h p R s m c) {idx ci k o : Nat} {fs : List Value} {v : Value} (hci : ci < 7) (ho : o < n) (hcf : cf o = .inr (ci, fs)) (hk : k < nfO ci) (hlk : LkF (hY h).cls idx ci k) (hv : fs[k]? = some v) (hd : decode (hB h) pc = .ok (.getfield idx, 3)) (w : Cw g s n cf H locs)
    (kk : W p l e R s m args below meth c H locs cells slots Q (F0 m (pc + 3) ls (v :: rest))) : W p l e R s m args below meth c H locs cells slots Q (F0 m pc ls (.ref (gB g + o) :: rest)) := by
  obtain ⟨hx, hb, hml, hown, -, hK, hT, hB⟩ := C
  obtain ⟨hz, hP, hS⟩ := w
  exact va_get hx hb (Ts := u_ws (clsN ci) (clsT ci) (nfO ci)) (fun w hw => hT.use (cls_InT hci w hw)) (fun _ q => q) hown hK hP o (by rw [wf_at ho, hcf]) (clsL_at hci) k hk (hT.use hlk) (fun _ q => q) hv hd kk
theorem w_iast (C : Cx g h p R s m c) {o N : Nat} {f : Nat → Int32} {i x : Int32} (ho : o < n) (hcf : cf o = .inl (gC g 0, N, .inl f)) (hi : vp_in i N) (hd : decode (hB h) pc = .ok (.iastore, 1)) (w : Cw g s n cf H locs)
    (kk : ∀ H1 locs1, Cw g s n (cup cf o (.inl (gC g 0, N, .inl (upd f i.toNatClampNeg x)))) H1 locs1 → W p l e R s m args below meth c H1 locs1 cells slots Q (F0 m (pc + 1) ls rest)) : W p l e R s m args below meth c H locs cells slots Q (F0 m pc ls (.int x :: .int i :: .ref (gB g + o) :: rest)) := by
  obtain ⟨hx, hb, hml, hown, -, hK, hT, hB⟩ := C
  obtain ⟨hz, hP, hS⟩ := w
  have he : (wf g n cf)[o]? = some (gB g + o, .inl (gC g 0, N, .inl f)) := by rw [wf_at ho, hcf]
  refine W.iast hx hb (hP o _ he) ((hK.2 0 _ (tysO_at (by decide))).1 N (fun j => .int (f j))) (fun q => by cases q) (by show ¬ (i < 0 ∨ (arrV _ _ _).slots.size ≤ _); rw [arrV_size]; exact hi) rfl rfl hd fun H1 e1 z oq => ?_
  refine kk H1 _ ⟨by rw [z]; exact hz, ?_, hS.put z oq (wf_D.2 o _ he)⟩
  rw [← wf_set ho]
  refine hP.set wf_D he ?_ oq
  show H1[gB g + o]? = some (vp_cell _ _)
  rw [e1]
  rw [vp_cell_i, vp_cell_i, arrV_store]
  congr 2
  funext q
  by_cases hq : q = i.toNatClampNeg
  · subst hq
    simp [updV, upd]
  · simp [updV, upd, hq]
theorem w_aast (C : Cx g h p R s m c) {o N q ci v : Nat} {f : Nat → Option Nat} {fs : List Value} {i : Int32} (hq : q < 7) (hci : ci < 7) (hty : arrT q = .object (clsN ci)) (ho : o < n) (hcf : cf o = .inl (gC g q, N, .inr (.inr (.inr (.inr f))))) (hv : v < n) (hcv : cf v = .inr (ci, fs)) (hi : vp_in i N) (hd : decode (hB h) pc = .ok (.aastore, 1)) (w : Cw g s n cf H locs)
    (kk : ∀ H1 locs1, Cw g s n (cup cf o (.inl (gC g q, N, .inr (.inr (.inr (.inr (va_up f i.toNatClampNeg (some (gB g + v)))))))) ) H1 locs1 → W p l e R s m args below meth c H1 locs1 cells slots Q (F0 m (pc + 1) ls rest)) : W p l e R s m args below meth c H locs cells slots Q (F0 m pc ls (.ref (gB g + v) :: .int i :: .ref (gB g + o) :: rest)) := by
  obtain ⟨hx, hb, hml, hown, -, hK, hT, hB⟩ := C
  obtain ⟨hz, hP, hS⟩ := w
  have he : (wf g n cf)[o]? = some (gB g + o, .inl (gC g q, N, .inr (.inr (.inr (.inr f))))) := by rw [wf_at ho, hcf]
  have hv2 : (wf g n cf)[v]? = some (gB g + v, .inr (ci, fs)) := by rw [wf_at hv, hcv]
  have hlt : i.toNatClampNeg < N := Nat.not_le.mp fun q => hi (Or.inr q)
  have h0 : ¬ i < 0 := fun q => hi (Or.inl q)
  obtain ⟨r', hr', cellV, g1, g2, g3, -⟩ := hP v _ hv2
  have hcls := (hK.1 ci _ (clsL_at hci)).2
  have hra := (hK.2 q _ (tysO_at hq)).2
  rw [hty] at hra
  obtain ⟨kA, comp, k1, k2, k3, -⟩ := hra
  have hcomp : comp = (gD g).1 ci := Option.some.inj (k3.symm.trans hcls.1)
  subst hcomp
  obtain ⟨kC, hkC, -⟩ := hcls.2
  refine W.aast hx hb (hP o _ he) (fun q h => by cases h) (fun h => by cases h) k1 k2 rfl hkC ⟨h0, by show _ < (arrV _ _ _).slots.size; rw [arrV_size]; exact hlt⟩ g1 (fun q h => by rw [g3] at h; cases h) (by rw [g2]; exact hkC) (by rw [g2]; exact va_assign hcls) rfl rfl hd fun H1 e1 z oq => ?_
  refine kk H1 _ ⟨by rw [z]; exact hz, ?_, hS.put z oq (wf_D.2 o _ he)⟩
  rw [← wf_set ho]
  refine hP.set wf_D he ?_ oq
  show H1[gB g + o]? = some (vp_cell _ _)
  rw [e1]
  rw [vp_cell_q, vp_cell_q, arrV_store]
  congr 2
  funext q
  by_cases hq : q = i.toNatClampNeg
  · subst hq
    simp [updV, va_up, va_rf]
  · simp [updV, va_up, hq]
theorem w_obj (C : Cx g h p R s m c) {idx : Nat} {a : Nat} (hl : ls.size = hM h) (hd : decode (hB h) pc = .ok (.invokespecial idx, 3)) (h1 : InT (.methodLink (hY h).cls idx Lib.objectInit)) (hf : 1 ≤ hF h) (hlo : 12 ≤ hL h) (kk : W p l e R s m args below meth c H locs cells slots Q (F0 m (pc + 3) ls [])) : W p l e R s m args below meth c H locs cells slots Q (F0 m pc ls [.ref a]) := by
  obtain ⟨hx, hb, hml, hown, ⟨hr1, hr2⟩, hK, hT, hB⟩ := C
  exact W.objInit hx hb hown (hT.use h1) (hT.use obj_in.1) (hT.use obj_in.2) rfl (by rw [hml]; exact hl) rfl hd (Nat.le_trans hf hr1) (Nat.le_trans hlo hr2) kk
end CON
/-- a constructor's contract: at object o, the newest; k objects more, mc and ms at most, then the world cf' -/
def PcC (g : Wg) (o : Nat) (cf : Nat → va_E) : Array Value → State → Prop := fun v U => v = #[.ref (gB g + o)] ∧ (U.heap.size = gB g + (o + 1) ∧ va_P (gD g) clsL (wf g (o + 1) cf) U.heap) ∧ va_K (gD g) clsL (tysO g) U ∧ Tb U ∧ Ta U
def QcC (g : Wg) (n : Nat) (cf : Nat → va_E) : Array Value → State → Outcome → State → Prop := fun _ st oc t => (oc = .returned none ∧ t.heap.size = gB g + n ∧ va_P (gD g) clsL (wf g n cf) t.heap) ∧ va_F (gA g) st t
def Con (g : Wg) (h : Hd) (o n mc ms : Nat) (cf cf' : Nat → va_E) : Prop := Met (gL g) (hY h) [Cond.code (hY h) (hB h) (hM h) (hR h)] { frames := hF h, cells := mc, slots := ms, locals := hL h } (PcC g o cf) (QcC g n cf') mc ms (gA g)
theorem PcC.blind {g : Wg} {o : Nat} {cf : Nat → va_E} : FrameBlind (PcC g o cf) := fun a U f mk q => ⟨q.1, q.2.1, va_K.moved (u := U) (U := U.calling f mk a) (Vm.Alike.refl U.vm) q.2.2.1, Tb.same (u := U) rfl q.2.2.2.1, Ta.warm (s := U) (U := U.calling f mk a) (State.WarmedH.refl U) q.2.2.2.2⟩
section COC
variable {g : Wg} {h : Hd} {p : Program} {e : Env} {R : Room} {s : State} {m : MethodId} {args : Array Value} {below : List Frame} {meth : Method} {c : Code} {H : Heap} {locs : List Loc} {cells slots : Nat} {Q : State → Prop} {pc : Nat} {ls : Array Slot} {rest : List Value} {n : Nat} {cf : Nat → va_E}
theorem w_init (C : Cx g h p R s m c) {hd : Hd} {idx o n' mc ms : Nat} {cf' : Nat → va_E} (hMt : Con g hd o n' mc ms cf cf') (hn : n = o + 1) (hl : ls.size = hM h) (hdc : decode (hB h) pc = .ok (.invokespecial idx, 3)) (hok : HdOk hd 0) (hret : hR hd = none) (hnm : (hY hd).name = "<init>") (hr1 : hF hd + 1 ≤ hF h) (hr2 : 8 + (hM hd + 11) + hL hd ≤ hL h) (hlk : InT (.methodLink (hY h).cls idx (hY hd)) ∨ ∃ host, InT (.methodLinkNest (hY h).cls idx (hY hd) host)) (hin : InT (.instanceMethod (hY hd))) (hcat : (rest.map fun v => v.category).sum ≤ 8) (hc : cells + mc ≤ R.cells ∧ slots + ms ≤ R.slots) (w : Cw g s n cf H locs)
    (kk : ∀ H1 locs1, Cw g s n' cf' H1 locs1 → W p (gL g) e R s m args below meth c H1 locs1 (cells + mc) (slots + ms) Q (F0 m (pc + 3) ls rest)) : W p (gL g) e R s m args below meth c H locs cells slots Q (F0 m pc ls (.ref (gB g + o) :: rest)) := by
  obtain ⟨hx, hb, hml, hown, hrm, hK, hT, hgB, hTa⟩ := C
  obtain ⟨hz, hP, hS⟩ := w
  subst hn
  obtain ⟨h1, h2, h3, h4, h5⟩ := hok
  have hlen : ∀ sig, parseMethodDescriptor (hY hd).desc = some sig → 0 = sig.parameters.length := fun sig q => by
    rw [q] at h5
    exact (Option.some.inj h5).symm
  have hpre : PreS s H (PcC g o cf) (.ref (gB g + o) :: []) := ⟨PcC.blind, fun U hU hW => ⟨rfl, ⟨by rw [hU]; exact hz, by rw [hU]; exact hP⟩, va_K.moved hW.alike hK, hT.warm hW, hTa.warm hW⟩⟩
  have hws : ∀ w ∈ [Cond.code (hY hd) (hB hd) (hM hd) (hR hd)], ∀ (a' : Array Value) (U : State), s.WarmedH U.vm → w.before a' U = true := fun w hw a' U hW => by
    rw [List.mem_singleton.mp hw]
    exact (hT.warm hW).use h1
  have hrun : va_Run p (gL g) e R s m args below meth c H locs cells slots mc ms (F0 m pc ls (.ref (gB g + o) :: rest)) rest (QcC g n' cf' (Value.ref (gB g + o) :: []).toArray) (gA g) := by
    unfold Con at hMt
    rw [hret] at hMt hws h1
    rcases hlk with hlk | ⟨host, hlk⟩
    · exact va_runI (As := []) (Ts := []) ⟨hx, hb, hml, hown, fun w hw => by cases hw⟩ hMt ⟨⟨rfl, rfl, Nat.le_trans hr1 hrm.1, Nat.le_trans hr2 hrm.2, hws, List.mem_cons_self, hT.use h1, hT.use h2, ⟨h3, h4⟩, hlen, hT.use hlk⟩, hnm, hT.use hin⟩ hpre rfl rfl hl rfl (lv_room hcat) hdc hc
    · exact va_runIN (As := []) (Ts := []) ⟨hx, hb, hml, hown, fun w hw => by cases hw⟩ hMt ⟨⟨⟨rfl, rfl, Nat.le_trans hr1 hrm.1, Nat.le_trans hr2 hrm.2, hws, List.mem_cons_self⟩, hT.use h1, hT.use h2, ⟨h3, h4⟩, hlen, hT.use hlk⟩, hnm, hT.use hin⟩ hpre rfl rfl hl rfl (lv_room hcat) hdc hc
  intro T hT2 X
  obtain ⟨v, st₀, t, T', L, h0, X', hL, e1, e2, ⟨⟨hv, hsz, hp⟩, hz2, hk⟩, st⟩ := hrun T hT2 X
  cases hv
  rw [h0] at hz2 hk
  obtain ⟨t2, a1, b1⟩ := kk T'.heap (locs ++ L) ⟨by rw [e1]; exact hsz, by rw [e1]; exact hp,
    ⟨Nat.le_trans hS.1 (by rw [e1]; exact hz2), fun q a1 a2 => by rw [e1, hk q (Nat.lt_of_lt_of_le a1 hS.1) a2]; exact hS.2.1 q a1 a2, fun q hq => by
      rcases List.mem_append.mp hq with a | a
      · exact hS.2.2 q a
      · exact hL q a⟩⟩ T' rfl X'
  exact ⟨t2, st t2 a1, b1⟩
/-- a constructor's walk -/
theorem Con.of {hd : Hd} {o n' mc ms : Nat} {cf cf' : Nat → va_E} (hpl : plainName (hY hd).cls = true) (hret : hR hd = none) (hnm : (hY hd).name = "<init>") (hm : 1 ≤ hM hd)
    (kk : ∀ (p : Program) (e : Env) (R : Room) (s : State) (m : MethodId) (args : Array Value) (below : List Frame) (meth : Method) (c : Code) (H : Heap) (ls : Array Slot) (Q : State → Prop), Cx g hd p R s m c → meth.name = "<init>" → R.cells = mc → R.slots = ms → Cw g s (o + 1) cf H [] → lv_has ls (hM hd) [(0, .ref (gB g + o))] →
      (∀ (H1 : Heap) (locs1 : List Loc) (pc : Nat) (ls1 : Array Slot), decode (hB hd) pc = .ok (.return_, 1) → Cw g s n' cf' H1 locs1 → W p (gL g) e R s m args below meth c H1 locs1 mc ms Q (F0 m pc ls1 [])) →
      W p (gL g) e R s m args below meth c H [] 0 0 Q (F0 m 0 ls [])) : Con g hd o n' mc ms cf cf' := by
  refine Met.ofW (cc := hB hd) (maxL := hM hd) (ret := hR hd) hpl rfl ?_
  intro p e s m args below meth c s₁ B hml hv
  obtain ⟨rfl, ⟨hz, hP⟩, hK, hT, hTa⟩ := hv
  have hl := lv_entry ([.ref (gB g + o)]) (n := hM hd) (by show 1 ≤ hM hd; exact hm)
  rw [lg_entry_eq]
  refine kk p e _ s m _ below meth c s.heap _ _ ⟨B.exec, B.bytes, hml, findClass_of_methodNamed B.named, ⟨Nat.le_refl _, Nat.le_refl _⟩, hK, hT, by omega, hTa⟩ ((name_of_methodNamed B.named B.method).1.trans hnm) rfl rfl ⟨hz, hP, va_S.rf⟩ hl ?_
  intro H1 locs1 pc ls1 hd1 w
  have hr := B.returns
  have hlocks := B.notSynchronized
  exact W.vret B.exec B.bytes (hr.trans hret) (fun t ht hW => ⟨⟨rfl, by rw [ht]; exact w.1, by rw [ht]; exact w.2.1⟩, w.2.2.F ht⟩) w.2.2.2.2 hd1
end COC
