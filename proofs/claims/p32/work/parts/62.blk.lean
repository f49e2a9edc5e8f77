/-! A CONSTRUCTOR'S OWN BLOCK as a list of cells: from its object o on -/
def bl (o : Nat) (B : List va_E) (cf : Nat → va_E) : Nat → va_E := fun i => if i < o then cf i else B.getD (i - o) (.inr (0, []))
def Bw (g : Wg) (s : State) (o : Nat) (B : List va_E) (cf : Nat → va_E) (H : Heap) (locs : List Loc) : Prop := Cw g s (o + B.length) (bl o B cf) H locs
theorem bl_at {o k : Nat} {B : List va_E} {cf : Nat → va_E} {e : va_E} (h : B[k]? = some e) : bl o B cf (o + k) = e := by
  unfold bl
  rw [if_neg (by omega), Nat.add_sub_cancel_left, List.getD_eq_getElem?_getD, h]
  rfl
theorem Bw.set {g : Wg} {s : State} {o k : Nat} {B : List va_E} {cf : Nat → va_E} {e : va_E} {H : Heap} {locs : List Loc} (w : Cw g s (o + B.length) (cup (bl o B cf) (o + k) e) H locs) (hk : k < B.length) : Bw g s o (B.set k e) cf H locs := by
  unfold Bw
  refine w.eq (by rw [List.length_set]) (fun i hi => ?_)
  unfold cup bl
  by_cases h1 : i < o
  · rw [if_neg (by omega), if_pos h1, if_pos h1]
  · rw [if_neg h1, if_neg h1]
    by_cases h2 : i = o + k
    · rw [if_pos h2, List.getD_eq_getElem?_getD, show i - o = k by omega, List.getElem?_set_self hk]
      rfl
    · rw [if_neg h2, List.getD_eq_getElem?_getD, List.getD_eq_getElem?_getD, List.getElem?_set_ne (by omega)]
theorem Bw.push {g : Wg} {s : State} {o : Nat} {B : List va_E} {cf : Nat → va_E} {e : va_E} {H : Heap} {locs : List Loc} (w : Cw g s (o + B.length + 1) (cup (bl o B cf) (o + B.length) e) H locs) : Bw g s o (B ++ [e]) cf H locs := by
  unfold Bw
  refine w.eq (by rw [List.length_append]; rfl) (fun i hi => ?_)
  unfold cup bl
  by_cases h1 : i < o
  · rw [if_neg (by omega), if_pos h1, if_pos h1]
  · rw [if_neg h1, if_neg h1]
    by_cases h2 : i = o + B.length
    · rw [if_pos h2, List.getD_eq_getElem?_getD, List.getElem?_append_right (by omega), show i - o - B.length = 0 by omega]
      rfl
    · rw [if_neg h2, List.getD_eq_getElem?_getD, List.getD_eq_getElem?_getD, List.getElem?_append_left (by omega)]
theorem Bw.start {g : Wg} {s : State} {o : Nat} {cf : Nat → va_E} {e : va_E} {H : Heap} {locs : List Loc} (w : Cw g s (o + 1) cf H locs) (he : cf o = e) : Bw g s o [e] cf H locs := by
  unfold Bw
  refine w.eq rfl (fun i hi => ?_)
  unfold bl
  by_cases h1 : i < o
  · rw [if_pos h1]
  · rw [if_neg h1, show i = o by omega, Nat.sub_self, he]
    rfl
theorem lt_of_at {B : List va_E} {k : Nat} {e : va_E} (h : B[k]? = some e) : k < B.length := (List.getElem?_eq_some_iff.mp h).1
section BLK
variable {g : Wg} {h : Hd} {p : Program} {l : Launch} {e : Env} {R : Room} {s : State} {m : MethodId} {args : Array Value} {below : List Frame} {meth : Method} {c : Code} {H : Heap} {locs : List Loc} {cells slots : Nat} {Q : State → Prop} {pc : Nat} {ls : Array Slot} {rest : List Value} {o : Nat} {B : List va_E} {cf : Nat → va_E}
theorem b_new (C : Cx g h p R s m c) {idx ci : Nat} (hci : ci < 7) (hd : decode (hB h) pc = .ok (.new idx, 3)) (h1 : InT (.classLink (hY h).cls idx (clsN ci))) (h2 : InT (.instantiable (clsN ci) (nfO ci))) (h3 : InT (.initialized (clsN ci))) {fs : List Value} (hfs : ∀ j, j < nfO ci → defaultValue (clsF ci j) = vp_V fs j) (hc : cells + 1 ≤ R.cells) (hs : slots + nfO ci ≤ R.slots) (w : Bw g s o B cf H locs)
    (kk : ∀ H1, Bw g s o (B ++ [.inr (ci, fs)]) cf H1 locs → W p l e R s m args below meth c H1 locs (cells + 1) (slots + nfO ci) Q (F0 m (pc + 3) ls (.ref (gB g + (o + B.length)) :: rest))) : W p l e R s m args below meth c H locs cells slots Q (F0 m pc ls rest) :=
  w_new C hci hd h1 h2 h3 hfs hc hs w fun H1 w1 => kk H1 (Bw.push w1)
theorem b_newa (C : Cx g h p R s m c) {q N : Nat} {x : Int32} {atype : ArrayType} (hq : q < 7) (hty : newarray.typeOf atype = arrT q) (hra : va_RA s (gC g q) (arrT q) = (s.vm.findClass ("[" ++ (arrT q).toString) = some (gC g q))) (hdv : defaultValue (arrT q) = .int 0) (hd : decode (hB h) pc = .ok (.newarray atype, 2)) (h1 : ∀ A : Array Value, (Cond.arrayClass (newarray.typeOf atype)).before A s = true) (hn : ¬ x < 0) (hN : x.toNatClampNeg = N) (hby : N * componentBytes (newarray.typeOf atype) ≤ 536870912) (hc : cells + 1 ≤ R.cells) (hs : slots + N ≤ R.slots) (w : Bw g s o B cf H locs)
    (kk : ∀ H1, Bw g s o (B ++ [.inl (gC g q, N, .inl (fun _ => 0))]) cf H1 locs → W p l e R s m args below meth c H1 locs (cells + 1) (slots + N) Q (F0 m (pc + 2) ls (.ref (gB g + (o + B.length)) :: rest))) : W p l e R s m args below meth c H locs cells slots Q (F0 m pc ls (.int x :: rest)) :=
  w_newa C hq hty hra hdv hd h1 hn hN hby hc hs w fun H1 w1 => kk H1 (Bw.push w1)
theorem b_anew (C : Cx g h p R s m c) {q N idx : Nat} {x : Int32} {cn : String} (hq : q < 7) (hty : arrT q = .object cn) (hd : decode (hB h) pc = .ok (.anewarray idx, 3)) (h1 : InT (.classLink (hY h).cls idx cn)) (h2 : va_AO cn s) (hn : ¬ x < 0) (hN : x.toNatClampNeg = N) (hby : N * 4 ≤ 536870912) (hc : cells + 1 ≤ R.cells) (hs : slots + N ≤ R.slots) (w : Bw g s o B cf H locs)
    (kk : ∀ H1, Bw g s o (B ++ [.inl (gC g q, N, .inr (.inr (.inr (.inr (fun _ => none)))))]) cf H1 locs → W p l e R s m args below meth c H1 locs (cells + 1) (slots + N) Q (F0 m (pc + 3) ls (.ref (gB g + (o + B.length)) :: rest))) : W p l e R s m args below meth c H locs cells slots Q (F0 m pc ls (.int x :: rest)) :=
  w_anew C hq hty hd h1 h2 hn hN hby hc hs w fun H1 w1 => kk H1 (Bw.push w1)
theorem b_putF (C : Cx g h p R s m c) (hin : meth.name = "<init>") (j : Nat) {idx ci k : Nat} {fs : List Value} {v : Value} (hci : ci < 7) (hcn : (hY h).cls = clsN ci) (hcf : B[j]? = some (.inr (ci, fs))) (hk : k < nfO ci) (hlk : LkF (hY h).cls idx ci k) (hfin : (clsT ci k).2.2.2 = true) (hdc : (clsT ci k).1 = (hY h).cls) (hn : narrow (clsF ci k) v = v) (hfit : fits (clsF ci k) v = true) (hl : k < fs.length) (hd : decode (hB h) pc = .ok (.putfield idx, 3)) (w : Bw g s o B cf H locs)
    (kk : ∀ H1 locs1, Bw g s o (B.set j (.inr (ci, fs.set k v))) cf H1 locs1 → W p l e R s m args below meth c H1 locs1 cells slots Q (F0 m (pc + 3) ls rest)) : W p l e R s m args below meth c H locs cells slots Q (F0 m pc ls (v :: .ref (gB g + (o + j)) :: rest)) :=
  w_putF C hin hci hcn (by have := lt_of_at hcf; omega) (bl_at hcf) hk hlk hfin hdc hn hfit hl hd w fun H1 locs1 w1 => kk H1 locs1 (Bw.set w1 (lt_of_at hcf))
theorem b_get (C : Cx g h p R s m c) (j : Nat) {idx ci k : Nat} {fs : List Value} {v : Value} (hci : ci < 7) (hcf : B[j]? = some (.inr (ci, fs))) (hk : k < nfO ci) (hlk : LkF (hY h).cls idx ci k) (hv : fs[k]? = some v) (hd : decode (hB h) pc = .ok (.getfield idx, 3)) (w : Bw g s o B cf H locs)
    (kk : W p l e R s m args below meth c H locs cells slots Q (F0 m (pc + 3) ls (v :: rest))) : W p l e R s m args below meth c H locs cells slots Q (F0 m pc ls (.ref (gB g + (o + j)) :: rest)) :=
  w_get C hci (by have := lt_of_at hcf; omega) (bl_at hcf) hk hlk hv hd w kk
theorem b_iast (C : Cx g h p R s m c) (j : Nat) {N ix : Nat} {f : Nat → Int32} {i x : Int32} (hcf : B[j]? = some (.inl (gC g 0, N, .inl f))) (hi : vp_in i N) (hix : i.toNatClampNeg = ix) (hd : decode (hB h) pc = .ok (.iastore, 1)) (w : Bw g s o B cf H locs)
    (kk : ∀ H1 locs1, Bw g s o (B.set j (.inl (gC g 0, N, .inl (upd f ix x)))) cf H1 locs1 → W p l e R s m args below meth c H1 locs1 cells slots Q (F0 m (pc + 1) ls rest)) : W p l e R s m args below meth c H locs cells slots Q (F0 m pc ls (.int x :: .int i :: .ref (gB g + (o + j)) :: rest)) := by
  subst hix
  exact w_iast C (by have := lt_of_at hcf; omega) (bl_at hcf) hi hd w fun H1 locs1 w1 => kk H1 locs1 (Bw.set w1 (lt_of_at hcf))
end BLK
