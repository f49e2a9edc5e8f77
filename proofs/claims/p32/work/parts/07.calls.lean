/-! SOUNDNESS: calls, ends, and the whole step -/
theorem Runs.mono {g : Wg} {h : Hd} {as : List Vl} {mem : Mm} {Q Q' : Option Vl → Mm → Prop} (hr : Runs g h as mem Q) (hq : ∀ r m', Q r m' → Q' r m') : Runs g h as mem Q' := by
  unfold Runs Met at hr ⊢
  refine MetFree.mono hr (fun _ _ q => q) (fun _ _ _ _ _ q => q) (fun a st o t _ q => ?_)
  obtain ⟨⟨⟨r, m', h1, h2, h3⟩, h4⟩, h5⟩ := q
  exact ⟨⟨⟨r, m', h1, hq r m' h2, h3⟩, h4⟩, h5⟩
/-- what the tables say of a callee -/
def HdOk (h : Hd) (n : Nat) : Prop := InT (.code (hY h) (hB h) (hM h) (hR h)) ∧ InT (.initialized (hY h).cls) ∧ (hY h).cls ≠ "java/lang/invoke/MethodHandle" ∧ (hY h).cls ≠ "java/lang/invoke/VarHandle" ∧ (parseMethodDescriptor (hY h).desc).map (fun d => d.parameters.length) = some n
section SNC
variable {g : Wg} {h : Hd} {Q : Option Vl → Mm → Prop} {p : Program} {e : Env} {R : Room} {s : State} {m : MethodId} {args : Array Value} {below : List Frame} {meth : Method} {c : Code} {cells slots : Nat} {Z : State → Prop} {pc : Nat} {L : Lc} {S : List Vl} {mem : Mm}
theorem call_run {P : Option Vl → Mm → Prop} {H : Heap} {locs : List Loc} {ls : Array Slot} {st0 rest : List Value} {a : Array Value} (hr : va_Run p (gL g) e R s m args below meth c H locs cells slots 0 0 (F0 m pc ls st0) rest (QcO g P a) (gA g)) (hS : va_S (gA g) s.heap H locs)
    (kk : ∀ (r : Option Vl) (mem' : Mm) (H1 : Heap) (locs1 : List Loc), P r mem' → okA r → va_P (gD g) clsL (wsO g mem') H1 → va_S (gA g) s.heap H1 locs1 → W p (gL g) e R s m args below meth c H1 locs1 cells slots Z (F0 m (pc + 3) ls ((r.map (vvO g)).toList ++ rest))) : W p (gL g) e R s m args below meth c H locs cells slots Z (F0 m pc ls st0) := by
  intro T hT X
  obtain ⟨v, st₀, t, T', L, h0, X', hL, e1, e2, ⟨⟨r, m', hv, hp, hok, hw⟩, hz, hk⟩, st⟩ := hr T hT X
  cases hv
  rw [h0] at hz hk
  obtain ⟨t2, a1, b1⟩ := kk r m' T'.heap (locs ++ L) hp hok (by rw [e1]; exact hw.1)
    ⟨Nat.le_trans hS.1 (by rw [e1]; exact hz), fun q h1 h2 => by rw [e1, hk q (Nat.lt_of_lt_of_le h1 hS.1) h2]; exact hS.2.1 q h1 h2, fun q hq => by
      rcases List.mem_append.mp hq with h | h
      · exact hS.2.2 q h
      · exact hL q h⟩ T' rfl X'
  exact ⟨t2, st t2 a1, b1⟩
theorem catS_sum (g : Wg) : ∀ S : List Vl, ((S.map (vvO g)).map fun v => v.category).sum = catS S
  | [] => rfl
  | v :: r => by
    rw [List.map_cons, List.map_cons, List.sum_cons, catS_sum g r, vvO_cat]
    rfl
theorem callB_O {hd : Hd} {idx n : Nat} {own : String} (hrm : hF h ≤ R.frames ∧ hL h ≤ R.locals) (hT : Tb s) (hok : HdOk hd n) (hr1 : hF hd + 1 ≤ hF h) (hr2 : 8 + (hM hd + 11) + hL hd ≤ hL h) (hlk : InT (.methodLink own idx (hY hd))) :
    CallB R s args own idx (hY hd) (hB hd) (hM hd) (hR hd) [Cond.code (hY hd) (hB hd) (hM hd) (hR hd)] { frames := hF hd, cells := 0, slots := 0, locals := hL hd } 0 0 n := by
  obtain ⟨h1, h2, h3, h4, h5⟩ := hok
  refine ⟨rfl, rfl, Nat.le_trans hr1 hrm.1, Nat.le_trans hr2 hrm.2, fun w hw a' U hW => ?_, List.mem_cons_self, hT.use h1, hT.use h2, ⟨h3, h4⟩, fun sig h => ?_, hT.use hlk⟩
  · rw [List.mem_singleton.mp hw]
    exact (hT.warm hW).use h1
  · rw [h] at h5
    exact (Option.some.inj h5).symm
theorem callN_O {hd : Hd} {idx n : Nat} {own host : String} (hrm : hF h ≤ R.frames ∧ hL h ≤ R.locals) (hT : Tb s) (hok : HdOk hd n) (hr1 : hF hd + 1 ≤ hF h) (hr2 : 8 + (hM hd + 11) + hL hd ≤ hL h) (hlk : InT (.methodLinkNest own idx (hY hd) host)) :
    va_CN R s args own idx (hY hd) host (hB hd) (hM hd) (hR hd) [Cond.code (hY hd) (hB hd) (hM hd) (hR hd)] { frames := hF hd, cells := 0, slots := 0, locals := hL hd } 0 0 n := by
  obtain ⟨h1, h2, h3, h4, h5⟩ := hok
  refine ⟨⟨rfl, rfl, Nat.le_trans hr1 hrm.1, Nat.le_trans hr2 hrm.2, fun w hw a' U hW => ?_, List.mem_cons_self⟩, hT.use h1, hT.use h2, ⟨h3, h4⟩, fun sig h => ?_, hT.use hlk⟩
  · rw [List.mem_singleton.mp hw]
    exact (hT.warm hW).use h1
  · rw [h] at h5
    exact (Option.some.inj h5).symm
theorem pre_O {as : List Vl} {H : Heap} {locs : List Loc} (hav : ∀ v ∈ as, okV v) (hP : va_P (gD g) clsL (wsO g mem) H) (hS : va_S (gA g) s.heap H locs) (hK : va_K (gD g) clsL (tysO g) s) (hT : Tb s) (hE : Ext g s s.heap) (U : State) (hU : U.heap = H) (hW : s.WarmedH U.vm) : PcO g as mem (as.map (vvO g)).toArray U := ⟨rfl, hav, wdO.warm (mem := mem) hW hU hP hS hK hT hE⟩
theorem rev_split {S : List Vl} {n : Nat} {as : List Vl} (h : (S.take n).reverse = as) : S = as.reverse ++ S.drop n := by
  rw [← h, List.reverse_reverse, List.take_append_drop]
theorem ok_drop {S : List Vl} (n : Nat) (h : ∀ v ∈ S, okV v) : ∀ v ∈ S.drop n, okV v := fun v hv => h v (List.mem_of_mem_drop hv)
/-- behind a call -/
theorem after_O {hd : Hd} {as rest : List Vl} {K : Nat → Lc → List Vl → Mm → Prop} (hk : ∀ pc L S mem, K pc L S mem → AtO g h p e R s m args below meth c cells slots Z pc L S mem) {H : Heap} {locs : List Loc} {ls : Array Slot} {st0 : List Value} {a : Array Value} (hS : va_S (gA g) s.heap H locs) (hl : lv_has ls (hM h) (L.map (fun q => (q.1, vvO g q.2)))) (hLo : ∀ q ∈ L, okV q.2) (hSo : ∀ v ∈ rest, okV v)
    (hc : callO g hd as mem (pc + 3) L rest K) (hrun : ∀ P, Runs g hd as mem P → va_Run p (gL g) e R s m args below meth c H locs cells slots 0 0 (F0 m pc ls st0) (rest.map (vvO g)) (QcO g P a) (gA g)) : W p (gL g) e R s m args below meth c H locs cells slots Z (F0 m pc ls st0) := by
  unfold callO at hc
  split at hc
  · refine call_run (hrun _ hc) hS (fun r m' H1 locs1 hp hok hP1 hS1 => ?_)
    obtain ⟨rfl, hp⟩ := hp
    exact hk _ _ _ _ hp H1 locs1 ls hP1 hS1 hl hLo hSo
  · refine call_run (hrun _ hc) hS (fun r m' H1 locs1 hp hok hP1 hS1 => ?_)
    obtain ⟨t, k, i, rfl, hp⟩ := hp
    exact hk _ _ _ _ hp H1 locs1 ls hP1 hS1 hl hLo (okS_c hok hSo)
  · refine call_run (hrun _ hc) hS (fun r m' H1 locs1 hp hok hP1 hS1 => ?_)
    obtain ⟨x, rfl, hp⟩ := hp
    exact hk _ _ _ _ hp H1 locs1 ls hP1 hS1 hl hLo (okS_c trivial hSo)
theorem recv_O {t k i ci : Nat} {H : Heap} {locs : List Loc} (hP : va_P (gD g) clsL (wsO g mem) H) (hS : va_S (gA g) s.heap H locs) (hK : va_K (gD g) clsL (tysO g) s) (hE : Ext g s s.heap) (hok : okR t k i = true) {C : String} (hr : (ciO t = ci ∧ ci < 7 ∧ C = clsN ci)) :
    vvO g (vO t k i) = .ref (adO g t k i) ∧ ∃ cellB : Cell, H[adO g t k i]? = some cellB ∧ cellB.vm.isStatics = false ∧ s.vm.findClass C = some cellB.cls := by
  obtain ⟨h1, h2, rfl⟩ := hr
  obtain ⟨h3, h4, h5, h6⟩ := ciO_ok hok (show ciO t < 7 by omega)
  exact ⟨vvO_ref h4 h5, va_recv hK hP (clsL_at h2) (q0 := ordO t k i) (by rw [wsO_at h3, cellO_cls h1 h2])⟩
theorem s_callV (C : Okc g h Q p e R s m args below meth c cells slots Z) {hd : Hd} {idx n ci t k i : Nat} {as : List Vl} {K : Nat → Lc → List Vl → Mm → Prop} (hk : ∀ pc L S mem, K pc L S mem → AtO g h p e R s m args below meth c cells slots Z pc L S mem)
    (hdc : decode (hB h) pc = .ok (.invokevirtual idx, 3)) (hok : HdOk hd n) (hn : as.length = n) (hr1 : hF hd + 1 ≤ hF h) (hr2 : 8 + (hM hd + 11) + hL hd ≤ hL h) (hlk : InT (.methodLink (hY h).cls idx (hY hd))) (hin : InT (.instanceMethod (hY hd))) (hsel : InT (.selects (hY hd).cls (hY hd) (hY hd)))
    {q : Nat} (hst : (S.take q).reverse = vO t k i :: as) (hcat : catS (S.drop q) ≤ 8) (hrc : (ciO t = ci ∧ ci < 7 ∧ (hY hd).cls = clsN ci)) (hc : callO g hd (vO t k i :: as) mem (pc + 3) L (S.drop q) K) : AtO g h p e R s m args below meth c cells slots Z pc L S mem := by
  obtain ⟨hx, hb, hml, hown, hrm, hK, hT, hE, -, -, -⟩ := C
  intro H locs ls hP hS hl hLo hSo
  have hS0 := rev_split hst
  have hto : okR t k i = true := hSo (vO t k i) (by rw [hS0, List.reverse_cons]; simp)
  obtain ⟨hv, hrv⟩ := recv_O hP hS hK hE hto hrc
  have hstack : S.map (vvO g) = (as.map (vvO g)).reverse ++ Value.ref (adO g t k i) :: (S.drop q).map (vvO g) := by
    conv => lhs; rw [hS0]
    rw [List.reverse_cons, List.append_assoc, List.map_append, List.map_reverse, List.singleton_append, List.map_cons, hv]
  rw [hstack]
  refine after_O hk hS hl hLo (ok_drop q hSo) hc (fun P hM => ?_) (a := (Value.ref (adO g t k i) :: as.map (vvO g)).toArray)
  refine va_runV (C := (hY hd).cls) (n := n) (As := as.map (vvO g)) ⟨hx, hb, hml, hown, fun w hw => by cases hw⟩ (Ts := []) hM ⟨callB_O ⟨hrm.1, hrm.2.1⟩ hT hok hr1 hr2 hlk, hT.use hin, hT.use hsel⟩ ⟨PcO.blind, hrv, fun U hU hW => ?_⟩ rfl (by rw [List.length_map]; exact hn) hl.1 rfl (lv_room (by rw [catS_sum]; exact hcat)) hdc ⟨hrm.2.2.1, hrm.2.2.2⟩
  have hp := pre_O (as := vO t k i :: as) (fun v hv => hSo v (by rw [← hst] at hv; exact List.mem_of_mem_take (List.mem_reverse.mp hv))) hP hS hK hT hE U hU hW
  rw [List.map_cons, hv] at hp
  exact hp
theorem s_callS (C : Okc g h Q p e R s m args below meth c cells slots Z) {hd : Hd} {idx n : Nat} {as : List Vl} {K : Nat → Lc → List Vl → Mm → Prop} (hk : ∀ pc L S mem, K pc L S mem → AtO g h p e R s m args below meth c cells slots Z pc L S mem)
    (hdc : decode (hB h) pc = .ok (.invokestatic idx, 3)) (hok : HdOk hd n) (hn : as.length = n) (hr1 : hF hd + 1 ≤ hF h) (hr2 : 8 + (hM hd + 11) + hL hd ≤ hL h) (hlk : InT (.methodLink (hY h).cls idx (hY hd)) ∨ ∃ host, InT (.methodLinkNest (hY h).cls idx (hY hd) host)) (hin : InT (.static (hY hd)))
    {q : Nat} (hst : (S.take q).reverse = as) (hcat : catS (S.drop q) ≤ 8) (hc : callO g hd as mem (pc + 3) L (S.drop q) K) : AtO g h p e R s m args below meth c cells slots Z pc L S mem := by
  obtain ⟨hx, hb, hml, hown, hrm, hK, hT, hE, -, -, -⟩ := C
  intro H locs ls hP hS hl hLo hSo
  have hS0 := rev_split hst
  have hstack : S.map (vvO g) = (as.map (vvO g)).reverse ++ (S.drop q).map (vvO g) := by
    conv => lhs; rw [hS0]
    rw [List.map_append, List.map_reverse]
  rw [hstack]
  refine after_O hk hS hl hLo (ok_drop q hSo) hc (fun P hM => ?_) (a := (as.map (vvO g)).toArray)
  rcases hlk with hlk | ⟨host, hlk⟩
  · exact va_runS (n := n) (As := as.map (vvO g)) ⟨hx, hb, hml, hown, fun w hw => by cases hw⟩ (Ts := []) hM ⟨callB_O ⟨hrm.1, hrm.2.1⟩ hT hok hr1 hr2 hlk, hT.use hin⟩ ⟨PcO.blind, fun U hU hW => pre_O (fun v hv => hSo v (by rw [← hst] at hv; exact List.mem_of_mem_take (List.mem_reverse.mp hv))) hP hS hK hT hE U hU hW⟩ rfl (by rw [List.length_map]; exact hn) hl.1 rfl (lv_room (by rw [catS_sum]; exact hcat)) hdc ⟨hrm.2.2.1, hrm.2.2.2⟩
  · exact va_runSN (n := n) (As := as.map (vvO g)) ⟨hx, hb, hml, hown, fun w hw => by cases hw⟩ (Ts := []) hM ⟨callN_O ⟨hrm.1, hrm.2.1⟩ hT hok hr1 hr2 hlk, hT.use hin, trivial⟩ ⟨PcO.blind, fun U hU hW => pre_O (fun v hv => hSo v (by rw [← hst] at hv; exact List.mem_of_mem_take (List.mem_reverse.mp hv))) hP hS hK hT hE U hU hW⟩ rfl (by rw [List.length_map]; exact hn) hl.1 rfl (lv_room (by rw [catS_sum]; exact hcat)) hdc ⟨hrm.2.2.1, hrm.2.2.2⟩
theorem s_copy (C : Okc g h Q p e R s m args below meth c cells slots Z) {idx k i k' i' : Nat} {sp dp n : Int32} (hd : decode (hB h) pc = .ok (.invokestatic idx, 3)) (hlk : InT (.methodLink (hY h).cls idx arraycopyName)) (hnat : InT (.native arraycopyName)) (hst : InT (.static arraycopyName)) (hini : InT (.initialized "java/lang/System")) (hfr : 1 ≤ hF h) (hlo : 8 + (nativeFrameWords "java/lang/System" "arraycopy" 5 + 11) ≤ hL h) (hcat : catS S ≤ 8)
    (h1 : sp = 0 ∧ dp = 0 ∧ n = 5) (hk : AtO g h p e R s m args below meth c cells slots Z (pc + 3) L S (fun o => if o = (3, k', i') then va_cpy (mem (3, k, i)) (mem (3, k', i')) 0 0 5 else mem o)) : AtO g h p e R s m args below meth c cells slots Z pc L (vI n :: vI dp :: vO 3 k' i' :: vI sp :: vO 3 k i :: S) mem := by
  obtain ⟨hx, hb, hml, hown, hrm, hK, hT, hE, -, -, -⟩ := C
  intro H locs ls hP hS hl hLo hSo
  obtain ⟨rfl, rfl, rfl⟩ := h1
  have ho1 : okO 3 k' i' = true := okS_h (okS_t (okS_t hSo))
  have ho0 : okO 3 k i = true := okS_h (okS_t (okS_t (okS_t (okS_t hSo))))
  have hc0 := wsO_at (g := g) (mem := mem) ho0
  have hc1 := wsO_at (g := g) (mem := mem) ho1
  rw [cellO_arr rfl rfl] at hc0 hc1
  refine va_copyi (D := gD g) (cl := clsL) (A := gA g) (f := mem (3, k, i)) (g := mem (3, k', i')) (n0 := 5) (n1 := 5) (c0 := gC g 0) (c1 := gC g 0) (ty := .int) hx hb (hml.trans hl.1.symm) hown (hT.use hlk) (hT.use hnat) (hT.use hst) (hT.use hini) hK hP (wsO_D g mem) hS (ordO 3 k i) (ordO 3 k' i') 0 0 hc0 hc1 (tysO_at (by decide)) (tysO_at (by decide)) rfl (by decide) (by decide) (by decide) (by decide) (by decide) (fun _ _ => rfl) (Nat.le_trans hfr hrm.1) (by rw [catS_sum]; have := hrm.2.1; omega) hd (fun H1 locs1 hP1 hD1 hS1 => ?_)
  rw [wsO_set (mem' := fun o => if o = (3, k', i') then va_cpy (mem (3, k, i)) (mem (3, k', i')) 0 0 5 else mem o) ho1 (fun o ho => if_neg ho) (by rw [cellO_arr rfl rfl, if_pos rfl]; rfl)] at hP1
  exact hk H1 locs1 ls hP1 hS1 hl hLo (okS_t (okS_t (okS_t (okS_t (okS_t hSo)))))
theorem s_max (C : Okc g h Q p e R s m args below meth c cells slots Z) {idx : Nat} {x y : Int32} (hd : decode (hB h) pc = .ok (.invokestatic idx, 3)) (hlk : InT (.methodLink (hY h).cls idx Lib.Math.max.name)) (hst : InT (.static Lib.Math.max.name)) (hini : InT (.initialized "java/lang/Math")) (hco : InT (.code Lib.Math.max.name Lib.Math.max.code 2 (some .int))) (hfr : 1 ≤ hF h) (hlo : 21 ≤ hL h) (hcat : catS S ≤ 8)
    (hk : AtO g h p e R s m args below meth c cells slots Z (pc + 3) L (vI (if x < y then y else x) :: S) mem) : AtO g h p e R s m args below meth c cells slots Z pc L (vI y :: vI x :: S) mem := by
  obtain ⟨hx, hb, hml, hown, hrm, hK, hT, hE, -, -, -⟩ := C
  intro H locs ls hP hS hl hLo hSo
  exact va_mmax hx hb (hml.trans hl.1.symm) hown (hT.use hlk) (hT.use hst) (hT.use hini) (hT.use hco) (Nat.le_trans hfr hrm.1) (by rw [catS_sum]; have := hrm.2.1; omega) hrm.2.2.1 hrm.2.2.2 hd (hk H locs ls hP hS hl hLo (okS_c trivial (okS_t (okS_t hSo))))
theorem s_min (C : Okc g h Q p e R s m args below meth c cells slots Z) {idx : Nat} {x y : Int32} (hd : decode (hB h) pc = .ok (.invokestatic idx, 3)) (hlk : InT (.methodLink (hY h).cls idx Lib.Math.min.name)) (hst : InT (.static Lib.Math.min.name)) (hini : InT (.initialized "java/lang/Math")) (hco : InT (.code Lib.Math.min.name Lib.Math.min.code 2 (some .int))) (hfr : 1 ≤ hF h) (hlo : 21 ≤ hL h) (hcat : catS S ≤ 8)
    (hk : AtO g h p e R s m args below meth c cells slots Z (pc + 3) L (vI (if y < x then y else x) :: S) mem) : AtO g h p e R s m args below meth c cells slots Z pc L (vI y :: vI x :: S) mem := by
  obtain ⟨hx, hb, hml, hown, hrm, hK, hT, hE, -, -, -⟩ := C
  intro H locs ls hP hS hl hLo hSo
  exact va_mmin hx hb (hml.trans hl.1.symm) hown (hT.use hlk) (hT.use hst) (hT.use hini) (hT.use hco) (Nat.le_trans hfr hrm.1) (by rw [catS_sum]; have := hrm.2.1; omega) hrm.2.2.1 hrm.2.2.2 hd (hk H locs ls hP hS hl hLo (okS_c trivial (okS_t (okS_t hSo))))
theorem s_iret (C : Okc g h Q p e R s m args below meth c cells slots Z) {x : Int32} (hd : decode (hB h) pc = .ok (.ireturn, 1)) (hq : rtC (hR h) x (Q (some (vI x)) mem)) : AtO g h p e R s m args below meth c cells slots Z pc L [vI x] mem := by
  obtain ⟨hx, hb, hml, hown, hrm, hK, hT, hE, hq1, hq2, hq3⟩ := C
  intro H locs ls hP hS hl hLo hSo
  exact hq1 H locs ls pc x mem hd hq hP hS
theorem s_vret (C : Okc g h Q p e R s m args below meth c cells slots Z) (hd : decode (hB h) pc = .ok (.return_, 1)) (hq : vtC (hR h) (Q none mem)) : AtO g h p e R s m args below meth c cells slots Z pc L [] mem := by
  obtain ⟨hx, hb, hml, hown, hrm, hK, hT, hE, hq1, hq2, hq3⟩ := C
  intro H locs ls hP hS hl hLo hSo
  exact hq2 H locs ls pc mem hd hq hP hS
theorem s_aret (C : Okc g h Q p e R s m args below meth c cells slots Z) {t k i : Nat} (hd : decode (hB h) pc = .ok (.areturn, 1)) (hq : atC (hR h) (Q (some (vO t k i)) mem)) : AtO g h p e R s m args below meth c cells slots Z pc L [vO t k i] mem := by
  obtain ⟨hx, hb, hml, hown, hrm, hK, hT, hE, hq1, hq2, hq3⟩ := C
  intro H locs ls hP hS hl hLo hSo
  exact hq3 H locs ls pc t k i mem hd (okS_h hSo) hq hP hS
end SNC
