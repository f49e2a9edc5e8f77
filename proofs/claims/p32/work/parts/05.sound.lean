/-! SOUNDNESS of the small machine's step, an instruction a row -/
section SND
variable {g : Wg} {h : Hd} {Q : Option Vl → Mm → Prop} {p : Program} {e : Env} {R : Room} {s : State} {m : MethodId} {args : Array Value} {below : List Frame} {meth : Method} {c : Code} {cells slots : Nat} {Z : State → Prop}
def Okc (g : Wg) (h : Hd) (Q : Option Vl → Mm → Prop) (p : Program) (e : Env) (R : Room) (s : State) (m : MethodId) (args : Array Value) (below : List Frame) (meth : Method) (c : Code) (cells slots : Nat) (Z : State → Prop) : Prop :=
  p.tables.exec = Jvm.exec ∧ c.code = hB h ∧ c.maxLocals = hM h ∧ s.vm.findClass (hY h).cls = some m.cls ∧ (hF h ≤ R.frames ∧ hL h ≤ R.locals ∧ cells ≤ R.cells ∧ slots ≤ R.slots) ∧ va_K (gD g) clsL (tysO g) s ∧ Tb s ∧ Ext g s s.heap ∧
  (∀ (H : Heap) (locs : List Loc) (ls : Array Slot) (pc : Nat) (x : Int32) (mem : Mm), decode (hB h) pc = .ok (.ireturn, 1) → rtC (hR h) x (Q (some (vI x)) mem) → va_P (gD g) clsL (wsO g mem) H → va_S (gA g) s.heap H locs → W p (gL g) e R s m args below meth c H locs cells slots Z (F0 m pc ls [.int x])) ∧
  (∀ (H : Heap) (locs : List Loc) (ls : Array Slot) (pc : Nat) (mem : Mm), decode (hB h) pc = .ok (.return_, 1) → vtC (hR h) (Q none mem) → va_P (gD g) clsL (wsO g mem) H → va_S (gA g) s.heap H locs → W p (gL g) e R s m args below meth c H locs cells slots Z (F0 m pc ls [])) ∧
  (∀ (H : Heap) (locs : List Loc) (ls : Array Slot) (pc : Nat) (t k i : Nat) (mem : Mm), decode (hB h) pc = .ok (.areturn, 1) → okV (vO t k i) → atC (hR h) (Q (some (vO t k i)) mem) → va_P (gD g) clsL (wsO g mem) H → va_S (gA g) s.heap H locs → W p (gL g) e R s m args below meth c H locs cells slots Z (F0 m pc ls [vvO g (vO t k i)]))
def AtO (g : Wg) (h : Hd) (p : Program) (e : Env) (R : Room) (s : State) (m : MethodId) (args : Array Value) (below : List Frame) (meth : Method) (c : Code) (cells slots : Nat) (Z : State → Prop) (pc : Nat) (L : Lc) (S : List Vl) (mem : Mm) : Prop :=
  ∀ (H : Heap) (locs : List Loc) (ls : Array Slot), va_P (gD g) clsL (wsO g mem) H → va_S (gA g) s.heap H locs → lv_has ls (hM h) (L.map (fun q => (q.1, vvO g q.2))) → (∀ q ∈ L, okV q.2) → (∀ v ∈ S, okV v) →
    W p (gL g) e R s m args below meth c H locs cells slots Z (F0 m pc ls (S.map (vvO g)))
theorem lkL_mem : ∀ {L : Lc} {a : Nat} {v : Vl}, lkL L a = some v → (a, v) ∈ L
  | [], _, _, hh => by cases hh
  | q :: r, a, v, hh => by
    unfold lkL at hh
    split at hh
    · rename_i hq
      cases hh
      have := Nat.eq_of_beq_eq_true hq
      subst this
      exact List.mem_cons_self
    · exact List.mem_cons_of_mem _ (lkL_mem hh)
theorem lkL_at {ls : Array Slot} {n : Nat} {L : Lc} {a : Nat} {v : Vl} (hl : lv_has ls n (L.map (fun q => (q.1, vvO g q.2)))) (hv : lkL L a = some v) : ls[a]? = some (.val (vvO g v)) := hl.2.2 (a, vvO g v) (List.mem_map.mpr ⟨(a, v), lkL_mem hv, rfl⟩)
theorem vvO_or (g : Wg) (t k i : Nat) : vvO g (vO t k i) = .null ∨ ∃ a, vvO g (vO t k i) = .ref a := by
  unfold vvO
  dsimp only
  split
  · exact Or.inl rfl
  · cases gF g with
    | none => exact Or.inl rfl
    | some a => exact Or.inr ⟨a, rfl⟩
  · exact Or.inr ⟨_, rfl⟩
theorem vvO_ref {g : Wg} {t k i : Nat} (h0 : t ≠ 0) (h1 : t ≠ 25) : vvO g (vO t k i) = .ref (adO g t k i) := by
  unfold vvO
  dsimp only
  split
  · exact absurd rfl h0
  · exact absurd rfl h1
  · rfl
theorem vvO_cat (g : Wg) (v : Vl) : (vvO g v).category = catV v := by
  obtain x | x | ⟨t, k, i⟩ := v
  · rfl
  · rfl
  · rcases vvO_or g t k i with hh | ⟨a, hh⟩ <;> rw [hh] <;> rfl
theorem isJ_cat (g : Wg) (v : Vl) : isJ v = ((vvO g v).category == 2) := by
  rw [vvO_cat]
  obtain x | x | ⟨t, k, i⟩ := v <;> rfl
theorem beqN (a b : Nat) : (a == b) = Nat.beq a b := by
  cases hh : Nat.beq a b
  · exact beq_eq_false_iff_ne.mpr (Nat.ne_of_beq_eq_false hh)
  · exact beq_iff_eq.mpr (Nat.eq_of_beq_eq_true hh)
theorem st1_map (g : Wg) (L : Lc) (a : Nat) (v : Vl) : (a, vvO g v) :: (L.map (fun q => (q.1, vvO g q.2))).filter (fun q => !(q.1 == a) && !(q.1 + 1 == a && q.2.category == 2)) = (st1 L a v).map (fun q => (q.1, vvO g q.2)) := by
  unfold st1
  rw [List.map_cons, List.filter_map]
  congr 2
  apply List.filter_congr
  intro q _
  simp only [Function.comp, isJ_cat g, beqN]
theorem st2_map (g : Wg) (L : Lc) (a : Nat) (v : Vl) : (a, vvO g v) :: (L.map (fun q => (q.1, vvO g q.2))).filter (fun q => !(q.1 == a) && (!(q.1 == a + 1) && !(q.1 + 1 == a && q.2.category == 2))) = (st2 L a v).map (fun q => (q.1, vvO g q.2)) := by
  unfold st2
  rw [List.map_cons, List.filter_map]
  congr 2
  apply List.filter_congr
  intro q _
  simp only [Function.comp, isJ_cat g, beqN]
theorem st1_ok {L : Lc} {a : Nat} {v : Vl} (hL : ∀ q ∈ L, okV q.2) (hv : okV v) : ∀ q ∈ st1 L a v, okV q.2 := by
  intro q hq
  rcases List.mem_cons.mp hq with rfl | hq
  · exact hv
  · exact hL q (List.mem_filter.mp hq).1
theorem st2_ok {L : Lc} {a : Nat} {v : Vl} (hL : ∀ q ∈ L, okV q.2) (hv : okV v) : ∀ q ∈ st2 L a v, okV q.2 := by
  intro q hq
  rcases List.mem_cons.mp hq with rfl | hq
  · exact hv
  · exact hL q (List.mem_filter.mp hq).1
theorem okS_c {v : Vl} {S : List Vl} (hv : okV v) (hS : ∀ w ∈ S, okV w) : ∀ w ∈ v :: S, okV w := by
  intro w hw
  rcases List.mem_cons.mp hw with rfl | hw
  · exact hv
  · exact hS w hw
theorem okS_t {v : Vl} {S : List Vl} (hS : ∀ w ∈ v :: S, okV w) : ∀ w ∈ S, okV w := fun w hw => hS w (List.mem_cons_of_mem _ hw)
theorem okS_h {v : Vl} {S : List Vl} (hS : ∀ w ∈ v :: S, okV w) : okV v := hS v List.mem_cons_self
variable {pc : Nat} {L : Lc} {S : List Vl} {mem : Mm}

theorem s_iconst (C : Okc g h Q p e R s m args below meth c cells slots Z) {n : Int} {x : Int32} (hd : decode (hB h) pc = .ok (.iconst n, 1)) (hv : Int32.ofInt n = x) (hk : AtO g h p e R s m args below meth c cells slots Z (pc + 1) L (vI x :: S) mem) : AtO g h p e R s m args below meth c cells slots Z pc L S mem := by
  obtain ⟨hx, hb, hml, hown, hrm, hK, hT, hE, -, -, -⟩ := C
  intro H locs ls hP hS hl hLo hSo
  exact lv_iconst hx hb hd hv (hk H locs ls hP hS hl hLo (okS_c trivial hSo))
theorem s_bipush (C : Okc g h Q p e R s m args below meth c cells slots Z) {n : Int} {x : Int32} (hd : decode (hB h) pc = .ok (.bipush n, 2)) (hv : (Int8.ofInt n).toInt32 = x) (hk : AtO g h p e R s m args below meth c cells slots Z (pc + 2) L (vI x :: S) mem) : AtO g h p e R s m args below meth c cells slots Z pc L S mem := by
  obtain ⟨hx, hb, hml, hown, hrm, hK, hT, hE, -, -, -⟩ := C
  intro H locs ls hP hS hl hLo hSo
  exact lv_bipush hx hb hd hv (hk H locs ls hP hS hl hLo (okS_c trivial hSo))
theorem s_sipush (C : Okc g h Q p e R s m args below meth c cells slots Z) {n : Int} {x : Int32} (hd : decode (hB h) pc = .ok (.sipush n, 3)) (hv : (Int16.ofInt n).toInt32 = x) (hk : AtO g h p e R s m args below meth c cells slots Z (pc + 3) L (vI x :: S) mem) : AtO g h p e R s m args below meth c cells slots Z pc L S mem := by
  obtain ⟨hx, hb, hml, hown, hrm, hK, hT, hE, -, -, -⟩ := C
  intro H locs ls hP hS hl hLo hSo
  exact lv_sipush hx hb hd hv (hk H locs ls hP hS hl hLo (okS_c trivial hSo))
theorem s_lconst (C : Okc g h Q p e R s m args below meth c cells slots Z) {n : Fin 2} {x : Int64} (hd : decode (hB h) pc = .ok (.lconst n, 1)) (hv : Int64.ofNat (n : Nat) = x) (hk : AtO g h p e R s m args below meth c cells slots Z (pc + 1) L (vJ x :: S) mem) : AtO g h p e R s m args below meth c cells slots Z pc L S mem := by
  obtain ⟨hx, hb, hml, hown, hrm, hK, hT, hE, -, -, -⟩ := C
  intro H locs ls hP hS hl hLo hSo
  exact lv_lconst hx hb hd hv (hk H locs ls hP hS hl hLo (okS_c trivial hSo))
theorem s_ldcw (C : Okc g h Q p e R s m args below meth c cells slots Z) {n : Nat} {x : Int32} (hd : decode (hB h) pc = .ok (.ldc_w n, 3)) (hv : InT (.constant (hY h).cls n x)) (hk : AtO g h p e R s m args below meth c cells slots Z (pc + 3) L (vI x :: S) mem) : AtO g h p e R s m args below meth c cells slots Z pc L S mem := by
  obtain ⟨hx, hb, hml, hown, hrm, hK, hT, hE, -, -, -⟩ := C
  intro H locs ls hP hS hl hLo hSo
  exact lv_ldcw hx hb hown (hT.use hv) hd (hk H locs ls hP hS hl hLo (okS_c trivial hSo))
theorem s_ldc2 (C : Okc g h Q p e R s m args below meth c cells slots Z) {n : Nat} {x : Int64} (hd : decode (hB h) pc = .ok (.ldc2_w n, 3)) (hv : InT (.constantLong (hY h).cls n x)) (hk : AtO g h p e R s m args below meth c cells slots Z (pc + 3) L (vJ x :: S) mem) : AtO g h p e R s m args below meth c cells slots Z pc L S mem := by
  obtain ⟨hx, hb, hml, hown, hrm, hK, hT, hE, -, -, -⟩ := C
  intro H locs ls hP hS hl hLo hSo
  exact lv_ldc2 hx hb hown (hT.use hv) hd (hk H locs ls hP hS hl hLo (okS_c trivial hSo))
theorem s_null (C : Okc g h Q p e R s m args below meth c cells slots Z) (hd : decode (hB h) pc = .ok (.aconst_null, 1)) (hk : AtO g h p e R s m args below meth c cells slots Z (pc + 1) L (vO 0 0 0 :: S) mem) : AtO g h p e R s m args below meth c cells slots Z pc L S mem := by
  obtain ⟨hx, hb, hml, hown, hrm, hK, hT, hE, -, -, -⟩ := C
  intro H locs ls hP hS hl hLo hSo
  exact lv_null hx hb hd (hk H locs ls hP hS hl hLo (okS_c rfl hSo))
theorem s_ldc (C : Okc g h Q p e R s m args below meth c cells slots Z) {n : Nat} {x : Int32} (hd : decode (hB h) pc = .ok (.ldc n, 2)) (hv : InT (.constant (hY h).cls n x)) (hk : AtO g h p e R s m args below meth c cells slots Z (pc + 2) L (vI x :: S) mem) : AtO g h p e R s m args below meth c cells slots Z pc L S mem := by
  obtain ⟨hx, hb, hml, hown, hrm, hK, hT, hE, -, -, -⟩ := C
  intro H locs ls hP hS hl hLo hSo
  exact W.ldc hx hb hown (hT.use hv) (g := F0 m pc ls (S.map (vvO g))) rfl hd (hk H locs ls hP hS hl hLo (okS_c trivial hSo))
theorem s_iload (C : Okc g h Q p e R s m args below meth c cells slots Z) {a : Nat} {x : Int32} (hd : decode (hB h) pc = .ok (.iload a, 2)) (hv : lkL L a = some (vI x)) (hk : AtO g h p e R s m args below meth c cells slots Z (pc + 2) L (vI x :: S) mem) : AtO g h p e R s m args below meth c cells slots Z pc L S mem := by
  obtain ⟨hx, hb, hml, hown, hrm, hK, hT, hE, -, -, -⟩ := C
  intro H locs ls hP hS hl hLo hSo
  exact lv_iload hx hb hd (lkL_at hl hv) (hk H locs ls hP hS hl hLo (okS_c trivial hSo))
theorem s_iload_n (C : Okc g h Q p e R s m args below meth c cells slots Z) {n : Fin 4} {a : Nat} {x : Int32} (hd : decode (hB h) pc = .ok (.iload_n n, 1)) (hn : (n : Nat) = a) (hv : lkL L a = some (vI x)) (hk : AtO g h p e R s m args below meth c cells slots Z (pc + 1) L (vI x :: S) mem) : AtO g h p e R s m args below meth c cells slots Z pc L S mem := by
  obtain ⟨hx, hb, hml, hown, hrm, hK, hT, hE, -, -, -⟩ := C
  intro H locs ls hP hS hl hLo hSo
  exact lv_iload_n hx hb hd hn (lkL_at hl hv) (hk H locs ls hP hS hl hLo (okS_c trivial hSo))
theorem s_lload (C : Okc g h Q p e R s m args below meth c cells slots Z) {a : Nat} {x : Int64} (hd : decode (hB h) pc = .ok (.lload a, 2)) (hv : lkL L a = some (vJ x)) (hk : AtO g h p e R s m args below meth c cells slots Z (pc + 2) L (vJ x :: S) mem) : AtO g h p e R s m args below meth c cells slots Z pc L S mem := by
  obtain ⟨hx, hb, hml, hown, hrm, hK, hT, hE, -, -, -⟩ := C
  intro H locs ls hP hS hl hLo hSo
  exact lv_lload hx hb hd (lkL_at hl hv) (hk H locs ls hP hS hl hLo (okS_c trivial hSo))
theorem s_lload_n (C : Okc g h Q p e R s m args below meth c cells slots Z) {n : Fin 4} {a : Nat} {x : Int64} (hd : decode (hB h) pc = .ok (.lload_n n, 1)) (hn : (n : Nat) = a) (hv : lkL L a = some (vJ x)) (hk : AtO g h p e R s m args below meth c cells slots Z (pc + 1) L (vJ x :: S) mem) : AtO g h p e R s m args below meth c cells slots Z pc L S mem := by
  obtain ⟨hx, hb, hml, hown, hrm, hK, hT, hE, -, -, -⟩ := C
  intro H locs ls hP hS hl hLo hSo
  exact lv_lload_n hx hb hd hn (lkL_at hl hv) (hk H locs ls hP hS hl hLo (okS_c trivial hSo))
theorem s_aload (C : Okc g h Q p e R s m args below meth c cells slots Z) {a t k i : Nat} (hd : decode (hB h) pc = .ok (.aload a, 2)) (hv : lkL L a = some (vO t k i)) (hk : AtO g h p e R s m args below meth c cells slots Z (pc + 2) L (vO t k i :: S) mem) : AtO g h p e R s m args below meth c cells slots Z pc L S mem := by
  obtain ⟨hx, hb, hml, hown, hrm, hK, hT, hE, -, -, -⟩ := C
  intro H locs ls hP hS hl hLo hSo
  have hw := hk H locs ls hP hS hl hLo (okS_c (hLo _ (lkL_mem hv)) hSo)
  have ha := lkL_at hl hv
  rw [List.map_cons] at hw
  rcases vvO_or g t k i with hh | ⟨a1, hh⟩ <;> rw [hh] at ha hw
  · exact lv_aloadN hx hb hd ha hw
  · exact lv_aload hx hb hd ha hw
theorem s_aload_n (C : Okc g h Q p e R s m args below meth c cells slots Z) {n : Fin 4} {a t k i : Nat} (hd : decode (hB h) pc = .ok (.aload_n n, 1)) (hn : (n : Nat) = a) (hv : lkL L a = some (vO t k i)) (hk : AtO g h p e R s m args below meth c cells slots Z (pc + 1) L (vO t k i :: S) mem) : AtO g h p e R s m args below meth c cells slots Z pc L S mem := by
  obtain ⟨hx, hb, hml, hown, hrm, hK, hT, hE, -, -, -⟩ := C
  intro H locs ls hP hS hl hLo hSo
  have hw := hk H locs ls hP hS hl hLo (okS_c (hLo _ (lkL_mem hv)) hSo)
  have ha := lkL_at hl hv
  rw [List.map_cons] at hw
  rcases vvO_or g t k i with hh | ⟨a1, hh⟩ <;> rw [hh] at ha hw
  · exact lv_aload_nN hx hb hd hn ha hw
  · exact lv_aload_n hx hb hd hn ha hw
theorem s_istore (C : Okc g h Q p e R s m args below meth c cells slots Z) {a : Nat} {x : Int32} (hd : decode (hB h) pc = .ok (.istore a, 2)) (hn : a < hM h) (hk : AtO g h p e R s m args below meth c cells slots Z (pc + 2) (st1 L a (vI x)) S mem) : AtO g h p e R s m args below meth c cells slots Z pc L (vI x :: S) mem := by
  obtain ⟨hx, hb, hml, hown, hrm, hK, hT, hE, -, -, -⟩ := C
  intro H locs ls hP hS hl hLo hSo
  exact lv_istore hx hb hd hl hn (st1_map g L a (vI x)) (fun ls2 hl2 => hk H locs ls2 hP hS hl2 (st1_ok hLo trivial) (okS_t hSo))
theorem s_istore_n (C : Okc g h Q p e R s m args below meth c cells slots Z) {n : Fin 4} {a : Nat} {x : Int32} (hd : decode (hB h) pc = .ok (.istore_n n, 1)) (hi : (n : Nat) = a) (hn : a < hM h) (hk : AtO g h p e R s m args below meth c cells slots Z (pc + 1) (st1 L a (vI x)) S mem) : AtO g h p e R s m args below meth c cells slots Z pc L (vI x :: S) mem := by
  obtain ⟨hx, hb, hml, hown, hrm, hK, hT, hE, -, -, -⟩ := C
  intro H locs ls hP hS hl hLo hSo
  exact lv_istore_n hx hb hd hi hl hn (st1_map g L a (vI x)) (fun ls2 hl2 => hk H locs ls2 hP hS hl2 (st1_ok hLo trivial) (okS_t hSo))
theorem s_lstore (C : Okc g h Q p e R s m args below meth c cells slots Z) {a : Nat} {x : Int64} (hd : decode (hB h) pc = .ok (.lstore a, 2)) (hn : a + 1 < hM h) (hk : AtO g h p e R s m args below meth c cells slots Z (pc + 2) (st2 L a (vJ x)) S mem) : AtO g h p e R s m args below meth c cells slots Z pc L (vJ x :: S) mem := by
  obtain ⟨hx, hb, hml, hown, hrm, hK, hT, hE, -, -, -⟩ := C
  intro H locs ls hP hS hl hLo hSo
  exact lv_lstore hx hb hd hl hn (st2_map g L a (vJ x)) (fun ls2 hl2 => hk H locs ls2 hP hS hl2 (st2_ok hLo trivial) (okS_t hSo))
theorem s_lstore_n (C : Okc g h Q p e R s m args below meth c cells slots Z) {n : Fin 4} {a : Nat} {x : Int64} (hd : decode (hB h) pc = .ok (.lstore_n n, 1)) (hi : (n : Nat) = a) (hn : a + 1 < hM h) (hk : AtO g h p e R s m args below meth c cells slots Z (pc + 1) (st2 L a (vJ x)) S mem) : AtO g h p e R s m args below meth c cells slots Z pc L (vJ x :: S) mem := by
  obtain ⟨hx, hb, hml, hown, hrm, hK, hT, hE, -, -, -⟩ := C
  intro H locs ls hP hS hl hLo hSo
  exact lv_lstore_n hx hb hd hi hl hn (st2_map g L a (vJ x)) (fun ls2 hl2 => hk H locs ls2 hP hS hl2 (st2_ok hLo trivial) (okS_t hSo))
theorem s_astore (C : Okc g h Q p e R s m args below meth c cells slots Z) {a t k i : Nat} (hd : decode (hB h) pc = .ok (.astore a, 2)) (hn : a < hM h) (hk : AtO g h p e R s m args below meth c cells slots Z (pc + 2) (st1 L a (vO t k i)) S mem) : AtO g h p e R s m args below meth c cells slots Z pc L (vO t k i :: S) mem := by
  obtain ⟨hx, hb, hml, hown, hrm, hK, hT, hE, -, -, -⟩ := C
  intro H locs ls hP hS hl hLo hSo
  have hm := st1_map g L a (vO t k i)
  rw [List.map_cons]
  rcases vvO_or g t k i with hh | ⟨a1, hh⟩ <;> rw [hh] at hm ⊢
  · exact lv_astoreN hx hb hd hl hn hm (fun ls2 hl2 => hk H locs ls2 hP hS hl2 (st1_ok hLo (okS_h hSo)) (okS_t hSo))
  · exact lv_astore hx hb hd hl hn hm (fun ls2 hl2 => hk H locs ls2 hP hS hl2 (st1_ok hLo (okS_h hSo)) (okS_t hSo))
theorem s_astore_n (C : Okc g h Q p e R s m args below meth c cells slots Z) {n : Fin 4} {a t k i : Nat} (hd : decode (hB h) pc = .ok (.astore_n n, 1)) (hi : (n : Nat) = a) (hn : a < hM h) (hk : AtO g h p e R s m args below meth c cells slots Z (pc + 1) (st1 L a (vO t k i)) S mem) : AtO g h p e R s m args below meth c cells slots Z pc L (vO t k i :: S) mem := by
  obtain ⟨hx, hb, hml, hown, hrm, hK, hT, hE, -, -, -⟩ := C
  intro H locs ls hP hS hl hLo hSo
  have hm := st1_map g L a (vO t k i)
  rw [List.map_cons]
  rcases vvO_or g t k i with hh | ⟨a1, hh⟩ <;> rw [hh] at hm ⊢
  · exact lv_astore_nN hx hb hd hi hl hn hm (fun ls2 hl2 => hk H locs ls2 hP hS hl2 (st1_ok hLo (okS_h hSo)) (okS_t hSo))
  · exact lv_astore_n hx hb hd hi hl hn hm (fun ls2 hl2 => hk H locs ls2 hP hS hl2 (st1_ok hLo (okS_h hSo)) (okS_t hSo))
theorem s_iinc (C : Okc g h Q p e R s m args below meth c cells slots Z) {a : Nat} {n : Int} {x y : Int32} (hd : decode (hB h) pc = .ok (.iinc a n, 3)) (hv : lkL L a = some (vI x)) (hy : Int32.ofInt n = y) (hn : a < hM h) (hk : AtO g h p e R s m args below meth c cells slots Z (pc + 3) (st1 L a (vI (x + y))) S mem) : AtO g h p e R s m args below meth c cells slots Z pc L S mem := by
  obtain ⟨hx, hb, hml, hown, hrm, hK, hT, hE, -, -, -⟩ := C
  intro H locs ls hP hS hl hLo hSo
  obtain ⟨j, hj⟩ := List.getElem?_of_mem (List.mem_map.mpr ⟨(a, vI x), lkL_mem hv, rfl⟩ : (a, vvO g (vI x)) ∈ L.map (fun q => (q.1, vvO g q.2)))
  exact lv_iinc (k := j) hx hb hd hl hj (by rw [hy]) hn (st1_map g L a (vI (x + y))) (fun ls2 hl2 => hk H locs ls2 hP hS hl2 (st1_ok hLo trivial) hSo)
theorem s_iadd (C : Okc g h Q p e R s m args below meth c cells slots Z) {x y : Int32} (hd : decode (hB h) pc = .ok (.iadd, 1)) (hk : AtO g h p e R s m args below meth c cells slots Z (pc + 1) L (vI (x + y) :: S) mem) : AtO g h p e R s m args below meth c cells slots Z pc L (vI y :: vI x :: S) mem := by
  obtain ⟨hx, hb, hml, hown, hrm, hK, hT, hE, -, -, -⟩ := C
  intro H locs ls hP hS hl hLo hSo
  exact lv_iadd hx hb hd (hk H locs ls hP hS hl hLo (okS_c trivial (okS_t (okS_t hSo))))
theorem s_isub (C : Okc g h Q p e R s m args below meth c cells slots Z) {x y : Int32} (hd : decode (hB h) pc = .ok (.isub, 1)) (hk : AtO g h p e R s m args below meth c cells slots Z (pc + 1) L (vI (x - y) :: S) mem) : AtO g h p e R s m args below meth c cells slots Z pc L (vI y :: vI x :: S) mem := by
  obtain ⟨hx, hb, hml, hown, hrm, hK, hT, hE, -, -, -⟩ := C
  intro H locs ls hP hS hl hLo hSo
  exact lv_isub hx hb hd (hk H locs ls hP hS hl hLo (okS_c trivial (okS_t (okS_t hSo))))
theorem s_imul (C : Okc g h Q p e R s m args below meth c cells slots Z) {x y : Int32} (hd : decode (hB h) pc = .ok (.imul, 1)) (hk : AtO g h p e R s m args below meth c cells slots Z (pc + 1) L (vI (x * y) :: S) mem) : AtO g h p e R s m args below meth c cells slots Z pc L (vI y :: vI x :: S) mem := by
  obtain ⟨hx, hb, hml, hown, hrm, hK, hT, hE, -, -, -⟩ := C
  intro H locs ls hP hS hl hLo hSo
  exact lv_imul hx hb hd (hk H locs ls hP hS hl hLo (okS_c trivial (okS_t (okS_t hSo))))
theorem s_iand (C : Okc g h Q p e R s m args below meth c cells slots Z) {x y : Int32} (hd : decode (hB h) pc = .ok (.iand, 1)) (hk : AtO g h p e R s m args below meth c cells slots Z (pc + 1) L (vI (x &&& y) :: S) mem) : AtO g h p e R s m args below meth c cells slots Z pc L (vI y :: vI x :: S) mem := by
  obtain ⟨hx, hb, hml, hown, hrm, hK, hT, hE, -, -, -⟩ := C
  intro H locs ls hP hS hl hLo hSo
  exact lv_iand hx hb hd (hk H locs ls hP hS hl hLo (okS_c trivial (okS_t (okS_t hSo))))
theorem s_ior (C : Okc g h Q p e R s m args below meth c cells slots Z) {x y : Int32} (hd : decode (hB h) pc = .ok (.ior, 1)) (hk : AtO g h p e R s m args below meth c cells slots Z (pc + 1) L (vI (x ||| y) :: S) mem) : AtO g h p e R s m args below meth c cells slots Z pc L (vI y :: vI x :: S) mem := by
  obtain ⟨hx, hb, hml, hown, hrm, hK, hT, hE, -, -, -⟩ := C
  intro H locs ls hP hS hl hLo hSo
  exact lv_ior hx hb hd (hk H locs ls hP hS hl hLo (okS_c trivial (okS_t (okS_t hSo))))
theorem s_ixor (C : Okc g h Q p e R s m args below meth c cells slots Z) {x y : Int32} (hd : decode (hB h) pc = .ok (.ixor, 1)) (hk : AtO g h p e R s m args below meth c cells slots Z (pc + 1) L (vI (x ^^^ y) :: S) mem) : AtO g h p e R s m args below meth c cells slots Z pc L (vI y :: vI x :: S) mem := by
  obtain ⟨hx, hb, hml, hown, hrm, hK, hT, hE, -, -, -⟩ := C
  intro H locs ls hP hS hl hLo hSo
  exact lv_ixor hx hb hd (hk H locs ls hP hS hl hLo (okS_c trivial (okS_t (okS_t hSo))))
theorem s_ishl (C : Okc g h Q p e R s m args below meth c cells slots Z) {x y : Int32} (hd : decode (hB h) pc = .ok (.ishl, 1)) (hk : AtO g h p e R s m args below meth c cells slots Z (pc + 1) L (vI (x <<< (y &&& 31)) :: S) mem) : AtO g h p e R s m args below meth c cells slots Z pc L (vI y :: vI x :: S) mem := by
  obtain ⟨hx, hb, hml, hown, hrm, hK, hT, hE, -, -, -⟩ := C
  intro H locs ls hP hS hl hLo hSo
  exact lv_ishl hx hb hd (hk H locs ls hP hS hl hLo (okS_c trivial (okS_t (okS_t hSo))))
theorem s_ishr (C : Okc g h Q p e R s m args below meth c cells slots Z) {x y : Int32} (hd : decode (hB h) pc = .ok (.ishr, 1)) (hk : AtO g h p e R s m args below meth c cells slots Z (pc + 1) L (vI (x >>> (y &&& 31)) :: S) mem) : AtO g h p e R s m args below meth c cells slots Z pc L (vI y :: vI x :: S) mem := by
  obtain ⟨hx, hb, hml, hown, hrm, hK, hT, hE, -, -, -⟩ := C
  intro H locs ls hP hS hl hLo hSo
  exact lv_ishr hx hb hd (hk H locs ls hP hS hl hLo (okS_c trivial (okS_t (okS_t hSo))))
theorem s_idiv (C : Okc g h Q p e R s m args below meth c cells slots Z) {x y : Int32} (hd : decode (hB h) pc = .ok (.idiv, 1)) (hne : ¬ y = 0) (hk : AtO g h p e R s m args below meth c cells slots Z (pc + 1) L (vI (x / y) :: S) mem) : AtO g h p e R s m args below meth c cells slots Z pc L (vI y :: vI x :: S) mem := by
  obtain ⟨hx, hb, hml, hown, hrm, hK, hT, hE, -, -, -⟩ := C
  intro H locs ls hP hS hl hLo hSo
  exact lv_idiv hx hb hd hne (hk H locs ls hP hS hl hLo (okS_c trivial (okS_t (okS_t hSo))))
theorem s_irem (C : Okc g h Q p e R s m args below meth c cells slots Z) {x y : Int32} (hd : decode (hB h) pc = .ok (.irem, 1)) (hne : ¬ y = 0) (hk : AtO g h p e R s m args below meth c cells slots Z (pc + 1) L (vI (x - x / y * y) :: S) mem) : AtO g h p e R s m args below meth c cells slots Z pc L (vI y :: vI x :: S) mem := by
  obtain ⟨hx, hb, hml, hown, hrm, hK, hT, hE, -, -, -⟩ := C
  intro H locs ls hP hS hl hLo hSo
  exact lv_irem hx hb hd hne (hk H locs ls hP hS hl hLo (okS_c trivial (okS_t (okS_t hSo))))
theorem s_iushr (C : Okc g h Q p e R s m args below meth c cells slots Z) {x y : Int32} (hd : decode (hB h) pc = .ok (.iushr, 1)) (hk : AtO g h p e R s m args below meth c cells slots Z (pc + 1) L (vI (x.toUInt32 >>> (y.toUInt32 &&& Int32.toUInt32 31)).toInt32 :: S) mem) : AtO g h p e R s m args below meth c cells slots Z pc L (vI y :: vI x :: S) mem := by
  obtain ⟨hx, hb, hml, hown, hrm, hK, hT, hE, -, -, -⟩ := C
  intro H locs ls hP hS hl hLo hSo
  exact lv_iushr hx hb hd rfl (hk H locs ls hP hS hl hLo (okS_c trivial (okS_t (okS_t hSo))))
theorem s_land (C : Okc g h Q p e R s m args below meth c cells slots Z) {x y : Int64} (hd : decode (hB h) pc = .ok (.land, 1)) (hk : AtO g h p e R s m args below meth c cells slots Z (pc + 1) L (vJ (x &&& y) :: S) mem) : AtO g h p e R s m args below meth c cells slots Z pc L (vJ y :: vJ x :: S) mem := by
  obtain ⟨hx, hb, hml, hown, hrm, hK, hT, hE, -, -, -⟩ := C
  intro H locs ls hP hS hl hLo hSo
  exact lv_land hx hb hd (hk H locs ls hP hS hl hLo (okS_c trivial (okS_t (okS_t hSo))))
theorem s_lor (C : Okc g h Q p e R s m args below meth c cells slots Z) {x y : Int64} (hd : decode (hB h) pc = .ok (.lor, 1)) (hk : AtO g h p e R s m args below meth c cells slots Z (pc + 1) L (vJ (x ||| y) :: S) mem) : AtO g h p e R s m args below meth c cells slots Z pc L (vJ y :: vJ x :: S) mem := by
  obtain ⟨hx, hb, hml, hown, hrm, hK, hT, hE, -, -, -⟩ := C
  intro H locs ls hP hS hl hLo hSo
  exact lv_lor hx hb hd (hk H locs ls hP hS hl hLo (okS_c trivial (okS_t (okS_t hSo))))
theorem s_lushr (C : Okc g h Q p e R s m args below meth c cells slots Z) {x : Int64} {y : Int32} (hd : decode (hB h) pc = .ok (.lushr, 1)) (hk : AtO g h p e R s m args below meth c cells slots Z (pc + 1) L (vJ ((x.toUInt64 >>> (y.toInt64.toUInt64 &&& Int64.toUInt64 63)).toInt64) :: S) mem) : AtO g h p e R s m args below meth c cells slots Z pc L (vI y :: vJ x :: S) mem := by
  obtain ⟨hx, hb, hml, hown, hrm, hK, hT, hE, -, -, -⟩ := C
  intro H locs ls hP hS hl hLo hSo
  exact lv_lushr hx hb hd rfl (hk H locs ls hP hS hl hLo (okS_c trivial (okS_t (okS_t hSo))))
theorem s_lshl (C : Okc g h Q p e R s m args below meth c cells slots Z) {x : Int64} {y : Int32} (hd : decode (hB h) pc = .ok (.lshl, 1)) (hk : AtO g h p e R s m args below meth c cells slots Z (pc + 1) L (vJ (x <<< (y.toInt64 &&& 63)) :: S) mem) : AtO g h p e R s m args below meth c cells slots Z pc L (vI y :: vJ x :: S) mem := by
  obtain ⟨hx, hb, hml, hown, hrm, hK, hT, hE, -, -, -⟩ := C
  intro H locs ls hP hS hl hLo hSo
  exact lv_lshl hx hb hd rfl (hk H locs ls hP hS hl hLo (okS_c trivial (okS_t (okS_t hSo))))
theorem s_lcmp (C : Okc g h Q p e R s m args below meth c cells slots Z) {x y : Int64} (hd : decode (hB h) pc = .ok (.lcmp, 1)) (hk : AtO g h p e R s m args below meth c cells slots Z (pc + 1) L (vI (lg_cmp x y) :: S) mem) : AtO g h p e R s m args below meth c cells slots Z pc L (vJ y :: vJ x :: S) mem := by
  obtain ⟨hx, hb, hml, hown, hrm, hK, hT, hE, -, -, -⟩ := C
  intro H locs ls hP hS hl hLo hSo
  exact W.lcmp hx hb hd (hk H locs ls hP hS hl hLo (okS_c trivial (okS_t (okS_t hSo))))
theorem s_l2i (C : Okc g h Q p e R s m args below meth c cells slots Z) {x : Int64} (hd : decode (hB h) pc = .ok (.l2i, 1)) (hk : AtO g h p e R s m args below meth c cells slots Z (pc + 1) L (vI x.toInt32 :: S) mem) : AtO g h p e R s m args below meth c cells slots Z pc L (vJ x :: S) mem := by
  obtain ⟨hx, hb, hml, hown, hrm, hK, hT, hE, -, -, -⟩ := C
  intro H locs ls hP hS hl hLo hSo
  exact lv_l2i hx hb hd rfl (hk H locs ls hP hS hl hLo (okS_c trivial (okS_t hSo)))
theorem s_i2l (C : Okc g h Q p e R s m args below meth c cells slots Z) {x : Int32} (hd : decode (hB h) pc = .ok (.i2l, 1)) (hk : AtO g h p e R s m args below meth c cells slots Z (pc + 1) L (vJ x.toInt64 :: S) mem) : AtO g h p e R s m args below meth c cells slots Z pc L (vI x :: S) mem := by
  obtain ⟨hx, hb, hml, hown, hrm, hK, hT, hE, -, -, -⟩ := C
  intro H locs ls hP hS hl hLo hSo
  exact lv_i2l hx hb hd rfl (hk H locs ls hP hS hl hLo (okS_c trivial (okS_t hSo)))
theorem s_i2c (C : Okc g h Q p e R s m args below meth c cells slots Z) {x : Int32} (hd : decode (hB h) pc = .ok (.i2c, 1)) (hk : AtO g h p e R s m args below meth c cells slots Z (pc + 1) L (vI (x.toUInt32 % 65536).toInt32 :: S) mem) : AtO g h p e R s m args below meth c cells slots Z pc L (vI x :: S) mem := by
  obtain ⟨hx, hb, hml, hown, hrm, hK, hT, hE, -, -, -⟩ := C
  intro H locs ls hP hS hl hLo hSo
  exact lv_i2c hx hb hd rfl (hk H locs ls hP hS hl hLo (okS_c trivial (okS_t hSo)))
theorem s_dup (C : Okc g h Q p e R s m args below meth c cells slots Z) {v : Vl} (hd : decode (hB h) pc = .ok (.dup, 1)) (hc : catV v = 1) (hk : AtO g h p e R s m args below meth c cells slots Z (pc + 1) L (v :: v :: S) mem) : AtO g h p e R s m args below meth c cells slots Z pc L (v :: S) mem := by
  obtain ⟨hx, hb, hml, hown, hrm, hK, hT, hE, -, -, -⟩ := C
  intro H locs ls hP hS hl hLo hSo
  exact lv_dup hx hb hd (by rw [vvO_cat]; exact hc) (hk H locs ls hP hS hl hLo (okS_c (okS_h hSo) hSo))
theorem s_pop (C : Okc g h Q p e R s m args below meth c cells slots Z) {v : Vl} (hd : decode (hB h) pc = .ok (.pop, 1)) (hc : catV v = 1) (hk : AtO g h p e R s m args below meth c cells slots Z (pc + 1) L S mem) : AtO g h p e R s m args below meth c cells slots Z pc L (v :: S) mem := by
  obtain ⟨hx, hb, hml, hown, hrm, hK, hT, hE, -, -, -⟩ := C
  intro H locs ls hP hS hl hLo hSo
  exact lv_pop hx hb hd (by rw [vvO_cat]; exact hc) (hk H locs ls hP hS hl hLo (okS_t hSo))
theorem s_dup_x1 (C : Okc g h Q p e R s m args below meth c cells slots Z) {v w : Vl} (hd : decode (hB h) pc = .ok (.dup_x1, 1)) (hc : catV v = 1) (hc2 : catV w = 1) (hk : AtO g h p e R s m args below meth c cells slots Z (pc + 1) L (v :: w :: v :: S) mem) : AtO g h p e R s m args below meth c cells slots Z pc L (v :: w :: S) mem := by
  obtain ⟨hx, hb, hml, hown, hrm, hK, hT, hE, -, -, -⟩ := C
  intro H locs ls hP hS hl hLo hSo
  exact lv_dup_x1 hx hb hd (by rw [vvO_cat]; exact hc) (by rw [vvO_cat]; exact hc2) (hk H locs ls hP hS hl hLo (okS_c (okS_h hSo) (okS_c (okS_h (okS_t hSo)) (okS_c (okS_h hSo) (okS_t (okS_t hSo))))))
theorem s_dup2 (C : Okc g h Q p e R s m args below meth c cells slots Z) {v w : Vl} (hd : decode (hB h) pc = .ok (.dup2, 1)) (hc : catV v = 1) (hc2 : catV w = 1) (hk : AtO g h p e R s m args below meth c cells slots Z (pc + 1) L (v :: w :: v :: w :: S) mem) : AtO g h p e R s m args below meth c cells slots Z pc L (v :: w :: S) mem := by
  obtain ⟨hx, hb, hml, hown, hrm, hK, hT, hE, -, -, -⟩ := C
  intro H locs ls hP hS hl hLo hSo
  exact lv_dup2_11 hx hb hd (by rw [vvO_cat]; exact hc) (by rw [vvO_cat]; exact hc2) (hk H locs ls hP hS hl hLo (okS_c (okS_h hSo) (okS_c (okS_h (okS_t hSo)) hSo)))
theorem s_if (C : Okc g h Q p e R s m args below meth c cells slots Z) {cc : Jvm.ClassFile.Cond} {x : Int32} {off : Int} {t : Nat} (hd : decode (hB h) pc = .ok (.ifCond cc off, 3)) (ht : (pc : Int) + off = (t : Int)) (hk : brk cc x 0 (AtO g h p e R s m args below meth c cells slots Z t L S mem) (AtO g h p e R s m args below meth c cells slots Z (pc + 3) L S mem)) : AtO g h p e R s m args below meth c cells slots Z pc L (vI x :: S) mem := by
  obtain ⟨hx, hb, hml, hown, hrm, hK, hT, hE, -, -, -⟩ := C
  intro H locs ls hP hS hl hLo hSo
  cases cc <;> obtain ⟨h1, h2⟩ := hk
  · exact lv_if_eq hx hb hd ht (fun q => h1 q H locs ls hP hS hl hLo (okS_t hSo)) (fun q => h2 q H locs ls hP hS hl hLo (okS_t hSo))
  · exact lv_if_ne hx hb hd ht (fun q => h1 q H locs ls hP hS hl hLo (okS_t hSo)) (fun q => h2 q H locs ls hP hS hl hLo (okS_t hSo))
  · exact lv_if_lt hx hb hd ht (fun q => h1 q H locs ls hP hS hl hLo (okS_t hSo)) (fun q => h2 q H locs ls hP hS hl hLo (okS_t hSo))
  · exact lv_if_ge hx hb hd ht (fun q => h1 q H locs ls hP hS hl hLo (okS_t hSo)) (fun q => h2 q H locs ls hP hS hl hLo (okS_t hSo))
  · exact lv_if_gt hx hb hd ht (fun q => h1 q H locs ls hP hS hl hLo (okS_t hSo)) (fun q => h2 q H locs ls hP hS hl hLo (okS_t hSo))
  · exact lv_if_le hx hb hd ht (fun q => h1 q H locs ls hP hS hl hLo (okS_t hSo)) (fun q => h2 q H locs ls hP hS hl hLo (okS_t hSo))
theorem s_icmp (C : Okc g h Q p e R s m args below meth c cells slots Z) {cc : Jvm.ClassFile.Cond} {x y : Int32} {off : Int} {t : Nat} (hd : decode (hB h) pc = .ok (.if_icmp cc off, 3)) (ht : (pc : Int) + off = (t : Int)) (hk : brk cc x y (AtO g h p e R s m args below meth c cells slots Z t L S mem) (AtO g h p e R s m args below meth c cells slots Z (pc + 3) L S mem)) : AtO g h p e R s m args below meth c cells slots Z pc L (vI y :: vI x :: S) mem := by
  obtain ⟨hx, hb, hml, hown, hrm, hK, hT, hE, -, -, -⟩ := C
  intro H locs ls hP hS hl hLo hSo
  cases cc <;> obtain ⟨h1, h2⟩ := hk
  · exact lv_icmp_eq hx hb hd ht (fun q => h1 q H locs ls hP hS hl hLo (okS_t (okS_t hSo))) (fun q => h2 q H locs ls hP hS hl hLo (okS_t (okS_t hSo)))
  · exact lv_icmp_ne hx hb hd ht (fun q => h1 q H locs ls hP hS hl hLo (okS_t (okS_t hSo))) (fun q => h2 q H locs ls hP hS hl hLo (okS_t (okS_t hSo)))
  · exact lv_icmp_lt hx hb hd ht (fun q => h1 q H locs ls hP hS hl hLo (okS_t (okS_t hSo))) (fun q => h2 q H locs ls hP hS hl hLo (okS_t (okS_t hSo)))
  · exact lv_icmp_ge hx hb hd ht (fun q => h1 q H locs ls hP hS hl hLo (okS_t (okS_t hSo))) (fun q => h2 q H locs ls hP hS hl hLo (okS_t (okS_t hSo)))
  · exact lv_icmp_gt hx hb hd ht (fun q => h1 q H locs ls hP hS hl hLo (okS_t (okS_t hSo))) (fun q => h2 q H locs ls hP hS hl hLo (okS_t (okS_t hSo)))
  · exact lv_icmp_le hx hb hd ht (fun q => h1 q H locs ls hP hS hl hLo (okS_t (okS_t hSo))) (fun q => h2 q H locs ls hP hS hl hLo (okS_t (okS_t hSo)))
theorem s_goto (C : Okc g h Q p e R s m args below meth c cells slots Z) {off : Int} {t : Nat} (hd : decode (hB h) pc = .ok (.goto off, 3)) (ht : (pc : Int) + off = (t : Int)) (hk : AtO g h p e R s m args below meth c cells slots Z t L S mem) : AtO g h p e R s m args below meth c cells slots Z pc L S mem := by
  obtain ⟨hx, hb, hml, hown, hrm, hK, hT, hE, -, -, -⟩ := C
  intro H locs ls hP hS hl hLo hSo
  exact lv_goto hx hb hd ht (hk H locs ls hP hS hl hLo hSo)
theorem s_ifnonnull (C : Okc g h Q p e R s m args below meth c cells slots Z) {off : Int} {t k i u : Nat} (hd : decode (hB h) pc = .ok (.ifnonnull off, 3)) (ht : (pc : Int) + off = (u : Int)) (h25 : t ≠ 25) (hk1 : t = 0 → AtO g h p e R s m args below meth c cells slots Z (pc + 3) L S mem) (hk2 : t ≠ 0 → AtO g h p e R s m args below meth c cells slots Z u L S mem) : AtO g h p e R s m args below meth c cells slots Z pc L (vO t k i :: S) mem := by
  obtain ⟨hx, hb, hml, hown, hrm, hK, hT, hE, -, -, -⟩ := C
  intro H locs ls hP hS hl hLo hSo
  rw [List.map_cons]
  by_cases h0 : t = 0
  · subst h0
    exact lv_ifnonnullN hx hb hd (hk1 rfl H locs ls hP hS hl hLo (okS_t hSo))
  · rw [vvO_ref h0 h25]
    exact lv_ifnonnull hx hb hd ht (hk2 h0 H locs ls hP hS hl hLo (okS_t hSo))
end SND
