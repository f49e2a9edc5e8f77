/-! FROM THE SMALL MACHINE TO A CONTRACT -/
def Go (g : Wg) (h : Hd) (Q : Option Vl → Mm → Prop) (pc : Nat) (L : Lc) (S : List Vl) (mem : Mm) : Prop :=
  ∀ (p : Program) (e : Env) (R : Room) (s : State) (m : MethodId) (args : Array Value) (below : List Frame) (meth : Method) (c : Code) (cells slots : Nat) (Z : State → Prop), Okc g h Q p e R s m args below meth c cells slots Z → AtO g h p e R s m args below meth c cells slots Z pc L S mem
def okCd (h : Hd) (cd : List (Option En)) : Prop := ∀ (pc : Nat) (en : En), cd[pc]? = some (some en) → okE h en pc
theorem go_sound {g : Wg} {h : Hd} {Q : Option Vl → Mm → Prop} {cd : List (Option En)} {cut : List Nat} {K : Nat → Lc → List Vl → Mm → Prop} (hcd : okCd h cd) (hK : ∀ pc L S mem, K pc L S mem → Go g h Q pc L S mem) :
    ∀ (n : Nat) (b : Bool) (pc : Nat) (L : Lc) (S : List Vl) (mem : Mm), go g h Q cd cut K n b pc L S mem → Go g h Q pc L S mem := by
  intro n
  induction n with
  | zero => exact fun b pc L S mem hg => hK _ _ _ _ hg
  | succ n ih =>
    intro b pc L S mem hg
    unfold go at hg
    split at hg
    · exact hK _ _ _ _ hg
    · split at hg
      · rename_i en hen
        intro p e R s m args below meth c cells slots Z C
        exact stp_sound C (fun pc L S mem hz => ih true pc L S mem hz p e R s m args below meth c cells slots Z C) (hcd pc en hen) hg
      · exact hg.elim
/-- from a place on, to the next cuts -/
theorem Go.cut {g : Wg} {h : Hd} {Q : Option Vl → Mm → Prop} {cd : List (Option En)} (hcd : okCd h cd) (cut : List Nat) (n : Nat) {pc : Nat} {L : Lc} {S : List Vl} {mem : Mm} (hg : go g h Q cd cut (Go g h Q) n false pc L S mem) : Go g h Q pc L S mem := go_sound hcd (fun _ _ _ _ q => q) n false pc L S mem hg
theorem Go.sub {g : Wg} {h : Hd} {Q : Option Vl → Mm → Prop} {pc : Nat} {L L' : Lc} {S : List Vl} {mem : Mm} (hs : ∀ q ∈ L', q ∈ L) (hg : Go g h Q pc L' S mem) : Go g h Q pc L S mem := by
  intro p e R s m args below meth c cells slots Z C H locs ls hP hS hl hLo hSo
  refine hg p e R s m args below meth c cells slots Z C H locs ls hP hS ⟨hl.1, hl.2.1, fun q hq => ?_⟩ (fun q hq => hLo q (hs q hq)) hSo
  obtain ⟨q0, h1, rfl⟩ := List.mem_map.mp hq
  exact hl.2.2 _ (List.mem_map.mpr ⟨q0, hs q0 h1, rfl⟩)
/-- fewer locals, by their places -/
theorem Go.pick {g : Wg} {h : Hd} {Q : Option Vl → Mm → Prop} {pc : Nat} {L L' : Lc} {S : List Vl} {mem : Mm} (ks : List Nat) (hs : ks.filterMap (fun i => L[i]?) = L') (hg : Go g h Q pc L' S mem) : Go g h Q pc L S mem := by
  refine Go.sub (fun q hq => ?_) hg
  rw [← hs] at hq
  obtain ⟨k, -, hk⟩ := List.mem_filterMap.mp hq
  exact List.mem_of_getElem? hk
theorem Go.mono {g : Wg} {h : Hd} {Q Q' : Option Vl → Mm → Prop} {pc : Nat} {L : Lc} {S : List Vl} {mem : Mm} (hq : ∀ r m', Q r m' → Q' r m') (hg : Go g h Q pc L S mem) : Go g h Q' pc L S mem := by
  intro p e R s m args below meth c cells slots Z C
  refine hg p e R s m args below meth c cells slots Z ?_
  obtain ⟨h1, h2, h3, h4, h5, h6, h7, h8, h9, h10, h11⟩ := C
  refine ⟨h1, h2, h3, h4, h5, h6, h7, h8, fun H locs ls pc x mem hd hr => h9 H locs ls pc x mem hd ?_, fun H locs ls pc mem hd hr => h10 H locs ls pc mem hd ?_, fun H locs ls pc t k i mem hd ho hr => h11 H locs ls pc t k i mem hd ho ?_⟩
  rotate_left
  · unfold vtC at hr ⊢
    split at hr
    · exact hq _ _ hr
    · exact hr.elim
  · unfold atC at hr ⊢
    split at hr
    · exact hq _ _ hr
    · exact hr.elim
  unfold rtC at hr ⊢
  split at hr
  · exact hq _ _ hr
  · exact ⟨hr.1, hq _ _ hr.2⟩
  · exact ⟨hr.1, hq _ _ hr.2⟩
  · exact ⟨hr.1, hq _ _ hr.2⟩
  · exact hr.elim
def argL (n : Nat) (as : List Vl) : Lc := match as with
  | [] => []
  | v :: r => (n, v) :: argL (match isJ v with
    | true => n + 2
    | false => n + 1) r
def argN (as : List Vl) : Nat := match as with
  | [] => 0
  | v :: r => (match isJ v with
    | true => 2
    | false => 1) + argN r
theorem argL_map (g : Wg) : ∀ (as : List Vl) (n : Nat), lv_args n (as.map (vvO g)) = (argL n as).map (fun q => (q.1, vvO g q.2))
  | [], _ => rfl
  | v :: r, n => by
    rw [List.map_cons]
    unfold lv_args argL
    rw [List.map_cons, vvO_cat]
    obtain x | x | x := v
    · exact congrArg (fun l => (n, vvO g (vI x)) :: l) (argL_map g r (n + 1))
    · exact congrArg (fun l => (n, vvO g (vJ x)) :: l) (argL_map g r (n + 2))
    · exact congrArg (fun l => (n, vvO g (.inr (.inr x))) :: l) (argL_map g r (n + 1))
theorem argN_len (g : Wg) : ∀ as : List Vl, (lg_sl (as.map (vvO g))).length = argN as
  | [] => rfl
  | v :: r => by
    have ih := argN_len g r
    unfold lg_sl at ih ⊢
    rw [List.map_cons, List.flatMap_cons, List.length_append, ih, vvO_cat]
    obtain x | x | x := v <;> rfl
theorem argL_ok : ∀ (as : List Vl) (n : Nat), (∀ v ∈ as, okV v) → ∀ q ∈ argL n as, okV q.2
  | [], _, _, q, hq => by cases hq
  | v :: r, n, h, q, hq => by
    unfold argL at hq
    rcases List.mem_cons.mp hq with rfl | hq
    · exact okS_h h
    · exact argL_ok r _ (okS_t h) q hq
theorem Runs.ofGo {g : Wg} {h : Hd} {as : List Vl} {mem : Mm} {Q : Option Vl → Mm → Prop} (hpl : plainName (hY h).cls = true) (hn : argN as ≤ hM h) (hG : Go g h Q 0 (argL 0 as) [] mem) : Runs g h as mem Q := by
  refine Met.ofW (cc := hB h) (maxL := hM h) (ret := hR h) hpl rfl ?_
  intro p e s m args below meth c s₁ B hml hv
  obtain ⟨rfl, hav, hP, hK, hT, hE⟩ := hv
  have hr := B.returns
  have hlocks := B.notSynchronized
  have hout : ∀ (H : Heap) (locs : List Loc) (r : Option Vl) (m' : Mm) (t : State), Q r m' → okA r → va_P (gD g) clsL (wsO g m') H → va_S (gA g) s.heap H locs → t.heap = H → s.WarmedH t.vm → QcO g Q (as.map (vvO g)).toArray s (.returned (r.map (vvO g))) t :=
    fun H locs r m' t hq hok hP1 hS1 ht hW => ⟨⟨r, m', rfl, hq, hok, wdO.warm (mem := mem) hW ht hP1 hS1 hK hT hE⟩, hS1.F ht⟩
  have C : Okc g h Q p e (headSpec [Cond.code (hY h) (hB h) (hM h) (hR h)] { frames := hF h, cells := 0, slots := 0, locals := hL h }).room s m (as.map (vvO g)).toArray below meth c 0 0 (MQ below (QcO g Q) (as.map (vvO g)).toArray s 0 0 (gA g)) := by
    refine ⟨B.exec, B.bytes, hml, findClass_of_methodNamed B.named, ⟨Nat.le_refl _, Nat.le_refl _, Nat.zero_le _, Nat.zero_le _⟩, hK, hT, hE, ?_, ?_, ?_⟩
    · intro H locs ls pc x mem' hd hq hP1 hS1
      have key : ∀ ty, hR h = some ty → narrow ty (.int x) = .int x → Q (some (vI x)) mem' → W p (gL g) e (headSpec [Cond.code (hY h) (hB h) (hM h) (hR h)] { frames := hF h, cells := 0, slots := 0, locals := hL h }).room s m (as.map (vvO g)).toArray below meth c H locs 0 0 (MQ below (QcO g Q) (as.map (vvO g)).toArray s 0 0 (gA g)) (F0 m pc ls [.int x]) :=
        fun ty h1 h2 h3 => W.zret (ty := ty) B.exec B.bytes (hr.trans h1) h2 (fun t ht hW => hout H locs (some (vI x)) mem' t h3 trivial hP1 hS1 ht hW) hS1.2.2 hd
      unfold rtC at hq
      split at hq
      · rename_i hh
        exact key _ hh rfl hq
      · rename_i hh
        obtain ⟨rfl | rfl, hq⟩ := hq <;> exact key _ hh rfl hq
      · rename_i hh
        obtain ⟨h1, h2, h3⟩ := nrC_sp (ty := .char) (x := x) (P := Q (some (vI x)) mem') hq ⟨0, Or.inr (Or.inr rfl), rfl⟩
        exact key _ hh h1 h3
      · rename_i hh
        obtain ⟨rfl, hq⟩ := hq
        exact key _ hh rfl hq
      · exact hq.elim
    · intro H locs ls pc mem' hd hq hP1 hS1
      have hrn : hR h = none ∧ Q none mem' := by
        unfold vtC at hq
        split at hq
        · rename_i hh
          exact ⟨hh, hq⟩
        · exact hq.elim
      obtain ⟨hrn, hq⟩ := hrn
      exact W.vret B.exec B.bytes (hr.trans hrn) (fun t ht hW => hout H locs none mem' t hq trivial hP1 hS1 ht hW) hS1.2.2 hd
    · intro H locs ls pc t k i mem' hd hok hq hP1 hS1
      have hrn : (∃ n, hR h = some (.object n)) ∧ Q (some (vO t k i)) mem' := by
        unfold atC at hq
        split at hq
        · rename_i hh
          exact ⟨⟨_, hh⟩, hq⟩
        · exact hq.elim
      obtain ⟨⟨n, hrn⟩, hq⟩ := hrn
      exact W.aret B.exec B.bytes (hr.trans hrn) (Or.inl ⟨n, rfl⟩) (vvO_or g t k i) (fun t2 ht hW => hout H locs (some (vO t k i)) mem' t2 hq hok hP1 hS1 ht hW) hS1.2.2 hd
  have hl := lv_entry (as.map (vvO g)) (n := hM h) (by rw [argN_len]; exact hn)
  rw [argL_map] at hl
  rw [lg_entry_eq]
  exact hG p e _ s m _ below meth c 0 0 _ C s.heap [] _ hP va_S.rf hl (argL_ok as 0 hav) (fun _ hv => by cases hv)
