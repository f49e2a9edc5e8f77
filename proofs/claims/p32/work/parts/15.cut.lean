/-! contracts by kind of answer; cuts that keep the live locals in order -/
def RunI (g : Wg) (h : Hd) (as : List Vl) (mem : Mm) (P : Int32 → Mm → Prop) : Prop := Runs g h as mem (fun r m' => ∃ x, r = some (vI x) ∧ P x m')
def RunV (g : Wg) (h : Hd) (as : List Vl) (mem : Mm) (P : Mm → Prop) : Prop := Runs g h as mem (fun r m' => r = none ∧ P m')
def RunO (g : Wg) (h : Hd) (as : List Vl) (mem : Mm) (P : Nat → Nat → Nat → Mm → Prop) : Prop := Runs g h as mem (fun r m' => ∃ t k i, r = some (vO t k i) ∧ P t k i m')
theorem RunI.mono {g : Wg} {h : Hd} {as : List Vl} {mem : Mm} {P P' : Int32 → Mm → Prop} (hr : RunI g h as mem P) (hp : ∀ x m', P x m' → P' x m') : RunI g h as mem P' := Runs.mono hr (fun _ _ ⟨x, h1, h2⟩ => ⟨x, h1, hp x _ h2⟩)
theorem RunV.mono {g : Wg} {h : Hd} {as : List Vl} {mem : Mm} {P P' : Mm → Prop} (hr : RunV g h as mem P) (hp : ∀ m', P m' → P' m') : RunV g h as mem P' := Runs.mono hr (fun _ _ ⟨h1, h2⟩ => ⟨h1, hp _ h2⟩)
theorem RunO.mono {g : Wg} {h : Hd} {as : List Vl} {mem : Mm} {P P' : Nat → Nat → Nat → Mm → Prop} (hr : RunO g h as mem P) (hp : ∀ t k i m', P t k i m' → P' t k i m') : RunO g h as mem P' := Runs.mono hr (fun _ _ ⟨t, k, i, h1, h2⟩ => ⟨t, k, i, h1, hp t k i _ h2⟩)
abbrev QI (P : Int32 → Mm → Prop) : Option Vl → Mm → Prop := fun r m' => ∃ x, r = some (vI x) ∧ P x m'
abbrev QV (P : Mm → Prop) : Option Vl → Mm → Prop := fun r m' => r = none ∧ P m'
abbrev QO (P : Nat → Nat → Nat → Mm → Prop) : Option Vl → Mm → Prop := fun r m' => ∃ t k i, r = some (vO t k i) ∧ P t k i m'
theorem RunI.ofGo {g : Wg} {h : Hd} {as : List Vl} {mem : Mm} {P : Int32 → Mm → Prop} (hpl : plainName (hY h).cls = true) (hn : Nat.ble (argN as) (hM h) = true) (hG : Go g h (QI P) 0 (argL 0 as) [] mem) : RunI g h as mem P := Runs.ofGo hpl (Nat.le_of_ble_eq_true hn) hG
theorem RunV.ofGo {g : Wg} {h : Hd} {as : List Vl} {mem : Mm} {P : Mm → Prop} (hpl : plainName (hY h).cls = true) (hn : Nat.ble (argN as) (hM h) = true) (hG : Go g h (QV P) 0 (argL 0 as) [] mem) : RunV g h as mem P := Runs.ofGo hpl (Nat.le_of_ble_eq_true hn) hG
theorem RunO.ofGo {g : Wg} {h : Hd} {as : List Vl} {mem : Mm} {P : Nat → Nat → Nat → Mm → Prop} (hpl : plainName (hY h).cls = true) (hn : Nat.ble (argN as) (hM h) = true) (hG : Go g h (QO P) 0 (argL 0 as) [] mem) : RunO g h as mem P := Runs.ofGo hpl (Nat.le_of_ble_eq_true hn) hG
def nrmL (ks : List Nat) (L : Lc) : Lc := match ks with
  | [] => []
  | a :: r => match lkL L a with
    | some v => (a, v) :: nrmL r L
    | none => nrmL r L
theorem nrmL_mem : ∀ (ks : List Nat) (L : Lc), ∀ q ∈ nrmL ks L, q ∈ L
  | [], _, q, hq => by cases hq
  | a :: r, L, q, hq => by
    unfold nrmL at hq
    split at hq
    · rename_i v hv
      rcases List.mem_cons.mp hq with rfl | hq
      · exact lkL_mem hv
      · exact nrmL_mem r L q hq
    · exact nrmL_mem r L q hq
def assC (pc : Nat) (cut : List (Nat × List Nat)) : List Nat := match cut with
  | [] => []
  | q :: r => match Nat.beq q.1 pc with
    | true => q.2
    | false => assC pc r
theorem Go.cutN {g : Wg} {h : Hd} {Q : Option Vl → Mm → Prop} {cd : List (Option En)} (hcd : okCd h cd) (cut : List (Nat × List Nat)) (n : Nat) {pc : Nat} {L : Lc} {S : List Vl} {mem : Mm} (hg : go g h Q cd (cut.map Prod.fst) (fun pc L S mem => Go g h Q pc (nrmL (assC pc cut) L) S mem) n false pc L S mem) : Go g h Q pc L S mem := go_sound hcd (fun _ _ _ _ q => Go.sub (nrmL_mem _ _) q) n false pc L S mem hg
