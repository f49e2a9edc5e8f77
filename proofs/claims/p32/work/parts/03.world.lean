/-! THE WORLD: the tables of the classes, what lies outside, the cells; contracts in these words -/
def clsN (ci : Nat) : String := match ci with
  | 0 => "NurseryPlaces"
  | 1 => "NurseryPlaces$State"
  | 2 => "NurseryPlaces$Room"
  | 3 => "NurseryPlaces$Carer"
  | 4 => "NurseryPlaces$Child"
  | 5 => "NurseryPlaces$History"
  | 6 => "NurseryPlaces$Pad"
  | _ => "java/lang/String"
def clsT (ci : Nat) : u_T := fun j => match ci with
  | 0 => match j with
    | 0 => ("NurseryPlaces", "now", "LNurseryPlaces$State;", true)
    | 1 => ("NurseryPlaces", "trial", "LNurseryPlaces$State;", true)
    | 2 => ("NurseryPlaces", "history", "LNurseryPlaces$History;", true)
    | 3 => ("NurseryPlaces", "slots", "[LNurseryPlaces$State;", true)
    | 4 => ("NurseryPlaces", "isSaved", "[Z", true)
    | _ => ("NurseryPlaces", "pad", "LNurseryPlaces$Pad;", true)
  | 1 => match j with
    | 0 => ("NurseryPlaces$State", "settings", "[I", true)
    | 1 => ("NurseryPlaces$State", "rooms", "[LNurseryPlaces$Room;", true)
    | 2 => ("NurseryPlaces$State", "carers", "[LNurseryPlaces$Carer;", true)
    | 3 => ("NurseryPlaces$State", "children", "[LNurseryPlaces$Child;", true)
    | 4 => ("NurseryPlaces$State", "roomCount", "I", false)
    | 5 => ("NurseryPlaces$State", "carerCount", "I", false)
    | 6 => ("NurseryPlaces$State", "childCount", "I", false)
    | 7 => ("NurseryPlaces$State", "week", "I", false)
    | 8 => ("NurseryPlaces$State", "placings", "I", false)
    | 9 => ("NurseryPlaces$State", "paid", "I", false)
    | 10 => ("NurseryPlaces$State", "visitsHeld", "I", false)
    | _ => ("NurseryPlaces$State", "timesSentHome", "I", false)
  | 2 => match j with
    | 0 => ("NurseryPlaces$Room", "from", "I", false)
    | 1 => ("NurseryPlaces$Room", "to", "I", false)
    | 2 => ("NurseryPlaces$Room", "capacity", "I", false)
    | _ => ("NurseryPlaces$Room", "ratio", "I", false)
  | 3 => match j with
    | 0 => ("NurseryPlaces$Carer", "room", "I", false)
    | 1 => ("NurseryPlaces$Carer", "days", "I", false)
    | 2 => ("NurseryPlaces$Carer", "from", "I", false)
    | 3 => ("NurseryPlaces$Carer", "to", "I", false)
    | _ => ("NurseryPlaces$Carer", "isSick", "Z", false)
  | 4 => match j with
    | 0 => ("NurseryPlaces$Child", "age", "I", false)
    | 1 => ("NurseryPlaces$Child", "family", "I", false)
    | 2 => ("NurseryPlaces$Child", "wish", "I", false)
    | 3 => ("NurseryPlaces$Child", "state", "I", false)
    | 4 => ("NurseryPlaces$Child", "room", "I", false)
    | 5 => ("NurseryPlaces$Child", "sessions", "I", false)
    | 6 => ("NurseryPlaces$Child", "isSettled", "Z", false)
    | 7 => ("NurseryPlaces$Child", "visits", "I", false)
    | 8 => ("NurseryPlaces$Child", "plannedVisit", "I", false)
    | 9 => ("NurseryPlaces$Child", "sessionsHeld", "I", false)
    | 10 => ("NurseryPlaces$Child", "timesSentHome", "I", false)
    | 11 => ("NurseryPlaces$Child", "paid", "I", false)
    | 12 => ("NurseryPlaces$Child", "waitingSince", "I", false)
    | _ => ("NurseryPlaces$Child", "placing", "I", false)
  | 5 => match j with
    | 0 => ("NurseryPlaces$History", "rows", "[LNurseryPlaces$State;", true)
    | 1 => ("NurseryPlaces$History", "oldest", "I", false)
    | _ => ("NurseryPlaces$History", "size", "I", false)
  | 6 => match j with
    | 0 => ("NurseryPlaces$Pad", "signs", "[C", true)
    | 1 => ("NurseryPlaces$Pad", "length", "I", false)
    | 2 => ("NurseryPlaces$Pad", "cursor", "I", false)
    | 3 => ("NurseryPlaces$Pad", "kind", "C", false)
    | 4 => ("NurseryPlaces$Pad", "numbers", "[I", true)
    | _ => ("NurseryPlaces$Pad", "numberCount", "I", false)
  | _ => ("", "", "", false)
def clsF (ci j : Nat) : FieldType := match ci with
  | 0 => match j with
    | 0 => .object "NurseryPlaces$State"
    | 1 => .object "NurseryPlaces$State"
    | 2 => .object "NurseryPlaces$History"
    | 3 => .array (.object "NurseryPlaces$State")
    | 4 => .array .boolean
    | _ => .object "NurseryPlaces$Pad"
  | 1 => match j with
    | 0 => .array .int
    | 1 => .array (.object "NurseryPlaces$Room")
    | 2 => .array (.object "NurseryPlaces$Carer")
    | 3 => .array (.object "NurseryPlaces$Child")
    | 4 => .int
    | 5 => .int
    | 6 => .int
    | 7 => .int
    | 8 => .int
    | 9 => .int
    | 10 => .int
    | _ => .int
  | 2 => match j with
    | 0 => .int
    | 1 => .int
    | 2 => .int
    | _ => .int
  | 3 => match j with
    | 0 => .int
    | 1 => .int
    | 2 => .int
    | 3 => .int
    | _ => .boolean
  | 4 => match j with
    | 0 => .int
    | 1 => .int
    | 2 => .int
    | 3 => .int
    | 4 => .int
    | 5 => .int
    | 6 => .boolean
    | 7 => .int
    | 8 => .int
    | 9 => .int
    | 10 => .int
    | 11 => .int
    | 12 => .int
    | _ => .int
  | 5 => match j with
    | 0 => .array (.object "NurseryPlaces$State")
    | 1 => .int
    | _ => .int
  | 6 => match j with
    | 0 => .array .char
    | 1 => .int
    | 2 => .int
    | 3 => .char
    | 4 => .array .int
    | _ => .int
  | _ => .int
def clsL : List vw_C := (List.range 7).map (fun ci => (clsN ci, clsT ci, nfO ci))
def arrT (q : Nat) : FieldType := match q with
  | 0 => .int
  | 1 => .boolean
  | 2 => .char
  | 3 => .object "NurseryPlaces$Room"
  | 4 => .object "NurseryPlaces$Carer"
  | 5 => .object "NurseryPlaces$Child"
  | _ => .object "NurseryPlaces$State"
def tysO (g : Wg) : List (ClassId × FieldType) := (List.range 7).map (fun q => (gC g q, arrT q))
theorem clsL_at {ci : Nat} (h : ci < 7) : clsL[ci]? = some (clsN ci, clsT ci, nfO ci) := by
  unfold clsL
  rw [List.getElem?_map, List.getElem?_range h]
  rfl
theorem tysO_at {g : Wg} {q : Nat} (h : q < 7) : (tysO g)[q]? = some (gC g q, arrT q) := by
  unfold tysO
  rw [List.getElem?_map, List.getElem?_range h]
  rfl
/-- the words of the tables that stay true -/
def keepW (w : Cond) : Bool := w.onTables && (w.keeps || match w with
  | .methodLinkNest .. => true
  | .fieldLinkNest .. => true
  | _ => false)
def InT (w : Cond) : Prop := w ∈ lw_tbl ∧ keepW w = true
def Tb (U : State) : Prop := ∀ w, InT w → va_Nw w U
theorem Tb.use {U : State} (h : Tb U) {w : Cond} (hw : InT w) {A : Array Value} : w.before A U = true := va_Nw.use (by
  have h2 := hw.2
  unfold keepW at h2
  simp only [Bool.and_eq_true] at h2
  exact h2.1) (h w hw)
theorem Tb.warm {s U : State} (hW : s.WarmedH U.vm) (h : Tb s) : Tb U := by
  intro w hw
  have h0 := h w hw
  have h2 := hw.2
  unfold keepW at h2
  simp only [Bool.and_eq_true, Bool.or_eq_true] at h2
  obtain ⟨h3, h4⟩ := h2
  rcases h4 with h4 | h4
  · exact word_at hW (Or.inl (by rw [h3, h4]; rfl)) h0
  · cases w <;> first | (cases h4; done) | exact va_Nw.warmM hW h0 | exact va_Nw.warmF hW h0
theorem Tb.same {u U : State} (hv : u.vm = U.vm) (h : Tb u) : Tb U := fun w hw => va_Nw.same (by
  have h2 := hw.2
  unfold keepW at h2
  simp only [Bool.and_eq_true] at h2
  exact h2.1) hv (h w hw)
theorem Tb.of {s : State} {A : Array Value} (h : ∀ w ∈ lw_tbl, w.before A s = true) : Tb s := fun w hw => va_Nw.of (by
  have h2 := hw.2
  unfold keepW at h2
  simp only [Bool.and_eq_true] at h2
  exact h2.1) (h w hw.1)
theorem InT.of {w : Cond} (i : Nat) (h : lw_tbl[i]? = some w) (h2 : keepW w = true) : InT w := ⟨List.mem_of_getElem? h, h2⟩
set_option maxRecDepth 100000 in
theorem cls_in : ∀ ci, ci < 7 → (u_ws (clsN ci) (clsT ci) (nfO ci)).all (fun w => decide (w ∈ lw_tbl) && keepW w) = true := by decide +kernel
theorem cls_InT {ci : Nat} (h : ci < 7) : ∀ w ∈ u_ws (clsN ci) (clsT ci) (nfO ci), InT w := by
  intro w hw
  have h1 := List.all_eq_true.mp (cls_in ci h) w hw
  simp only [Bool.and_eq_true, decide_eq_true_eq] at h1
  exact h1
theorem cls_ty0 : ∀ ci, ci < 7 → ∀ k, k < nfO ci → parseFieldDescriptor (clsT ci k).2.2.1 = some (clsF ci k) := by decide +kernel
theorem cls_nm0 : ∀ ci, ci < 7 → ∀ a, a < nfO ci → ∀ b, b < nfO ci → a ≠ b → (clsT ci a).2.1 ≠ (clsT ci b).2.1 := by decide +kernel
/-- the two static arrays -/
def staV (k j : Nat) : Int32 := match k with
  | 0 => match j with
    | 2 => 1
    | _ => 0
  | _ => match j with
    | 0 => 10000
    | 1 => 100
    | 2 => 10
    | 3 => 9
    | _ => 99
/-- what lies outside: nobody writes it -/
def Ext (g : Wg) (U : State) (H : Heap) : Prop :=
  va_Z "NurseryPlaces" "LOWEST_SETTING" "[I" (.ref (gT g 0)) (gA g) U H ∧ va_Z "NurseryPlaces" "HIGHEST_SETTING" "[I" (.ref (gT g 1)) (gA g) U H ∧
  va_T .int (gT g 0) 5 (fun j => .int (staV 0 j)) (gA g) U H ∧ va_T .int (gT g 1) 5 (fun j => .int (staV 1 j)) (gA g) U H ∧
  (va_X (gX g).1 (gX g).2.1 (gX g).2.2 U H ∧ (gX g).1 < H.size ∧ ¬ gA g (gX g).1)
theorem Ext.warm {g : Wg} {s U : State} {H H1 : Heap} (hW : s.WarmedH U.vm) (hq : ∀ a : Nat, a < H.size → ¬ gA g a → H1[a]? = H[a]?) (hz : H.size ≤ H1.size) (h : Ext g s H) : Ext g U H1 := by
  obtain ⟨h1, h2, h3, h4, h9, h10, h11⟩ := h
  have hv := hW.alike
  exact ⟨(h1.moved hv).kept hq, (h2.moved hv).kept hq, (h3.moved hv).kept hq, (h4.moved hv).kept hq, (h9.moved hv).kept (hq _ h10 h11), Nat.lt_of_lt_of_le h10 hz, h11⟩
/-- the world of a memory, in a state -/
def wdO (g : Wg) (mem : Mm) (U : State) : Prop := va_P (gD g) clsL (wsO g mem) U.heap ∧ va_K (gD g) clsL (tysO g) U ∧ Tb U ∧ Ext g U U.heap
theorem wdO.warm {g : Wg} {mem mem' : Mm} {s U : State} {H : Heap} {locs : List Loc} (hW : s.WarmedH U.vm) (hU : U.heap = H) (hP : va_P (gD g) clsL (wsO g mem') H) (hS : va_S (gA g) s.heap H locs) (hK : va_K (gD g) clsL (tysO g) s) (hT : Tb s) (hE : Ext g s s.heap) : wdO g mem' U :=
  ⟨by rw [hU]; exact hP, va_K.moved hW.alike hK, hT.warm hW, hE.warm hW (by rw [hU]; exact hS.2.1) (by rw [hU]; exact hS.1)⟩
theorem wdO.calling {g : Wg} {mem : Mm} {U : State} {f : JFrame} {mk : MethodId} {a : Array Value} (h : wdO g mem U) : wdO g mem (U.calling f mk a) := by
  obtain ⟨h1, h2, h3, h4⟩ := h
  exact ⟨h1, va_K.moved (u := U) (U := U.calling f mk a) (Vm.Alike.refl U.vm) h2, Tb.same (u := U) rfl h3, Ext.warm (s := U) (U := U.calling f mk a) (State.WarmedH.refl U) (fun _ _ _ => rfl) (Nat.le_refl _) h4⟩
/-- a method's head: name, bytes, locals, answer, frames and words of locals that it needs, arguments (the receiver counts) -/
abbrev Hd : Type := MethodName × ByteArray × Nat × Option FieldType × Nat × Nat × Nat
abbrev hY (h : Hd) : MethodName := h.1
abbrev hB (h : Hd) : ByteArray := h.2.1
abbrev hM (h : Hd) : Nat := h.2.2.1
abbrev hR (h : Hd) : Option FieldType := h.2.2.2.1
abbrev hF (h : Hd) : Nat := h.2.2.2.2.1
abbrev hL (h : Hd) : Nat := h.2.2.2.2.2.1
abbrev hN (h : Hd) : Nat := h.2.2.2.2.2.2
def PcO (g : Wg) (as : List Vl) (mem : Mm) : Array Value → State → Prop := fun v U => v = (as.map (vvO g)).toArray ∧ (∀ v ∈ as, okV v) ∧ wdO g mem U
def okA (r : Option Vl) : Prop := match r with
  | some v => okV v
  | none => True
def QcO (g : Wg) (Q : Option Vl → Mm → Prop) : Array Value → State → Outcome → State → Prop := fun _ st oc t =>
  (∃ (r : Option Vl) (m' : Mm), oc = .returned (r.map (vvO g)) ∧ Q r m' ∧ okA r ∧ wdO g m' t) ∧ va_F (gA g) st t
/-- the contract of a method, in the small machine's words -/
def Runs (g : Wg) (h : Hd) (as : List Vl) (mem : Mm) (Q : Option Vl → Mm → Prop) : Prop :=
  Met (gL g) (hY h) [Cond.code (hY h) (hB h) (hM h) (hR h)] { frames := hF h, cells := 0, slots := 0, locals := hL h } (PcO g as mem) (QcO g Q) 0 0 (gA g)
theorem PcO.blind {g : Wg} {as : List Vl} {mem : Mm} : FrameBlind (PcO g as mem) := fun _ _ _ _ h => ⟨h.1, h.2.1, h.2.2.calling⟩
