/-! THE SMALL MACHINE: values, objects by number, memory. Every object of the class and of the reference is known by (kind, which, place); its address follows from the order in which the constructors make them. -/
abbrev Rf : Type := Nat × Nat × Nat
abbrev Vl : Type := Int32 ⊕ (Int64 ⊕ Rf)
abbrev Mm : Type := Rf → Nat → Int32
abbrev vI (x : Int32) : Vl := .inl x
abbrev vJ (x : Int64) : Vl := .inr (.inl x)
abbrev vO (t k i : Nat) : Vl := .inr (.inr (t, k, i))
/-- launch, classes and slots, first address, array classes, addresses of what lies outside, a static that may be null, the script: its address, length, values -/
abbrev Wg : Type := Launch × va_G × Nat × (Nat → ClassId) × (Nat → Nat) × Option Nat × (Nat × Nat × (Nat → Int32))
abbrev gL (g : Wg) : Launch := g.1
abbrev gD (g : Wg) : va_G := g.2.1
abbrev gB (g : Wg) : Nat := g.2.2.1
abbrev gC (g : Wg) : Nat → ClassId := g.2.2.2.1
abbrev gT (g : Wg) : Nat → Nat := g.2.2.2.2.1
abbrev gF (g : Wg) : Option Nat := g.2.2.2.2.2.1
abbrev gX (g : Wg) : Nat × Nat × (Nat → Int32) := g.2.2.2.2.2.2
def gA (g : Wg) : Nat → Prop := fun q => gB g ≤ q
def sbO (k : Nat) : Nat := 47 * k + (if k < 2 then 1 else if k < 9 then 3 else 4)
/-- the order of making -/
def ordO (t k i : Nat) : Nat := match t with
  | 2 => sbO k
  | 3 => sbO k + 1
  | 4 => sbO k + 2
  | 5 => sbO k + 3
  | 6 => sbO k + 4
  | 7 => sbO k + 5 + i
  | 8 => sbO k + 10 + i
  | 9 => sbO k + 23 + i
  | 10 => 95
  | 11 => 96
  | 12 => 426
  | 13 => 521
  | 14 => 522
  | 15 => 523
  | 16 => 524
  | _ => 0
/-- which objects there are -/
def okO (t k i : Nat) : Bool := match t with
  | 1 => Nat.beq k 0 && Nat.beq i 0
  | 2 => Nat.blt k 11 && Nat.beq i 0
  | 3 => Nat.blt k 11 && Nat.beq i 0
  | 4 => Nat.blt k 11 && Nat.beq i 0
  | 5 => Nat.blt k 11 && Nat.beq i 0
  | 6 => Nat.blt k 11 && Nat.beq i 0
  | 7 => Nat.blt k 11 && Nat.blt i 5
  | 8 => Nat.blt k 11 && Nat.blt i 13
  | 9 => Nat.blt k 11 && Nat.blt i 24
  | 10 => Nat.beq k 0 && Nat.beq i 0
  | 11 => Nat.beq k 0 && Nat.beq i 0
  | 12 => Nat.beq k 0 && Nat.beq i 0
  | 13 => Nat.beq k 0 && Nat.beq i 0
  | 14 => Nat.beq k 0 && Nat.beq i 0
  | 15 => Nat.beq k 0 && Nat.beq i 0
  | 16 => Nat.beq k 0 && Nat.beq i 0
  | _ => false
def okR (t k i : Nat) : Bool := match t with
  | 0 => true
  | 20 => true
  | 22 => Nat.blt k 2
  | _ => okO t k i
def okV (v : Vl) : Prop := match v with
  | .inr (.inr (t, k, i)) => okR t k i = true
  | _ => True
def stR (k : Nat) : List Rf := (2, k, 0) :: (3, k, 0) :: (4, k, 0) :: (5, k, 0) :: (6, k, 0) :: ((List.range 5).map (fun i => (7, k, i)) ++ ((List.range 13).map (fun i => (8, k, i)) ++ (List.range 24).map (fun i => (9, k, i))))
def allR : List Rf := (1, 0, 0) :: (stR 0 ++ (stR 1 ++ ((10, 0, 0) :: (11, 0, 0) :: (stR 2 ++ (stR 3 ++ (stR 4 ++ (stR 5 ++ (stR 6 ++ (stR 7 ++ (stR 8 ++ ((12, 0, 0) :: (stR 9 ++ (stR 10 ++ [(13, 0, 0), (14, 0, 0), (15, 0, 0), (16, 0, 0)])))))))))))))
def adO (g : Wg) (t k i : Nat) : Nat := match t with
  | 20 => (gX g).1
  | 22 => gT g k
  | _ => gB g + ordO t k i
def vvO (g : Wg) (v : Vl) : Value := match v with
  | .inl x => .int x
  | .inr (.inl x) => .long x
  | .inr (.inr (t, k, i)) => match t with
    | 0 => .null
    | 25 => va_rf (gF g)
    | _ => .ref (adO g t k i)
/-- the fields that hold references -/
def refO (t k : Nat) (j : Nat) : Option Rf := match t with
  | 1 => match j with
    | 0 => some (2, 0, 0)
    | 1 => some (2, 1, 0)
    | 2 => some (10, 0, 0)
    | 3 => some (12, 0, 0)
    | 4 => some (13, 0, 0)
    | _ => some (14, 0, 0)
  | 2 => match j with
    | 0 => some (3, k, 0)
    | 1 => some (4, k, 0)
    | 2 => some (5, k, 0)
    | 3 => some (6, k, 0)
    | _ => none
  | 10 => match j with
    | 0 => some (11, 0, 0)
    | _ => none
  | 14 => match j with
    | 0 => some (15, 0, 0)
    | 4 => some (16, 0, 0)
    | _ => none
  | _ => none
def fvO (mem : Mm) (t k i j : Nat) : Vl := match refO t k j with
  | some r => .inr (.inr r)
  | none => .inl (mem (t, k, i) j)
/-- the class of an object, 99: it is an array -/
def ciO (t : Nat) : Nat := match t with
  | 1 => 0
  | 2 => 1
  | 7 => 2
  | 8 => 3
  | 9 => 4
  | 10 => 5
  | 14 => 6
  | _ => 99
def nfO (ci : Nat) : Nat := match ci with
  | 0 => 6
  | 1 => 12
  | 2 => 4
  | 3 => 5
  | 4 => 14
  | 5 => 3
  | 6 => 6
  | _ => 0
/-- the type of an array, by its place in tysO -/
def tyO (t : Nat) : Nat := match t with
  | 3 => 0
  | 4 => 3
  | 5 => 4
  | 6 => 5
  | 11 => 6
  | 12 => 6
  | 13 => 1
  | 15 => 2
  | 16 => 0
  | _ => 99
def lenO (t k : Nat) : Nat := match t with
  | 3 => 5
  | 4 => 5
  | 5 => 13
  | 6 => 24
  | 11 => 7
  | 12 => 2
  | 13 => 2
  | 15 => 80
  | 16 => 4
  | _ => 0
def elO (t k j : Nat) : Rf := match t with
  | 4 => (7, k, j)
  | 5 => (8, k, j)
  | 6 => (9, k, j)
  | 11 => (2, 2 + j, 0)
  | _ => (2, 9 + j, 0)
def isQ (t : Nat) : Bool := match t with
  | 4 => true
  | 5 => true
  | 6 => true
  | 11 => true
  | 12 => true
  | _ => false
def isP (t : Nat) : Bool := match t with
  | 3 => true
  | 16 => true
  | _ => false
def isZ (t : Nat) : Bool := match t with
  | 13 => true
  | _ => false
def fldO (g : Wg) (mem : Mm) (t k i n : Nat) : List Value := (List.range n).map (fun j => vvO g (fvO mem t k i j))
def cellO (g : Wg) (mem : Mm) (o : Rf) : va_E := match ciO o.1 with
  | 99 => match isQ o.1 with
    | true => .inl (gC g (tyO o.1), lenO o.1 o.2.1, .inr (.inr (.inr (.inr (fun j => match elO o.1 o.2.1 j with
      | (t, k, i) => some (adO g t k i))))))
    | false => .inl (gC g (tyO o.1), lenO o.1 o.2.1, .inl (mem o))
  | ci => .inr (ci, fldO g mem o.1 o.2.1 o.2.2 (nfO ci))
def wsO (g : Wg) (mem : Mm) : va_W := allR.map (fun o => (adO g o.1 o.2.1 o.2.2, cellO g mem o))
def mset (mem : Mm) (t k i j : Nat) (x : Int32) : Mm := fun o => if o = (t, k, i) then upd (mem o) j x else mem o
theorem mset_at (mem : Mm) (t k i j : Nat) (x : Int32) : mset mem t k i j x (t, k, i) = upd (mem (t, k, i)) j x := if_pos rfl
theorem mset_ne (mem : Mm) (t k i j : Nat) (x : Int32) {o : Rf} (h : o ≠ (t, k, i)) : mset mem t k i j x o = mem o := if_neg h
set_option maxRecDepth 100000 in
theorem allR_len : allR.length = 525 := by decide +kernel
set_option maxRecDepth 100000 in
theorem allR_ord : ∀ n, n < 525 → (allR[n]?).map (fun o => ordO o.1 o.2.1 o.2.2) = some n := by decide +kernel
set_option maxRecDepth 100000 in
theorem allR_tag : ∀ n, n < 525 → (allR[n]?).map (fun o => Nat.blt o.1 20) = some true := by decide +kernel
set_option maxRecDepth 100000 in
theorem allR_at0 : ∀ t, t < 20 → ∀ k, k < 11 → ∀ i, i < 24 → (!okO t k i || decide (allR[ordO t k i]? = some (t, k, i))) = true := by decide +kernel
theorem okO_lt {t k i : Nat} (h : okO t k i = true) : t < 20 ∧ k < 11 ∧ i < 24 := by
  unfold okO at h
  split at h <;> simp [Nat.blt, Nat.ble_eq] at h <;> omega
theorem allR_at {t k i : Nat} (h : okO t k i = true) : allR[ordO t k i]? = some (t, k, i) := by
  obtain ⟨h1, h2, h3⟩ := okO_lt h
  have h4 := allR_at0 t h1 k h2 i h3
  rw [h] at h4
  exact of_decide_eq_true h4
theorem okO_ad {g : Wg} {t k i : Nat} (h : t < 20) : adO g t k i = gB g + ordO t k i := by
  unfold adO
  split <;> first | rfl | omega
theorem wsO_at {g : Wg} {mem : Mm} {t k i : Nat} (h : okO t k i = true) : (wsO g mem)[ordO t k i]? = some (adO g t k i, cellO g mem (t, k, i)) := by
  unfold wsO
  rw [List.getElem?_map, allR_at h]
  rfl
theorem wsO_D (g : Wg) (mem : Mm) : va_D (gA g) (wsO g mem) := by
  have key : ∀ (n : Nat) (q : Nat × va_E), (wsO g mem)[n]? = some q → q.1 = gB g + n := by
    intro n q h
    unfold wsO at h
    rw [List.getElem?_map] at h
    cases ho : allR[n]? with
    | none => rw [ho] at h; cases h
    | some o =>
      rw [ho] at h
      cases h
      have hn : n < 525 := by
        have := (List.getElem?_eq_some_iff.mp ho).1
        rw [allR_len] at this
        exact this
      have h1 := allR_ord n hn
      have h2 := allR_tag n hn
      rw [ho] at h1 h2
      have h3 : o.1 < 20 := by
        have h4 := Option.some.inj h2
        exact Nat.le_of_ble_eq_true h4
      show adO g o.1 o.2.1 o.2.2 = _
      rw [okO_ad h3]
      exact congrArg (fun z => gB g + z) (Option.some.inj h1)
  refine ⟨fun i j p q hp hq e => ?_, fun k q hq => ?_⟩
  · have h1 := key i p hp
    have h2 := key j q hq
    omega
  · have h1 := key k q hq
    show gB g ≤ q.1
    omega
theorem allR_inj {n : Nat} {o : Rf} (ho : allR[n]? = some o) : ordO o.1 o.2.1 o.2.2 = n := by
  have hn : n < 525 := by
    have := (List.getElem?_eq_some_iff.mp ho).1
    rw [allR_len] at this
    exact this
  have h1 := allR_ord n hn
  rw [ho] at h1
  exact Option.some.inj h1
theorem cellO_congr {g : Wg} {m1 m2 : Mm} {o : Rf} (h : m1 o = m2 o) : cellO g m1 o = cellO g m2 o := by
  have h2 : ∀ j, fvO m1 o.1 o.2.1 o.2.2 j = fvO m2 o.1 o.2.1 o.2.2 j := by
    intro j
    unfold fvO
    have h3 : m1 (o.1, o.2.1, o.2.2) = m2 (o.1, o.2.1, o.2.2) := h
    rw [h3]
  unfold cellO fldO
  simp only [h2, h]
/-- a world with one cell changed is the world of the memory with that object changed -/
theorem wsO_set {g : Wg} {mem mem' : Mm} {t k i : Nat} (h : okO t k i = true) (hne : ∀ o : Rf, o ≠ (t, k, i) → mem' o = mem o) {c : va_E} (hc : cellO g mem' (t, k, i) = c) : (wsO g mem).set (ordO t k i) (adO g t k i, c) = wsO g mem' := by
  subst hc
  apply List.ext_getElem?
  intro n
  by_cases hn : n = ordO t k i
  · subst hn
    rw [wsO_at h]
    rw [List.getElem?_set_self (List.getElem?_eq_some_iff.mp (wsO_at (g := g) (mem := mem) h)).1]
  · rw [List.getElem?_set_ne (Ne.symm hn)]
    unfold wsO
    rw [List.getElem?_map, List.getElem?_map]
    cases ho : allR[n]? with
    | none => rfl
    | some o =>
      have h1 := allR_inj ho
      have h2 : o ≠ (t, k, i) := by
        intro e
        rw [e] at h1
        exact hn h1.symm
      show some (adO g o.1 o.2.1 o.2.2, cellO g mem o) = some (adO g o.1 o.2.1 o.2.2, cellO g mem' o)
      rw [cellO_congr (hne o h2)]
theorem fldO_get {g : Wg} {mem : Mm} {t k i n j : Nat} (h : j < n) : (fldO g mem t k i n)[j]? = some (vvO g (fvO mem t k i j)) := by
  unfold fldO
  rw [List.getElem?_map, List.getElem?_range h]
  rfl
theorem fldO_len {g : Wg} {mem : Mm} {t k i n : Nat} : (fldO g mem t k i n).length = n := by simp [fldO]
theorem fldO_set {g : Wg} {mem : Mm} {t k i n j : Nat} {x : Int32} (hr : refO t k j = none) (h : j < n) : (fldO g mem t k i n).set j (.int x) = fldO g (mset mem t k i j x) t k i n := by
  apply List.ext_getElem?
  intro m
  by_cases hm : m < n
  · rw [fldO_get hm]
    by_cases hj : m = j
    · subst hj
      rw [List.getElem?_set_self (by rw [fldO_len]; exact hm)]
      simp [fvO, hr, mset_at, upd, vvO]
    · rw [List.getElem?_set_ne (Ne.symm hj), fldO_get hm]
      simp [fvO, mset_at, upd, hj]
  · rw [List.getElem?_eq_none (by rw [List.length_set, fldO_len]; omega), List.getElem?_eq_none (by rw [fldO_len]; omega)]
theorem okV_ref {mem : Mm} {t k i j : Nat} (h : okO t k i = true) : okV (fvO mem t k i j) := by
  unfold fvO
  cases hr : refO t k j with
  | none => trivial
  | some r =>
    unfold refO at hr
    split at hr <;> (try cases hr) <;> (split at hr) <;> (try cases hr) <;> simp_all [okV, okR, okO]
theorem okV_el {t k i j : Nat} (h : okO t k i = true) (hq : isQ t = true) (hj : j < lenO t k) : okV (.inr (.inr (elO t k j))) := by
  unfold isQ at hq
  split at hq <;> simp_all [okV, okR, okO, elO, lenO, Nat.blt, Nat.ble_eq] <;> omega
