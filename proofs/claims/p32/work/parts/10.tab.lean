/-! a method's table, checked a row at a time -/
theorem fm_tab : ∀ (os : List Int) (sw : List (Int32 × Nat)) (pc : Nat) (lo : Int) (x : Int32) (d : Nat), (os.zip (List.range os.length)).length = os.length → sw.length = os.length → (∀ (i : Nat) (o : Int) (q : Int32 × Nat), os[i]? = some o → sw[i]? = some q → q.1.toInt = lo + i ∧ (pc : Int) + o = (q.2 : Int)) →
    ((x.toInt < lo ∨ lo + os.length ≤ x.toInt) → swT x sw d = d) ∧ (lo ≤ x.toInt → x.toInt < lo + os.length → ∃ off, os[(x.toInt - lo).toNat]? = some off ∧ (pc : Int) + off = (swT x sw d : Int)) := by
  intro os
  induction os with
  | nil =>
    intro sw pc lo x d _ hl _
    have hs : sw = [] := List.length_eq_zero_iff.mp hl
    subst hs
    exact ⟨fun _ => rfl, fun h1 h2 => by simp at h2; omega⟩
  | cons o os ih =>
    intro sw pc lo x d _ hl hc
    obtain _ | ⟨q, r⟩ := sw
    · cases hl
    · have h0 := hc 0 o q rfl rfl
      have ih2 := ih r pc (lo + 1) x d (by simp) (by simpa using hl) (fun i o2 q2 h1 h2 => by
        have h3 := hc (i + 1) o2 q2 (by simpa using h1) (by simpa using h2)
        refine ⟨?_, h3.2⟩
        rw [h3.1]
        push_cast
        omega)
      have hne : x.toInt ≠ lo → x ≠ q.1 := fun h e => h (by rw [e, h0.1]; simp)
      refine ⟨fun h => ?_, fun h1 h2 => ?_⟩
      · have hx : x ≠ q.1 := hne (by simp at h; omega)
        unfold swT
        rw [if_neg hx]
        exact ih2.1 (by simp at h; omega)
      · by_cases he : x.toInt = lo
        · have hx : x = q.1 := Int32.toInt_inj.mp (by rw [he, h0.1]; simp)
          refine ⟨o, by rw [he]; simp, ?_⟩
          unfold swT
          rw [if_pos hx]
          exact h0.2
        · obtain ⟨off, h3, h4⟩ := ih2.2 (by omega) (by simp at h2; omega)
          refine ⟨off, ?_, ?_⟩
          · rw [show (x.toInt - lo).toNat = (x.toInt - (lo + 1)).toNat + 1 by omega]
            simpa using h3
          · unfold swT
            rw [if_neg (hne he)]
            exact h4
def chkT (pc : Nat) (lo : Int) (os : List Int) (sw : List (Int32 × Nat)) : Bool := decide (sw.length = os.length) && (List.range os.length).all (fun i => match os[i]?, sw[i]? with
  | some o, some q => decide (q.1.toInt = lo + i) && decide ((pc : Int) + o = (q.2 : Int))
  | _, _ => false)
theorem sw_tab {pc : Nat} {dflt lo hi : Int} {offs : Array Int} {sw : List (Int32 × Nat)} {d : Nat} (h1 : chkT pc lo offs.toList sw = true) (h2 : hi = lo + offs.toList.length - 1) (h3 : (pc : Int) + dflt = (d : Int)) (x : Int32) :
    ((x.toInt < lo ∨ hi < x.toInt) ∧ (pc : Int) + dflt = (swT x sw d : Int)) ∨ (¬ x.toInt < lo ∧ ¬ hi < x.toInt ∧ ∃ off, offs[(x.toInt - lo).toNat]? = some off ∧ (pc : Int) + off = (swT x sw d : Int)) := by
  unfold chkT at h1
  simp only [Bool.and_eq_true, decide_eq_true_eq] at h1
  obtain ⟨h4, h5⟩ := h1
  have key := fm_tab offs.toList sw pc lo x d (by simp) h4 (fun i o q hi hq => by
    have h6 := List.all_eq_true.mp h5 i (List.mem_range.mpr (List.getElem?_eq_some_iff.mp hi).1)
    rw [hi, hq] at h6
    simpa using h6)
  by_cases hx : x.toInt < lo ∨ hi < x.toInt
  · exact Or.inl ⟨hx, by rw [key.1 (by omega)]; exact h3⟩
  · obtain ⟨off, h6, h7⟩ := key.2 (by omega) (by omega)
    exact Or.inr ⟨by omega, by omega, off, by rw [← Array.getElem?_toList]; exact h6, h7⟩
def chkL (pc : Nat) (ps : List (Int × Int)) (sw : List (Int32 × Nat)) : Bool := match ps, sw with
  | [], [] => true
  | p :: ps, q :: r => decide (q.1.toInt = p.1) && (decide ((pc : Int) + p.2 = (q.2 : Int)) && chkL pc ps r)
  | _, _ => false
theorem fm_lku {pc : Nat} {dflt : Int} {d : Nat} (h3 : (pc : Int) + dflt = (d : Int)) (x : Int32) : ∀ (ps : List (Int × Int)) (sw : List (Int32 × Nat)), chkL pc ps sw = true → (pc : Int) + Op.lookupswitch.offset ps dflt x.toInt = (swT x sw d : Int)
  | [], [], _ => by
    unfold swT
    rw [← h3]
    rfl
  | [], _ :: _, h => by cases h
  | _ :: _, [], h => by cases h
  | (a, o) :: ps, q :: r, h => by
    unfold chkL at h
    simp only [Bool.and_eq_true, decide_eq_true_eq] at h
    obtain ⟨h1, h2, h4⟩ := h
    rw [Op.lookupswitch.offset_cons]
    unfold swT
    by_cases hx : x = q.1
    · rw [if_pos hx, if_pos (by rw [hx, h1])]
      exact h2
    · rw [if_neg hx, if_neg (fun e => hx (Int32.toInt_inj.mp (by rw [h1]; exact e.symm)))]
      exact fm_lku h3 x ps r h4
theorem sw_lku {pc : Nat} {dflt : Int} {ps : Array (Int × Int)} {sw : List (Int32 × Nat)} {d : Nat} (h1 : chkL pc ps.toList sw = true) (h2 : (ps.toList.zip (ps.toList.drop 1)).all (fun (a, next) => a.1 < next.1) = true) (h3 : (pc : Int) + dflt = (d : Int)) :
    (ps.toList.zip (ps.toList.drop 1)).all (fun (a, next) => a.1 < next.1) = true ∧ ∀ x : Int32, (pc : Int) + Op.lookupswitch.offset ps.toList dflt x.toInt = (swT x sw d : Int) := ⟨h2, fun x => fm_lku h3 x _ _ h1⟩
def decA (h : Hd) (pc : Nat) (cd : List (Option En)) : Bool := match cd with
  | [] => true
  | none :: r => decA h (pc + 1) r
  | some en :: r => decide (decode (hB h) pc = .ok (eI en, lenI en)) && decA h (pc + 1) r
def xtA (h : Hd) (pc : Nat) (cd : List (Option En)) : Prop := match cd with
  | [] => True
  | none :: r => xtA h (pc + 1) r
  | some en :: r => xtE h en pc ∧ xtA h (pc + 1) r
theorem okCd_of0 {h : Hd} : ∀ (cd : List (Option En)) (n : Nat), decA h n cd = true → xtA h n cd → ∀ (pc : Nat) (en : En), cd[pc]? = some (some en) → okE h en (n + pc)
  | [], _, _, _, pc, en, hp => by simp at hp
  | none :: r, n, h1, h2, pc, en, hp => by
    cases pc with
    | zero => simp at hp
    | succ pc =>
      have := okCd_of0 r (n + 1) h1 h2 pc en (by simpa using hp)
      rw [show n + (pc + 1) = n + 1 + pc by omega]
      exact this
  | some e2 :: r, n, h1, h2, pc, en, hp => by
    unfold decA at h1
    simp only [Bool.and_eq_true, decide_eq_true_eq] at h1
    cases pc with
    | zero =>
      have he : e2 = en := by simpa using hp
      subst he
      exact ⟨h1.1, h2.1⟩
    | succ pc =>
      have := okCd_of0 r (n + 1) h1.2 h2.2 pc en (by simpa using hp)
      rw [show n + (pc + 1) = n + 1 + pc by omega]
      exact this
theorem okCd_of {h : Hd} {cd : List (Option En)} (h1 : decA h 0 cd = true) (h2 : xtA h 0 cd) : okCd h cd := fun pc en hp => by
  have := okCd_of0 cd 0 h1 h2 pc en hp
  rw [Nat.zero_add] at this
  exact this
abbrev e0 (i : Instr) : Option En := some (i, 0, 0, vI 0, noH, [])
abbrev e1 (i : Instr) (a : Nat) : Option En := some (i, a, 0, vI 0, noH, [])
abbrev e2 (i : Instr) (a b : Nat) : Option En := some (i, a, b, vI 0, noH, [])
abbrev eK (i : Instr) (c : Vl) : Option En := some (i, 0, 0, c, noH, [])
abbrev e1K (i : Instr) (a : Nat) (c : Vl) : Option En := some (i, a, 0, c, noH, [])
abbrev eM (i : Instr) (a b : Nat) (h : Hd) : Option En := some (i, a, b, vI 0, h, [])
abbrev eW (i : Instr) (a b : Nat) (sw : List (Int32 × Nat)) : Option En := some (i, a, b, vI 0, noH, sw)
