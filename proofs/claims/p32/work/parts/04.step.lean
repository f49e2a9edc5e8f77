/-! THE SMALL MACHINE'S STEP, and that it says the truth of the machine -/
/-- a row of a method's table: the instruction; two numbers; a constant; a callee; a switch -/
abbrev En : Type := Instr × Nat × Nat × Vl × Hd × List (Int32 × Nat)
abbrev eI (e : En) : Instr := e.1
abbrev eA (e : En) : Nat := e.2.1
abbrev eB (e : En) : Nat := e.2.2.1
abbrev eC (e : En) : Vl := e.2.2.2.1
abbrev eH (e : En) : Hd := e.2.2.2.2.1
abbrev eS (e : En) : List (Int32 × Nat) := e.2.2.2.2.2
def noH : Hd := (⟨"", "", ""⟩, ⟨#[]⟩, 0, none, 0, 0, 0)
abbrev Lc : Type := List (Nat × Vl)
def lkL (L : Lc) (a : Nat) : Option Vl := match L with
  | [] => none
  | q :: r => match Nat.beq q.1 a with
    | true => some q.2
    | false => lkL r a
def isJ (v : Vl) : Bool := match v with
  | .inr (.inl _) => true
  | _ => false
def st1 (L : Lc) (a : Nat) (v : Vl) : Lc := (a, v) :: L.filter (fun q => !(Nat.beq q.1 a) && !(Nat.beq (q.1 + 1) a && isJ q.2))
def st2 (L : Lc) (a : Nat) (v : Vl) : Lc := (a, v) :: L.filter (fun q => !(Nat.beq q.1 a) && (!(Nat.beq q.1 (a + 1)) && !(Nat.beq (q.1 + 1) a && isJ q.2)))
def pI (S : List Vl) (F : Int32 → List Vl → Prop) : Prop := match S with
  | .inl x :: r => F x r
  | _ => False
def pJ (S : List Vl) (F : Int64 → List Vl → Prop) : Prop := match S with
  | .inr (.inl x) :: r => F x r
  | _ => False
def pO (S : List Vl) (F : Nat → Nat → Nat → List Vl → Prop) : Prop := match S with
  | .inr (.inr (t, k, i)) :: r => F t k i r
  | _ => False
/-- one of one word -/
def p1 (S : List Vl) (F : Vl → List Vl → Prop) : Prop := match S with
  | .inl x :: r => F (.inl x) r
  | .inr (.inr o) :: r => F (.inr (.inr o)) r
  | _ => False
def cI (v : Option Vl) (F : Int32 → Prop) : Prop := match v with
  | some (.inl x) => F x
  | _ => False
def cJ (v : Option Vl) (F : Int64 → Prop) : Prop := match v with
  | some (.inr (.inl x)) => F x
  | _ => False
def cO (v : Option Vl) (F : Nat → Nat → Nat → Prop) : Prop := match v with
  | some (.inr (.inr (t, k, i))) => F t k i
  | _ => False
def bt (b : Bool) (P : Prop) : Prop := match b with
  | true => P
  | false => False
def brk (c : Jvm.ClassFile.Cond) (x y : Int32) (A B : Prop) : Prop := match c with
  | .eq => (x = y → A) ∧ (¬ x = y → B)
  | .ne => (¬ x = y → A) ∧ (x = y → B)
  | .lt => (x < y → A) ∧ (¬ x < y → B)
  | .ge => (y ≤ x → A) ∧ (¬ y ≤ x → B)
  | .gt => (y < x → A) ∧ (¬ y < x → B)
  | .le => (x ≤ y → A) ∧ (¬ x ≤ y → B)
def swc (x : Int32) (sw : List (Int32 × Nat)) (d : Nat) (F : Nat → Prop) : Prop := match sw with
  | [] => F d
  | q :: r => (x = q.1 → F q.2) ∧ (¬ x = q.1 → swc x r d F)
/-- what a field of a type may hold -/
def nrC (ty : FieldType) (x : Int32) (P : Prop) : Prop := match ty with
  | .boolean => (x = 0 ∨ x = 1) ∧ P
  | .char => (0 ≤ x ∧ x ≤ 65535) ∧ P
  | _ => P
def okF (t ci j : Nat) : Bool := Nat.beq (ciO t) ci && Nat.blt j (nfO ci)
def catV (v : Vl) : Nat := match v with
  | .inr (.inl _) => 2
  | _ => 1
def catS (S : List Vl) : Nat := match S with
  | [] => 0
  | v :: r => catV v + catS r
/-- what an answer of a type may be -/
def rtC (ty : Option FieldType) (x : Int32) (P : Prop) : Prop := match ty with
  | some .int => P
  | some .boolean => (x = 0 ∨ x = 1) ∧ P
  | some .char => (0 ≤ x ∧ x ≤ 65535) ∧ P
  | some .byte => x = 0 ∧ P
  | _ => False
def vtC (ty : Option FieldType) (P : Prop) : Prop := match ty with
  | none => P
  | _ => False
def atC (ty : Option FieldType) (P : Prop) : Prop := match ty with
  | some (.object _) => P
  | _ => False
def callO (g : Wg) (h : Hd) (as : List Vl) (mem : Mm) (pc : Nat) (L : Lc) (S : List Vl) (K : Nat → Lc → List Vl → Mm → Prop) : Prop := match hR h with
  | none => Runs g h as mem (fun r m' => r = none ∧ K pc L S m')
  | some (.object _) => Runs g h as mem (fun r m' => ∃ t k i, r = some (vO t k i) ∧ K pc L (vO t k i :: S) m')
  | some _ => Runs g h as mem (fun r m' => ∃ x, r = some (vI x) ∧ K pc L (vI x :: S) m')
def stp (g : Wg) (h : Hd) (Q : Option Vl → Mm → Prop) (K : Nat → Lc → List Vl → Mm → Prop) (e : En) (pc : Nat) (L : Lc) (S : List Vl) (mem : Mm) : Prop := match eI e with
  | .iconst _ => cI (some (eC e)) fun x => K (pc + 1) L (vI x :: S) mem
  | .bipush _ => cI (some (eC e)) fun x => K (pc + 2) L (vI x :: S) mem
  | .sipush _ => cI (some (eC e)) fun x => K (pc + 3) L (vI x :: S) mem
  | .ldc_w _ => cI (some (eC e)) fun x => K (pc + 3) L (vI x :: S) mem
  | .ldc2_w _ => cJ (some (eC e)) fun x => K (pc + 3) L (vJ x :: S) mem
  | .lconst _ => cJ (some (eC e)) fun x => K (pc + 1) L (vJ x :: S) mem
  | .ldc _ => cI (some (eC e)) fun x => K (pc + 2) L (vI x :: S) mem
  | .aconst_null => K (pc + 1) L (vO 0 0 0 :: S) mem
  | .iload _ => cI (lkL L (eA e)) fun x => K (pc + 2) L (vI x :: S) mem
  | .iload_n _ => cI (lkL L (eA e)) fun x => K (pc + 1) L (vI x :: S) mem
  | .lload _ => cJ (lkL L (eA e)) fun x => K (pc + 2) L (vJ x :: S) mem
  | .lload_n _ => cJ (lkL L (eA e)) fun x => K (pc + 1) L (vJ x :: S) mem
  | .aload _ => cO (lkL L (eA e)) fun t k i => K (pc + 2) L (vO t k i :: S) mem
  | .aload_n _ => cO (lkL L (eA e)) fun t k i => K (pc + 1) L (vO t k i :: S) mem
  | .istore _ => pI S fun x S => K (pc + 2) (st1 L (eA e) (vI x)) S mem
  | .istore_n _ => pI S fun x S => K (pc + 1) (st1 L (eA e) (vI x)) S mem
  | .lstore _ => pJ S fun x S => K (pc + 2) (st2 L (eA e) (vJ x)) S mem
  | .lstore_n _ => pJ S fun x S => K (pc + 1) (st2 L (eA e) (vJ x)) S mem
  | .astore _ => pO S fun t k i S => K (pc + 2) (st1 L (eA e) (vO t k i)) S mem
  | .astore_n _ => pO S fun t k i S => K (pc + 1) (st1 L (eA e) (vO t k i)) S mem
  | .iinc _ _ => cI (lkL L (eA e)) fun x => cI (some (eC e)) fun c => K (pc + 3) (st1 L (eA e) (vI (x + c))) S mem
  | .iadd => pI S fun y S => pI S fun x S => K (pc + 1) L (vI (x + y) :: S) mem
  | .isub => pI S fun y S => pI S fun x S => K (pc + 1) L (vI (x - y) :: S) mem
  | .imul => pI S fun y S => pI S fun x S => K (pc + 1) L (vI (x * y) :: S) mem
  | .iand => pI S fun y S => pI S fun x S => K (pc + 1) L (vI (x &&& y) :: S) mem
  | .ior => pI S fun y S => pI S fun x S => K (pc + 1) L (vI (x ||| y) :: S) mem
  | .ixor => pI S fun y S => pI S fun x S => K (pc + 1) L (vI (x ^^^ y) :: S) mem
  | .idiv => pI S fun y S => pI S fun x S => (¬ y = 0) ∧ K (pc + 1) L (vI (x / y) :: S) mem
  | .irem => pI S fun y S => pI S fun x S => (¬ y = 0) ∧ K (pc + 1) L (vI (x - x / y * y) :: S) mem
  | .ishl => pI S fun y S => pI S fun x S => K (pc + 1) L (vI (x <<< (y &&& 31)) :: S) mem
  | .ishr => pI S fun y S => pI S fun x S => K (pc + 1) L (vI (x >>> (y &&& 31)) :: S) mem
  | .iushr => pI S fun y S => pI S fun x S => K (pc + 1) L (vI (x.toUInt32 >>> (y.toUInt32 &&& Int32.toUInt32 31)).toInt32 :: S) mem
  | .land => pJ S fun y S => pJ S fun x S => K (pc + 1) L (vJ (x &&& y) :: S) mem
  | .lor => pJ S fun y S => pJ S fun x S => K (pc + 1) L (vJ (x ||| y) :: S) mem
  | .lushr => pI S fun y S => pJ S fun x S => K (pc + 1) L (vJ (x.toUInt64 >>> (y.toInt64.toUInt64 &&& Int64.toUInt64 63)).toInt64 :: S) mem
  | .lshl => pI S fun y S => pJ S fun x S => K (pc + 1) L (vJ (x <<< (y.toInt64 &&& 63)) :: S) mem
  | .lcmp => pJ S fun y S => pJ S fun x S => K (pc + 1) L (vI (lg_cmp x y) :: S) mem
  | .l2i => pJ S fun x S => K (pc + 1) L (vI x.toInt32 :: S) mem
  | .i2l => pI S fun x S => K (pc + 1) L (vJ x.toInt64 :: S) mem
  | .i2c => pI S fun x S => K (pc + 1) L (vI (x.toUInt32 % 65536).toInt32 :: S) mem
  | .dup => p1 S fun v S => K (pc + 1) L (v :: v :: S) mem
  | .pop => p1 S fun _ S => K (pc + 1) L S mem
  | .dup_x1 => p1 S fun v S => p1 S fun w S => K (pc + 1) L (v :: w :: v :: S) mem
  | .dup2 => p1 S fun v S => p1 S fun w S => K (pc + 1) L (v :: w :: v :: w :: S) mem
  | .ifCond c _ => pI S fun x S => brk c x 0 (K (eA e) L S mem) (K (pc + 3) L S mem)
  | .if_icmp c _ => pI S fun y S => pI S fun x S => brk c x y (K (eA e) L S mem) (K (pc + 3) L S mem)
  | .goto _ => K (eA e) L S mem
  | .ifnonnull _ => pO S fun t _ _ S => match t with
    | 0 => K (pc + 3) L S mem
    | 25 => False
    | _ => K (eA e) L S mem
  | .tableswitch .. => pI S fun x S => swc x (eS e) (eA e) (fun t => K t L S mem)
  | .lookupswitch .. => pI S fun x S => swc x (eS e) (eA e) (fun t => K t L S mem)
  | .getfield _ => pO S fun t k i S => bt (okF t (eA e) (eB e)) (K (pc + 3) L (fvO mem t k i (eB e) :: S) mem)
  | .putfield _ => pI S fun x S => pO S fun t k i S => bt (okF t (eA e) (eB e) && (refO t k (eB e)).isNone) (nrC (clsF (eA e) (eB e)) x (K (pc + 3) L S (mset mem t k i (eB e) x)))
  | .getstatic _ => K (pc + 3) L (eC e :: S) mem
  | .aaload => pI S fun x S => pO S fun t k _ S => bt (isQ t) (vp_in x (lenO t k) ∧ K (pc + 1) L (.inr (.inr (elO t k x.toNatClampNeg)) :: S) mem)
  | .iaload => pI S fun x S => pO S fun t k i S => match t with
    | 20 => vp_in x (gX g).2.1 ∧ K (pc + 1) L (vI ((gX g).2.2 x.toNatClampNeg) :: S) mem
    | 22 => vp_in x 5 ∧ K (pc + 1) L (vI (staV k x.toNatClampNeg) :: S) mem
    | t => bt (isP t) (vp_in x (lenO t k) ∧ K (pc + 1) L (vI (mem (t, k, i) x.toNatClampNeg) :: S) mem)
  | .iastore => pI S fun v S => pI S fun x S => pO S fun t k i S => bt (isP t) (vp_in x (lenO t k) ∧ K (pc + 1) L S (mset mem t k i x.toNatClampNeg v))
  | .baload => pI S fun x S => pO S fun t k i S => bt (isZ t) (vp_in x (lenO t k) ∧ K (pc + 1) L (vI (mem (t, k, i) x.toNatClampNeg) :: S) mem)
  | .bastore => pI S fun v S => pI S fun x S => pO S fun t k i S => bt (isZ t) (vp_in x (lenO t k) ∧ K (pc + 1) L S (mset mem t k i x.toNatClampNeg (vp_nar .boolean v)))
  | .caload => pI S fun x S => pO S fun t k i S => bt (Nat.beq t 15) (vp_in x (lenO t k) ∧ K (pc + 1) L (vI (mem (t, k, i) x.toNatClampNeg) :: S) mem)
  | .castore => pI S fun v S => pI S fun x S => pO S fun t k i S => bt (Nat.beq t 15) (vp_in x (lenO t k) ∧ K (pc + 1) L S (mset mem t k i x.toNatClampNeg (vp_nar .char v)))
  | .arraylength => pO S fun t k _ S => match t with
    | 20 => K (pc + 1) L (vI (Int32.ofNat (gX g).2.1) :: S) mem
    | t => bt (isP t || isQ t) (K (pc + 1) L (vI (Int32.ofNat (lenO t k)) :: S) mem)
  | .invokevirtual _ => bt (Nat.ble (eB e) S.length && Nat.ble (catS (S.drop (eB e))) 8) (match (S.take (eB e)).reverse with
    | .inr (.inr (t, k, i)) :: as => bt (Nat.beq (ciO t) (eA e) && Nat.blt (eA e) 7) (callO g (eH e) (vO t k i :: as) mem (pc + 3) L (S.drop (eB e)) K)
    | _ => False)
  | .invokestatic _ => match eA e with
    | 7 => pI S fun y S => pI S fun x S => bt (Nat.ble (catS S) 8) (K (pc + 3) L (vI (if x < y then y else x) :: S) mem)
    | 8 => pI S fun y S => pI S fun x S => bt (Nat.ble (catS S) 8) (K (pc + 3) L (vI (if y < x then y else x) :: S) mem)
    | 9 => pI S fun n S => pI S fun dp S => pO S fun t' k' i' S => pI S fun sp S => pO S fun t k i S => bt (Nat.beq t 3 && Nat.beq t' 3 && Nat.ble (catS S) 8) ((sp = 0 ∧ dp = 0 ∧ n = 5) ∧ K (pc + 3) L S (fun o => if o = (t', k', i') then va_cpy (mem (t, k, i)) (mem (t', k', i')) 0 0 5 else mem o))
    | _ => bt (Nat.ble (eB e) S.length && Nat.ble (catS (S.drop (eB e))) 8) (callO g (eH e) (S.take (eB e)).reverse mem (pc + 3) L (S.drop (eB e)) K)
  | .ireturn => pI S fun x S => match S with
    | [] => rtC (hR h) x (Q (some (vI x)) mem)
    | _ => False
  | .areturn => pO S fun t k i S => match S with
    | [] => bt (Nat.beq t 0) (atC (hR h) (Q (some (vO t k i)) mem))
    | _ => False
  | .return_ => match S with
    | [] => vtC (hR h) (Q none mem)
    | _ => False
  | _ => False
/-- from a place of a method on, as deep as n steps or to the next cut: then K -/
def go (g : Wg) (h : Hd) (Q : Option Vl → Mm → Prop) (cd : List (Option En)) (cut : List Nat) (K : Nat → Lc → List Vl → Mm → Prop) : Nat → Bool → Nat → Lc → List Vl → Mm → Prop
  | 0, _, pc, L, S, mem => K pc L S mem
  | n + 1, b, pc, L, S, mem => match b && cut.any (fun q => Nat.beq q pc) with
    | true => K pc L S mem
    | false => match cd[pc]? with
      | some (some e) => stp g h Q (go g h Q cd cut K n true) e pc L S mem
      | _ => False
