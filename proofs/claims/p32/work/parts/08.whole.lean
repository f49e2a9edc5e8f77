/-! what a method's table must say of the bytes and of the tables; the whole step; from the small machine to a contract -/
def lenI (en : En) : Nat := match eI en with
  | .bipush _ => 2
  | .sipush _ => 3
  | .ldc_w _ => 3
  | .ldc2_w _ => 3
  | .ldc _ => 2
  | .iload _ => 2
  | .lload _ => 2
  | .aload _ => 2
  | .istore _ => 2
  | .lstore _ => 2
  | .astore _ => 2
  | .iinc _ _ => 3
  | .ifCond _ _ => 3
  | .if_icmp _ _ => 3
  | .goto _ => 3
  | .ifnonnull _ => 3
  | .getfield _ => 3
  | .putfield _ => 3
  | .getstatic _ => 3
  | .invokevirtual _ => 3
  | .invokestatic _ => 3
  | .tableswitch .. => eB en
  | .lookupswitch .. => eB en
  | _ => 1
def swT (x : Int32) (sw : List (Int32 × Nat)) (d : Nat) : Nat := match sw with
  | [] => d
  | q :: r => if x = q.1 then q.2 else swT x r d
theorem swc_T {x : Int32} {d : Nat} {F : Nat → Prop} : ∀ {sw : List (Int32 × Nat)}, swc x sw d F → F (swT x sw d)
  | [], h => h
  | q :: r, h => by
    unfold swT
    by_cases hx : x = q.1
    · rw [if_pos hx]
      exact h.1 hx
    · rw [if_neg hx]
      exact swc_T (h.2 hx)
def LkF (own : String) (idx ci j : Nat) : Prop := InT (.fieldLink own idx (clsT ci j).1 (clsT ci j).2.1 (clsT ci j).2.2.1)
def xtE (h : Hd) (en : En) (pc : Nat) : Prop := match eI en with
  | .iconst n => eC en = vI (Int32.ofInt n)
  | .bipush n => eC en = vI (Int8.ofInt n).toInt32
  | .sipush n => eC en = vI (Int16.ofInt n).toInt32
  | .lconst n => eC en = vJ (Int64.ofNat n)
  | .ldc_w n => ∃ x, eC en = vI x ∧ InT (.constant (hY h).cls n x)
  | .ldc2_w n => ∃ x, eC en = vJ x ∧ InT (.constantLong (hY h).cls n x)
  | .ldc n => ∃ x, eC en = vI x ∧ InT (.constant (hY h).cls n x)
  | .iload a => a = eA en
  | .lload a => a = eA en
  | .aload a => a = eA en
  | .iload_n n => (n : Nat) = eA en
  | .lload_n n => (n : Nat) = eA en
  | .aload_n n => (n : Nat) = eA en
  | .istore a => a = eA en ∧ eA en < hM h
  | .astore a => a = eA en ∧ eA en < hM h
  | .lstore a => a = eA en ∧ eA en + 1 < hM h
  | .istore_n n => (n : Nat) = eA en ∧ eA en < hM h
  | .astore_n n => (n : Nat) = eA en ∧ eA en < hM h
  | .lstore_n n => (n : Nat) = eA en ∧ eA en + 1 < hM h
  | .iinc a n => a = eA en ∧ eA en < hM h ∧ eC en = vI (Int32.ofInt n)
  | .ifCond _ off => (pc : Int) + off = (eA en : Int)
  | .if_icmp _ off => (pc : Int) + off = (eA en : Int)
  | .goto off => (pc : Int) + off = (eA en : Int)
  | .ifnonnull off => (pc : Int) + off = (eA en : Int)
  | .tableswitch dflt lo hi offs => ∀ x : Int32, ((x.toInt < lo ∨ hi < x.toInt) ∧ (pc : Int) + dflt = (swT x (eS en) (eA en) : Int)) ∨ (¬ x.toInt < lo ∧ ¬ hi < x.toInt ∧ ∃ off, offs[(x.toInt - lo).toNat]? = some off ∧ (pc : Int) + off = (swT x (eS en) (eA en) : Int))
  | .lookupswitch dflt ps => (ps.toList.zip (ps.toList.drop 1)).all (fun (a, next) => a.1 < next.1) = true ∧ ∀ x : Int32, (pc : Int) + Op.lookupswitch.offset ps.toList dflt x.toInt = (swT x (eS en) (eA en) : Int)
  | .getfield idx => eA en < 7 ∧ LkF (hY h).cls idx (eA en) (eB en)
  | .putfield idx => (clsT (eA en) (eB en)).2.2.2 = false ∧ LkF (hY h).cls idx (eA en) (eB en)
  | .getstatic idx => (eC en = vO 22 0 0 ∧ ∃ host, InT (.fieldLinkNest (hY h).cls idx "NurseryPlaces" "LOWEST_SETTING" "[I" host)) ∨ (eC en = vO 22 1 0 ∧ ∃ host, InT (.fieldLinkNest (hY h).cls idx "NurseryPlaces" "HIGHEST_SETTING" "[I" host))
  | .invokevirtual idx => HdOk (eH en) (eB en - 1) ∧ 0 < eB en ∧ hF (eH en) + 1 ≤ hF h ∧ 8 + (hM (eH en) + 11) + hL (eH en) ≤ hL h ∧ InT (.methodLink (hY h).cls idx (hY (eH en))) ∧ InT (.instanceMethod (hY (eH en))) ∧ InT (.selects (hY (eH en)).cls (hY (eH en)) (hY (eH en))) ∧ (eA en < 7 ∧ (hY (eH en)).cls = clsN (eA en))
  | .invokestatic idx => (eA en = 9 ∧ InT (.methodLink (hY h).cls idx arraycopyName) ∧ 1 ≤ hF h ∧ 8 + (nativeFrameWords "java/lang/System" "arraycopy" 5 + 11) ≤ hL h) ∨ (eA en = 7 ∧ InT (.methodLink (hY h).cls idx Lib.Math.max.name) ∧ 1 ≤ hF h ∧ 21 ≤ hL h) ∨ (eA en = 8 ∧ InT (.methodLink (hY h).cls idx Lib.Math.min.name) ∧ 1 ≤ hF h ∧ 21 ≤ hL h) ∨ (eA en = 0 ∧ HdOk (eH en) (eB en) ∧ hF (eH en) + 1 ≤ hF h ∧ 8 + (hM (eH en) + 11) + hL (eH en) ≤ hL h ∧ (InT (.methodLink (hY h).cls idx (hY (eH en))) ∨ ∃ host, InT (.methodLinkNest (hY h).cls idx (hY (eH en)) host)) ∧ InT (.static (hY (eH en))))
  | _ => True
def okE (h : Hd) (en : En) (pc : Nat) : Prop := decode (hB h) pc = .ok (eI en, lenI en) ∧ xtE h en pc
theorem pI_el {S : List Vl} {F : Int32 → List Vl → Prop} (h : pI S F) : ∃ x r, S = vI x :: r ∧ F x r := by
  obtain _ | ⟨x | x | x, r⟩ := S <;> first | exact ⟨_, _, rfl, h⟩ | exact h.elim
theorem pJ_el {S : List Vl} {F : Int64 → List Vl → Prop} (h : pJ S F) : ∃ x r, S = vJ x :: r ∧ F x r := by
  obtain _ | ⟨x | x | x, r⟩ := S <;> first | exact ⟨_, _, rfl, h⟩ | exact h.elim
theorem pO_el {S : List Vl} {F : Nat → Nat → Nat → List Vl → Prop} (h : pO S F) : ∃ t k i r, S = vO t k i :: r ∧ F t k i r := by
  obtain _ | ⟨x | x | ⟨t, k, i⟩, r⟩ := S <;> first | exact ⟨_, _, _, _, rfl, h⟩ | exact h.elim
theorem p1_el {S : List Vl} {F : Vl → List Vl → Prop} (h : p1 S F) : ∃ v r, S = v :: r ∧ catV v = 1 ∧ F v r := by
  obtain _ | ⟨x | x | ⟨t, k, i⟩, r⟩ := S <;> first | exact ⟨_, _, rfl, rfl, h⟩ | exact h.elim
theorem cI_el {v : Option Vl} {F : Int32 → Prop} (h : cI v F) : ∃ x, v = some (vI x) ∧ F x := by
  obtain _ | x | x | x := v <;> first | exact ⟨_, rfl, h⟩ | exact h.elim
theorem cJ_el {v : Option Vl} {F : Int64 → Prop} (h : cJ v F) : ∃ x, v = some (vJ x) ∧ F x := by
  obtain _ | x | x | x := v <;> first | exact ⟨_, rfl, h⟩ | exact h.elim
theorem cO_el {v : Option Vl} {F : Nat → Nat → Nat → Prop} (h : cO v F) : ∃ t k i, v = some (vO t k i) ∧ F t k i := by
  obtain _ | x | x | ⟨t, k, i⟩ := v <;> first | exact ⟨_, _, _, rfl, h⟩ | exact h.elim
theorem bt_el {b : Bool} {P : Prop} (h : bt b P) : b = true ∧ P := by
  cases b
  · exact h.elim
  · exact ⟨rfl, h⟩
theorem brk_map {c : Jvm.ClassFile.Cond} {x y : Int32} {A B A' B' : Prop} (h : brk c x y A B) (ha : A → A') (hb : B → B') : brk c x y A' B' := by
  cases c <;> exact ⟨fun q => ha (h.1 q), fun q => hb (h.2 q)⟩
theorem InT_nat : InT (.native arraycopyName) ∧ InT (.static arraycopyName) ∧ InT (.initialized "java/lang/System") := ⟨InT.of 327 rfl rfl, InT.of 326 rfl rfl, InT.of 8 rfl rfl⟩
set_option maxRecDepth 100000 in
theorem InT_max : InT (.static Lib.Math.max.name) ∧ InT (.code Lib.Math.max.name Lib.Math.max.code 2 (some .int)) := ⟨InT.of 474 rfl rfl, InT.of 475 rfl rfl⟩
set_option maxRecDepth 100000 in
theorem InT_min : InT (.static Lib.Math.min.name) ∧ InT (.code Lib.Math.min.name Lib.Math.min.code 2 (some .int)) := ⟨InT.of 431 rfl rfl, InT.of 432 rfl rfl⟩
theorem InT_mi : InT (.initialized "java/lang/Math") := InT.of 11 rfl rfl
section SNS
variable {g : Wg} {h : Hd} {Q : Option Vl → Mm → Prop} {p : Program} {e : Env} {R : Room} {s : State} {m : MethodId} {args : Array Value} {below : List Frame} {meth : Method} {c : Code} {cells slots : Nat} {Z : State → Prop} {pc : Nat} {L : Lc} {S : List Vl} {mem : Mm}
set_option maxHeartbeats 4000000 in
theorem stp_sound (C : Okc g h Q p e R s m args below meth c cells slots Z) {K : Nat → Lc → List Vl → Mm → Prop} (hk : ∀ pc L S mem, K pc L S mem → AtO g h p e R s m args below meth c cells slots Z pc L S mem) {en : En} (ho : okE h en pc) (hs : stp g h Q K en pc L S mem) : AtO g h p e R s m args below meth c cells slots Z pc L S mem := by
  obtain ⟨hd, hx⟩ := ho
  obtain ⟨ins, a, b, cst, hd2, sw⟩ := en
  cases ins <;> try exact False.elim hs
  case iconst n =>
    obtain ⟨x, hx2, z1⟩ := cI_el (hs : cI _ _)
    have hx3 : cst = _ := hx
    rw [hx3] at hx2
    cases hx2
    exact s_iconst C hd rfl (hk _ _ _ _ z1)
  case bipush n =>
    obtain ⟨x, hx2, z1⟩ := cI_el (hs : cI _ _)
    have hx3 : cst = _ := hx
    rw [hx3] at hx2
    cases hx2
    exact s_bipush C hd rfl (hk _ _ _ _ z1)
  case sipush n =>
    obtain ⟨x, hx2, z1⟩ := cI_el (hs : cI _ _)
    have hx3 : cst = _ := hx
    rw [hx3] at hx2
    cases hx2
    exact s_sipush C hd rfl (hk _ _ _ _ z1)
  case lconst n =>
    obtain ⟨x, hx2, z1⟩ := cJ_el (hs : cJ _ _)
    have hx3 : cst = _ := hx
    rw [hx3] at hx2
    cases hx2
    exact s_lconst C hd rfl (hk _ _ _ _ z1)
  case ldc_w n =>
    obtain ⟨x, hx2, z1⟩ := cI_el (hs : cI _ _)
    obtain ⟨y, hy, hw⟩ := hx
    have hy : cst = vI y := hy
    rw [hy] at hx2
    cases hx2
    exact s_ldcw C hd hw (hk _ _ _ _ z1)
  case ldc2_w n =>
    obtain ⟨x, hx2, z1⟩ := cJ_el (hs : cJ _ _)
    obtain ⟨y, hy, hw⟩ := hx
    have hy : cst = vJ y := hy
    rw [hy] at hx2
    cases hx2
    exact s_ldc2 C hd hw (hk _ _ _ _ z1)
  case ldc n =>
    obtain ⟨x, hx2, z1⟩ := cI_el (hs : cI _ _)
    obtain ⟨y, hy, hw⟩ := hx
    have hy : cst = vI y := hy
    rw [hy] at hx2
    cases hx2
    exact s_ldc C hd hw (hk _ _ _ _ z1)
  case aconst_null  =>
    exact s_null C hd (hk _ _ _ _ hs)
  case iload n =>
    obtain ⟨x, hx2, hz⟩ := cI_el (hs : cI _ _)
    have hx3 : n = a := hx
    subst hx3
    exact s_iload C hd hx2 (hk _ _ _ _ hz)
  case iload_n n =>
    obtain ⟨x, hx2, z1⟩ := cI_el (hs : cI _ _)
    exact s_iload_n C hd hx hx2 (hk _ _ _ _ z1)
  case lload n =>
    obtain ⟨x, hx2, hz⟩ := cJ_el (hs : cJ _ _)
    have hx3 : n = a := hx
    subst hx3
    exact s_lload C hd hx2 (hk _ _ _ _ hz)
  case lload_n n =>
    obtain ⟨x, hx2, z1⟩ := cJ_el (hs : cJ _ _)
    exact s_lload_n C hd hx hx2 (hk _ _ _ _ z1)
  case aload n =>
    obtain ⟨t, k, i, hx2, hz⟩ := cO_el (hs : cO _ _)
    have hx3 : n = a := hx
    subst hx3
    exact s_aload C hd hx2 (hk _ _ _ _ hz)
  case aload_n n =>
    obtain ⟨t, k, i, hx2, z1⟩ := cO_el (hs : cO _ _)
    exact s_aload_n C hd hx hx2 (hk _ _ _ _ z1)
  case istore n =>
    obtain ⟨x, r, rfl, z1⟩ := pI_el (hs : pI _ _)
    obtain ⟨h1, h2⟩ := hx
    have hx3 : n = a := h1
    subst hx3
    exact s_istore C hd h2 (hk _ _ _ _ z1)
  case istore_n n =>
    obtain ⟨x, r, rfl, z1⟩ := pI_el (hs : pI _ _)
    obtain ⟨h1, h2⟩ := hx
    exact s_istore_n C hd h1 h2 (hk _ _ _ _ z1)
  case lstore n =>
    obtain ⟨x, r, rfl, z1⟩ := pJ_el (hs : pJ _ _)
    obtain ⟨h1, h2⟩ := hx
    have hx3 : n = a := h1
    subst hx3
    exact s_lstore C hd h2 (hk _ _ _ _ z1)
  case lstore_n n =>
    obtain ⟨x, r, rfl, z1⟩ := pJ_el (hs : pJ _ _)
    obtain ⟨h1, h2⟩ := hx
    exact s_lstore_n C hd h1 h2 (hk _ _ _ _ z1)
  case astore n =>
    obtain ⟨t, k, i, r, rfl, z1⟩ := pO_el (hs : pO _ _)
    obtain ⟨h1, h2⟩ := hx
    have hx3 : n = a := h1
    subst hx3
    exact s_astore C hd h2 (hk _ _ _ _ z1)
  case astore_n n =>
    obtain ⟨t, k, i, r, rfl, z1⟩ := pO_el (hs : pO _ _)
    obtain ⟨h1, h2⟩ := hx
    exact s_astore_n C hd h1 h2 (hk _ _ _ _ z1)
  case iinc n z =>
    obtain ⟨x, hx2, z1⟩ := cI_el (hs : cI _ _)
    obtain ⟨y, hy2, z2⟩ := cI_el z1
    obtain ⟨h1, h2, h3⟩ := hx
    have hx3 : n = a := h1
    subst hx3
    have h3 : cst = _ := h3
    rw [h3] at hy2
    cases hy2
    exact s_iinc C hd hx2 rfl h2 (hk _ _ _ _ z2)
  case iadd  =>
    obtain ⟨y, r, rfl, z1⟩ := pI_el (hs : pI _ _)
    obtain ⟨x, r, rfl, z2⟩ := pI_el z1
    exact s_iadd C hd (hk _ _ _ _ z2)
  case isub  =>
    obtain ⟨y, r, rfl, z1⟩ := pI_el (hs : pI _ _)
    obtain ⟨x, r, rfl, z2⟩ := pI_el z1
    exact s_isub C hd (hk _ _ _ _ z2)
  case imul  =>
    obtain ⟨y, r, rfl, z1⟩ := pI_el (hs : pI _ _)
    obtain ⟨x, r, rfl, z2⟩ := pI_el z1
    exact s_imul C hd (hk _ _ _ _ z2)
  case iand  =>
    obtain ⟨y, r, rfl, z1⟩ := pI_el (hs : pI _ _)
    obtain ⟨x, r, rfl, z2⟩ := pI_el z1
    exact s_iand C hd (hk _ _ _ _ z2)
  case ior  =>
    obtain ⟨y, r, rfl, z1⟩ := pI_el (hs : pI _ _)
    obtain ⟨x, r, rfl, z2⟩ := pI_el z1
    exact s_ior C hd (hk _ _ _ _ z2)
  case ixor  =>
    obtain ⟨y, r, rfl, z1⟩ := pI_el (hs : pI _ _)
    obtain ⟨x, r, rfl, z2⟩ := pI_el z1
    exact s_ixor C hd (hk _ _ _ _ z2)
  case ishl  =>
    obtain ⟨y, r, rfl, z1⟩ := pI_el (hs : pI _ _)
    obtain ⟨x, r, rfl, z2⟩ := pI_el z1
    exact s_ishl C hd (hk _ _ _ _ z2)
  case ishr  =>
    obtain ⟨y, r, rfl, z1⟩ := pI_el (hs : pI _ _)
    obtain ⟨x, r, rfl, z2⟩ := pI_el z1
    exact s_ishr C hd (hk _ _ _ _ z2)
  case iushr  =>
    obtain ⟨y, r, rfl, z1⟩ := pI_el (hs : pI _ _)
    obtain ⟨x, r, rfl, z2⟩ := pI_el z1
    exact s_iushr C hd (hk _ _ _ _ z2)
  case idiv  =>
    obtain ⟨y, r, rfl, z1⟩ := pI_el (hs : pI _ _)
    obtain ⟨x, r, rfl, hne, z2⟩ := pI_el z1
    exact s_idiv C hd hne (hk _ _ _ _ z2)
  case irem  =>
    obtain ⟨y, r, rfl, z1⟩ := pI_el (hs : pI _ _)
    obtain ⟨x, r, rfl, hne, z2⟩ := pI_el z1
    exact s_irem C hd hne (hk _ _ _ _ z2)
  case land  =>
    obtain ⟨y, r, rfl, z1⟩ := pJ_el (hs : pJ _ _)
    obtain ⟨x, r, rfl, z2⟩ := pJ_el z1
    exact s_land C hd (hk _ _ _ _ z2)
  case lor  =>
    obtain ⟨y, r, rfl, z1⟩ := pJ_el (hs : pJ _ _)
    obtain ⟨x, r, rfl, z2⟩ := pJ_el z1
    exact s_lor C hd (hk _ _ _ _ z2)
  case lcmp  =>
    obtain ⟨y, r, rfl, z1⟩ := pJ_el (hs : pJ _ _)
    obtain ⟨x, r, rfl, z2⟩ := pJ_el z1
    exact s_lcmp C hd (hk _ _ _ _ z2)
  case lushr  =>
    obtain ⟨y, r, rfl, z1⟩ := pI_el (hs : pI _ _)
    obtain ⟨x, r, rfl, z2⟩ := pJ_el z1
    exact s_lushr C hd (hk _ _ _ _ z2)
  case lshl  =>
    obtain ⟨y, r, rfl, z1⟩ := pI_el (hs : pI _ _)
    obtain ⟨x, r, rfl, z2⟩ := pJ_el z1
    exact s_lshl C hd (hk _ _ _ _ z2)
  case l2i  =>
    obtain ⟨y, r, rfl, z1⟩ := pJ_el (hs : pJ _ _)
    exact s_l2i C hd (hk _ _ _ _ z1)
  case i2l  =>
    obtain ⟨y, r, rfl, z1⟩ := pI_el (hs : pI _ _)
    exact s_i2l C hd (hk _ _ _ _ z1)
  case i2c  =>
    obtain ⟨y, r, rfl, z1⟩ := pI_el (hs : pI _ _)
    exact s_i2c C hd (hk _ _ _ _ z1)
  case dup  =>
    obtain ⟨v, r, rfl, hc, z1⟩ := p1_el (S := S) (F := fun v S => K (pc + 1) L (v :: v :: S) mem) hs
    exact s_dup C hd hc (hk _ _ _ _ z1)
  case pop  =>
    obtain ⟨v, r, rfl, hc, z1⟩ := p1_el (S := S) (F := fun v S => K (pc + 1) L S mem) hs
    exact s_pop C hd hc (hk _ _ _ _ z1)
  case dup_x1  =>
    obtain ⟨v, r, rfl, hc, z1⟩ := p1_el (S := S) (F := fun v S => p1 S fun w S => K (pc + 1) L (v :: w :: v :: S) mem) hs
    obtain ⟨w, r, rfl, hc2, z2⟩ := p1_el z1
    exact s_dup_x1 C hd hc hc2 (hk _ _ _ _ z2)
  case dup2  =>
    obtain ⟨v, r, rfl, hc, z1⟩ := p1_el (S := S) (F := fun v S => p1 S fun w S => K (pc + 1) L (v :: w :: v :: w :: S) mem) hs
    obtain ⟨w, r, rfl, hc2, z2⟩ := p1_el z1
    exact s_dup2 C hd hc hc2 (hk _ _ _ _ z2)
  case ifCond cc off =>
    obtain ⟨x, r, rfl, z1⟩ := pI_el (hs : pI _ _)
    exact s_if C hd hx (brk_map z1 (hk _ _ _ _) (hk _ _ _ _))
  case if_icmp cc off =>
    obtain ⟨y, r, rfl, z1⟩ := pI_el (hs : pI _ _)
    obtain ⟨x, r, rfl, z2⟩ := pI_el z1
    exact s_icmp C hd hx (brk_map z2 (hk _ _ _ _) (hk _ _ _ _))
  case goto off =>
    exact s_goto C hd hx (hk _ _ _ _ hs)
  case ifnonnull off =>
    obtain ⟨t, k, i, r, rfl, z1⟩ := pO_el (hs : pO _ _)
    refine s_ifnonnull C hd hx (fun q => ?_) (fun q => ?_) (fun q => ?_)
    · subst q
      exact z1.elim
    · subst q
      exact hk _ _ _ _ z1
    · split at z1
      · exact absurd rfl q
      · exact z1.elim
      · exact hk _ _ _ _ z1
  case tableswitch dflt lo hi offs =>
    obtain ⟨x, r, rfl, z1⟩ := pI_el (hs : pI _ _)
    have h1 := hk _ _ _ _ (swc_T z1)
    intro H locs ls hP hS hl hLo hSo
    have h2 := h1 H locs ls hP hS hl hLo (okS_t hSo)
    obtain ⟨hx0, hb, -⟩ := C
    rcases hx x with ⟨h3, h4⟩ | ⟨h3, h4, off, h5, h6⟩
    · exact lv_tableOut hx0 hb hd h3 h4 h2
    · exact lv_tableIn hx0 hb hd h3 h4 h5 h6 h2
  case lookupswitch dflt ps =>
    obtain ⟨x, r, rfl, z1⟩ := pI_el (hs : pI _ _)
    have h1 := hk _ _ _ _ (swc_T z1)
    intro H locs ls hP hS hl hLo hSo
    have h2 := h1 H locs ls hP hS hl hLo (okS_t hSo)
    obtain ⟨hx0, hb, -⟩ := C
    exact lv_lookup hx0 hb hd hx.1 rfl (hx.2 x) h2
  case getfield idx =>
    obtain ⟨t, k, i, r, rfl, z1⟩ := pO_el (hs : pO _ _)
    obtain ⟨h1, h3⟩ := hx
    obtain ⟨h4, z4⟩ := bt_el z1
    exact s_getfield C hd h4 h3 (hk _ _ _ _ z4)
  case putfield idx =>
    obtain ⟨x, r, rfl, z1⟩ := pI_el (hs : pI _ _)
    obtain ⟨t, k, i, r, rfl, z2⟩ := pO_el z1
    obtain ⟨h4, z3⟩ := bt_el z2
    obtain ⟨h1, h2⟩ := hx
    simp only [Bool.and_eq_true] at h4
    obtain ⟨hc1, hc2, hc3⟩ := okF_sp h4.1
    obtain ⟨h5, h6, z4⟩ := nrC_sp z3 (cls_kind hc3 hc2 h1)
    exact s_putfield C hd h4.1 (Option.isNone_iff_eq_none.mp h4.2) h1 h2 h5 h6 (hk _ _ _ _ z4)
  case getstatic idx =>
    have hs := hk _ _ _ _ hs
    dsimp only [eC] at hs hx
    rcases hx with ⟨h1, host, h2⟩ | ⟨h1, host, h2⟩
    · have h1 : cst = _ := h1
      rw [h1] at hs
      exact s_stat0 C hd h2 hs
    · have h1 : cst = _ := h1
      rw [h1] at hs
      exact s_stat1 C hd h2 hs
  case aaload  =>
    obtain ⟨x, r, rfl, z1⟩ := pI_el (hs : pI _ _)
    obtain ⟨t, k, i, r, rfl, z2⟩ := pO_el z1
    obtain ⟨h4, h5, z3⟩ := bt_el z2
    exact s_aaload C hd h4 h5 (hk _ _ _ _ z3)
  case iaload  =>
    obtain ⟨x, r, rfl, z1⟩ := pI_el (hs : pI _ _)
    obtain ⟨t, k, i, r, rfl, z2⟩ := pO_el z1
    split at z2
    · exact s_script C hd z2.1 (hk _ _ _ _ z2.2)
    · exact s_statA C hd z2.1 (hk _ _ _ _ z2.2)
    · obtain ⟨h4, h5, z3⟩ := bt_el z2
      exact s_iaload C hd h4 h5 (hk _ _ _ _ z3)
  case iastore  =>
    obtain ⟨v, r, rfl, z1⟩ := pI_el (hs : pI _ _)
    obtain ⟨x, r, rfl, z2⟩ := pI_el z1
    obtain ⟨t, k, i, r, rfl, z3⟩ := pO_el z2
    obtain ⟨h4, h5, z4⟩ := bt_el z3
    exact s_iastore C hd h4 h5 (hk _ _ _ _ z4)
  case baload  =>
    obtain ⟨x, r, rfl, z1⟩ := pI_el (hs : pI _ _)
    obtain ⟨t, k, i, r, rfl, z2⟩ := pO_el z1
    obtain ⟨h4, h5, z3⟩ := bt_el z2
    exact s_zaload C hd h4 h5 (hk _ _ _ _ z3)
  case bastore  =>
    obtain ⟨v, r, rfl, z1⟩ := pI_el (hs : pI _ _)
    obtain ⟨x, r, rfl, z2⟩ := pI_el z1
    obtain ⟨t, k, i, r, rfl, z3⟩ := pO_el z2
    obtain ⟨h4, h5, z4⟩ := bt_el z3
    exact s_zastore C hd h4 h5 (hk _ _ _ _ z4)
  case caload  =>
    obtain ⟨x, r, rfl, z1⟩ := pI_el (hs : pI _ _)
    obtain ⟨t, k, i, r, rfl, z2⟩ := pO_el z1
    obtain ⟨h4, h5, z3⟩ := bt_el z2
    exact s_caload C hd (Nat.eq_of_beq_eq_true h4) h5 (hk _ _ _ _ z3)
  case castore  =>
    obtain ⟨v, r, rfl, z1⟩ := pI_el (hs : pI _ _)
    obtain ⟨x, r, rfl, z2⟩ := pI_el z1
    obtain ⟨t, k, i, r, rfl, z3⟩ := pO_el z2
    obtain ⟨h4, h5, z4⟩ := bt_el z3
    exact s_castore C hd (Nat.eq_of_beq_eq_true h4) h5 (hk _ _ _ _ z4)
  case arraylength  =>
    obtain ⟨t, k, i, r, rfl, z1⟩ := pO_el (hs : pO _ _)
    split at z1
    · exact s_scriptL C hd (hk _ _ _ _ z1)
    · obtain ⟨h4, z2⟩ := bt_el z1
      exact s_alen C hd h4 (hk _ _ _ _ z2)
  case invokevirtual idx =>
    obtain ⟨h1, z1⟩ := bt_el (hs : bt _ _)
    simp only [Bool.and_eq_true] at h1
    obtain ⟨x1, x0, x2, x3, x4, x5, x6, x7⟩ := hx
    dsimp only [eA, eB, eH] at *
    split at z1
    · rename_i t k i as hst
      obtain ⟨h2, z2⟩ := bt_el z1
      have hlen : as.length = b - 1 := by
        have h9 := congrArg List.length hst
        rw [List.length_reverse, List.length_take, List.length_cons] at h9
        have h8 := Nat.le_of_ble_eq_true h1.1
        omega
      refine s_callV C hk (ci := a) hd x1 hlen x2 x3 x4 x5 x6 hst (Nat.le_of_ble_eq_true h1.2) ?_ z2
      simp only [Bool.and_eq_true] at h2
      exact ⟨Nat.eq_of_beq_eq_true h2.1, x7.1, x7.2⟩
    · exact z1.elim
  case invokestatic idx =>
    rcases hx with ⟨x0, x1, x2, x3⟩ | ⟨x0, x1, x2, x3⟩ | ⟨x0, x1, x2, x3⟩ | ⟨x0, x1, x2, x3, x4, x5⟩
    · have x0 : a = 9 := x0
      subst x0
      obtain ⟨n, r, rfl, z1⟩ := pI_el (hs : pI _ _)
      obtain ⟨dp, r, rfl, z2⟩ := pI_el z1
      obtain ⟨t2, k2, i2, r, rfl, z3⟩ := pO_el z2
      obtain ⟨sp, r, rfl, z4⟩ := pI_el z3
      obtain ⟨t, k, i, r, rfl, z5⟩ := pO_el z4
      obtain ⟨h1, z6⟩ := bt_el z5
      simp only [Bool.and_eq_true] at h1
      obtain ⟨⟨h1, h2⟩, h3⟩ := h1
      have h1 := Nat.eq_of_beq_eq_true h1
      have h2 := Nat.eq_of_beq_eq_true h2
      subst h1; subst h2
      exact s_copy C hd x1 InT_nat.1 InT_nat.2.1 InT_nat.2.2 x2 x3 (Nat.le_of_ble_eq_true h3) z6.1 (hk _ _ _ _ z6.2)
    · have x0 : a = 7 := x0
      subst x0
      obtain ⟨y, r, rfl, z7⟩ := pI_el (hs : pI _ _)
      obtain ⟨x, r, rfl, z8⟩ := pI_el z7
      obtain ⟨h1, z9⟩ := bt_el z8
      exact s_max C hd x1 InT_max.1 InT_mi InT_max.2 x2 x3 (Nat.le_of_ble_eq_true h1) (hk _ _ _ _ z9)
    · have x0 : a = 8 := x0
      subst x0
      obtain ⟨y, r, rfl, z10⟩ := pI_el (hs : pI _ _)
      obtain ⟨x, r, rfl, z11⟩ := pI_el z10
      obtain ⟨h1, z12⟩ := bt_el z11
      exact s_min C hd x1 InT_min.1 InT_mi InT_min.2 x2 x3 (Nat.le_of_ble_eq_true h1) (hk _ _ _ _ z12)
    · have x0 : a = 0 := x0
      subst x0
      obtain ⟨h1, z13⟩ := bt_el (hs : bt _ _)
      simp only [Bool.and_eq_true] at h1
      refine s_callS C hk hd x1 ?_ x2 x3 x4 x5 rfl (Nat.le_of_ble_eq_true h1.2) z13
      rw [List.length_reverse, List.length_take]
      have h8 := Nat.le_of_ble_eq_true h1.1
      dsimp only [eB] at *
      omega
  case ireturn  =>
    obtain ⟨x, r, rfl, z1⟩ := pI_el (hs : pI _ _)
    split at z1
    · exact s_iret C hd z1
    · exact z1.elim
  case areturn  =>
    obtain ⟨t, k, i, r, rfl, z1⟩ := pO_el (hs : pO _ _)
    split at z1
    · exact s_aret C hd (bt_el z1).2
    · exact z1.elim
  case return_  =>
    cases S with
    | nil => exact s_vret C hd hs
    | cons v r => exact False.elim hs
end SNS
