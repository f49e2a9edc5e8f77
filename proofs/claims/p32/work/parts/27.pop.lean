/-! Integer.bitCount counts the bits -/
theorem pcn_8 : ∀ a, a < 256 → (let y := a - ((a / 2) &&& 85); let z := (y &&& 51) + ((y / 4) &&& 51); y < 256 ∧ z < 256 ∧ z % 16 ≤ 4 ∧ z / 16 ≤ 4 ∧ (z + z / 16) % 16 = pcn 8 a ∧ pcn 8 a ≤ 8 ∧ ((a / 2) &&& 85) ≤ a ∧ ((a / 2 + 128) &&& 85) = ((a / 2) &&& 85) ∧ (y &&& 51) + ((y / 4) &&& 51) < 256 ∧ (∀ q, q < 4 → (y / 4 + 64 * q) &&& 51 = (y / 4) &&& 51)) := by decide +kernel
def by4 (a b c d : Nat) : Nat := a + 2 ^ 8 * (b + 2 ^ 8 * (c + 2 ^ 8 * d))
theorem by4_and {a b c d a' b' c' d' : Nat} (ha : a < 256) (hb : b < 256) (hc : c < 256) (ha' : a' < 256) (hb' : b' < 256) (hc' : c' < 256) : by4 a b c d &&& by4 a' b' c' d' = by4 (a &&& a') (b &&& b') (c &&& c') (d &&& d') := by
  unfold by4
  rw [and_spl ha ha' rfl, and_spl hb hb' rfl, and_spl hc hc' rfl]
theorem by4_of (x : Nat) : x = by4 (x % 256) (x / 256 % 256) (x / 65536 % 256) (x / 16777216) := by
  unfold by4
  omega
theorem pcn_by4 {a b c d : Nat} (ha : a < 256) (hb : b < 256) (hc : c < 256) (hd : d < 256) : pcn 32 (by4 a b c d) = pcn 8 a + pcn 8 b + pcn 8 c + pcn 8 d := by
  have h8 : ∀ f a q, pcn f (a + 2 ^ f * q) = pcn f a := by
    intro f
    induction f with
    | zero => intro a q; rfl
    | succ f ih =>
      intro a q
      show (a + 2 ^ (f + 1) * q) % 2 + pcn f ((a + 2 ^ (f + 1) * q) / 2) = a % 2 + pcn f (a / 2)
      rw [show a + 2 ^ (f + 1) * q = a + 2 * (2 ^ f * q) by rw [Nat.pow_succ, Nat.mul_comm (2 ^ f) 2, Nat.mul_assoc], Nat.add_mul_mod_self_left, Nat.add_mul_div_left _ _ (by decide), ih]
  rw [show 32 = 8 + (8 + (8 + 8)) from rfl, pcn_add, pcn_add, pcn_add]
  unfold by4
  rw [h8 8 a, Nat.add_mul_div_left _ _ (by decide), Nat.div_eq_of_lt ha, Nat.zero_add, h8 8 b, Nat.add_mul_div_left _ _ (by decide), Nat.div_eq_of_lt hb, Nat.zero_add, h8 8 c, Nat.add_mul_div_left _ _ (by decide), Nat.div_eq_of_lt hc, Nat.zero_add]
  omega
/-- the steps of bitCount on numbers -/
def sw1 (x : Nat) : Nat := x - ((x / 2) &&& 1431655765)
def sw2 (y : Nat) : Nat := (y &&& 858993459) + ((y / 4) &&& 858993459)
def sw3 (z : Nat) : Nat := (z + z / 16) &&& 252645135
theorem sw_all {x : Nat} (hx : x < 2 ^ 32) : ((x / 2) &&& 1431655765) ≤ x ∧ sw1 x < 2 ^ 32 ∧ sw2 (sw1 x) < 2 ^ 31 ∧ sw2 (sw1 x) + sw2 (sw1 x) / 16 < 2 ^ 32 ∧ sw3 (sw2 (sw1 x)) ≤ 134744072 ∧ (sw3 (sw2 (sw1 x)) + sw3 (sw2 (sw1 x)) / 256 + (sw3 (sw2 (sw1 x)) + sw3 (sw2 (sw1 x)) / 256) / 65536) % 64 = pcn 32 x := by
  have e0 := by4_of x
  have ha : x % 256 < 256 := Nat.mod_lt _ (by decide)
  have hb : x / 256 % 256 < 256 := Nat.mod_lt _ (by decide)
  have hc : x / 65536 % 256 < 256 := Nat.mod_lt _ (by decide)
  have hd : x / 16777216 < 256 := by omega
  generalize x % 256 = a at e0 ha
  generalize x / 256 % 256 = b at e0 hb
  generalize x / 65536 % 256 = c at e0 hc
  generalize x / 16777216 = d at e0 hd
  subst e0
  have qa := pcn_8 a ha
  have qb := pcn_8 b hb
  have qc := pcn_8 c hc
  have qd := pcn_8 d hd
  simp only [] at qa qb qc qd
  obtain ⟨a1, a2, a3, a4, a5, a6, a7, a8, a9, a10⟩ := qa
  obtain ⟨b1, b2, b3, b4, b5, b6, b7, b8, b9, b10⟩ := qb
  obtain ⟨c1, c2, c3, c4, c5, c6, c7, c8, c9, c10⟩ := qc
  obtain ⟨d1, d2, d3, d4, d5, d6, d7, d8, d9, d10⟩ := qd
  have h85 : ∀ u v, u < 256 → v < 2 → ((u / 2) + 128 * v) &&& 85 = (u / 2) &&& 85 := by
    intro u v hu hv
    rcases v with _ | _ | v
    · rw [Nat.mul_zero, Nat.add_zero]
    · exact (pcn_8 u hu).2.2.2.2.2.2.2.1
    · omega
  have e1 : (by4 a b c d / 2) &&& 1431655765 = by4 ((a / 2) &&& 85) ((b / 2) &&& 85) ((c / 2) &&& 85) ((d / 2) &&& 85) := by
    rw [show by4 a b c d / 2 = by4 (a / 2 + 128 * (b % 2)) (b / 2 + 128 * (c % 2)) (c / 2 + 128 * (d % 2)) (d / 2) by unfold by4; omega, show 1431655765 = by4 85 85 85 85 from rfl, by4_and (by omega) (by omega) (by omega) (by omega) (by omega) (by omega), h85 _ _ ha (by omega), h85 _ _ hb (by omega), h85 _ _ hc (by omega)]
  have e2 : sw1 (by4 a b c d) = by4 (a - ((a / 2) &&& 85)) (b - ((b / 2) &&& 85)) (c - ((c / 2) &&& 85)) (d - ((d / 2) &&& 85)) := by
    unfold sw1
    rw [e1]
    unfold by4
    omega
  refine ⟨by rw [e1]; unfold by4; omega, ?_⟩
  rw [e2]
  rw [pcn_by4 ha hb hc hd]
  generalize a - ((a / 2) &&& 85) = ya at *
  generalize b - ((b / 2) &&& 85) = yb at *
  generalize c - ((c / 2) &&& 85) = yc at *
  generalize d - ((d / 2) &&& 85) = yd at *
  refine ⟨by unfold by4; omega, ?_⟩
  have e3 : sw2 (by4 ya yb yc yd) = by4 ((ya &&& 51) + ((ya / 4) &&& 51)) ((yb &&& 51) + ((yb / 4) &&& 51)) ((yc &&& 51) + ((yc / 4) &&& 51)) ((yd &&& 51) + ((yd / 4) &&& 51)) := by
    unfold sw2
    rw [show by4 ya yb yc yd / 4 = by4 (ya / 4 + 64 * (yb % 4)) (yb / 4 + 64 * (yc % 4)) (yc / 4 + 64 * (yd % 4)) (yd / 4) by unfold by4; omega, show 858993459 = by4 51 51 51 51 from rfl, by4_and (by omega) (by omega) (by omega) (by omega) (by omega) (by omega), by4_and (by omega) (by omega) (by omega) (by omega) (by omega) (by omega), a10 _ (by omega), b10 _ (by omega), c10 _ (by omega)]
    unfold by4
    omega
  rw [e3]
  generalize (ya &&& 51) + ((ya / 4) &&& 51) = za at *
  generalize (yb &&& 51) + ((yb / 4) &&& 51) = zb at *
  generalize (yc &&& 51) + ((yc / 4) &&& 51) = zc at *
  generalize (yd &&& 51) + ((yd / 4) &&& 51) = zd at *
  have h15 : ∀ u, u &&& 15 = u % 16 := fun u => Nat.and_two_pow_sub_one_eq_mod u 4
  have e4 : sw3 (by4 za zb zc zd) = by4 (pcn 8 a) (pcn 8 b) (pcn 8 c) (pcn 8 d) := by
    unfold sw3
    rw [show by4 za zb zc zd + by4 za zb zc zd / 16 = by4 (za + za / 16 + 16 * (zb % 16)) (zb + zb / 16 + 16 * (zc % 16)) (zc + zc / 16 + 16 * (zd % 16)) (zd + zd / 16) by unfold by4; omega, show 252645135 = by4 15 15 15 15 from rfl, by4_and (by omega) (by omega) (by omega) (by omega) (by omega) (by omega), h15, h15, h15, h15, Nat.add_mul_mod_self_left, Nat.add_mul_mod_self_left, Nat.add_mul_mod_self_left, a5, b5, c5, d5]
  rw [e4]
  have hz : by4 za zb zc zd < 2 ^ 31 ∧ by4 za zb zc zd + by4 za zb zc zd / 16 < 2 ^ 32 := by
    unfold by4
    clear e1 e2 e3 e4 h15 h85 a10 b10 c10 d10
    omega
  refine ⟨hz.1, hz.2, ?_⟩
  generalize pcn 8 a = p at *
  generalize pcn 8 b = q at *
  generalize pcn 8 c = r at *
  generalize pcn 8 d = t at *
  clear hz e1 e2 e3 e4 h15 h85 a10 b10 c10 d10
  unfold by4
  have w1 : (p + 2 ^ 8 * (q + 2 ^ 8 * (r + 2 ^ 8 * t))) / 256 = q + 2 ^ 8 * (r + 2 ^ 8 * t) := by omega
  rw [w1]
  have w2 : (p + 2 ^ 8 * (q + 2 ^ 8 * (r + 2 ^ 8 * t)) + (q + 2 ^ 8 * (r + 2 ^ 8 * t))) / 65536 = (r + t) + 256 * t := by omega
  rw [w2]
  refine ⟨by omega, by omega⟩
theorem ush_N {n : Nat} (hn : n < 2 ^ 32) {s : Int32} {k d : Nat} (hs : ((s.toUInt32 &&& Int32.toUInt32 31).toBitVec % 32).toNat = k) (hd : 2 ^ k = d) : ((nI n).toUInt32 >>> (s.toUInt32 &&& Int32.toUInt32 31)).toInt32 = nI (n / d) := by
  rw [pk_ushrN hn s k hs, hd]
theorem and_N {a b : Nat} (ha : a < 2 ^ 32) (hb : b < 2 ^ 32) : nI a &&& nI b = nI (a &&& b) := by
  rw [← Int32.toBitVec_inj, Int32.toBitVec_and]
  apply BitVec.eq_of_toNat_eq
  rw [BitVec.toNat_and, pk_tn ha, pk_tn hb, pk_tn (Nat.lt_of_le_of_lt Nat.and_le_left ha)]
theorem nI_tn (x : Int32) : x = nI x.toBitVec.toNat := by
  rw [← Int32.toBitVec_inj]
  apply BitVec.eq_of_toNat_eq
  rw [pk_tn x.toBitVec.isLt]
def pcI (x : Int32) : Nat := pcn 32 x.toBitVec.toNat
theorem pcI_cnt (x : Int32) : pcI x = cnt (fun j => Has x (nI j)) 32 := by
  unfold pcI
  rw [← pcn_cnt]
  exact cnt_congr fun j hj => (by rw [has_bit hj]; rfl)
theorem S_Int_bitCount {g : Wg} {mem : Mm} {P : Int32 → Mm → Prop} {x : Int32} (hp : P (nI (pcI x)) mem) : RunI g h_Int_bitCount [vI x] mem P := by
  refine RunI.ofGo rfl rfl (b_Int_bitCount_0 (qi ?_))
  have hx : x.toBitVec.toNat < 2 ^ 32 := x.toBitVec.isLt
  obtain ⟨h1, h2, h3, h4, h5, h6⟩ := sw_all hx
  have e := nI_tn x
  unfold pcI at hp
  rw [← h6] at hp
  generalize x.toBitVec.toNat = n at *
  subst e
  have f1 : nI n - (((nI n).toUInt32 >>> ((1 : Int32).toUInt32 &&& Int32.toUInt32 31)).toInt32 &&& 1431655765) = nI (sw1 n) := by
    rw [ush_N (k := 1) (d := 2) hx (by decide) rfl, show (1431655765 : Int32) = nI 1431655765 from rfl, and_N (by omega) (by omega), pk_sub h1]
    rfl
  rw [f1]
  have f2 : (nI (sw1 n) &&& 858993459) + (((nI (sw1 n)).toUInt32 >>> ((2 : Int32).toUInt32 &&& Int32.toUInt32 31)).toInt32 &&& 858993459) = nI (sw2 (sw1 n)) := by
    rw [ush_N (k := 2) (d := 4) h2 (by decide) rfl, show (858993459 : Int32) = nI 858993459 from rfl, and_N h2 (by omega), and_N (by omega) (by omega), nI_add]
    rfl
  rw [f2]
  have f3 : (nI (sw2 (sw1 n)) + ((nI (sw2 (sw1 n))).toUInt32 >>> ((4 : Int32).toUInt32 &&& Int32.toUInt32 31)).toInt32) &&& 252645135 = nI (sw3 (sw2 (sw1 n))) := by
    rw [ush_N (k := 4) (d := 16) (by omega) (by decide) rfl, nI_add, show (252645135 : Int32) = nI 252645135 from rfl, and_N h4 (by omega)]
    rfl
  rw [f3]
  generalize sw3 (sw2 (sw1 n)) = w at *
  rw [ush_N (k := 8) (d := 256) (by omega) (by decide) rfl, nI_add, ush_N (k := 16) (d := 65536) (by omega) (by decide) rfl, nI_add, pk_andN (by omega) 6 (by decide)]
  exact hp
theorem and_pred : ∀ f x, 0 < x → pcn f (x &&& (x - 1)) + (if x < 2 ^ f then 1 else pcn f x - pcn f (x &&& (x - 1))) = pcn f x ∧ pcn f (x &&& (x - 1)) ≤ pcn f x
  | 0, x, h => by
    rw [if_neg (by omega)]
    exact ⟨rfl, Nat.le_refl _⟩
  | f + 1, x, h => by
    have ed : (x &&& (x - 1)) / 2 = x / 2 &&& (x - 1) / 2 := Nat.and_div_two_pow (a := x) (b := x - 1) (n := 1)
    have em : (x &&& (x - 1)) % 2 = 0 := by
      have h1 : (x &&& (x - 1)) % 2 ^ 1 = (x % 2 ^ 1) &&& ((x - 1) % 2 ^ 1) := Nat.and_mod_two_pow
      rw [Nat.pow_one] at h1
      rw [h1]
      rcases Nat.mod_two_eq_zero_or_one x with q | q
      · rw [q, Nat.zero_and]
      · rw [q, show (x - 1) % 2 = 0 by omega, Nat.and_zero]
    have hs : pcn (f + 1) (x &&& (x - 1)) = pcn f (x / 2 &&& (x - 1) / 2) := by
      show (x &&& (x - 1)) % 2 + pcn f ((x &&& (x - 1)) / 2) = _
      rw [em, ed, Nat.zero_add]
    have hx : pcn (f + 1) x = x % 2 + pcn f (x / 2) := rfl
    have hp : x < 2 ^ (f + 1) ↔ x / 2 < 2 ^ f := by rw [Nat.pow_succ]; omega
    rw [hs, hx]
    rcases Nat.mod_two_eq_zero_or_one x with q | q
    · have e : (x - 1) / 2 = x / 2 - 1 := by omega
      rw [e, q]
      have ih := and_pred f (x / 2) (by omega)
      by_cases hl : x / 2 < 2 ^ f
      · rw [if_pos (hp.mpr hl)]
        rw [if_pos hl] at ih
        omega
      · rw [if_neg (fun a => hl (hp.mp a))]
        omega
    · have e : (x - 1) / 2 = x / 2 := by omega
      rw [e, q, Nat.and_self]
      by_cases hl : x / 2 < 2 ^ f
      · rw [if_pos (hp.mpr hl)]; omega
      · rw [if_neg (fun a => hl (hp.mp a))]; omega
theorem pcI_0 {x : Int32} : x = 0 → pcI x = 0 := by
  rintro rfl
  exact pcn_0 32
theorem pcI_step {x : Int32} (h : ¬ x = 0) : pcI (x &&& (x - 1)) + 1 = pcI x := by
  have hx : x.toBitVec.toNat < 2 ^ 32 := x.toBitVec.isLt
  have e := nI_tn x
  unfold pcI
  generalize hn : x.toBitVec.toNat = n at *
  subst e
  have h0 : 0 < n := by
    rcases n with _ | n
    · exact absurd nI_0 h
    · omega
  rw [show (1 : Int32) = nI 1 from rfl, pk_sub h0, and_N hx (by omega), pk_tn (Nat.lt_of_le_of_lt Nat.and_le_left hx)]
  have := (and_pred 32 n h0).1
  rw [if_pos hx] at this
  exact this
theorem pcI_setI (p : Nat → Prop) [DecidablePred p] {n : Nat} (hn : n ≤ 32) : pcI (setI p n) = cnt p n := by
  rw [pcI_cnt]
  have h1 : cnt (fun j => Has (setI p n) (nI j)) n = cnt p n := cnt_congr fun j hj => by
    rw [has_setI hn (by omega)]
    exact ⟨fun q => q.2, fun q => ⟨hj, q⟩⟩
  rw [← h1]
  have e : cnt (fun j => Has (setI p n) (nI j)) (n + (32 - n)) = cnt (fun j => Has (setI p n) (nI j)) n := cnt_more fun j a b q => by
    rw [has_setI hn (by omega)] at q
    omega
  rwa [show n + (32 - n) = 32 by omega] at e
