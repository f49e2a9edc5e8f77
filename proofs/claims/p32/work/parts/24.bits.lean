/-! BITS, COUNTS: sets of small numbers as Int32 -/
abbrev bq (x : Int32) (j : Nat) : Bool := x.toBitVec.getLsbD j
theorem nI_sm {j : Nat} (hj : j < 32) : ((nI j &&& 31).toBitVec.smod 32).toNat = j := (by decide +kernel : ∀ j < 32, ((nI j &&& 31).toBitVec.smod 32).toNat = j) j hj
theorem has_bit {x : Int32} {j : Nat} (hj : j < 32) : Has x (nI j) ↔ bq x j = true := by
  show (x >>> (nI j &&& 31)) &&& 1 = 1 ↔ _
  rw [← Int32.toBitVec_inj, Int32.toBitVec_and, Int32.toBitVec_shiftRight]
  rw [show x.toBitVec.sshiftRight' ((nI j &&& 31).toBitVec.smod 32) = x.toBitVec.sshiftRight ((nI j &&& 31).toBitVec.smod 32).toNat from rfl, nI_sm hj]
  constructor
  · intro h
    have h2 : (x.toBitVec.sshiftRight j &&& (1 : Int32).toBitVec).getLsbD 0 = (1 : Int32).toBitVec.getLsbD 0 := congrArg (fun b : BitVec 32 => b.getLsbD 0) h
    rw [BitVec.getLsbD_and, BitVec.getLsbD_sshiftRight, show (1 : Int32).toBitVec.getLsbD 0 = true by decide, Nat.add_zero] at h2
    show x.toBitVec.getLsbD j = true
    simpa [hj] using h2
  · intro h
    apply BitVec.eq_of_getLsbD_eq
    intro i hi
    rw [BitVec.getLsbD_and]
    rcases i with _ | i
    · have h2 : x.toBitVec.getLsbD j = true := h
      rw [BitVec.getLsbD_sshiftRight, Nat.add_zero, show (1 : Int32).toBitVec.getLsbD 0 = true by decide]
      simp only [hj, h2, if_true, Bool.and_true]
      rfl
    · have : (1 : Int32).toBitVec.getLsbD (i + 1) = false := (by decide +kernel : ∀ i < 31, (1 : Int32).toBitVec.getLsbD (i + 1) = false) i (by omega)
      rw [this, Bool.and_false]
theorem bt_ext {x y : Int32} (h : ∀ j, j < 32 → bq x j = bq y j) : x = y := by
  rw [← Int32.toBitVec_inj]
  exact BitVec.eq_of_getLsbD_eq h
theorem has_ext {x y : Int32} (h : ∀ j, j < 32 → (Has x (nI j) ↔ Has y (nI j))) : x = y := by
  refine bt_ext fun j hj => ?_
  have := h j hj
  rw [has_bit hj, has_bit hj] at this
  exact Bool.eq_iff_iff.mpr this
theorem bt_or {x y : Int32} {j : Nat} : bq (x ||| y) j = (bq x j || bq y j) := by
  show (x ||| y).toBitVec.getLsbD j = _
  rw [Int32.toBitVec_or, BitVec.getLsbD_or]
theorem bt_and {x y : Int32} {j : Nat} : bq (x &&& y) j = (bq x j && bq y j) := by
  show (x &&& y).toBitVec.getLsbD j = _
  rw [Int32.toBitVec_and, BitVec.getLsbD_and]
theorem bt_xor {x y : Int32} {j : Nat} : bq (x ^^^ y) j = (bq x j ^^ bq y j) := by
  show (x ^^^ y).toBitVec.getLsbD j = _
  rw [Int32.toBitVec_xor, BitVec.getLsbD_xor]
theorem bt_one {n j : Nat} (hn : n < 32) (hj : j < 32) : bq (1 <<< (nI n &&& 31)) j = decide (j = n) := (by decide +kernel : ∀ n < 32, ∀ j < 32, bq (1 <<< (nI n &&& 31)) j = decide (j = n)) n hn j hj
theorem bt_neg {j : Nat} (hj : j < 32) : bq (-1) j = true := (by decide +kernel : ∀ j < 32, bq (-1) j = true) j hj
theorem bt_0 {j : Nat} (hj : j < 32) : bq 0 j = false := (by decide +kernel : ∀ j < 32, bq 0 j = false) j hj
theorem bt_1023 {j : Nat} (hj : j < 32) : bq 1023 j = decide (j < 10) := (by decide +kernel : ∀ j < 32, bq 1023 j = decide (j < 10)) j hj
theorem bt_setI (p : Nat → Prop) [DecidablePred p] : ∀ n, n ≤ 32 → ∀ j, j < 32 → bq (setI p n) j = decide (j < n ∧ p j)
  | 0, _, j, hj => by
    show bq 0 j = _
    rw [bt_0 hj]
    simp
  | n + 1, hn, j, hj => by
    have ih := bt_setI p n (by omega) j hj
    by_cases h : p n
    · rw [setI_t h, bt_or, ih, bt_one (by omega) hj]
      by_cases hjn : j = n
      · subst hjn; simp [h]
      · simp only [hjn, decide_false, Bool.or_false]
        apply decide_eq_decide.mpr
        exact ⟨fun q => ⟨by omega, q.2⟩, fun q => ⟨by omega, q.2⟩⟩
    · rw [setI_f h, ih]
      apply decide_eq_decide.mpr
      refine ⟨fun q => ⟨by omega, q.2⟩, fun q => ⟨?_, q.2⟩⟩
      have : j ≠ n := fun e => h (e ▸ q.2)
      omega
theorem has_setI {p : Nat → Prop} [DecidablePred p] {n j : Nat} (hn : n ≤ 32) (hj : j < 32) : Has (setI p n) (nI j) ↔ j < n ∧ p j := by
  rw [has_bit hj, bt_setI p n hn j hj, decide_eq_true_iff]
theorem setI_congr {p q : Nat → Prop} [DecidablePred p] [DecidablePred q] : ∀ {n : Nat}, (∀ j, j < n → (p j ↔ q j)) → setI p n = setI q n
  | 0, _ => rfl
  | n + 1, h => by
    have ih := setI_congr (n := n) (fun j hj => h j (by omega))
    by_cases hp : p n
    · rw [setI_t hp, setI_t ((h n (by omega)).mp hp), ih]
    · rw [setI_f hp, setI_f (fun a => hp ((h n (by omega)).mpr a)), ih]
theorem cnt_congr {p q : Nat → Prop} [DecidablePred p] [DecidablePred q] : ∀ {n : Nat}, (∀ j, j < n → (p j ↔ q j)) → cnt p n = cnt q n
  | 0, _ => rfl
  | n + 1, h => by
    have ih := cnt_congr (n := n) (fun j hj => h j (by omega))
    by_cases hp : p n
    · rw [cnt_t hp, cnt_t ((h n (by omega)).mp hp), ih]
    · rw [cnt_f hp, cnt_f (fun a => hp ((h n (by omega)).mpr a)), ih]
theorem cnt_le (p : Nat → Prop) [DecidablePred p] : ∀ n, cnt p n ≤ n
  | 0 => Nat.le_refl _
  | n + 1 => by
    have ih := cnt_le p n
    by_cases hp : p n
    · rw [cnt_t hp]; omega
    · rw [cnt_f hp]; omega
theorem cnt_more {p : Nat → Prop} [DecidablePred p] {n : Nat} : ∀ {m : Nat}, (∀ j, n ≤ j → j < n + m → ¬ p j) → cnt p (n + m) = cnt p n
  | 0, _ => rfl
  | m + 1, h => by
    rw [← Nat.add_assoc, cnt_f (h (n + m) (by omega) (by omega))]
    exact cnt_more (fun j a b => h j a (by omega))
theorem cnt_0 {p : Nat → Prop} [DecidablePred p] : ∀ {n : Nat}, (∀ j, j < n → ¬ p j) → cnt p n = 0
  | 0, _ => rfl
  | n + 1, h => by rw [cnt_f (h n (by omega)), cnt_0 (fun j hj => h j (by omega))]
theorem cnt_pos {p : Nat → Prop} [DecidablePred p] {n j : Nat} (hj : j < n) (h : p j) : 0 < cnt p n := by
  induction n with
  | zero => omega
  | succ n ih =>
    by_cases hp : p n
    · rw [cnt_t hp]; omega
    · rw [cnt_f hp]
      exact ih (by rcases Nat.lt_succ_iff_lt_or_eq.mp hj with h1 | h1; exact h1; exact absurd (h1 ▸ h) hp)
theorem cnt_one {p q : Nat → Prop} [DecidablePred p] [DecidablePred q] {c : Nat} : ∀ {n : Nat}, c < n → p c → (∀ j, j < n → (q j ↔ p j ∧ j ≠ c)) → cnt q n + 1 = cnt p n
  | 0, h, _, _ => by omega
  | n + 1, h, hc, hq => by
    by_cases e : c = n
    · subst e
      rw [cnt_t hc, cnt_f (fun a => ((hq c (by omega)).mp a).2 rfl), cnt_congr (fun j hj => (hq j (by omega)).trans ⟨fun a => a.1, fun a => ⟨a, by omega⟩⟩)]
    · have ih := cnt_one (n := n) (by omega) hc (fun j hj => hq j (by omega))
      by_cases hp : p n
      · rw [cnt_t hp, cnt_t ((hq n (by omega)).mpr ⟨hp, fun a => e a.symm⟩)]; omega
      · rw [cnt_f hp, cnt_f (fun a => hp ((hq n (by omega)).mp a).1)]; omega
theorem cnt_up {p q : Nat → Prop} [DecidablePred p] [DecidablePred q] : ∀ {n : Nat}, (∀ j, j < n → p j → q j) → cnt p n ≤ cnt q n
  | 0, _ => Nat.le_refl _
  | n + 1, h => by
    have ih := cnt_up (n := n) (fun j hj => h j (by omega))
    by_cases hp : p n
    · rw [cnt_t hp, cnt_t (h n (by omega) hp)]; omega
    · rw [cnt_f hp]
      by_cases hq : q n
      · rw [cnt_t hq]; omega
      · rw [cnt_f hq]; exact ih
theorem setI_0 {p : Nat → Prop} [DecidablePred p] {n : Nat} (hn : n ≤ 32) : setI p n = 0 ↔ ∀ j, j < n → ¬ p j := by
  constructor
  · intro h j hj hp
    have := bt_setI p n hn j (by omega)
    rw [h, bt_0 (by omega)] at this
    exact absurd this (by simp [hj, hp])
  · intro h
    refine bt_ext fun j hj => ?_
    rw [bt_setI p n hn j hj, bt_0 hj]
    simp only [decide_eq_false_iff_not]
    exact fun q => h j q.1 q.2
theorem cnt_sh (p : Nat → Prop) [DecidablePred p] : ∀ n, cnt p (n + 1) = (if p 0 then 1 else 0) + cnt (fun j => p (j + 1)) n
  | 0 => by
    show 0 + _ = _ + 0
    rw [Nat.zero_add, Nat.add_zero]
  | n + 1 => by
    have ih := cnt_sh p n
    by_cases h : p (n + 1)
    · rw [cnt_t h, ih, cnt_t (p := fun j => p (j + 1)) h]; omega
    · rw [cnt_f h, ih, cnt_f (p := fun j => p (j + 1)) h]
/-- how many bits -/
def pcn : Nat → Nat → Nat
  | 0, _ => 0
  | f + 1, x => x % 2 + pcn f (x / 2)
theorem pcn_cnt : ∀ f x, cnt (fun j => x.testBit j = true) f = pcn f x
  | 0, _ => rfl
  | f + 1, x => by
    rw [cnt_sh]
    show _ = x % 2 + pcn f (x / 2)
    rw [← pcn_cnt f (x / 2), cnt_congr (q := fun j => (x / 2).testBit j = true) (fun j _ => by rw [Nat.testBit_succ])]
    have : (x.testBit 0 = true) ↔ x % 2 = 1 := by simp
    by_cases h : x % 2 = 1
    · rw [if_pos (this.mpr h), h]
    · rw [if_neg (fun a => h (this.mp a))]; omega
theorem pcn_add : ∀ a b x, pcn (a + b) x = pcn a x + pcn b (x / 2 ^ a)
  | 0, b, x => by simp [pcn]
  | a + 1, b, x => by
    rw [show a + 1 + b = (a + b) + 1 by omega]
    show x % 2 + pcn (a + b) (x / 2) = x % 2 + pcn a (x / 2) + _
    rw [pcn_add a b (x / 2), Nat.div_div_eq_div_mul, show 2 * 2 ^ a = 2 ^ (a + 1) by rw [Nat.pow_succ]; omega]
    omega
theorem pcn_0 : ∀ f, pcn f 0 = 0
  | 0 => rfl
  | f + 1 => by
    show 0 % 2 + pcn f (0 / 2) = 0
    rw [Nat.zero_div, pcn_0 f]
theorem and_spl {a b c d m : Nat} (ha : a < m) (hc : c < m) (hm : m = 2 ^ 8) : (a + m * b) &&& (c + m * d) = (a &&& c) + m * (b &&& d) := by
  subst hm
  have h1 : ((a + 2 ^ 8 * b) &&& (c + 2 ^ 8 * d)) % 2 ^ 8 = a &&& c := by
    rw [Nat.and_mod_two_pow, Nat.add_mul_mod_self_left, Nat.add_mul_mod_self_left, Nat.mod_eq_of_lt ha, Nat.mod_eq_of_lt hc]
  have h2 : ((a + 2 ^ 8 * b) &&& (c + 2 ^ 8 * d)) / 2 ^ 8 = b &&& d := by
    rw [Nat.and_div_two_pow, Nat.add_mul_div_left _ _ (by decide), Nat.add_mul_div_left _ _ (by decide), Nat.div_eq_of_lt ha, Nat.div_eq_of_lt hc, Nat.zero_add, Nat.zero_add]
  have := Nat.mod_add_div ((a + 2 ^ 8 * b) &&& (c + 2 ^ 8 * d)) (2 ^ 8)
  rw [h1, h2] at this
  exact this.symm
