/-! WRITERS OF THE REFERENCE -/
theorem bx9 {c j : Nat} (hc : c < 24) (hj : j < 14) : Bx 9 c j := Or.inr (Or.inr (Or.inr (Or.inr ⟨rfl, hc, hj⟩)))
theorem bx2 {j : Nat} (h4 : 4 ≤ j) (hj : j < 12) : Bx 2 0 j := Or.inl ⟨rfl, rfl, h4, hj⟩
theorem RelR.k9 {N : Nu} {v : Nat → Int32} (h : RelR N v) {c j : Nat} (hc : c < 24) (hj : j < 14) (h3 : ¬ j = 3) (x : Int32) : RelR (nset N 9 c j x) (upd v (93 + 14 * c + j) x) := RelR.set h (bx9 hc hj) x (fun q => absurd q (by decide)) (fun q => h3 q.2)
theorem RelR.n2 {N : Nu} {v : Nat → Int32} (h : RelR N v) {j : Nat} (h7 : 7 ≤ j) (hj : j < 12) (x : Int32) : RelR (nset N 2 0 j x) (upd v (ixF 2 0 j) x) := RelR.set h (bx2 (by omega) hj) x (fun _ => h7) (fun q => absurd q.1 (by decide))
theorem RelR.ex {N : Nu} {v w : Nat → Int32} (h : RelR N v) (hw : ∀ k, k < 429 → w k = v k) : RelR N w := fun t i j hb hl => (hw _ (ixF_lt hb)).trans (h t i j hb hl)
def bcmV (v : Nat → Int32) (c : Nat) (s : Int32) : Nat → Int32 := upd (upd (upd (upd v (93 + 14 * c + 3) s) (93 + 14 * c + 5) 0) (93 + 14 * c + 6) 0) (93 + 14 * c + 8) (-6)
theorem RelR.qit {N : Nu} {v : Nat → Int32} (h : RelR N v) {c : Nat} (hc : c < 24) {s : Int32} (hs : ¬ s = 1) : RelR (qitN N c s) (bcmV v c s) := ((((h.st hc hs).rm (by rw [ns_s]; exact hs)).k9 hc (j := 5) (by decide) (by decide) 0).k9 hc (j := 6) (by decide) (by decide) 0).k9 hc (j := 8) (by decide) (by decide) (-6)
/-- the history of the reference -/
def hm (m : Mm) (n : Nat) (H : Nat → Int32) : Mm := fun o j => if o = (17, 0, 0) ∧ j = 3 then nI n else if o = (18, 2, 0) then H j else m o j
def hsF (H v : Nat → Int32) (st : Nat) : Nat → Int32 := fun k => if st = 6 then (if 2145 ≤ k ∧ k < 2574 then v (k - 2145) else if k < 2145 then H (k + 429) else H k) else if 429 * st ≤ k ∧ k < 429 * st + 429 then v (k - 429 * st) else H k
def rcM (m : Mm) (v : Nat → Int32) (st : Nat) : Mm := hm m (if st = 6 then 6 else st + 1) (hsF (m (18, 2, 0)) v st)
/-- what record() makes of a memory -/
def Rcd (m : Mm) (v : Nat → Int32) (m' : Mm) : Prop := (¬ m (17, 0, 0) 4 = 0 ∧ m' = m) ∨ (m (17, 0, 0) 4 = 0 ∧ ∃ st, st ≤ 6 ∧ m (17, 0, 0) 3 = nI st ∧ m' = rcM m v st)
section HM
variable {m : Mm} {n : Nat} {v H : Nat → Int32}
theorem hm_3 : wv (hm m n H) v (17, 0, 0) 3 = nI n := by rw [wv_ne (by decide)]; simp [hm]
theorem hm_2 : wv (hm m n H) v (18, 2, 0) = H := by rw [wv_ne (by decide)]; funext j; simp [hm]
theorem hm_s {n' : Nat} : mset (wv (hm m n H) v) 17 0 0 3 (nI n') = wv (hm m n' H) v := by
  funext o j
  by_cases h : o = (17, 0, 0)
  · subst h
    rw [mset_at, wv_ne (by decide), wv_ne (by decide)]
    unfold upd hm
    by_cases hj : j = 3 <;> simp [hj]
  · rw [mset_ne _ _ _ _ _ _ h]
    unfold wv hm
    simp [h]
theorem hm_u {k : Nat} {x : Int32} : mset (wv (hm m n H) v) 18 2 0 k x = wv (hm m n (upd H k x)) v := by
  funext o j
  by_cases h : o = (18, 2, 0)
  · subst h
    rw [mset_at, wv_ne (by decide), wv_ne (by decide)]
    unfold upd hm
    simp
  · rw [mset_ne _ _ _ _ _ _ h]
    unfold wv hm
    simp [h]
theorem hm_id (h : m (17, 0, 0) 3 = nI n) : hm m n (m (18, 2, 0)) = m := by
  funext o j
  unfold hm
  by_cases h1 : o = (17, 0, 0) ∧ j = 3
  · rw [if_pos h1, h1.1, h1.2, h]
  · rw [if_neg h1]
    by_cases h2 : o = (18, 2, 0)
    · rw [if_pos h2, h2]
    · rw [if_neg h2]
end HM
section RW
variable {g : Wg} {m m' : Mm} {v : Nat → Int32} {P : Int32 → Mm → Prop} {PV : Mm → Prop} {N : Nu}
theorem S_Md_record (h : Rcd m v m') (hp : PV (wv m' v)) : RunV g h_Md_record [vO 17 0 0] (wv m v) PV := by
  refine RunV.ofGo rfl rfl (b_Md_record_0 ?_)
  rw [wv_ne (show ¬ ((17, 0, 0) : Rf) = (18, 0, 0) by decide)]
  rcases h with ⟨h4, rfl⟩ | ⟨h4, st, hst, h3, rfl⟩
  · exact ⟨fun q => absurd q h4, fun _ => qv hp⟩
  refine ⟨fun _ => ?_, fun q => absurd h4 q⟩
  rw [h3]
  have tail : ∀ st H, st ≤ 5 → (∀ H', (∀ k, H' k = if 429 * st ≤ k ∧ k < 429 * st + 429 then v (k - 429 * st) else H k) → PV (wv (hm m (st + 1) H') v)) → Go g h_Md_record (QV PV) 60 [(0, vO 17 0 0), (1, vI 0)] [] (wv (hm m st H) v) := by
    intro st H h5 hp
    refine loopN (G := fun j => ∀ H1, (∀ k, H1 k = if 429 * st ≤ k ∧ k < 429 * st + j then v (k - 429 * st) else H k) → Go g h_Md_record (QV PV) 60 [(0, vO 17 0 0), (1, vI (nI j))] [] (wv (hm m st H1) v)) 429 ?_ ?_ 0 (Nat.zero_le _) H (fun k => by rw [if_neg (by omega)])
    · intro H1 hH
      refine b_Md_record_60 ⟨fun _ => qv ?_, fun q => absurd (by decide) q⟩
      rw [hm_3, nI_1, hm_s]
      exact hp H1 hH
    · intro j hj ih H1 hH
      have e := nI_clamp (n := j) (by omega)
      refine b_Md_record_60 ⟨fun q => absurd q (nI_ge (b := 429) hj (by omega)), fun _ => ?_⟩
      rw [hm_3, show (429 * nI st + nI j : Int32) = nI (429 * st + j) by rw [show (429 : Int32) = nI 429 from rfl, pk_mul, nI_add], nI_clamp (n := 429 * st + j) (by omega), e, hm_u, nI_1, wv_at]
      refine ⟨vp_in_nI hj (by omega), vp_in_nI (by omega) (by omega), ih _ fun k => ?_⟩
      by_cases q : k = 429 * st + j
      · subst q
        rw [pk_us, if_pos (by omega)]
        congr 1
        omega
      · rw [pk_un q, hH]
        by_cases z : 429 * st ≤ k ∧ k < 429 * st + j
        · rw [if_pos z, if_pos (by omega)]
        · rw [if_neg z, if_neg (by omega)]
  have e0 : wv m v = wv (hm m st (m (18, 2, 0))) v := by rw [hm_id h3]
  refine ⟨fun q => ?_, fun q => ?_⟩
  · have hne : ¬ st = 6 := fun z => q (by rw [z]; rfl)
    rw [e0]
    refine tail st _ (by omega) fun H' hH => ?_
    have : H' = hsF (m (18, 2, 0)) v st := by
      funext k
      rw [hH]
      unfold hsF
      rw [if_neg hne]
    unfold rcM at hp
    rw [if_neg hne] at hp
    rw [this]
    exact hp
  · have he : st = 6 := (nI_eq (b := 6) (by omega) (by omega)).mp q
    subst he
    rw [e0]
    refine loopN (G := fun j => ∀ H1, (∀ k, H1 k = if k < j then m (18, 2, 0) (k + 429) else m (18, 2, 0) k) → Go g h_Md_record (QV PV) 19 [(0, vO 17 0 0), (1, vI (nI j))] [] (wv (hm m 6 H1) v)) 2145 ?_ ?_ 0 (Nat.zero_le _) _ (fun k => by rw [if_neg (by omega)])
    · intro H1 hH
      refine b_Md_record_19 ⟨fun _ => ?_, fun q => absurd (by decide) q⟩
      rw [hm_3, show nI 6 - 1 = nI 5 from nI_pred 5, hm_s]
      refine tail 5 H1 (by decide) fun H' hH' => ?_
      have : H' = hsF (m (18, 2, 0)) v 6 := by
        funext k
        rw [hH', hH]
        unfold hsF
        rw [if_pos rfl]
      unfold rcM at hp
      rw [if_pos rfl] at hp
      rw [this]
      exact hp
    · intro j hj ih H1 hH
      have e := nI_clamp (n := j) (by omega)
      refine b_Md_record_19 ⟨fun q => absurd q (nI_ge (b := 2145) hj (by omega)), fun _ => ?_⟩
      rw [show (nI j + 429 : Int32) = nI (j + 429) from nI_add j 429, nI_clamp (n := j + 429) (by omega), e, hm_2, hm_u, nI_1]
      refine ⟨vp_in_nI (by omega) (by omega), vp_in_nI (by omega) (by omega), ih _ fun k => ?_⟩
      by_cases q : k = j
      · subst q
        rw [pk_us, if_pos (by omega), hH, if_neg (by omega)]
      · rw [pk_un q, hH]
        by_cases z : k < j
        · rw [if_pos z, if_pos (by omega)]
        · rw [if_neg z, if_neg (by omega)]
theorem S_Md_becomes {c : Nat} {s : Int32} (hc : c < 24) (hp : PV (wv m (bcmV v c s))) : RunV g h_Md_becomes [vO 17 0 0, vI (nI c), vI s] (wv m v) PV :=
  RunV.ofGo rfl rfl (b_Md_becomes_0 (S_Md_put3 (c := c) (j := 3) hc (by decide) (S_Md_put3 (c := c) (j := 5) hc (by decide) (S_Md_put3 (c := c) (j := 6) hc (by decide) (S_Md_put3 (c := c) (j := 8) hc (by decide) (qv hp))))))
/-- the row when a child is placed -/
def plcV (N : Nu) (v : Nat → Int32) (c : Nat) : Nat → Int32 := upd (upd (upd (upd (upd (upd v (93 + 14 * c + 4) (roomI N (N 9 c 0))) (93 + 14 * c + 5) (getsF N c)) (93 + 14 * c + 3) 1) (93 + 14 * c + 6) (if N 3 0 3 = 0 then 1 else 0)) (93 + 14 * c + 13) (N 2 0 8)) 12 (N 2 0 8 + 1)
theorem RelR.plc {N : Nu} {v : Nat → Int32} (h : RelR N v) {c : Nat} (hc : c < 24) : RelR (plcN N c) (plcV N v c) := by
  have e : plcN N c = nset (nset (nset (nset (nset (nset N 9 c 4 (roomI N (N 9 c 0))) 9 c 5 (getsF N c)) 9 c 3 1) 9 c 6 (if N 3 0 3 = 0 then 1 else 0)) 9 c 13 (N 2 0 8)) 2 0 8 (N 2 0 8 + 1) := by
    unfold plcN
    rw [ns_comm (t := 9) (i := c) (j := 5) (t' := 9) (i' := c) (j' := 4) (fun q => absurd q.2.2 (by decide)), ns_comm (t := 2) (i := 0) (j := 8) (t' := 9) (i' := c) (j' := 13) (fun q => absurd q.1 (by decide))]
  have h1 := Rl.set (Rl.set (Rl.set (Rl.set (Rl.set (Rl.set h (bx9 (j := 4) hc (by decide)) (roomI N (N 9 c 0))) (bx9 (j := 5) hc (by decide)) (getsF N c)) (bx9 (j := 3) hc (by decide)) 1) (bx9 (j := 6) hc (by decide)) (if N 3 0 3 = 0 then 1 else 0)) (bx9 (j := 13) hc (by decide)) (N 2 0 8)) (bx2 (j := 8) (by decide) (by decide)) (N 2 0 8 + 1)
  rw [← e] at h1
  refine Rl.mono h1 fun t i j _ hl => ?_
  have hl1 : Lv N t i j := by
    have := hl.1
    unfold Lv at this ⊢
    rwa [plcN_sm.nR, plcN_sm.nC, plcN_sm.nK] at this
  by_cases q : t = 9 ∧ i = c ∧ j = 4
  · exact Or.inl (Or.inl (Or.inl (Or.inl (Or.inl (Or.inr q)))))
  · refine Or.inl (Or.inl (Or.inl (Or.inl (Or.inl (Or.inl ⟨hl1, fun a b => ?_⟩)))))
    have := hl.2 a b
    have hi : ¬ i = c := fun z => q ⟨a, z, b⟩
    have e3 : plcN N c 9 i 3 = N 9 i 3 := by simp [plcN, nset_ap, hi]
    rwa [e3] at this
def admX : Nat → Nu → Int32 → Int32
  | 0, _, x => x
  | f + 1, N, x => if nxtN N < nK N then admX f (plcN N (nxtN N)) (x ||| (1 <<< (nI (nxtN N) &&& 31))) else x
theorem nxt_can {N : Nu} (h : nxtN N < nK N) : canD N (nxtN N) := by
  unfold nxtN at h ⊢
  split
  · rename_i h2
    exact (low_p (fun c => canD N c ∧ sibD N c = true) (nK N) 0 (by rw [Nat.zero_add]; exact h2)).1
  · rename_i h2
    rw [if_neg h2] at h
    exact low_p (canD N) (nK N) 0 (by rw [Nat.zero_add]; exact h)
theorem wait_plc {N : Nu} {c : Nat} (hc : c < nK N) (h0 : N 9 c 3 = 0) : cnt (fun j => plcN N c 9 j 3 = 0) (nK N) + 1 = cnt (fun j => N 9 j 3 = 0) (nK N) := by
  refine cnt_one hc h0 fun j hj => ?_
  by_cases e : j = c
  · subst e
    have : plcN N j 9 j 3 = 1 := by simp [plcN, nset_ap]
    rw [this]
    exact ⟨fun q => absurd q (by decide), fun q => absurd rfl q.2⟩
  · have : plcN N c 9 j 3 = N 9 j 3 := by simp [plcN, nset_ap, e]
    rw [this]
    exact ⟨fun q => ⟨q, e⟩, fun q => q.1⟩
theorem S_Md_admits (hR : RelR N v) (hO : Ok N) {p : Nat} (h8 : N 2 0 8 = nI p) (hpb : p < 2 ^ 29) (hp : ∀ v', RelR (admN 24 N) v' → Ok (admN 24 N) → P (admX 24 N 0) (wv m v')) : RunI g h_Md_admits [vO 17 0 0] (wv m v) P := by
  refine RunI.ofGo rfl rfl (b_Md_admits_0 (S_Md_firstOne hR hO ?_))
  have key : ∀ f N v x p, RelR N v → Ok N → N 2 0 8 = nI p → p + f < 2 ^ 30 → cnt (fun j => N 9 j 3 = 0) (nK N) ≤ f → (∀ v', RelR (admN f N) v' → Ok (admN f N) → P (admX f N x) (wv m v')) → Go g h_Md_admits (QI P) 7 [(0, vO 17 0 0), (1, vI x), (2, vI (if nxtN N < nK N then nI (nxtN N) else -1))] [] (wv m v) := by
    intro f
    induction f with
    | zero =>
      intro N v x p hR hO h8 hpb hw hp
      have hno : ¬ nxtN N < nK N := fun q => by
        have := cnt_pos (p := fun j => N 9 j 3 = 0) q (nxt_can q).1
        omega
      rw [if_neg hno]
      exact b_Md_admits_7 ⟨fun _ => qi (hp v hR hO), fun q => absurd (by decide) q⟩
    | succ f ih =>
      intro N v x p hR hO h8 hpb hw hp
      by_cases hx : nxtN N < nK N
      · rw [if_pos hx]
        have hB := hO.1.1
        have h24 := hB.2.2.2
        have hcan := nxt_can hx
        have hc24 : nxtN N < 24 := by omega
        have hroom := gets_room hcan.2
        have hOk := ok_plc hO hx hcan (by rw [h8]; exact nI_pos (by omega))
        have hRk := hR.plc (c := nxtN N) hc24
        have hwt := wait_plc hx hcan.1
        have e1 : admN (f + 1) N = admN f (plcN N (nxtN N)) := if_pos hx
        have e2 : admX (f + 1) N x = admX f (plcN N (nxtN N)) (x ||| (1 <<< (nI (nxtN N) &&& 31))) := if_pos hx
        rw [e1, e2] at hp
        have e8 : plcN N (nxtN N) 2 0 8 = nI (p + 1) := by
          have : plcN N (nxtN N) 2 0 8 = N 2 0 8 + 1 := by simp [plcN, nset_ap]
          rw [this, h8, nI_1]
        have e6 := (plcN_sm (N := N) (c := nxtN N)).nK
        have nxt := ih (plcN N (nxtN N)) (plcV N v (nxtN N)) _ (p + 1) hRk hOk e8 (by omega) (by rw [e6]; omega) hp
        have hfst : ∀ m' : Mm, m' = wv m (plcV N v (nxtN N)) → RunI g h_Md_firstOne [vO 17 0 0] m' (fun r9 m9 => Go g h_Md_admits (QI P) 7 [(0, vO 17 0 0), (1, vI (x ||| (1 <<< (nI (nxtN N) &&& 31)))), (2, vI r9)] [] m9) := by
          rintro m' rfl
          exact S_Md_firstOne hRk hOk nxt
        have hk0 := hR.k (j := 0) hB hx (by decide) (fun q => absurd q (by decide))
        have hrv : roomV N (N 9 (nxtN N) 0) = roomI N (N 9 (nxtN N) 0) := by
          unfold roomV roomI
          rw [if_pos hroom, if_pos hroom]
        refine b_Md_admits_7 ⟨fun q => absurd q (nI_pos (by omega)), fun _ => S_Md_gets hR hO hx (S_Md_of (c := nxtN N) (j := 0) hc24 (by decide) ?_)⟩
        rw [hk0]
        refine S_Md_roomOf hR hO ?_
        rw [hrv]
        refine S_Md_put3 (c := nxtN N) (j := 4) hc24 (by decide) (S_Md_put3 (c := nxtN N) (j := 5) hc24 (by decide) (S_Md_put3 (c := nxtN N) (j := 3) hc24 (by decide) ⟨vp_in_nI (n := 3) (by decide) (by decide), ?_⟩))
        rw [wv_at, pk_un (show ¬ 3 = 93 + 14 * nxtN N + 3 by omega), pk_un (show ¬ 3 = 93 + 14 * nxtN N + 5 by omega), pk_un (show ¬ 3 = 93 + 14 * nxtN N + 4 by omega), hR.s (j := 3) (by decide)]
        have h12 := hR.v12
        refine ⟨fun q => S_Md_put3 (c := nxtN N) (j := 6) hc24 (by decide) ⟨vp_in_nI (n := 12) (by decide) (by decide), S_Md_put3 (c := nxtN N) (j := 13) hc24 (by decide) ⟨vp_in_nI (n := 12) (by decide) (by decide), vp_in_nI (n := 12) (by decide) (by decide), hfst _ ?_⟩⟩, fun q => S_Md_put3 (c := nxtN N) (j := 6) hc24 (by decide) ⟨vp_in_nI (n := 12) (by decide) (by decide), S_Md_put3 (c := nxtN N) (j := 13) hc24 (by decide) ⟨vp_in_nI (n := 12) (by decide) (by decide), vp_in_nI (n := 12) (by decide) (by decide), hfst _ ?_⟩⟩⟩
        · rw [wv_at, wv_at, mv]
          unfold plcV
          rw [if_neg q, pk_un (show ¬ 12 = 93 + 14 * nxtN N + 13 by omega), pk_un (show ¬ 12 = 93 + 14 * nxtN N + 6 by omega), pk_un (show ¬ 12 = 93 + 14 * nxtN N + 3 by omega), pk_un (show ¬ 12 = 93 + 14 * nxtN N + 5 by omega), pk_un (show ¬ 12 = 93 + 14 * nxtN N + 4 by omega), h12]
        · rw [wv_at, wv_at, mv]
          unfold plcV
          rw [if_pos q, pk_un (show ¬ 12 = 93 + 14 * nxtN N + 13 by omega), pk_un (show ¬ 12 = 93 + 14 * nxtN N + 6 by omega), pk_un (show ¬ 12 = 93 + 14 * nxtN N + 3 by omega), pk_un (show ¬ 12 = 93 + 14 * nxtN N + 5 by omega), pk_un (show ¬ 12 = 93 + 14 * nxtN N + 4 by omega), h12]
      · rw [if_neg hx]
        have e1 : admN (f + 1) N = N := if_neg hx
        have e2 : admX (f + 1) N x = x := if_neg hx
        rw [e1, e2] at hp
        exact b_Md_admits_7 ⟨fun _ => qi (hp v hR hO), fun q => absurd (by decide) q⟩
  exact key 24 N v 0 p hR hO h8 (by omega) (by have := cnt_le (fun j => N 9 j 3 = 0) (nK N); have := hO.1.1.2.2.2; omega) hp
theorem admX_pc : ∀ f N x, nK N ≤ 24 → (∀ j, j < nK N → Has x (nI j) → ¬ N 9 j 3 = 0) → pcI (admX f N x) = pcI x + admC f N
  | 0, N, x, _, _ => by
    unfold admX admC
    rw [Nat.add_zero]
  | f + 1, N, x, h24, h => by
    unfold admX admC
    by_cases hx : nxtN N < nK N
    · rw [if_pos hx, if_pos hx]
      have hc := nxt_can hx
      have e6 := (plcN_sm (N := N) (c := nxtN N)).nK
      rw [admX_pc f (plcN N (nxtN N)) _ (by rw [e6]; exact h24) (fun j hj q => ?_)]
      · have hno : ¬ Has x (nI (nxtN N)) := fun q => h _ hx q hc.1
        have : pcI x + 1 = pcI (x ||| (1 <<< (nI (nxtN N) &&& 31))) := by
          rw [pcI_cnt, pcI_cnt]
          refine cnt_one (c := nxtN N) (by omega) ((has_or (by omega)).mpr (Or.inr ((has_one (by omega) (by omega)).mpr rfl))) fun j hj => ?_
          rw [has_or hj, has_one (by omega) hj]
          refine ⟨fun q => ⟨Or.inl q, fun e => hno (e ▸ q)⟩, fun q => q.1.resolve_right q.2⟩
        omega
      · rw [e6] at hj
        rw [has_or (by omega), has_one (by omega) (by omega)] at q
        by_cases e : j = nxtN N
        · have : plcN N (nxtN N) 9 j 3 = 1 := by rw [e]; simp [plcN, nset_ap]
          rw [this]; decide
        · have : plcN N (nxtN N) 9 j 3 = N 9 j 3 := by simp [plcN, nset_ap, e]
          rw [this]
          exact h j hj (q.resolve_right e)
    · rw [if_neg hx, if_neg hx, Nat.add_zero]
theorem admN_sm : ∀ f N, Sm N (admN f N)
  | 0, _ => Sm.rfl'
  | f + 1, N => by
    unfold admN
    split
    · exact plcN_sm.trans (admN_sm f _)
    · exact Sm.rfl'
theorem admX_has : ∀ f N x, nK N ≤ 24 → ∀ j, j < 32 → (Has (admX f N x) (nI j) ↔ Has x (nI j) ∨ (j < nK N ∧ admN f N 9 j 3 = 1 ∧ ¬ N 9 j 3 = 1)) ∧ (N 9 j 3 = 1 → admN f N 9 j 3 = 1)
  | 0, N, x, _, j, _ => ⟨⟨Or.inl, fun q => q.elim id (fun z => absurd z.2.1 z.2.2)⟩, id⟩
  | f + 1, N, x, h24, j, hj => by
    unfold admX admN
    by_cases hx : nxtN N < nK N
    · rw [if_pos hx, if_pos hx]
      have hc := nxt_can hx
      have e6 := (plcN_sm (N := N) (c := nxtN N)).nK
      obtain ⟨i1, i2⟩ := admX_has f (plcN N (nxtN N)) (x ||| (1 <<< (nI (nxtN N) &&& 31))) (by rw [e6]; exact h24) j hj
      rw [i1, has_or hj, has_one (by omega) hj, e6]
      by_cases e : j = nxtN N
      · have h1 : plcN N (nxtN N) 9 j 3 = 1 := by rw [e]; simp [plcN, nset_ap]
        have h0 : ¬ N 9 j 3 = 1 := by rw [e, hc.1]; decide
        refine ⟨⟨fun _ => Or.inr ⟨by omega, i2 h1, h0⟩, fun _ => Or.inl (Or.inr e)⟩, fun q => absurd q h0⟩
      · have h1 : plcN N (nxtN N) 9 j 3 = N 9 j 3 := by simp [plcN, nset_ap, e]
        rw [h1] at i2 ⊢
        refine ⟨⟨fun q => q.elim (fun z => Or.inl (z.resolve_right e)) Or.inr, fun q => q.elim (fun z => Or.inl (Or.inl z)) Or.inr⟩, i2⟩
    · rw [if_neg hx, if_neg hx]
      exact ⟨⟨Or.inl, fun q => q.elim id (fun z => absurd z.2.1 z.2.2)⟩, id⟩
theorem admN_8 : ∀ f N p, N 2 0 8 = nI p → ∃ q, q ≤ p + f ∧ admN f N 2 0 8 = nI q
  | 0, N, p, h => ⟨p, by omega, h⟩
  | f + 1, N, p, h => by
    unfold admN
    split
    · have e : plcN N (nxtN N) 2 0 8 = nI (p + 1) := by
        have : plcN N (nxtN N) 2 0 8 = N 2 0 8 + 1 := by simp [plcN, nset_ap]
        rw [this, h, nI_1]
      obtain ⟨q, h1, h2⟩ := admN_8 f _ (p + 1) e
      exact ⟨q, by omega, h2⟩
    · exact ⟨p, by omega, h⟩
end RW
