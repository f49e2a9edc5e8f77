/-! ORDERS: what one does, in class and reference -/
def chiD (N : Nu) (a f w : Int32) : Int32 × Nu := if ChildB a f w then (if nK N = 24 then (-4, N) else (nI (nK N), addKN N a f w)) else (-2, N)
def sicD (N : Nu) (x : Int32) : Int32 × Nu := if ¬ x < 0 ∧ ¬ N 2 0 5 ≤ x then (if N 8 x.toNatClampNeg 4 = 0 then (nI (cnt (fun j => ¬ nset N 8 x.toNatClampNeg 4 1 8 j 4 = 0) (nC N)), nset N 8 x.toNatClampNeg 4 1) else (-5, N)) else (-1, N)
def visD (N : Nu) (x y : Int32) : Int32 × Nu := if (¬ x < 0 ∧ ¬ N 2 0 6 ≤ x) ∧ (¬ y < 0 ∧ ¬ 9 < y) then (if (N 9 x.toNatClampNeg 3 = 1 ∧ N 9 x.toNatClampNeg 6 = 0 ∧ N 9 x.toNatClampNeg 8 = -6) ∧ (Has (N 9 x.toNatClampNeg 5) y ∨ visP N (rmN N x.toNatClampNeg) y.toNatClampNeg) then (nI (cnt (fun j => ¬ nset N 9 x.toNatClampNeg 8 y 9 j 8 = -6) (nK N)), nset N 9 x.toNatClampNeg 8 y) else (-5, N)) else (-1, N)
def swaD (N : Nu) (x y z w : Int32) : Int32 × Nu := if (¬ x < 0 ∧ ¬ N 2 0 6 ≤ x) ∧ (¬ z < 0 ∧ ¬ N 2 0 6 ≤ z) ∧ ¬ x = z ∧ (¬ y < 0 ∧ ¬ 9 < y) ∧ (¬ w < 0 ∧ ¬ 9 < w) then (if canP N x.toNatClampNeg y.toNatClampNeg z.toNatClampNeg w.toNatClampNeg then (1, excN N x.toNatClampNeg y.toNatClampNeg z.toNatClampNeg w.toNatClampNeg) else (-5, N)) else (-1, N)
def weeD (N : Nu) (x : Int32) : Int32 × Nu := if ¬ x < 1 ∧ ¬ 52 < x then (runN (fun _ => wekN) N x.toNatClampNeg 2 0 7, runN (fun _ => wekN) N x.toNatClampNeg) else (-2, N)
def doN (l : Int32) (n : Nat → Int32) (N : Nu) : Int32 × Nu := if l = 97 then (nI (admC 24 N), admN 24 N) else if l = 99 then chiD N (n 0) (n 1) (n 2) else if l = 115 then sicD N (n 0) else if l = 118 then visD N (n 0) (n 1) else if l = 119 then weeD N (n 0) else swaD N (n 0) (n 1) (n 2) (n 3)
theorem doN_agree {l : Int32} {n n' : Nat → Int32} {N : Nu} (hl : ¬ frmF l = none) (h : ∀ i, i < nml l → n' i = n i) : doN l n' N = doN l n N := by
  have e : ∀ i, i < nml l → n i = n' i := fun i hi => (h i hi).symm
  unfold doN
  by_cases l1 : l = 97
  · rw [if_pos l1, if_pos l1]
  · rw [if_neg l1, if_neg l1]
    by_cases l2 : l = 99
    · have : nml l = 3 := by rw [l2]; rfl
      rw [if_pos l2, if_pos l2, e 0 (by omega), e 1 (by omega), e 2 (by omega)]
    · rw [if_neg l2, if_neg l2]
      by_cases l3 : l = 115
      · have : nml l = 1 := by rw [l3]; rfl
        rw [if_pos l3, if_pos l3, e 0 (by omega)]
      · rw [if_neg l3, if_neg l3]
        by_cases l4 : l = 118
        · have : nml l = 2 := by rw [l4]; rfl
          rw [if_pos l4, if_pos l4, e 0 (by omega), e 1 (by omega)]
        · rw [if_neg l4, if_neg l4]
          by_cases l5 : l = 119
          · have : nml l = 1 := by rw [l5]; rfl
            rw [if_pos l5, if_pos l5, e 0 (by omega)]
          · rw [if_neg l5, if_neg l5]
            have l6 : l = 120 := by
              by_cases q : l = 120
              · exact q
              · exact absurd ((if_neg l1).trans ((if_neg l2).trans ((if_neg l3).trans ((if_neg l4).trans ((if_neg l5).trans (if_neg q)))))) hl
            have : nml l = 4 := by rw [l6]; rfl
            rw [e 0 (by omega), e 1 (by omega), e 2 (by omega), e 3 (by omega)]
theorem hls_ok {N : Nu} (hO : Ok N) : Ok (hlsN N) := by
  have hH := (hs_hls (N := N) (10 * nR N)).1
  show Ok (runN _ N _)
  refine ok_kids hO hH.sm (hH.t (by decide) (by decide)) (hH.t (by decide) (by decide)) (hH.t (by decide) (by decide)) fun i hi => ?_
  have := hO.k1 hi
  unfold K1 at this ⊢
  rw [hH.sm.nR, hH.k (by decide), hH.k (by decide), hH.k (by decide), hH.k (by decide), hH.k (by decide), hH.k (by decide)]
  exact this
theorem wek_ok {N : Nu} (hO : Ok N) (hP : Pl N) : Ok (wekN N) ∧ Pl (wekN N) := by
  have k1 : Ks N (hlsN N) := hlsN_ks
  have o1 := ok_run (hls_ok hO) (fun _ _ => stlN_ks) (fun j M hM hj => ok_stl hM hj) (nK N) (by rw [k1.1.nK]; exact Nat.le_refl _)
  have k2 : Ks N (runN stlN (hlsN N) (nK N)) := k1.trans (runN_ks (fun _ _ => stlN_ks) _)
  unfold wekN
  generalize runN stlN (hlsN N) (nK N) = M at *
  have k3 : Ks N (nset M 2 0 7 (M 2 0 7 + 1)) := k2.n2 (by decide)
  have o3 : Ok (nset M 2 0 7 (M 2 0 7 + 1)) := ok_n2 o1 (by decide)
  rw [bgw_alt]
  have ob : Ok (runN bgnN (nset M 2 0 7 (M 2 0 7 + 1)) (nK M)) := ok_run o3 (fun _ _ => bgnN_ks) (fun j L hL hj => ok_bgn hL hj) (nK M) (by rw [k3.1.nK, k2.1.nK]; exact Nat.le_refl _)
  have kb : Ks N (runN bgnN (nset M 2 0 7 (M 2 0 7 + 1)) (nK M)) := k3.trans (runN_ks (fun _ _ => bgnN_ks) _)
  have ab : A8 (runN bgnN (nset M 2 0 7 (M 2 0 7 + 1)) (nK M)) := fun i hi => a8_bgn (nK M) (by rw [k3.1.nK, k2.1.nK]; exact Nat.le_refl _) i (by rw [kb.1.nK] at hi; rw [k2.1.nK]; exact hi)
  generalize runN bgnN (nset M 2 0 7 (M 2 0 7 + 1)) (nK M) = B at *
  have ow : Ok (runN wellN B (nC M)) := runN_inv (I := Ok) ob (fun j L q => ok_n8 q (Or.inl rfl)) _
  have kw : Ks N (runN wellN B (nC M)) := kb.trans (runN_ks (fun _ _ => wellN_ks) _)
  have aw : A8 (runN wellN B (nC M)) := runN_inv (I := A8) ab (fun j L q => a8_well q j) _
  generalize runN wellN B (nC M) = W at *
  have om := ok_run ow (fun _ _ => mvgN_ks) (fun j L hL hj => ok_mvg hL hj) (nK N) (by rw [kw.1.nK]; exact Nat.le_refl _)
  have km : Ks N (runN mvgN W (nK N)) := kw.trans (runN_ks (fun _ _ => mvgN_ks) _)
  have am : A8 (runN mvgN W (nK N)) := runN_inv (I := A8) aw (fun j L q => a8_mvg q j) _
  generalize runN mvgN W (nK N) = V at *
  have od := ok_run om (fun _ _ => drpN_ks) (fun j L hL hj => ok_drp hL hj) (nK N) (by rw [km.1.nK]; exact Nat.le_refl _)
  have ad : A8 (runN drpN V (nK N)) := runN_inv (I := A8) am (fun j L q => a8_drp q j) _
  exact ⟨od, fun i hi _ => ad i hi⟩
/-- what holds behind an order -/
theorem do_ok {b : Nat} {l : Int32} {n : Nat → Int32} {N : Nu} (hO : Ok N) (hP : Pl N) (hT : Tm b N) (hb : b < 2 ^ 28) : Ok (doN l n N).2 ∧ Pl (doN l n N).2 ∧ Tm (b + 60) (doN l n N).2 := by
  have hN : Ok N ∧ Pl N ∧ Tm (b + 60) N := ⟨hO, hP, hT.mono (by omega)⟩
  have h24 := hO.1.1.2.2.2
  have h12 := hO.1.2
  unfold doN
  split
  · obtain ⟨q1, q2, q3⟩ := adm_all hO hP hT hb
    exact ⟨q1, q2, q3.mono (by omega)⟩
  · split
    · unfold chiD
      split
      · split
        · exact hN
        · dsimp only
          exact ⟨ok_addK hO (by omega), pl_addK hP (by omega), (hT.mono (by omega)).of (addKN_o ⟨by simp, by simp⟩) (addKN_o ⟨by simp, by simp⟩)⟩
      · exact hN
    · split
      · unfold sicD
        split
        · split
          · dsimp only
            exact ⟨ok_n8 hO (Or.inr rfl), pl_of hP (ns_t (by decide)) (fun _ => ns_t (by decide)) (fun _ => ns_t (by decide)), (hT.mono (by omega)).of (ns_t (by decide)) (ns_t (by decide))⟩
          · exact hN
        · exact hN
      · split
        · unfold visD
          split
          · rename_i hx
            split
            · rename_i hq
              have hx1 := hx.1
              rw [hO.1.1.2.2.1] at hx1
              obtain ⟨c, hc, ec⟩ := (hasG (by omega)).mp hx1
              obtain ⟨s, hs, es⟩ := nI_of2 (M := 9) (n := 9) (by decide) hx.2.1 (Int32.not_lt.mp hx.2.2)
              dsimp only
              rw [ec, nI_clamp (n := c) (by omega)] at hq ⊢
              rw [es] at hq ⊢
              exact ⟨ok_vst hO hc (by omega) hq.1.1, pl_vst hP hq.1.2.1, (hT.mono (by omega)).of (ns_t (by decide)) (ns_t (by decide))⟩
            · exact hN
          · exact hN
        · split
          · unfold weeD
            split
            · rename_i hx
              have h00 : ¬ n 0 < 0 := fun q => hx.1 (Int32.lt_trans q (by decide))
              obtain ⟨w, hw, ew⟩ := nI_of2 (M := 52) (n := 52) (by decide) h00 (Int32.not_lt.mp hx.2)
              rw [ew, nI_clamp (n := w) (by omega)]
              have hrun : Ok (runN (fun _ => wekN) N w) ∧ Pl (runN (fun _ => wekN) N w) := by
                clear hx ew hw
                induction w with
                | zero => exact ⟨hO, hP⟩
                | succ w ih => exact wek_ok ih.1 ih.2
              exact ⟨hrun.1, hrun.2, (ok_wks hO hT w).mono (by omega)⟩
            · exact hN
          · unfold swaD
            split
            · rename_i hx
              split
              · rename_i hq
                obtain ⟨hx1, hx2, hx3, hx4, hx5⟩ := hx
                rw [hO.1.1.2.2.1] at hx1 hx2
                obtain ⟨a, ha, ea⟩ := (hasG (by omega)).mp hx1
                obtain ⟨c, hc, ec⟩ := (hasG (by omega)).mp hx2
                obtain ⟨s, hs, es⟩ := nI_of2 (M := 9) (n := 9) (by decide) hx4.1 (Int32.not_lt.mp hx4.2)
                obtain ⟨t, ht, et⟩ := nI_of2 (M := 9) (n := 9) (by decide) hx5.1 (Int32.not_lt.mp hx5.2)
                have ne : ¬ a = c := fun z => hx3 (by rw [ea, ec, z])
                dsimp only
                rw [ea, ec, es, et, nI_clamp (n := a) (by omega), nI_clamp (n := c) (by omega), nI_clamp (n := s) (by omega), nI_clamp (n := t) (by omega)] at hq ⊢
                exact ⟨ok_exc hO ha (by omega) hc (by omega) ne hq, pl_ses (pl_ses hP), (hT.mono (by omega)).of (by simp [excN, nset_ap]) (by simp [excN, nset_ap])⟩
              · exact hN
            · exact hN
section OR
variable {g : Wg} {m m' : Mm} {b : Nat} {v : Nat → Int32} {P : Int32 → Mm → Prop} {N : Nu}
theorem T_order {l : Int32} {n : Nat → Int32} (hl : ¬ frmF l = none) (h14 : m (14, 0, 0) 3 = l) (h16 : m (16, 0, 0) = n) (hO : Ok N) (hp : P (doN l n N).1 (wr m 0 (doN l n N).2)) : RunI g h_N_carryOutOrder [vO 1 0 0] (wr m 0 N) P := by
  have h24 := hO.1.1.2.2.2
  have h12 := hO.1.2
  have w14 : wr m 0 N (14, 0, 0) 3 = l := by rw [wr_big (by decide)]; exact h14
  have w16 : wr m 0 N (16, 0, 0) = n := by rw [wr_big (by decide)]; exact h16
  have v0 : vp_in 0 4 := vp_in_nI (n := 0) (by decide) (by decide)
  have v1 : vp_in 1 4 := vp_in_nI (n := 1) (by decide) (by decide)
  have v2 : vp_in 2 4 := vp_in_nI (n := 2) (by decide) (by decide)
  have v3 : vp_in 3 4 := vp_in_nI (n := 3) (by decide) (by decide)
  refine RunI.ofGo rfl rfl (b_N_carryOutOrder_0 ?_)
  rw [w14, w16]
  unfold doN at hp
  refine ⟨fun e => ?_, fun e1 => ⟨fun e => ⟨v0, v1, v2, ?_⟩, fun e2 => ⟨fun e => ⟨v0, ?_⟩, fun e3 => ⟨fun e => ⟨v0, v1, ?_⟩, fun e4 => ⟨fun e => ⟨v0, ?_⟩, fun e5 => ⟨fun e => ⟨v0, v1, v2, v3, ?_⟩, fun e6 => absurd ((if_neg e1).trans ((if_neg e2).trans ((if_neg e3).trans ((if_neg e4).trans ((if_neg e5).trans (if_neg e6)))))) hl⟩⟩⟩⟩⟩⟩
  · rw [if_pos e] at hp
    exact T_Ad_admitAll hO.1.1 (qi hp)
  · rw [if_neg e1, if_pos e] at hp
    unfold chiD at hp
    refine T_St_addChild hO.1.1 (fun q => qi ?_) (fun q k => qi ?_) (fun q k => qi ?_)
    · rwa [if_neg q] at hp
    · rwa [if_pos q, if_pos k] at hp
    · rwa [if_pos q, if_neg (by omega)] at hp
  · rw [if_neg e1, if_neg e2, if_pos e] at hp
    unfold sicD at hp
    refine T_St_reportSick hO.1.1 (fun q => qi ?_) (fun c hc ec q => qi ?_) (fun c hc ec q => qi ?_)
    · rwa [if_neg q] at hp
    · rw [ec, if_pos (has_car hO hc), nI_clamp (n := c) (by omega), if_neg q] at hp
      exact hp
    · rw [ec, if_pos (has_car hO hc), nI_clamp (n := c) (by omega), if_pos q] at hp
      exact hp
  · rw [if_neg e1, if_neg e2, if_neg e3, if_pos e] at hp
    unfold visD at hp
    refine T_Se_planVisit hO.1.1 hO.2.1 (fun q => qi ?_) (fun c s hc ec hs es q => qi ?_) (fun c s hc ec hs es q q2 q3 => qi ?_) (fun c s hc ec hs es q q2 => qi ?_)
    · rwa [if_neg q] at hp
    · rw [ec, es, if_pos ⟨has_kid hO hc, in9 hs⟩, nI_clamp (n := c) (by omega), nI_clamp (n := s) (by omega), if_neg (fun z => q z.1)] at hp
      exact hp
    · rw [ec, es, if_pos ⟨has_kid hO hc, in9 hs⟩, nI_clamp (n := c) (by omega), nI_clamp (n := s) (by omega), if_neg (fun z => z.2.elim q2 q3)] at hp
      exact hp
    · rw [ec, es, if_pos ⟨has_kid hO hc, in9 hs⟩, nI_clamp (n := c) (by omega), nI_clamp (n := s) (by omega), if_pos ⟨q, q2⟩] at hp
      exact hp
  · rw [if_neg e1, if_neg e2, if_neg e3, if_neg e4, if_pos e] at hp
    unfold weeD at hp
    refine T_Wk_passWeeks (wi_ok hO) (fun q => qi ?_) (fun w h1 h2 ew => qi ?_)
    · rwa [if_neg q] at hp
    · rw [ew, if_pos (show ¬ nI w < 1 ∧ ¬ 52 < nI w from (win (a := 1) (b := 52) (by omega) (by decide) (by decide)).mpr ⟨h1, h2⟩), nI_clamp (n := w) (by omega)] at hp
      exact hp
  · rw [if_neg e1, if_neg e2, if_neg e3, if_neg e4, if_neg e5] at hp
    unfold swaD at hp
    refine T_Se_exchange hO.1.1 hO.2.1 (fun q => qi ?_) (fun a s c t ha ea hs es hc ec ht et ne q => qi ?_) (fun a s c t ha ea hs es hc ec ht et ne q => qi ?_)
    · rwa [if_neg q] at hp
    · rw [ea, es, ec, et, if_pos ⟨has_kid hO ha, has_kid hO hc, fun z => ne ((nI_eq (by omega) (by omega)).mp z), in9 hs, in9 ht⟩, nI_clamp (n := a) (by omega), nI_clamp (n := s) (by omega), nI_clamp (n := c) (by omega), nI_clamp (n := t) (by omega), if_neg q] at hp
      exact hp
    · rw [ea, es, ec, et, if_pos ⟨has_kid hO ha, has_kid hO hc, fun z => ne ((nI_eq (by omega) (by omega)).mp z), in9 hs, in9 ht⟩, nI_clamp (n := a) (by omega), nI_clamp (n := s) (by omega), nI_clamp (n := c) (by omega), nI_clamp (n := t) (by omega), if_pos q] at hp
      exact hp
theorem S_order {l : Int32} {n : Nat → Int32} (hl : ¬ frmF l = none) (h13 : m (17, 0, 0) 13 = l) (h8 : m (18, 8, 0) = n) (hquiet : ¬ m (17, 0, 0) 4 = 0) (hR : RelR N v) (hO : Ok N) (hPl : Pl N) (hT : Tm b N) (hb : b < 2 ^ 28) (hp : ∀ v' T H, RelR (doN l n N).2 v' → P (doN l n N).1 (wv (th m T H) v')) : RunI g h_Md_doOrder [vO 17 0 0] (wv m v) P := by
  have h24 := hO.1.1.2.2.2
  have h12 := hO.1.2
  have hrec : Rcd m v m := Or.inl ⟨hquiet, rfl⟩
  have w13 : wv m v (17, 0, 0) 13 = l := by rw [wv_ne (by decide)]; exact h13
  have w8 : wv m v (18, 8, 0) = n := by rw [wv_ne (by decide)]; exact h8
  have v0 : vp_in 0 4 := vp_in_nI (n := 0) (by decide) (by decide)
  have v1 : vp_in 1 4 := vp_in_nI (n := 1) (by decide) (by decide)
  have v2 : vp_in 2 4 := vp_in_nI (n := 2) (by decide) (by decide)
  have v3 : vp_in 3 4 := vp_in_nI (n := 3) (by decide) (by decide)
  have hp2 : ∀ v', RelR (doN l n N).2 v' → P (doN l n N).1 (wv m v') := fun v' h => by
    have := hp v' (m (18, 6, 0)) (m (18, 7, 0)) h
    rwa [th_id] at this
  refine RunI.ofGo rfl rfl (b_Md_doOrder_0 ?_)
  rw [w13, w8]
  unfold doN at hp hp2
  refine ⟨fun e => ?_, fun e1 => ⟨fun e => ⟨v0, v1, v2, ?_⟩, fun e2 => ⟨fun e => ⟨v0, ?_⟩, fun e3 => ⟨fun e => ⟨v0, v1, ?_⟩, fun e4 => ⟨fun e => ⟨v0, v1, v2, v3, ?_⟩, fun e6 => ⟨v0, ?_⟩⟩⟩⟩⟩⟩
  · rw [if_pos e] at hp2
    obtain ⟨p, w, h1, h2, h3, h4⟩ := hT
    exact S_Md_admit hR hO hrec h3 (by omega) (fun v' hv _ => qi (hp2 v' hv))
  · rw [if_neg e1, if_pos e] at hp2
    unfold chiD at hp2
    refine S_Md_child hR hO hrec (fun q => qi ?_) (fun q k => qi ?_) (fun q k v' hv => qi ?_)
    · rw [if_neg q] at hp2; exact hp2 v hR
    · rw [if_pos q, if_pos k] at hp2; exact hp2 v hR
    · rw [if_pos q, if_neg (by omega)] at hp2; exact hp2 v' hv
  · rw [if_neg e1, if_neg e2, if_pos e] at hp2
    unfold sicD at hp2
    refine S_Md_sick hR hO hrec (fun q => qi ?_) (fun c hc ec q => qi ?_) (fun c hc ec q v' hv => qi ?_)
    · rw [if_neg q] at hp2; exact hp2 v hR
    · rw [ec, if_pos (has_car hO hc), nI_clamp (n := c) (by omega), if_neg q] at hp2
      exact hp2 v hR
    · rw [ec, if_pos (has_car hO hc), nI_clamp (n := c) (by omega), if_pos q] at hp2
      exact hp2 v' hv
  · rw [if_neg e1, if_neg e2, if_neg e3, if_pos e] at hp2
    unfold visD at hp2
    refine S_Md_visit hR hO hrec (fun q => qi ?_) (fun c s hc ec hs es q => qi ?_) (fun c s hc ec hs es q q2 q3 => qi ?_) (fun c s hc ec hs es q q2 v' hv => qi ?_)
    · rw [if_neg q] at hp2; exact hp2 v hR
    · rw [ec, es, if_pos ⟨has_kid hO hc, in9 hs⟩, nI_clamp (n := c) (by omega), nI_clamp (n := s) (by omega), if_neg (fun z => q z.1)] at hp2
      exact hp2 v hR
    · rw [ec, es, if_pos ⟨has_kid hO hc, in9 hs⟩, nI_clamp (n := c) (by omega), nI_clamp (n := s) (by omega), if_neg (fun z => z.2.elim q2 q3)] at hp2
      exact hp2 v hR
    · rw [ec, es, if_pos ⟨has_kid hO hc, in9 hs⟩, nI_clamp (n := c) (by omega), nI_clamp (n := s) (by omega), if_pos ⟨q, q2⟩] at hp2
      exact hp2 v' hv
  · have e5 : ¬ l = 119 := by rw [e]; decide
    rw [if_neg e1, if_neg e2, if_neg e3, if_neg e4, if_neg e5] at hp2
    unfold swaD at hp2
    refine S_Md_swap hR hO hrec (fun q => qi ?_) (fun a s c t ha ea hs es hc ec ht et ne q => qi ?_) (fun a s c t ha ea hs es hc ec ht et ne q v' hv => qi ?_)
    · rw [if_neg q] at hp2; exact hp2 v hR
    · rw [ea, es, ec, et, if_pos ⟨has_kid hO ha, has_kid hO hc, fun z => ne ((nI_eq (by omega) (by omega)).mp z), in9 hs, in9 ht⟩, nI_clamp (n := a) (by omega), nI_clamp (n := s) (by omega), nI_clamp (n := c) (by omega), nI_clamp (n := t) (by omega), if_neg q] at hp2
      exact hp2 v hR
    · rw [ea, es, ec, et, if_pos ⟨has_kid hO ha, has_kid hO hc, fun z => ne ((nI_eq (by omega) (by omega)).mp z), in9 hs, in9 ht⟩, nI_clamp (n := a) (by omega), nI_clamp (n := s) (by omega), nI_clamp (n := c) (by omega), nI_clamp (n := t) (by omega), if_pos q] at hp2
      exact hp2 v' hv
  · have e5 : l = 119 := by
      by_cases q : l = 119
      · exact q
      · exact absurd ((if_neg e1).trans ((if_neg e2).trans ((if_neg e3).trans ((if_neg e4).trans ((if_neg q).trans (if_neg e6)))))) hl
    rw [if_neg e1, if_neg e2, if_neg e3, if_neg e4, if_pos e5] at hp
    unfold weeD at hp
    refine S_Md_weeks hR hO hPl hrec (fun q => qi ?_) (fun w h1 h2 ew v' T H hv _ _ => qi ?_)
    · rw [if_neg q] at hp
      have := hp v (m (18, 6, 0)) (m (18, 7, 0)) hR
      rwa [th_id] at this
    · rw [ew, if_pos (show ¬ nI w < 1 ∧ ¬ 52 < nI w from (win (a := 1) (b := 52) (by omega) (by decide) (by decide)).mpr ⟨h1, h2⟩), nI_clamp (n := w) (by omega)] at hp
      exact hp v' T H hv
end OR
