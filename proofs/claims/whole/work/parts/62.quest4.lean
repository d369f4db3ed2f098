/-! questions that reckon laws: cell, land, richest, step; border -/
def wfull (F lv : Nat) (V : XV) (T : XT) (W : Nat → Int32) (I : XI) : Prop := core lv T W I ∧ lawR F lv V I
theorem wfull_X {F lv : Nat} {V : XV} {T : XT} {W : Nat → Int32} {I J : XI} (h : wfull F lv V T W I) (hs : Same scX I J) : wfull F lv V T W J := ⟨core_X h.1 hs, lawR_X h.2 hs⟩
theorem Same.RH {I J : XI} (h : Same scR I J) : Same scH I J := h.mono (fun _ _ e => scH_R e)
theorem Same.QM {I J : XI} (h : Same scQ I J) : Same scM I J := h.mono (fun _ _ e => scM_Q e)
theorem cnt_lnk0 {T : XT} {W : Nat → Int32} {a : Nat} (h : lie W a = false) : cnt (lnk T W a) 4 = 0 := by
  apply cnt_pos.mpr
  intro s _
  unfold lnk
  cases nb T a s with
  | none => rfl
  | some b =>
    show (lie W a && (lie W b && fit T W a s b)) = false
    rw [h]
    rfl
def qCell (V : XV) (T : XT) (W : Nat → Int32) (d x y w : Int32) : Int32 := if inC T x y = true then
    (if w < 0 ∨ 4 < w then -1 else if w = 0 then tl T (6 * xN y + xN x) else if w = 1 then b2 (lie W (6 * xN y + xN x)) else if w = 2 then Int32.ofNat (cnt (lnk T W (6 * xN y + xN x)) 4)
      else if w = 3 then (if lie W (6 * xN y + xN x) = true then sFalls V T W d (6 * xN y + xN x) else 0) else if W (6 * xN y + xN x) < 0 then -2 else W (6 * xN y + xN x)) else -1
theorem ge5 {w : Int32} (h : ¬ (w < 0 ∨ 4 < w)) (h0 : ¬ w = 0) (h1 : ¬ w = 1) (h2 : ¬ w = 2) (h3 : ¬ w = 3) : w = 4 := by
  rw [not_or, Int32.lt_iff_toInt_lt, Int32.lt_iff_toInt_lt] at h
  have t0 : (0 : Int32).toInt = 0 := by decide
  have t1 : (1 : Int32).toInt = 1 := by decide
  have t2 : (2 : Int32).toInt = 2 := by decide
  have t3 : (3 : Int32).toInt = 3 := by decide
  have t4 : (4 : Int32).toInt = 4 := by decide
  rw [← Int32.toInt_inj] at h0 h1 h2 h3 ⊢
  omega
theorem h_cell {F : Nat} (hF : 4000000 ≤ F) {lv : Nat} {V : XV} {T : XT} {W : Nat → Int32} {I : XI} (hX : wfull F lv V T W I) {x y w : Int32} : xOk (f_H_cell F x y w I) (fun r => r.1 = qCell V T W (I 26 1) x y w ∧ Same scH I r.2) := by
  obtain ⟨hC, hL⟩ := hX
  obtain ⟨⟨hO, -, -⟩, ⟨hT, hM⟩, ⟨h4, hW, h6⟩, -, -⟩ := hC
  unfold f_H_cell qCell
  rcases cellCases hO x y with hc | ⟨a, ha, hi, hc, rfl, rfl⟩
  · refine xOk.bnde (c_cellAt_out hT hO hc) (xOk.pos rfl (xOk.pur ⟨?_, Same.rfl⟩))
    rw [hc, iFT]
  · refine xOk.bnde (c_cellAt_in hT hO ha hi) (xOk.neg (oi_nm1 ha) ?_)
    rw [hc, cell_N ha, iTT]
    by_cases g : w < 0 ∨ 4 < w
    · rw [if_pos g, if_pos g]
      exact xOk.pur ⟨rfl, Same.rfl⟩
    rw [if_neg g, if_neg g]
    by_cases g0 : w = 0
    · rw [if_pos g0, if_pos g0]
      refine xOk.ck (nk_in ha (by omega)) (xOk.pur ⟨?_, Same.rfl⟩)
      show I 18 _ = _
      rw [nk_N (by omega), show I 18 = tl T from hT.2.2.2.1]
    rw [if_neg g0, if_neg g0]
    by_cases g1 : w = 1
    · rw [if_pos g1, if_pos g1]
      refine xOk.bnde (c_lies ha) (xOk.pur ⟨?_, Same.rfl⟩)
      show (if b2 _ = 0 then (0 : Int32) else 1) = _
      rw [b2_norm, show I (26 + 1) = W from h4]
    rw [if_neg g1, if_neg g1]
    by_cases g2 : w = 2
    · rw [if_pos g2, if_pos g2]
      exact xOk.bnde (c_friends hF hT hO hW h4 ha) (xOk.pur ⟨rfl, Same.rfl⟩)
    rw [if_neg g2, if_neg g2]
    by_cases g3 : w = 3
    · rw [if_pos g3, if_pos g3]
      refine xOk.bnde (c_lies ha) ?_
      rw [show I (26 + 1) = W from h4]
      cases hl : lie W a with
      | false => exact xOk.pos rfl (xOk.pur ⟨rfl, Same.rfl⟩)
      | true =>
        refine xOk.neg (by decide) ?_
        refine (c_falls hF hL hT hO hW h4 (fun _ => rfl) ha).bnd (fun r hr => xOk.pur ⟨?_, hr.2.RH⟩)
        rw [iTT]
        exact hr.1
    rw [if_neg g3, if_neg g3]
    have g4 := ge5 g g0 g1 g2 g3
    rw [if_pos g4]
    refine xOk.ck (nk_in ha (by omega)) ?_
    rw [nk_N (by omega), show I 27 = W from h4]
    by_cases hn : W a < 0
    · rw [if_pos hn, if_pos hn]
      exact xOk.pur ⟨rfl, Same.rfl⟩
    · rw [if_neg hn, if_neg hn]
      exact xOk.ck (nk_in ha (by omega)) (xOk.pur ⟨rfl, Same.rfl⟩)
theorem enc_prs {T : XT} {v : Int32} (hO : tOk T) (h : prs T v) : enc v - 1 = v := by
  have h1 := prs_m2 hO h
  have h2 := prs_m1 hO h
  unfold enc
  rw [if_neg h1, if_neg h2]
  obtain ⟨e, t, x1, x2, rfl⟩ := h
  have o3 := hO.2.2
  rw [nk_succ, nl1, nk_sub (by omega), Nat.add_sub_cancel]
theorem m_cell {F : Nat} (hF : 4000000 ≤ F) {lv : Nat} {V : XV} {T : XT} {W : Nat → Int32} {I : XI} (hX : wfull F lv V T W I) {x y w : Int32} : xOk (f_M_cell F x y w I) (fun q => q.1 = qCell V T W (I 26 1) x y w ∧ Same scM I q.2) := by
  have hX0 := hX
  obtain ⟨hC, hL⟩ := hX
  have hC0 := hC
  obtain ⟨⟨hO, -, -⟩, ⟨hT, hM⟩, ⟨h4, hW, h6⟩, -, -⟩ := hC
  unfold f_M_cell qCell
  refine xOk.bnde (m_isCell hM) ?_
  rcases cellCases hO x y with hc | ⟨a, ha, hi, hc, rfl, rfl⟩
  · rw [hc]
    exact xOk.pos rfl (xOk.pur ⟨rfl, Same.rfl⟩)
  · rw [hc, cell_N ha, cell_ix, iTT]
    refine xOk.neg (by decide) ?_
    refine (m_copies hF hC0).bnd (fun J hJ => ?_)
    obtain ⟨hJ1, hJ2⟩ := hJ
    have hM' := tbM_X hM hJ1.MX
    have hL' := lawR_X hL hJ1.MX
    by_cases g : w < 0 ∨ 4 < w
    · rw [if_pos g, if_pos g]
      exact xOk.pur ⟨rfl, hJ1⟩
    rw [if_neg g, if_neg g]
    by_cases g0 : w = 0
    · rw [if_pos g0, if_pos g0]
      exact xOk.bnde (m_landAt hM' ha hi) (xOk.pur ⟨rfl, hJ1⟩)
    rw [if_neg g0, if_neg g0]
    by_cases g1 : w = 1
    · rw [if_pos g1, if_pos g1]
      refine xOk.bnde (m_doesLie hO hW hJ2.1 ha) (xOk.pur ⟨?_, hJ1⟩)
      show (if b2 _ = 0 then (0 : Int32) else 1) = _
      rw [b2_norm]
    rw [if_neg g1, if_neg g1]
    by_cases g2 : w = 2
    · rw [if_pos g2, if_pos g2]
      refine xOk.bnde (m_doesLie hO hW hJ2.1 ha) ?_
      cases hl : lie W a with
      | false => exact xOk.pos rfl (xOk.pur ⟨by rw [cnt_lnk0 hl]; rfl, hJ1⟩)
      | true =>
        refine xOk.neg (by decide) ?_
        exact xOk.bnde (m_fitsNext hF hM' hO hW hJ2.1 ha hi) (xOk.pur ⟨rfl, hJ1⟩)
    rw [if_neg g2, if_neg g2]
    by_cases g3 : w = 3
    · rw [if_pos g3, if_pos g3]
      refine xOk.bnde (m_doesLie hO hW hJ2.1 ha) ?_
      cases hl : lie W a with
      | false => exact xOk.pos rfl (xOk.pur ⟨rfl, hJ1⟩)
      | true =>
        refine xOk.neg (by decide) ?_
        refine (m_fallsAt hF hL' hM' hO hW hJ2.1 ha hi).bnd (fun r hr => xOk.pur ⟨?_, hJ1.trans hr.2.QM⟩)
        rw [iTT, ← hJ2.2.1]
        exact hr.1
    rw [if_neg g3, if_neg g3]
    have g4 := ge5 g g0 g1 g2 g3
    rw [if_pos g4]
    refine xOk.bnde (m_isHole hM' ha hi) ?_
    rcases hW a ha with e | e | e
    · rw [show (if W a < 0 then (-2 : Int32) else W a) = -2 from if_pos (by rw [e]; decide)]
      cases hh : isH T a with
      | false => exact xOk.pos rfl (xOk.pur ⟨rfl, hJ1⟩)
      | true =>
        refine xOk.neg (by decide) (xOk.bnde (m_doesLie hO hW hJ2.1 ha) (xOk.pos ?_ (xOk.pur ⟨rfl, hJ1⟩)))
        unfold lie
        rw [e]
        rfl
    · rw [show (if W a < 0 then (-2 : Int32) else W a) = -2 from if_pos (by rw [e.2.2]; decide), e.2.1]
      exact xOk.pos rfl (xOk.pur ⟨rfl, hJ1⟩)
    · rw [if_neg (prs_nn hO e.2.2), e.2.1]
      refine xOk.neg (by decide) (xOk.bnde (m_doesLie hO hW hJ2.1 ha) (xOk.neg ?_ ?_))
      · unfold lie
        rw [decide_eq_false (prs_m2 hO e.2.2)]
        decide
      · refine xOk.ck (nk_in (by omega) (by omega)) (xOk.pur ⟨?_, hJ1⟩)
        rw [nk_N (by omega), hJ2.1 a ha]
        exact enc_prs hO e.2.2
/-! land -/
def ldB (T : XT) (l : Int32) (a : Nat) : Bool := inT T a && decide (tl T a = l)
noncomputable def qLand (V : XV) (T : XT) (W : Nat → Int32) (d l w : Int32) : Int32 := if rng l 0 4 = true then
    (if w < 0 ∨ 3 < w then -1 else if w = 0 then Int32.ofNat (cnt (ldB T l) 30) else if w = 1 then Int32.ofNat (cnt (lo T W l) 30) else if w = 2 then Int32.ofNat (cnt (prB T W l) 30) else sTax V T W d l) else -1
theorem ge4 {w : Int32} (h : ¬ (w < 0 ∨ 3 < w)) (h0 : ¬ w = 0) (h1 : ¬ w = 1) (h2 : ¬ w = 2) : w = 3 := by
  rw [not_or, Int32.lt_iff_toInt_lt, Int32.lt_iff_toInt_lt] at h
  have t0 : (0 : Int32).toInt = 0 := by decide
  have t1 : (1 : Int32).toInt = 1 := by decide
  have t2 : (2 : Int32).toInt = 2 := by decide
  have t3 : (3 : Int32).toInt = 3 := by decide
  rw [← Int32.toInt_inj] at h0 h1 h2 ⊢
  omega
theorem land_ne {l : Int32} (h : rng l 0 4 = true) : ¬ l = -1 ∧ ¬ l = 9 := by
  obtain ⟨k, h1, rfl⟩ := rng_ex (n := 4) (by omega) h
  exact ⟨by rw [nk_m1 (by omega)]; exact id, by rw [nl9, nk_eq (by omega) (by omega)]; omega⟩
theorem c_piecesOf {F : Nat} (hF : 4000000 ≤ F) {T : XT} {I : XI} (hT : tbC 17 T I) (hO : tOk T) {l : Int32} (hl : ¬ l = 9) : f_Table_piecesOf F 17 I l = some (Int32.ofNat (cnt (ldB T l) 30)) := by
  unfold f_Table_piecesOf
  refine xOk.eq (xloop 30 (fun n (c : Nat) a => f_Table_piecesOf_4 F 17 I n l (Int32.ofNat c) (Int32.ofNat a)) (fun a c => c = cnt (ldB T l) a) ?_ ?_ F 0 0 (by omega) (by omega) rfl)
  · intro n c a ha hc ih
    subst hc
    show xOk (f_Table_piecesOf_4 F 17 I (n + 1) _ _ _) _
    rw [f_Table_piecesOf_4]
    refine xOk.neg (nk_nge ha (by decide)) ?_
    have ih2 := ih _ rfl
    rw [cnt_succ] at ih2
    unfold ldB at ih2
    refine xOk.bnde (c_isPiece hT hO ha) ?_
    rw [nk_succ]
    unfold isP
    cases hi : inT T a with
    | false =>
      rw [hi] at ih2
      exact xOk.pos rfl ih2
    | true =>
      rw [hi] at ih2
      cases hh : isH T a with
      | true =>
        have : tl T a = 9 := of_decide_eq_true hh
        rw [decide_eq_false (by rw [this]; exact fun e => hl e.symm)] at ih2
        exact xOk.pos rfl ih2
      | false =>
        refine xOk.neg (by decide) (xOk.ck (nk_in ha (by omega)) ?_)
        rw [nk_N (by omega), show I (17 + 1) = tl T from hT.2.2.2.1]
        by_cases e : tl T a = l
        · rw [if_pos e, nk_succ]
          rw [decide_eq_true e] at ih2
          exact ih2
        · rw [if_neg e]
          rw [decide_eq_false e] at ih2
          exact ih2
  · intro n c hc
    subst hc
    show xOk (f_Table_piecesOf_4 F 17 I (n + 1) _ _ _) _
    rw [f_Table_piecesOf_4]
    exact xOk.pos (by decide) (xOk.pur rfl)
theorem h_land {F : Nat} (hF : 4000000 ≤ F) {lv : Nat} {V : XV} {T : XT} {W : Nat → Int32} {I : XI} (hX : wfull F lv V T W I) {l w : Int32} : xOk (f_H_land F l w I) (fun r => r.1 = qLand V T W (I 26 1) l w ∧ Same scH I r.2) := by
  obtain ⟨hC, hL⟩ := hX
  obtain ⟨⟨hO, -, -⟩, ⟨hT, hM⟩, ⟨h4, hW, h6⟩, -, -⟩ := hC
  unfold f_H_land qLand
  refine xOk.bnde h_isLand ?_
  cases hr : rng l 0 4 with
  | false => exact xOk.pos rfl (xOk.pur ⟨rfl, Same.rfl⟩)
  | true =>
    obtain ⟨hl1, hl9⟩ := land_ne hr
    refine xOk.neg (by decide) ?_
    rw [iTT]
    by_cases g : w < 0 ∨ 3 < w
    · rw [if_pos g, if_pos g]
      exact xOk.pur ⟨rfl, Same.rfl⟩
    rw [if_neg g, if_neg g]
    by_cases g0 : w = 0
    · rw [if_pos g0, if_pos g0]
      exact xOk.bnde (c_piecesOf hF hT hO hl9) (xOk.pur ⟨rfl, Same.rfl⟩)
    rw [if_neg g0, if_neg g0]
    by_cases g1 : w = 1
    · rw [if_pos g1, if_pos g1]
      exact xOk.bnde (c_sizeOf hF hT h4 hl1) (xOk.pur ⟨rfl, Same.rfl⟩)
    rw [if_neg g1, if_neg g1]
    by_cases g2 : w = 2
    · rw [if_pos g2, if_pos g2]
      exact (c_partsOf hF hT hO hW h4 (by decide) hl1).bnd (fun r hr => xOk.pur ⟨hr.1, hr.2.mono (fun _ _ e => sc31_H e)⟩)
    rw [if_neg g2, if_neg g2, if_pos (ge4 g g0 g1 g2)]
    exact (c_taxes hF hL hT hO hW h4 (fun _ => rfl) (by decide) hl1).bnd (fun r hr => xOk.pur ⟨hr.1, hr.2.RH⟩)
theorem m_land {F : Nat} (hF : 4000000 ≤ F) {lv : Nat} {V : XV} {T : XT} {W : Nat → Int32} {I : XI} (hX : wfull F lv V T W I) {l w : Int32} : xOk (f_M_land F l w I) (fun q => q.1 = qLand V T W (I 26 1) l w ∧ Same scM I q.2) := by
  obtain ⟨hC, hL⟩ := hX
  have hC0 := hC
  obtain ⟨⟨hO, -, -⟩, ⟨hT, hM⟩, ⟨h4, hW, h6⟩, -, -⟩ := hC
  unfold f_M_land qLand
  refine xOk.bnde m_in ?_
  rw [show (decide (0 ≤ l) && decide (l ≤ 4)) = rng l 0 4 from rfl]
  cases hr : rng l 0 4 with
  | false => exact xOk.pos rfl (xOk.pur ⟨rfl, Same.rfl⟩)
  | true =>
    obtain ⟨hl1, hl9⟩ := land_ne hr
    refine xOk.neg (by decide) ?_
    rw [iTT]
    refine (m_copies hF hC0).bnd (fun J hJ => ?_)
    obtain ⟨hJ1, hJ2⟩ := hJ
    have hM' := tbM_X hM hJ1.MX
    have hL' := lawR_X hL hJ1.MX
    by_cases g : w < 0 ∨ 3 < w
    · rw [if_pos g, if_pos g]
      exact xOk.pur ⟨rfl, hJ1⟩
    rw [if_neg g, if_neg g]
    by_cases g0 : w = 0
    · rw [if_pos g0, if_pos g0]
      refine xloop 30 (fun n (c : Nat) a => f_M_land_53 F n l (Int32.ofNat c) (Int32.ofNat a) J) (fun a c => c = cnt (ldB T l) a) ?_ ?_ F 0 0 (by omega) (by omega) rfl
      · intro n c a ha hc ih
        subst hc
        show xOk (f_M_land_53 F (n + 1) _ _ _ _) _
        rw [f_M_land_53]
        refine xOk.neg (nk_nge ha (by decide)) ?_
        have ih2 := ih _ rfl
        rw [cnt_succ] at ih2
        unfold ldB at ih2
        refine xOk.bnde (m_isThere hM' hO ha) ?_
        rw [nk_succ]
        cases hi : inT T a with
        | false =>
          rw [hi] at ih2
          exact xOk.pos rfl ih2
        | true =>
          rw [hi] at ih2
          refine xOk.neg (by decide) (xOk.bnde (m_landAt hM' ha hi) ?_)
          by_cases e : tl T a = l
          · rw [if_pos e, nk_succ]
            rw [decide_eq_true e] at ih2
            exact ih2
          · rw [if_neg e]
            rw [decide_eq_false e] at ih2
            exact ih2
      · intro n c hc
        subst hc
        show xOk (f_M_land_53 F (n + 1) _ _ _ _) _
        rw [f_M_land_53]
        exact xOk.pos (by decide) (xOk.pur ⟨rfl, hJ1⟩)
    rw [if_neg g0, if_neg g0]
    by_cases g1 : w = 1
    · rw [if_pos g1, if_pos g1]
      exact xOk.bnde (m_liesOf hF hM' hO hW hJ2.1) (xOk.pur ⟨rfl, hJ1⟩)
    rw [if_neg g1, if_neg g1]
    by_cases g2 : w = 2
    · rw [if_pos g2, if_pos g2]
      refine (m_fillsParts hF hM' hO hW hJ2.1 (l := l)).bnd (fun K hK => ?_)
      obtain ⟨f, k1, k2, k3, k4⟩ := hK
      exact xOk.pur ⟨by rw [k3, cnt_rep k1], hJ1.trans (k4.mono (fun _ _ e => sc164_M e))⟩
    rw [if_neg g2, if_neg g2, if_pos (ge4 g g0 g1 g2)]
    refine (m_taxOf hF hL' hM' hO hW hJ2.1).bnd (fun r hr => xOk.pur ⟨?_, hJ1.trans hr.2.QM⟩)
    rw [← hJ2.2.1]
    exact hr.1
/-! richest -/
def rcF (g : Nat → Int32) : Nat → Int32 × Int32
  | 0 => (0, 0)
  | n + 1 => if g n ≤ (rcF g n).2 then rcF g n else (Int32.ofNat n, g n)
noncomputable def qRich (V : XV) (T : XT) (W : Nat → Int32) (d w : Int32) : Int32 := if rng w 0 1 = true then (if w = 0 then (rcF (fun l => sTax V T W d (Int32.ofNat l)) 5).1 else (rcF (fun l => sTax V T W d (Int32.ofNat l)) 5).2) else -1
theorem h_richest {F : Nat} (hF : 4000000 ≤ F) {lv : Nat} {V : XV} {T : XT} {W : Nat → Int32} {I : XI} (hX : wfull F lv V T W I) {w : Int32} : xOk (f_H_richest F w I) (fun r => r.1 = qRich V T W (I 26 1) w ∧ Same scH I r.2) := by
  obtain ⟨hC, hL⟩ := hX
  obtain ⟨⟨hO, -, -⟩, ⟨hT, hM⟩, ⟨h4, hW, h6⟩, -, -⟩ := hC
  unfold f_H_richest qRich
  by_cases h1 : w < 0
  · rw [if_pos h1, rng_lo h1]
    exact xOk.pur ⟨rfl, Same.rfl⟩
  · rw [if_neg h1]
    by_cases h2 : w ≤ 1
    · rw [if_pos h2, rng_in h1 h2, iTT]
      refine xloop 5 (fun n (s : (Int32 × Int32) × XI) l => f_H_richest_18 F n w s.1.1 s.1.2 (Int32.ofNat l) s.2) (fun l s => s.1 = rcF (fun l => sTax V T W (I 26 1) (Int32.ofNat l)) l ∧ Same scR I s.2) ?_ ?_ F ((0, 0), I) 0 (by omega) (by omega) ⟨rfl, Same.rfl⟩
      · intro n s l hl hP ih
        obtain ⟨c, J⟩ := s
        obtain ⟨hc, hs⟩ : c = rcF (fun l => sTax V T W (I 26 1) (Int32.ofNat l)) l ∧ Same scR I J := hP
        show xOk (f_H_richest_18 F (n + 1) w c.1 c.2 (Int32.ofNat l) J) _
        rw [f_H_richest_18]
        refine xOk.neg (nk_nge hl (by decide)) ?_
        refine (c_taxes hF (lawR_X hL hs.RX) (tbC_X hT hs.RX) hO hW (by rw [hs.row (26 + 1) (fun _ => rfl)]; exact h4) (fun _ => rfl) (by decide) (by rw [nk_m1 (by omega)]; exact id)).bnd (fun r hr => ?_)
        rw [hr.1, hs 26 1 rfl, nk_succ]
        have ih2 := ih (rcF (fun l => sTax V T W (I 26 1) (Int32.ofNat l)) (l + 1), r.2) ⟨rfl, hs.trans hr.2⟩
        have e1 : (rcF (fun l => sTax V T W (I 26 1) (Int32.ofNat l)) (l + 1)) = (if sTax V T W (I 26 1) (Int32.ofNat l) ≤ c.2 then c else (Int32.ofNat l, sTax V T W (I 26 1) (Int32.ofNat l))) := by
          rw [hc]
          rfl
        rw [e1] at ih2
        by_cases g : sTax V T W (I 26 1) (Int32.ofNat l) ≤ c.2
        · rw [if_pos g, if_pos g]
          rw [if_pos g] at ih2
          exact ih2
        · rw [if_neg g, if_neg g]
          rw [if_neg g] at ih2
          exact ih2
      · intro n s hP
        obtain ⟨c, J⟩ := s
        obtain ⟨hc, hs⟩ : c = rcF (fun l => sTax V T W (I 26 1) (Int32.ofNat l)) 5 ∧ Same scR I J := hP
        show xOk (f_H_richest_18 F (n + 1) w c.1 c.2 (Int32.ofNat 5) J) _
        rw [f_H_richest_18]
        exact xOk.pos (by decide) (xOk.pur ⟨by rw [hc], hs.RH⟩)
    · rw [if_neg h2, rng_hi h2]
      exact xOk.pur ⟨rfl, Same.rfl⟩
theorem m_richest {F : Nat} (hF : 4000000 ≤ F) {lv : Nat} {V : XV} {T : XT} {W : Nat → Int32} {I : XI} (hX : wfull F lv V T W I) {w : Int32} : xOk (f_M_richest F w I) (fun q => q.1 = qRich V T W (I 26 1) w ∧ Same scM I q.2) := by
  obtain ⟨hC, hL⟩ := hX
  have hC0 := hC
  obtain ⟨⟨hO, -, -⟩, ⟨hT, hM⟩, ⟨h4, hW, h6⟩, -, -⟩ := hC
  unfold f_M_richest qRich
  refine xOk.bnde m_in ?_
  rw [show (decide (0 ≤ w) && decide (w ≤ 1)) = rng w 0 1 from rfl]
  cases hr : rng w 0 1 with
  | false => exact xOk.pos rfl (xOk.pur ⟨rfl, Same.rfl⟩)
  | true =>
    refine xOk.neg (by decide) ?_
    rw [iTT]
    refine (m_copies hF hC0).bnd (fun K hK => ?_)
    obtain ⟨hK1, hK2⟩ := hK
    have hM' := tbM_X hM hK1.MX
    have hL' := lawR_X hL hK1.MX
    refine xloop 5 (fun n (s : (Int32 × Int32) × XI) l => f_M_richest_22 F n w s.1.1 s.1.2 (Int32.ofNat l) s.2) (fun l s => s.1 = rcF (fun l => sTax V T W (I 26 1) (Int32.ofNat l)) l ∧ Same scQ K s.2) ?_ ?_ F ((0, 0), K) 0 (by omega) (by omega) ⟨rfl, Same.rfl⟩
    · intro n s l hl hP ih
      obtain ⟨c, J⟩ := s
      obtain ⟨hc, hs⟩ : c = rcF (fun l => sTax V T W (I 26 1) (Int32.ofNat l)) l ∧ Same scQ K J := hP
      have hRJ := rowS_Q hK2 hs
      show xOk (f_M_richest_22 F (n + 1) w c.1 c.2 (Int32.ofNat l) J) _
      rw [f_M_richest_22]
      refine xOk.neg (nk_nge hl (by decide)) ?_
      refine (m_taxOf hF (lawR_X hL' hs.QX) (tbM_X hM' hs.QX) hO hW hRJ.1).bnd (fun r hr => ?_)
      rw [hr.1, hRJ.2.1, nk_succ]
      have ih2 := ih (rcF (fun l => sTax V T W (I 26 1) (Int32.ofNat l)) (l + 1), r.2) ⟨rfl, hs.trans hr.2⟩
      have e1 : (rcF (fun l => sTax V T W (I 26 1) (Int32.ofNat l)) (l + 1)) = (if sTax V T W (I 26 1) (Int32.ofNat l) ≤ c.2 then c else (Int32.ofNat l, sTax V T W (I 26 1) (Int32.ofNat l))) := by
        rw [hc]
        rfl
      rw [e1] at ih2
      by_cases g : sTax V T W (I 26 1) (Int32.ofNat l) ≤ c.2
      · rw [if_neg (Int32.not_lt.mpr g), if_neg (Int32.not_lt.mpr g)]
        rw [if_pos g] at ih2
        exact ih2
      · rw [if_pos (Int32.not_le.mp g), if_pos (Int32.not_le.mp g)]
        rw [if_neg g] at ih2
        exact ih2
    · intro n s hP
      obtain ⟨c, J⟩ := s
      obtain ⟨hc, hs⟩ : c = rcF (fun l => sTax V T W (I 26 1) (Int32.ofNat l)) 5 ∧ Same scQ K J := hP
      show xOk (f_M_richest_22 F (n + 1) w c.1 c.2 (Int32.ofNat 5) J) _
      rw [f_M_richest_22]
      exact xOk.pos (by decide) (xOk.pur ⟨by rw [hc], hK1.trans hs.QM⟩)
/-! step -/
def qStep (V : XV) (T : XT) (d x y s : Int32) : Int32 := if inC T x y = true ∧ rng s 0 3 = true then (match nb T (6 * xN y + xN x) (xN s) with
    | none => -1
    | some b => sWays V T d (6 * xN y + xN x) b (xN s)) else -1
theorem h_step {F : Nat} (hF : 4000000 ≤ F) {lv : Nat} {V : XV} {T : XT} {W : Nat → Int32} {I : XI} (hX : wfull F lv V T W I) {x y s : Int32} : xOk (f_H_step F x y s I) (fun r => r.1 = qStep V T (I 26 1) x y s ∧ Same scH I r.2) := by
  obtain ⟨hC, hL⟩ := hX
  obtain ⟨⟨hO, -, -⟩, ⟨hT, hM⟩, ⟨h4, hW, h6⟩, -, -⟩ := hC
  unfold f_H_step qStep
  rcases cellCases hO x y with hc | ⟨a, ha, hi, hc, rfl, rfl⟩
  · refine xOk.bnde (c_cellAt_out hT hO hc) (xOk.pos rfl (xOk.pur ⟨?_, Same.rfl⟩))
    rw [hc, if_neg (show ¬ (false = true ∧ _) by intro h; cases h.1)]
  · refine xOk.bnde (c_cellAt_in hT hO ha hi) (xOk.neg (oi_nm1 ha) ?_)
    rw [hc, cell_N ha]
    refine xOk.bnde h_isSide ?_
    cases hs : rng s 0 3 with
    | false =>
      refine xOk.pos rfl (xOk.pur ⟨?_, Same.rfl⟩)
      rw [if_neg (show ¬ (true = true ∧ false = true) by decide)]
    | true =>
      obtain ⟨k, hk, rfl⟩ := side_ex hs
      rw [if_pos (show true = true ∧ true = true from ⟨rfl, rfl⟩), nk_N (by omega)]
      refine xOk.neg (by decide) ?_
      refine xOk.bnde (c_beside hT hO ha k hk) ?_
      cases hn : nb T a k with
      | none => exact xOk.pos rfl (xOk.pur ⟨rfl, Same.rfl⟩)
      | some b =>
        have hb := nb_lt hO ha k hk b hn
        simp only [oi]
        refine xOk.neg (oi_nm1 hb) ?_
        exact (c_ways hF hL hT hO ha hi hb).bnd (fun r hr => xOk.pur ⟨hr.1, hr.2.RH⟩)
theorem m_step {F : Nat} (hF : 4000000 ≤ F) {lv : Nat} {V : XV} {T : XT} {W : Nat → Int32} {I : XI} (hX : wfull F lv V T W I) {x y s : Int32} : xOk (f_M_step F x y s I) (fun q => q.1 = qStep V T (I 26 1) x y s ∧ Same scM I q.2) := by
  obtain ⟨hC, hL⟩ := hX
  have hC0 := hC
  obtain ⟨⟨hO, -, -⟩, ⟨hT, hM⟩, ⟨h4, hW, h6⟩, -, -⟩ := hC
  unfold f_M_step qStep
  refine xOk.bnde (m_isCell hM) ?_
  rcases cellCases hO x y with hc | ⟨a, ha, hi, hc, rfl, rfl⟩
  · rw [hc]
    refine xOk.pos rfl (xOk.pur ⟨?_, Same.rfl⟩)
    rw [if_neg (show ¬ (false = true ∧ _) by intro h; cases h.1)]
  · rw [hc, cell_N ha, cell_ix]
    refine xOk.neg (by decide) ?_
    refine xOk.bnde m_isSide ?_
    cases hs : rng s 0 3 with
    | false =>
      refine xOk.pos rfl (xOk.pur ⟨?_, Same.rfl⟩)
      rw [if_neg (show ¬ (true = true ∧ false = true) by decide)]
    | true =>
      obtain ⟨k, hk, rfl⟩ := side_ex hs
      rw [if_pos (show true = true ∧ true = true from ⟨rfl, rfl⟩), nk_N (by omega)]
      refine xOk.neg (by decide) ?_
      refine xOk.bnde (m_overTo hM hO ha hi k hk) ?_
      cases hn : nb T a k with
      | none => exact xOk.neg (by decide) (xOk.pur ⟨rfl, Same.rfl⟩)
      | some b =>
        have hb := nb_lt hO ha k hk b hn
        simp only [oi]
        refine xOk.pos (nk_le_t (Nat.zero_le b) (by omega)) ?_
        refine (m_copies hF hC0).bnd (fun J hJ => ?_)
        obtain ⟨hJ1, hJ2⟩ := hJ
        refine (m_wayOver hF (lawR_X hL hJ1.MX) (tbM_X hM hJ1.MX) hO ha hi hk hn).bnd (fun r hr => xOk.pur ⟨?_, hJ1.trans hr.2.QM⟩)
        rw [← hJ2.2.1]
        exact hr.1
/-! border -/
def boB (T : XT) (W : Nat → Int32) (l m : Int32) (k : Nat) : Bool := lo T W l (k / 4) && (match nb T (k / 4) (k % 4) with
    | none => false
    | some b => lnk T W (k / 4) (k % 4) && decide (tl T b = m))
theorem boB_at {T : XT} {W : Nat → Int32} {l m : Int32} {a s : Nat} (hs : s < 4) : boB T W l m (4 * a + s) = (lo T W l a && (match nb T a s with
    | none => false
    | some b => lnk T W a s && decide (tl T b = m))) := by
  unfold boB
  rw [show (4 * a + s) / 4 = a by omega, show (4 * a + s) % 4 = s by omega]
def qBorder (T : XT) (W : Nat → Int32) (l m : Int32) : Int32 := if rng l 0 4 = true ∧ rng m 0 4 = true ∧ ¬ l = m then Int32.ofNat (cnt (boB T W l m) 120) else -1
theorem cnt_none {p : Nat → Bool} {N k : Nat} (hk : k ≤ N) (h : ∀ j, k ≤ j → j < N → p j = false) : cnt p N = cnt p k := by
  induction hk with
  | refl => rfl
  | step hk ih =>
    rename_i n
    rw [cnt_succ, ih (fun j h1 h2 => h j h1 (Nat.lt_succ_of_lt h2)), h n hk (Nat.lt_succ_self n)]
    rfl
theorem h_border {F : Nat} (hF : 4000000 ≤ F) {lv : Nat} {T : XT} {W : Nat → Int32} {I : XI} (hC : core lv T W I) {l m : Int32} : f_H_border F I l m = some (qBorder T W l m) := by
  obtain ⟨⟨hO, -, -⟩, ⟨hT, hM⟩, ⟨h4, hW, h6⟩, -, -⟩ := hC
  unfold f_H_border qBorder
  rw [h_isLand, h_isLand, Option.bind_some]
  cases h1 : rng l 0 4 with
  | false => rw [if_pos (by decide), if_neg (show ¬ (false = true ∧ _) by intro h; cases h.1)]
  | true =>
    rw [if_neg (by decide), Option.bind_some]
    cases h2 : rng m 0 4 with
    | false => rw [if_pos (by decide), if_neg (show ¬ (true = true ∧ false = true ∧ _) by intro h; cases h.2.1)]
    | true =>
      rw [if_neg (by decide)]
      by_cases h3 : l = m
      · rw [if_pos h3, if_neg (show ¬ (true = true ∧ true = true ∧ ¬ l = m) from fun h => h.2.2 h3)]
      · rw [if_neg h3, if_pos (show true = true ∧ true = true ∧ ¬ l = m from ⟨rfl, rfl, h3⟩)]
        obtain ⟨hl1, -⟩ := land_ne h1
        have key : f_Board_borderOf F 26 I l m = some (Int32.ofNat (cnt (boB T W l m) 120)) := by
          unfold f_Board_borderOf
          refine xOk.eq (xloop 30 (fun n (c : Nat) a => f_Board_borderOf_6 F 26 I n l m (Int32.ofNat c) (Int32.ofNat a)) (fun a c => c = cnt (boB T W l m) (4 * a)) ?_ ?_ F 0 0 (by omega) (by omega) rfl)
          · intro n c a ha hc ih
            show xOk (f_Board_borderOf_6 F 26 I (n + 1) _ _ _ _) _
            rw [f_Board_borderOf_6]
            refine xOk.neg (nk_nge ha (by decide)) ?_
            refine xloop 4 (fun k (c : Nat) s => f_Board_borderOf_16 F 26 I (fun v2 v3 v4 v5 => f_Board_borderOf_6 F 26 I n v2 v3 v4 v5) k l m (Int32.ofNat c) (Int32.ofNat a) (Int32.ofNat s)) (fun s c => c = cnt (boB T W l m) (4 * a + s)) ?_ ?_ F c 0 (by omega) (by omega) hc
            · intro k c s hs hc ih2
              show xOk (f_Board_borderOf_16 F 26 I _ (k + 1) _ _ _ _ _) _
              rw [f_Board_borderOf_16]
              refine xOk.neg (nk_nge hs (by decide)) ?_
              refine xOk.bnde (c_liesOf hT h4 ha) ?_
              rw [← lo_of hl1]
              cases hlo : lo T W l a with
              | false =>
                refine xOk.pos rfl ?_
                rw [nk_succ]
                refine ih _ ?_
                rw [hc]
                symm
                apply cnt_none (by omega)
                intro j j1 j2
                unfold boB
                rw [show j / 4 = a by omega, hlo]
                rfl
              | true =>
                refine xOk.neg (by decide) ?_
                refine xOk.bnde (c_linked hT hO hW h4 ha hs) ?_
                have ih3 := ih2 (cnt (boB T W l m) (4 * a + s + 1)) rfl
                rw [cnt_succ, boB_at hs, hlo, Bool.true_and, ← hc] at ih3
                rw [nk_succ]
                cases hn : nb T a s with
                | none =>
                  rw [hn] at ih3
                  have hk0 : lnk T W a s = false := by
                    unfold lnk
                    rw [hn]
                  rw [hk0]
                  exact xOk.pos rfl ih3
                | some b =>
                  rw [hn] at ih3
                  have hb := nb_lt hO ha s hs b hn
                  cases hk : lnk T W a s with
                  | false =>
                    rw [hk] at ih3
                    exact xOk.pos rfl ih3
                  | true =>
                    rw [hk] at ih3
                    refine xOk.neg (by decide) ?_
                    refine xOk.bnde (show f_Table_beside 17 I (Int32.ofNat a) (Int32.ofNat s) = some (Int32.ofNat b) by rw [c_beside hT hO ha s hs, hn]; rfl) ?_
                    refine xOk.ck (nk_in hb (by omega)) ?_
                    simp only [show xN (Int32.ofNat b) = b from nk_N (by omega), show I 18 = tl T from hT.2.2.2.1]
                    by_cases e : tl T b = m
                    · rw [if_pos e, nk_succ]
                      simp only [decide_eq_true e, Bool.and_true] at ih3
                      exact ih3
                    · rw [if_neg e]
                      simp only [decide_eq_false e, Bool.and_false] at ih3
                      exact ih3
            · intro k c hc
              show xOk (f_Board_borderOf_16 F 26 I _ (k + 1) _ _ _ _ _) _
              rw [f_Board_borderOf_16]
              refine xOk.pos (by decide) ?_
              rw [nk_succ]
              exact ih _ hc
          · intro n c hc
            subst hc
            show xOk (f_Board_borderOf_6 F 26 I (n + 1) _ _ _ _) _
            rw [f_Board_borderOf_6]
            exact xOk.pos (by decide) (xOk.pur rfl)
        rw [key]
        rfl
theorem m_border {F : Nat} (hF : 4000000 ≤ F) {lv : Nat} {T : XT} {W : Nat → Int32} {I : XI} (hC : core lv T W I) {l m : Int32} : xOk (f_M_border F l m I) (fun q => q.1 = qBorder T W l m ∧ Same scM I q.2) := by
  have hC0 := hC
  obtain ⟨⟨hO, -, -⟩, ⟨hT, hM⟩, ⟨h4, hW, h6⟩, -, -⟩ := hC
  unfold f_M_border qBorder
  refine xOk.bnde m_in ?_
  rw [show (decide (0 ≤ l) && decide (l ≤ 4)) = rng l 0 4 from rfl]
  cases h1 : rng l 0 4 with
  | false =>
    refine xOk.pos rfl (xOk.pur ⟨?_, Same.rfl⟩)
    rw [if_neg (show ¬ (false = true ∧ _) by intro h; cases h.1)]
  | true =>
    refine xOk.neg (by decide) (xOk.bnde m_in ?_)
    rw [show (decide (0 ≤ m) && decide (m ≤ 4)) = rng m 0 4 from rfl]
    cases h2 : rng m 0 4 with
    | false =>
      refine xOk.pos rfl (xOk.pur ⟨?_, Same.rfl⟩)
      rw [if_neg (show ¬ (true = true ∧ false = true ∧ _) by intro h; cases h.2.1)]
    | true =>
      refine xOk.neg (by decide) ?_
      by_cases h3 : l = m
      · refine xOk.pos h3 (xOk.pur ⟨?_, Same.rfl⟩)
        rw [if_neg (show ¬ (true = true ∧ true = true ∧ ¬ l = m) from fun h => h.2.2 h3)]
      · rw [if_pos (show true = true ∧ true = true ∧ ¬ l = m from ⟨rfl, rfl, h3⟩)]
        refine xOk.neg h3 ?_
        obtain ⟨hl1, -⟩ := land_ne h1
        refine (m_copies hF hC0).bnd (fun J hJ => ?_)
        obtain ⟨hJ1, hJ2⟩ := hJ
        have hM' := tbM_X hM hJ1.MX
        refine xloop 30 (fun n (c : Nat) a => f_M_border_34 F n l m (Int32.ofNat c) (Int32.ofNat a) J) (fun a c => c = cnt (boB T W l m) (4 * a)) ?_ ?_ F 0 0 (by omega) (by omega) rfl
        · intro n c a ha hc ih
          show xOk (f_M_border_34 F (n + 1) _ _ _ _ _) _
          rw [f_M_border_34]
          refine xOk.neg (nk_nge ha (by decide)) ?_
          refine xloop 4 (fun k (c : Nat) s => f_M_border_44 F (fun v1 v2 v3 v4 I => f_M_border_34 F n v1 v2 v3 v4 I) k l m (Int32.ofNat c) (Int32.ofNat a) (Int32.ofNat s) J) (fun s c => c = cnt (boB T W l m) (4 * a + s)) ?_ ?_ F c 0 (by omega) (by omega) hc
          · intro k c s hs hc ih2
            show xOk (f_M_border_44 F _ (k + 1) _ _ _ _ _ _) _
            rw [f_M_border_44]
            refine xOk.neg (nk_nge hs (by decide)) ?_
            refine xOk.bnde (m_isOf hM' hO hW hJ2.1 ha) ?_
            have ih3 := ih2 (cnt (boB T W l m) (4 * a + s + 1)) rfl
            rw [cnt_succ, boB_at hs, ← hc] at ih3
            rw [nk_succ]
            cases hlo : lo T W l a with
            | false =>
              rw [hlo] at ih3
              exact xOk.pos rfl ih3
            | true =>
              rw [hlo, Bool.true_and] at ih3
              have hi := lie_in hW ha (lo_lie hlo)
              refine xOk.neg (by decide) ?_
              refine xOk.bnde (m_joinedOver hM' hO hW hJ2.1 ha hi hs) ?_
              cases hn : nb T a s with
              | none =>
                rw [hn] at ih3
                have hk0 : lnk T W a s = false := by
                  unfold lnk
                  rw [hn]
                rw [hk0]
                exact xOk.pos rfl ih3
              | some b =>
                rw [hn] at ih3
                have hb := nb_lt hO ha s hs b hn
                have hib := nb_in hO ha hi s hs b hn
                cases hk : lnk T W a s with
                | false =>
                  rw [hk] at ih3
                  exact xOk.pos rfl ih3
                | true =>
                  rw [hk] at ih3
                  refine xOk.neg (by decide) ?_
                  refine xOk.bnde (show f_M_overTo J (Int32.ofNat a) (Int32.ofNat s) = some (Int32.ofNat b) by rw [m_overTo hM' hO ha hi s hs, hn]; rfl) ?_
                  refine xOk.bnde (m_landAt hM' hb hib) ?_
                  by_cases e : tl T b = m
                  · rw [if_pos e, nk_succ]
                    simp only [decide_eq_true e, Bool.and_true] at ih3
                    exact ih3
                  · rw [if_neg e]
                    simp only [decide_eq_false e, Bool.and_false] at ih3
                    exact ih3
          · intro k c hc
            show xOk (f_M_border_44 F _ (k + 1) _ _ _ _ _ _) _
            rw [f_M_border_44]
            refine xOk.pos (by decide) ?_
            rw [nk_succ]
            exact ih _ hc
        · intro n c hc
          subst hc
          show xOk (f_M_border_34 F (n + 1) _ _ _ _ _) _
          rw [f_M_border_34]
          exact xOk.pos (by decide) (xOk.pur ⟨rfl, hJ1⟩)
