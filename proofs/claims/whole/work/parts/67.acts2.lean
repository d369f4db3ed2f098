/-! take, press, days, undo, hold, restore -/
def scHA (o j : Nat) : Bool := scH o j || scU o j || (Nat.beq o 26 || Nat.beq o 27)
def scMV (o j : Nat) : Bool := scM o j || scV o j
theorem scHA_of {o j : Nat} (h : scHA o j = false) : scH o j = false ∧ scU o j = false ∧ (Nat.beq o 26 || Nat.beq o 27) = false := by
  have h1 := Bool.or_eq_false_iff.mp h
  have h2 := Bool.or_eq_false_iff.mp h1.1
  exact ⟨h2.1, h2.2, h1.2⟩
theorem scHA_L {o j : Nat} (h : scL o j = false) : scHA o j = false := by
  unfold scHA
  rw [scX_H (scL_X h), scL_U h, scL_now h]
  rfl
theorem scMV_L {o j : Nat} (h : scL o j = false) : scMV o j = false := by
  unfold scMV
  rw [scX_M (scL_X h), scL_V h]
  rfl
theorem Same.HHA {I J : XI} (h : Same scH I J) : Same scHA I J := h.mono (fun _ _ e => (scHA_of e).1)
theorem Same.UHA {I J : XI} (h : Same scU I J) : Same scHA I J := h.mono (fun _ _ e => (scHA_of e).2.1)
theorem Same.MMV {I J : XI} (h : Same scM I J) : Same scMV I J := h.mono (fun _ _ e => (Bool.or_eq_false_iff.mp e).1)
theorem Same.VMV {I J : XI} (h : Same scV I J) : Same scMV I J := h.mono (fun _ _ e => (Bool.or_eq_false_iff.mp e).2)
theorem scX_mid {o : Nat} (h1 : 41 ≤ o) (h2 : o ≤ 126) (j : Nat) : scX o j = false := by
  have b : ∀ c, c < 41 ∨ 126 < c → Nat.beq o c = false := fun c hc => beqf (by omega)
  unfold scX scH scM
  simp only [b 24 (by omega), b 25 (by omega), b 28 (by omega), b 29 (by omega), b 31 (by omega), b 33 (by omega), b 34 (by omega), b 35 (by omega), b 36 (by omega), b 130 (by omega), b 160 (by omega), b 161 (by omega), b 163 (by omega), b 164 (by omega), b 165 (by omega), b 167 (by omega), b 168 (by omega), b 169 (by omega), b 172 (by omega), b 131 (by omega), Bool.false_and, Bool.or_false]
theorem scMV_mid {o : Nat} (h1 : 41 ≤ o) (h2 : o ≤ 126) (j : Nat) : scMV o j = false := by
  have b : ∀ c, c < 41 ∨ 126 < c → Nat.beq o c = false := fun c hc => beqf (by omega)
  unfold scMV
  rw [scX_M (scX_mid h1 h2 j)]
  unfold scV
  simp only [b 162 (by omega), b 166 (by omega), b 131 (by omega), Bool.false_and, Bool.or_false]
theorem fin_act {F lv n p' : Nat} {V : XV} {T : XT} {x y : X4} {hst : Nat → X4} {fl : Nat} {ss : Nat → X4} {I : XI} {h m : XI → Option (Int32 × XI)} {v : Int32} {ok : Bool}
    (hI : Inv F I) (h1 : stat F lv V T I) (hr : restR I) (hn : n ≤ 40) (hx : oM 162 0 x I ∧ wfW T x.1) (hu : uM n hst I) (hw : ∀ j, j < n → wfW T (hst j).1) (hf : fl < 8) (hss : sH fl ss I ∧ sM fl ss I) (hsw : ∀ s, s < 3 → fl.testBit s = true → wfW T (ss s).1)
    (hh : xOk (h I) (fun r => r.1 = v ∧ (ok = false → Same scH I r.2) ∧ (ok = true → Same scHA I r.2 ∧ uH (pushN n) p' (pushS n hst x) r.2 ∧ oH 26 y r.2)))
    (hm : ∀ J, stat F lv V T J → oM 162 0 x J → uM n hst J → xOk (m J) (fun q => q.1 = v ∧ (ok = false → Same scM J q.2) ∧ (ok = true → uM (pushN n) (pushS n hst x) q.2 ∧ oM 162 0 y q.2 ∧ Same scMV J q.2)))
    (hy : ok = true → wfW T y.1) : both F I h m := by
  refine hh.mono (fun r hr2 => ?_)
  obtain ⟨r1, r2, r3⟩ := hr2
  cases ok with
  | false =>
    have s := r2 rfl
    refine (hm r.2 (stat_A h1 s.HX.XL.LA) (oM_same hx.1 s (fun _ => rfl)) (uM_same hu s rfl (fun _ => rfl))).mono (fun q hq => ?_)
    exact ⟨hq.1.trans r1.symm, Inv_X hI (s.HX.trans (hq.2.1 rfl).MX)⟩
  | true =>
    obtain ⟨s, t1, t2⟩ := r3 rfl
    have sL : Same scL I r.2 := s.mono (fun _ _ e => scHA_L e)
    refine (hm r.2 (stat_A h1 sL.LA) (oM_same hx.1 s (fun _ => rfl)) (uM_same hu s rfl (fun _ => rfl))).mono (fun q hq => ?_)
    obtain ⟨q1, -, q3⟩ := hq
    obtain ⟨q4, q5, q6⟩ := q3 rfl
    have sL2 : Same scL r.2 q.2 := q6.mono (fun _ _ e => scMV_L e)
    exact ⟨q1.trans r1.symm, act_done h1 hr (sL.trans sL2) hf hss hsw (uH_same t1 q6 rfl rfl (fun o a b => scMV_mid a (by omega))) q4 (push_wf hw hx.2 hn) (oH_same t2 q6 (fun _ => rfl) (fun _ => rfl)) q5 (hy rfl)⟩
/-! take -/
def okT (V : XV) (T : XT) (W : Nat → Int32) (d x y : Int32) : Bool := inC T x y && (lie W (6 * xN y + xN x) && sWet V d)
theorem h_take {F : Nat} (hF : 4000000 ≤ F) {lv n p : Nat} {V : XV} {T : XT} {W : Nat → Int32} {hs : Nat → X4} {I : XI} (hX : wfull F lv V T W I) (hu : uH n p hs I) {x y : Int32} :
    xOk (f_H_take F x y I) (fun r => r.1 = b2 (okT V T W (I 26 1) x y) ∧ (okT V T W (I 26 1) x y = false → Same scH I r.2) ∧ (okT V T W (I 26 1) x y = true → Same scHA I r.2 ∧ uH (pushN n) ((p + 1) % 40) (pushS n hs (W, I 26 1, I 26 2, I 26 3)) r.2 ∧ oH 26 (updW W (6 * xN y + xN x) (-2), I 26 1, I 26 2, I 26 3) r.2)) := by
  obtain ⟨hC, hL⟩ := hX
  obtain ⟨⟨hO, -, -⟩, ⟨hT, hM⟩, ⟨h4, hW, h6⟩, -, -⟩ := hC
  unfold f_H_take okT
  rcases cellCases hO x y with hc | ⟨a, ha, hi, hc, rfl, rfl⟩
  · rw [hc, Bool.false_and]
    exact xOk.bnde (c_cellAt_out hT hO hc) (xOk.pos rfl (xOk.pur ⟨rfl, fun _ => Same.rfl, fun h => by cases h⟩))
  · rw [hc, cell_N ha, Bool.true_and]
    refine xOk.bnde (c_cellAt_in hT hO ha hi) (xOk.neg (oi_nm1 ha) (xOk.bnde (c_lies ha) ?_))
    rw [show I (26 + 1) = W from h4]
    cases hl : lie W a with
    | false => exact xOk.pos rfl (xOk.pur ⟨rfl, fun _ => Same.rfl, fun h => by cases h⟩)
    | true =>
      refine xOk.neg (by decide) ?_
      refine (c_isWet hF hL).bnd (fun r hr => ?_)
      rw [hr.1]
      cases hw : sWet V (I 26 1) with
      | false => exact xOk.pos rfl (xOk.pur ⟨rfl, fun _ => hr.2.RH, fun h => by cases h⟩)
      | true =>
        refine xOk.neg (by decide) ?_
        have hx : oH 26 (W, I 26 1, I 26 2, I 26 3) r.2 := ⟨fun k _ => by rw [hr.2.row (26 + 1) (fun _ => rfl), show I (26 + 1) = W from h4], hr.2 26 1 rfl, hr.2 26 2 rfl, hr.2 26 3 rfl⟩
        refine (c_keep (uH_same hu hr.2 rfl rfl (fun o h1 _ => scR_mid h1)) hx).bnd (fun K hK => ?_)
        refine xOk.ck (nk_in ha (by omega)) (xOk.st (xOk.pur ⟨rfl, fun h => (by cases h), fun _ => ?_⟩))
        rw [nk_N (by omega)]
        exact ⟨(hr.2.RH.HHA.trans hK.2.UHA).put' rfl, uH_put hK.1, oH_put (x := (W, I 26 1, I 26 2, I 26 3)) (oH_same hx hK.2 (fun _ => rfl) (fun _ => rfl))⟩
theorem m_take {F : Nat} (hF : 4000000 ≤ F) {lv n : Nat} {V : XV} {T : XT} {W : Nat → Int32} {d pd tk : Int32} {hs : Nat → X4} {I : XI} (hS : stat F lv V T I) (hW : wfW T W) (hN : oM 162 0 (W, d, pd, tk) I) (hn : n ≤ 40) (hu : uM n hs I) {x y : Int32} :
    xOk (f_M_take F x y I) (fun q => q.1 = b2 (okT V T W d x y) ∧ (okT V T W d x y = false → Same scM I q.2) ∧ (okT V T W d x y = true → uM (pushN n) (pushS n hs (W, d, pd, tk)) q.2 ∧ oM 162 0 (updW W (6 * xN y + xN x) (-2), d, pd, tk) q.2 ∧ Same scMV I q.2)) := by
  obtain ⟨⟨hO, -, -⟩, ⟨hT, hM⟩, ⟨h10, h11⟩, hL⟩ := hS
  unfold f_M_take okT
  refine xOk.bnde (m_isCell hM) ?_
  rcases cellCases hO x y with hc | ⟨a, ha, hi, hc, rfl, rfl⟩
  · rw [hc, Bool.false_and]
    exact xOk.pos rfl (xOk.pur ⟨rfl, fun _ => Same.rfl, fun h => by cases h⟩)
  · rw [hc, cell_N ha, cell_ix, Bool.true_and]
    refine xOk.neg (by decide) ?_
    refine (m_copiesN hF hM (oM_nowM hN)).bnd (fun J hJ => ?_)
    obtain ⟨j1, j2⟩ := hJ
    refine (m_isWet hF (lawR_X hL j1.MX)).bnd (fun r hr => ?_)
    rw [hr.1, j2.2.1]
    have r2 := rowS_Q j2 hr.2
    have s2 := j1.trans hr.2.QM
    cases hw : sWet V d with
    | false =>
      rw [Bool.and_false]
      exact xOk.pos rfl (xOk.pur ⟨rfl, fun _ => s2, fun h => by cases h⟩)
    | true =>
      rw [Bool.and_true]
      refine xOk.neg (by decide) ?_
      refine xOk.bnde (m_doesLie hO hW r2.1 ha) ?_
      cases hf : lie W a with
      | false => exact xOk.pos rfl (xOk.pur ⟨rfl, fun _ => s2, fun h => by cases h⟩)
      | true =>
        refine xOk.neg (by decide) (xOk.ck (nk_in (by omega) (by omega)) (xOk.st ?_))
        rw [nk_N (by omega)]
        have s3 : Same scM I (xput r.2 163 a 0) := s2.put' rfl
        refine (m_records hF hn (uM_same hu s3 rfl (fun _ => rfl)) (oM_same hN s3 (fun _ => rfl)) (oM_put (w := -2) ha (rowS_oM r2) rfl)).bnd (fun K hK => ?_)
        exact xOk.pur ⟨rfl, fun h => (by cases h), fun _ => ⟨hK.1, hK.2.1, s3.MMV.trans hK.2.2.VMV⟩⟩
theorem both_take {F : Nat} (hF : 4000000 ≤ F) {I : XI} (hI : Inv F I) {x y : Int32} : both F I (f_H_take F x y) (f_M_take F x y) := by
  have hI0 := hI
  obtain ⟨⟨lv, V, T, x0, h1, h2, ⟨n, p, hst, fl, ss, ⟨p1, p2, p3⟩, p4, p5, p6, p7⟩⟩, hr⟩ := hI
  have he := now_exact h1 h2
  obtain ⟨hX, e1, e2, e3, e4⟩ := now_full h1 h2
  rw [← e1, ← e2, ← e3] at he
  obtain ⟨y1, y2, y3⟩ := he
  refine fin_act hI0 h1 hr p1.1.1 ⟨y2, y3⟩ p2 p3 p4 ⟨p5, p6⟩ p7 (h_take hF hX p1) (fun J j1 j2 j3 => m_take hF j1 y3 j2 p1.1.1 j3) (fun _ => upd_wf y3 (Or.inl rfl))
/-! pressed -/
def prE (W : Nat → Int32) (e a : Nat) : Bool := !decide (W a < 0) && decide (W a / 10 = Int32.ofNat e)
def prsd (W : Nat → Int32) (e : Nat) : Bool := anyB (prE W e) 30
theorem prE_at {T : XT} {W : Nat → Int32} {e a e' t : Nat} (hO : tOk T) (he : e' < tn T) (ht : t < 4) (hw : W a = Int32.ofNat (10 * e' + t)) (hee : e < 1000) : prE W e a = decide (e' = e) := by
  have o3 := hO.2.2
  unfold prE
  rw [hw, decide_eq_false (nk_nlt0 (by omega)), nl10, nk_div (by omega) (by omega), show (10 * e' + t) / 10 = e' by omega]
  simp only [Bool.not_false, Bool.true_and]
  exact decide_eq_decide.mpr (by rw [nk_eq (by omega) (by omega)])
theorem c_pressedSpares {F : Nat} (hF : 4000000 ≤ F) {S : Nat} {T : XT} {W : Nat → Int32} {I : XI} (hO : tOk T) (hW : wfW T W) (hI : I (S + 1) = W) : xOk (f_State_pressedSpares F S I) (fun r => ∃ m, r = Int32.ofNat m ∧ m < 1073741824 ∧ ∀ e, e < 1000 → m.testBit e = prsd W e) := by
  have o3 := hO.2.2
  unfold f_State_pressedSpares
  refine xloop 30 (fun n (m : Nat) a => f_State_pressedSpares_4 F S I n (Int32.ofNat m) (Int32.ofNat a)) (fun a m => m < 1073741824 ∧ ∀ e, e < 1000 → m.testBit e = anyB (prE W e) a) ?_ ?_ F 0 0 (by omega) (by omega) ⟨by omega, fun e _ => Nat.zero_testBit e⟩
  · intro n m a ha hP ih
    obtain ⟨hm, hb⟩ := hP
    show xOk (f_State_pressedSpares_4 F S I (n + 1) _ _) _
    rw [f_State_pressedSpares_4]
    refine xOk.neg (nk_nge ha (by decide)) (xOk.ck (nk_in ha (by omega)) ?_)
    rw [nk_N (by omega), hI, nk_succ]
    rcases wf_kn hW ha with hn | hp
    · refine xOk.pos hn ?_
      rw [show (0 : Int32) = Int32.ofNat 0 from rfl, bit_or hm (by omega), Nat.or_zero]
      refine ih m ⟨hm, fun e he => ?_⟩
      rw [hb e he]
      show _ = (anyB (prE W e) a || prE W e a)
      rw [show prE W e a = false by unfold prE; rw [decide_eq_true hn]; rfl, Bool.or_false]
    · refine xOk.neg (prs_nn hO hp) (xOk.ck (nk_in ha (by omega)) ?_)
      obtain ⟨e', t, h1, h2, h3⟩ := hp
      rw [h3, nl10, nk_div (by omega) (by omega), show (10 * e' + t) / 10 = e' by omega, bit_set hm (by omega)]
      refine ih (m ||| 2 ^ e') ⟨or_lt30 hm (by omega), fun e he => ?_⟩
      rw [tb_set, hb e he]
      show _ = (anyB (prE W e) a || prE W e a)
      rw [prE_at hO h1 h2 h3 he]
  · intro n m hP
    show xOk (f_State_pressedSpares_4 F S I (n + 1) _ _) _
    rw [f_State_pressedSpares_4]
    exact xOk.pos (by decide) (xOk.pur ⟨m, rfl, hP⟩)
theorem c_isPressed {F : Nat} (hF : 4000000 ≤ F) {S : Nat} {T : XT} {W : Nat → Int32} {I : XI} (hO : tOk T) (hW : wfW T W) (hI : I (S + 1) = W) {e : Nat} (he : e < tn T) : f_State_isPressed F S I (Int32.ofNat e) = some (b2 (prsd W e)) := by
  have o3 := hO.2.2
  unfold f_State_isPressed
  refine xOk.eq ((c_pressedSpares hF hO hW hI).bnd (fun r hr => ?_))
  obtain ⟨m, h1, h2, h3⟩ := hr
  rw [h1, bit_get (by omega) (by omega), h3 e (by omega)]
  have e2 : ∀ q : Bool, (if b2 q = 1 then (1 : Int32) else 0) = b2 q := by decide
  rw [e2]
  exact xOk.ck b2_nar (xOk.pur rfl)
theorem m_isPressed {F : Nat} (hF : 4000000 ≤ F) {lv : Nat} {T : XT} {W : Nat → Int32} {I : XI} (hM : tbM lv T I) (hO : tOk T) (hW : wfW T W) (hR : rowR W I) {e : Nat} (he : e < tn T) : f_M_isPressed F I (Int32.ofNat e) = some (b2 (prsd W e)) := by
  have o3 := hO.2.2
  unfold f_M_isPressed
  refine xOk.eq (xloop 30 (fun n (_ : Unit) a => f_M_isPressed_2 F I n (Int32.ofNat e) (Int32.ofNat a)) (fun a _ => anyB (prE W e) a = false) ?_ ?_ F () 0 (by omega) (by omega) rfl)
  · intro n u a ha hP ih
    show xOk (f_M_isPressed_2 F I (n + 1) _ _) _
    rw [f_M_isPressed_2]
    have ih2 := ih ()
    have es : anyB (prE W e) (a + 1) = (anyB (prE W e) a || prE W e a) := rfl
    rw [es, hP, Bool.false_or] at ih2
    refine xOk.neg (nk_nge ha (by decide)) (xOk.bnde (m_isThere hM hO ha) ?_)
    rw [nk_succ]
    have low : W a < 0 → prE W e a = false := fun h => by unfold prE; rw [decide_eq_true h]; rfl
    cases hi : inT T a with
    | false =>
      refine xOk.pos rfl (ih2 ?_)
      rcases hW a ha with h | h | h
      · exact low (by rw [h]; decide)
      · rw [h.1] at hi; cases hi
      · rw [h.1] at hi; cases hi
    | true =>
      refine xOk.neg (by decide) (xOk.bnde (m_isHole hM ha hi) ?_)
      rcases hW a ha with h | h | h
      · cases hh : isH T a with
        | false => exact xOk.pos rfl (ih2 (low (by rw [h]; decide)))
        | true =>
          refine xOk.neg (by decide) (xOk.ck (nk_in (by omega) (by omega)) ?_)
          rw [nk_N (by omega), hR a ha]
          exact xOk.pos (by rw [h]; decide) (ih2 (low (by rw [h]; decide)))
      · rw [h.2.1]
        exact xOk.pos rfl (ih2 (low (by rw [h.2.2]; decide)))
      · rw [h.2.1]
        refine xOk.neg (by decide) (xOk.ck (nk_in (by omega) (by omega)) ?_)
        have henc := enc_prs hO h.2.2
        have hpos : ¬ enc (W a) ≤ 0 := by
          rw [enc_pos hO hW ha]
          unfold lie
          rw [decide_eq_false (prs_m2 hO h.2.2)]
          decide
        simp only [show xN (Int32.ofNat a) = a from nk_N (by omega), hR a ha, henc]
        refine xOk.neg hpos (xOk.ck (nk_in (by omega) (by omega)) ?_)
        obtain ⟨e', t, h1, h2, h3⟩ := h.2.2
        have hq := prE_at hO h1 h2 h3 (show e < 1000 by omega)
        rw [h3, nl10, nk_div (by omega) (by omega), show (10 * e' + t) / 10 = e' by omega]
        by_cases ee : e' = e
        · refine xOk.pos (by rw [ee]) (xOk.pur ?_)
          rw [decide_eq_true ee] at hq
          unfold prsd
          rw [anyB_true (N := 30) (k := a + 1) (by omega) (by rw [es, hq, Bool.or_true])]
          rfl
        · refine xOk.neg (by rw [nk_eq (by omega) (by omega)]; exact ee) (ih2 ?_)
          rw [hq, decide_eq_false ee]
  · intro n u hP
    show xOk (f_M_isPressed_2 F I (n + 1) _ _) _
    rw [f_M_isPressed_2]
    refine xOk.pos (by decide) (xOk.pur ?_)
    unfold prsd
    rw [hP]
    rfl
/-! press -/
def okP (V : XV) (T : XT) (W : Nat → Int32) (d e x y t : Int32) : Bool := (inC T x y && (isH T (6 * xN y + xN x) && (spB T e && rng t 0 3))) && ((!lie W (6 * xN y + xN x) && !prsd W (xN e)) && (sWet V d && decide (orF (clp T W ((10 * e) + t) (6 * xN y + xN x)) 4 = 0)))
theorem nb_ne {T : XT} (hO : tOk T) {a : Nat} (ha : a < 30) : ∀ s, s < 4 → ∀ b, nb T a s = some b → ¬ b = a := by
  refine all4 ?_ ?_ ?_ ?_
  all_goals
    intro b h
    unfold nb at h
    simp only at h
    split at h
    all_goals cases h
    all_goals omega
theorem clp_upd {T : XT} {W : Nat → Int32} (hO : tOk T) {a s : Nat} {v w : Int32} (ha : a < 30) (hs : s < 4) : clp T (updW W a v) w a s = clp T W w a s := by
  unfold clp
  cases hn : nb T a s with
  | none => rfl
  | some b =>
    have := nb_ne hO ha s hs b hn
    show (lie (updW W a v) b && !decide (knw T w a s + knw T (updW W a v b) b (opp s) = 0)) = (lie W b && !decide (knw T w a s + knw T (W b) b (opp s) = 0))
    have e : updW W a v b = W b := by unfold updW; rw [if_neg this]
    unfold lie
    rw [e]
theorem h_press {F : Nat} (hF : 4000000 ≤ F) {lv n p : Nat} {V : XV} {T : XT} {W : Nat → Int32} {hs : Nat → X4} {I : XI} (hX : wfull F lv V T W I) (hu : uH n p hs I) {e x y t : Int32} :
    xOk (f_H_press F e x y t I) (fun r => r.1 = b2 (okP V T W (I 26 1) e x y t) ∧ (okP V T W (I 26 1) e x y t = false → Same scH I r.2) ∧ (okP V T W (I 26 1) e x y t = true → Same scHA I r.2 ∧ uH (pushN n) ((p + 1) % 40) (pushS n hs (W, I 26 1, I 26 2, I 26 3)) r.2 ∧ oH 26 (updW W (6 * xN y + xN x) ((10 * e) + t), I 26 1, I 26 2, I 26 3) r.2)) := by
  obtain ⟨hC, hL⟩ := hX
  obtain ⟨⟨hO, -, -⟩, ⟨hT, hM⟩, ⟨h4, hW, h6⟩, -, -⟩ := hC
  unfold f_H_press okP
  have no : xOk (some ((0 : Int32), I)) (fun r => r.1 = b2 false ∧ (false = false → Same scH I r.2) ∧ (false = true → Same scHA I r.2 ∧ uH (pushN n) ((p + 1) % 40) (pushS n hs (W, I 26 1, I 26 2, I 26 3)) r.2 ∧ oH 26 (updW W (6 * xN y + xN x) ((10 * e) + t), I 26 1, I 26 2, I 26 3) r.2)) := xOk.pur ⟨rfl, fun _ => Same.rfl, fun h => by cases h⟩
  rcases cellCases hO x y with hc | ⟨a, ha, hi, hc, rfl, rfl⟩
  · rw [hc, Bool.false_and, Bool.false_and]
    exact xOk.bnde (c_holeAt_out hT hO hc) (xOk.pos rfl no)
  rw [hc, cell_N ha, Bool.true_and]
  rw [cell_N ha] at no
  have hpa := c_holeAt_in hT hO ha hi
  cases hh : isH T a with
  | false =>
    rw [hh, iFT] at hpa
    rw [Bool.false_and, Bool.false_and]
    exact xOk.bnde hpa (xOk.pos rfl no)
  | true =>
    rw [hh, iTT] at hpa
    rw [Bool.true_and]
    refine xOk.bnde hpa (xOk.neg (oi_nm1 ha) (xOk.bnde (c_hasSpare hT hO) ?_))
    cases hsp : spB T e with
    | false =>
      rw [Bool.false_and, Bool.false_and]
      exact xOk.pos rfl no
    | true =>
      rw [Bool.true_and]
      refine xOk.neg (by decide) (xOk.bnde h_isTurn ?_)
      cases ht : rng t 0 3 with
      | false =>
        rw [Bool.false_and]
        exact xOk.pos rfl no
      | true =>
        rw [Bool.true_and]
        obtain ⟨ke, hke, rfl⟩ := spB_ex hO hsp
        obtain ⟨kt, hkt, rfl⟩ := side_ex ht
        have o3 := hO.2.2
        have hv : (10 * Int32.ofNat ke) + Int32.ofNat kt = Int32.ofNat (10 * ke + kt) := by rw [nl10, nk_mul, nk_add]
        have hprs : prs T ((10 * Int32.ofNat ke) + Int32.ofNat kt) := ⟨ke, kt, hke, hkt, hv⟩
        simp only [show xN (Int32.ofNat ke) = ke from nk_N (by omega)]
        refine xOk.neg (by decide) (xOk.bnde (c_lies ha) ?_)
        rw [show I (26 + 1) = W from h4]
        cases hl : lie W a with
        | true => exact xOk.neg (by decide) no
        | false =>
          refine xOk.pos rfl (xOk.bnde (c_isPressed hF hO hW h4 hke) ?_)
          cases hpr : prsd W ke with
          | true => exact xOk.neg (by decide) no
          | false =>
            refine xOk.pos rfl ?_
            refine (c_isWet hF hL).bnd (fun r hr => ?_)
            rw [hr.1]
            cases hw : sWet V (I 26 1) with
            | false => exact xOk.pos rfl (xOk.pur ⟨rfl, fun _ => hr.2.RH, fun h => by cases h⟩)
            | true =>
              refine xOk.neg (by decide) ?_
              refine xOk.bnde (c_clashes hF (tbC_X hT hr.2.RX) hO hW (by rw [hr.2.row (26 + 1) (fun _ => rfl)]; exact h4) (Or.inr hprs) ha) ?_
              by_cases h0 : orF (clp T W ((10 * Int32.ofNat ke) + Int32.ofNat kt) a) 4 = 0
              · rw [decide_eq_true h0]
                refine xOk.pos h0 ?_
                have hx : oH 26 (W, I 26 1, I 26 2, I 26 3) r.2 := ⟨fun k _ => by rw [hr.2.row (26 + 1) (fun _ => rfl), show I (26 + 1) = W from h4], hr.2 26 1 rfl, hr.2 26 2 rfl, hr.2 26 3 rfl⟩
                refine (c_keep (uH_same hu hr.2 rfl rfl (fun o h1 _ => scR_mid h1)) hx).bnd (fun K hK => ?_)
                refine xOk.ck (nk_in ha (by omega)) (xOk.st (xOk.pur ⟨rfl, fun h => (by cases h), fun _ => ?_⟩))
                simp only [show xN (Int32.ofNat a) = a from nk_N (by omega)]
                exact ⟨(hr.2.RH.HHA.trans hK.2.UHA).put' rfl, uH_put hK.1, oH_put (x := (W, I 26 1, I 26 2, I 26 3)) (oH_same hx hK.2 (fun _ => rfl) (fun _ => rfl))⟩
              · rw [decide_eq_false h0]
                exact xOk.neg h0 (xOk.pur ⟨rfl, fun _ => hr.2.RH, fun h => by cases h⟩)
theorem m_press {F : Nat} (hF : 4000000 ≤ F) {lv n : Nat} {V : XV} {T : XT} {W : Nat → Int32} {d pd tk : Int32} {hs : Nat → X4} {I : XI} (hS : stat F lv V T I) (hW : wfW T W) (hN : oM 162 0 (W, d, pd, tk) I) (hn : n ≤ 40) (hu : uM n hs I) {e x y t : Int32} :
    xOk (f_M_press F e x y t I) (fun q => q.1 = b2 (okP V T W d e x y t) ∧ (okP V T W d e x y t = false → Same scM I q.2) ∧ (okP V T W d e x y t = true → uM (pushN n) (pushS n hs (W, d, pd, tk)) q.2 ∧ oM 162 0 (updW W (6 * xN y + xN x) ((10 * e) + t), d, pd, tk) q.2 ∧ Same scMV I q.2)) := by
  obtain ⟨⟨hO, -, -⟩, ⟨hT, hM⟩, ⟨h10, h11⟩, hL⟩ := hS
  unfold f_M_press okP
  have no : ∀ (J : XI), Same scM I J → ∀ b : Bool, b = false → xOk (some ((0 : Int32), J)) (fun q => q.1 = b2 b ∧ (b = false → Same scM I q.2) ∧ (b = true → uM (pushN n) (pushS n hs (W, d, pd, tk)) q.2 ∧ oM 162 0 (updW W (6 * xN y + xN x) ((10 * e) + t), d, pd, tk) q.2 ∧ Same scMV I q.2)) := fun J hJ b hb => by
    subst hb
    exact xOk.pur ⟨rfl, fun _ => hJ, fun h => by cases h⟩
  refine xOk.bnde (m_isSpare hM) ?_
  cases hsp : spB T e with
  | false => exact xOk.pos rfl (no I Same.rfl _ (by simp))
  | true =>
    refine xOk.neg (by decide) (xOk.bnde (m_isCell hM) ?_)
    rcases cellCases hO x y with hc | ⟨a, ha, hi, hc, rfl, rfl⟩
    · rw [hc]
      exact xOk.pos rfl (no I Same.rfl _ (by simp))
    rw [hc]
    refine xOk.neg (by decide) (xOk.bnde m_isSide ?_)
    cases ht : rng t 0 3 with
    | false => exact xOk.pos rfl (no I Same.rfl _ (by simp))
    | true =>
      refine xOk.neg (by decide) ?_
      obtain ⟨ke, hke, rfl⟩ := spB_ex hO hsp
      obtain ⟨kt, hkt, rfl⟩ := side_ex ht
      have o3 := hO.2.2
      have hv : (10 * Int32.ofNat ke) + Int32.ofNat kt = Int32.ofNat (10 * ke + kt) := by rw [nl10, nk_mul, nk_add]
      have hprs : prs T ((10 * Int32.ofNat ke) + Int32.ofNat kt) := ⟨ke, kt, hke, hkt, hv⟩
      rw [cell_N ha] at no ⊢
      rw [cell_ix]
      simp only [show xN (Int32.ofNat ke) = ke from nk_N (by omega)]
      refine (m_copiesN hF hM (oM_nowM hN)).bnd (fun J hJ => ?_)
      obtain ⟨j1, j2⟩ := hJ
      refine (m_isWet hF (lawR_X hL j1.MX)).bnd (fun r hr => ?_)
      rw [hr.1, j2.2.1]
      have r2 := rowS_Q j2 hr.2
      have s2 := j1.trans hr.2.QM
      have hM2 := tbM_X hM s2.MX
      cases hw : sWet V d with
      | false => exact xOk.pos rfl (no _ s2 _ (by simp))
      | true =>
        refine xOk.neg (by decide) (xOk.bnde (m_isPressed hF hM2 hO hW r2.1 hke) ?_)
        cases hpr : prsd W ke with
        | true => exact xOk.neg (by decide) (no _ s2 _ (by simp))
        | false =>
          refine xOk.pos rfl (xOk.bnde (m_isHole hM2 ha hi) ?_)
          cases hh : isH T a with
          | false => exact xOk.pos rfl (no _ s2 _ (by simp))
          | true =>
            refine xOk.neg (by decide) (xOk.bnde (m_doesLie hO hW r2.1 ha) ?_)
            cases hl : lie W a with
            | true => exact xOk.neg (by decide) (no _ s2 _ (by simp))
            | false =>
              refine xOk.pos rfl (xOk.ck (nk_in (by omega) (by omega)) (xOk.st ?_))
              rw [show xN (Int32.ofNat a) = a from nk_N (by omega)]
              have hencv : (1 + (10 * Int32.ofNat ke)) + Int32.ofNat kt = enc ((10 * Int32.ofNat ke) + Int32.ofNat kt) := by
                unfold enc
                rw [if_neg (prs_m2 hO hprs), if_neg (prs_m1 hO hprs), Int32.add_comm 1, Int32.add_assoc, Int32.add_comm 1, Int32.add_assoc]
              have s3 : Same scM I (xput r.2 163 a ((1 + (10 * Int32.ofNat ke)) + Int32.ofNat kt)) := s2.put' rfl
              have o163 := oM_put (w := (10 * Int32.ofNat ke) + Int32.ofNat kt) ha (rowS_oM r2) hencv
              have hW' := upd_wf (a := a) hW (Or.inr (Or.inr ⟨hi, hh, hprs⟩))
              have hRR : rowR (updW W a ((10 * Int32.ofNat ke) + Int32.ofNat kt)) (xput r.2 163 a ((1 + (10 * Int32.ofNat ke)) + Int32.ofNat kt)) := fun k hk => by
                have := o163.1 k hk
                rw [Nat.zero_add] at this
                exact this
              have hself : updW W a ((10 * Int32.ofNat ke) + Int32.ofNat kt) a = (10 * Int32.ofNat ke) + Int32.ofNat kt := by unfold updW; rw [if_pos rfl]
              have hcl := m_clashBits hF (tbM_X hM s3.MX) hO hW' hRR ha hi ⟨fun _ => by rw [hself]; exact hprs, fun h => by rw [hh] at h; cases h⟩
              rw [hself, orF_congr (q := clp T W ((10 * Int32.ofNat ke) + Int32.ofNat kt) a) (fun s hs => clp_upd hO ha hs)] at hcl
              refine xOk.bnde hcl ?_
              by_cases h0 : orF (clp T W ((10 * Int32.ofNat ke) + Int32.ofNat kt) a) 4 = 0
              · rw [decide_eq_true h0]
                refine xOk.pos h0 ?_
                refine (m_records hF hn (uM_same hu s3 rfl (fun _ => rfl)) (oM_same hN s3 (fun _ => rfl)) o163).bnd (fun K hK => ?_)
                exact xOk.pur ⟨rfl, fun h => (by cases h), fun _ => ⟨hK.1, hK.2.1, s3.MMV.trans hK.2.2.VMV⟩⟩
              · rw [decide_eq_false h0]
                exact xOk.neg h0 (no _ s3 _ (by simp))
theorem okP_wf {V : XV} {T : XT} {W : Nat → Int32} {d e x y t : Int32} (hO : tOk T) (hW : wfW T W) (h : okP V T W d e x y t = true) : wfW T (updW W (6 * xN y + xN x) ((10 * e) + t)) := by
  unfold okP at h
  simp only [Bool.and_eq_true] at h
  obtain ⟨⟨h1, h2, h3, h4⟩, -⟩ := h
  obtain ⟨a, ha, hi, hc, rfl, rfl⟩ := (cellCases hO x y).resolve_left (by rw [h1]; decide)
  rw [cell_N ha] at h2 ⊢
  obtain ⟨ke, hke, rfl⟩ := spB_ex hO h3
  obtain ⟨kt, hkt, rfl⟩ := side_ex h4
  exact upd_wf hW (Or.inr (Or.inr ⟨hi, h2, ke, kt, hke, hkt, by rw [nl10, nk_mul, nk_add]⟩))
theorem both_press {F : Nat} (hF : 4000000 ≤ F) {I : XI} (hI : Inv F I) {e x y t : Int32} : both F I (f_H_press F e x y t) (f_M_press F e x y t) := by
  have hI0 := hI
  obtain ⟨⟨lv, V, T, x0, h1, h2, ⟨n, p, hst, fl, ss, ⟨p1, p2, p3⟩, p4, p5, p6, p7⟩⟩, hr⟩ := hI
  have he := now_exact h1 h2
  obtain ⟨hX, e1, e2, e3, e4⟩ := now_full h1 h2
  rw [← e1, ← e2, ← e3] at he
  obtain ⟨y1, y2, y3⟩ := he
  refine fin_act hI0 h1 hr p1.1.1 ⟨y2, y3⟩ p2 p3 p4 ⟨p5, p6⟩ p7 (h_press hF hX p1) (fun J j1 j2 j3 => m_press hF j1 y3 j2 p1.1.1 j3) (fun ok => okP_wf h1.1.1 y3 ok)
