/-! days, undo, hold, restore -/
theorem scD26_HA {o j : Nat} (h : scHA o j = false) : scD 26 o j = false := by
  obtain ⟨h1, h2, h3⟩ := scHA_of h
  unfold scD
  rw [scH_R h1]
  simp only [Bool.or_eq_false_iff] at h3
  rw [h3.1, h3.2]
  rfl
def vDays (V : XV) (T : XT) (kn sd : Int32) (W : Nat → Int32) (d tk n : Int32) : Int32 := if rng n 0 60 = true then (dn V T kn sd (xN n) (W, d, tk)).2.1 else -1
def okD (n : Int32) : Bool := rng n 0 60 && !decide (n = 0)
noncomputable def yDays (V : XV) (T : XT) (kn sd : Int32) (W : Nat → Int32) (d pd tk n : Int32) : X4 := ((dn V T kn sd (xN n) (W, d, tk)).1, (dn V T kn sd (xN n) (W, d, tk)).2.1, pn V T kn sd (xN n) (W, d, tk) pd, (dn V T kn sd (xN n) (W, d, tk)).2.2)
theorem h_days {F : Nat} (hF : 4000000 ≤ F) {lv n p : Nat} {V : XV} {T : XT} {W : Nat → Int32} {hs : Nat → X4} {I : XI} (hX : wfull F lv V T W I) (hu : uH n p hs I) {k : Int32} :
    xOk (f_H_days F k I) (fun r => r.1 = vDays V T (I 17 3) (I 17 4) W (I 26 1) (I 26 3) k ∧ (okD k = false → Same scH I r.2) ∧ (okD k = true → Same scHA I r.2 ∧ uH (pushN n) ((p + 1) % 40) (pushS n hs (W, I 26 1, I 26 2, I 26 3)) r.2 ∧ oH 26 (yDays V T (I 17 3) (I 17 4) W (I 26 1) (I 26 2) (I 26 3) k) r.2)) := by
  obtain ⟨hC, hL⟩ := hX
  obtain ⟨⟨hO, -, -⟩, ⟨hT, hM⟩, ⟨h4, hW, h6⟩, -, -⟩ := hC
  unfold f_H_days vDays okD
  by_cases h1 : k < 0
  · rw [if_pos h1, rng_lo h1]
    exact xOk.pur ⟨rfl, fun _ => Same.rfl, fun h => by cases h⟩
  rw [if_neg h1]
  by_cases h2 : k ≤ 60
  · rw [if_pos h2, rng_in h1 h2]
    obtain ⟨m, hm, rfl⟩ := long_ex (rng_in h1 h2)
    rw [iTT, Bool.true_and]
    by_cases h0 : m = 0
    · subst h0
      rw [if_pos (by decide)]
      exact xOk.pur ⟨rfl, fun _ => Same.rfl, fun h => by cases h⟩
    · refine xOk.neg (nk_nge (N := m) (k := 0) (by omega) (by omega)) ?_
      have hx : oH 26 (W, I 26 1, I 26 2, I 26 3) I := ⟨fun a _ => by rw [show I (26 + 1) = W from h4], rfl, rfl, rfl⟩
      refine (c_keep hu hx).bnd (fun J hJ => ?_)
      obtain ⟨j1, j2⟩ := hJ
      have hs4 : Same scL I J := j2.UL
      refine (c_pass hF (Or.inl rfl) (lv := lv) (V := V) (T := T) (s := (W, I 26 1, I 26 3)) (I := J) ?_ ?_ hO hW ?_ (by omega)).bnd (fun K hK => ?_)
      · exact (⟨hL.1, fun k hk K e1 e2 e3 => hL.2.1 k hk K (e1.trans (j2 21 1 rfl)) (e2.trans (j2.row 22 (fun _ => rfl))) (e3.trans (j2.row 23 (fun _ => rfl))), fun k hk K e => hL.2.2 k hk K (agM_trans ⟨j2 131 18 rfl, fun k _ => ⟨j2 150 _ rfl, j2 151 _ rfl⟩, fun b _ => ⟨j2 152 _ rfl, j2 153 _ rfl, j2 154 _ rfl, j2 155 _ rfl, j2 156 _ rfl⟩, fun c _ => ⟨j2 157 _ rfl, j2 158 _ rfl⟩⟩ e)⟩)
      · exact tbC_same hT j2 (fun _ => rfl) (fun _ => rfl) (fun _ => rfl) (fun _ => rfl)
      · exact ⟨(j2.row 27 (fun _ => rfl)).trans h4, j2 26 1 rfl, j2 26 3 rfl⟩
      · obtain ⟨k1, k2, k3⟩ := hK
        rw [j2 17 3 rfl, j2 17 4 rfl] at k1 k2
        rw [j2 26 2 rfl] at k2
        unfold f_H_days_39
        refine xOk.pur ⟨?_, fun h => ?_, fun _ => ⟨j2.UHA.trans (k3.mono (fun _ _ e => scD26_HA e)), uH_same j1 k3 rfl rfl (fun o a b j => ?_), ?_⟩⟩
        · show K 26 1 = _
          rw [k1.2.1, nk_N (by omega)]
        · have : decide (Int32.ofNat m = 0) = false := decide_eq_false (by rw [nk_z (by omega)]; exact h0)
          rw [this] at h
          cases h
        · unfold scD
          rw [scR_mid a, beqf (show ¬ o = 26 by omega), beqf (show ¬ o = 26 + 1 by omega)]
          rfl
        · unfold yDays
          rw [nk_N (by omega)]
          exact ⟨fun a _ => (by
            show K (26 + 1) a = _
            rw [show K (26 + 1) = _ from k1.1]), k1.2.1, k2, k1.2.2⟩
  · rw [if_neg h2, rng_hi h2]
    exact xOk.pur ⟨rfl, fun _ => Same.rfl, fun h => by cases h⟩
theorem m_days {F : Nat} (hF : 4000000 ≤ F) {lv n : Nat} {V : XV} {T : XT} {W : Nat → Int32} {d pd tk kn sd : Int32} {hs : Nat → X4} {I : XI} (hS : stat F lv V T I) (hk : I 17 3 = kn) (hsd : I 17 4 = sd) (hW : wfW T W) (hN : oM 162 0 (W, d, pd, tk) I) (hn : n ≤ 40) (hu : uM n hs I) {k : Int32} :
    xOk (f_M_days F k I) (fun q => q.1 = vDays V T kn sd W d tk k ∧ (okD k = false → Same scM I q.2) ∧ (okD k = true → uM (pushN n) (pushS n hs (W, d, pd, tk)) q.2 ∧ oM 162 0 (yDays V T kn sd W d pd tk k) q.2 ∧ Same scMV I q.2)) := by
  obtain ⟨⟨hO, -, -⟩, ⟨hT, hM⟩, ⟨h10, h11⟩, hL⟩ := hS
  unfold f_M_days vDays okD
  refine xOk.bnde m_isLong ?_
  cases hr : rng k 0 60 with
  | false => exact xOk.pos rfl (xOk.pur ⟨rfl, fun _ => Same.rfl, fun h => by cases h⟩)
  | true =>
    obtain ⟨m, hm, rfl⟩ := long_ex hr
    rw [iTT, Bool.true_and]
    refine xOk.neg (by decide) ?_
    by_cases h0 : m = 0
    · subst h0
      refine xOk.pos rfl (xOk.ck rfl (xOk.pur ⟨?_, fun _ => Same.rfl, fun h => by cases h⟩))
      exact hN.2.1
    · refine xOk.neg (by rw [nk_z (by omega)]; exact h0) ?_
      refine (m_copiesN hF hM (oM_nowM hN)).bnd (fun J hJ => ?_)
      obtain ⟨j1, j2⟩ := hJ
      rw [h11, hsd] at j2
      refine (m_goes hF (s := (W, d, tk)) (lawR_X hL j1.MX) (tbM_X hM j1.MX) hO hW j2 (n := m) (by omega)).bnd (fun K hK => ?_)
      obtain ⟨k1, k2⟩ := hK
      rw [j1 148 lv rfl, h10, hk] at k1
      have s3 := j1.trans k2
      refine (m_records hF hn (uM_same hu s3 rfl (fun _ => rfl)) (oM_same hN s3 (fun _ => rfl)) (rowS_oM k1)).bnd (fun N hN2 => ?_)
      obtain ⟨n1, n2, n3⟩ := hN2
      refine xOk.ck rfl (xOk.pur ⟨?_, fun h => ?_, fun _ => ⟨n1, ?_, s3.MMV.trans n3.VMV⟩⟩)
      · rw [nk_N (by omega)]
        exact n2.2.1
      · have : decide (Int32.ofNat m = 0) = false := decide_eq_false (by rw [nk_z (by omega)]; exact h0)
        rw [this] at h
        cases h
      · unfold yDays
        rw [nk_N (by omega)]
        exact n2
theorem both_days {F : Nat} (hF : 4000000 ≤ F) {I : XI} (hI : Inv F I) {k : Int32} : both F I (f_H_days F k) (f_M_days F k) := by
  have hI0 := hI
  obtain ⟨⟨lv, V, T, x0, h1, h2, ⟨n, p, hst, fl, ss, ⟨p1, p2, p3⟩, p4, p5, p6, p7⟩⟩, hr⟩ := hI
  have he := now_exact h1 h2
  obtain ⟨hX, e1, e2, e3, e4⟩ := now_full h1 h2
  rw [← e1, ← e2, ← e3] at he
  obtain ⟨y1, y2, y3⟩ := he
  have hh := h_days hF hX p1 (k := k)
  refine hh.mono (fun r hr2 => ?_)
  obtain ⟨r1, r2, r3⟩ := hr2
  cases hok : okD k with
  | false =>
    have s := r2 hok
    refine (m_days hF (stat_A h1 s.HX.XL.LA) (s 17 3 rfl) (s 17 4 rfl) y3 (oM_same y2 s (fun _ => rfl)) p1.1.1 (uM_same p2 s rfl (fun _ => rfl))).mono (fun q hq => ?_)
    exact ⟨hq.1.trans r1.symm, Inv_X hI0 (s.HX.trans (hq.2.1 hok).MX)⟩
  | true =>
    obtain ⟨s, t1, t2⟩ := r3 hok
    have sL : Same scL I r.2 := s.mono (fun _ _ e => scHA_L e)
    refine (m_days hF (stat_A h1 sL.LA) (s 17 3 rfl) (s 17 4 rfl) y3 (oM_same y2 s (fun _ => rfl)) p1.1.1 (uM_same p2 s rfl (fun _ => rfl))).mono (fun q hq => ?_)
    obtain ⟨q1, -, q3⟩ := hq
    obtain ⟨q4, q5, q6⟩ := q3 hok
    have sL2 : Same scL r.2 q.2 := q6.mono (fun _ _ e => scMV_L e)
    exact ⟨q1.trans r1.symm, act_done h1 hr (sL.trans sL2) p4 ⟨p5, p6⟩ p7 (uH_same t1 q6 rfl rfl (fun o a b => scMV_mid a (by omega))) q4 (push_wf p3 y3 p1.1.1) (oH_same t2 q6 (fun _ => rfl) (fun _ => rfl)) q5 (dn_wf y3)⟩
/-! undo -/
theorem scS26_HA {o j : Nat} (h : scHA o j = false) : scS 26 o j = false := by
  have := (scHA_of h).2.2
  exact this
theorem both_undo {F : Nat} (hF : 4000000 ≤ F) {I : XI} (hI : Inv F I) : both F I f_H_undo (f_M_undo F) := by
  have hI0 := hI
  obtain ⟨⟨lv, V, T, x0, h1, h2, ⟨n, p, hst, fl, ss, ⟨p1, p2, p3⟩, p4, p5, p6, p7⟩⟩, hr⟩ := hI
  obtain ⟨⟨hn, hp⟩, ⟨u1, u2⟩, u3⟩ := p1
  unfold both f_H_undo f_Past_goBack
  rw [u1]
  by_cases h0 : n = 0
  · subst h0
    rw [if_pos (by decide), Option.bind_some]
    refine xOk.ck rfl (xOk.pur ?_)
    show xOk (f_M_undo F I) _
    unfold f_M_undo
    rw [p2.1]
    exact xOk.pos rfl (xOk.pur ⟨rfl, hI0⟩)
  · rw [if_neg (show ¬ Int32.ofNat n = 0 by rw [nk_z (by omega)]; exact h0)]
    have e1 : Int32.ofNat n - 1 = Int32.ofNat (n - 1) := by rw [nl1, nk_sub (by omega)]
    refine xOk.bnd (P := fun r => r.1 = 1 ∧ Same scHA I r.2 ∧ uH (n - 1) ((p + 39) % 40) hst r.2 ∧ oH 26 (hst (n - 1)) r.2) ?_ ?_
    · refine xOk.st (xOk.st ?_)
      rw [e1, xput_ne (show ¬ (38 = 38 ∧ 2 = 1) by omega), u2]
      have e2 : ((Int32.ofNat p + 40) - 1) - ((Int32.ofNat p + 40) - 1) / 40 * 40 = Int32.ofNat ((p + 39) % 40) := by
        rw [nl40, nl1]
        simp (disch := omega) only [nk_add, nk_sub, nk_div, nk_mul, nk_md]
        rw [show p + 40 - 1 = p + 39 by omega]
      rw [e2, xput_eq]
      refine xOk.ck (nk_in (Nat.mod_lt _ (by omega)) (by omega)) ?_
      rw [nk_N (by omega)]
      refine xOk.bnde (xrf39 _ (Nat.mod_lt _ (by omega))) ?_
      have hJ : Same scHA I (xput (xput I 38 1 (Int32.ofNat (n - 1))) 38 2 (Int32.ofNat ((p + 39) % 40))) := (Same.put rfl).put' rfl
      have e38 : ∀ A x, ¬ A = 38 → ¬ A + 1 = 38 → oH A x I → oH A x (xput (xput I 38 1 (Int32.ofNat (n - 1))) 38 2 (Int32.ofNat ((p + 39) % 40))) := by
        intro A x a1 a2 h
        obtain ⟨a, b, c, d⟩ := h
        refine ⟨fun k hk => ?_, ?_, ?_, ?_⟩
        · rw [xput_neo a2, xput_neo a2]; exact a k hk
        · rw [xput_neo a1, xput_neo a1]; exact b
        · rw [xput_neo a1, xput_neo a1]; exact c
        · rw [xput_neo a1, xput_neo a1]; exact d
      refine (c_copy (A := 26) (B := 41 + 2 * ((p + 39) % 40)) (by omega)).bnd (fun K hK => ?_)
      obtain ⟨k1, k2, k3, k4, k5⟩ := hK
      have hs := e38 _ _ (by omega) (by omega) (u3 (n - 1) (by omega))
      rw [show (p + 40 - n + (n - 1)) % 40 = (p + 39) % 40 by omega] at hs
      refine xOk.pur ⟨rfl, hJ.trans (k5.mono (fun _ _ e => scS26_HA e)), ⟨⟨by omega, Nat.mod_lt _ (by omega)⟩, ⟨?_, ?_⟩, fun j hj => ?_⟩, ⟨fun a ha => (k1 a ha).trans (hs.1 a ha), k2.trans hs.2.1, k3.trans hs.2.2.1, k4.trans hs.2.2.2⟩⟩
      · show K 38 1 = _
        rw [k5 38 1 rfl, xput_ne (by omega), xput_eq]
      · show K 38 2 = _
        rw [k5 38 2 rfl, xput_eq]
      · have h := u3 j (by omega)
        rw [show (p + 40 - n + j) % 40 = ((p + 39) % 40 + 40 - (n - 1) + j) % 40 by omega] at h
        refine oH_same (e38 _ _ (by omega) (by omega) h) k5 (fun j => ?_) (fun j => ?_)
        · unfold scS
          rw [beqf (by omega), beqf (by omega)]
          rfl
        · unfold scS
          rw [beqf (by omega), beqf (by omega)]
          rfl
    · intro r hr2
      obtain ⟨r1, s, t1, t2⟩ := hr2
      rw [r1]
      refine xOk.ck rfl (xOk.pur ?_)
      have sL : Same scL I r.2 := s.mono (fun _ _ e => scHA_L e)
      have m1 := uM_same p2 s rfl (fun _ => rfl)
      obtain ⟨m1, m2⟩ := m1
      show xOk (f_M_undo F r.2) _
      unfold f_M_undo
      rw [m1]
      refine xOk.neg (by rw [nk_z (by omega)]; exact h0) (xOk.st ?_)
      rw [e1]
      refine xloop 33 (fun k (K : XI) i => f_M_undo_21 F k (Int32.ofNat i) K) (fun i K => K 131 54 = Int32.ofNat (n - 1) ∧ (∀ j, j < i → K 162 j = r.2 166 (33 * (n - 1) + j)) ∧ Same scV r.2 K ∧ (∀ j, K 166 j = r.2 166 j)) ?_ ?_ F _ 0 (by omega) (by omega) ⟨xput_eq, fun j hj => absurd hj (by omega), Same.put rfl, fun j => by rw [xput_neo (by omega)]⟩
      · intro k K i hi hP ih
        obtain ⟨a1, a2, a3, a4⟩ := hP
        show xOk (f_M_undo_21 F (k + 1) _ _) _
        rw [f_M_undo_21]
        refine xOk.neg (nk_nge hi (by decide)) ?_
        rw [a1, nl33, nk_mul, nk_add]
        refine xOk.ck (nk_in (by omega) (by omega)) (xOk.ck (nk_in hi (by omega)) (xOk.st ?_))
        rw [nk_N (by omega), nk_N (by omega), nk_succ]
        refine ih _ ⟨?_, fun j hj => ?_, a3.put' rfl, fun j => ?_⟩
        · rw [xput_neo (by omega)]; exact a1
        · rw [xput_at]
          by_cases e : j = i
          · rw [if_pos e, e]; exact a4 _
          · rw [if_neg e]; exact a2 j (by omega)
        · rw [xput_neo (by omega)]; exact a4 j
      · intro k K hP
        obtain ⟨a1, a2, a3, a4⟩ := hP
        show xOk (f_M_undo_21 F (k + 1) _ _) _
        rw [f_M_undo_21]
        refine xOk.pos (by decide) (xOk.pur ⟨rfl, ?_⟩)
        have sL2 : Same scL r.2 K := a3.VL
        refine act_done h1 hr (sL.trans sL2) p4 ⟨p5, p6⟩ p7 (uH_same t1 a3 rfl rfl (fun o a b j => ?_)) ⟨a1, fun j hj => oM_of (m2 j (by omega)) (fun k _ => a4 _)⟩ (fun j hj => p3 j (by omega)) (oH_same t2 a3 (fun _ => rfl) (fun _ => rfl)) (oM_of (m2 (n - 1) (by omega)) (fun k hk => by rw [Nat.zero_add]; exact a2 k hk)) (p3 (n - 1) (by omega))
        unfold scV
        rw [beqf (show ¬ o = 162 by omega), beqf (show ¬ o = 166 by omega), beqf (show ¬ o = 131 by omega)]
        rfl
/-! hold -/
def scHh (o j : Nat) : Bool := (Nat.beq o 38 && Nat.beq j 4) || (Nat.ble 121 o && Nat.ble o 126)
def scHm (o _j : Nat) : Bool := Nat.beq o 173 || Nat.beq o 174
theorem scHh_A {o j : Nat} (h : scA o j = false) : scHh o j = false := by
  have h1 := Bool.or_eq_false_iff.mp (Bool.or_eq_false_iff.mp h).2
  have h2 := Bool.or_eq_false_iff.mp h1.2
  unfold scHh
  rw [h1.1, h2.1]
  rfl
theorem scHm_A {o j : Nat} (h : scA o j = false) : scHm o j = false := (Bool.or_eq_false_iff.mp (Bool.or_eq_false_iff.mp (Bool.or_eq_false_iff.mp h).2).2).2
theorem scHh_mid {o : Nat} (h1 : 41 ≤ o) (h2 : o ≤ 120) (j : Nat) : scHh o j = false := by
  unfold scHh
  rw [beqf (show ¬ o = 38 by omega)]
  cases h : Nat.ble 121 o with
  | false => rfl
  | true => have := Nat.le_of_ble_eq_true h; omega
theorem scHm_lo {o : Nat} (h : o < 173) (j : Nat) : scHm o j = false := by
  unfold scHm
  rw [beqf (show ¬ o = 173 by omega), beqf (show ¬ o = 174 by omega)]
  rfl
theorem scS_Ho {s o j : Nat} (hs : s < 3) (h : scHh o j = false) : scS (121 + 2 * s) o j = false := by
  unfold scS
  cases h1 : Nat.beq o (121 + 2 * s) with
  | true =>
    have := Nat.eq_of_beq_eq_true h1
    unfold scHh at h
    rw [Nat.ble_eq_true_of_le (show 121 ≤ o by omega), Nat.ble_eq_true_of_le (show o ≤ 126 by omega)] at h
    simp at h
  | false =>
    cases h2 : Nat.beq o (121 + 2 * s + 1) with
    | true =>
      have := Nat.eq_of_beq_eq_true h2
      unfold scHh at h
      rw [Nat.ble_eq_true_of_le (show 121 ≤ o by omega), Nat.ble_eq_true_of_le (show o ≤ 126 by omega)] at h
      simp at h
    | false => rfl
theorem bit_set3 {m k : Nat} (hm : m < 8) (hk : k < 3) : m ||| 2 ^ k < 8 := by
  have h2 : 2 ^ k < 2 ^ 3 := Nat.pow_lt_pow_right (by omega) hk
  exact Nat.or_lt_two_pow (n := 3) hm h2
theorem both_hold {F : Nat} (hF : 4000000 ≤ F) {I : XI} (hI : Inv F I) {s : Int32} : both F I (f_H_hold s) (f_M_hold F s) := by
  have hI0 := hI
  obtain ⟨⟨lv, V, T, x, h1, ⟨h2, h3, h4⟩, ⟨n, p, hst, fl, ss, ⟨p1, p2, p3⟩, p4, ⟨p5, p5'⟩, p6, p7⟩⟩, hr⟩ := hI
  unfold both f_H_hold f_M_hold
  by_cases g1 : s < 0
  · rw [if_pos g1]
    refine xOk.pur (xOk.bnde m_in ?_)
    rw [show (decide (0 ≤ s) && decide (s ≤ 2)) = rng s 0 2 from rfl, rng_lo g1]
    exact xOk.pos rfl (xOk.pur ⟨rfl, hI0⟩)
  rw [if_neg g1]
  by_cases g2 : s < 3
  · rw [if_pos g2]
    have hx := (Int32.ofNat_toNatClampNeg s (Int32.not_lt.mp g1)).symm
    have hx : s = Int32.ofNat (xN s) := hx
    have lx : xN s < 2147483648 := Int32.toNatClampNeg_lt s
    generalize xN s = k at hx lx
    subst hx
    have hk : k < 3 := by
      rw [nl3, nk_lt lx (by omega)] at g2
      exact g2
    refine xOk.bnd (P := fun J => Same scHh I J ∧ J 38 4 = Int32.ofNat (fl ||| 2 ^ k) ∧ oH (121 + 2 * k) x J ∧ ∀ s, s < 3 → ¬ s = k → fl.testBit s = true → oH (121 + 2 * s) (ss s) J) ?_ ?_
    · unfold f_Past_fill
      refine xOk.ck (nk_in hk (by omega)) ?_
      rw [nk_N (by omega)]
      refine xOk.bnde (xrf40 k hk) ?_
      refine (c_copy (A := 121 + 2 * k) (B := 26) (by omega)).bnd (fun K hK => xOk.st (xOk.pur ?_))
      obtain ⟨k1, k2, k3, k4, k5⟩ := hK
      have e38 : K 38 4 = Int32.ofNat fl := by
        rw [k5 38 4 (by unfold scS; rw [beqf (by omega), beqf (by omega)]; rfl)]
        exact p5
      rw [e38, bit_set (by omega) (by omega)]
      have hput : ∀ A y, ¬ A = 38 → ¬ A + 1 = 38 → oH A y K → oH A y (xput K 38 4 (Int32.ofNat (fl ||| 2 ^ k))) := by
        intro A x a1 a2 h
        obtain ⟨a, b, c, d⟩ := h
        refine ⟨fun k hk => ?_, ?_, ?_, ?_⟩
        · rw [xput_neo a2]; exact a k hk
        · rw [xput_neo a1]; exact b
        · rw [xput_neo a1]; exact c
        · rw [xput_neo a1]; exact d
      refine ⟨(k5.mono (fun o j e => scS_Ho hk e)).put' rfl, xput_eq, hput _ _ (by omega) (by omega) ⟨fun a ha => (k1 a ha).trans (h2.1 a ha), k2.trans h2.2.1, k3.trans h2.2.2.1, k4.trans h2.2.2.2⟩, fun s hs hne hb => hput _ _ (by omega) (by omega) (oH_same (p5' s hs hb) k5 (fun j => ?_) (fun j => ?_))⟩
      · unfold scS
        rw [beqf (by omega), beqf (by omega)]
        rfl
      · unfold scS
        rw [beqf (by omega), beqf (by omega)]
        rfl
    · intro J hJ
      obtain ⟨j1, j2, j3, j4⟩ := hJ
      refine xOk.pur (xOk.bnde m_in ?_)
      rw [show (decide (0 ≤ Int32.ofNat k) && decide (Int32.ofNat k ≤ 2)) = true by
        rw [decide_eq_true (Int32.not_lt.mp g1), decide_eq_true (show Int32.ofNat k ≤ 2 from nk_le_t (show k ≤ 2 by omega) (by decide))]; rfl]
      refine xOk.neg (by decide) (xOk.ck (nk_in hk (by omega)) (xOk.st ?_))
      show xOk (f_M_hold_20 F F (Int32.ofNat k) 0 (xput J 173 k (1 &&& 1))) _
      refine xloop 33 (fun m (K : XI) i => f_M_hold_20 F m (Int32.ofNat k) (Int32.ofNat i) K) (fun i K => Same scHm J K ∧ (∀ s, K 173 s = if s = k then 1 else J 173 s) ∧ (∀ j, j < i → K 174 (33 * k + j) = I 162 j) ∧ (∀ j, (j < 33 * k ∨ 33 * k + 33 ≤ j) → K 174 j = J 174 j)) ?_ ?_ F _ 0 (by omega) (by omega) ⟨Same.put rfl, fun s => by rw [xput_at]; rfl, fun j hj => absurd hj (by omega), fun j _ => by rw [xput_neo (by omega)]⟩
      · intro m K i hi hP ih
        obtain ⟨a1, a2, a3, a4⟩ := hP
        show xOk (f_M_hold_20 F (m + 1) _ _ _) _
        rw [f_M_hold_20]
        refine xOk.neg (nk_nge hi (by decide)) (xOk.ck (nk_in hi (by omega)) ?_)
        rw [nl33, nk_mul, nk_add]
        refine xOk.ck (nk_in (by omega) (by omega)) (xOk.st ?_)
        rw [nk_N (by omega), nk_N (by omega), nk_succ]
        refine ih _ ⟨a1.put' rfl, fun s => ?_, fun j hj => ?_, fun j hj => ?_⟩
        · rw [xput_neo (by omega)]; exact a2 s
        · rw [xput_at]
          by_cases e : j = i
          · rw [if_pos (by omega), e, a1 162 i rfl]; exact j1 162 i rfl
          · rw [if_neg (by omega)]; exact a3 j (by omega)
        · rw [xput_at, if_neg (by omega)]; exact a4 j hj
      · intro m K hP
        obtain ⟨a1, a2, a3, a4⟩ := hP
        show xOk (f_M_hold_20 F (m + 1) _ _ _) _
        rw [f_M_hold_20]
        refine xOk.pos (by decide) (xOk.pur ⟨rfl, ?_⟩)
        have sA : Same scA I K := (j1.mono (fun _ _ e => scHh_A e)).trans (a1.mono (fun _ _ e => scHm_A e))
        have tb : ∀ s, (fl ||| 2 ^ k).testBit s = (fl.testBit s || decide (k = s)) := fun s => tb_set
        refine ⟨⟨lv, V, T, x, stat_A h1 sA, ⟨oH_same (oH_same h2 j1 (fun _ => rfl) (fun _ => rfl)) a1 (fun _ => rfl) (fun _ => rfl), oM_same (oM_same h3 j1 (fun _ => rfl)) a1 (fun _ => rfl), h4⟩, ⟨n, p, hst, fl ||| 2 ^ k, fun s => if s = k then x else ss s, ⟨uH_same (uH_same p1 j1 rfl rfl (fun o a b => scHh_mid a b)) a1 rfl rfl (fun o a b => scHm_lo (by omega)), uM_same (uM_same p2 j1 rfl (fun _ => rfl)) a1 rfl (fun _ => rfl), p3⟩, bit_set3 p4 hk, ⟨?_, ?_⟩, ?_, ?_⟩⟩, restR_A hr sA⟩
        · show K 38 4 = _
          rw [a1 38 4 rfl]; exact j2
        · intro s hs hb
          by_cases e : s = k
          · show oH _ (if s = k then x else ss s) K
            rw [if_pos e, e]
            exact oH_same j3 a1 (scHm_lo (by omega)) (scHm_lo (by omega))
          · show oH _ (if s = k then x else ss s) K
            rw [if_neg e]
            rw [tb, decide_eq_false (fun h => e h.symm), Bool.or_false] at hb
            exact oH_same (j4 s hs e hb) a1 (scHm_lo (by omega)) (scHm_lo (by omega))
        · intro s hs
          show K 173 s = b2 ((fl ||| 2 ^ k).testBit s) ∧ ((fl ||| 2 ^ k).testBit s = true → oM 174 (33 * s) (if s = k then x else ss s) K)
          rw [a2 s, tb]
          by_cases e : s = k
          · rw [if_pos e]
            refine ⟨by rw [decide_eq_true e.symm, Bool.or_true]; rfl, fun _ => ?_⟩
            show oM _ _ (if s = k then x else ss s) K
            rw [if_pos e, e]
            exact oM_of h3 (fun i hi => by rw [Nat.zero_add]; exact a3 i hi)
          · rw [if_neg e, decide_eq_false (fun h => e h.symm), Bool.or_false]
            obtain ⟨x1, x2⟩ := p6 s hs
            refine ⟨by rw [j1 173 s rfl]; exact x1, fun hb => ?_⟩
            show oM _ _ (if s = k then x else ss s) K
            rw [if_neg e]
            exact oM_of (x2 hb) (fun i hi => by rw [a4 _ (by omega)]; exact j1 174 _ rfl)
        · intro s hs hb
          show wfW T (if s = k then x else ss s).1
          by_cases e : s = k
          · rw [if_pos e]; exact h4
          · rw [if_neg e]
            rw [tb, decide_eq_false (fun h => e h.symm), Bool.or_false] at hb
            exact p7 s hs hb
  · rw [if_neg g2]
    refine xOk.pur (xOk.bnde m_in ?_)
    rw [show (decide (0 ≤ s) && decide (s ≤ 2)) = rng s 0 2 from rfl, rng_hi (by
      rw [nl3] at g2
      have hx : s = Int32.ofNat (xN s) := (Int32.ofNat_toNatClampNeg s (Int32.not_lt.mp g1)).symm
      have lx : xN s < 2147483648 := Int32.toNatClampNeg_lt s
      rw [hx] at g2 ⊢
      rw [nk_lt lx (by omega)] at g2
      rw [nl2, nk_le lx (by omega)]
      omega)]
    exact xOk.pos rfl (xOk.pur ⟨rfl, hI0⟩)
/-! restore -/
theorem both_restore {F : Nat} (hF : 4000000 ≤ F) {I : XI} (hI : Inv F I) {s : Int32} : both F I (f_H_restore s) (f_M_restore F s) := by
  have hI0 := hI
  obtain ⟨⟨lv, V, T, x, h1, ⟨h2, h3, h4⟩, ⟨n, p, hst, fl, ss, ⟨p1, p2, p3⟩, p4, ⟨p5, p5'⟩, p6, p7⟩⟩, hr⟩ := hI
  unfold both f_H_restore
  by_cases g1 : s < 0
  · rw [if_pos g1]
    refine xOk.pur ?_
    show xOk (f_M_restore F s I) _
    unfold f_M_restore
    refine xOk.bnde m_in ?_
    rw [show (decide (0 ≤ s) && decide (s ≤ 2)) = rng s 0 2 from rfl, rng_lo g1]
    exact xOk.pos rfl (xOk.pur ⟨rfl, hI0⟩)
  rw [if_neg g1]
  by_cases g2 : s < 3
  · rw [if_pos g2]
    have hx : s = Int32.ofNat (xN s) := (Int32.ofNat_toNatClampNeg s (Int32.not_lt.mp g1)).symm
    have lx : xN s < 2147483648 := Int32.toNatClampNeg_lt s
    generalize xN s = k at hx lx
    subst hx
    have hk : k < 3 := by
      rw [nl3, nk_lt lx (by omega)] at g2
      exact g2
    have ek : xN (Int32.ofNat k) = k := nk_N (by omega)
    have hin : (decide (0 ≤ Int32.ofNat k) && decide (Int32.ofNat k ≤ 2)) = true := by
      rw [decide_eq_true (Int32.not_lt.mp g1), decide_eq_true (show Int32.ofNat k ≤ 2 from nk_le_t (show k ≤ 2 by omega) (by decide))]
      rfl
    obtain ⟨m1, m2⟩ := p6 k hk
    cases hb : fl.testBit k with
    | false =>
      refine xOk.bnd (P := fun r => r = (0, I)) ?_ ?_
      · unfold f_Past_goOnFrom
        rw [p5, bit_get (by omega) (by omega), hb]
        exact xOk.pos rfl (xOk.pur rfl)
      · intro r hr2
        rw [hr2]
        refine xOk.ck rfl (xOk.pur ?_)
        show xOk (f_M_restore F (Int32.ofNat k) I) _
        unfold f_M_restore
        refine xOk.bnde m_in ?_
        rw [hin]
        refine xOk.neg (by decide) (xOk.ck (nk_in hk (by omega)) ?_)
        rw [ek, m1, hb]
        exact xOk.pos rfl (xOk.pur ⟨rfl, hI0⟩)
    | true =>
      refine xOk.bnd (P := fun r => r.1 = 1 ∧ Same scHA I r.2 ∧ uH 0 p hst r.2 ∧ oH 26 (ss k) r.2) ?_ ?_
      · unfold f_Past_goOnFrom
        rw [p5, bit_get (by omega) (by omega), hb]
        refine xOk.neg (by decide) (xOk.ck (nk_in hk (by omega)) ?_)
        rw [ek]
        refine xOk.bnde (xrf40 k hk) ?_
        refine (c_copy (A := 26) (B := 121 + 2 * k) (by omega)).bnd (fun K hK => xOk.st (xOk.pur ?_))
        obtain ⟨k1, k2, k3, k4, k5⟩ := hK
        have ho := p5' k hk hb
        refine ⟨rfl, (k5.mono (fun _ _ e => scS26_HA e)).put' rfl, ⟨⟨by omega, p1.1.2⟩, ⟨(by
          show xput K 38 1 0 38 1 = _
          rw [xput_eq]
          rfl), ?_⟩, fun j hj => absurd hj (by omega)⟩, ⟨fun a ha => ?_, ?_, ?_, ?_⟩⟩
        · show xput K 38 1 0 38 2 = _
          rw [xput_ne (by omega), k5 38 2 rfl]; exact p1.2.1.2
        · show xput K 38 1 0 (26 + 1) a = _
          rw [xput_neo (by omega)]; exact (k1 a ha).trans (ho.1 a ha)
        · show xput K 38 1 0 26 1 = _
          rw [xput_neo (by omega)]; exact k2.trans ho.2.1
        · show xput K 38 1 0 26 2 = _
          rw [xput_neo (by omega)]; exact k3.trans ho.2.2.1
        · show xput K 38 1 0 26 3 = _
          rw [xput_neo (by omega)]; exact k4.trans ho.2.2.2
      · intro r hr2
        obtain ⟨r1, s1, t1, t2⟩ := hr2
        rw [r1]
        refine xOk.ck rfl (xOk.pur ?_)
        show xOk (f_M_restore F (Int32.ofNat k) r.2) _
        unfold f_M_restore
        refine xOk.bnde m_in ?_
        rw [hin]
        refine xOk.neg (by decide) (xOk.ck (nk_in hk (by omega)) ?_)
        rw [ek, s1 173 k rfl, m1, hb]
        refine xOk.neg (by decide) ?_
        have sL : Same scL I r.2 := s1.mono (fun _ _ e => scHA_L e)
        refine xloop 33 (fun m (K : XI) i => f_M_restore_22 F m (Int32.ofNat k) (Int32.ofNat i) K) (fun i K => Same scV r.2 K ∧ (∀ j, j < i → K 162 j = I 174 (33 * k + j))) ?_ ?_ F _ 0 (by omega) (by omega) ⟨Same.rfl, fun j hj => absurd hj (by omega)⟩
        · intro m K i hi hP ih
          obtain ⟨a1, a2⟩ := hP
          show xOk (f_M_restore_22 F (m + 1) _ _ _) _
          rw [f_M_restore_22]
          refine xOk.neg (nk_nge hi (by decide)) ?_
          rw [nl33, nk_mul, nk_add]
          refine xOk.ck (nk_in (by omega) (by omega)) (xOk.ck (nk_in hi (by omega)) (xOk.st ?_))
          rw [nk_N (by omega), nk_N (by omega), nk_succ]
          refine ih _ ⟨a1.put' rfl, fun j hj => ?_⟩
          rw [xput_at]
          by_cases e : j = i
          · rw [if_pos e, e, a1 174 _ rfl]; exact s1 174 _ rfl
          · rw [if_neg e]; exact a2 j (by omega)
        · intro m K hP
          obtain ⟨a1, a2⟩ := hP
          show xOk (f_M_restore_22 F (m + 1) _ _ _) _
          rw [f_M_restore_22]
          refine xOk.pos (by decide) (xOk.st (xOk.pur ⟨rfl, ?_⟩))
          have a3 : Same scV r.2 (xput K 131 54 0) := a1.put' rfl
          refine act_done h1 hr (sL.trans a3.VL) p4 ⟨⟨p5, p5'⟩, p6⟩ p7 (uH_same t1 a3 rfl rfl (fun o a b j => ?_)) ⟨(by
            show xput K 131 54 0 131 54 = _
            rw [xput_eq]
            rfl), fun j hj => absurd hj (by omega)⟩ (fun j hj => absurd hj (by omega)) (oH_same t2 a3 (fun _ => rfl) (fun _ => rfl)) (oM_of (m2 hb) (fun i hi => ?_)) (p7 k hk hb)
          · unfold scV
            rw [beqf (show ¬ o = 162 by omega), beqf (show ¬ o = 166 by omega), beqf (show ¬ o = 131 by omega)]
            rfl
          · show xput K 131 54 0 162 (0 + i) = _
            rw [Nat.zero_add, xput_neo (by omega)]
            exact a2 i hi
  · rw [if_neg g2]
    refine xOk.pur ?_
    show xOk (f_M_restore F s I) _
    unfold f_M_restore
    refine xOk.bnde m_in ?_
    rw [show (decide (0 ≤ s) && decide (s ≤ 2)) = rng s 0 2 from rfl, rng_hi (by
      rw [nl3] at g2
      have hx : s = Int32.ofNat (xN s) := (Int32.ofNat_toNatClampNeg s (Int32.not_lt.mp g1)).symm
      have lx : xN s < 2147483648 := Int32.toNatClampNeg_lt s
      rw [hx] at g2 ⊢
      rw [nk_lt lx (by omega)] at g2
      rw [nl2, nk_le lx (by omega)]
      omega)]
    exact xOk.pos rfl (xOk.pur ⟨rfl, hI0⟩)
