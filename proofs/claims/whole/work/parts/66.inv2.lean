/-! all that holds between the calls; lay, take, press, days -/
def sH (fl : Nat) (ss : Nat → X4) (I : XI) : Prop := I 38 4 = Int32.ofNat fl ∧ ∀ s, s < 3 → fl.testBit s = true → oH (121 + 2 * s) (ss s) I
def sM (fl : Nat) (ss : Nat → X4) (I : XI) : Prop := ∀ s, s < 3 → I 173 s = b2 (fl.testBit s) ∧ (fl.testBit s = true → oM 174 (33 * s) (ss s) I)
def stat (F lv : Nat) (V : XV) (T : XT) (I : XI) : Prop := (tOk T ∧ tLd T ∧ tKb T) ∧ (tbC 17 T I ∧ tbM lv T I) ∧ (I 148 lv = I 17 3 ∧ I 149 lv = I 17 4) ∧ lawR F lv V I
def scL (o j : Nat) : Bool := (scX o j || scU o j) || (scV o j || (Nat.beq o 26 || Nat.beq o 27))
def scA (o j : Nat) : Bool := scL o j || ((Nat.beq o 38 && Nat.beq j 4) || ((Nat.ble 121 o && Nat.ble o 126) || (Nat.beq o 173 || Nat.beq o 174)))
theorem scA_L {o j : Nat} (h : scA o j = false) : scL o j = false := (Bool.or_eq_false_iff.mp h).1
theorem scL_X {o j : Nat} (h : scL o j = false) : scX o j = false := (Bool.or_eq_false_iff.mp (Bool.or_eq_false_iff.mp h).1).1
theorem scL_U {o j : Nat} (h : scL o j = false) : scU o j = false := (Bool.or_eq_false_iff.mp (Bool.or_eq_false_iff.mp h).1).2
theorem scL_V {o j : Nat} (h : scL o j = false) : scV o j = false := (Bool.or_eq_false_iff.mp (Bool.or_eq_false_iff.mp h).2).1
theorem scL_now {o j : Nat} (h : scL o j = false) : (Nat.beq o 26 || Nat.beq o 27) = false := (Bool.or_eq_false_iff.mp (Bool.or_eq_false_iff.mp h).2).2
theorem Same.XL {I J : XI} (h : Same scX I J) : Same scL I J := h.mono (fun _ _ e => scL_X e)
theorem Same.UL {I J : XI} (h : Same scU I J) : Same scL I J := h.mono (fun _ _ e => scL_U e)
theorem Same.VL {I J : XI} (h : Same scV I J) : Same scL I J := h.mono (fun _ _ e => scL_V e)
theorem Same.LA {I J : XI} (h : Same scL I J) : Same scA I J := h.mono (fun _ _ e => scA_L e)
theorem stat_A {F lv : Nat} {V : XV} {T : XT} {I J : XI} (h : stat F lv V T I) (hs : Same scA I J) : stat F lv V T J := by
  obtain ⟨h1, ⟨h2, h3⟩, ⟨h4, h5⟩, h6, h7, h8⟩ := h
  refine ⟨h1, ⟨tbC_same h2 hs (fun _ => rfl) (fun _ => rfl) (fun _ => rfl) (fun _ => rfl), ?_⟩, ⟨?_, ?_⟩, h6, ?_, ?_⟩
  · obtain ⟨⟨a1, a2⟩, ⟨b1, b2, b3⟩, c1, c2, c3⟩ := h3
    refine ⟨⟨a1, ?_⟩, ⟨?_, ?_, ?_⟩, ?_, ?_, ?_⟩
    · rw [hs 131 18 rfl]; exact a2
    · rw [hs 140 lv rfl]; exact b1
    · rw [hs 141 lv rfl]; exact b2
    · rw [hs 146 lv rfl]; exact b3
    · intro a ha hi
      rw [hs 142 _ rfl]; exact c1 a ha hi
    · intro a s ha h4
      rw [hs 143 _ rfl]; exact c2 a s ha h4
    · intro e s he h4
      rw [hs 147 _ rfl]; exact c3 e s he h4
  · rw [hs 148 lv rfl, hs 17 3 rfl]; exact h4
  · rw [hs 149 lv rfl, hs 17 4 rfl]; exact h5
  · intro k hk K e1 e2 e3
    exact h7 k hk K (e1.trans (hs 21 1 rfl)) (e2.trans (hs.row 22 (fun _ => rfl))) (e3.trans (hs.row 23 (fun _ => rfl)))
  · intro k hk K e
    refine h8 k hk K (agM_trans ⟨hs 131 18 rfl, fun k _ => ⟨hs 150 _ rfl, hs 151 _ rfl⟩, fun b _ => ⟨hs 152 _ rfl, hs 153 _ rfl, hs 154 _ rfl, hs 155 _ rfl, hs 156 _ rfl⟩, fun c _ => ⟨hs 157 _ rfl, hs 158 _ rfl⟩⟩ e)
def nowR (T : XT) (x : X4) (I : XI) : Prop := oH 26 x I ∧ oM 162 0 x I ∧ wfW T x.1
def pastR (T : XT) (I : XI) : Prop := ∃ n p hs fl ss, (uH n p hs I ∧ uM n hs I ∧ ∀ j, j < n → wfW T (hs j).1) ∧ fl < 8 ∧ (sH fl ss I ∧ sM fl ss I ∧ ∀ s, s < 3 → fl.testBit s = true → wfW T (ss s).1)
def toldR (I : XI) : Prop := ∃ n, n ≤ 20 ∧ (I 127 3 = Int32.ofNat n ∧ I 131 59 = Int32.ofNat n) ∧ ∀ i, i < n → (I 128 i = I 170 i ∧ I 129 i = I 171 i) ∧ ∃ s, s < 4 ∧ I 128 i = Int32.ofNat s
def bOk (v : Int32) : Prop := ∃ b : Int8, v = b.toInt32
def tapeR (I : XI) : Prop := ∃ n, n ≤ 2000 ∧ (I 1 1 = Int32.ofNat n ∧ I 131 2 = Int32.ofNat n) ∧ ∀ i, i < n → I 2 i = I 132 i ∧ bOk (I 2 i)
def keysR (L : XL) : Prop := ∀ j, j < 21 → L 138 j = xKeys.getD j 0
def playR (F : Nat) (I : XI) : Prop := ∃ lv V T x, stat F lv V T I ∧ nowR T x I ∧ pastR T I
def restR (I : XI) : Prop := toldR I ∧ tapeR I ∧ I 6 4 = I 131 17
def Inv (F : Nat) (I : XI) : Prop := playR F I ∧ restR I
theorem restR_A {I J : XI} (h : restR I) (hs : Same scA I J) : restR J := by
  obtain ⟨⟨n, n1, ⟨n2, n3⟩, n4⟩, ⟨m, m1, ⟨m2, m3⟩, m4⟩, h3⟩ := h
  refine ⟨⟨n, n1, ⟨?_, ?_⟩, fun i hi => ?_⟩, ⟨m, m1, ⟨?_, ?_⟩, fun i hi => ?_⟩, ?_⟩
  · rw [hs 127 3 rfl]; exact n2
  · rw [hs 131 59 rfl]; exact n3
  · rw [hs 128 i rfl, hs 129 i rfl, hs 170 i rfl, hs 171 i rfl]; exact n4 i hi
  · rw [hs 1 1 rfl]; exact m2
  · rw [hs 131 2 rfl]; exact m3
  · rw [hs 2 i rfl, hs 132 i rfl]; exact m4 i hi
  · rw [hs 6 4 rfl, hs 131 17 rfl]; exact h3
theorem slot_L {T : XT} {fl : Nat} {ss : Nat → X4} {I J : XI} (h : sH fl ss I ∧ sM fl ss I) (hs : Same scL I J) : sH fl ss J ∧ sM fl ss J := by
  obtain ⟨⟨h1, h2⟩, h3⟩ := h
  have hlo : ∀ o, o < 6 → ∀ j, scL (121 + o) j = false := by
    intro o ho j
    match o, ho with
    | 0, _ => rfl
    | 1, _ => rfl
    | 2, _ => rfl
    | 3, _ => rfl
    | 4, _ => rfl
    | 5, _ => rfl
    | o + 6, h => omega
  refine ⟨⟨?_, ?_⟩, ?_⟩
  · rw [hs 38 4 rfl]; exact h1
  · intro s s1 s2
    refine oH_same (h2 s s1 s2) hs (hlo (2 * s) (by omega)) ?_
    intro j
    rw [Nat.add_assoc]
    exact hlo (2 * s + 1) (by omega) j
  · intro s s1
    obtain ⟨a, b⟩ := h3 s s1
    refine ⟨by rw [hs 173 s rfl]; exact a, fun e => oM_same (b e) hs (fun _ => rfl)⟩
theorem now_full {F lv : Nat} {V : XV} {T : XT} {x : X4} {I : XI} (h1 : stat F lv V T I) (h2 : nowR T x I) : wfull F lv V T (I 27) I ∧ I 26 1 = x.2.1 ∧ I 26 2 = x.2.2.1 ∧ I 26 3 = x.2.2.2 ∧ agW (I 27) x.1 := by
  obtain ⟨a1, a2, a3, a4⟩ := h1
  obtain ⟨⟨b1, b2, b3, b4⟩, ⟨c1, c2, c3, c4⟩, d⟩ := h2
  refine ⟨⟨⟨a1, a2, ⟨rfl, wf_ag b1 d, ?_⟩, ⟨?_, ?_, ?_⟩, a3⟩, a4⟩, b2, b3, b4, b1⟩
  · intro a ha
    rw [show I 162 a = I 162 (0 + a) by rw [Nat.zero_add], c1 a ha, b1 a ha]
  · exact c2.trans b2.symm
  · exact c3.trans b3.symm
  · exact c4.trans b4.symm
/-- the exact state -/
theorem now_exact {F lv : Nat} {V : XV} {T : XT} {x : X4} {I : XI} (h1 : stat F lv V T I) (h2 : nowR T x I) : nowR T (I 27, x.2.1, x.2.2.1, x.2.2.2) I := by
  obtain ⟨⟨b1, b2, b3, b4⟩, ⟨c1, c2, c3, c4⟩, d⟩ := h2
  exact ⟨⟨fun _ _ => rfl, b2, b3, b4⟩, ⟨fun a ha => by
    rw [c1 a ha]
    show enc (x.1 a) = enc (I 27 a)
    rw [show I 27 a = x.1 a from b1 a ha], c2, c3, c4⟩, wf_ag b1 d⟩
theorem Inv_X {F : Nat} {I J : XI} (h : Inv F I) (hs : Same scX I J) : Inv F J := by
  obtain ⟨⟨lv, V, T, x, h1, ⟨h2, h3, h4⟩, ⟨n, p, hst, fl, ss, ⟨p1, p2, p3⟩, p4, p5, p6, p7⟩⟩, hr⟩ := h
  have hL := hs.XL
  have hA := hL.LA
  have hq : ∀ o, 38 ≤ o → o ≤ 126 → ∀ j, scX o j = false := by
    intro o ho1 ho2 j
    have b : ∀ c, c < 38 ∨ 126 < c → Nat.beq o c = false := fun c hc => beqf (by omega)
    unfold scX scH scM
    simp only [b 24 (by omega), b 25 (by omega), b 28 (by omega), b 29 (by omega), b 31 (by omega), b 33 (by omega), b 34 (by omega), b 35 (by omega), b 36 (by omega), b 130 (by omega), b 160 (by omega), b 161 (by omega), b 163 (by omega), b 164 (by omega), b 165 (by omega), b 167 (by omega), b 168 (by omega), b 169 (by omega), b 172 (by omega), b 131 (by omega), Bool.false_and, Bool.or_false]
  refine ⟨⟨lv, V, T, x, stat_A h1 hA, ⟨oH_same h2 hs (fun _ => rfl) (fun _ => rfl), oM_same h3 hs (fun _ => rfl), h4⟩, ⟨n, p, hst, fl, ss, ⟨⟨p1.1, ⟨?_, ?_⟩, ?_⟩, ⟨?_, ?_⟩, p3⟩, p4, (slot_L (T := T) ⟨p5, p6⟩ hL).1, (slot_L (T := T) ⟨p5, p6⟩ hL).2, p7⟩⟩, restR_A hr hA⟩
  · rw [hs 38 1 rfl]; exact p1.2.1.1
  · rw [hs 38 2 rfl]; exact p1.2.1.2
  · intro j hj
    exact oH_same (p1.2.2 j hj) hs (hq _ (by omega) (by omega)) (hq _ (by omega) (by omega))
  · rw [hs 131 54 rfl]; exact p2.1
  · intro j hj
    exact oM_same (p2.2 j hj) hs (fun _ => rfl)
/-- the end of a thing done -/
theorem act_done {F lv n p : Nat} {V : XV} {T : XT} {hs : Nat → X4} {fl : Nat} {ss : Nat → X4} {y : X4} {I K : XI} (h1 : stat F lv V T I) (hr : restR I) (hL : Same scL I K) (hf : fl < 8) (hss : sH fl ss I ∧ sM fl ss I) (hsw : ∀ s, s < 3 → fl.testBit s = true → wfW T (ss s).1)
    (u1 : uH n p hs K) (u2 : uM n hs K) (u3 : ∀ j, j < n → wfW T (hs j).1) (y1 : oH 26 y K) (y2 : oM 162 0 y K) (y3 : wfW T y.1) : Inv F K :=
  ⟨⟨lv, V, T, y, stat_A h1 hL.LA, ⟨y1, y2, y3⟩, ⟨n, p, hs, fl, ss, ⟨u1, u2, u3⟩, hf, (slot_L (T := T) hss hL).1, (slot_L (T := T) hss hL).2, hsw⟩⟩, restR_A hr hL.LA⟩
theorem push_wf {T : XT} {n : Nat} {hs : Nat → X4} {x : X4} (h : ∀ j, j < n → wfW T (hs j).1) (hx : wfW T x.1) (hn : n ≤ 40) : ∀ j, j < pushN n → wfW T (pushS n hs x j).1 := by
  intro j hj
  unfold pushN at hj
  unfold pushS
  by_cases e : n = 40
  · rw [if_pos e] at hj ⊢
    by_cases ej : j = 39
    · show wfW T (if j = 39 then x else hs (j + 1)).1
      rw [if_pos ej]; exact hx
    · show wfW T (if j = 39 then x else hs (j + 1)).1
      rw [if_neg ej]; exact h _ (by omega)
  · rw [if_neg e] at hj ⊢
    by_cases ej : j = n
    · show wfW T (if j = n then x else hs j).1
      rw [if_pos ej]; exact hx
    · show wfW T (if j = n then x else hs j).1
      rw [if_neg ej]; exact h _ (by omega)
theorem rowS_oM {W : Nat → Int32} {d pd tk sd : Int32} {J : XI} (h : rowS W d pd tk sd J) : oM 163 0 (W, d, pd, tk) J := by
  obtain ⟨a, b, c, e, f⟩ := h
  exact ⟨fun k hk => by rw [Nat.zero_add]; exact a k hk, b, c, e⟩
theorem oM_nowM {W : Nat → Int32} {d pd tk : Int32} {J : XI} (h : oM 162 0 (W, d, pd, tk) J) : nowM W d pd tk J := by
  obtain ⟨a, b, c, e⟩ := h
  exact ⟨fun k hk => by have := a k hk; rw [Nat.zero_add] at this; exact this, b, c, e⟩
/-! lay -/
def okL (V : XV) (T : XT) (W : Nat → Int32) (d x y : Int32) : Bool := inC T x y && (frB T W (6 * xN y + xN x) && sWet V d)
theorem upd_wf {T : XT} {W : Nat → Int32} {a : Nat} {v : Int32} (hW : wfW T W) (hv : v = -2 ∨ (inT T a = true ∧ isH T a = false ∧ v = -1) ∨ (inT T a = true ∧ isH T a = true ∧ prs T v)) : wfW T (updW W a v) := by
  intro k hk
  unfold updW
  by_cases e : k = a
  · rw [if_pos e, e]; exact hv
  · rw [if_neg e]; exact hW k hk
theorem oH_put {x : X4} {J : XI} {a : Nat} {v : Int32} (h : oH 26 x J) : oH 26 (updW x.1 a v, x.2.1, x.2.2.1, x.2.2.2) (xput J 27 a v) := by
  obtain ⟨b1, b2, b3, b4⟩ := h
  refine ⟨fun k hk => ?_, ?_, ?_, ?_⟩
  · rw [xput_at]
    show _ = updW x.1 a v k
    unfold updW
    by_cases e : k = a
    · rw [if_pos e, if_pos e]
    · rw [if_neg e, if_neg e]; exact b1 k hk
  · rw [xput_neo (by omega)]; exact b2
  · rw [xput_neo (by omega)]; exact b3
  · rw [xput_neo (by omega)]; exact b4
theorem uH_same {n p : Nat} {hs : Nat → X4} {S : Nat → Nat → Bool} {I J : XI} (h : uH n p hs I) (hS : Same S I J) (h1 : S 38 1 = false) (h2 : S 38 2 = false) (h3 : ∀ o, 41 ≤ o → o ≤ 120 → ∀ j, S o j = false) : uH n p hs J := by
  obtain ⟨a, ⟨b, c⟩, d⟩ := h
  refine ⟨a, ⟨by rw [hS 38 1 h1]; exact b, by rw [hS 38 2 h2]; exact c⟩, fun j hj => oH_same (d j hj) hS (h3 _ (by omega) (by omega)) (h3 _ (by omega) (by omega))⟩
theorem uM_same {n : Nat} {hs : Nat → X4} {S : Nat → Nat → Bool} {I J : XI} (h : uM n hs I) (hS : Same S I J) (h1 : S 131 54 = false) (h2 : ∀ j, S 166 j = false) : uM n hs J := by
  obtain ⟨a, b⟩ := h
  exact ⟨by rw [hS 131 54 h1]; exact a, fun j hj => oM_same (b j hj) hS h2⟩
theorem scR_mid {o : Nat} (h1 : 41 ≤ o) (j : Nat) : scR o j = false := by
  unfold scR
  rw [beqf (show ¬ o = 24 by omega), beqf (show ¬ o = 25 by omega), beqf (show ¬ o = 31 by omega)]
  rfl
theorem uH_put {n p : Nat} {hs : Nat → X4} {J : XI} {a : Nat} {v : Int32} (h : uH n p hs J) : uH n p hs (xput J 27 a v) := by
  refine uH_same h (Same.put (S := fun o _ => Nat.beq o 27) (rfl : Nat.beq 27 27 = true)) rfl rfl (fun o h1 h2 j => beqf (by omega))
theorem h_lay {F : Nat} (hF : 4000000 ≤ F) {lv n p : Nat} {V : XV} {T : XT} {W : Nat → Int32} {hs : Nat → X4} {I : XI} (hX : wfull F lv V T W I) (hu : uH n p hs I) {x y : Int32} :
    xOk (f_H_lay F x y I) (fun r => r.1 = b2 (okL V T W (I 26 1) x y) ∧ Same scL I r.2 ∧ (Same scR I r.2 ∨ (∃ J, Same scR I J ∧ ∃ K, Same scU J K ∧ r.2 = xput K 27 (6 * xN y + xN x) (-1))) ∧
      (okL V T W (I 26 1) x y = false → Same scR I r.2) ∧ (okL V T W (I 26 1) x y = true → uH (pushN n) ((p + 1) % 40) (pushS n hs (W, I 26 1, I 26 2, I 26 3)) r.2 ∧ oH 26 (updW W (6 * xN y + xN x) (-1), I 26 1, I 26 2, I 26 3) r.2)) := by
  obtain ⟨hC, hL⟩ := hX
  obtain ⟨⟨hO, -, -⟩, ⟨hT, hM⟩, ⟨h4, hW, h6⟩, -, -⟩ := hC
  have RL : ∀ {J K : XI}, Same scR J K → Same scL J K := fun h => h.RX.XL
  unfold f_H_lay okL
  rcases cellCases hO x y with hc | ⟨a, ha, hi, hc, rfl, rfl⟩
  · rw [hc, Bool.false_and]
    refine xOk.bnde (c_pieceAt_out hT hO hc) (xOk.pos rfl (xOk.pur ⟨rfl, Same.rfl, Or.inl Same.rfl, fun _ => Same.rfl, fun h => by cases h⟩))
  · rw [hc, cell_N ha, Bool.true_and]
    have hpa := c_pieceAt_in hT hO ha hi
    unfold frB isP
    rw [hi, Bool.true_and]
    cases hh : isH T a with
    | true =>
      rw [hh, iTT] at hpa
      refine xOk.bnde hpa ?_
      refine xOk.pos rfl (xOk.pur ⟨rfl, Same.rfl, Or.inl Same.rfl, fun _ => Same.rfl, fun h => by cases h⟩)
    | false =>
      rw [hh, iFT] at hpa
      refine xOk.bnde hpa ?_
      refine xOk.neg (oi_nm1 ha) ?_
      refine xOk.bnde (c_lies ha) ?_
      rw [show I (26 + 1) = W from h4]
      cases hl : lie W a with
      | true =>
        refine xOk.neg (by decide) (xOk.pur ⟨rfl, Same.rfl, Or.inl Same.rfl, fun _ => Same.rfl, fun h => by cases h⟩)
      | false =>
        refine xOk.pos rfl ?_
        refine (c_isWet hF hL).bnd (fun r hr => ?_)
        rw [hr.1]
        cases hw : sWet V (I 26 1) with
        | false =>
          rw [Bool.and_false]
          exact xOk.pos rfl (xOk.pur ⟨rfl, RL hr.2, Or.inl hr.2, fun _ => hr.2, fun h => by cases h⟩)
        | true =>
          refine xOk.neg (by decide) ?_
          refine xOk.bnde (c_clashes hF (tbC_X hT hr.2.RX) hO hW (by rw [hr.2.row (26 + 1) (fun _ => rfl)]; exact h4) (Or.inl (by decide)) ha) ?_
          by_cases h0 : orF (clp T W (-1) a) 4 = 0
          · rw [decide_eq_true h0]
            refine xOk.pos h0 ?_
            have hx : oH 26 (W, I 26 1, I 26 2, I 26 3) r.2 := ⟨fun k _ => by rw [hr.2.row (26 + 1) (fun _ => rfl), show I (26 + 1) = W from h4], hr.2 26 1 rfl, hr.2 26 2 rfl, hr.2 26 3 rfl⟩
            refine (c_keep (uH_same hu hr.2 rfl rfl (fun o h1 _ => scR_mid h1)) hx).bnd (fun K hK => ?_)
            refine xOk.ck (nk_in ha (by omega)) (xOk.st (xOk.pur ⟨rfl, ?_, Or.inr ⟨r.2, hr.2, K, hK.2, by rw [nk_N (by omega)]⟩, fun h => (by cases h), fun _ => ?_⟩))
            · exact ((RL hr.2).trans hK.2.UL).put' rfl
            · rw [nk_N (by omega)]
              refine ⟨uH_put hK.1, oH_put (x := (W, I 26 1, I 26 2, I 26 3)) (oH_same hx hK.2 (fun _ => rfl) (fun _ => rfl))⟩
          · rw [decide_eq_false h0]
            exact xOk.neg h0 (xOk.pur ⟨rfl, RL hr.2, Or.inl hr.2, fun _ => hr.2, fun h => by cases h⟩)
theorem oM_put {W : Nat → Int32} {d pd tk : Int32} {J : XI} {a : Nat} {v w : Int32} (ha : a < 30) (h : oM 163 0 (W, d, pd, tk) J) (e : v = enc w) : oM 163 0 (updW W a w, d, pd, tk) (xput J 163 a v) := by
  obtain ⟨b1, b2, b3, b4⟩ := h
  refine ⟨fun k hk => ?_, ?_, ?_, ?_⟩
  · rw [xput_at]
    show _ = enc (updW W a w k)
    unfold updW
    by_cases e' : k = a
    · rw [if_pos (by omega), if_pos e', e]
    · rw [if_neg (by omega), if_neg e']; exact b1 k hk
  · rw [xput_ne (by omega)]; exact b2
  · rw [xput_ne (by omega)]; exact b3
  · rw [xput_ne (by omega)]; exact b4
theorem Same.QL {I J : XI} (h : Same scQ I J) : Same scL I J := h.QX.XL
theorem m_lay {F : Nat} (hF : 4000000 ≤ F) {lv n : Nat} {V : XV} {T : XT} {W : Nat → Int32} {d pd tk : Int32} {hs : Nat → X4} {I : XI} (hS : stat F lv V T I) (hW : wfW T W) (hN : oM 162 0 (W, d, pd, tk) I) (hn : n ≤ 40) (hu : uM n hs I) {x y : Int32} :
    xOk (f_M_lay F x y I) (fun q => q.1 = b2 (okL V T W d x y) ∧ (okL V T W d x y = false → Same scM I q.2) ∧ (okL V T W d x y = true → uM (pushN n) (pushS n hs (W, d, pd, tk)) q.2 ∧ oM 162 0 (updW W (6 * xN y + xN x) (-1), d, pd, tk) q.2 ∧ ∃ J, Same scM I J ∧ Same scV J q.2)) := by
  obtain ⟨⟨hO, -, -⟩, ⟨hT, hM⟩, ⟨h10, h11⟩, hL⟩ := hS
  unfold f_M_lay okL
  refine xOk.bnde (m_isCell hM) ?_
  rcases cellCases hO x y with hc | ⟨a, ha, hi, hc, rfl, rfl⟩
  · rw [hc, Bool.false_and]
    exact xOk.pos rfl (xOk.pur ⟨rfl, fun _ => Same.rfl, fun h => by cases h⟩)
  · rw [hc, cell_N ha, cell_ix, Bool.true_and]
    refine xOk.neg (by decide) ?_
    refine (m_copiesN hF hM (oM_nowM hN)).bnd (fun J hJ => ?_)
    obtain ⟨j1, j2⟩ := hJ
    refine (m_isWet hF (lawR_X hL j1.MX)).bnd (fun r hr => ?_)
    rw [hr.1, j2.2.1]
    have r2 := rowS_Q j2 hr.2
    have s2 := j1.trans hr.2.QM
    cases hw : sWet V d with
    | false =>
      rw [Bool.and_false]
      exact xOk.pos rfl (xOk.pur ⟨rfl, fun _ => s2, fun h => by cases h⟩)
    | true =>
      rw [Bool.and_true]
      refine xOk.neg (by decide) ?_
      refine xOk.bnde (m_canLay hF (tbM_X hM s2.MX) hO hW r2.1 ha hi) ?_
      cases hf : frB T W a with
      | false => exact xOk.pos rfl (xOk.pur ⟨rfl, fun _ => s2, fun h => by cases h⟩)
      | true =>
        refine xOk.neg (by decide) (xOk.ck (nk_in (by omega) (by omega)) (xOk.st ?_))
        rw [nk_N (by omega)]
        have s3 : Same scM I (xput r.2 163 a 1) := s2.put' rfl
        refine (m_records hF hn (uM_same hu s3 rfl (fun _ => rfl)) (oM_same hN s3 (fun _ => rfl)) (oM_put (w := -1) ha (rowS_oM r2) rfl)).bnd (fun K hK => ?_)
        exact xOk.pur ⟨rfl, fun h => (by cases h), fun _ => ⟨hK.1, hK.2.1, _, s3, hK.2.2⟩⟩
def both (F : Nat) (I : XI) (h m : XI → Option (Int32 × XI)) : Prop := xOk (h I) (fun r => xOk (m r.2) (fun q => q.1 = r.1 ∧ Inv F q.2))
theorem fr_pc {T : XT} {W : Nat → Int32} {a : Nat} (h : frB T W a = true) : inT T a = true ∧ isH T a = false := by
  unfold frB isP at h
  simp only [Bool.and_eq_true, Bool.not_eq_true'] at h
  exact h.1
theorem both_lay {F : Nat} (hF : 4000000 ≤ F) {I : XI} (hI : Inv F I) {x y : Int32} : both F I (f_H_lay F x y) (f_M_lay F x y) := by
  have hI0 := hI
  obtain ⟨⟨lv, V, T, x0, h1, h2, ⟨n, p, hst, fl, ss, ⟨p1, p2, p3⟩, p4, p5, p6, p7⟩⟩, hr⟩ := hI
  have hf := now_full h1 h2
  have he := now_exact h1 h2
  obtain ⟨hX, e1, e2, e3, e4⟩ := hf
  rw [← e1, ← e2, ← e3] at he
  obtain ⟨y1, y2, y3⟩ := he
  refine (h_lay hF hX p1 (x := x) (y := y)).mono (fun r hr2 => ?_)
  obtain ⟨r1, r2, r3, r4, r5⟩ := hr2
  have n40 := p1.1.1
  have hS' := stat_A h1 r2.LA
  cases hok : okL V T (I 27) (I 26 1) x y with
  | false =>
    have s1 := r4 hok
    refine (m_lay hF hS' y3 (oM_same y2 s1.RX (fun _ => rfl)) n40 (uM_same p2 s1.RX rfl (fun _ => rfl)) (x := x) (y := y)).mono (fun q hq => ?_)
    obtain ⟨q1, q2, q3⟩ := hq
    exact ⟨q1.trans r1.symm, Inv_X hI0 (s1.RX.trans (q2 hok).MX)⟩
  | true =>
    obtain ⟨t1, t2⟩ := r5 hok
    rcases r3 with s1 | ⟨J, s1, K, s2, s3⟩
    · exfalso
      -- the count of things done tells that it was not so
      have : (6 * xN y + xN x) = (6 * xN y + xN x) := rfl
      have a1 := t2.1 (6 * xN y + xN x)
      rw [show r.2 (26 + 1) = I (26 + 1) from s1.row (26 + 1) (fun _ => rfl)] at a1
      unfold okL at hok
      simp only [Bool.and_eq_true] at hok
      have hfr := hok.2.1
      obtain ⟨a, ha, hi, hc, rfl, rfl⟩ := (cellCases h1.1.1 x y).resolve_left (by rw [hok.1]; decide)
      rw [cell_N ha] at a1 hfr
      have := a1 ha
      unfold frB lie at hfr
      simp only [Bool.and_eq_true, Bool.not_eq_true', Bool.not_eq_false', decide_eq_true_eq] at hfr
      rw [show I (26 + 1) a = -2 from hfr.2.1] at this
      have this : (-2 : Int32) = (if a = a then (-1) else I 27 a) := this
      rw [if_pos rfl] at this
      exact absurd this (by decide)
    · have sL : Same scL I r.2 := r2
      have y2' : oM 162 0 (I 27, I 26 1, I 26 2, I 26 3) r.2 := by
        rw [s3]
        refine oM_same (oM_same (oM_same y2 s1.RX (fun _ => rfl)) s2 (fun _ => rfl)) (Same.put (S := fun o _ => Nat.beq o 27) (rfl : Nat.beq 27 27 = true)) (fun _ => rfl)
      have p2' : uM n hst r.2 := by
        rw [s3]
        refine uM_same (uM_same (uM_same p2 s1.RX rfl (fun _ => rfl)) s2 rfl (fun _ => rfl)) (Same.put (S := fun o _ => Nat.beq o 27) (rfl : Nat.beq 27 27 = true)) rfl (fun _ => rfl)
      refine (m_lay hF hS' y3 y2' n40 p2' (x := x) (y := y)).mono (fun q hq => ?_)
      obtain ⟨q1, q2, q3⟩ := hq
      obtain ⟨q4, q5, J', q6, q7⟩ := q3 hok
      have sL2 : Same scL r.2 q.2 := q6.MX.XL.trans q7.VL
      refine ⟨q1.trans r1.symm, act_done h1 hr (sL.trans sL2) p4 ⟨p5, p6⟩ p7 (uH_same (uH_same t1 q6.MX rfl rfl ?_) q7 rfl rfl ?_) q4 (push_wf p3 y3 n40) (oH_same (oH_same t2 q6.MX (fun _ => rfl) (fun _ => rfl)) q7 (fun _ => rfl) (fun _ => rfl)) q5 ?_⟩
      · intro o h1 h2 j
        have b : ∀ c, c < 41 ∨ 120 < c → Nat.beq o c = false := fun c hc => beqf (by omega)
        unfold scX scH scM
        simp only [b 24 (by omega), b 25 (by omega), b 28 (by omega), b 29 (by omega), b 31 (by omega), b 33 (by omega), b 34 (by omega), b 35 (by omega), b 36 (by omega), b 130 (by omega), b 160 (by omega), b 161 (by omega), b 163 (by omega), b 164 (by omega), b 165 (by omega), b 167 (by omega), b 168 (by omega), b 169 (by omega), b 172 (by omega), b 131 (by omega), Bool.false_and, Bool.or_false]
      · intro o h1 h2 j
        have b : ∀ c, c < 41 ∨ 120 < c → Nat.beq o c = false := fun c hc => beqf (by omega)
        unfold scV
        simp only [b 162 (by omega), b 166 (by omega), b 131 (by omega), Bool.false_and, Bool.or_false]
      · unfold okL at hok
        simp only [Bool.and_eq_true] at hok
        have := fr_pc hok.2.1
        exact upd_wf y3 (Or.inr (Or.inl ⟨this.1, this.2, rfl⟩))
