/-! read: what the class takes over, what both do before the text -/
theorem cpy_in {f g : Nat → Int32} {n j : Nat} (h : j < n) : va_cpy f g 0 0 n j = f j := by
  show (if 0 ≤ j ∧ j < 0 + n then f (0 + (j - 0)) else g j) = _
  rw [if_pos ⟨by omega, by omega⟩, Nat.zero_add, Nat.sub_zero]
theorem c_lcopy {I : XI} {sz : Nat} (h : I 11 1 = Int32.ofNat sz) (hs : sz ≤ 420) : xOk (f_Laws_copyFrom 21 11 I) (fun J => J 21 1 = I 11 1 ∧ (∀ j, j < sz → J 22 j = I 12 j) ∧ (∀ k, k < 4 → J 23 k = I 13 k) ∧ ∀ o, ¬ (o = 21 ∨ o = 22 ∨ o = 23) → J o = I o) := by
  unfold f_Laws_copyFrom
  have hN : xN (I 11 1) = sz := by rw [h]; exact nk_N (by omega)
  have hneg : ¬ (I 11 1) < 0 := by rw [h]; exact nk_nlt0 (by omega)
  refine xOk.ck (decide_eq_true ⟨by decide, by decide, hneg, by rw [hN]; show 0 + sz ≤ 420; omega, by rw [hN]; show 0 + sz ≤ 420; omega⟩) (xOk.st (xOk.ck (by decide) (xOk.st (xOk.st (xOk.pur ⟨?_, ?_, ?_, ?_⟩)))))
  · rw [xput_eq, xrow_ne (by omega), xrow_ne (by omega)]
  · intro j hj
    rw [xput_neo (by omega), xrow_ne (by omega), xrow_eq, hN]
    exact cpy_in hj
  · intro k hk
    rw [xput_neo (by omega), xrow_eq]
    show va_cpy (xrow I (21 + 1) _ (11 + 2)) _ 0 0 4 k = I 13 k
    rw [cpy_in hk, xrow_ne (by omega)]
  · intro o ho
    rw [xput_neo (by omega), xrow_ne (by omega), xrow_ne (by omega)]
theorem c_tcopy {I : XI} {sz : Nat} (h : I 11 1 = Int32.ofNat sz) (hs : sz ≤ 420) : xOk (f_Table_copyFrom 17 7 I) (fun J => (∀ j, j < 5 → J 17 j = I 7 j) ∧ ((∀ j, j < 30 → J 18 j = I 8 j) ∧ (∀ j, j < 120 → J 19 j = I 9 j) ∧ ∀ j, j < 20 → J 20 j = I 10 j) ∧ (J 21 1 = I 11 1 ∧ (∀ j, j < sz → J 22 j = I 12 j) ∧ ∀ k, k < 4 → J 23 k = I 13 k) ∧ ∀ o, ¬ (17 ≤ o ∧ o ≤ 23) → J o = I o) := by
  unfold f_Table_copyFrom
  refine xOk.st (xOk.st (xOk.st (xOk.st (xOk.st ?_))))
  have g7 : ∀ (X : XI) (a : Nat) (v : Int32), xput X 17 a v 7 = X 7 := fun X a v => xput_neo (by omega)
  have e17 : ∀ (X : XI) (a j : Nat) (v : Int32), xput X 17 a v 17 j = if j = a then v else X 17 j := fun _ _ _ _ => xput_at
  simp only [g7]
  have five : ∀ j, j < 5 → xput (xput (xput (xput (xput I 17 0 (I 7 0)) 17 1 (I 7 1)) 17 2 (I 7 2)) 17 3 (I 7 3)) 17 4 (I 7 4) 17 j = I 7 j := by
    intro j hj
    rw [e17, e17, e17, e17, e17]
    have : j = 0 ∨ j = 1 ∨ j = 2 ∨ j = 3 ∨ j = 4 := by omega
    rcases this with rfl | rfl | rfl | rfl | rfl <;> rfl
  have oth : ∀ o, ¬ o = 17 → xput (xput (xput (xput (xput I 17 0 (I 7 0)) 17 1 (I 7 1)) 17 2 (I 7 2)) 17 3 (I 7 3)) 17 4 (I 7 4) o = I o := fun o ho => by
    rw [xput_neo ho, xput_neo ho, xput_neo ho, xput_neo ho, xput_neo ho]
  generalize xput (xput (xput (xput (xput I 17 0 (I 7 0)) 17 1 (I 7 1)) 17 2 (I 7 2)) 17 3 (I 7 3)) 17 4 (I 7 4) = X at five oth ⊢
  refine xOk.ck (by decide) (xOk.st (xOk.ck (by decide) (xOk.st (xOk.ck (by decide) (xOk.st ?_)))))
  have hY : ∀ o, ¬ (o = 18 ∨ o = 19 ∨ o = 20) → ∀ f g k, xrow (xrow (xrow X (17 + 1) f) (17 + 2) g) (17 + 3) k o = X o := fun o ho f g k => by
    rw [xrow_ne (by omega), xrow_ne (by omega), xrow_ne (by omega)]
  refine (c_lcopy (sz := sz) (by rw [hY 11 (by omega), oth 11 (by omega)]; exact h) hs).bnd (fun J hJ => xOk.pur ?_)
  obtain ⟨j1, j2, j3, j4⟩ := hJ
  refine ⟨fun j hj => ?_, ⟨fun j hj => ?_, fun j hj => ?_, fun j hj => ?_⟩, ⟨?_, fun j hj => ?_, fun k hk => ?_⟩, fun o ho => ?_⟩
  · rw [j4 17 (by omega), hY 17 (by omega)]; exact five j hj
  · rw [j4 18 (by omega), xrow_ne (by omega), xrow_ne (by omega), xrow_eq]
    show va_cpy (X 8) (X 18) 0 0 30 j = _
    rw [cpy_in hj, oth 8 (by omega)]
  · rw [j4 19 (by omega), xrow_ne (by omega), xrow_eq]
    show va_cpy (xrow X (17 + 1) _ 9) _ 0 0 120 j = _
    rw [cpy_in hj, xrow_ne (by omega), oth 9 (by omega)]
  · rw [j4 20 (by omega), xrow_eq]
    show va_cpy (xrow (xrow X (17 + 1) _) (17 + 2) _ 10) _ 0 0 20 j = _
    rw [cpy_in hj, xrow_ne (by omega), xrow_ne (by omega), oth 10 (by omega)]
  · rw [j1, hY 11 (by omega), oth 11 (by omega)]
  · rw [j2 j hj, hY 12 (by omega), oth 12 (by omega)]
  · rw [j3 k hk, hY 13 (by omega), oth 13 (by omega)]
  · rw [j4 o (by omega), hY o (by omega), oth o (by omega)]
theorem c_sclear {F : Nat} (hF : 4000000 ≤ F) {I : XI} : xOk (f_State_clear F 26 I) (fun J => (∀ j, j < 30 → J 27 j = -2) ∧ (J 26 1 = 0 ∧ J 26 2 = 0 ∧ J 26 3 = 0) ∧ ∀ o, ¬ (o = 26 ∨ o = 27) → J o = I o) := by
  unfold f_State_clear
  refine (c_fill hF (A := 26 + 1) (n := 30) (v := -2) (by omega)).bnd (fun K hK => xOk.st (xOk.st (xOk.st (xOk.pur ⟨fun j hj => ?_, ⟨?_, ?_, ?_⟩, fun o ho => ?_⟩))))
  · rw [xput_neo (by omega), xput_neo (by omega), xput_neo (by omega)]; exact hK.2 j hj
  · rw [xput_ne (by omega), xput_ne (by omega), xput_eq]
  · rw [xput_ne (by omega), xput_eq]
  · rw [xput_eq]
  · rw [xput_neo (by omega), xput_neo (by omega), xput_neo (by omega)]
    exact hK.1.row o (fun _ => beqf (by omega))
/-- the class, up to the first row of the text -/
theorem c_pre {F : Nat} (hF : 4000000 ≤ F) {b : Nat → Int32} {n : Nat} {I : XI} (hT : txC b n I) : ∃ I1, (txC b n I1 ∧ gd b n 0 I1 ∧ (I1 6 5 = 0 ∧ I1 6 6 = -1) ∧ (I1 6 7 = 0 ∧ I1 6 8 = 0) ∧ ((∀ j, j < 5 → I1 7 j = 0) ∧ (∀ j, j < 120 → I1 9 j = 0) ∧ (I1 11 1 = 8 ∧ (∀ j, j < 8 → I1 12 j = lw0 j) ∧ ∀ k, k < 4 → I1 13 k = Int32.ofNat (2 * k))) ∧ ∀ o, ¬ (3 ≤ o ∧ o ≤ 16) → I1 o = I o) ∧ f_H_read F I = (f_Reader_readText_44 F F 0 I1).bind fun q2 => xst (xput q2.2 1 1 0) fun I3 => if q2.1 = 0 then ((f_Table_copyFrom 17 7 I3).bind fun q5 => (f_State_clear F 26 q5).bind fun q6 => (f_Past_clear q6).bind fun q7 => xst (xput q7 127 3 0) fun I8 => some (q2.1, I8)) else (some (q2.1, I3)) := by
  obtain ⟨J, hJ, j1, j2⟩ := c_scan hF hT
  obtain ⟨K, hK, k1, k2, k3, k4⟩ := c_clear hF (I := J)
  have hread : f_H_read F I = (f_Reader_readText F J).bind fun q2 => xst (xput q2.2 1 1 0) fun I3 => if q2.1 = 0 then ((f_Table_copyFrom 17 7 I3).bind fun q5 => (f_State_clear F 26 q5).bind fun q6 => (f_Past_clear q6).bind fun q7 => xst (xput q7 127 3 0) fun I8 => some (q2.1, I8)) else (some (q2.1, I3)) := by
    unfold f_H_read
    rw [hJ]
    rfl
  have htext : f_Reader_readText F J = f_Reader_readText_44 F F 0 (xput (xput (xput (xput (xput (xput (xput K 6 2 0) 6 3 0) 6 4 (-1)) 6 5 0) 6 6 (-1)) 6 7 0) 6 8 0) := by
    unfold f_Reader_readText
    rw [hK]
    rfl
  rw [htext] at hread
  have e6 : ∀ (X : XI) (a j : Nat) (v : Int32), xput X 6 a v 6 j = if j = a then v else X 6 j := fun _ _ _ _ => xput_at
  have six : ∀ j, xput (xput (xput (xput (xput (xput (xput K 6 2 0) 6 3 0) 6 4 (-1)) 6 5 0) 6 6 (-1)) 6 7 0) 6 8 0 6 j = if j = 8 then 0 else if j = 7 then 0 else if j = 6 then -1 else if j = 5 then 0 else if j = 4 then -1 else if j = 3 then 0 else if j = 2 then 0 else K 6 j := fun j => by
    rw [e6, e6, e6, e6, e6, e6, e6]
  have oth : ∀ o, ¬ o = 6 → xput (xput (xput (xput (xput (xput (xput K 6 2 0) 6 3 0) 6 4 (-1)) 6 5 0) 6 6 (-1)) 6 7 0) 6 8 0 o = K o := fun o ho => by
    rw [xput_neo ho, xput_neo ho, xput_neo ho, xput_neo ho, xput_neo ho, xput_neo ho, xput_neo ho]
  have same : ∀ o, ¬ (3 ≤ o ∧ o ≤ 16) → xput (xput (xput (xput (xput (xput (xput K 6 2 0) 6 3 0) 6 4 (-1)) 6 5 0) 6 6 (-1)) 6 7 0) 6 8 0 o = I o := fun o ho => by
    rw [oth o (by omega), k4 o (by omega)]
    exact j2.row o (fun j => by
      unfold sc345
      rw [beqf (show ¬ o = 3 by omega), beqf (show ¬ o = 4 by omega), beqf (show ¬ o = 5 by omega)]
      rfl)
  refine ⟨_, ⟨txC_same hT (by rw [same 1 (by omega)]) (same 2 (by omega)), ⟨reach_zero, ⟨by rw [six]; rfl, by rw [six]; rfl⟩, tkC_same j1 (by rw [oth 3 (by omega), k4 3 (by omega)]) (by rw [oth 4 (by omega), k4 4 (by omega)]) (by rw [oth 5 (by omega), k4 5 (by omega)])⟩, ⟨by rw [six]; rfl, by rw [six]; rfl⟩, ⟨by rw [six]; rfl, by rw [six]; rfl⟩, ⟨fun j hj => by rw [oth 7 (by omega)]; exact k1 j hj, fun j hj => by rw [oth 9 (by omega)]; exact k2 j hj, by rw [oth 11 (by omega)]; exact k3.1, fun j hj => by rw [oth 12 (by omega)]; exact k3.2.1 j hj, fun k hk => by rw [oth 13 (by omega)]; exact k3.2.2 k hk⟩, same⟩, hread⟩
/-- what the reference changes before the text -/
def scPr (o j : Nat) : Bool := (Nat.beq o 131 && (Nat.beq j 2 || (Nat.beq j 4 || (Nat.beq j 10 || (Nat.beq j 11 || (Nat.beq j 12 || (Nat.beq j 13 || (Nat.beq j 15 || (Nat.beq j 19 || (Nat.beq j 20 || (Nat.beq j 34 || Nat.beq j 40))))))))))) || (Nat.beq o 133 || (Nat.beq o 134 || (Nat.beq o 135 || Nat.beq o 136)))
def scPs (sd o j : Nat) : Bool := scPr o j || scRM sd o j
theorem Same.pr1 {sd : Nat} {I J : XI} (h : Same scPr I J) : Same (scPs sd) I J := h.mono (fun o j e => (Bool.or_eq_false_iff.mp e).1)
theorem Same.pr2 {sd : Nat} {I J : XI} (h : Same (scRM sd) I J) : Same (scPs sd) I J := h.mono (fun o j e => (Bool.or_eq_false_iff.mp e).2)
theorem Same.pr3 {I J : XI} (h : Same scCu I J) : Same scPr I J := h.mono (fun o j e => by
  unfold scPr at e
  unfold scCu
  simp only [Bool.or_eq_false_iff] at e ⊢
  refine ⟨⟨⟨e.2.2.1, e.2.2.2.1⟩, e.2.2.2.2⟩, ?_⟩
  cases h1 : Nat.beq o 131 with
  | false => exact Eq.refl _
  | true =>
    rw [h1] at e
    simp only [Bool.or_eq_false_iff, Bool.true_and] at e ⊢
    exact e.1.2.2.1)
theorem by_back {v : Int32} (h : bOk v) : (Int32.toInt8 v).toInt32 = v := by
  obtain ⟨x, rfl⟩ := h
  have : ∀ y : BitVec 8, (Int32.toInt8 (Int8.ofBitVec y).toInt32).toInt32 = (Int8.ofBitVec y).toInt32 := by decide +kernel
  exact this x.toBitVec
theorem m_pre {F : Nat} (hF : 4000000 ≤ F) {b : Nat → Int32} {n lv : Nat} {H : XI} {L : XL} (hn : n ≤ 2000) (hlv : lv < 2) (h2 : H 131 2 = Int32.ofNat n) (h18 : H 131 18 = Int32.ofNat lv) (hb : ∀ j, j < n → H 132 j = b j ∧ bOk (b j)) (hK : keysR L) :
    ∃ M1 L1, ((gm b n L1 0 M1 ∧ M1 131 15 = 0 ∧ M1 131 2 = 0) ∧ (M1 131 19 = Int32.ofNat (1 - lv) ∧ M1 131 20 = 0 ∧ M1 131 34 = Int32.ofNat (130 * (1 - lv)) ∧ M1 131 40 = Int32.ofNat (420 * (1 - lv)) ∧ M1 131 12 = 0) ∧ (∃ M0, emM (1 - lv) M0 M1) ∧ (∀ o, ¬ o = 137 → L1 o = L o) ∧ Same (scPs (1 - lv)) H M1) ∧ f_M_read F H L = f_M_read_112 F F M1 L1 := by
  -- the tape copied
  have hcopy : ∃ K, (Same scPr H K ∧ (K 131 4 = Int32.ofNat n ∧ K 131 18 = Int32.ofNat lv) ∧ ∀ j, j < n → K 133 j = b j) ∧ f_M_read F H L = xst (xput K 131 2 0) fun I3 => (f_M_cut F I3 L).bind fun q4 => xst (xput q4.1 131 11 0) fun I5 => xst (xput I5 131 12 0) fun I6 => xst (xput I6 131 13 0) fun I7 => xst (xput I7 131 15 0) fun I8 => xst (xput I8 131 19 (1 - (I8 131 18))) fun I9 => xst (xput I9 131 20 0) fun I10 => (f_M_plain F (I10 131 19) I10).bind fun q11 => xst (xput q11 131 34 (130 * (q11 131 19))) fun I12 => xst (xput I12 131 40 (420 * (I12 131 19))) fun I13 => f_M_read_112 F F I13 q4.2 := by
    have loop : ∀ d k m K, k + d = n → d < m → Same scPr H K → K 131 4 = Int32.ofNat n → (∀ j, j < k → K 133 j = b j) → ∃ K', (Same scPr H K' ∧ (K' 131 4 = Int32.ofNat n ∧ K' 131 18 = Int32.ofNat lv) ∧ ∀ j, j < n → K' 133 j = b j) ∧ f_M_read_10 F m (Int32.ofNat k) K L = xst (xput K' 131 2 0) fun I3 => (f_M_cut F I3 L).bind fun q4 => xst (xput q4.1 131 11 0) fun I5 => xst (xput I5 131 12 0) fun I6 => xst (xput I6 131 13 0) fun I7 => xst (xput I7 131 15 0) fun I8 => xst (xput I8 131 19 (1 - (I8 131 18))) fun I9 => xst (xput I9 131 20 0) fun I10 => (f_M_plain F (I10 131 19) I10).bind fun q11 => xst (xput q11 131 34 (130 * (q11 131 19))) fun I12 => xst (xput I12 131 40 (420 * (I12 131 19))) fun I13 => f_M_read_112 F F I13 q4.2 := by
      intro d
      induction d with
      | zero =>
        intro k m K hk hm hs h4 hc
        obtain ⟨m, rfl⟩ : ∃ q, m = q + 1 := ⟨m - 1, by omega⟩
        refine ⟨K, ⟨hs, ⟨h4, (hs 131 18 rfl).trans h18⟩, fun j hj => hc j (by omega)⟩, ?_⟩
        rw [f_M_read_10, h4, show k = n by omega, if_pos (Int32.le_refl _)]
      | succ d ih =>
        intro k m K hk hm hs h4 hc
        obtain ⟨m, rfl⟩ : ∃ q, m = q + 1 := ⟨m - 1, by omega⟩
        rw [f_M_read_10, h4, if_neg (nk_nge (by omega) (by omega)), xck_true (nk_in (by omega) (by omega)), xck_true (nk_in (by omega) (by omega)), nk_N (by omega), hs 132 k rfl, (hb k (by omega)).1, by_back (hb k (by omega)).2, nk_succ]
        refine ih (k + 1) m (xput K 133 k (b k)) (by omega) (by omega) (hs.put' rfl) (by rw [xput_neo (by omega)]; exact h4) (fun j hj => ?_)
        rw [xput_at]
        by_cases e : j = k
        · rw [if_pos e, e]
        · rw [if_neg e]; exact hc j (by omega)
    have e0 : f_M_read F H L = f_M_read_10 F F (Int32.ofNat 0) (xput H 131 4 (Int32.ofNat n)) L := by
      unfold f_M_read
      rw [h2]
      rfl
    rw [e0]
    exact loop n 0 F _ (by omega) (by omega) (Same.put rfl) xput_eq (fun j hj => absurd hj (Nat.not_lt_zero j))
  obtain ⟨K, ⟨k1, ⟨k2, k3⟩, k4⟩, keq⟩ := hcopy
  have hsd : 1 - lv < 2 := by omega
  have hX : txM b n (xput K 131 2 0) := ⟨hn, by rw [xput_ne (by omega)]; exact k2, fun j hj => ⟨by rw [xput_neo (by omega)]; exact k4 j hj, (hb j hj).2⟩⟩
  obtain ⟨q, hq, c1, c2, c3⟩ := m_cut hF hX hK
  have q18 : q.1 131 18 = Int32.ofNat lv := by rw [c2 131 18 rfl, xput_ne (by omega)]; exact k3
  -- the fields set
  obtain ⟨P, hP⟩ : ∃ P, P = xput (xput (xput (xput (xput (xput q.1 131 11 0) 131 12 0) 131 13 0) 131 15 0) 131 19 (Int32.ofNat (1 - lv))) 131 20 0 := ⟨_, rfl⟩
  have e131 : ∀ (X : XI) (a j : Nat) (v : Int32), xput X 131 a v 131 j = if j = a then v else X 131 j := fun _ _ _ _ => xput_at
  have P131 : ∀ j, P 131 j = if j = 20 then 0 else if j = 19 then Int32.ofNat (1 - lv) else if j = 15 then 0 else if j = 13 then 0 else if j = 12 then 0 else if j = 11 then 0 else q.1 131 j := fun j => by
    rw [hP, e131, e131, e131, e131, e131, e131]
  have Po : ∀ o, ¬ o = 131 → P o = q.1 o := fun o ho => by
    rw [hP, xput_neo ho, xput_neo ho, xput_neo ho, xput_neo ho, xput_neo ho, xput_neo ho]
  have e18 : ∀ X : XI, X = xput (xput (xput (xput q.1 131 11 0) 131 12 0) 131 13 0) 131 15 0 → 1 - X 131 18 = Int32.ofNat (1 - lv) := fun X hX => by
    rw [hX, e131, e131, e131, e131]
    show 1 - q.1 131 18 = _
    rw [q18]
    have : lv = 0 ∨ lv = 1 := by omega
    rcases this with rfl | rfl <;> decide
  have sP : Same scPr q.1 P := by
    rw [hP]
    exact (((((Same.put rfl).put' rfl).put' rfl).put' rfl).put' rfl).put' rfl
  obtain ⟨N, hN, hem, n131⟩ := m_plain hF hsd (I := P)
  have n4 := hem.2.2.2
  have N19 : N 131 19 = Int32.ofNat (1 - lv) := by rw [n131, P131]; rfl
  have sH : Same (scPs (1 - lv)) H N := ((((k1.trans (Same.put rfl)).trans c2.pr3).trans sP).pr1).trans n4.pr2
  have M131 : ∀ j, xput (xput N 131 34 (Int32.ofNat (130 * (1 - lv)))) 131 40 (Int32.ofNat (420 * (1 - lv))) 131 j = if j = 40 then Int32.ofNat (420 * (1 - lv)) else if j = 34 then Int32.ofNat (130 * (1 - lv)) else N 131 j := fun j => by rw [e131, e131]
  have Mo : ∀ o, ¬ o = 131 → xput (xput N 131 34 (Int32.ofNat (130 * (1 - lv)))) 131 40 (Int32.ofNat (420 * (1 - lv))) o = N o := fun o ho => by rw [xput_neo ho, xput_neo ho]
  have hfin : f_M_read F H L = f_M_read_112 F F (xput (xput N 131 34 (Int32.ofNat (130 * (1 - lv)))) 131 40 (Int32.ofNat (420 * (1 - lv)))) q.2 := by
    rw [keq]
    show (f_M_cut F (xput K 131 2 0) L).bind _ = _
    rw [hq]
    show (f_M_plain F (xput (xput (xput (xput (xput (xput q.1 131 11 0) 131 12 0) 131 13 0) 131 15 0) 131 19 (1 - xput (xput (xput (xput q.1 131 11 0) 131 12 0) 131 13 0) 131 15 0 131 18)) 131 20 0 131 19) (xput (xput (xput (xput (xput (xput q.1 131 11 0) 131 12 0) 131 13 0) 131 15 0) 131 19 (1 - xput (xput (xput (xput q.1 131 11 0) 131 12 0) 131 13 0) 131 15 0 131 18)) 131 20 0)).bind (fun q11 => f_M_read_112 F F (xput (xput q11 131 34 (130 * q11 131 19)) 131 40 (420 * xput q11 131 34 (130 * q11 131 19) 131 19)) q.2) = _
    rw [e18 _ rfl, ← hP, show P 131 19 = Int32.ofNat (1 - lv) by rw [P131]; rfl, hN]
    show f_M_read_112 F F (xput (xput N 131 34 (130 * N 131 19)) 131 40 (420 * xput N 131 34 (130 * N 131 19) 131 19)) q.2 = _
    rw [xput_ne (show ¬ (131 = 131 ∧ 19 = 34) by omega), N19, show (130 : Int32) = Int32.ofNat 130 from rfl, show (420 : Int32) = Int32.ofNat 420 from rfl, nk_mul, nk_mul]
  have hem' : emM (1 - lv) P (xput (xput N 131 34 (Int32.ofNat (130 * (1 - lv)))) 131 40 (Int32.ofNat (420 * (1 - lv)))) := by
    obtain ⟨⟨x1, x2, x3, x4, x5, x6⟩, x7, x8, x9⟩ := hem
    refine ⟨⟨by rw [Mo 140 (by omega)]; exact x1, by rw [Mo 141 (by omega)]; exact x2, by rw [Mo 144 (by omega)]; exact x3, by rw [Mo 146 (by omega)]; exact x4, by rw [Mo 148 (by omega)]; exact x5, by rw [Mo 149 (by omega)]; exact x6⟩, fun j hj => by rw [Mo 143 (by omega)]; exact x7 j hj, fun k hk => by rw [Mo 150 (by omega), Mo 151 (by omega)]; exact x8 k hk, (x9.put' rfl).put' rfl⟩
  have rowsN : ∀ o, o = 134 ∨ o = 135 ∨ o = 136 → xput (xput N 131 34 (Int32.ofNat (130 * (1 - lv)))) 131 40 (Int32.ofNat (420 * (1 - lv))) o = q.1 o := fun o ho => by
    rw [Mo o (by omega), ← Po o (by omega)]
    rcases ho with rfl | rfl | rfl
    · exact n4.row 134 (fun _ => rfl)
    · exact n4.row 135 (fun _ => rfl)
    · exact n4.row 136 (fun _ => rfl)
  refine ⟨_, q.2, ⟨⟨⟨reach_zero, ⟨?_, ?_⟩, tkM_same c1 (rowsN 134 (by omega)) (rowsN 135 (by omega)) (rowsN 136 (by omega))⟩, ?_, ?_⟩, ⟨?_, ?_, ?_, ?_, ?_⟩, ⟨P, hem'⟩, c3, (sH.trans (Same.put rfl)).trans (Same.put rfl)⟩, hfin⟩
  · rw [M131, n131, P131]; rfl
  · rw [M131, n131, P131]; rfl
  · rw [M131, n131, P131]; rfl
  · rw [M131, n131, P131]
    show q.1 131 2 = 0
    rw [c2 131 2 rfl, xput_eq]
  · rw [M131, n131, P131]; rfl
  · rw [M131, n131, P131]; rfl
  · rw [M131]; rfl
  · rw [M131]; rfl
  · rw [M131, n131, P131]; rfl
