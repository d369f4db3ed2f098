/-! questions of the board: knobs, spares, what fits where -/
theorem i4_3 {s : Int32} : (4 ≤ s) ↔ ¬ (s ≤ 3) := by
  rw [Int32.le_iff_toInt_le, Int32.le_iff_toInt_le]
  have h1 : (4 : Int32).toInt = 4 := by decide
  have h2 : (3 : Int32).toInt = 3 := by decide
  omega
theorem i5_4 {s : Int32} : (5 ≤ s) ↔ ¬ (s ≤ 4) := by
  rw [Int32.le_iff_toInt_le, Int32.le_iff_toInt_le]
  have h1 : (4 : Int32).toInt = 4 := by decide
  have h2 : (5 : Int32).toInt = 5 := by decide
  omega
/-- from lo to hi -/
def rng (a lo hi : Int32) : Bool := decide (lo ≤ a) && decide (a ≤ hi)
theorem rng_ex {a : Int32} {n : Nat} (hn : n < 2147483648) (h : rng a 0 (Int32.ofNat n) = true) : ∃ k, k ≤ n ∧ a = Int32.ofNat k := by
  unfold rng at h
  simp only [Bool.and_eq_true, decide_eq_true_eq] at h
  have e : a = Int32.ofNat (xN a) := (Int32.ofNat_toNatClampNeg a h.1).symm
  have l : xN a < 2147483648 := Int32.toNatClampNeg_lt a
  refine ⟨xN a, ?_, e⟩
  have h2 := h.2
  rw [e, nk_le l hn] at h2
  exact h2
theorem h_isSide {s : Int32} : f_H_isSide s = some (b2 (rng s 0 3)) := by
  unfold f_H_isSide rng
  by_cases h : s < 0
  · rw [if_pos h, decide_eq_false (Int32.not_le.mpr h)]
    rfl
  · rw [if_neg h, decide_eq_true (Int32.not_lt.mp h), b2_ifn, b2_nar, xckT]
    by_cases h4 : 4 ≤ s
    · rw [decide_eq_true h4, decide_eq_false (i4_3.mp h4)]
      rfl
    · rw [decide_eq_false h4, decide_eq_true (Classical.not_not.mp (fun h => h4 (i4_3.mpr h)))]
      rfl
theorem h_isTurn {s : Int32} : f_H_isTurn s = some (b2 (rng s 0 3)) := h_isSide
theorem h_isLand {s : Int32} : f_H_isLand s = some (b2 (rng s 0 4)) := by
  unfold f_H_isLand rng
  by_cases h : s < 0
  · rw [if_pos h, decide_eq_false (Int32.not_le.mpr h)]
    rfl
  · rw [if_neg h, decide_eq_true (Int32.not_lt.mp h), b2_ifn, b2_nar, xckT]
    by_cases h4 : 5 ≤ s
    · rw [decide_eq_true h4, decide_eq_false (i5_4.mp h4)]
      rfl
    · rw [decide_eq_false h4, decide_eq_true (Classical.not_not.mp (fun h => h4 (i5_4.mpr h)))]
      rfl
theorem m_isSide {s : Int32} : f_M_isSide s = some (b2 (rng s 0 3)) := by
  unfold f_M_isSide
  rw [m_in]
  simp only [Option.bind_some, b2_nar, xckT]
  rfl
theorem side_ex {s : Int32} (h : rng s 0 3 = true) : ∃ k, k < 4 ∧ s = Int32.ofNat k := by
  obtain ⟨k, h1, h2⟩ := rng_ex (n := 3) (by omega) h
  exact ⟨k, by omega, h2⟩
def spB (T : XT) (e : Int32) : Bool := decide (0 ≤ e) && decide (e ≤ Int32.ofNat (tn T) - 1)
theorem spB_ex {T : XT} (hO : tOk T) {e : Int32} (h : spB T e = true) : ∃ k, k < tn T ∧ e = Int32.ofNat k := by
  unfold spB at h
  simp only [Bool.and_eq_true, decide_eq_true_eq] at h
  have ex : e = Int32.ofNat (xN e) := (Int32.ofNat_toNatClampNeg e h.1).symm
  have l : xN e < 2147483648 := Int32.toNatClampNeg_lt e
  refine ⟨xN e, ?_, ex⟩
  have h2 := decide_eq_true h.2
  have o3 := hO.2.2
  rw [ex, nk_ofle l (by omega)] at h2
  exact of_decide_eq_true h2
theorem spB_nat {T : XT} (hO : tOk T) {k : Nat} (hk : k < 2147483648) : spB T (Int32.ofNat k) = decide (k < tn T) := by
  have o3 := hO.2.2
  unfold spB
  rw [nk_0le hk, nk_ofle hk (by omega)]
  rfl
theorem c_hasSpare {S : Nat} {T : XT} {I : XI} (hT : tbC S T I) (hO : tOk T) {e : Int32} : f_Table_hasSpare S I e = some (b2 (spB T e)) := by
  have o3 := hO.2.2
  unfold f_Table_hasSpare
  by_cases h : e < 0
  · rw [if_pos h]
    unfold spB
    rw [decide_eq_false (Int32.not_le.mpr h)]
    rfl
  · have ex : e = Int32.ofNat (xN e) := (Int32.ofNat_toNatClampNeg e (Int32.not_lt.mp h)).symm
    have l : xN e < 2147483648 := Int32.toNatClampNeg_lt e
    rw [if_neg h, b2_ifn, b2_nar, xckT, hT.2.2.1, ex, spB_nat hO l]
    congr 2
    by_cases hh : tn T ≤ xN e
    · rw [decide_eq_true (nk_le_t hh l), decide_eq_false (by omega)]
      rfl
    · rw [decide_eq_false (nk_nge (by omega) (by omega)), decide_eq_true (by omega)]
      rfl
theorem m_isSpare {lv : Nat} {T : XT} {I : XI} (hM : tbM lv T I) {e : Int32} : f_M_isSpare I e = some (b2 (spB T e)) := by
  obtain ⟨⟨a1, a2⟩, ⟨b1, b2', b3⟩, c1, c2, c3⟩ := hM
  unfold f_M_isSpare
  rw [a2]
  simp (disch := omega) only [nk_N, nk_in, xckT, b3, m_in, Option.bind_some, b2_nar]
  rfl
theorem cellCases {T : XT} (hO : tOk T) (x y : Int32) : inC T x y = false ∨ ∃ a, a < 30 ∧ inT T a = true ∧ inC T x y = true ∧ x = Int32.ofNat (a % 6) ∧ y = Int32.ofNat (a / 6) := by
  cases h : inC T x y with
  | false => exact Or.inl rfl
  | true =>
    obtain ⟨a, h1, h2, h3, h4⟩ := inC_ex hO h
    exact Or.inr ⟨a, h1, h2, rfl, h3, h4⟩
theorem c_pieceAt_out {S : Nat} {T : XT} {I : XI} (hT : tbC S T I) (hO : tOk T) {x y : Int32} (h : inC T x y = false) : f_Table_pieceAt S I x y = some (-1) := by
  unfold f_Table_pieceAt
  rw [c_cellAt_out hT hO h]
  rfl
theorem c_pieceAt_in {S : Nat} {T : XT} {I : XI} (hT : tbC S T I) (hO : tOk T) {a : Nat} (ha : a < 30) (hi : inT T a = true) : f_Table_pieceAt S I (Int32.ofNat (a % 6)) (Int32.ofNat (a / 6)) = some (if isH T a = true then -1 else Int32.ofNat a) := by
  unfold f_Table_pieceAt
  rw [c_cellAt_in hT hO ha hi]
  rw [Option.bind_some, if_neg (oi_nm1 ha)]
  simp (disch := omega) only [nk_N, nk_in, xckT]
  rw [hT.2.2.2.1]
  unfold isH
  by_cases h : tl T a = 9 <;> simp [h]
theorem c_holeAt_out {S : Nat} {T : XT} {I : XI} (hT : tbC S T I) (hO : tOk T) {x y : Int32} (h : inC T x y = false) : f_Table_holeAt S I x y = some (-1) := by
  unfold f_Table_holeAt
  rw [c_cellAt_out hT hO h]
  rfl
theorem c_holeAt_in {S : Nat} {T : XT} {I : XI} (hT : tbC S T I) (hO : tOk T) {a : Nat} (ha : a < 30) (hi : inT T a = true) : f_Table_holeAt S I (Int32.ofNat (a % 6)) (Int32.ofNat (a / 6)) = some (if isH T a = true then Int32.ofNat a else -1) := by
  unfold f_Table_holeAt
  rw [c_cellAt_in hT hO ha hi]
  rw [Option.bind_some, if_neg (oi_nm1 ha)]
  simp (disch := omega) only [nk_N, nk_in, xckT]
  rw [hT.2.2.2.1]
  unfold isH
  by_cases h : tl T a = 9 <;> simp [h]
/-- whether a cell has knobs -/
def hkB (T : XT) (W : Nat → Int32) (a : Nat) : Bool := !isH T a || lie W a
theorem hkB_K {T : XT} {W : Nat → Int32} (hO : tOk T) (hW : wfW T W) {a : Nat} (ha : a < 30) (h : hkB T W a = true) : hasK T W a := by
  unfold hkB at h
  cases hh : isH T a with
  | false => exact hasK_pc hO hW ha hh
  | true =>
    rw [hh] at h
    exact hasK_lie hO hW ha h
theorem c_hasKnobs {S : Nat} {T : XT} {W : Nat → Int32} {I : XI} (hT : tbC 17 T I) (hO : tOk T) (hW : wfW T W) (hI : I (S + 1) = W) {a : Nat} (ha : a < 30) (hi : inT T a = true) : f_Board_hasKnobs S I (Int32.ofNat a) = some (b2 (hkB T W a)) := by
  unfold f_Board_hasKnobs
  rw [nk_in ha (by omega), nk_N (by omega), xckT, hI]
  rw [c_isPiece hT hO ha]
  simp only [Option.bind_some, b2_z, b2_ifn, b2_nar, xckT]
  unfold hkB isP lie
  rw [hi]
  rcases hW a ha with e | e | e
  · rw [e, if_neg (by decide)]
    cases isH T a <;> rfl
  · rw [e.2.2, e.2.1]
    rfl
  · rw [if_pos (Int32.not_lt.mp (prs_nn hO e.2.2)), e.2.1, decide_eq_false (prs_m2 hO e.2.2)]
    rfl
theorem m_hasKnobs {lv : Nat} {T : XT} {W : Nat → Int32} {I : XI} (hM : tbM lv T I) (hO : tOk T) (hW : wfW T W) (hR : rowR W I) {a : Nat} (ha : a < 30) (hi : inT T a = true) : f_M_hasKnobs I (Int32.ofNat a) = some (b2 (hkB T W a)) := by
  unfold f_M_hasKnobs
  rw [m_isHole hM ha hi]
  simp (disch := omega) only [Option.bind_some, nk_N, nk_in, xckT, b2_ifn, b2_nar, b2_z]
  rw [hR a ha]
  unfold hkB
  have h := enc_pos hO hW ha
  cases hl : lie W a with
  | false =>
    rw [decide_eq_true (by rw [h, hl])]
    cases isH T a <;> rfl
  | true =>
    rw [decide_eq_false (by rw [h, hl]; decide)]
    cases isH T a <;> rfl
/-! knob -/
def qKnob (T : XT) (W : Nat → Int32) (x y s : Int32) : Int32 := if inC T x y = true ∧ rng s 0 3 = true then (if hkB T W (6 * xN y + xN x) = true then knw T (W (6 * xN y + xN x)) (6 * xN y + xN x) (xN s) else -100) else -100
theorem cell_N {a : Nat} (ha : a < 30) : 6 * xN (Int32.ofNat (a / 6)) + xN (Int32.ofNat (a % 6)) = a := by
  rw [nk_N (by omega), nk_N (by omega)]
  omega
theorem h_knob {lv : Nat} {T : XT} {W : Nat → Int32} {I : XI} (hC : core lv T W I) {x y s : Int32} : f_H_knob I x y s = some (qKnob T W x y s) := by
  obtain ⟨⟨hO, -, -⟩, ⟨hT, hM⟩, ⟨h4, hW, h6⟩, -, -⟩ := hC
  unfold f_H_knob
  rcases cellCases hO x y with hc | ⟨a, ha, hi, hc, rfl, rfl⟩
  · rw [c_cellAt_out hT hO hc]
    unfold qKnob
    rw [hc, if_neg (by intro h; cases h.1)]
    rfl
  · rw [c_cellAt_in hT hO ha hi, h_isSide]
    unfold qKnob
    simp only [Option.bind_some, b2_z]
    rw [if_neg (oi_nm1 ha), hc, cell_N ha]
    cases hs : rng s 0 3 with
    | false =>
      rw [if_pos (by decide), if_neg (by intro h; cases h.2)]
    | true =>
      obtain ⟨k, hk, rfl⟩ := side_ex hs
      rw [if_neg (by decide), if_pos (by decide), c_hasKnobs hT hO hW h4 ha hi, nk_N (by omega), nk_N (by omega)]
      simp only [Option.bind_some, b2_z]
      cases hh : hkB T W a with
      | false => rfl
      | true =>
        rw [if_neg (by decide), if_pos (by decide), nk_in ha (by omega), xckT]
        rw [show I 27 = W from h4, c_knobOf hT hO (wf_kn hW ha) ha hk]
        rfl
theorem m_knob {F : Nat} (hF : 4000000 ≤ F) {lv : Nat} {T : XT} {W : Nat → Int32} {I : XI} (hC : core lv T W I) {x y s : Int32} : xOk (f_M_knob F x y s I) (fun q => q.1 = qKnob T W x y s ∧ Same scM I q.2) := by
  have hC0 := hC
  obtain ⟨⟨hO, -, -⟩, ⟨hT, hM⟩, ⟨h4, hW, h6⟩, -, -⟩ := hC
  unfold f_M_knob
  refine xOk.bnde (m_isCell hM) ?_
  unfold qKnob
  rcases cellCases hO x y with hc | ⟨a, ha, hi, hc, rfl, rfl⟩
  · rw [hc]
    exact xOk.pos rfl (xOk.pur ⟨by rw [if_neg (by intro h; cases h.1)], Same.rfl⟩)
  · rw [hc, cell_N ha]
    refine xOk.neg (by decide) ?_
    refine xOk.bnde m_isSide ?_
    cases hs : rng s 0 3 with
    | false => exact xOk.pos rfl (xOk.pur ⟨by rw [if_neg (by intro h; cases h.2)], Same.rfl⟩)
    | true =>
      obtain ⟨k, hk, rfl⟩ := side_ex hs
      refine xOk.neg (by decide) ?_
      refine (m_copies hF hC0).bnd (fun J hJ => ?_)
      obtain ⟨hJ1, hJ2⟩ := hJ
      have hM' := tbM_X hM hJ1.MX
      rw [cell_ix]
      refine xOk.bnde (m_hasKnobs hM' hO hW hJ2.1 ha hi) ?_
      rw [if_pos (show true = true ∧ true = true from ⟨rfl, rfl⟩), nk_N (by omega)]
      cases hh : hkB T W a with
      | false => exact xOk.pos rfl (xOk.pur ⟨rfl, hJ1⟩)
      | true =>
        refine xOk.neg (by decide) ?_
        refine xOk.bnde (m_knobOf hM' hO hJ2.1 ha hi (hkB_K hO hW ha hh) hk) ?_
        exact xOk.pur ⟨rfl, hJ1⟩
/-! spare -/
def qSpare (T : XT) (e t s : Int32) : Int32 := if spB T e = true ∧ rng t 0 3 = true ∧ rng s 0 3 = true then spk T (xN e) (xN t) (xN s) else -100
theorem h_spare {lv : Nat} {T : XT} {W : Nat → Int32} {I : XI} (hC : core lv T W I) {e t s : Int32} : f_H_spare I e t s = some (qSpare T e t s) := by
  obtain ⟨⟨hO, -, -⟩, ⟨hT, hM⟩, ⟨h4, hW, h6⟩, -, -⟩ := hC
  unfold f_H_spare qSpare
  rw [c_hasSpare hT hO, h_isTurn, h_isSide]
  simp only [Option.bind_some, b2_z]
  cases h1 : spB T e with
  | false => rw [if_pos (by decide), if_neg (by intro h; cases h.1)]
  | true =>
    rw [if_neg (by decide)]
    cases h2 : rng t 0 3 with
    | false => rw [if_pos (by decide), if_neg (by intro h; cases h.2.1)]
    | true =>
      rw [if_neg (by decide)]
      cases h3 : rng s 0 3 with
      | false => rw [if_pos (by decide), if_neg (by intro h; cases h.2.2)]
      | true =>
        obtain ⟨ke, hke, rfl⟩ := spB_ex hO h1
        obtain ⟨kt, hkt, rfl⟩ := side_ex h2
        obtain ⟨ks, hks, rfl⟩ := side_ex h3
        have o3 := hO.2.2
        rw [if_neg (by decide), if_pos (by decide), c_spareKnob hT hO hke hkt hks, nk_N (by omega), nk_N (by omega), nk_N (by omega)]
        rfl
theorem m_spare {lv : Nat} {T : XT} {W : Nat → Int32} {I : XI} (hC : core lv T W I) {e t s : Int32} : f_M_spare I e t s = some (qSpare T e t s) := by
  obtain ⟨⟨hO, -, -⟩, ⟨hT, hM⟩, ⟨h4, hW, h6⟩, -, -⟩ := hC
  unfold f_M_spare qSpare
  rw [m_isSpare hM, m_isSide, m_isSide]
  simp only [Option.bind_some, b2_z]
  cases h1 : spB T e with
  | false => rw [if_pos (by decide), if_neg (by intro h; cases h.1)]
  | true =>
    rw [if_neg (by decide)]
    cases h2 : rng t 0 3 with
    | false => rw [if_pos (by decide), if_neg (by intro h; cases h.2.1)]
    | true =>
      rw [if_neg (by decide)]
      cases h3 : rng s 0 3 with
      | false => rw [if_pos (by decide), if_neg (by intro h; cases h.2.2)]
      | true =>
        obtain ⟨ke, hke, rfl⟩ := spB_ex hO h1
        obtain ⟨kt, hkt, rfl⟩ := side_ex h2
        obtain ⟨ks, hks, rfl⟩ := side_ex h3
        have o3 := hO.2.2
        rw [if_neg (by decide), if_pos (by decide), m_turned hM hO hke hkt hks, nk_N (by omega), nk_N (by omega), nk_N (by omega)]
        rfl
