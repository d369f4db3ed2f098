/-! the methods as functions, and that a run answers so (by gen6.py) -/
noncomputable def f_Laws_copyFrom (S0 : Nat) (S1 : Nat) (I : XI) : Option (XI) :=
  xck (decide (¬ (0 : Int32) < 0 ∧ ¬ (0 : Int32) < 0 ∧ ¬ ((I S1 1) : Int32) < 0 ∧ xN 0 + xN (I S1 1) ≤ 420 ∧ xN 0 + xN (I S1 1) ≤ 420)) (xst (xrow I (S0 + 1) (va_cpy (I (S1 + 1)) (I (S0 + 1)) (xN 0) (xN 0) (xN (I S1 1)))) fun I2 => xck (decide (¬ (0 : Int32) < 0 ∧ ¬ (0 : Int32) < 0 ∧ ¬ (4 : Int32) < 0 ∧ xN 0 + xN 4 ≤ 4 ∧ xN 0 + xN 4 ≤ 4)) (xst (xrow I2 (S0 + 2) (va_cpy (I2 (S1 + 2)) (I2 (S0 + 2)) (xN 0) (xN 0) (xN 4))) fun I4 => xst (xput I4 S0 1 (I4 S1 1)) fun I5 => some I5))
theorem g_Laws_copyFrom {X : XX} {d : Nat} {L : XL} {S0 : Nat} {S1 : Nat} {I : XI} (hS0 : xisLw S0) (hS1 : xisLw S1) (r : XI) (h : f_Laws_copyFrom S0 S1 I = some r) : xEv X (d + 0) 73 0 [.ref S0, .ref S1] [] I L none r L := by
  rw [f_Laws_copyFrom] at h
  refine xeb 1 (pc' := 1) (ls' := [.ref S0, .ref S1]) (st' := [.ref S1]) rfl ?_
  refine xegf2 rfl hS1.1 (by decide) rfl ?_
  refine xeb 2 (pc' := 6) (ls' := [.ref S0, .ref S1]) (st' := [.ref S0, .int 0, .ref (S1 + 1)]) rfl ?_
  refine xegf2 rfl hS0.1 (by decide) rfl ?_
  refine xeb 2 (pc' := 11) (ls' := [.ref S0, .ref S1]) (st' := [.ref S1, .int 0, .ref (S0 + 1), .int 0, .ref (S1 + 1)]) rfl ?_
  refine xegf0 rfl hS1.1 (by decide) ?_
  obtain ⟨b1, h⟩ := xck_some h
  refine xecpy rfl hS1.2.1 hS0.2.1 (of_decide_eq_true b1) (Nat.le_of_ble_eq_true rfl) ?_
  obtain ⟨I2, hI2, h⟩ := xst_some h
  rw [← hI2]
  refine xeb 1 (pc' := 18) (ls' := [.ref S0, .ref S1]) (st' := [.ref S1]) rfl ?_
  refine xegf2 rfl hS1.1 (by decide) rfl ?_
  refine xeb 2 (pc' := 23) (ls' := [.ref S0, .ref S1]) (st' := [.ref S0, .int 0, .ref (S1 + 2)]) rfl ?_
  refine xegf2 rfl hS0.1 (by decide) rfl ?_
  refine xeb 2 (pc' := 28) (ls' := [.ref S0, .ref S1]) (st' := [.int 4, .int 0, .ref (S0 + 2), .int 0, .ref (S1 + 2)]) rfl ?_
  obtain ⟨b3, h⟩ := xck_some h
  refine xecpy rfl hS1.2.2.1 hS0.2.2.1 (of_decide_eq_true b3) (Nat.le_of_ble_eq_true rfl) ?_
  obtain ⟨I4, hI4, h⟩ := xst_some h
  rw [← hI4]
  refine xeb 2 (pc' := 33) (ls' := [.ref S0, .ref S1]) (st' := [.ref S1, .ref S0]) rfl ?_
  refine xegf0 rfl hS1.1 (by decide) ?_
  refine xepf0 rfl hS0.1 (by decide) ?_
  obtain ⟨I5, hI5, h⟩ := xst_some h
  rw [← hI5]
  obtain rfl := Option.some.inj h
  exact xevret rfl
noncomputable def f_Table_copyFrom (S0 : Nat) (S1 : Nat) (I : XI) : Option (XI) :=
  xst (xput I S0 0 (I S1 0)) fun I1 => xst (xput I1 S0 1 (I1 S1 1)) fun I2 => xst (xput I2 S0 2 (I2 S1 2)) fun I3 => xst (xput I3 S0 3 (I3 S1 3)) fun I4 => xst (xput I4 S0 4 (I4 S1 4)) fun I5 => xck (decide (¬ (0 : Int32) < 0 ∧ ¬ (0 : Int32) < 0 ∧ ¬ ((Int32.ofNat 30) : Int32) < 0 ∧ xN 0 + xN (Int32.ofNat 30) ≤ 30 ∧ xN 0 + xN (Int32.ofNat 30) ≤ 30)) (xst (xrow I5 (S0 + 1) (va_cpy (I5 (S1 + 1)) (I5 (S0 + 1)) (xN 0) (xN 0) (xN (Int32.ofNat 30)))) fun I7 => xck (decide (¬ (0 : Int32) < 0 ∧ ¬ (0 : Int32) < 0 ∧ ¬ ((Int32.ofNat 120) : Int32) < 0 ∧ xN 0 + xN (Int32.ofNat 120) ≤ 120 ∧ xN 0 + xN (Int32.ofNat 120) ≤ 120)) (xst (xrow I7 (S0 + 2) (va_cpy (I7 (S1 + 2)) (I7 (S0 + 2)) (xN 0) (xN 0) (xN (Int32.ofNat 120)))) fun I9 => xck (decide (¬ (0 : Int32) < 0 ∧ ¬ (0 : Int32) < 0 ∧ ¬ ((Int32.ofNat 20) : Int32) < 0 ∧ xN 0 + xN (Int32.ofNat 20) ≤ 20 ∧ xN 0 + xN (Int32.ofNat 20) ≤ 20)) (xst (xrow I9 (S0 + 3) (va_cpy (I9 (S1 + 3)) (I9 (S0 + 3)) (xN 0) (xN 0) (xN (Int32.ofNat 20)))) fun I11 => (f_Laws_copyFrom (S0 + 4) (S1 + 4) I11).bind fun q12 => some q12)))
theorem g_Table_copyFrom {X : XX} {d : Nat} {L : XL} {S0 : Nat} {S1 : Nat} {I : XI} (hS0 : xisTb S0) (hS1 : xisTb S1) (r : XI) (h : f_Table_copyFrom S0 S1 I = some r) : xEv X (d + 1) 74 0 [.ref S0, .ref S1] [] I L none r L := by
  rw [f_Table_copyFrom] at h
  refine xeb 2 (pc' := 2) (ls' := [.ref S0, .ref S1]) (st' := [.ref S1, .ref S0]) rfl ?_
  refine xegf0 rfl hS1.1 (by decide) ?_
  refine xepf0 rfl hS0.1 (by decide) ?_
  obtain ⟨I1, hI1, h⟩ := xst_some h
  rw [← hI1]
  refine xeb 2 (pc' := 10) (ls' := [.ref S0, .ref S1]) (st' := [.ref S1, .ref S0]) rfl ?_
  refine xegf0 rfl hS1.1 (by decide) ?_
  refine xepf0 rfl hS0.1 (by decide) ?_
  obtain ⟨I2, hI2, h⟩ := xst_some h
  rw [← hI2]
  refine xeb 2 (pc' := 18) (ls' := [.ref S0, .ref S1]) (st' := [.ref S1, .ref S0]) rfl ?_
  refine xegf0 rfl hS1.1 (by decide) ?_
  refine xepf0 rfl hS0.1 (by decide) ?_
  obtain ⟨I3, hI3, h⟩ := xst_some h
  rw [← hI3]
  refine xeb 2 (pc' := 26) (ls' := [.ref S0, .ref S1]) (st' := [.ref S1, .ref S0]) rfl ?_
  refine xegf0 rfl hS1.1 (by decide) ?_
  refine xepf0 rfl hS0.1 (by decide) ?_
  obtain ⟨I4, hI4, h⟩ := xst_some h
  rw [← hI4]
  refine xeb 2 (pc' := 34) (ls' := [.ref S0, .ref S1]) (st' := [.ref S1, .ref S0]) rfl ?_
  refine xegf0 rfl hS1.1 (by decide) ?_
  refine xepf0 rfl hS0.1 (by decide) ?_
  obtain ⟨I5, hI5, h⟩ := xst_some h
  rw [← hI5]
  refine xeb 1 (pc' := 41) (ls' := [.ref S0, .ref S1]) (st' := [.ref S1]) rfl ?_
  refine xegf2 rfl hS1.1 (by decide) rfl ?_
  refine xeb 2 (pc' := 46) (ls' := [.ref S0, .ref S1]) (st' := [.ref S0, .int 0, .ref (S1 + 1)]) rfl ?_
  refine xegf2 rfl hS0.1 (by decide) rfl ?_
  refine xeb 2 (pc' := 51) (ls' := [.ref S0, .ref S1]) (st' := [.ref S0, .int 0, .ref (S0 + 1), .int 0, .ref (S1 + 1)]) rfl ?_
  refine xegf2 rfl hS0.1 (by decide) rfl ?_
  refine xelen rfl hS0.2.1 (by decide) ?_
  obtain ⟨b6, h⟩ := xck_some h
  refine xecpy rfl hS1.2.1 hS0.2.1 (of_decide_eq_true b6) (Nat.le_of_ble_eq_true rfl) ?_
  obtain ⟨I7, hI7, h⟩ := xst_some h
  rw [← hI7]
  refine xeb 1 (pc' := 59) (ls' := [.ref S0, .ref S1]) (st' := [.ref S1]) rfl ?_
  refine xegf2 rfl hS1.1 (by decide) rfl ?_
  refine xeb 2 (pc' := 64) (ls' := [.ref S0, .ref S1]) (st' := [.ref S0, .int 0, .ref (S1 + 2)]) rfl ?_
  refine xegf2 rfl hS0.1 (by decide) rfl ?_
  refine xeb 2 (pc' := 69) (ls' := [.ref S0, .ref S1]) (st' := [.ref S0, .int 0, .ref (S0 + 2), .int 0, .ref (S1 + 2)]) rfl ?_
  refine xegf2 rfl hS0.1 (by decide) rfl ?_
  refine xelen rfl hS0.2.2.1 (by decide) ?_
  obtain ⟨b8, h⟩ := xck_some h
  refine xecpy rfl hS1.2.2.1 hS0.2.2.1 (of_decide_eq_true b8) (Nat.le_of_ble_eq_true rfl) ?_
  obtain ⟨I9, hI9, h⟩ := xst_some h
  rw [← hI9]
  refine xeb 1 (pc' := 77) (ls' := [.ref S0, .ref S1]) (st' := [.ref S1]) rfl ?_
  refine xegf2 rfl hS1.1 (by decide) rfl ?_
  refine xeb 2 (pc' := 82) (ls' := [.ref S0, .ref S1]) (st' := [.ref S0, .int 0, .ref (S1 + 3)]) rfl ?_
  refine xegf2 rfl hS0.1 (by decide) rfl ?_
  refine xeb 2 (pc' := 87) (ls' := [.ref S0, .ref S1]) (st' := [.ref S0, .int 0, .ref (S0 + 3), .int 0, .ref (S1 + 3)]) rfl ?_
  refine xegf2 rfl hS0.1 (by decide) rfl ?_
  refine xelen rfl hS0.2.2.2.1 (by decide) ?_
  obtain ⟨b10, h⟩ := xck_some h
  refine xecpy rfl hS1.2.2.2.1 hS0.2.2.2.1 (of_decide_eq_true b10) (Nat.le_of_ble_eq_true rfl) ?_
  obtain ⟨I11, hI11, h⟩ := xst_some h
  rw [← hI11]
  refine xeb 1 (pc' := 95) (ls' := [.ref S0, .ref S1]) (st' := [.ref S0]) rfl ?_
  refine xegf2 rfl hS0.1 (by decide) rfl ?_
  refine xeb 1 (pc' := 99) (ls' := [.ref S0, .ref S1]) (st' := [.ref S1, .ref (S0 + 4)]) rfl ?_
  refine xegf2 rfl hS1.1 (by decide) rfl ?_
  obtain ⟨q12, eq12, h⟩ := xbind_some h
  refine xcallV rfl hS0.2.2.2.2.1 rfl rfl rfl (Nat.le_of_ble_eq_true rfl) (Nat.le_of_ble_eq_true rfl) (Nat.le_of_ble_eq_true rfl) rfl (g_Laws_copyFrom (d := d + 0) hS0.2.2.2.2 hS1.2.2.2.2 _ eq12) ?_
  obtain rfl := Option.some.inj h
  exact xevret rfl
noncomputable def f_Past_clear (I : XI) : Option (XI) :=
  xst (xput I 38 1 0) fun I1 => xst (xput I1 38 4 0) fun I2 => some I2
theorem g_Past_clear {X : XX} {d : Nat} {L : XL} {I : XI}  (r : XI) (h : f_Past_clear I = some r) : xEv X (d + 0) 75 0 [.ref 38] [] I L none r L := by
  rw [f_Past_clear] at h
  refine xeb 2 (pc' := 2) (ls' := [.ref 38]) (st' := [.int 0, .ref 38]) rfl ?_
  refine xepf0 rfl xsh38 (by decide) ?_
  obtain ⟨I1, hI1, h⟩ := xst_some h
  rw [← hI1]
  refine xeb 2 (pc' := 7) (ls' := [.ref 38]) (st' := [.int 0, .ref 38]) rfl ?_
  refine xepf0 rfl xsh38 (by decide) ?_
  obtain ⟨I2, hI2, h⟩ := xst_some h
  rw [← hI2]
  obtain rfl := Option.some.inj h
  exact xevret rfl
noncomputable def f_M_byteAt (I : XI) (a1 : Int32) : Option (Int32) :=
  if (I 131 4) ≤ a1 then (some 0) else (xck (xin a1 2000) (some ((I 133 (xN a1)) &&& 255)))
theorem g_M_byteAt {X : XX} {d : Nat} {L : XL} {I : XI} {a1 : Int32}  (r : Int32) (h : f_M_byteAt I a1 = some r) : xEv X (d + 0) 77 0 [.ref 131, .int a1] [] I L (some (.int r)) I L := by
  rw [f_M_byteAt] at h
  refine xeb 2 (pc' := 2) (ls' := [.ref 131, .int a1]) (st' := [.ref 131, .int a1]) rfl ?_
  refine xegf0 rfl xsh131 (by decide) ?_
  by_cases c1 : (I 131 4) ≤ a1
  · rw [if_pos c1] at h
    refine xei_ge_t rfl c1 ?_
    refine xeb 1 (pc' := 22) (ls' := [.ref 131, .int a1]) (st' := [.int 0]) rfl ?_
    obtain rfl := Option.some.inj h
    exact xeiret rfl rfl
  · rw [if_neg c1] at h
    refine xei_ge_f rfl c1 ?_
    refine xeb 1 (pc' := 9) (ls' := [.ref 131, .int a1]) (st' := [.ref 131]) rfl ?_
    refine xegf2 rfl xsh131 (by decide) rfl ?_
    refine xeb 1 (pc' := 13) (ls' := [.ref 131, .int a1]) (st' := [.int a1, .ref 133]) rfl ?_
    obtain ⟨b2, h⟩ := xck_some h
    refine xeba rfl xsh133 b2 ?_
    refine xeb 3 (pc' := 22) (ls' := [.ref 131, .int a1]) (st' := [.int ((I 133 (xN a1)) &&& 255)]) rfl ?_
    obtain rfl := Option.some.inj h
    exact xeiret rfl rfl
noncomputable def f_M_token (a1 : Int32) (a2 : Int32) (a3 : Int32) (a4 : Int64) (I : XI) (L : XL) : Option (XI × XL) :=
  xck (xin (I 131 10) 403) (xst (xput I 134 (xN (I 131 10)) a1) fun I2 => xck (xin (I2 131 10) 403) (xst (xput I2 135 (xN (I2 131 10)) a2) fun I4 => xck (xin (I4 131 10) 403) (xst (xput I4 136 (xN (I4 131 10)) a3) fun I6 => xck (xin (I6 131 10) 403) (xst (xputL L 137 (xN (I6 131 10)) a4) fun L8 => xst (xput I6 131 10 ((I6 131 10) + 1)) fun I9 => some (I9, L8)))))
theorem g_M_token {X : XX} {d : Nat} {a1 : Int32} {a2 : Int32} {a3 : Int32} {a4 : Int64} {I : XI} {L : XL}  (r : XI × XL) (h : f_M_token a1 a2 a3 a4 I L = some r) : xEv X (d + 0) 78 0 [.ref 131, .int a1, .int a2, .int a3, .long a4, .null] [] I L none r.1 r.2 := by
  rw [f_M_token] at h
  refine xeb 1 (pc' := 1) (ls' := [.ref 131, .int a1, .int a2, .int a3, .long a4, .null]) (st' := [.ref 131]) rfl ?_
  refine xegf2 rfl xsh131 (by decide) rfl ?_
  refine xeb 1 (pc' := 5) (ls' := [.ref 131, .int a1, .int a2, .int a3, .long a4, .null]) (st' := [.ref 131, .ref 134]) rfl ?_
  refine xegf0 rfl xsh131 (by decide) ?_
  refine xeb 1 (pc' := 9) (ls' := [.ref 131, .int a1, .int a2, .int a3, .long a4, .null]) (st' := [.int a1, .int (I 131 10), .ref 134]) rfl ?_
  obtain ⟨b1, h⟩ := xck_some h
  refine xeis rfl xsh134 b1 ?_
  obtain ⟨I2, hI2, h⟩ := xst_some h
  rw [← hI2]
  refine xeb 1 (pc' := 11) (ls' := [.ref 131, .int a1, .int a2, .int a3, .long a4, .null]) (st' := [.ref 131]) rfl ?_
  refine xegf2 rfl xsh131 (by decide) rfl ?_
  refine xeb 1 (pc' := 15) (ls' := [.ref 131, .int a1, .int a2, .int a3, .long a4, .null]) (st' := [.ref 131, .ref 135]) rfl ?_
  refine xegf0 rfl xsh131 (by decide) ?_
  refine xeb 1 (pc' := 19) (ls' := [.ref 131, .int a1, .int a2, .int a3, .long a4, .null]) (st' := [.int a2, .int (I2 131 10), .ref 135]) rfl ?_
  obtain ⟨b3, h⟩ := xck_some h
  refine xeis rfl xsh135 b3 ?_
  obtain ⟨I4, hI4, h⟩ := xst_some h
  rw [← hI4]
  refine xeb 1 (pc' := 21) (ls' := [.ref 131, .int a1, .int a2, .int a3, .long a4, .null]) (st' := [.ref 131]) rfl ?_
  refine xegf2 rfl xsh131 (by decide) rfl ?_
  refine xeb 1 (pc' := 25) (ls' := [.ref 131, .int a1, .int a2, .int a3, .long a4, .null]) (st' := [.ref 131, .ref 136]) rfl ?_
  refine xegf0 rfl xsh131 (by decide) ?_
  refine xeb 1 (pc' := 29) (ls' := [.ref 131, .int a1, .int a2, .int a3, .long a4, .null]) (st' := [.int a3, .int (I4 131 10), .ref 136]) rfl ?_
  obtain ⟨b5, h⟩ := xck_some h
  refine xeis rfl xsh136 b5 ?_
  obtain ⟨I6, hI6, h⟩ := xst_some h
  rw [← hI6]
  refine xeb 1 (pc' := 31) (ls' := [.ref 131, .int a1, .int a2, .int a3, .long a4, .null]) (st' := [.ref 131]) rfl ?_
  refine xegf2 rfl xsh131 (by decide) rfl ?_
  refine xeb 1 (pc' := 35) (ls' := [.ref 131, .int a1, .int a2, .int a3, .long a4, .null]) (st' := [.ref 131, .ref 137]) rfl ?_
  refine xegf0 rfl xsh131 (by decide) ?_
  refine xeb 1 (pc' := 40) (ls' := [.ref 131, .int a1, .int a2, .int a3, .long a4, .null]) (st' := [.long a4, .int (I6 131 10), .ref 137]) rfl ?_
  obtain ⟨b7, h⟩ := xck_some h
  refine xels rfl xsh137 b7 ?_
  obtain ⟨L8, hL8, h⟩ := xst_some h
  rw [← hL8]
  refine xeb 2 (pc' := 43) (ls' := [.ref 131, .int a1, .int a2, .int a3, .long a4, .null]) (st' := [.ref 131, .ref 131]) rfl ?_
  refine xegf0 rfl xsh131 (by decide) ?_
  refine xeb 2 (pc' := 48) (ls' := [.ref 131, .int a1, .int a2, .int a3, .long a4, .null]) (st' := [.int ((I6 131 10) + 1), .ref 131]) rfl ?_
  refine xepf0 rfl xsh131 (by decide) ?_
  obtain ⟨I9, hI9, h⟩ := xst_some h
  rw [← hI9]
  obtain rfl := Option.some.inj h
  exact xevret rfl
noncomputable def f_M_isLetter (a0 : Int32) : Option (Int32) :=
  if a0 < 97 then (some 0) else (xck (xnarz (if 122 < a0 then 0 else 1)) (some (if 122 < a0 then 0 else 1)))
theorem g_M_isLetter {X : XX} {d : Nat} {I : XI} {L : XL} {a0 : Int32}  (r : Int32) (h : f_M_isLetter a0 = some r) : xEv X (d + 0) 79 0 [.int a0] [] I L (some (.int r)) I L := by
  rw [f_M_isLetter] at h
  refine xeb 2 (pc' := 3) (ls' := [.int a0]) (st' := [.int 97, .int a0]) rfl ?_
  by_cases c1 : a0 < 97
  · rw [if_pos c1] at h
    refine xei_lt_t rfl c1 ?_
    refine xeb 1 (pc' := 17) (ls' := [.int a0]) (st' := [.int 0]) rfl ?_
    obtain rfl := Option.some.inj h
    exact xeiret rfl rfl
  · rw [if_neg c1] at h
    refine xei_lt_f rfl c1 ?_
    refine xeb 2 (pc' := 9) (ls' := [.int a0]) (st' := [.int 122, .int a0]) rfl ?_
    have hj : xEv X (d + 0) 79 17 [.int a0] [.int (if 122 < a0 then 0 else 1)] I L (some (.int r)) I L := by
      obtain ⟨b3, h⟩ := xck_some h
      obtain rfl := Option.some.inj h
      exact xeiret rfl b3
    by_cases c2 : 122 < a0
    · simp only [if_pos c2] at hj
      refine xei_gt_t rfl c2 ?_
      exact xeb 1 rfl hj
    · simp only [if_neg c2] at hj
      refine xei_gt_f rfl c2 ?_
      exact xeb 2 rfl hj
noncomputable def f_M_isDigit (a0 : Int32) : Option (Int32) :=
  if a0 < 48 then (some 0) else (xck (xnarz (if 57 < a0 then 0 else 1)) (some (if 57 < a0 then 0 else 1)))
theorem g_M_isDigit {X : XX} {d : Nat} {I : XI} {L : XL} {a0 : Int32}  (r : Int32) (h : f_M_isDigit a0 = some r) : xEv X (d + 0) 80 0 [.int a0] [] I L (some (.int r)) I L := by
  rw [f_M_isDigit] at h
  refine xeb 2 (pc' := 3) (ls' := [.int a0]) (st' := [.int 48, .int a0]) rfl ?_
  by_cases c1 : a0 < 48
  · rw [if_pos c1] at h
    refine xei_lt_t rfl c1 ?_
    refine xeb 1 (pc' := 17) (ls' := [.int a0]) (st' := [.int 0]) rfl ?_
    obtain rfl := Option.some.inj h
    exact xeiret rfl rfl
  · rw [if_neg c1] at h
    refine xei_lt_f rfl c1 ?_
    refine xeb 2 (pc' := 9) (ls' := [.int a0]) (st' := [.int 57, .int a0]) rfl ?_
    have hj : xEv X (d + 0) 80 17 [.int a0] [.int (if 57 < a0 then 0 else 1)] I L (some (.int r)) I L := by
      obtain ⟨b3, h⟩ := xck_some h
      obtain rfl := Option.some.inj h
      exact xeiret rfl b3
    by_cases c2 : 57 < a0
    · simp only [if_pos c2] at hj
      refine xei_gt_t rfl c2 ?_
      exact xeb 1 rfl hj
    · simp only [if_neg c2] at hj
      refine xei_gt_f rfl c2 ?_
      exact xeb 2 rfl hj
noncomputable def f_M_sign_95 (v1 : Int32) (v4 : Int32) (I : XI) (L : XL) : Option (Int32 × XI × XL) :=
  (f_M_token v4 v1 0 ((0 : Int32).toInt64) I L).bind fun q7 => some (1, q7.1, q7.2)
theorem g_M_sign_95 {X : XX} {d : Nat}   {r : Int32 × XI × XL}  {v1 : Int32} {v4 : Int32} {I : XI} {L : XL} (h : f_M_sign_95 v1 v4 I L = some r) (z2 : Value) (z3 : Value) : xEv X (d + 1) 81 95 [.ref 131, .int v1, z2, z3, .int v4] [] I L (some (.int r.1)) r.2.1 r.2.2 := by
  rw [f_M_sign_95] at h
  refine xeb 5 (pc' := 101) (ls' := [.ref 131, .int v1, z2, z3, .int v4]) (st' := [.long (0 : Int32).toInt64, .int 0, .int v1, .int v4, .ref 131]) rfl ?_
  obtain ⟨q7, eq7, h⟩ := xbind_some h
  refine xcallV rfl xsh131 rfl rfl rfl (Nat.le_of_ble_eq_true rfl) (Nat.le_of_ble_eq_true rfl) (Nat.le_of_ble_eq_true rfl) rfl (g_M_token (d := d + 0) _ eq7) ?_
  refine xeb 1 (pc' := 105) (ls' := [.ref 131, .int v1, z2, z3, .int v4]) (st' := [.int 1]) rfl ?_
  obtain rfl := Option.some.inj h
  exact xeiret rfl rfl
noncomputable def f_M_sign_85 (v1 : Int32) (v2 : Int32) (v4 : Int32) (I : XI) (L : XL) : Option (Int32 × XI × XL) :=
  if v2 = 60 then (f_M_sign_95 v1 13 I L) else (f_M_sign_95 v1 v4 I L)
theorem g_M_sign_85 {X : XX} {d : Nat}   {r : Int32 × XI × XL}  {v1 : Int32} {v2 : Int32} {v4 : Int32} {I : XI} {L : XL} (h : f_M_sign_85 v1 v2 v4 I L = some r) (z3 : Value) : xEv X (d + 1) 81 85 [.ref 131, .int v1, .int v2, z3, .int v4] [] I L (some (.int r.1)) r.2.1 r.2.2 := by
  rw [f_M_sign_85] at h
  refine xeb 2 (pc' := 88) (ls' := [.ref 131, .int v1, .int v2, z3, .int v4]) (st' := [.int 60, .int v2]) rfl ?_
  by_cases c6 : v2 = 60
  · rw [if_pos c6] at h
    refine xei_ne_t rfl c6 ?_
    refine xeb 2 (pc' := 95) (ls' := [.ref 131, .int v1, .int v2, (xkv z3), .int 13]) (st' := []) rfl ?_
    exact g_M_sign_95 h _ _
  · rw [if_neg c6] at h
    refine xei_ne_f rfl c6 ?_
    exact g_M_sign_95 h _ _
noncomputable def f_M_sign_75 (v1 : Int32) (v2 : Int32) (v4 : Int32) (I : XI) (L : XL) : Option (Int32 × XI × XL) :=
  if v2 = 47 then (f_M_sign_85 v1 v2 15 I L) else (f_M_sign_85 v1 v2 v4 I L)
theorem g_M_sign_75 {X : XX} {d : Nat}   {r : Int32 × XI × XL}  {v1 : Int32} {v2 : Int32} {v4 : Int32} {I : XI} {L : XL} (h : f_M_sign_75 v1 v2 v4 I L = some r) (z3 : Value) : xEv X (d + 1) 81 75 [.ref 131, .int v1, .int v2, z3, .int v4] [] I L (some (.int r.1)) r.2.1 r.2.2 := by
  rw [f_M_sign_75] at h
  refine xeb 2 (pc' := 78) (ls' := [.ref 131, .int v1, .int v2, z3, .int v4]) (st' := [.int 47, .int v2]) rfl ?_
  by_cases c5 : v2 = 47
  · rw [if_pos c5] at h
    refine xei_ne_t rfl c5 ?_
    refine xeb 2 (pc' := 85) (ls' := [.ref 131, .int v1, .int v2, (xkv z3), .int 15]) (st' := []) rfl ?_
    exact g_M_sign_85 h _
  · rw [if_neg c5] at h
    refine xei_ne_f rfl c5 ?_
    exact g_M_sign_85 h _
noncomputable def f_M_sign_65 (v1 : Int32) (v2 : Int32) (v4 : Int32) (I : XI) (L : XL) : Option (Int32 × XI × XL) :=
  if v2 = 42 then (f_M_sign_75 v1 v2 10 I L) else (f_M_sign_75 v1 v2 v4 I L)
theorem g_M_sign_65 {X : XX} {d : Nat}   {r : Int32 × XI × XL}  {v1 : Int32} {v2 : Int32} {v4 : Int32} {I : XI} {L : XL} (h : f_M_sign_65 v1 v2 v4 I L = some r) (z3 : Value) : xEv X (d + 1) 81 65 [.ref 131, .int v1, .int v2, z3, .int v4] [] I L (some (.int r.1)) r.2.1 r.2.2 := by
  rw [f_M_sign_65] at h
  refine xeb 2 (pc' := 68) (ls' := [.ref 131, .int v1, .int v2, z3, .int v4]) (st' := [.int 42, .int v2]) rfl ?_
  by_cases c4 : v2 = 42
  · rw [if_pos c4] at h
    refine xei_ne_t rfl c4 ?_
    refine xeb 2 (pc' := 75) (ls' := [.ref 131, .int v1, .int v2, (xkv z3), .int 10]) (st' := []) rfl ?_
    exact g_M_sign_75 h _
  · rw [if_neg c4] at h
    refine xei_ne_f rfl c4 ?_
    exact g_M_sign_75 h _
noncomputable def f_M_sign_55 (v1 : Int32) (v2 : Int32) (v4 : Int32) (I : XI) (L : XL) : Option (Int32 × XI × XL) :=
  if v2 = 45 then (f_M_sign_65 v1 v2 9 I L) else (f_M_sign_65 v1 v2 v4 I L)
theorem g_M_sign_55 {X : XX} {d : Nat}   {r : Int32 × XI × XL}  {v1 : Int32} {v2 : Int32} {v4 : Int32} {I : XI} {L : XL} (h : f_M_sign_55 v1 v2 v4 I L = some r) (z3 : Value) : xEv X (d + 1) 81 55 [.ref 131, .int v1, .int v2, z3, .int v4] [] I L (some (.int r.1)) r.2.1 r.2.2 := by
  rw [f_M_sign_55] at h
  refine xeb 2 (pc' := 58) (ls' := [.ref 131, .int v1, .int v2, z3, .int v4]) (st' := [.int 45, .int v2]) rfl ?_
  by_cases c3 : v2 = 45
  · rw [if_pos c3] at h
    refine xei_ne_t rfl c3 ?_
    refine xeb 2 (pc' := 65) (ls' := [.ref 131, .int v1, .int v2, (xkv z3), .int 9]) (st' := []) rfl ?_
    exact g_M_sign_65 h _
  · rw [if_neg c3] at h
    refine xei_ne_f rfl c3 ?_
    exact g_M_sign_65 h _
noncomputable def f_M_sign_43 (v1 : Int32) (v2 : Int32) (s0 : Int32) (I : XI) (L : XL) : Option (Int32 × XI × XL) :=
  if v2 = 43 then (f_M_sign_55 v1 v2 8 I L) else (f_M_sign_55 v1 v2 s0 I L)
theorem g_M_sign_43 {X : XX} {d : Nat}   {r : Int32 × XI × XL}  {v1 : Int32} {v2 : Int32} {s0 : Int32} {I : XI} {L : XL} (h : f_M_sign_43 v1 v2 s0 I L = some r) (z3 : Value) (z4 : Value) : xEv X (d + 1) 81 43 [.ref 131, .int v1, .int v2, z3, z4] [.int s0] I L (some (.int r.1)) r.2.1 r.2.2 := by
  rw [f_M_sign_43] at h
  refine xeb 3 (pc' := 48) (ls' := [.ref 131, .int v1, .int v2, (xkv z3), .int s0]) (st' := [.int 43, .int v2]) rfl ?_
  by_cases c2 : v2 = 43
  · rw [if_pos c2] at h
    refine xei_ne_t rfl c2 ?_
    refine xeb 2 (pc' := 55) (ls' := [.ref 131, .int v1, .int v2, (xkv (xkv z3)), .int 8]) (st' := []) rfl ?_
    exact g_M_sign_55 h _
  · rw [if_neg c2] at h
    refine xei_ne_f rfl c2 ?_
    exact g_M_sign_55 h _
noncomputable def f_M_sign (a1 : Int32) (a2 : Int32) (a3 : Int32) (I : XI) (L : XL) : Option (Int32 × XI × XL) :=
  if a2 = 59 then (f_M_sign_43 a1 a2 4 I L) else (if a2 = 61 then (f_M_sign_43 a1 a2 5 I L) else (if a2 = 40 then (f_M_sign_43 a1 a2 6 I L) else (f_M_sign_43 a1 a2 (if a2 = 41 then 7 else 3) I L)))
theorem g_M_sign {X : XX} {d : Nat} {a1 : Int32} {a2 : Int32} {a3 : Int32} {I : XI} {L : XL}  (r : Int32 × XI × XL) (h : f_M_sign a1 a2 a3 I L = some r) : xEv X (d + 1) 81 0 [.ref 131, .int a1, .int a2, .int a3, .null] [] I L (some (.int r.1)) r.2.1 r.2.2 := by
  rw [f_M_sign] at h
  refine xeb 2 (pc' := 3) (ls' := [.ref 131, .int a1, .int a2, .int a3, .null]) (st' := [.int 59, .int a2]) rfl ?_
  by_cases c1 : a2 = 59
  · rw [if_pos c1] at h
    refine xei_ne_t rfl c1 ?_
    refine xeb 2 (pc' := 43) (ls' := [.ref 131, .int a1, .int a2, .int a3, .null]) (st' := [.int 4]) rfl ?_
    exact g_M_sign_43 h _ _
  · rw [if_neg c1] at h
    refine xei_ne_f rfl c1 ?_
    refine xeb 2 (pc' := 13) (ls' := [.ref 131, .int a1, .int a2, .int a3, .null]) (st' := [.int 61, .int a2]) rfl ?_
    by_cases c8 : a2 = 61
    · rw [if_pos c8] at h
      refine xei_ne_t rfl c8 ?_
      refine xeb 2 (pc' := 43) (ls' := [.ref 131, .int a1, .int a2, .int a3, .null]) (st' := [.int 5]) rfl ?_
      exact g_M_sign_43 h _ _
    · rw [if_neg c8] at h
      refine xei_ne_f rfl c8 ?_
      refine xeb 2 (pc' := 23) (ls' := [.ref 131, .int a1, .int a2, .int a3, .null]) (st' := [.int 40, .int a2]) rfl ?_
      by_cases c9 : a2 = 40
      · rw [if_pos c9] at h
        refine xei_ne_t rfl c9 ?_
        refine xeb 2 (pc' := 43) (ls' := [.ref 131, .int a1, .int a2, .int a3, .null]) (st' := [.int 6]) rfl ?_
        exact g_M_sign_43 h _ _
      · rw [if_neg c9] at h
        refine xei_ne_f rfl c9 ?_
        refine xeb 2 (pc' := 34) (ls' := [.ref 131, .int a1, .int a2, .int a3, .null]) (st' := [.int 41, .int a2]) rfl ?_
        have hj : xEv X (d + 1) 81 43 [.ref 131, .int a1, .int a2, .int a3, .null] [.int (if a2 = 41 then 7 else 3)] I L (some (.int r.1)) r.2.1 r.2.2 := by
          exact g_M_sign_43 h _ _
        by_cases c10 : a2 = 41
        · simp only [if_pos c10] at hj
          refine xei_ne_t rfl c10 ?_
          exact xeb 2 rfl hj
        · simp only [if_neg c10] at hj
          refine xei_ne_f rfl c10 ?_
          exact xeb 1 rfl hj
noncomputable def f_M_cut_261 (F : Nat) (k7 : Int32 → XI → XL → Option (XI × XL)) (v1 : Int32) (v3 : Int32) (v4 : Int32) (s1 : Int32) (I : XI) (L : XL) : Option (XI × XL) :=
  (f_M_token s1 v1 v4 ((0 : Int32).toInt64) I L).bind fun q19 => k7 (v1 + v3) q19.1 q19.2
theorem g_M_cut_261 {X : XX} {d : Nat} {F : Nat} {k7 : Int32 → XI → XL → Option (XI × XL)}  {r : XI × XL} (hk7 : ∀ (v1 : Int32) (I : XI) (L : XL), k7 v1 I L = some r → ∀ (z2 : Value) (z3 : Value) (z4 : Value) (z5 : Value) (z6 : Value) (z7 : Value), xEv X (d + 2) 82 7 [.ref 131, .int v1, z2, z3, z4, z5, z6, z7] [] I L none r.1 r.2) {v1 : Int32} {v3 : Int32} {v4 : Int32} {s1 : Int32} {I : XI} {L : XL} (h : f_M_cut_261 F k7 v1 v3 v4 s1 I L = some r) (z2 : Value) (z5 : Value) (z6 : Value) (z7 : Value) : xEv X (d + 2) 82 261 [.ref 131, .int v1, z2, .int v3, .int v4, z5, z6, z7] [.int s1, .ref 131] I L none r.1 r.2 := by
  rw [f_M_cut_261] at h
  refine xeb 3 (pc' := 265) (ls' := [.ref 131, .int v1, z2, .int v3, .int v4, z5, z6, z7]) (st' := [.long (0 : Int32).toInt64, .int v4, .int v1, .int s1, .ref 131]) rfl ?_
  obtain ⟨q19, eq19, h⟩ := xbind_some h
  refine xcallV rfl xsh131 rfl rfl rfl (Nat.le_of_ble_eq_true rfl) (Nat.le_of_ble_eq_true rfl) (Nat.le_of_ble_eq_true rfl) rfl (g_M_token (d := d + 1) _ eq19) ?_
  refine xeb 6 (pc' := 7) (ls' := [.ref 131, .int (v1 + v3), z2, .int v3, .int v4, z5, z6, z7]) (st' := []) rfl ?_
  exact hk7 (v1 + v3) q19.1 q19.2 h _ _ _ _ _ _
noncomputable def f_M_cut_208 (F : Nat) (k7 : Int32 → XI → XL → Option (XI × XL)) : Nat → Int32 → Int32 → Int32 → XI → XL → Option (XI × XL)
  | 0, _, _, _, _, _ => none
  | n + 1, v1, v3, v4, I, L =>
    (f_M_byteAt I (v1 + v3)).bind fun q15 => (f_M_isDigit q15).bind fun q16 => if q16 = 0 then (f_M_cut_261 F k7 v1 v3 v4 (if v3 ≤ 4 then 2 else 3) I L) else (if 4 ≤ v3 then (f_M_cut_208 F k7 n v1 (v3 + 1) v4 I L) else ((f_M_byteAt I (v1 + v3)).bind fun q21 => f_M_cut_208 F k7 n v1 (v3 + 1) (((10 * v4) + q21) - 48) I L))
theorem g_M_cut_208 {X : XX} {d : Nat} {F : Nat} {k7 : Int32 → XI → XL → Option (XI × XL)}  {r : XI × XL} (hk7 : ∀ (v1 : Int32) (I : XI) (L : XL), k7 v1 I L = some r → ∀ (z2 : Value) (z3 : Value) (z4 : Value) (z5 : Value) (z6 : Value) (z7 : Value), xEv X (d + 2) 82 7 [.ref 131, .int v1, z2, z3, z4, z5, z6, z7] [] I L none r.1 r.2) : ∀ (n : Nat) (v1 : Int32) (v3 : Int32) (v4 : Int32) (I : XI) (L : XL), f_M_cut_208 F k7 n v1 v3 v4 I L = some r → ∀ (z2 : Value) (z5 : Value) (z6 : Value) (z7 : Value), xEv X (d + 2) 82 208 [.ref 131, .int v1, z2, .int v3, .int v4, z5, z6, z7] [] I L none r.1 r.2 := by
  intro n
  induction n with
  | zero => intro v1 v3 v4 I L h; rw [f_M_cut_208] at h; cases h
  | succ n ih =>
    intro v1 v3 v4 I L h z2 z5 z6 z7
    rw [f_M_cut_208] at h
    refine xeb 4 (pc' := 212) (ls' := [.ref 131, .int v1, z2, .int v3, .int v4, z5, z6, z7]) (st' := [.int (v1 + v3), .ref 131]) rfl ?_
    obtain ⟨q15, eq15, h⟩ := xbind_some h
    refine xcallV rfl xsh131 rfl rfl rfl (Nat.le_of_ble_eq_true rfl) (Nat.le_of_ble_eq_true rfl) (Nat.le_of_ble_eq_true rfl) rfl (g_M_byteAt (d := d + 1) _ eq15) ?_
    obtain ⟨q16, eq16, h⟩ := xbind_some h
    refine xcallS20 rfl rfl rfl (Nat.le_of_ble_eq_true rfl) (Nat.le_of_ble_eq_true rfl) (Nat.le_of_ble_eq_true rfl) rfl (g_M_isDigit (d := d + 1) _ eq16) ?_
    by_cases c17 : q16 = 0
    · rw [if_pos c17] at h
      refine xef_eq_t rfl c17 ?_
      refine xeb 3 (pc' := 253) (ls' := [.ref 131, .int v1, z2, .int v3, .int v4, z5, z6, z7]) (st' := [.int 4, .int v3, .ref 131]) rfl ?_
      have hj : xEv X (d + 2) 82 261 [.ref 131, .int v1, z2, .int v3, .int v4, z5, z6, z7] [.int (if v3 ≤ 4 then 2 else 3), .ref 131] I L none r.1 r.2 := by
        exact g_M_cut_261 hk7 h _ _ _ _
      by_cases c18 : v3 ≤ 4
      · simp only [if_pos c18] at hj
        refine xei_le_t rfl c18 ?_
        exact xeb 1 rfl hj
      · simp only [if_neg c18] at hj
        refine xei_le_f rfl c18 ?_
        exact xeb 2 rfl hj
    · rw [if_neg c17] at h
      refine xef_eq_f rfl c17 ?_
      refine xeb 2 (pc' := 223) (ls' := [.ref 131, .int v1, z2, .int v3, .int v4, z5, z6, z7]) (st' := [.int 4, .int v3]) rfl ?_
      by_cases c20 : 4 ≤ v3
      · rw [if_pos c20] at h
        refine xei_ge_t rfl c20 ?_
        refine xeb 2 (pc' := 208) (ls' := [.ref 131, .int v1, (xkv z2), .int (v3 + 1), .int v4, z5, z6, z7]) (st' := []) rfl ?_
        exact ih v1 (v3 + 1) v4 I L h _ _ _ _
      · rw [if_neg c20] at h
        refine xei_ge_f rfl c20 ?_
        refine xeb 7 (pc' := 235) (ls' := [.ref 131, .int v1, z2, .int v3, .int v4, z5, z6, z7]) (st' := [.int (v1 + v3), .ref 131, .int (10 * v4)]) rfl ?_
        obtain ⟨q21, eq21, h⟩ := xbind_some h
        refine xcallV rfl xsh131 rfl rfl rfl (Nat.le_of_ble_eq_true rfl) (Nat.le_of_ble_eq_true rfl) (Nat.le_of_ble_eq_true rfl) rfl (g_M_byteAt (d := d + 1) _ eq21) ?_
        refine xeb 6 (pc' := 208) (ls' := [.ref 131, .int v1, (xkv z2), .int (v3 + 1), .int (((10 * v4) + q21) - 48), z5, z6, z7]) (st' := []) rfl ?_
        exact ih v1 (v3 + 1) (((10 * v4) + q21) - 48) I L h _ _ _ _
noncomputable def f_M_cut_179 (F : Nat) (k7 : Int32 → XI → XL → Option (XI × XL)) (v1 : Int32) (v3 : Int32) (v4 : Int64) (v6 : Int32) (I : XI) (L : XL) : Option (XI × XL) :=
  (f_M_token v6 v1 0 v4 I L).bind fun q27 => k7 (v1 + v3) q27.1 q27.2
theorem g_M_cut_179 {X : XX} {d : Nat} {F : Nat} {k7 : Int32 → XI → XL → Option (XI × XL)}  {r : XI × XL} (hk7 : ∀ (v1 : Int32) (I : XI) (L : XL), k7 v1 I L = some r → ∀ (z2 : Value) (z3 : Value) (z4 : Value) (z5 : Value) (z6 : Value) (z7 : Value), xEv X (d + 2) 82 7 [.ref 131, .int v1, z2, z3, z4, z5, z6, z7] [] I L none r.1 r.2) {v1 : Int32} {v3 : Int32} {v4 : Int64} {v6 : Int32} {I : XI} {L : XL} (h : f_M_cut_179 F k7 v1 v3 v4 v6 I L = some r) (z2 : Value) (z5 : Value) (z7 : Value) : xEv X (d + 2) 82 179 [.ref 131, .int v1, z2, .int v3, .long v4, z5, .int v6, z7] [] I L none r.1 r.2 := by
  rw [f_M_cut_179] at h
  refine xeb 5 (pc' := 186) (ls' := [.ref 131, .int v1, z2, .int v3, .long v4, z5, .int v6, z7]) (st' := [.long v4, .int 0, .int v1, .int v6, .ref 131]) rfl ?_
  obtain ⟨q27, eq27, h⟩ := xbind_some h
  refine xcallV rfl xsh131 rfl rfl rfl (Nat.le_of_ble_eq_true rfl) (Nat.le_of_ble_eq_true rfl) (Nat.le_of_ble_eq_true rfl) rfl (g_M_token (d := d + 1) _ eq27) ?_
  refine xeb 6 (pc' := 7) (ls' := [.ref 131, .int (v1 + v3), z2, .int v3, .long v4, z5, .int v6, z7]) (st' := []) rfl ?_
  exact hk7 (v1 + v3) q27.1 q27.2 h _ _ _ _ _ _
noncomputable def f_M_cut_146 (F : Nat) (k179 : Int32 → Int32 → Int64 → Int32 → XI → XL → Option (XI × XL)) : Nat → Int32 → Int32 → Int64 → Int32 → Int32 → XI → XL → Option (XI × XL)
  | 0, _, _, _, _, _, _, _ => none
  | n + 1, v1, v3, v4, v6, v7, I, L =>
    if 21 ≤ v7 then (k179 v1 v3 v4 v6 I L) else (xck (xin v7 21) (if (lg_cmp (L 138 (xN v7)) v4) = 0 then (f_M_cut_146 F k179 n v1 v3 v4 (20 + v7) (v7 + 1) I L) else (f_M_cut_146 F k179 n v1 v3 v4 v6 (v7 + 1) I L)))
theorem g_M_cut_146 {X : XX} {d : Nat} {F : Nat} {k179 : Int32 → Int32 → Int64 → Int32 → XI → XL → Option (XI × XL)}  {r : XI × XL} (hk179 : ∀ (v1 : Int32) (v3 : Int32) (v4 : Int64) (v6 : Int32) (I : XI) (L : XL), k179 v1 v3 v4 v6 I L = some r → ∀ (z2 : Value) (z5 : Value) (z7 : Value), xEv X (d + 2) 82 179 [.ref 131, .int v1, z2, .int v3, .long v4, z5, .int v6, z7] [] I L none r.1 r.2) : ∀ (n : Nat) (v1 : Int32) (v3 : Int32) (v4 : Int64) (v6 : Int32) (v7 : Int32) (I : XI) (L : XL), f_M_cut_146 F k179 n v1 v3 v4 v6 v7 I L = some r → ∀ (z2 : Value) (z5 : Value), xEv X (d + 2) 82 146 [.ref 131, .int v1, z2, .int v3, .long v4, z5, .int v6, .int v7] [] I L none r.1 r.2 := by
  intro n
  induction n with
  | zero => intro v1 v3 v4 v6 v7 I L h; rw [f_M_cut_146] at h; cases h
  | succ n ih =>
    intro v1 v3 v4 v6 v7 I L h z2 z5
    rw [f_M_cut_146] at h
    refine xeb 2 (pc' := 150) (ls' := [.ref 131, .int v1, z2, .int v3, .long v4, z5, .int v6, .int v7]) (st' := [.int 21, .int v7]) rfl ?_
    by_cases c28 : 21 ≤ v7
    · rw [if_pos c28] at h
      refine xei_ge_t rfl c28 ?_
      exact hk179 v1 v3 v4 v6 I L h _ _ _
    · rw [if_neg c28] at h
      refine xei_ge_f rfl c28 ?_
      refine xeb 1 (pc' := 154) (ls' := [.ref 131, .int v1, z2, .int v3, .long v4, z5, .int v6, .int v7]) (st' := [.ref 131]) rfl ?_
      refine xegf2 rfl xsh131 (by decide) rfl ?_
      refine xeb 1 (pc' := 159) (ls' := [.ref 131, .int v1, z2, .int v3, .long v4, z5, .int v6, .int v7]) (st' := [.int v7, .ref 138]) rfl ?_
      obtain ⟨b29, h⟩ := xck_some h
      refine xela rfl xsh138 b29 ?_
      refine xeb 2 (pc' := 163) (ls' := [.ref 131, .int v1, z2, .int v3, .long v4, z5, .int v6, .int v7]) (st' := [.int (lg_cmp (L 138 (xN v7)) v4)]) rfl ?_
      by_cases c30 : (lg_cmp (L 138 (xN v7)) v4) = 0
      · rw [if_pos c30] at h
        refine xef_ne_t rfl c30 ?_
        refine xeb 6 (pc' := 146) (ls' := [.ref 131, .int v1, z2, .int v3, .long v4, (xkv z5), .int (20 + v7), .int (v7 + 1)]) (st' := []) rfl ?_
        exact ih v1 v3 v4 (20 + v7) (v7 + 1) I L h _ _
      · rw [if_neg c30] at h
        refine xef_ne_f rfl c30 ?_
        refine xeb 2 (pc' := 146) (ls' := [.ref 131, .int v1, z2, .int v3, .long v4, z5, .int v6, .int (v7 + 1)]) (st' := []) rfl ?_
        exact ih v1 v3 v4 v6 (v7 + 1) I L h _ _
noncomputable def f_M_cut_135 (F : Nat) (k7 : Int32 → XI → XL → Option (XI × XL)) (v1 : Int32) (v3 : Int32) (v4 : Int64) (s0 : Int32) (I : XI) (L : XL) : Option (XI × XL) :=
  if 8 < v3 then (f_M_cut_179 F k7 v1 v3 v4 s0 I L) else (f_M_cut_146 F (fun v1 v3 v4 v6 I L => f_M_cut_179 F k7 v1 v3 v4 v6 I L) F v1 v3 v4 s0 0 I L)
theorem g_M_cut_135 {X : XX} {d : Nat} {F : Nat} {k7 : Int32 → XI → XL → Option (XI × XL)}  {r : XI × XL} (hk7 : ∀ (v1 : Int32) (I : XI) (L : XL), k7 v1 I L = some r → ∀ (z2 : Value) (z3 : Value) (z4 : Value) (z5 : Value) (z6 : Value) (z7 : Value), xEv X (d + 2) 82 7 [.ref 131, .int v1, z2, z3, z4, z5, z6, z7] [] I L none r.1 r.2) {v1 : Int32} {v3 : Int32} {v4 : Int64} {s0 : Int32} {I : XI} {L : XL} (h : f_M_cut_135 F k7 v1 v3 v4 s0 I L = some r) (z2 : Value) (z5 : Value) (z6 : Value) (z7 : Value) : xEv X (d + 2) 82 135 [.ref 131, .int v1, z2, .int v3, .long v4, z5, z6, z7] [.int s0] I L none r.1 r.2 := by
  rw [f_M_cut_135] at h
  refine xeb 3 (pc' := 140) (ls' := [.ref 131, .int v1, z2, .int v3, .long v4, (xkv z5), .int s0, z7]) (st' := [.int 8, .int v3]) rfl ?_
  by_cases c26 : 8 < v3
  · rw [if_pos c26] at h
    refine xei_gt_t rfl c26 ?_
    exact g_M_cut_179 hk7 h _ _ _
  · rw [if_neg c26] at h
    refine xei_gt_f rfl c26 ?_
    refine xeb 2 (pc' := 146) (ls' := [.ref 131, .int v1, z2, .int v3, .long v4, (xkv z5), .int s0, .int 0]) (st' := []) rfl ?_
    exact g_M_cut_146 (fun v1 v3 v4 v6 I L h' z2 z5 z7 => g_M_cut_179 hk7 h' z2 z5 z7) F v1 v3 v4 s0 0 I L h _ _
noncomputable def f_M_cut_85 (F : Nat) (k7 : Int32 → XI → XL → Option (XI × XL)) : Nat → Int32 → Int32 → Int64 → XI → XL → Option (XI × XL)
  | 0, _, _, _, _, _ => none
  | n + 1, v1, v3, v4, I, L =>
    (f_M_byteAt I (v1 + v3)).bind fun q22 => (f_M_isLetter q22).bind fun q23 => if q23 = 0 then (f_M_cut_135 F k7 v1 v3 v4 (if v3 ≤ 8 then 1 else 3) I L) else (if 8 ≤ v3 then (f_M_cut_85 F k7 n v1 (v3 + 1) v4 I L) else ((f_M_byteAt I (v1 + v3)).bind fun q32 => (f_M_appends v4 q32).bind fun q33 => f_M_cut_85 F k7 n v1 (v3 + 1) q33 I L))
theorem g_M_cut_85 {X : XX} {d : Nat} {F : Nat} {k7 : Int32 → XI → XL → Option (XI × XL)}  {r : XI × XL} (hk7 : ∀ (v1 : Int32) (I : XI) (L : XL), k7 v1 I L = some r → ∀ (z2 : Value) (z3 : Value) (z4 : Value) (z5 : Value) (z6 : Value) (z7 : Value), xEv X (d + 2) 82 7 [.ref 131, .int v1, z2, z3, z4, z5, z6, z7] [] I L none r.1 r.2) : ∀ (n : Nat) (v1 : Int32) (v3 : Int32) (v4 : Int64) (I : XI) (L : XL), f_M_cut_85 F k7 n v1 v3 v4 I L = some r → ∀ (z2 : Value) (z5 : Value) (z6 : Value) (z7 : Value), xEv X (d + 2) 82 85 [.ref 131, .int v1, z2, .int v3, .long v4, z5, z6, z7] [] I L none r.1 r.2 := by
  intro n
  induction n with
  | zero => intro v1 v3 v4 I L h; rw [f_M_cut_85] at h; cases h
  | succ n ih =>
    intro v1 v3 v4 I L h z2 z5 z6 z7
    rw [f_M_cut_85] at h
    refine xeb 4 (pc' := 89) (ls' := [.ref 131, .int v1, z2, .int v3, .long v4, z5, z6, z7]) (st' := [.int (v1 + v3), .ref 131]) rfl ?_
    obtain ⟨q22, eq22, h⟩ := xbind_some h
    refine xcallV rfl xsh131 rfl rfl rfl (Nat.le_of_ble_eq_true rfl) (Nat.le_of_ble_eq_true rfl) (Nat.le_of_ble_eq_true rfl) rfl (g_M_byteAt (d := d + 1) _ eq22) ?_
    obtain ⟨q23, eq23, h⟩ := xbind_some h
    refine xcallS20 rfl rfl rfl (Nat.le_of_ble_eq_true rfl) (Nat.le_of_ble_eq_true rfl) (Nat.le_of_ble_eq_true rfl) rfl (g_M_isLetter (d := d + 1) _ eq23) ?_
    by_cases c24 : q23 = 0
    · rw [if_pos c24] at h
      refine xef_eq_t rfl c24 ?_
      refine xeb 2 (pc' := 127) (ls' := [.ref 131, .int v1, z2, .int v3, .long v4, z5, z6, z7]) (st' := [.int 8, .int v3]) rfl ?_
      have hj : xEv X (d + 2) 82 135 [.ref 131, .int v1, z2, .int v3, .long v4, z5, z6, z7] [.int (if v3 ≤ 8 then 1 else 3)] I L none r.1 r.2 := by
        exact g_M_cut_135 hk7 h _ _ _ _
      by_cases c25 : v3 ≤ 8
      · simp only [if_pos c25] at hj
        refine xei_le_t rfl c25 ?_
        exact xeb 1 rfl hj
      · simp only [if_neg c25] at hj
        refine xei_le_f rfl c25 ?_
        exact xeb 2 rfl hj
    · rw [if_neg c24] at h
      refine xef_eq_f rfl c24 ?_
      refine xeb 2 (pc' := 101) (ls' := [.ref 131, .int v1, z2, .int v3, .long v4, z5, z6, z7]) (st' := [.int 8, .int v3]) rfl ?_
      by_cases c31 : 8 ≤ v3
      · rw [if_pos c31] at h
        refine xei_ge_t rfl c31 ?_
        refine xeb 2 (pc' := 85) (ls' := [.ref 131, .int v1, (xkv z2), .int (v3 + 1), .long v4, z5, z6, z7]) (st' := []) rfl ?_
        exact ih v1 (v3 + 1) v4 I L h _ _ _ _
      · rw [if_neg c31] at h
        refine xei_ge_f rfl c31 ?_
        refine xeb 5 (pc' := 110) (ls' := [.ref 131, .int v1, z2, .int v3, .long v4, z5, z6, z7]) (st' := [.int (v1 + v3), .ref 131, .long v4]) rfl ?_
        obtain ⟨q32, eq32, h⟩ := xbind_some h
        refine xcallV rfl xsh131 rfl rfl rfl (Nat.le_of_ble_eq_true rfl) (Nat.le_of_ble_eq_true rfl) (Nat.le_of_ble_eq_true rfl) rfl (g_M_byteAt (d := d + 1) _ eq32) ?_
        obtain ⟨q33, eq33, h⟩ := xbind_some h
        refine xcallS20 rfl rfl rfl (Nat.le_of_ble_eq_true rfl) (Nat.le_of_ble_eq_true rfl) (Nat.le_of_ble_eq_true rfl) rfl (g_M_appends (d := d + 1) _ eq33) ?_
        refine xeb 3 (pc' := 85) (ls' := [.ref 131, .int v1, (xkv z2), .int (v3 + 1), .long q33, .null, z6, z7]) (st' := []) rfl ?_
        exact ih v1 (v3 + 1) q33 I L h _ _ _ _
noncomputable def f_M_cut_7 (F : Nat) : Nat → Int32 → XI → XL → Option (XI × XL)
  | 0, _, _, _ => none
  | n + 1, v1, I, L =>
    if 400 < (I 131 10) then (some (I, L)) else ((f_M_byteAt I v1).bind fun q3 => if v1 < (I 131 4) then (if q3 = 9 then (f_M_cut_7 F n (v1 + 1) I L) else (if q3 = 10 then (f_M_cut_7 F n (v1 + 1) I L) else (if q3 = 13 then (f_M_cut_7 F n (v1 + 1) I L) else (if q3 = 32 then (f_M_cut_7 F n (v1 + 1) I L) else ((f_M_isLetter q3).bind fun q9 => if q9 = 0 then ((f_M_isDigit q3).bind fun q11 => if q11 = 0 then ((f_M_byteAt I (v1 + 1)).bind fun q13 => (f_M_sign v1 q3 q13 I L).bind fun q14 => f_M_cut_7 F n (v1 + q14.1) q14.2.1 q14.2.2) else (f_M_cut_208 F (fun v1 I L => f_M_cut_7 F n v1 I L) F v1 0 0 I L)) else (f_M_cut_85 F (fun v1 I L => f_M_cut_7 F n v1 I L) F v1 0 ((0 : Int32).toInt64) I L)))))) else ((f_M_token 0 (I 131 4) 0 ((0 : Int32).toInt64) I L).bind fun q34 => some (q34.1, q34.2)))
theorem g_M_cut_7 {X : XX} {d : Nat} {F : Nat}  {r : XI × XL}  : ∀ (n : Nat) (v1 : Int32) (I : XI) (L : XL), f_M_cut_7 F n v1 I L = some r → ∀ (z2 : Value) (z3 : Value) (z4 : Value) (z5 : Value) (z6 : Value) (z7 : Value), xEv X (d + 2) 82 7 [.ref 131, .int v1, z2, z3, z4, z5, z6, z7] [] I L none r.1 r.2 := by
  intro n
  induction n with
  | zero => intro v1 I L h; rw [f_M_cut_7] at h; cases h
  | succ n ih =>
    intro v1 I L h z2 z3 z4 z5 z6 z7
    rw [f_M_cut_7] at h
    refine xeb 1 (pc' := 8) (ls' := [.ref 131, .int v1, z2, z3, z4, z5, z6, z7]) (st' := [.ref 131]) rfl ?_
    refine xegf0 rfl xsh131 (by decide) ?_
    refine xeb 1 (pc' := 14) (ls' := [.ref 131, .int v1, z2, z3, z4, z5, z6, z7]) (st' := [.int 400, .int (I 131 10)]) rfl ?_
    by_cases c2 : 400 < (I 131 10)
    · rw [if_pos c2] at h
      refine xei_gt_t rfl c2 ?_
      obtain rfl := Option.some.inj h
      exact xevret rfl
    · rw [if_neg c2] at h
      refine xei_gt_f rfl c2 ?_
      refine xeb 2 (pc' := 19) (ls' := [.ref 131, .int v1, z2, z3, z4, z5, z6, z7]) (st' := [.int v1, .ref 131]) rfl ?_
      obtain ⟨q3, eq3, h⟩ := xbind_some h
      refine xcallV rfl xsh131 rfl rfl rfl (Nat.le_of_ble_eq_true rfl) (Nat.le_of_ble_eq_true rfl) (Nat.le_of_ble_eq_true rfl) rfl (g_M_byteAt (d := d + 1) _ eq3) ?_
      refine xeb 3 (pc' := 25) (ls' := [.ref 131, .int v1, .int q3, z3, z4, z5, z6, z7]) (st' := [.ref 131, .int v1]) rfl ?_
      refine xegf0 rfl xsh131 (by decide) ?_
      by_cases c4 : v1 < (I 131 4)
      · rw [if_pos c4] at h
        refine xei_lt_t rfl c4 ?_
        refine xeb 2 (pc' := 46) (ls' := [.ref 131, .int v1, .int q3, z3, z4, z5, z6, z7]) (st' := [.int 9, .int q3]) rfl ?_
        by_cases c5 : q3 = 9
        · rw [if_pos c5] at h
          refine xei_eq_t rfl c5 ?_
          refine xeb 3 (pc' := 7) (ls' := [.ref 131, .int (v1 + 1), .int q3, z3, z4, z5, z6, z7]) (st' := []) rfl ?_
          exact ih (v1 + 1) I L h _ _ _ _ _ _
        · rw [if_neg c5] at h
          refine xei_eq_f rfl c5 ?_
          refine xeb 2 (pc' := 52) (ls' := [.ref 131, .int v1, .int q3, z3, z4, z5, z6, z7]) (st' := [.int 10, .int q3]) rfl ?_
          by_cases c6 : q3 = 10
          · rw [if_pos c6] at h
            refine xei_eq_t rfl c6 ?_
            refine xeb 3 (pc' := 7) (ls' := [.ref 131, .int (v1 + 1), .int q3, z3, z4, z5, z6, z7]) (st' := []) rfl ?_
            exact ih (v1 + 1) I L h _ _ _ _ _ _
          · rw [if_neg c6] at h
            refine xei_eq_f rfl c6 ?_
            refine xeb 2 (pc' := 58) (ls' := [.ref 131, .int v1, .int q3, z3, z4, z5, z6, z7]) (st' := [.int 13, .int q3]) rfl ?_
            by_cases c7 : q3 = 13
            · rw [if_pos c7] at h
              refine xei_eq_t rfl c7 ?_
              refine xeb 3 (pc' := 7) (ls' := [.ref 131, .int (v1 + 1), .int q3, z3, z4, z5, z6, z7]) (st' := []) rfl ?_
              exact ih (v1 + 1) I L h _ _ _ _ _ _
            · rw [if_neg c7] at h
              refine xei_eq_f rfl c7 ?_
              refine xeb 2 (pc' := 64) (ls' := [.ref 131, .int v1, .int q3, z3, z4, z5, z6, z7]) (st' := [.int 32, .int q3]) rfl ?_
              by_cases c8 : q3 = 32
              · rw [if_pos c8] at h
                refine xei_ne_t rfl c8 ?_
                refine xeb 3 (pc' := 7) (ls' := [.ref 131, .int (v1 + 1), .int q3, z3, z4, z5, z6, z7]) (st' := []) rfl ?_
                exact ih (v1 + 1) I L h _ _ _ _ _ _
              · rw [if_neg c8] at h
                refine xei_ne_f rfl c8 ?_
                refine xeb 1 (pc' := 74) (ls' := [.ref 131, .int v1, .int q3, z3, z4, z5, z6, z7]) (st' := [.int q3]) rfl ?_
                obtain ⟨q9, eq9, h⟩ := xbind_some h
                refine xcallS20 rfl rfl rfl (Nat.le_of_ble_eq_true rfl) (Nat.le_of_ble_eq_true rfl) (Nat.le_of_ble_eq_true rfl) rfl (g_M_isLetter (d := d + 1) _ eq9) ?_
                by_cases c10 : q9 = 0
                · rw [if_pos c10] at h
                  refine xef_eq_t rfl c10 ?_
                  refine xeb 1 (pc' := 197) (ls' := [.ref 131, .int v1, .int q3, z3, z4, z5, z6, z7]) (st' := [.int q3]) rfl ?_
                  obtain ⟨q11, eq11, h⟩ := xbind_some h
                  refine xcallS20 rfl rfl rfl (Nat.le_of_ble_eq_true rfl) (Nat.le_of_ble_eq_true rfl) (Nat.le_of_ble_eq_true rfl) rfl (g_M_isDigit (d := d + 1) _ eq11) ?_
                  by_cases c12 : q11 = 0
                  · rw [if_pos c12] at h
                    refine xef_eq_t rfl c12 ?_
                    refine xeb 8 (pc' := 283) (ls' := [.ref 131, .int v1, .int q3, z3, z4, z5, z6, z7]) (st' := [.int (v1 + 1), .ref 131, .int q3, .int v1, .ref 131, .int v1]) rfl ?_
                    obtain ⟨q13, eq13, h⟩ := xbind_some h
                    refine xcallV rfl xsh131 rfl rfl rfl (Nat.le_of_ble_eq_true rfl) (Nat.le_of_ble_eq_true rfl) (Nat.le_of_ble_eq_true rfl) rfl (g_M_byteAt (d := d + 1) _ eq13) ?_
                    obtain ⟨q14, eq14, h⟩ := xbind_some h
                    refine xcallV rfl xsh131 rfl rfl rfl (Nat.le_of_ble_eq_true rfl) (Nat.le_of_ble_eq_true rfl) (Nat.le_of_ble_eq_true rfl) rfl (g_M_sign (d := d + 0) _ eq14) ?_
                    refine xeb 3 (pc' := 7) (ls' := [.ref 131, .int (v1 + q14.1), .int q3, z3, z4, z5, z6, z7]) (st' := []) rfl ?_
                    exact ih (v1 + q14.1) q14.2.1 q14.2.2 h _ _ _ _ _ _
                  · rw [if_neg c12] at h
                    refine xef_eq_f rfl c12 ?_
                    refine xeb 4 (pc' := 208) (ls' := [.ref 131, .int v1, .int q3, .int 0, .int 0, z5, z6, z7]) (st' := []) rfl ?_
                    exact g_M_cut_208 (fun v1 I L h' z2 z3 z4 z5 z6 z7 => ih v1 I L h' z2 z3 z4 z5 z6 z7) F v1 0 0 I L h _ _ _ _
                · rw [if_neg c10] at h
                  refine xef_eq_f rfl c10 ?_
                  refine xeb 4 (pc' := 85) (ls' := [.ref 131, .int v1, .int q3, .int 0, .long (0 : Int32).toInt64, .null, z6, z7]) (st' := []) rfl ?_
                  exact g_M_cut_85 (fun v1 I L h' z2 z3 z4 z5 z6 z7 => ih v1 I L h' z2 z3 z4 z5 z6 z7) F v1 0 ((0 : Int32).toInt64) I L h _ _ _ _
      · rw [if_neg c4] at h
        refine xei_lt_f rfl c4 ?_
        refine xeb 3 (pc' := 34) (ls' := [.ref 131, .int v1, .int q3, z3, z4, z5, z6, z7]) (st' := [.ref 131, .int 0, .ref 131]) rfl ?_
        refine xegf0 rfl xsh131 (by decide) ?_
        refine xeb 2 (pc' := 39) (ls' := [.ref 131, .int v1, .int q3, z3, z4, z5, z6, z7]) (st' := [.long (0 : Int32).toInt64, .int 0, .int (I 131 4), .int 0, .ref 131]) rfl ?_
        obtain ⟨q34, eq34, h⟩ := xbind_some h
        refine xcallV rfl xsh131 rfl rfl rfl (Nat.le_of_ble_eq_true rfl) (Nat.le_of_ble_eq_true rfl) (Nat.le_of_ble_eq_true rfl) rfl (g_M_token (d := d + 1) _ eq34) ?_
        obtain rfl := Option.some.inj h
        exact xevret rfl
noncomputable def f_M_cut (F : Nat) (I : XI) (L : XL) : Option (XI × XL) :=
  xst (xput I 131 10 0) fun I1 => f_M_cut_7 F F 0 I1 L
theorem g_M_cut {X : XX} {d : Nat} {F : Nat} {I : XI} {L : XL}  (r : XI × XL) (h : f_M_cut F I L = some r) : xEv X (d + 2) 82 0 [.ref 131, .null, .null, .null, .null, .null, .null, .null] [] I L none r.1 r.2 := by
  rw [f_M_cut] at h
  refine xeb 2 (pc' := 2) (ls' := [.ref 131, .null, .null, .null, .null, .null, .null, .null]) (st' := [.int 0, .ref 131]) rfl ?_
  refine xepf0 rfl xsh131 (by decide) ?_
  obtain ⟨I1, hI1, h⟩ := xst_some h
  rw [← hI1]
  refine xeb 2 (pc' := 7) (ls' := [.ref 131, .int 0, .null, .null, .null, .null, .null, .null]) (st' := []) rfl ?_
  exact g_M_cut_7 F 0 I1 L h _ _ _ _ _ _
noncomputable def f_M_is (I : XI) (a1 : Int32) : Option (Int32) :=
  if (I 131 13) = 0 then (xck (xin (I 131 11) 403) (xck (xnarz (if (I 134 (xN (I 131 11))) = a1 then 1 else 0)) (some (if (I 134 (xN (I 131 11))) = a1 then 1 else 0)))) else (some 0)
theorem g_M_is {X : XX} {d : Nat} {L : XL} {I : XI} {a1 : Int32}  (r : Int32) (h : f_M_is I a1 = some r) : xEv X (d + 0) 83 0 [.ref 131, .int a1] [] I L (some (.int r)) I L := by
  rw [f_M_is] at h
  refine xeb 1 (pc' := 1) (ls' := [.ref 131, .int a1]) (st' := [.ref 131]) rfl ?_
  refine xegf0 rfl xsh131 (by decide) ?_
  by_cases c1 : (I 131 13) = 0
  · rw [if_pos c1] at h
    refine xef_ne_t rfl c1 ?_
    refine xeb 1 (pc' := 8) (ls' := [.ref 131, .int a1]) (st' := [.ref 131]) rfl ?_
    refine xegf2 rfl xsh131 (by decide) rfl ?_
    refine xeb 1 (pc' := 12) (ls' := [.ref 131, .int a1]) (st' := [.ref 131, .ref 134]) rfl ?_
    refine xegf0 rfl xsh131 (by decide) ?_
    obtain ⟨b2, h⟩ := xck_some h
    refine xeia rfl xsh134 b2 ?_
    refine xeb 1 (pc' := 17) (ls' := [.ref 131, .int a1]) (st' := [.int a1, .int (I 134 (xN (I 131 11)))]) rfl ?_
    have hj : xEv X (d + 0) 83 25 [.ref 131, .int a1] [.int (if (I 134 (xN (I 131 11))) = a1 then 1 else 0)] I L (some (.int r)) I L := by
      obtain ⟨b4, h⟩ := xck_some h
      obtain rfl := Option.some.inj h
      exact xeiret rfl b4
    by_cases c3 : (I 134 (xN (I 131 11))) = a1
    · simp only [if_pos c3] at hj
      refine xei_ne_t rfl c3 ?_
      exact xeb 2 rfl hj
    · simp only [if_neg c3] at hj
      refine xei_ne_f rfl c3 ?_
      exact xeb 1 rfl hj
  · rw [if_neg c1] at h
    refine xef_ne_f rfl c1 ?_
    refine xeb 1 (pc' := 25) (ls' := [.ref 131, .int a1]) (st' := [.int 0]) rfl ?_
    obtain rfl := Option.some.inj h
    exact xeiret rfl rfl
noncomputable def f_M_fail (a1 : Int32) (I : XI) : Option (XI) :=
  if (I 131 13) ≤ 0 then (xst (xput I 131 13 a1) fun I2 => xck (xin (I2 131 11) 403) (xst (xput I2 131 14 (I2 135 (xN (I2 131 11)))) fun I4 => some I4)) else (some I)
theorem g_M_fail {X : XX} {d : Nat} {L : XL} {a1 : Int32} {I : XI}  (r : XI) (h : f_M_fail a1 I = some r) : xEv X (d + 0) 84 0 [.ref 131, .int a1] [] I L none r L := by
  rw [f_M_fail] at h
  refine xeb 1 (pc' := 1) (ls' := [.ref 131, .int a1]) (st' := [.ref 131]) rfl ?_
  refine xegf0 rfl xsh131 (by decide) ?_
  by_cases c1 : (I 131 13) ≤ 0
  · rw [if_pos c1] at h
    refine xef_le_t rfl c1 ?_
    refine xeb 2 (pc' := 10) (ls' := [.ref 131, .int a1]) (st' := [.int a1, .ref 131]) rfl ?_
    refine xepf0 rfl xsh131 (by decide) ?_
    obtain ⟨I2, hI2, h⟩ := xst_some h
    rw [← hI2]
    refine xeb 2 (pc' := 15) (ls' := [.ref 131, .int a1]) (st' := [.ref 131, .ref 131]) rfl ?_
    refine xegf2 rfl xsh131 (by decide) rfl ?_
    refine xeb 1 (pc' := 19) (ls' := [.ref 131, .int a1]) (st' := [.ref 131, .ref 135, .ref 131]) rfl ?_
    refine xegf0 rfl xsh131 (by decide) ?_
    obtain ⟨b3, h⟩ := xck_some h
    refine xeia rfl xsh135 b3 ?_
    refine xepf0 rfl xsh131 (by decide) ?_
    obtain ⟨I4, hI4, h⟩ := xst_some h
    rw [← hI4]
    obtain rfl := Option.some.inj h
    exact xevret rfl
  · rw [if_neg c1] at h
    refine xef_le_f rfl c1 ?_
    obtain rfl := Option.some.inj h
    exact xevret rfl
noncomputable def f_M_goesOn (I : XI) : Option (XI) :=
  if (I 131 11) = 400 then ((f_M_fail 2 I).bind fun q2 => some q2) else (xst (xput I 131 11 ((I 131 11) + 1)) fun I3 => some I3)
theorem g_M_goesOn {X : XX} {d : Nat} {L : XL} {I : XI}  (r : XI) (h : f_M_goesOn I = some r) : xEv X (d + 1) 85 0 [.ref 131] [] I L none r L := by
  rw [f_M_goesOn] at h
  refine xeb 1 (pc' := 1) (ls' := [.ref 131]) (st' := [.ref 131]) rfl ?_
  refine xegf0 rfl xsh131 (by decide) ?_
  refine xeb 1 (pc' := 7) (ls' := [.ref 131]) (st' := [.int 400, .int (I 131 11)]) rfl ?_
  by_cases c1 : (I 131 11) = 400
  · rw [if_pos c1] at h
    refine xei_ne_t rfl c1 ?_
    refine xeb 2 (pc' := 12) (ls' := [.ref 131]) (st' := [.int 2, .ref 131]) rfl ?_
    obtain ⟨q2, eq2, h⟩ := xbind_some h
    refine xcallV rfl xsh131 rfl rfl rfl (Nat.le_of_ble_eq_true rfl) (Nat.le_of_ble_eq_true rfl) (Nat.le_of_ble_eq_true rfl) rfl (g_M_fail (d := d + 0) _ eq2) ?_
    refine xeb 1 (pc' := 28) (ls' := [.ref 131]) (st' := []) rfl ?_
    obtain rfl := Option.some.inj h
    exact xevret rfl
  · rw [if_neg c1] at h
    refine xei_ne_f rfl c1 ?_
    refine xeb 2 (pc' := 20) (ls' := [.ref 131]) (st' := [.ref 131, .ref 131]) rfl ?_
    refine xegf0 rfl xsh131 (by decide) ?_
    refine xeb 2 (pc' := 25) (ls' := [.ref 131]) (st' := [.int ((I 131 11) + 1), .ref 131]) rfl ?_
    refine xepf0 rfl xsh131 (by decide) ?_
    obtain ⟨I3, hI3, h⟩ := xst_some h
    rw [← hI3]
    obtain rfl := Option.some.inj h
    exact xevret rfl
noncomputable def f_M_roomFor_10 (I : XI) : Option (XI) :=
  if (I 131 13) = 0 then ((f_M_goesOn I).bind fun q4 => some q4) else (some I)
theorem g_M_roomFor_10 {X : XX} {d : Nat} {L : XL}  {r : XI}  {I : XI} (h : f_M_roomFor_10 I = some r) (z1 : Value) (z2 : Value) : xEv X (d + 2) 86 10 [.ref 131, z1, z2] [] I L none r L := by
  rw [f_M_roomFor_10] at h
  refine xeb 1 (pc' := 11) (ls' := [.ref 131, z1, z2]) (st' := [.ref 131]) rfl ?_
  refine xegf0 rfl xsh131 (by decide) ?_
  by_cases c3 : (I 131 13) = 0
  · rw [if_pos c3] at h
    refine xef_ne_t rfl c3 ?_
    refine xeb 1 (pc' := 18) (ls' := [.ref 131, z1, z2]) (st' := [.ref 131]) rfl ?_
    obtain ⟨q4, eq4, h⟩ := xbind_some h
    refine xcallV rfl xsh131 rfl rfl rfl (Nat.le_of_ble_eq_true rfl) (Nat.le_of_ble_eq_true rfl) (Nat.le_of_ble_eq_true rfl) rfl (g_M_goesOn (d := d + 0) _ eq4) ?_
    obtain rfl := Option.some.inj h
    exact xevret rfl
  · rw [if_neg c3] at h
    refine xef_ne_f rfl c3 ?_
    obtain rfl := Option.some.inj h
    exact xevret rfl
noncomputable def f_M_roomFor (a1 : Int32) (a2 : Int32) (I : XI) : Option (XI) :=
  if a1 = a2 then ((f_M_fail 2 I).bind fun q2 => f_M_roomFor_10 q2) else (f_M_roomFor_10 I)
theorem g_M_roomFor {X : XX} {d : Nat} {L : XL} {a1 : Int32} {a2 : Int32} {I : XI}  (r : XI) (h : f_M_roomFor a1 a2 I = some r) : xEv X (d + 2) 86 0 [.ref 131, .int a1, .int a2] [] I L none r L := by
  rw [f_M_roomFor] at h
  refine xeb 2 (pc' := 2) (ls' := [.ref 131, .int a1, .int a2]) (st' := [.int a2, .int a1]) rfl ?_
  by_cases c1 : a1 = a2
  · rw [if_pos c1] at h
    refine xei_ne_t rfl c1 ?_
    refine xeb 2 (pc' := 7) (ls' := [.ref 131, .int a1, .int a2]) (st' := [.int 2, .ref 131]) rfl ?_
    obtain ⟨q2, eq2, h⟩ := xbind_some h
    refine xcallV rfl xsh131 rfl rfl rfl (Nat.le_of_ble_eq_true rfl) (Nat.le_of_ble_eq_true rfl) (Nat.le_of_ble_eq_true rfl) rfl (g_M_fail (d := d + 1) _ eq2) ?_
    exact g_M_roomFor_10 h _ _
  · rw [if_neg c1] at h
    refine xei_ne_f rfl c1 ?_
    exact g_M_roomFor_10 h _ _
noncomputable def f_M_must (a1 : Int32) (I : XI) : Option (XI) :=
  (f_M_is I a1).bind fun q1 => if q1 = 0 then ((f_M_fail 1 I).bind fun q3 => some q3) else ((f_M_goesOn I).bind fun q4 => some q4)
theorem g_M_must {X : XX} {d : Nat} {L : XL} {a1 : Int32} {I : XI}  (r : XI) (h : f_M_must a1 I = some r) : xEv X (d + 2) 87 0 [.ref 131, .int a1] [] I L none r L := by
  rw [f_M_must] at h
  refine xeb 2 (pc' := 2) (ls' := [.ref 131, .int a1]) (st' := [.int a1, .ref 131]) rfl ?_
  obtain ⟨q1, eq1, h⟩ := xbind_some h
  refine xcallV rfl xsh131 rfl rfl rfl (Nat.le_of_ble_eq_true rfl) (Nat.le_of_ble_eq_true rfl) (Nat.le_of_ble_eq_true rfl) rfl (g_M_is (d := d + 1) _ eq1) ?_
  by_cases c2 : q1 = 0
  · rw [if_pos c2] at h
    refine xef_eq_t rfl c2 ?_
    refine xeb 2 (pc' := 17) (ls' := [.ref 131, .int a1]) (st' := [.int 1, .ref 131]) rfl ?_
    obtain ⟨q3, eq3, h⟩ := xbind_some h
    refine xcallV rfl xsh131 rfl rfl rfl (Nat.le_of_ble_eq_true rfl) (Nat.le_of_ble_eq_true rfl) (Nat.le_of_ble_eq_true rfl) rfl (g_M_fail (d := d + 1) _ eq3) ?_
    obtain rfl := Option.some.inj h
    exact xevret rfl
  · rw [if_neg c2] at h
    refine xef_eq_f rfl c2 ?_
    refine xeb 1 (pc' := 9) (ls' := [.ref 131, .int a1]) (st' := [.ref 131]) rfl ?_
    obtain ⟨q4, eq4, h⟩ := xbind_some h
    refine xcallV rfl xsh131 rfl rfl rfl (Nat.le_of_ble_eq_true rfl) (Nat.le_of_ble_eq_true rfl) (Nat.le_of_ble_eq_true rfl) rfl (g_M_goesOn (d := d + 0) _ eq4) ?_
    refine xeb 1 (pc' := 20) (ls' := [.ref 131, .int a1]) (st' := []) rfl ?_
    obtain rfl := Option.some.inj h
    exact xevret rfl
noncomputable def f_M_lettersIn_4 (F : Nat) : Nat → Int32 → Int64 → Option (Int32)
  | 0, _, _ => none
  | n + 1, v2, v3 =>
    if (lg_cmp v3 ((0 : Int32).toInt64)) ≤ 0 then (some v2) else (f_M_lettersIn_4 F n (v2 + 1) (v3 / (27 : Int32).toInt64))
theorem g_M_lettersIn_4 {X : XX} {d : Nat} {I : XI} {L : XL} {F : Nat}  {r : Int32}  : ∀ (n : Nat) (v2 : Int32) (v3 : Int64), f_M_lettersIn_4 F n v2 v3 = some r → ∀ (z0 : Value) (z1 : Value) (z4 : Value), xEv X (d + 0) 88 4 [z0, z1, .int v2, .long v3, z4] [] I L (some (.int r)) I L := by
  intro n
  induction n with
  | zero => intro v2 v3 h; rw [f_M_lettersIn_4] at h; cases h
  | succ n ih =>
    intro v2 v3 h z0 z1 z4
    rw [f_M_lettersIn_4] at h
    refine xeb 3 (pc' := 7) (ls' := [z0, z1, .int v2, .long v3, z4]) (st' := [.int (lg_cmp v3 ((0 : Int32).toInt64))]) rfl ?_
    by_cases c1 : (lg_cmp v3 ((0 : Int32).toInt64)) ≤ 0
    · rw [if_pos c1] at h
      refine xef_le_t rfl c1 ?_
      refine xeb 1 (pc' := 23) (ls' := [z0, z1, .int v2, .long v3, z4]) (st' := [.int v2]) rfl ?_
      obtain rfl := Option.some.inj h
      exact xeiret rfl rfl
    · rw [if_neg c1] at h
      refine xef_le_f rfl c1 ?_
      refine xeb 6 (pc' := 4) (ls' := [z0, (xkv z1), .int (v2 + 1), .long (v3 / (27 : Int32).toInt64), .null]) (st' := []) rfl ?_
      exact ih (v2 + 1) (v3 / (27 : Int32).toInt64) h _ _ _
noncomputable def f_M_lettersIn (F : Nat) (a0 : Int64) : Option (Int32) :=
  f_M_lettersIn_4 F F 0 a0
theorem g_M_lettersIn {X : XX} {d : Nat} {I : XI} {L : XL} {F : Nat} {a0 : Int64}  (r : Int32) (h : f_M_lettersIn F a0 = some r) : xEv X (d + 0) 88 0 [.long a0, .null, .null, .null, .null] [] I L (some (.int r)) I L := by
  rw [f_M_lettersIn] at h
  refine xeb 4 (pc' := 4) (ls' := [.long a0, .null, .int 0, .long a0, .null]) (st' := []) rfl ?_
  exact g_M_lettersIn_4 F 0 a0 h _ _ _
noncomputable def f_M_letterIn_10 (F : Nat) : Nat → Int32 → Int64 → Int32 → Option (Int32)
  | 0, _, _, _ => none
  | n + 1, v2, v3, v5 =>
    if v5 ≤ v2 then (some ((Int64.toInt32 (v3 - v3 / (27 : Int32).toInt64 * (27 : Int32).toInt64)) - 1)) else (f_M_letterIn_10 F n v2 (v3 / (27 : Int32).toInt64) (v5 + (-1)))
theorem g_M_letterIn_10 {X : XX} {d : Nat} {I : XI} {L : XL} {F : Nat}  {r : Int32}  : ∀ (n : Nat) (v2 : Int32) (v3 : Int64) (v5 : Int32), f_M_letterIn_10 F n v2 v3 v5 = some r → ∀ (z0 : Value) (z1 : Value) (z4 : Value), xEv X (d + 1) 89 10 [z0, z1, .int v2, .long v3, z4, .int v5] [] I L (some (.int r)) I L := by
  intro n
  induction n with
  | zero => intro v2 v3 v5 h; rw [f_M_letterIn_10] at h; cases h
  | succ n ih =>
    intro v2 v3 v5 h z0 z1 z4
    rw [f_M_letterIn_10] at h
    refine xeb 2 (pc' := 13) (ls' := [z0, z1, .int v2, .long v3, z4, .int v5]) (st' := [.int v2, .int v5]) rfl ?_
    by_cases c2 : v5 ≤ v2
    · rw [if_pos c2] at h
      refine xei_le_t rfl c2 ?_
      refine xeb 6 (pc' := 36) (ls' := [z0, z1, .int v2, .long v3, z4, .int v5]) (st' := [.int ((Int64.toInt32 (v3 - v3 / (27 : Int32).toInt64 * (27 : Int32).toInt64)) - 1)]) rfl ?_
      obtain rfl := Option.some.inj h
      exact xeiret rfl rfl
    · rw [if_neg c2] at h
      refine xei_le_f rfl c2 ?_
      refine xeb 6 (pc' := 10) (ls' := [z0, z1, .int v2, .long (v3 / (27 : Int32).toInt64), .null, .int (v5 + (-1))]) (st' := []) rfl ?_
      exact ih v2 (v3 / (27 : Int32).toInt64) (v5 + (-1)) h _ _ _
noncomputable def f_M_letterIn (F : Nat) (a0 : Int64) (a2 : Int32) : Option (Int32) :=
  (f_M_lettersIn F a0).bind fun q1 => f_M_letterIn_10 F F a2 a0 (q1 - 1)
theorem g_M_letterIn {X : XX} {d : Nat} {I : XI} {L : XL} {F : Nat} {a0 : Int64} {a2 : Int32}  (r : Int32) (h : f_M_letterIn F a0 a2 = some r) : xEv X (d + 1) 89 0 [.long a0, .null, .int a2, .null, .null, .null] [] I L (some (.int r)) I L := by
  rw [f_M_letterIn] at h
  refine xeb 3 (pc' := 3) (ls' := [.long a0, .null, .int a2, .long a0, .null, .null]) (st' := [.long a0]) rfl ?_
  obtain ⟨q1, eq1, h⟩ := xbind_some h
  refine xcallS20 rfl rfl rfl (Nat.le_of_ble_eq_true rfl) (Nat.le_of_ble_eq_true rfl) (Nat.le_of_ble_eq_true rfl) rfl (g_M_lettersIn (d := d + 0) _ eq1) ?_
  refine xeb 3 (pc' := 10) (ls' := [.long a0, .null, .int a2, .long a0, .null, .int (q1 - 1)]) (st' := []) rfl ?_
  exact g_M_letterIn_10 F a2 a0 (q1 - 1) h _ _ _
