/-! the methods as functions, and that a run answers so (by gen6.py) -/
noncomputable def f_H_knob (I : XI) (a1 : Int32) (a2 : Int32) (a3 : Int32) : Option (Int32) :=
  (f_Table_cellAt 17 I a1 a2).bind fun q1 => if q1 = (-1) then (some (-100)) else ((f_H_isSide a3).bind fun q3 => if q3 = 0 then (some (-100)) else ((f_Board_hasKnobs 26 I q1).bind fun q5 => if q5 = 0 then (some (-100)) else (xck (xin q1 30) ((f_Board_knobOf I (I 27 (xN q1)) q1 a3).bind fun q8 => some q8))))
theorem g_H_knob {X : XX} {d : Nat} {L : XL} {I : XI} {a1 : Int32} {a2 : Int32} {a3 : Int32}  (r : Int32) (h : f_H_knob I a1 a2 a3 = some r) : xEv X (d + 2) 142 0 [.ref 0, .int a1, .int a2, .int a3, .null] [] I L (some (.int r)) I L := by
  rw [f_H_knob] at h
  refine xeb 1 (pc' := 1) (ls' := [.ref 0, .int a1, .int a2, .int a3, .null]) (st' := [.ref 0]) rfl ?_
  refine xegf2 rfl xsh0 (by decide) rfl ?_
  refine xeb 2 (pc' := 6) (ls' := [.ref 0, .int a1, .int a2, .int a3, .null]) (st' := [.int a2, .int a1, .ref 17]) rfl ?_
  obtain ⟨q1, eq1, h⟩ := xbind_some h
  refine xcallV rfl xsh17 rfl rfl rfl (Nat.le_of_ble_eq_true rfl) (Nat.le_of_ble_eq_true rfl) (Nat.le_of_ble_eq_true rfl) rfl (g_Table_cellAt (d := d + 1) xis17 _ eq1) ?_
  refine xeb 3 (pc' := 14) (ls' := [.ref 0, .int a1, .int a2, .int a3, .int q1]) (st' := [.int (-1), .int q1]) rfl ?_
  by_cases c2 : q1 = (-1)
  · rw [if_pos c2] at h
    refine xei_eq_t rfl c2 ?_
    refine xeb 1 (pc' := 26) (ls' := [.ref 0, .int a1, .int a2, .int a3, .int q1]) (st' := [.int (-100)]) rfl ?_
    obtain rfl := Option.some.inj h
    exact xeiret rfl rfl
  · rw [if_neg c2] at h
    refine xei_eq_f rfl c2 ?_
    refine xeb 1 (pc' := 18) (ls' := [.ref 0, .int a1, .int a2, .int a3, .int q1]) (st' := [.int a3]) rfl ?_
    obtain ⟨q3, eq3, h⟩ := xbind_some h
    refine xcallS20 rfl rfl rfl (Nat.le_of_ble_eq_true rfl) (Nat.le_of_ble_eq_true rfl) (Nat.le_of_ble_eq_true rfl) rfl (g_H_isSide (d := d + 1) _ eq3) ?_
    by_cases c4 : q3 = 0
    · rw [if_pos c4] at h
      refine xef_ne_t rfl c4 ?_
      refine xeb 1 (pc' := 26) (ls' := [.ref 0, .int a1, .int a2, .int a3, .int q1]) (st' := [.int (-100)]) rfl ?_
      obtain rfl := Option.some.inj h
      exact xeiret rfl rfl
    · rw [if_neg c4] at h
      refine xef_ne_f rfl c4 ?_
      refine xeb 1 (pc' := 28) (ls' := [.ref 0, .int a1, .int a2, .int a3, .int q1]) (st' := [.ref 0]) rfl ?_
      refine xegf2 rfl xsh0 (by decide) rfl ?_
      refine xeb 1 (pc' := 32) (ls' := [.ref 0, .int a1, .int a2, .int a3, .int q1]) (st' := [.ref 0, .ref 30]) rfl ?_
      refine xegf2 rfl xsh0 (by decide) rfl ?_
      refine xeb 1 (pc' := 37) (ls' := [.ref 0, .int a1, .int a2, .int a3, .int q1]) (st' := [.int q1, .ref 26, .ref 30]) rfl ?_
      obtain ⟨q5, eq5, h⟩ := xbind_some h
      refine xcallV rfl xsh30 rfl rfl rfl (Nat.le_of_ble_eq_true rfl) (Nat.le_of_ble_eq_true rfl) (Nat.le_of_ble_eq_true rfl) rfl (g_Board_hasKnobs (d := d + 0) xis26 _ eq5) ?_
      by_cases c6 : q5 = 0
      · rw [if_pos c6] at h
        refine xef_eq_t rfl c6 ?_
        refine xeb 1 (pc' := 68) (ls' := [.ref 0, .int a1, .int a2, .int a3, .int q1]) (st' := [.int (-100)]) rfl ?_
        obtain rfl := Option.some.inj h
        exact xeiret rfl rfl
      · rw [if_neg c6] at h
        refine xef_eq_f rfl c6 ?_
        refine xeb 1 (pc' := 44) (ls' := [.ref 0, .int a1, .int a2, .int a3, .int q1]) (st' := [.ref 0]) rfl ?_
        refine xegf2 rfl xsh0 (by decide) rfl ?_
        refine xeb 1 (pc' := 48) (ls' := [.ref 0, .int a1, .int a2, .int a3, .int q1]) (st' := [.ref 0, .ref 30]) rfl ?_
        refine xegf2 rfl xsh0 (by decide) rfl ?_
        refine xegf12 rfl xsh26 (by decide) rfl ?_
        refine xeb 1 (pc' := 56) (ls' := [.ref 0, .int a1, .int a2, .int a3, .int q1]) (st' := [.int q1, .ref 27, .ref 30]) rfl ?_
        obtain ⟨b7, h⟩ := xck_some h
        refine xeia rfl xsh27 b7 ?_
        refine xeb 2 (pc' := 60) (ls' := [.ref 0, .int a1, .int a2, .int a3, .int q1]) (st' := [.int a3, .int q1, .int (I 27 (xN q1)), .ref 30]) rfl ?_
        obtain ⟨q8, eq8, h⟩ := xbind_some h
        refine xcallV rfl xsh30 rfl rfl rfl (Nat.le_of_ble_eq_true rfl) (Nat.le_of_ble_eq_true rfl) (Nat.le_of_ble_eq_true rfl) rfl (g_Board_knobOf (d := d + 0) _ eq8) ?_
        refine xeb 1 (pc' := 68) (ls' := [.ref 0, .int a1, .int a2, .int a3, .int q1]) (st' := [.int q8]) rfl ?_
        obtain rfl := Option.some.inj h
        exact xeiret rfl rfl
noncomputable def f_M_isSide (a0 : Int32) : Option (Int32) :=
  (f_M_in a0 0 3).bind fun q1 => xck (xnarz q1) (some q1)
theorem g_M_isSide {X : XX} {d : Nat} {I : XI} {L : XL} {a0 : Int32}  (r : Int32) (h : f_M_isSide a0 = some r) : xEv X (d + 1) 143 0 [.int a0] [] I L (some (.int r)) I L := by
  rw [f_M_isSide] at h
  refine xeb 3 (pc' := 3) (ls' := [.int a0]) (st' := [.int 3, .int 0, .int a0]) rfl ?_
  obtain ⟨q1, eq1, h⟩ := xbind_some h
  refine xcallS20 rfl rfl rfl (Nat.le_of_ble_eq_true rfl) (Nat.le_of_ble_eq_true rfl) (Nat.le_of_ble_eq_true rfl) rfl (g_M_in (d := d + 0) _ eq1) ?_
  obtain ⟨b2, h⟩ := xck_some h
  obtain rfl := Option.some.inj h
  exact xeiret rfl b2
noncomputable def f_M_hasKnobs (I : XI) (a1 : Int32) : Option (Int32) :=
  (f_M_isHole I a1).bind fun q1 => if q1 = 0 then (some 1) else (xck (xin a1 33) (xck (xnarz (if (I 163 (xN a1)) ≤ 0 then 0 else 1)) (some (if (I 163 (xN a1)) ≤ 0 then 0 else 1))))
theorem g_M_hasKnobs {X : XX} {d : Nat} {L : XL} {I : XI} {a1 : Int32}  (r : Int32) (h : f_M_hasKnobs I a1 = some r) : xEv X (d + 2) 144 0 [.ref 131, .int a1] [] I L (some (.int r)) I L := by
  rw [f_M_hasKnobs] at h
  refine xeb 2 (pc' := 2) (ls' := [.ref 131, .int a1]) (st' := [.int a1, .ref 131]) rfl ?_
  obtain ⟨q1, eq1, h⟩ := xbind_some h
  refine xcallV rfl xsh131 rfl rfl rfl (Nat.le_of_ble_eq_true rfl) (Nat.le_of_ble_eq_true rfl) (Nat.le_of_ble_eq_true rfl) rfl (g_M_isHole (d := d + 0) _ eq1) ?_
  by_cases c2 : q1 = 0
  · rw [if_pos c2] at h
    refine xef_eq_t rfl c2 ?_
    refine xeb 2 (pc' := 22) (ls' := [.ref 131, .int a1]) (st' := [.int 1]) rfl ?_
    obtain rfl := Option.some.inj h
    exact xeiret rfl rfl
  · rw [if_neg c2] at h
    refine xef_eq_f rfl c2 ?_
    refine xeb 1 (pc' := 9) (ls' := [.ref 131, .int a1]) (st' := [.ref 131]) rfl ?_
    refine xegf2 rfl xsh131 (by decide) rfl ?_
    refine xeb 1 (pc' := 13) (ls' := [.ref 131, .int a1]) (st' := [.int a1, .ref 163]) rfl ?_
    obtain ⟨b3, h⟩ := xck_some h
    refine xeia rfl xsh163 b3 ?_
    have hj : xEv X (d + 2) 144 22 [.ref 131, .int a1] [.int (if (I 163 (xN a1)) ≤ 0 then 0 else 1)] I L (some (.int r)) I L := by
      obtain ⟨b5, h⟩ := xck_some h
      obtain rfl := Option.some.inj h
      exact xeiret rfl b5
    by_cases c4 : (I 163 (xN a1)) ≤ 0
    · simp only [if_pos c4] at hj
      refine xef_le_t rfl c4 ?_
      exact xeb 1 rfl hj
    · simp only [if_neg c4] at hj
      refine xef_le_f rfl c4 ?_
      exact xeb 2 rfl hj
noncomputable def f_M_knob (F : Nat) (a1 : Int32) (a2 : Int32) (a3 : Int32) (I : XI) : Option (Int32 × XI) :=
  (f_M_isCell I a1 a2).bind fun q1 => if q1 = 0 then (some ((-100), I)) else ((f_M_isSide a3).bind fun q3 => if q3 = 0 then (some ((-100), I)) else ((f_M_copies F I).bind fun q5 => (f_M_hasKnobs q5 ((6 * a2) + a1)).bind fun q6 => if q6 = 0 then (some ((-100), q5)) else ((f_M_knobOf q5 ((6 * a2) + a1) a3).bind fun q8 => some (q8, q5))))
theorem g_M_knob {X : XX} {d : Nat} {L : XL} {F : Nat} {a1 : Int32} {a2 : Int32} {a3 : Int32} {I : XI}  (r : Int32 × XI) (h : f_M_knob F a1 a2 a3 I = some r) : xEv X (d + 3) 145 0 [.ref 131, .int a1, .int a2, .int a3] [] I L (some (.int r.1)) r.2 L := by
  rw [f_M_knob] at h
  refine xeb 3 (pc' := 3) (ls' := [.ref 131, .int a1, .int a2, .int a3]) (st' := [.int a2, .int a1, .ref 131]) rfl ?_
  obtain ⟨q1, eq1, h⟩ := xbind_some h
  refine xcallV rfl xsh131 rfl rfl rfl (Nat.le_of_ble_eq_true rfl) (Nat.le_of_ble_eq_true rfl) (Nat.le_of_ble_eq_true rfl) rfl (g_M_isCell (d := d + 1) _ eq1) ?_
  by_cases c2 : q1 = 0
  · rw [if_pos c2] at h
    refine xef_eq_t rfl c2 ?_
    refine xeb 1 (pc' := 18) (ls' := [.ref 131, .int a1, .int a2, .int a3]) (st' := [.int (-100)]) rfl ?_
    obtain rfl := Option.some.inj h
    exact xeiret rfl rfl
  · rw [if_neg c2] at h
    refine xef_eq_f rfl c2 ?_
    refine xeb 1 (pc' := 10) (ls' := [.ref 131, .int a1, .int a2, .int a3]) (st' := [.int a3]) rfl ?_
    obtain ⟨q3, eq3, h⟩ := xbind_some h
    refine xcallS20 rfl rfl rfl (Nat.le_of_ble_eq_true rfl) (Nat.le_of_ble_eq_true rfl) (Nat.le_of_ble_eq_true rfl) rfl (g_M_isSide (d := d + 1) _ eq3) ?_
    by_cases c4 : q3 = 0
    · rw [if_pos c4] at h
      refine xef_ne_t rfl c4 ?_
      refine xeb 1 (pc' := 18) (ls' := [.ref 131, .int a1, .int a2, .int a3]) (st' := [.int (-100)]) rfl ?_
      obtain rfl := Option.some.inj h
      exact xeiret rfl rfl
    · rw [if_neg c4] at h
      refine xef_ne_f rfl c4 ?_
      refine xeb 1 (pc' := 20) (ls' := [.ref 131, .int a1, .int a2, .int a3]) (st' := [.ref 131]) rfl ?_
      obtain ⟨q5, eq5, h⟩ := xbind_some h
      refine xcallV rfl xsh131 rfl rfl rfl (Nat.le_of_ble_eq_true rfl) (Nat.le_of_ble_eq_true rfl) (Nat.le_of_ble_eq_true rfl) rfl (g_M_copies (d := d + 2) _ eq5) ?_
      refine xeb 6 (pc' := 30) (ls' := [.ref 131, .int a1, .int a2, .int a3]) (st' := [.int ((6 * a2) + a1), .ref 131]) rfl ?_
      obtain ⟨q6, eq6, h⟩ := xbind_some h
      refine xcallV rfl xsh131 rfl rfl rfl (Nat.le_of_ble_eq_true rfl) (Nat.le_of_ble_eq_true rfl) (Nat.le_of_ble_eq_true rfl) rfl (g_M_hasKnobs (d := d + 0) _ eq6) ?_
      by_cases c7 : q6 = 0
      · rw [if_pos c7] at h
        refine xef_eq_t rfl c7 ?_
        refine xeb 1 (pc' := 52) (ls' := [.ref 131, .int a1, .int a2, .int a3]) (st' := [.int (-100)]) rfl ?_
        obtain rfl := Option.some.inj h
        exact xeiret rfl rfl
      · rw [if_neg c7] at h
        refine xef_eq_f rfl c7 ?_
        refine xeb 7 (pc' := 44) (ls' := [.ref 131, .int a1, .int a2, .int a3]) (st' := [.int a3, .int ((6 * a2) + a1), .ref 131]) rfl ?_
        obtain ⟨q8, eq8, h⟩ := xbind_some h
        refine xcallV rfl xsh131 rfl rfl rfl (Nat.le_of_ble_eq_true rfl) (Nat.le_of_ble_eq_true rfl) (Nat.le_of_ble_eq_true rfl) rfl (g_M_knobOf (d := d + 0) _ eq8) ?_
        refine xeb 1 (pc' := 52) (ls' := [.ref 131, .int a1, .int a2, .int a3]) (st' := [.int q8]) rfl ?_
        obtain rfl := Option.some.inj h
        exact xeiret rfl rfl
noncomputable def f_Table_hasSpare (S0 : Nat) (I : XI) (a1 : Int32) : Option (Int32) :=
  if a1 < 0 then (some 0) else (xck (xnarz (if (I S0 2) ≤ a1 then 0 else 1)) (some (if (I S0 2) ≤ a1 then 0 else 1)))
theorem g_Table_hasSpare {X : XX} {d : Nat} {L : XL} {S0 : Nat} {I : XI} {a1 : Int32} (hS0 : xisTb S0) (r : Int32) (h : f_Table_hasSpare S0 I a1 = some r) : xEv X (d + 0) 146 0 [.ref S0, .int a1] [] I L (some (.int r)) I L := by
  rw [f_Table_hasSpare] at h
  refine xeb 1 (pc' := 1) (ls' := [.ref S0, .int a1]) (st' := [.int a1]) rfl ?_
  by_cases c1 : a1 < 0
  · rw [if_pos c1] at h
    refine xef_lt_t rfl c1 ?_
    refine xeb 1 (pc' := 17) (ls' := [.ref S0, .int a1]) (st' := [.int 0]) rfl ?_
    obtain rfl := Option.some.inj h
    exact xeiret rfl rfl
  · rw [if_neg c1] at h
    refine xef_lt_f rfl c1 ?_
    refine xeb 2 (pc' := 6) (ls' := [.ref S0, .int a1]) (st' := [.ref S0, .int a1]) rfl ?_
    refine xegf0 rfl hS0.1 (by decide) ?_
    have hj : xEv X (d + 0) 146 17 [.ref S0, .int a1] [.int (if (I S0 2) ≤ a1 then 0 else 1)] I L (some (.int r)) I L := by
      obtain ⟨b3, h⟩ := xck_some h
      obtain rfl := Option.some.inj h
      exact xeiret rfl b3
    by_cases c2 : (I S0 2) ≤ a1
    · simp only [if_pos c2] at hj
      refine xei_ge_t rfl c2 ?_
      exact xeb 1 rfl hj
    · simp only [if_neg c2] at hj
      refine xei_ge_f rfl c2 ?_
      exact xeb 2 rfl hj
noncomputable def f_H_isTurn (a0 : Int32) : Option (Int32) :=
  if a0 < 0 then (some 0) else (xck (xnarz (if 4 ≤ a0 then 0 else 1)) (some (if 4 ≤ a0 then 0 else 1)))
theorem g_H_isTurn {X : XX} {d : Nat} {I : XI} {L : XL} {a0 : Int32}  (r : Int32) (h : f_H_isTurn a0 = some r) : xEv X (d + 0) 147 0 [.int a0] [] I L (some (.int r)) I L := by
  rw [f_H_isTurn] at h
  refine xeb 1 (pc' := 1) (ls' := [.int a0]) (st' := [.int a0]) rfl ?_
  by_cases c1 : a0 < 0
  · rw [if_pos c1] at h
    refine xef_lt_t rfl c1 ?_
    refine xeb 1 (pc' := 14) (ls' := [.int a0]) (st' := [.int 0]) rfl ?_
    obtain rfl := Option.some.inj h
    exact xeiret rfl rfl
  · rw [if_neg c1] at h
    refine xef_lt_f rfl c1 ?_
    refine xeb 2 (pc' := 6) (ls' := [.int a0]) (st' := [.int 4, .int a0]) rfl ?_
    have hj : xEv X (d + 0) 147 14 [.int a0] [.int (if 4 ≤ a0 then 0 else 1)] I L (some (.int r)) I L := by
      obtain ⟨b3, h⟩ := xck_some h
      obtain rfl := Option.some.inj h
      exact xeiret rfl b3
    by_cases c2 : 4 ≤ a0
    · simp only [if_pos c2] at hj
      refine xei_ge_t rfl c2 ?_
      exact xeb 1 rfl hj
    · simp only [if_neg c2] at hj
      refine xei_ge_f rfl c2 ?_
      exact xeb 2 rfl hj
noncomputable def f_H_spare (I : XI) (a1 : Int32) (a2 : Int32) (a3 : Int32) : Option (Int32) :=
  (f_Table_hasSpare 17 I a1).bind fun q1 => if q1 = 0 then (some (-100)) else ((f_H_isTurn a2).bind fun q3 => if q3 = 0 then (some (-100)) else ((f_H_isSide a3).bind fun q5 => if q5 = 0 then (some (-100)) else ((f_Table_spareKnob 17 I a1 a2 a3).bind fun q7 => some q7)))
theorem g_H_spare {X : XX} {d : Nat} {L : XL} {I : XI} {a1 : Int32} {a2 : Int32} {a3 : Int32}  (r : Int32) (h : f_H_spare I a1 a2 a3 = some r) : xEv X (d + 1) 148 0 [.ref 0, .int a1, .int a2, .int a3] [] I L (some (.int r)) I L := by
  rw [f_H_spare] at h
  refine xeb 1 (pc' := 1) (ls' := [.ref 0, .int a1, .int a2, .int a3]) (st' := [.ref 0]) rfl ?_
  refine xegf2 rfl xsh0 (by decide) rfl ?_
  refine xeb 1 (pc' := 5) (ls' := [.ref 0, .int a1, .int a2, .int a3]) (st' := [.int a1, .ref 17]) rfl ?_
  obtain ⟨q1, eq1, h⟩ := xbind_some h
  refine xcallV rfl xsh17 rfl rfl rfl (Nat.le_of_ble_eq_true rfl) (Nat.le_of_ble_eq_true rfl) (Nat.le_of_ble_eq_true rfl) rfl (g_Table_hasSpare (d := d + 0) xis17 _ eq1) ?_
  by_cases c2 : q1 = 0
  · rw [if_pos c2] at h
    refine xef_eq_t rfl c2 ?_
    refine xeb 1 (pc' := 27) (ls' := [.ref 0, .int a1, .int a2, .int a3]) (st' := [.int (-100)]) rfl ?_
    obtain rfl := Option.some.inj h
    exact xeiret rfl rfl
  · rw [if_neg c2] at h
    refine xef_eq_f rfl c2 ?_
    refine xeb 1 (pc' := 12) (ls' := [.ref 0, .int a1, .int a2, .int a3]) (st' := [.int a2]) rfl ?_
    obtain ⟨q3, eq3, h⟩ := xbind_some h
    refine xcallS20 rfl rfl rfl (Nat.le_of_ble_eq_true rfl) (Nat.le_of_ble_eq_true rfl) (Nat.le_of_ble_eq_true rfl) rfl (g_H_isTurn (d := d + 0) _ eq3) ?_
    by_cases c4 : q3 = 0
    · rw [if_pos c4] at h
      refine xef_eq_t rfl c4 ?_
      refine xeb 1 (pc' := 27) (ls' := [.ref 0, .int a1, .int a2, .int a3]) (st' := [.int (-100)]) rfl ?_
      obtain rfl := Option.some.inj h
      exact xeiret rfl rfl
    · rw [if_neg c4] at h
      refine xef_eq_f rfl c4 ?_
      refine xeb 1 (pc' := 19) (ls' := [.ref 0, .int a1, .int a2, .int a3]) (st' := [.int a3]) rfl ?_
      obtain ⟨q5, eq5, h⟩ := xbind_some h
      refine xcallS20 rfl rfl rfl (Nat.le_of_ble_eq_true rfl) (Nat.le_of_ble_eq_true rfl) (Nat.le_of_ble_eq_true rfl) rfl (g_H_isSide (d := d + 0) _ eq5) ?_
      by_cases c6 : q5 = 0
      · rw [if_pos c6] at h
        refine xef_ne_t rfl c6 ?_
        refine xeb 1 (pc' := 27) (ls' := [.ref 0, .int a1, .int a2, .int a3]) (st' := [.int (-100)]) rfl ?_
        obtain rfl := Option.some.inj h
        exact xeiret rfl rfl
      · rw [if_neg c6] at h
        refine xef_ne_f rfl c6 ?_
        refine xeb 1 (pc' := 29) (ls' := [.ref 0, .int a1, .int a2, .int a3]) (st' := [.ref 0]) rfl ?_
        refine xegf2 rfl xsh0 (by decide) rfl ?_
        refine xeb 3 (pc' := 35) (ls' := [.ref 0, .int a1, .int a2, .int a3]) (st' := [.int a3, .int a2, .int a1, .ref 17]) rfl ?_
        obtain ⟨q7, eq7, h⟩ := xbind_some h
        refine xcallV rfl xsh17 rfl rfl rfl (Nat.le_of_ble_eq_true rfl) (Nat.le_of_ble_eq_true rfl) (Nat.le_of_ble_eq_true rfl) rfl (g_Table_spareKnob (d := d + 0) xis17 _ eq7) ?_
        obtain rfl := Option.some.inj h
        exact xeiret rfl rfl
noncomputable def f_M_isSpare (I : XI) (a1 : Int32) : Option (Int32) :=
  xck (xin (I 131 18) 2) ((f_M_in a1 0 ((I 146 (xN (I 131 18))) - 1)).bind fun q2 => xck (xnarz q2) (some q2))
theorem g_M_isSpare {X : XX} {d : Nat} {L : XL} {I : XI} {a1 : Int32}  (r : Int32) (h : f_M_isSpare I a1 = some r) : xEv X (d + 1) 149 0 [.ref 131, .int a1] [] I L (some (.int r)) I L := by
  rw [f_M_isSpare] at h
  refine xeb 3 (pc' := 3) (ls' := [.ref 131, .int a1]) (st' := [.ref 131, .int 0, .int a1]) rfl ?_
  refine xegf2 rfl xsh131 (by decide) rfl ?_
  refine xeb 1 (pc' := 7) (ls' := [.ref 131, .int a1]) (st' := [.ref 131, .ref 146, .int 0, .int a1]) rfl ?_
  refine xegf0 rfl xsh131 (by decide) ?_
  obtain ⟨b1, h⟩ := xck_some h
  refine xeia rfl xsh146 b1 ?_
  refine xeb 2 (pc' := 13) (ls' := [.ref 131, .int a1]) (st' := [.int ((I 146 (xN (I 131 18))) - 1), .int 0, .int a1]) rfl ?_
  obtain ⟨q2, eq2, h⟩ := xbind_some h
  refine xcallS20 rfl rfl rfl (Nat.le_of_ble_eq_true rfl) (Nat.le_of_ble_eq_true rfl) (Nat.le_of_ble_eq_true rfl) rfl (g_M_in (d := d + 0) _ eq2) ?_
  obtain ⟨b3, h⟩ := xck_some h
  obtain rfl := Option.some.inj h
  exact xeiret rfl b3
noncomputable def f_M_spare (I : XI) (a1 : Int32) (a2 : Int32) (a3 : Int32) : Option (Int32) :=
  (f_M_isSpare I a1).bind fun q1 => if q1 = 0 then (some (-100)) else ((f_M_isSide a2).bind fun q3 => if q3 = 0 then (some (-100)) else ((f_M_isSide a3).bind fun q5 => if q5 = 0 then (some (-100)) else ((f_M_turned I a1 a2 a3).bind fun q7 => some q7)))
theorem g_M_spare {X : XX} {d : Nat} {L : XL} {I : XI} {a1 : Int32} {a2 : Int32} {a3 : Int32}  (r : Int32) (h : f_M_spare I a1 a2 a3 = some r) : xEv X (d + 2) 150 0 [.ref 131, .int a1, .int a2, .int a3] [] I L (some (.int r)) I L := by
  rw [f_M_spare] at h
  refine xeb 2 (pc' := 2) (ls' := [.ref 131, .int a1, .int a2, .int a3]) (st' := [.int a1, .ref 131]) rfl ?_
  obtain ⟨q1, eq1, h⟩ := xbind_some h
  refine xcallV rfl xsh131 rfl rfl rfl (Nat.le_of_ble_eq_true rfl) (Nat.le_of_ble_eq_true rfl) (Nat.le_of_ble_eq_true rfl) rfl (g_M_isSpare (d := d + 0) _ eq1) ?_
  by_cases c2 : q1 = 0
  · rw [if_pos c2] at h
    refine xef_eq_t rfl c2 ?_
    refine xeb 1 (pc' := 34) (ls' := [.ref 131, .int a1, .int a2, .int a3]) (st' := [.int (-100)]) rfl ?_
    obtain rfl := Option.some.inj h
    exact xeiret rfl rfl
  · rw [if_neg c2] at h
    refine xef_eq_f rfl c2 ?_
    refine xeb 1 (pc' := 9) (ls' := [.ref 131, .int a1, .int a2, .int a3]) (st' := [.int a2]) rfl ?_
    obtain ⟨q3, eq3, h⟩ := xbind_some h
    refine xcallS20 rfl rfl rfl (Nat.le_of_ble_eq_true rfl) (Nat.le_of_ble_eq_true rfl) (Nat.le_of_ble_eq_true rfl) rfl (g_M_isSide (d := d + 0) _ eq3) ?_
    by_cases c4 : q3 = 0
    · rw [if_pos c4] at h
      refine xef_eq_t rfl c4 ?_
      refine xeb 1 (pc' := 34) (ls' := [.ref 131, .int a1, .int a2, .int a3]) (st' := [.int (-100)]) rfl ?_
      obtain rfl := Option.some.inj h
      exact xeiret rfl rfl
    · rw [if_neg c4] at h
      refine xef_eq_f rfl c4 ?_
      refine xeb 1 (pc' := 16) (ls' := [.ref 131, .int a1, .int a2, .int a3]) (st' := [.int a3]) rfl ?_
      obtain ⟨q5, eq5, h⟩ := xbind_some h
      refine xcallS20 rfl rfl rfl (Nat.le_of_ble_eq_true rfl) (Nat.le_of_ble_eq_true rfl) (Nat.le_of_ble_eq_true rfl) rfl (g_M_isSide (d := d + 0) _ eq5) ?_
      by_cases c6 : q5 = 0
      · rw [if_pos c6] at h
        refine xef_eq_t rfl c6 ?_
        refine xeb 1 (pc' := 34) (ls' := [.ref 131, .int a1, .int a2, .int a3]) (st' := [.int (-100)]) rfl ?_
        obtain rfl := Option.some.inj h
        exact xeiret rfl rfl
      · rw [if_neg c6] at h
        refine xef_eq_f rfl c6 ?_
        refine xeb 4 (pc' := 26) (ls' := [.ref 131, .int a1, .int a2, .int a3]) (st' := [.int a3, .int a2, .int a1, .ref 131]) rfl ?_
        obtain ⟨q7, eq7, h⟩ := xbind_some h
        refine xcallV rfl xsh131 rfl rfl rfl (Nat.le_of_ble_eq_true rfl) (Nat.le_of_ble_eq_true rfl) (Nat.le_of_ble_eq_true rfl) rfl (g_M_turned (d := d + 1) _ eq7) ?_
        refine xeb 1 (pc' := 34) (ls' := [.ref 131, .int a1, .int a2, .int a3]) (st' := [.int q7]) rfl ?_
        obtain rfl := Option.some.inj h
        exact xeiret rfl rfl
noncomputable def f_H_isLand (a0 : Int32) : Option (Int32) :=
  if a0 < 0 then (some 0) else (xck (xnarz (if 5 ≤ a0 then 0 else 1)) (some (if 5 ≤ a0 then 0 else 1)))
theorem g_H_isLand {X : XX} {d : Nat} {I : XI} {L : XL} {a0 : Int32}  (r : Int32) (h : f_H_isLand a0 = some r) : xEv X (d + 0) 151 0 [.int a0] [] I L (some (.int r)) I L := by
  rw [f_H_isLand] at h
  refine xeb 1 (pc' := 1) (ls' := [.int a0]) (st' := [.int a0]) rfl ?_
  by_cases c1 : a0 < 0
  · rw [if_pos c1] at h
    refine xef_lt_t rfl c1 ?_
    refine xeb 1 (pc' := 14) (ls' := [.int a0]) (st' := [.int 0]) rfl ?_
    obtain rfl := Option.some.inj h
    exact xeiret rfl rfl
  · rw [if_neg c1] at h
    refine xef_lt_f rfl c1 ?_
    refine xeb 2 (pc' := 6) (ls' := [.int a0]) (st' := [.int 5, .int a0]) rfl ?_
    have hj : xEv X (d + 0) 151 14 [.int a0] [.int (if 5 ≤ a0 then 0 else 1)] I L (some (.int r)) I L := by
      obtain ⟨b3, h⟩ := xck_some h
      obtain rfl := Option.some.inj h
      exact xeiret rfl b3
    by_cases c2 : 5 ≤ a0
    · simp only [if_pos c2] at hj
      refine xei_ge_t rfl c2 ?_
      exact xeb 1 rfl hj
    · simp only [if_neg c2] at hj
      refine xei_ge_f rfl c2 ?_
      exact xeb 2 rfl hj
noncomputable def f_Table_piecesOf_4 (F : Nat) (S0 : Nat) (I : XI) : Nat → Int32 → Int32 → Int32 → Option (Int32)
  | 0, _, _, _ => none
  | n + 1, v1, v2, v3 =>
    if 30 ≤ v3 then (some v2) else ((f_Table_isPiece S0 I v3).bind fun q2 => if q2 = 0 then (f_Table_piecesOf_4 F S0 I n v1 v2 (v3 + 1)) else (xck (xin v3 30) (f_Table_piecesOf_4 F S0 I n v1 (if (I (S0 + 1) (xN v3)) = v1 then (v2 + 1) else v2) (v3 + 1))))
theorem g_Table_piecesOf_4 {X : XX} {d : Nat} {L : XL} {F : Nat} {S0 : Nat} {I : XI} (hS0 : xisTb S0) {r : Int32}  : ∀ (n : Nat) (v1 : Int32) (v2 : Int32) (v3 : Int32), f_Table_piecesOf_4 F S0 I n v1 v2 v3 = some r → xEv X (d + 1) 152 4 [.ref S0, .int v1, .int v2, .int v3] [] I L (some (.int r)) I L := by
  intro n
  induction n with
  | zero => intro v1 v2 v3 h; rw [f_Table_piecesOf_4] at h; cases h
  | succ n ih =>
    intro v1 v2 v3 h 
    rw [f_Table_piecesOf_4] at h
    refine xeb 2 (pc' := 7) (ls' := [.ref S0, .int v1, .int v2, .int v3]) (st' := [.int 30, .int v3]) rfl ?_
    by_cases c1 : 30 ≤ v3
    · rw [if_pos c1] at h
      refine xei_ge_t rfl c1 ?_
      refine xeb 1 (pc' := 38) (ls' := [.ref S0, .int v1, .int v2, .int v3]) (st' := [.int v2]) rfl ?_
      obtain rfl := Option.some.inj h
      exact xeiret rfl rfl
    · rw [if_neg c1] at h
      refine xei_ge_f rfl c1 ?_
      refine xeb 2 (pc' := 12) (ls' := [.ref S0, .int v1, .int v2, .int v3]) (st' := [.int v3, .ref S0]) rfl ?_
      obtain ⟨q2, eq2, h⟩ := xbind_some h
      refine xcallV rfl hS0.1 rfl rfl rfl (Nat.le_of_ble_eq_true rfl) (Nat.le_of_ble_eq_true rfl) (Nat.le_of_ble_eq_true rfl) rfl (g_Table_isPiece (d := d + 0) hS0 _ eq2) ?_
      by_cases c3 : q2 = 0
      · rw [if_pos c3] at h
        refine xef_eq_t rfl c3 ?_
        refine xeb 2 (pc' := 4) (ls' := [.ref S0, .int v1, .int v2, .int (v3 + 1)]) (st' := []) rfl ?_
        exact ih v1 v2 (v3 + 1) h
      · rw [if_neg c3] at h
        refine xef_eq_f rfl c3 ?_
        refine xeb 1 (pc' := 19) (ls' := [.ref S0, .int v1, .int v2, .int v3]) (st' := [.ref S0]) rfl ?_
        refine xegf2 rfl hS0.1 (by decide) rfl ?_
        refine xeb 1 (pc' := 23) (ls' := [.ref S0, .int v1, .int v2, .int v3]) (st' := [.int v3, .ref (S0 + 1)]) rfl ?_
        obtain ⟨b4, h⟩ := xck_some h
        refine xeia rfl hS0.2.1 b4 ?_
        refine xeb 1 (pc' := 25) (ls' := [.ref S0, .int v1, .int v2, .int v3]) (st' := [.int v1, .int (I (S0 + 1) (xN v3))]) rfl ?_
        have hj : xEv X (d + 1) 152 31 [.ref S0, .int v1, .int (if (I (S0 + 1) (xN v3)) = v1 then (v2 + 1) else v2), .int v3] [] I L (some (.int r)) I L := by
          refine xeb 2 (pc' := 4) (ls' := [.ref S0, .int v1, .int (if (I (S0 + 1) (xN v3)) = v1 then (v2 + 1) else v2), .int (v3 + 1)]) (st' := []) rfl ?_
          exact ih v1 (if (I (S0 + 1) (xN v3)) = v1 then (v2 + 1) else v2) (v3 + 1) h
        by_cases c5 : (I (S0 + 1) (xN v3)) = v1
        · simp only [if_pos c5] at hj
          refine xei_ne_t rfl c5 ?_
          exact xeb 1 rfl hj
        · simp only [if_neg c5] at hj
          refine xei_ne_f rfl c5 ?_
          exact xeb 0 rfl hj
noncomputable def f_Table_piecesOf (F : Nat) (S0 : Nat) (I : XI) (a1 : Int32) : Option (Int32) :=
  f_Table_piecesOf_4 F S0 I F a1 0 0
theorem g_Table_piecesOf {X : XX} {d : Nat} {L : XL} {F : Nat} {S0 : Nat} {I : XI} {a1 : Int32} (hS0 : xisTb S0) (r : Int32) (h : f_Table_piecesOf F S0 I a1 = some r) : xEv X (d + 1) 152 0 [.ref S0, .int a1, .null, .null] [] I L (some (.int r)) I L := by
  rw [f_Table_piecesOf] at h
  refine xeb 4 (pc' := 4) (ls' := [.ref S0, .int a1, .int 0, .int 0]) (st' := []) rfl ?_
  exact g_Table_piecesOf_4 hS0 F a1 0 0 h
noncomputable def f_Board_liesOf (S1 : Nat) (I : XI) (a2 : Int32) (a3 : Int32) : Option (Int32) :=
  (f_State_lies S1 I a2).bind fun q1 => if q1 = 0 then (some 0) else (xck (xin a2 30) (xck (xnarz (if (I 18 (xN a2)) = a3 then 1 else 0)) (some (if (I 18 (xN a2)) = a3 then 1 else 0))))
theorem g_Board_liesOf {X : XX} {d : Nat} {L : XL} {S1 : Nat} {I : XI} {a2 : Int32} {a3 : Int32} (hS1 : xisSt S1) (r : Int32) (h : f_Board_liesOf S1 I a2 a3 = some r) : xEv X (d + 1) 153 0 [.ref 30, .ref S1, .int a2, .int a3] [] I L (some (.int r)) I L := by
  rw [f_Board_liesOf] at h
  refine xeb 2 (pc' := 2) (ls' := [.ref 30, .ref S1, .int a2, .int a3]) (st' := [.int a2, .ref S1]) rfl ?_
  obtain ⟨q1, eq1, h⟩ := xbind_some h
  refine xcallV rfl hS1.1 rfl rfl rfl (Nat.le_of_ble_eq_true rfl) (Nat.le_of_ble_eq_true rfl) (Nat.le_of_ble_eq_true rfl) rfl (g_State_lies (d := d + 0) hS1 _ eq1) ?_
  by_cases c2 : q1 = 0
  · rw [if_pos c2] at h
    refine xef_eq_t rfl c2 ?_
    refine xeb 1 (pc' := 26) (ls' := [.ref 30, .ref S1, .int a2, .int a3]) (st' := [.int 0]) rfl ?_
    obtain rfl := Option.some.inj h
    exact xeiret rfl rfl
  · rw [if_neg c2] at h
    refine xef_eq_f rfl c2 ?_
    refine xeb 1 (pc' := 9) (ls' := [.ref 30, .ref S1, .int a2, .int a3]) (st' := [.ref 30]) rfl ?_
    refine xegf2 rfl xsh30 (by decide) rfl ?_
    refine xegf12 rfl xsh17 (by decide) rfl ?_
    refine xeb 1 (pc' := 16) (ls' := [.ref 30, .ref S1, .int a2, .int a3]) (st' := [.int a2, .ref 18]) rfl ?_
    obtain ⟨b3, h⟩ := xck_some h
    refine xeia rfl xsh18 b3 ?_
    refine xeb 1 (pc' := 18) (ls' := [.ref 30, .ref S1, .int a2, .int a3]) (st' := [.int a3, .int (I 18 (xN a2))]) rfl ?_
    have hj : xEv X (d + 1) 153 26 [.ref 30, .ref S1, .int a2, .int a3] [.int (if (I 18 (xN a2)) = a3 then 1 else 0)] I L (some (.int r)) I L := by
      obtain ⟨b5, h⟩ := xck_some h
      obtain rfl := Option.some.inj h
      exact xeiret rfl b5
    by_cases c4 : (I 18 (xN a2)) = a3
    · simp only [if_pos c4] at hj
      refine xei_ne_t rfl c4 ?_
      exact xeb 2 rfl hj
    · simp only [if_neg c4] at hj
      refine xei_ne_f rfl c4 ?_
      exact xeb 1 rfl hj
noncomputable def f_Board_sizeOf_5 (F : Nat) (S1 : Nat) (I : XI) : Nat → Int32 → Int32 → Int32 → Option (Int32)
  | 0, _, _, _ => none
  | n + 1, v2, v3, v4 =>
    if 30 ≤ v4 then (some v3) else ((f_Board_liesOf S1 I v4 v2).bind fun q2 => f_Board_sizeOf_5 F S1 I n v2 (v3 + (if q2 = 0 then 0 else 1)) (v4 + 1))
theorem g_Board_sizeOf_5 {X : XX} {d : Nat} {L : XL} {F : Nat} {S1 : Nat} {I : XI} (hS1 : xisSt S1) {r : Int32}  : ∀ (n : Nat) (v2 : Int32) (v3 : Int32) (v4 : Int32), f_Board_sizeOf_5 F S1 I n v2 v3 v4 = some r → xEv X (d + 2) 154 5 [.ref 30, .ref S1, .int v2, .int v3, .int v4] [] I L (some (.int r)) I L := by
  intro n
  induction n with
  | zero => intro v2 v3 v4 h; rw [f_Board_sizeOf_5] at h; cases h
  | succ n ih =>
    intro v2 v3 v4 h 
    rw [f_Board_sizeOf_5] at h
    refine xeb 2 (pc' := 9) (ls' := [.ref 30, .ref S1, .int v2, .int v3, .int v4]) (st' := [.int 30, .int v4]) rfl ?_
    by_cases c1 : 30 ≤ v4
    · rw [if_pos c1] at h
      refine xei_ge_t rfl c1 ?_
      refine xeb 1 (pc' := 38) (ls' := [.ref 30, .ref S1, .int v2, .int v3, .int v4]) (st' := [.int v3]) rfl ?_
      obtain rfl := Option.some.inj h
      exact xeiret rfl rfl
    · rw [if_neg c1] at h
      refine xei_ge_f rfl c1 ?_
      refine xeb 5 (pc' := 18) (ls' := [.ref 30, .ref S1, .int v2, .int v3, .int v4]) (st' := [.int v2, .int v4, .ref S1, .ref 30, .int v3]) rfl ?_
      obtain ⟨q2, eq2, h⟩ := xbind_some h
      refine xcallV rfl xsh30 rfl rfl rfl (Nat.le_of_ble_eq_true rfl) (Nat.le_of_ble_eq_true rfl) (Nat.le_of_ble_eq_true rfl) rfl (g_Board_liesOf (d := d + 0) hS1 _ eq2) ?_
      have hj : xEv X (d + 2) 154 29 [.ref 30, .ref S1, .int v2, .int v3, .int v4] [.int (if q2 = 0 then 0 else 1), .int v3] I L (some (.int r)) I L := by
        refine xeb 4 (pc' := 5) (ls' := [.ref 30, .ref S1, .int v2, .int (v3 + (if q2 = 0 then 0 else 1)), .int (v4 + 1)]) (st' := []) rfl ?_
        exact ih v2 (v3 + (if q2 = 0 then 0 else 1)) (v4 + 1) h
      by_cases c3 : q2 = 0
      · simp only [if_pos c3] at hj
        refine xef_eq_t rfl c3 ?_
        exact xeb 1 rfl hj
      · simp only [if_neg c3] at hj
        refine xef_eq_f rfl c3 ?_
        exact xeb 2 rfl hj
noncomputable def f_Board_sizeOf (F : Nat) (S1 : Nat) (I : XI) (a2 : Int32) : Option (Int32) :=
  f_Board_sizeOf_5 F S1 I F a2 0 0
theorem g_Board_sizeOf {X : XX} {d : Nat} {L : XL} {F : Nat} {S1 : Nat} {I : XI} {a2 : Int32} (hS1 : xisSt S1) (r : Int32) (h : f_Board_sizeOf F S1 I a2 = some r) : xEv X (d + 2) 154 0 [.ref 30, .ref S1, .int a2, .null, .null] [] I L (some (.int r)) I L := by
  rw [f_Board_sizeOf] at h
  refine xeb 4 (pc' := 5) (ls' := [.ref 30, .ref S1, .int a2, .int 0, .int 0]) (st' := []) rfl ?_
  exact g_Board_sizeOf_5 hS1 F a2 0 0 h
noncomputable def f_Board_group_122 (F : Nat) (S1 : Nat) (k35 : Int32 → Int32 → Int32 → Int32 → Int32 → XI → Option (Int32 × XI)) (v3 : Int32) (v4 : Int32) (v5 : Int32) (v6 : Int32) (v7 : Int32) (v8 : Int32) (I : XI) : Option (Int32 × XI) :=
  xck (xin v5 30) (xst (xput I 31 (xN v5) v8) fun I14 => k35 v3 (v4 ||| (1 <<< (v8 &&& 31))) (v5 + 1) v6 (v7 + 1) I14)
theorem g_Board_group_122 {X : XX} {d : Nat} {L : XL} {F : Nat} {S1 : Nat} {k35 : Int32 → Int32 → Int32 → Int32 → Int32 → XI → Option (Int32 × XI)} (hS1 : xisSt S1) {r : Int32 × XI} (hk35 : ∀ (v3 : Int32) (v4 : Int32) (v5 : Int32) (v6 : Int32) (v7 : Int32) (I : XI), k35 v3 v4 v5 v6 v7 I = some r → ∀ (z2 : Value) (z8 : Value), xEv X (d + 3) 155 35 [.ref 30, .ref S1, z2, .int v3, .int v4, .int v5, .int v6, .int v7, z8] [] I L (some (.int r.1)) r.2 L) {v3 : Int32} {v4 : Int32} {v5 : Int32} {v6 : Int32} {v7 : Int32} {v8 : Int32} {I : XI} (h : f_Board_group_122 F S1 k35 v3 v4 v5 v6 v7 v8 I = some r) (z2 : Value) : xEv X (d + 3) 155 122 [.ref 30, .ref S1, z2, .int v3, .int v4, .int v5, .int v6, .int v7, .int v8] [] I L (some (.int r.1)) r.2 L := by
  rw [f_Board_group_122] at h
  refine xeb 7 (pc' := 132) (ls' := [.ref 30, .ref S1, z2, .int v3, .int (v4 ||| (1 <<< (v8 &&& 31))), .int v5, .int v6, .int v7, .int v8]) (st' := [.ref 30]) rfl ?_
  refine xegf2 rfl xsh30 (by decide) rfl ?_
  refine xeb 2 (pc' := 139) (ls' := [.ref 30, .ref S1, z2, .int v3, .int (v4 ||| (1 <<< (v8 &&& 31))), .int v5, .int v6, .int v7, .int v8]) (st' := [.int v8, .int v5, .ref 31]) rfl ?_
  obtain ⟨b13, h⟩ := xck_some h
  refine xeis rfl xsh31 b13 ?_
  obtain ⟨I14, hI14, h⟩ := xst_some h
  rw [← hI14]
  refine xeb 3 (pc' := 35) (ls' := [.ref 30, .ref S1, z2, .int v3, .int (v4 ||| (1 <<< (v8 &&& 31))), .int (v5 + 1), .int v6, .int (v7 + 1), .int v8]) (st' := []) rfl ?_
  exact hk35 v3 (v4 ||| (1 <<< (v8 &&& 31))) (v5 + 1) v6 (v7 + 1) I14 h _ _
noncomputable def f_Board_group_78 (F : Nat) (S1 : Nat) (k35 : Int32 → Int32 → Int32 → Int32 → Int32 → XI → Option (Int32 × XI)) (v3 : Int32) (v4 : Int32) (v5 : Int32) (v6 : Int32) (v7 : Int32) (s0 : Int32) (I : XI) : Option (Int32 × XI) :=
  if s0 = (-1) then (k35 v3 v4 v5 v6 (v7 + 1) I) else (if ((v4 >>> (s0 &&& 31)) &&& 1) = 0 then (if 30 ≤ v5 then (k35 v3 v4 v5 v6 (v7 + 1) I) else (if v3 = (-1) then (f_Board_group_122 F S1 k35 v3 v4 v5 v6 v7 s0 I) else (xck (xin s0 30) (if (I 18 (xN s0)) = v3 then (f_Board_group_122 F S1 k35 v3 v4 v5 v6 v7 s0 I) else (k35 v3 v4 v5 v6 (v7 + 1) I))))) else (k35 v3 v4 v5 v6 (v7 + 1) I))
theorem g_Board_group_78 {X : XX} {d : Nat} {L : XL} {F : Nat} {S1 : Nat} {k35 : Int32 → Int32 → Int32 → Int32 → Int32 → XI → Option (Int32 × XI)} (hS1 : xisSt S1) {r : Int32 × XI} (hk35 : ∀ (v3 : Int32) (v4 : Int32) (v5 : Int32) (v6 : Int32) (v7 : Int32) (I : XI), k35 v3 v4 v5 v6 v7 I = some r → ∀ (z2 : Value) (z8 : Value), xEv X (d + 3) 155 35 [.ref 30, .ref S1, z2, .int v3, .int v4, .int v5, .int v6, .int v7, z8] [] I L (some (.int r.1)) r.2 L) {v3 : Int32} {v4 : Int32} {v5 : Int32} {v6 : Int32} {v7 : Int32} {s0 : Int32} {I : XI} (h : f_Board_group_78 F S1 k35 v3 v4 v5 v6 v7 s0 I = some r) (z2 : Value) (z8 : Value) : xEv X (d + 3) 155 78 [.ref 30, .ref S1, z2, .int v3, .int v4, .int v5, .int v6, .int v7, z8] [.int s0] I L (some (.int r.1)) r.2 L := by
  rw [f_Board_group_78] at h
  refine xeb 3 (pc' := 83) (ls' := [.ref 30, .ref S1, z2, .int v3, .int v4, .int v5, .int v6, .int v7, .int s0]) (st' := [.int (-1), .int s0]) rfl ?_
  by_cases c9 : s0 = (-1)
  · rw [if_pos c9] at h
    refine xei_eq_t rfl c9 ?_
    refine xeb 2 (pc' := 35) (ls' := [.ref 30, .ref S1, z2, .int v3, .int v4, .int v5, .int v6, .int (v7 + 1), .int s0]) (st' := []) rfl ?_
    exact hk35 v3 v4 v5 v6 (v7 + 1) I h _ _
  · rw [if_neg c9] at h
    refine xei_eq_f rfl c9 ?_
    refine xeb 5 (pc' := 93) (ls' := [.ref 30, .ref S1, z2, .int v3, .int v4, .int v5, .int v6, .int v7, .int s0]) (st' := [.int ((v4 >>> (s0 &&& 31)) &&& 1)]) rfl ?_
    by_cases c10 : ((v4 >>> (s0 &&& 31)) &&& 1) = 0
    · rw [if_pos c10] at h
      refine xef_ne_t rfl c10 ?_
      refine xeb 2 (pc' := 100) (ls' := [.ref 30, .ref S1, z2, .int v3, .int v4, .int v5, .int v6, .int v7, .int s0]) (st' := [.int 30, .int v5]) rfl ?_
      by_cases c11 : 30 ≤ v5
      · rw [if_pos c11] at h
        refine xei_ge_t rfl c11 ?_
        refine xeb 2 (pc' := 35) (ls' := [.ref 30, .ref S1, z2, .int v3, .int v4, .int v5, .int v6, .int (v7 + 1), .int s0]) (st' := []) rfl ?_
        exact hk35 v3 v4 v5 v6 (v7 + 1) I h _ _
      · rw [if_neg c11] at h
        refine xei_ge_f rfl c11 ?_
        refine xeb 2 (pc' := 105) (ls' := [.ref 30, .ref S1, z2, .int v3, .int v4, .int v5, .int v6, .int v7, .int s0]) (st' := [.int (-1), .int v3]) rfl ?_
        by_cases c12 : v3 = (-1)
        · rw [if_pos c12] at h
          refine xei_eq_t rfl c12 ?_
          exact g_Board_group_122 hS1 hk35 h _
        · rw [if_neg c12] at h
          refine xei_eq_f rfl c12 ?_
          refine xeb 1 (pc' := 109) (ls' := [.ref 30, .ref S1, z2, .int v3, .int v4, .int v5, .int v6, .int v7, .int s0]) (st' := [.ref 30]) rfl ?_
          refine xegf2 rfl xsh30 (by decide) rfl ?_
          refine xegf12 rfl xsh17 (by decide) rfl ?_
          refine xeb 1 (pc' := 117) (ls' := [.ref 30, .ref S1, z2, .int v3, .int v4, .int v5, .int v6, .int v7, .int s0]) (st' := [.int s0, .ref 18]) rfl ?_
          obtain ⟨b15, h⟩ := xck_some h
          refine xeia rfl xsh18 b15 ?_
          refine xeb 1 (pc' := 119) (ls' := [.ref 30, .ref S1, z2, .int v3, .int v4, .int v5, .int v6, .int v7, .int s0]) (st' := [.int v3, .int (I 18 (xN s0))]) rfl ?_
          by_cases c16 : (I 18 (xN s0)) = v3
          · rw [if_pos c16] at h
            refine xei_ne_t rfl c16 ?_
            exact g_Board_group_122 hS1 hk35 h _
          · rw [if_neg c16] at h
            refine xei_ne_f rfl c16 ?_
            refine xeb 2 (pc' := 35) (ls' := [.ref 30, .ref S1, z2, .int v3, .int v4, .int v5, .int v6, .int (v7 + 1), .int s0]) (st' := []) rfl ?_
            exact hk35 v3 v4 v5 v6 (v7 + 1) I h _ _
    · rw [if_neg c10] at h
      refine xef_ne_f rfl c10 ?_
      refine xeb 2 (pc' := 35) (ls' := [.ref 30, .ref S1, z2, .int v3, .int v4, .int v5, .int v6, .int (v7 + 1), .int s0]) (st' := []) rfl ?_
      exact hk35 v3 v4 v5 v6 (v7 + 1) I h _ _
noncomputable def f_Board_group_35 (F : Nat) (S1 : Nat) (k18 : Int32 → Int32 → Int32 → Int32 → XI → Option (Int32 × XI)) : Nat → Int32 → Int32 → Int32 → Int32 → Int32 → XI → Option (Int32 × XI)
  | 0, _, _, _, _, _, _ => none
  | n + 1, v3, v4, v5, v6, v7, I =>
    if 4 ≤ v7 then (k18 v3 v4 v5 (v6 + 1) I) else (xck (xin v6 30) ((f_Board_linked S1 I (I 31 (xN v6)) v7).bind fun q7 => if q7 = 0 then (f_Board_group_78 F S1 (fun v3 v4 v5 v6 v7 I => f_Board_group_35 F S1 k18 n v3 v4 v5 v6 v7 I) v3 v4 v5 v6 v7 (-1) I) else (xck (xin v6 30) ((f_Table_beside 17 I (I 31 (xN v6)) v7).bind fun q18 => f_Board_group_78 F S1 (fun v3 v4 v5 v6 v7 I => f_Board_group_35 F S1 k18 n v3 v4 v5 v6 v7 I) v3 v4 v5 v6 v7 q18 I))))
theorem g_Board_group_35 {X : XX} {d : Nat} {L : XL} {F : Nat} {S1 : Nat} {k18 : Int32 → Int32 → Int32 → Int32 → XI → Option (Int32 × XI)} (hS1 : xisSt S1) {r : Int32 × XI} (hk18 : ∀ (v3 : Int32) (v4 : Int32) (v5 : Int32) (v6 : Int32) (I : XI), k18 v3 v4 v5 v6 I = some r → ∀ (z2 : Value) (z7 : Value) (z8 : Value), xEv X (d + 3) 155 18 [.ref 30, .ref S1, z2, .int v3, .int v4, .int v5, .int v6, z7, z8] [] I L (some (.int r.1)) r.2 L) : ∀ (n : Nat) (v3 : Int32) (v4 : Int32) (v5 : Int32) (v6 : Int32) (v7 : Int32) (I : XI), f_Board_group_35 F S1 k18 n v3 v4 v5 v6 v7 I = some r → ∀ (z2 : Value) (z8 : Value), xEv X (d + 3) 155 35 [.ref 30, .ref S1, z2, .int v3, .int v4, .int v5, .int v6, .int v7, z8] [] I L (some (.int r.1)) r.2 L := by
  intro n
  induction n with
  | zero => intro v3 v4 v5 v6 v7 I h; rw [f_Board_group_35] at h; cases h
  | succ n ih =>
    intro v3 v4 v5 v6 v7 I h z2 z8
    rw [f_Board_group_35] at h
    refine xeb 2 (pc' := 38) (ls' := [.ref 30, .ref S1, z2, .int v3, .int v4, .int v5, .int v6, .int v7, z8]) (st' := [.int 4, .int v7]) rfl ?_
    by_cases c5 : 4 ≤ v7
    · rw [if_pos c5] at h
      refine xei_ge_t rfl c5 ?_
      refine xeb 2 (pc' := 18) (ls' := [.ref 30, .ref S1, z2, .int v3, .int v4, .int v5, .int (v6 + 1), .int v7, z8]) (st' := []) rfl ?_
      exact hk18 v3 v4 v5 (v6 + 1) I h _ _ _
    · rw [if_neg c5] at h
      refine xei_ge_f rfl c5 ?_
      refine xeb 3 (pc' := 44) (ls' := [.ref 30, .ref S1, z2, .int v3, .int v4, .int v5, .int v6, .int v7, z8]) (st' := [.ref 30, .ref S1, .ref 30]) rfl ?_
      refine xegf2 rfl xsh30 (by decide) rfl ?_
      refine xeb 1 (pc' := 49) (ls' := [.ref 30, .ref S1, z2, .int v3, .int v4, .int v5, .int v6, .int v7, z8]) (st' := [.int v6, .ref 31, .ref S1, .ref 30]) rfl ?_
      obtain ⟨b6, h⟩ := xck_some h
      refine xeia rfl xsh31 b6 ?_
      refine xeb 1 (pc' := 52) (ls' := [.ref 30, .ref S1, z2, .int v3, .int v4, .int v5, .int v6, .int v7, z8]) (st' := [.int v7, .int (I 31 (xN v6)), .ref S1, .ref 30]) rfl ?_
      obtain ⟨q7, eq7, h⟩ := xbind_some h
      refine xcallV rfl xsh30 rfl rfl rfl (Nat.le_of_ble_eq_true rfl) (Nat.le_of_ble_eq_true rfl) (Nat.le_of_ble_eq_true rfl) rfl (g_Board_linked (d := d + 0) hS1 _ eq7) ?_
      by_cases c8 : q7 = 0
      · rw [if_pos c8] at h
        refine xef_eq_t rfl c8 ?_
        refine xeb 1 (pc' := 78) (ls' := [.ref 30, .ref S1, z2, .int v3, .int v4, .int v5, .int v6, .int v7, z8]) (st' := [.int (-1)]) rfl ?_
        exact g_Board_group_78 hS1 (fun v3 v4 v5 v6 v7 I h' z2 z8 => ih v3 v4 v5 v6 v7 I h' z2 z8) h _ _
      · rw [if_neg c8] at h
        refine xef_eq_f rfl c8 ?_
        refine xeb 1 (pc' := 59) (ls' := [.ref 30, .ref S1, z2, .int v3, .int v4, .int v5, .int v6, .int v7, z8]) (st' := [.ref 30]) rfl ?_
        refine xegf2 rfl xsh30 (by decide) rfl ?_
        refine xeb 1 (pc' := 63) (ls' := [.ref 30, .ref S1, z2, .int v3, .int v4, .int v5, .int v6, .int v7, z8]) (st' := [.ref 30, .ref 17]) rfl ?_
        refine xegf2 rfl xsh30 (by decide) rfl ?_
        refine xeb 1 (pc' := 68) (ls' := [.ref 30, .ref S1, z2, .int v3, .int v4, .int v5, .int v6, .int v7, z8]) (st' := [.int v6, .ref 31, .ref 17]) rfl ?_
        obtain ⟨b17, h⟩ := xck_some h
        refine xeia rfl xsh31 b17 ?_
        refine xeb 1 (pc' := 71) (ls' := [.ref 30, .ref S1, z2, .int v3, .int v4, .int v5, .int v6, .int v7, z8]) (st' := [.int v7, .int (I 31 (xN v6)), .ref 17]) rfl ?_
        obtain ⟨q18, eq18, h⟩ := xbind_some h
        refine xcallV rfl xsh17 rfl rfl rfl (Nat.le_of_ble_eq_true rfl) (Nat.le_of_ble_eq_true rfl) (Nat.le_of_ble_eq_true rfl) rfl (g_Table_beside (d := d + 2) xis17 _ eq18) ?_
        refine xeb 1 (pc' := 78) (ls' := [.ref 30, .ref S1, z2, .int v3, .int v4, .int v5, .int v6, .int v7, z8]) (st' := [.int q18]) rfl ?_
        exact g_Board_group_78 hS1 (fun v3 v4 v5 v6 v7 I h' z2 z8 => ih v3 v4 v5 v6 v7 I h' z2 z8) h _ _
noncomputable def f_Board_group_18 (F : Nat) (S1 : Nat) : Nat → Int32 → Int32 → Int32 → Int32 → XI → Option (Int32 × XI)
  | 0, _, _, _, _, _ => none
  | n + 1, v3, v4, v5, v6, I =>
    if v5 ≤ v6 then (some (v4, I)) else (if 30 ≤ v6 then (some (v4, I)) else (f_Board_group_35 F S1 (fun v3 v4 v5 v6 I => f_Board_group_18 F S1 n v3 v4 v5 v6 I) F v3 v4 v5 v6 0 I))
theorem g_Board_group_18 {X : XX} {d : Nat} {L : XL} {F : Nat} {S1 : Nat} (hS1 : xisSt S1) {r : Int32 × XI}  : ∀ (n : Nat) (v3 : Int32) (v4 : Int32) (v5 : Int32) (v6 : Int32) (I : XI), f_Board_group_18 F S1 n v3 v4 v5 v6 I = some r → ∀ (z2 : Value) (z7 : Value) (z8 : Value), xEv X (d + 3) 155 18 [.ref 30, .ref S1, z2, .int v3, .int v4, .int v5, .int v6, z7, z8] [] I L (some (.int r.1)) r.2 L := by
  intro n
  induction n with
  | zero => intro v3 v4 v5 v6 I h; rw [f_Board_group_18] at h; cases h
  | succ n ih =>
    intro v3 v4 v5 v6 I h z2 z7 z8
    rw [f_Board_group_18] at h
    refine xeb 2 (pc' := 22) (ls' := [.ref 30, .ref S1, z2, .int v3, .int v4, .int v5, .int v6, z7, z8]) (st' := [.int v5, .int v6]) rfl ?_
    by_cases c3 : v5 ≤ v6
    · rw [if_pos c3] at h
      refine xei_ge_t rfl c3 ?_
      refine xeb 1 (pc' := 157) (ls' := [.ref 30, .ref S1, z2, .int v3, .int v4, .int v5, .int v6, z7, z8]) (st' := [.int v4]) rfl ?_
      obtain rfl := Option.some.inj h
      exact xeiret rfl rfl
    · rw [if_neg c3] at h
      refine xei_ge_f rfl c3 ?_
      refine xeb 2 (pc' := 29) (ls' := [.ref 30, .ref S1, z2, .int v3, .int v4, .int v5, .int v6, z7, z8]) (st' := [.int 30, .int v6]) rfl ?_
      by_cases c4 : 30 ≤ v6
      · rw [if_pos c4] at h
        refine xei_ge_t rfl c4 ?_
        refine xeb 1 (pc' := 157) (ls' := [.ref 30, .ref S1, z2, .int v3, .int v4, .int v5, .int v6, z7, z8]) (st' := [.int v4]) rfl ?_
        obtain rfl := Option.some.inj h
        exact xeiret rfl rfl
      · rw [if_neg c4] at h
        refine xei_ge_f rfl c4 ?_
        refine xeb 2 (pc' := 35) (ls' := [.ref 30, .ref S1, z2, .int v3, .int v4, .int v5, .int v6, .int 0, z8]) (st' := []) rfl ?_
        exact g_Board_group_35 hS1 (fun v3 v4 v5 v6 I h' z2 z7 z8 => ih v3 v4 v5 v6 I h' z2 z7 z8) F v3 v4 v5 v6 0 I h _ _
noncomputable def f_Board_group (F : Nat) (S1 : Nat) (a2 : Int32) (a3 : Int32) (I : XI) : Option (Int32 × XI) :=
  xck (xin 0 30) (xst (xput I 31 (xN 0) a2) fun I2 => f_Board_group_18 F S1 F a3 (1 <<< (a2 &&& 31)) 1 0 I2)
theorem g_Board_group {X : XX} {d : Nat} {L : XL} {F : Nat} {S1 : Nat} {a2 : Int32} {a3 : Int32} {I : XI} (hS1 : xisSt S1) (r : Int32 × XI) (h : f_Board_group F S1 a2 a3 I = some r) : xEv X (d + 3) 155 0 [.ref 30, .ref S1, .int a2, .int a3, .null, .null, .null, .null, .null] [] I L (some (.int r.1)) r.2 L := by
  rw [f_Board_group] at h
  refine xeb 7 (pc' := 9) (ls' := [.ref 30, .ref S1, .int a2, .int a3, .int (1 <<< (a2 &&& 31)), .int 1, .null, .null, .null]) (st' := [.ref 30]) rfl ?_
  refine xegf2 rfl xsh30 (by decide) rfl ?_
  refine xeb 2 (pc' := 14) (ls' := [.ref 30, .ref S1, .int a2, .int a3, .int (1 <<< (a2 &&& 31)), .int 1, .null, .null, .null]) (st' := [.int a2, .int 0, .ref 31]) rfl ?_
  obtain ⟨b1, h⟩ := xck_some h
  refine xeis rfl xsh31 b1 ?_
  obtain ⟨I2, hI2, h⟩ := xst_some h
  rw [← hI2]
  refine xeb 2 (pc' := 18) (ls' := [.ref 30, .ref S1, .int a2, .int a3, .int (1 <<< (a2 &&& 31)), .int 1, .int 0, .null, .null]) (st' := []) rfl ?_
  exact g_Board_group_18 hS1 F a3 (1 <<< (a2 &&& 31)) 1 0 I2 h _ _ _
noncomputable def f_Board_partsOf_8 (F : Nat) (S1 : Nat) : Nat → Int32 → Int32 → Int32 → Int32 → XI → Option (Int32 × XI)
  | 0, _, _, _, _, _ => none
  | n + 1, v2, v3, v4, v5, I =>
    if 30 ≤ v5 then (some (v4, I)) else ((f_Board_liesOf S1 I v5 v2).bind fun q2 => if q2 = 0 then (f_Board_partsOf_8 F S1 n v2 v3 v4 (v5 + 1) I) else (if ((v3 >>> (v5 &&& 31)) &&& 1) = 0 then ((f_Board_group F S1 v5 v2 I).bind fun q5 => f_Board_partsOf_8 F S1 n v2 (v3 ||| q5.1) (v4 + 1) (v5 + 1) q5.2) else (f_Board_partsOf_8 F S1 n v2 v3 v4 (v5 + 1) I)))
theorem g_Board_partsOf_8 {X : XX} {d : Nat} {L : XL} {F : Nat} {S1 : Nat} (hS1 : xisSt S1) {r : Int32 × XI}  : ∀ (n : Nat) (v2 : Int32) (v3 : Int32) (v4 : Int32) (v5 : Int32) (I : XI), f_Board_partsOf_8 F S1 n v2 v3 v4 v5 I = some r → xEv X (d + 4) 156 8 [.ref 30, .ref S1, .int v2, .int v3, .int v4, .int v5] [] I L (some (.int r.1)) r.2 L := by
  intro n
  induction n with
  | zero => intro v2 v3 v4 v5 I h; rw [f_Board_partsOf_8] at h; cases h
  | succ n ih =>
    intro v2 v3 v4 v5 I h 
    rw [f_Board_partsOf_8] at h
    refine xeb 2 (pc' := 12) (ls' := [.ref 30, .ref S1, .int v2, .int v3, .int v4, .int v5]) (st' := [.int 30, .int v5]) rfl ?_
    by_cases c1 : 30 ≤ v5
    · rw [if_pos c1] at h
      refine xei_ge_t rfl c1 ?_
      refine xeb 1 (pc' := 57) (ls' := [.ref 30, .ref S1, .int v2, .int v3, .int v4, .int v5]) (st' := [.int v4]) rfl ?_
      obtain rfl := Option.some.inj h
      exact xeiret rfl rfl
    · rw [if_neg c1] at h
      refine xei_ge_f rfl c1 ?_
      refine xeb 4 (pc' := 20) (ls' := [.ref 30, .ref S1, .int v2, .int v3, .int v4, .int v5]) (st' := [.int v2, .int v5, .ref S1, .ref 30]) rfl ?_
      obtain ⟨q2, eq2, h⟩ := xbind_some h
      refine xcallV rfl xsh30 rfl rfl rfl (Nat.le_of_ble_eq_true rfl) (Nat.le_of_ble_eq_true rfl) (Nat.le_of_ble_eq_true rfl) rfl (g_Board_liesOf (d := d + 2) hS1 _ eq2) ?_
      by_cases c3 : q2 = 0
      · rw [if_pos c3] at h
        refine xef_eq_t rfl c3 ?_
        refine xeb 2 (pc' := 8) (ls' := [.ref 30, .ref S1, .int v2, .int v3, .int v4, .int (v5 + 1)]) (st' := []) rfl ?_
        exact ih v2 v3 v4 (v5 + 1) I h
      · rw [if_neg c3] at h
        refine xef_eq_f rfl c3 ?_
        refine xeb 5 (pc' := 32) (ls' := [.ref 30, .ref S1, .int v2, .int v3, .int v4, .int v5]) (st' := [.int ((v3 >>> (v5 &&& 31)) &&& 1)]) rfl ?_
        by_cases c4 : ((v3 >>> (v5 &&& 31)) &&& 1) = 0
        · rw [if_pos c4] at h
          refine xef_ne_t rfl c4 ?_
          refine xeb 5 (pc' := 41) (ls' := [.ref 30, .ref S1, .int v2, .int v3, .int v4, .int v5]) (st' := [.int v2, .int v5, .ref S1, .ref 30, .int v3]) rfl ?_
          obtain ⟨q5, eq5, h⟩ := xbind_some h
          refine xcallV rfl xsh30 rfl rfl rfl (Nat.le_of_ble_eq_true rfl) (Nat.le_of_ble_eq_true rfl) (Nat.le_of_ble_eq_true rfl) rfl (g_Board_group (d := d + 0) hS1 _ eq5) ?_
          refine xeb 5 (pc' := 8) (ls' := [.ref 30, .ref S1, .int v2, .int (v3 ||| q5.1), .int (v4 + 1), .int (v5 + 1)]) (st' := []) rfl ?_
          exact ih v2 (v3 ||| q5.1) (v4 + 1) (v5 + 1) q5.2 h
        · rw [if_neg c4] at h
          refine xef_ne_f rfl c4 ?_
          refine xeb 2 (pc' := 8) (ls' := [.ref 30, .ref S1, .int v2, .int v3, .int v4, .int (v5 + 1)]) (st' := []) rfl ?_
          exact ih v2 v3 v4 (v5 + 1) I h
noncomputable def f_Board_partsOf (F : Nat) (S1 : Nat) (a2 : Int32) (I : XI) : Option (Int32 × XI) :=
  f_Board_partsOf_8 F S1 F a2 0 0 0 I
theorem g_Board_partsOf {X : XX} {d : Nat} {L : XL} {F : Nat} {S1 : Nat} {a2 : Int32} {I : XI} (hS1 : xisSt S1) (r : Int32 × XI) (h : f_Board_partsOf F S1 a2 I = some r) : xEv X (d + 4) 156 0 [.ref 30, .ref S1, .int a2, .null, .null, .null] [] I L (some (.int r.1)) r.2 L := by
  rw [f_Board_partsOf] at h
  refine xeb 6 (pc' := 8) (ls' := [.ref 30, .ref S1, .int a2, .int 0, .int 0, .int 0]) (st' := []) rfl ?_
  exact g_Board_partsOf_8 hS1 F a2 0 0 0 I h
noncomputable def f_Rules_taxes (F : Nat) (S1 : Nat) (a2 : Int32) (I : XI) : Option (Int32 × XI) :=
  (f_Board_sizeOf F S1 I a2).bind fun q1 => if q1 = 0 then (some (0, I)) else ((f_Laws_setDayAlone F 21 (I S1 1) I).bind fun q3 => xck (xin 2 9) (xst (xput q3 24 (xN 2) a2) fun I5 => xck (xin 6 9) (xst (xput I5 24 (xN 6) q1) fun I7 => (f_Board_partsOf F S1 a2 I7).bind fun q8 => xck (xin 7 9) (xst (xput q8.2 24 (xN 7) q8.1) fun I10 => (f_Laws_value F 21 1 I10).bind fun q11 => (f_Rules_held q11.1 0 999).bind fun q12 => some (q12, q11.2)))))
theorem g_Rules_taxes {X : XX} {d : Nat} {L : XL} {F : Nat} {S1 : Nat} {a2 : Int32} {I : XI} (hS1 : xisSt S1) (r : Int32 × XI) (h : f_Rules_taxes F S1 a2 I = some r) : xEv X (d + 5) 157 0 [.ref 32, .ref S1, .int a2, .null] [] I L (some (.int r.1)) r.2 L := by
  rw [f_Rules_taxes] at h
  refine xeb 1 (pc' := 1) (ls' := [.ref 32, .ref S1, .int a2, .null]) (st' := [.ref 32]) rfl ?_
  refine xegf2 rfl xsh32 (by decide) rfl ?_
  refine xeb 2 (pc' := 6) (ls' := [.ref 32, .ref S1, .int a2, .null]) (st' := [.int a2, .ref S1, .ref 30]) rfl ?_
  obtain ⟨q1, eq1, h⟩ := xbind_some h
  refine xcallV rfl xsh30 rfl rfl rfl (Nat.le_of_ble_eq_true rfl) (Nat.le_of_ble_eq_true rfl) (Nat.le_of_ble_eq_true rfl) rfl (g_Board_sizeOf (d := d + 2) hS1 _ eq1) ?_
  refine xeb 2 (pc' := 11) (ls' := [.ref 32, .ref S1, .int a2, .int q1]) (st' := [.int q1]) rfl ?_
  by_cases c2 : q1 = 0
  · rw [if_pos c2] at h
    refine xef_ne_t rfl c2 ?_
    refine xeb 1 (pc' := 15) (ls' := [.ref 32, .ref S1, .int a2, .int q1]) (st' := [.int 0]) rfl ?_
    obtain rfl := Option.some.inj h
    exact xeiret rfl rfl
  · rw [if_neg c2] at h
    refine xef_ne_f rfl c2 ?_
    refine xeb 1 (pc' := 17) (ls' := [.ref 32, .ref S1, .int a2, .int q1]) (st' := [.ref 32]) rfl ?_
    refine xegf2 rfl xsh32 (by decide) rfl ?_
    refine xeb 1 (pc' := 21) (ls' := [.ref 32, .ref S1, .int a2, .int q1]) (st' := [.ref S1, .ref 21]) rfl ?_
    refine xegf10 rfl hS1.1 (by decide) ?_
    obtain ⟨q3, eq3, h⟩ := xbind_some h
    refine xcallV rfl xsh21 rfl rfl rfl (Nat.le_of_ble_eq_true rfl) (Nat.le_of_ble_eq_true rfl) (Nat.le_of_ble_eq_true rfl) rfl (g_Laws_setDayAlone (d := d + 3) xis21 _ eq3) ?_
    refine xeb 1 (pc' := 28) (ls' := [.ref 32, .ref S1, .int a2, .int q1]) (st' := [.ref 32]) rfl ?_
    refine xegf2 rfl xsh32 (by decide) rfl ?_
    refine xegf12 rfl xsh21 (by decide) rfl ?_
    refine xeb 2 (pc' := 36) (ls' := [.ref 32, .ref S1, .int a2, .int q1]) (st' := [.int a2, .int 2, .ref 24]) rfl ?_
    obtain ⟨b4, h⟩ := xck_some h
    refine xeis rfl xsh24 b4 ?_
    obtain ⟨I5, hI5, h⟩ := xst_some h
    rw [← hI5]
    refine xeb 1 (pc' := 38) (ls' := [.ref 32, .ref S1, .int a2, .int q1]) (st' := [.ref 32]) rfl ?_
    refine xegf2 rfl xsh32 (by decide) rfl ?_
    refine xegf12 rfl xsh21 (by decide) rfl ?_
    refine xeb 2 (pc' := 47) (ls' := [.ref 32, .ref S1, .int a2, .int q1]) (st' := [.int q1, .int 6, .ref 24]) rfl ?_
    obtain ⟨b6, h⟩ := xck_some h
    refine xeis rfl xsh24 b6 ?_
    obtain ⟨I7, hI7, h⟩ := xst_some h
    rw [← hI7]
    refine xeb 1 (pc' := 49) (ls' := [.ref 32, .ref S1, .int a2, .int q1]) (st' := [.ref 32]) rfl ?_
    refine xegf2 rfl xsh32 (by decide) rfl ?_
    refine xegf12 rfl xsh21 (by decide) rfl ?_
    refine xeb 2 (pc' := 58) (ls' := [.ref 32, .ref S1, .int a2, .int q1]) (st' := [.ref 32, .int 7, .ref 24]) rfl ?_
    refine xegf2 rfl xsh32 (by decide) rfl ?_
    refine xeb 2 (pc' := 63) (ls' := [.ref 32, .ref S1, .int a2, .int q1]) (st' := [.int a2, .ref S1, .ref 30, .int 7, .ref 24]) rfl ?_
    obtain ⟨q8, eq8, h⟩ := xbind_some h
    refine xcallV rfl xsh30 rfl rfl rfl (Nat.le_of_ble_eq_true rfl) (Nat.le_of_ble_eq_true rfl) (Nat.le_of_ble_eq_true rfl) rfl (g_Board_partsOf (d := d + 0) hS1 _ eq8) ?_
    obtain ⟨b9, h⟩ := xck_some h
    refine xeis rfl xsh24 b9 ?_
    obtain ⟨I10, hI10, h⟩ := xst_some h
    rw [← hI10]
    refine xeb 1 (pc' := 68) (ls' := [.ref 32, .ref S1, .int a2, .int q1]) (st' := [.ref 32]) rfl ?_
    refine xegf2 rfl xsh32 (by decide) rfl ?_
    refine xeb 1 (pc' := 72) (ls' := [.ref 32, .ref S1, .int a2, .int q1]) (st' := [.int 1, .ref 21]) rfl ?_
    obtain ⟨q11, eq11, h⟩ := xbind_some h
    refine xcallV rfl xsh21 rfl rfl rfl (Nat.le_of_ble_eq_true rfl) (Nat.le_of_ble_eq_true rfl) (Nat.le_of_ble_eq_true rfl) rfl (g_Laws_value (d := d + 3) xis21 _ eq11) ?_
    refine xeb 2 (pc' := 79) (ls' := [.ref 32, .ref S1, .int a2, .int q1]) (st' := [.int 999, .int 0, .int q11.1]) rfl ?_
    obtain ⟨q12, eq12, h⟩ := xbind_some h
    refine xcallS20 rfl rfl rfl (Nat.le_of_ble_eq_true rfl) (Nat.le_of_ble_eq_true rfl) (Nat.le_of_ble_eq_true rfl) rfl (g_Rules_held (d := d + 4) _ eq12) ?_
    obtain rfl := Option.some.inj h
    exact xeiret rfl rfl
noncomputable def f_H_land (F : Nat) (a1 : Int32) (a2 : Int32) (I : XI) : Option (Int32 × XI) :=
  (f_H_isLand a1).bind fun q1 => if q1 = 0 then (some ((-1), I)) else (if a2 < 0 ∨ 3 < a2 then (some ((-1), I)) else if a2 = 0 then ((f_Table_piecesOf F 17 I a1).bind fun q4 => some (q4, I)) else if a2 = 1 then ((f_Board_sizeOf F 26 I a1).bind fun q6 => some (q6, I)) else if a2 = 2 then ((f_Board_partsOf F 26 a1 I).bind fun q8 => some (q8.1, q8.2)) else if a2 = 3 then ((f_Rules_taxes F 26 a1 I).bind fun q10 => some (q10.1, q10.2)) else none)
theorem g_H_land {X : XX} {d : Nat} {L : XL} {F : Nat} {a1 : Int32} {a2 : Int32} {I : XI}  (r : Int32 × XI) (h : f_H_land F a1 a2 I = some r) : xEv X (d + 6) 158 0 [.ref 0, .int a1, .int a2] [] I L (some (.int r.1)) r.2 L := by
  rw [f_H_land] at h
  refine xeb 1 (pc' := 1) (ls' := [.ref 0, .int a1, .int a2]) (st' := [.int a1]) rfl ?_
  obtain ⟨q1, eq1, h⟩ := xbind_some h
  refine xcallS20 rfl rfl rfl (Nat.le_of_ble_eq_true rfl) (Nat.le_of_ble_eq_true rfl) (Nat.le_of_ble_eq_true rfl) rfl (g_H_isLand (d := d + 5) _ eq1) ?_
  by_cases c2 : q1 = 0
  · rw [if_pos c2] at h
    refine xef_ne_t rfl c2 ?_
    refine xeb 1 (pc' := 8) (ls' := [.ref 0, .int a1, .int a2]) (st' := [.int (-1)]) rfl ?_
    obtain rfl := Option.some.inj h
    exact xeiret rfl rfl
  · rw [if_neg c2] at h
    refine xef_ne_f rfl c2 ?_
    refine xeb 1 (pc' := 10) (ls' := [.ref 0, .int a1, .int a2]) (st' := [.int a2]) rfl ?_
    by_cases c3 : a2 < 0 ∨ 3 < a2
    · rw [if_pos c3] at h
      refine xetabO rfl rfl rfl c3 ?_
      refine xeb 1 (pc' := 89) (ls' := [.ref 0, .int a1, .int a2]) (st' := [.int (-1)]) rfl ?_
      obtain rfl := Option.some.inj h
      exact xeiret rfl rfl
    rw [if_neg c3] at h
    by_cases c5 : a2 = 0
    · rw [if_pos c5] at h
      refine xetabI rfl c5 rfl ?_
      refine xeb 1 (pc' := 41) (ls' := [.ref 0, .int a1, .int a2]) (st' := [.ref 0]) rfl ?_
      refine xegf2 rfl xsh0 (by decide) rfl ?_
      refine xeb 1 (pc' := 45) (ls' := [.ref 0, .int a1, .int a2]) (st' := [.int a1, .ref 17]) rfl ?_
      obtain ⟨q4, eq4, h⟩ := xbind_some h
      refine xcallV rfl xsh17 rfl rfl rfl (Nat.le_of_ble_eq_true rfl) (Nat.le_of_ble_eq_true rfl) (Nat.le_of_ble_eq_true rfl) rfl (g_Table_piecesOf (d := d + 4) xis17 _ eq4) ?_
      obtain rfl := Option.some.inj h
      exact xeiret rfl rfl
    rw [if_neg c5] at h
    by_cases c7 : a2 = 1
    · rw [if_pos c7] at h
      refine xetabI rfl c7 rfl ?_
      refine xeb 1 (pc' := 50) (ls' := [.ref 0, .int a1, .int a2]) (st' := [.ref 0]) rfl ?_
      refine xegf2 rfl xsh0 (by decide) rfl ?_
      refine xeb 1 (pc' := 54) (ls' := [.ref 0, .int a1, .int a2]) (st' := [.ref 0, .ref 30]) rfl ?_
      refine xegf2 rfl xsh0 (by decide) rfl ?_
      refine xeb 1 (pc' := 58) (ls' := [.ref 0, .int a1, .int a2]) (st' := [.int a1, .ref 26, .ref 30]) rfl ?_
      obtain ⟨q6, eq6, h⟩ := xbind_some h
      refine xcallV rfl xsh30 rfl rfl rfl (Nat.le_of_ble_eq_true rfl) (Nat.le_of_ble_eq_true rfl) (Nat.le_of_ble_eq_true rfl) rfl (g_Board_sizeOf (d := d + 3) xis26 _ eq6) ?_
      obtain rfl := Option.some.inj h
      exact xeiret rfl rfl
    rw [if_neg c7] at h
    by_cases c9 : a2 = 2
    · rw [if_pos c9] at h
      refine xetabI rfl c9 rfl ?_
      refine xeb 1 (pc' := 63) (ls' := [.ref 0, .int a1, .int a2]) (st' := [.ref 0]) rfl ?_
      refine xegf2 rfl xsh0 (by decide) rfl ?_
      refine xeb 1 (pc' := 67) (ls' := [.ref 0, .int a1, .int a2]) (st' := [.ref 0, .ref 30]) rfl ?_
      refine xegf2 rfl xsh0 (by decide) rfl ?_
      refine xeb 1 (pc' := 71) (ls' := [.ref 0, .int a1, .int a2]) (st' := [.int a1, .ref 26, .ref 30]) rfl ?_
      obtain ⟨q8, eq8, h⟩ := xbind_some h
      refine xcallV rfl xsh30 rfl rfl rfl (Nat.le_of_ble_eq_true rfl) (Nat.le_of_ble_eq_true rfl) (Nat.le_of_ble_eq_true rfl) rfl (g_Board_partsOf (d := d + 1) xis26 _ eq8) ?_
      obtain rfl := Option.some.inj h
      exact xeiret rfl rfl
    rw [if_neg c9] at h
    by_cases c11 : a2 = 3
    · rw [if_pos c11] at h
      refine xetabI rfl c11 rfl ?_
      refine xeb 1 (pc' := 76) (ls' := [.ref 0, .int a1, .int a2]) (st' := [.ref 0]) rfl ?_
      refine xegf2 rfl xsh0 (by decide) rfl ?_
      refine xeb 1 (pc' := 80) (ls' := [.ref 0, .int a1, .int a2]) (st' := [.ref 0, .ref 32]) rfl ?_
      refine xegf2 rfl xsh0 (by decide) rfl ?_
      refine xeb 1 (pc' := 84) (ls' := [.ref 0, .int a1, .int a2]) (st' := [.int a1, .ref 26, .ref 32]) rfl ?_
      obtain ⟨q10, eq10, h⟩ := xbind_some h
      refine xcallV rfl xsh32 rfl rfl rfl (Nat.le_of_ble_eq_true rfl) (Nat.le_of_ble_eq_true rfl) (Nat.le_of_ble_eq_true rfl) rfl (g_Rules_taxes (d := d + 0) xis26 _ eq10) ?_
      obtain rfl := Option.some.inj h
      exact xeiret rfl rfl
    rw [if_neg c11] at h
    cases h
noncomputable def f_M_isThere (I : XI) (a1 : Int32) : Option (Int32) :=
  (f_M_isCell I (a1 - a1 / 6 * 6) (a1 / 6)).bind fun q1 => xck (xnarz q1) (some q1)
theorem g_M_isThere {X : XX} {d : Nat} {L : XL} {I : XI} {a1 : Int32}  (r : Int32) (h : f_M_isThere I a1 = some r) : xEv X (d + 2) 159 0 [.ref 131, .int a1] [] I L (some (.int r)) I L := by
  rw [f_M_isThere] at h
  refine xeb 7 (pc' := 9) (ls' := [.ref 131, .int a1]) (st' := [.int (a1 / 6), .int (a1 - a1 / 6 * 6), .ref 131]) rfl ?_
  obtain ⟨q1, eq1, h⟩ := xbind_some h
  refine xcallV rfl xsh131 rfl rfl rfl (Nat.le_of_ble_eq_true rfl) (Nat.le_of_ble_eq_true rfl) (Nat.le_of_ble_eq_true rfl) rfl (g_M_isCell (d := d + 0) _ eq1) ?_
  obtain ⟨b2, h⟩ := xck_some h
  obtain rfl := Option.some.inj h
  exact xeiret rfl b2
