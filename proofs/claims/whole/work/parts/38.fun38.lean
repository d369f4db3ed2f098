/-! the methods as functions, and that a run answers so (by gen6.py) -/
noncomputable def f_M_tell (a1 : Int32) (a2 : Int32) (I : XI) : Option (Int32 × XI) :=
  if (I 131 59) = 20 then (some ((-1), I)) else ((f_M_isSide a1).bind fun q2 => if q2 = 0 then (some ((-1), I)) else ((f_M_in a2 (-3) 3).bind fun q4 => if q4 = 0 then (some ((-1), I)) else (xck (xin (I 131 59) 20) (xst (xput I 170 (xN (I 131 59)) a1) fun I7 => xck (xin (I7 131 59) 20) (xst (xput I7 171 (xN (I7 131 59)) a2) fun I9 => xst (xput I9 131 59 ((I9 131 59) + 1)) fun I10 => some (((I10 131 59) - 1), I10))))))
theorem g_M_tell {X : XX} {d : Nat} {L : XL} {a1 : Int32} {a2 : Int32} {I : XI}  (r : Int32 × XI) (h : f_M_tell a1 a2 I = some r) : xEv X (d + 2) 267 0 [.ref 131, .int a1, .int a2] [] I L (some (.int r.1)) r.2 L := by
  rw [f_M_tell] at h
  refine xeb 1 (pc' := 1) (ls' := [.ref 131, .int a1, .int a2]) (st' := [.ref 131]) rfl ?_
  refine xegf0 rfl xsh131 (by decide) ?_
  refine xeb 1 (pc' := 6) (ls' := [.ref 131, .int a1, .int a2]) (st' := [.int 20, .int (I 131 59)]) rfl ?_
  by_cases c1 : (I 131 59) = 20
  · rw [if_pos c1] at h
    refine xei_eq_t rfl c1 ?_
    refine xeb 1 (pc' := 27) (ls' := [.ref 131, .int a1, .int a2]) (st' := [.int (-1)]) rfl ?_
    obtain rfl := Option.some.inj h
    exact xeiret rfl rfl
  · rw [if_neg c1] at h
    refine xei_eq_f rfl c1 ?_
    refine xeb 1 (pc' := 10) (ls' := [.ref 131, .int a1, .int a2]) (st' := [.int a1]) rfl ?_
    obtain ⟨q2, eq2, h⟩ := xbind_some h
    refine xcallS20 rfl rfl rfl (Nat.le_of_ble_eq_true rfl) (Nat.le_of_ble_eq_true rfl) (Nat.le_of_ble_eq_true rfl) rfl (g_M_isSide (d := d + 0) _ eq2) ?_
    by_cases c3 : q2 = 0
    · rw [if_pos c3] at h
      refine xef_eq_t rfl c3 ?_
      refine xeb 1 (pc' := 27) (ls' := [.ref 131, .int a1, .int a2]) (st' := [.int (-1)]) rfl ?_
      obtain rfl := Option.some.inj h
      exact xeiret rfl rfl
    · rw [if_neg c3] at h
      refine xef_eq_f rfl c3 ?_
      refine xeb 3 (pc' := 20) (ls' := [.ref 131, .int a1, .int a2]) (st' := [.int 3, .int (-3), .int a2]) rfl ?_
      obtain ⟨q4, eq4, h⟩ := xbind_some h
      refine xcallS20 rfl rfl rfl (Nat.le_of_ble_eq_true rfl) (Nat.le_of_ble_eq_true rfl) (Nat.le_of_ble_eq_true rfl) rfl (g_M_in (d := d + 1) _ eq4) ?_
      by_cases c5 : q4 = 0
      · rw [if_pos c5] at h
        refine xef_ne_t rfl c5 ?_
        refine xeb 1 (pc' := 27) (ls' := [.ref 131, .int a1, .int a2]) (st' := [.int (-1)]) rfl ?_
        obtain rfl := Option.some.inj h
        exact xeiret rfl rfl
      · rw [if_neg c5] at h
        refine xef_ne_f rfl c5 ?_
        refine xeb 1 (pc' := 29) (ls' := [.ref 131, .int a1, .int a2]) (st' := [.ref 131]) rfl ?_
        refine xegf2 rfl xsh131 (by decide) rfl ?_
        refine xeb 1 (pc' := 33) (ls' := [.ref 131, .int a1, .int a2]) (st' := [.ref 131, .ref 170]) rfl ?_
        refine xegf0 rfl xsh131 (by decide) ?_
        refine xeb 1 (pc' := 37) (ls' := [.ref 131, .int a1, .int a2]) (st' := [.int a1, .int (I 131 59), .ref 170]) rfl ?_
        obtain ⟨b6, h⟩ := xck_some h
        refine xeis rfl xsh170 b6 ?_
        obtain ⟨I7, hI7, h⟩ := xst_some h
        rw [← hI7]
        refine xeb 1 (pc' := 39) (ls' := [.ref 131, .int a1, .int a2]) (st' := [.ref 131]) rfl ?_
        refine xegf2 rfl xsh131 (by decide) rfl ?_
        refine xeb 1 (pc' := 43) (ls' := [.ref 131, .int a1, .int a2]) (st' := [.ref 131, .ref 171]) rfl ?_
        refine xegf0 rfl xsh131 (by decide) ?_
        refine xeb 1 (pc' := 47) (ls' := [.ref 131, .int a1, .int a2]) (st' := [.int a2, .int (I7 131 59), .ref 171]) rfl ?_
        obtain ⟨b8, h⟩ := xck_some h
        refine xeis rfl xsh171 b8 ?_
        obtain ⟨I9, hI9, h⟩ := xst_some h
        rw [← hI9]
        refine xeb 2 (pc' := 50) (ls' := [.ref 131, .int a1, .int a2]) (st' := [.ref 131, .ref 131]) rfl ?_
        refine xegf0 rfl xsh131 (by decide) ?_
        refine xeb 2 (pc' := 55) (ls' := [.ref 131, .int a1, .int a2]) (st' := [.int ((I9 131 59) + 1), .ref 131]) rfl ?_
        refine xepf0 rfl xsh131 (by decide) ?_
        obtain ⟨I10, hI10, h⟩ := xst_some h
        rw [← hI10]
        refine xeb 1 (pc' := 59) (ls' := [.ref 131, .int a1, .int a2]) (st' := [.ref 131]) rfl ?_
        refine xegf0 rfl xsh131 (by decide) ?_
        refine xeb 2 (pc' := 64) (ls' := [.ref 131, .int a1, .int a2]) (st' := [.int ((I10 131 59) - 1)]) rfl ?_
        obtain rfl := Option.some.inj h
        exact xeiret rfl rfl
noncomputable def f_H_forget (I : XI) : Option (Int32 × XI) :=
  xst (xput I 127 3 0) fun I1 => some ((I 127 3), I1)
theorem g_H_forget {X : XX} {d : Nat} {L : XL} {I : XI}  (r : Int32 × XI) (h : f_H_forget I = some r) : xEv X (d + 0) 268 0 [.ref 0, .null] [] I L (some (.int r.1)) r.2 L := by
  rw [f_H_forget] at h
  refine xeb 1 (pc' := 1) (ls' := [.ref 0, .null]) (st' := [.ref 0]) rfl ?_
  refine xegf2 rfl xsh0 (by decide) rfl ?_
  refine xegf10 rfl xsh127 (by decide) ?_
  refine xeb 2 (pc' := 9) (ls' := [.ref 0, .int (I 127 3)]) (st' := [.ref 0]) rfl ?_
  refine xegf2 rfl xsh0 (by decide) rfl ?_
  refine xeb 1 (pc' := 13) (ls' := [.ref 0, .int (I 127 3)]) (st' := [.int 0, .ref 127]) rfl ?_
  refine xepf10 rfl xsh127 (by decide) ?_
  obtain ⟨I1, hI1, h⟩ := xst_some h
  rw [← hI1]
  refine xeb 1 (pc' := 17) (ls' := [.ref 0, .int (I 127 3)]) (st' := [.int (I 127 3)]) rfl ?_
  obtain rfl := Option.some.inj h
  exact xeiret rfl rfl
noncomputable def f_M_forget (I : XI) : Option (Int32 × XI) :=
  xst (xput I 131 59 0) fun I1 => some ((I 131 59), I1)
theorem g_M_forget {X : XX} {d : Nat} {L : XL} {I : XI}  (r : Int32 × XI) (h : f_M_forget I = some r) : xEv X (d + 0) 269 0 [.ref 131, .null] [] I L (some (.int r.1)) r.2 L := by
  rw [f_M_forget] at h
  refine xeb 1 (pc' := 1) (ls' := [.ref 131, .null]) (st' := [.ref 131]) rfl ?_
  refine xegf0 rfl xsh131 (by decide) ?_
  refine xeb 3 (pc' := 7) (ls' := [.ref 131, .int (I 131 59)]) (st' := [.int 0, .ref 131]) rfl ?_
  refine xepf0 rfl xsh131 (by decide) ?_
  obtain ⟨I1, hI1, h⟩ := xst_some h
  rw [← hI1]
  refine xeb 1 (pc' := 11) (ls' := [.ref 131, .int (I 131 59)]) (st' := [.int (I 131 59)]) rfl ?_
  obtain rfl := Option.some.inj h
  exact xeiret rfl rfl
noncomputable def f_Clues_knows (I : XI) (a1 : Int32) : Option (Int32) :=
  if a1 < 0 then (some 0) else (xck (xnarz (if (I 127 3) < a1 then 0 else 1)) (some (if (I 127 3) < a1 then 0 else 1)))
theorem g_Clues_knows {X : XX} {d : Nat} {L : XL} {I : XI} {a1 : Int32}  (r : Int32) (h : f_Clues_knows I a1 = some r) : xEv X (d + 0) 270 0 [.ref 127, .int a1] [] I L (some (.int r)) I L := by
  rw [f_Clues_knows] at h
  refine xeb 1 (pc' := 1) (ls' := [.ref 127, .int a1]) (st' := [.int a1]) rfl ?_
  by_cases c1 : a1 < 0
  · rw [if_pos c1] at h
    refine xef_lt_t rfl c1 ?_
    refine xeb 1 (pc' := 17) (ls' := [.ref 127, .int a1]) (st' := [.int 0]) rfl ?_
    obtain rfl := Option.some.inj h
    exact xeiret rfl rfl
  · rw [if_neg c1] at h
    refine xef_lt_f rfl c1 ?_
    refine xeb 2 (pc' := 6) (ls' := [.ref 127, .int a1]) (st' := [.ref 127, .int a1]) rfl ?_
    refine xegf0 rfl xsh127 (by decide) ?_
    have hj : xEv X (d + 0) 270 17 [.ref 127, .int a1] [.int (if (I 127 3) < a1 then 0 else 1)] I L (some (.int r)) I L := by
      obtain ⟨b3, h⟩ := xck_some h
      obtain rfl := Option.some.inj h
      exact xeiret rfl b3
    by_cases c2 : (I 127 3) < a1
    · simp only [if_pos c2] at hj
      refine xei_gt_t rfl c2 ?_
      exact xeb 1 rfl hj
    · simp only [if_neg c2] at hj
      refine xei_gt_f rfl c2 ?_
      exact xeb 2 rfl hj
noncomputable def f_Clues_isSo_6 (F : Nat) (I : XI) : Nat → Int32 → Int32 → Int32 → Int32 → Int32 → Option (Int32)
  | 0, _, _, _, _, _ => none
  | n + 1, v1, v2, v3, v4, v5 =>
    if v3 ≤ v5 then (xck (xnarz v4) (some v4)) else (if v4 = 0 then (xck (xnarz v4) (some v4)) else (xck (xin v5 20) ((f_Table_spareKnob 17 I v1 v2 (I 128 (xN v5))).bind fun q6 => xck (xin v5 20) (f_Clues_isSo_6 F I n v1 v2 v3 (if q6 = (I 129 (xN v5)) then 1 else 0) (v5 + 1)))))
theorem g_Clues_isSo_6 {X : XX} {d : Nat} {L : XL} {F : Nat} {I : XI}  {r : Int32}  : ∀ (n : Nat) (v1 : Int32) (v2 : Int32) (v3 : Int32) (v4 : Int32) (v5 : Int32), f_Clues_isSo_6 F I n v1 v2 v3 v4 v5 = some r → xEv X (d + 1) 271 6 [.ref 127, .int v1, .int v2, .int v3, .int v4, .int v5] [] I L (some (.int r)) I L := by
  intro n
  induction n with
  | zero => intro v1 v2 v3 v4 v5 h; rw [f_Clues_isSo_6] at h; cases h
  | succ n ih =>
    intro v1 v2 v3 v4 v5 h 
    rw [f_Clues_isSo_6] at h
    refine xeb 2 (pc' := 9) (ls' := [.ref 127, .int v1, .int v2, .int v3, .int v4, .int v5]) (st' := [.int v3, .int v5]) rfl ?_
    by_cases c1 : v3 ≤ v5
    · rw [if_pos c1] at h
      refine xei_ge_t rfl c1 ?_
      refine xeb 1 (pc' := 58) (ls' := [.ref 127, .int v1, .int v2, .int v3, .int v4, .int v5]) (st' := [.int v4]) rfl ?_
      obtain ⟨b2, h⟩ := xck_some h
      obtain rfl := Option.some.inj h
      exact xeiret rfl b2
    · rw [if_neg c1] at h
      refine xei_ge_f rfl c1 ?_
      refine xeb 1 (pc' := 14) (ls' := [.ref 127, .int v1, .int v2, .int v3, .int v4, .int v5]) (st' := [.int v4]) rfl ?_
      by_cases c3 : v4 = 0
      · rw [if_pos c3] at h
        refine xef_eq_t rfl c3 ?_
        refine xeb 1 (pc' := 58) (ls' := [.ref 127, .int v1, .int v2, .int v3, .int v4, .int v5]) (st' := [.int v4]) rfl ?_
        obtain ⟨b4, h⟩ := xck_some h
        obtain rfl := Option.some.inj h
        exact xeiret rfl b4
      · rw [if_neg c3] at h
        refine xef_eq_f rfl c3 ?_
        refine xeb 1 (pc' := 18) (ls' := [.ref 127, .int v1, .int v2, .int v3, .int v4, .int v5]) (st' := [.ref 127]) rfl ?_
        refine xegf2 rfl xsh127 (by decide) rfl ?_
        refine xeb 3 (pc' := 24) (ls' := [.ref 127, .int v1, .int v2, .int v3, .int v4, .int v5]) (st' := [.ref 127, .int v2, .int v1, .ref 17]) rfl ?_
        refine xegf2 rfl xsh127 (by decide) rfl ?_
        refine xeb 1 (pc' := 29) (ls' := [.ref 127, .int v1, .int v2, .int v3, .int v4, .int v5]) (st' := [.int v5, .ref 128, .int v2, .int v1, .ref 17]) rfl ?_
        obtain ⟨b5, h⟩ := xck_some h
        refine xeia rfl xsh128 b5 ?_
        obtain ⟨q6, eq6, h⟩ := xbind_some h
        refine xcallV rfl xsh17 rfl rfl rfl (Nat.le_of_ble_eq_true rfl) (Nat.le_of_ble_eq_true rfl) (Nat.le_of_ble_eq_true rfl) rfl (g_Table_spareKnob (d := d + 0) xis17 _ eq6) ?_
        refine xeb 1 (pc' := 34) (ls' := [.ref 127, .int v1, .int v2, .int v3, .int v4, .int v5]) (st' := [.ref 127, .int q6]) rfl ?_
        refine xegf2 rfl xsh127 (by decide) rfl ?_
        refine xeb 1 (pc' := 39) (ls' := [.ref 127, .int v1, .int v2, .int v3, .int v4, .int v5]) (st' := [.int v5, .ref 129, .int q6]) rfl ?_
        obtain ⟨b7, h⟩ := xck_some h
        refine xeia rfl xsh129 b7 ?_
        have hj : xEv X (d + 1) 271 48 [.ref 127, .int v1, .int v2, .int v3, .int v4, .int v5] [.int (if q6 = (I 129 (xN v5)) then 1 else 0)] I L (some (.int r)) I L := by
          refine xeb 3 (pc' := 6) (ls' := [.ref 127, .int v1, .int v2, .int v3, .int (if q6 = (I 129 (xN v5)) then 1 else 0), .int (v5 + 1)]) (st' := []) rfl ?_
          exact ih v1 v2 v3 (if q6 = (I 129 (xN v5)) then 1 else 0) (v5 + 1) h
        by_cases c8 : q6 = (I 129 (xN v5))
        · simp only [if_pos c8] at hj
          refine xei_ne_t rfl c8 ?_
          exact xeb 2 rfl hj
        · simp only [if_neg c8] at hj
          refine xei_ne_f rfl c8 ?_
          exact xeb 1 rfl hj
noncomputable def f_Clues_isSo (F : Nat) (I : XI) (a1 : Int32) (a2 : Int32) (a3 : Int32) : Option (Int32) :=
  f_Clues_isSo_6 F I F a1 a2 a3 1 0
theorem g_Clues_isSo {X : XX} {d : Nat} {L : XL} {F : Nat} {I : XI} {a1 : Int32} {a2 : Int32} {a3 : Int32}  (r : Int32) (h : f_Clues_isSo F I a1 a2 a3 = some r) : xEv X (d + 1) 271 0 [.ref 127, .int a1, .int a2, .int a3, .null, .null] [] I L (some (.int r)) I L := by
  rw [f_Clues_isSo] at h
  refine xeb 4 (pc' := 6) (ls' := [.ref 127, .int a1, .int a2, .int a3, .int 1, .int 0]) (st' := []) rfl ?_
  exact g_Clues_isSo_6 F a1 a2 a3 1 0 h
noncomputable def f_Clues_turnsOf_5 (F : Nat) (I : XI) : Nat → Int32 → Int32 → Int32 → Int32 → Option (Int32)
  | 0, _, _, _, _ => none
  | n + 1, v1, v2, v3, v4 =>
    if 4 ≤ v4 then (some v3) else ((f_Clues_isSo F I v1 v4 v2).bind fun q2 => f_Clues_turnsOf_5 F I n v1 v2 (v3 + (if q2 = 0 then 0 else 1)) (v4 + 1))
theorem g_Clues_turnsOf_5 {X : XX} {d : Nat} {L : XL} {F : Nat} {I : XI}  {r : Int32}  : ∀ (n : Nat) (v1 : Int32) (v2 : Int32) (v3 : Int32) (v4 : Int32), f_Clues_turnsOf_5 F I n v1 v2 v3 v4 = some r → xEv X (d + 2) 272 5 [.ref 127, .int v1, .int v2, .int v3, .int v4] [] I L (some (.int r)) I L := by
  intro n
  induction n with
  | zero => intro v1 v2 v3 v4 h; rw [f_Clues_turnsOf_5] at h; cases h
  | succ n ih =>
    intro v1 v2 v3 v4 h 
    rw [f_Clues_turnsOf_5] at h
    refine xeb 2 (pc' := 8) (ls' := [.ref 127, .int v1, .int v2, .int v3, .int v4]) (st' := [.int 4, .int v4]) rfl ?_
    by_cases c1 : 4 ≤ v4
    · rw [if_pos c1] at h
      refine xei_ge_t rfl c1 ?_
      refine xeb 1 (pc' := 37) (ls' := [.ref 127, .int v1, .int v2, .int v3, .int v4]) (st' := [.int v3]) rfl ?_
      obtain rfl := Option.some.inj h
      exact xeiret rfl rfl
    · rw [if_neg c1] at h
      refine xei_ge_f rfl c1 ?_
      refine xeb 5 (pc' := 17) (ls' := [.ref 127, .int v1, .int v2, .int v3, .int v4]) (st' := [.int v2, .int v4, .int v1, .ref 127, .int v3]) rfl ?_
      obtain ⟨q2, eq2, h⟩ := xbind_some h
      refine xcallV rfl xsh127 rfl rfl rfl (Nat.le_of_ble_eq_true rfl) (Nat.le_of_ble_eq_true rfl) (Nat.le_of_ble_eq_true rfl) rfl (g_Clues_isSo (d := d + 0) _ eq2) ?_
      have hj : xEv X (d + 2) 272 28 [.ref 127, .int v1, .int v2, .int v3, .int v4] [.int (if q2 = 0 then 0 else 1), .int v3] I L (some (.int r)) I L := by
        refine xeb 4 (pc' := 5) (ls' := [.ref 127, .int v1, .int v2, .int (v3 + (if q2 = 0 then 0 else 1)), .int (v4 + 1)]) (st' := []) rfl ?_
        exact ih v1 v2 (v3 + (if q2 = 0 then 0 else 1)) (v4 + 1) h
      by_cases c3 : q2 = 0
      · simp only [if_pos c3] at hj
        refine xef_eq_t rfl c3 ?_
        exact xeb 1 rfl hj
      · simp only [if_neg c3] at hj
        refine xef_eq_f rfl c3 ?_
        exact xeb 2 rfl hj
noncomputable def f_Clues_turnsOf (F : Nat) (I : XI) (a1 : Int32) (a2 : Int32) : Option (Int32) :=
  f_Clues_turnsOf_5 F I F a1 a2 0 0
theorem g_Clues_turnsOf {X : XX} {d : Nat} {L : XL} {F : Nat} {I : XI} {a1 : Int32} {a2 : Int32}  (r : Int32) (h : f_Clues_turnsOf F I a1 a2 = some r) : xEv X (d + 2) 272 0 [.ref 127, .int a1, .int a2, .null, .null] [] I L (some (.int r)) I L := by
  rw [f_Clues_turnsOf] at h
  refine xeb 4 (pc' := 5) (ls' := [.ref 127, .int a1, .int a2, .int 0, .int 0]) (st' := []) rfl ?_
  exact g_Clues_turnsOf_5 F a1 a2 0 0 h
noncomputable def f_Clues_fitting_4 (F : Nat) (I : XI) : Nat → Int32 → Int32 → Int32 → Option (Int32)
  | 0, _, _, _ => none
  | n + 1, v1, v2, v3 =>
    if (I 17 2) ≤ v3 then (some v2) else ((f_Clues_turnsOf F I v3 v1).bind fun q2 => f_Clues_fitting_4 F I n v1 (v2 + q2) (v3 + 1))
theorem g_Clues_fitting_4 {X : XX} {d : Nat} {L : XL} {F : Nat} {I : XI}  {r : Int32}  : ∀ (n : Nat) (v1 : Int32) (v2 : Int32) (v3 : Int32), f_Clues_fitting_4 F I n v1 v2 v3 = some r → xEv X (d + 3) 273 4 [.ref 127, .int v1, .int v2, .int v3] [] I L (some (.int r)) I L := by
  intro n
  induction n with
  | zero => intro v1 v2 v3 h; rw [f_Clues_fitting_4] at h; cases h
  | succ n ih =>
    intro v1 v2 v3 h 
    rw [f_Clues_fitting_4] at h
    refine xeb 2 (pc' := 6) (ls' := [.ref 127, .int v1, .int v2, .int v3]) (st' := [.ref 127, .int v3]) rfl ?_
    refine xegf2 rfl xsh127 (by decide) rfl ?_
    refine xegf10 rfl xsh17 (by decide) ?_
    by_cases c1 : (I 17 2) ≤ v3
    · rw [if_pos c1] at h
      refine xei_ge_t rfl c1 ?_
      refine xeb 1 (pc' := 31) (ls' := [.ref 127, .int v1, .int v2, .int v3]) (st' := [.int v2]) rfl ?_
      obtain rfl := Option.some.inj h
      exact xeiret rfl rfl
    · rw [if_neg c1] at h
      refine xei_ge_f rfl c1 ?_
      refine xeb 4 (pc' := 19) (ls' := [.ref 127, .int v1, .int v2, .int v3]) (st' := [.int v1, .int v3, .ref 127, .int v2]) rfl ?_
      obtain ⟨q2, eq2, h⟩ := xbind_some h
      refine xcallV rfl xsh127 rfl rfl rfl (Nat.le_of_ble_eq_true rfl) (Nat.le_of_ble_eq_true rfl) (Nat.le_of_ble_eq_true rfl) rfl (g_Clues_turnsOf (d := d + 0) _ eq2) ?_
      refine xeb 4 (pc' := 4) (ls' := [.ref 127, .int v1, .int (v2 + q2), .int (v3 + 1)]) (st' := []) rfl ?_
      exact ih v1 (v2 + q2) (v3 + 1) h
noncomputable def f_Clues_fitting (F : Nat) (I : XI) (a1 : Int32) : Option (Int32) :=
  f_Clues_fitting_4 F I F a1 0 0
theorem g_Clues_fitting {X : XX} {d : Nat} {L : XL} {F : Nat} {I : XI} {a1 : Int32}  (r : Int32) (h : f_Clues_fitting F I a1 = some r) : xEv X (d + 3) 273 0 [.ref 127, .int a1, .null, .null] [] I L (some (.int r)) I L := by
  rw [f_Clues_fitting] at h
  refine xeb 4 (pc' := 4) (ls' := [.ref 127, .int a1, .int 0, .int 0]) (st' := []) rfl ?_
  exact g_Clues_fitting_4 F a1 0 0 h
noncomputable def f_H_missing (F : Nat) (I : XI) (a1 : Int32) : Option (Int32) :=
  (f_Clues_knows I a1).bind fun q1 => if q1 = 0 then (some (-1)) else ((f_Clues_fitting F I a1).bind fun q3 => some q3)
theorem g_H_missing {X : XX} {d : Nat} {L : XL} {F : Nat} {I : XI} {a1 : Int32}  (r : Int32) (h : f_H_missing F I a1 = some r) : xEv X (d + 4) 274 0 [.ref 0, .int a1] [] I L (some (.int r)) I L := by
  rw [f_H_missing] at h
  refine xeb 1 (pc' := 1) (ls' := [.ref 0, .int a1]) (st' := [.ref 0]) rfl ?_
  refine xegf2 rfl xsh0 (by decide) rfl ?_
  refine xeb 1 (pc' := 5) (ls' := [.ref 0, .int a1]) (st' := [.int a1, .ref 127]) rfl ?_
  obtain ⟨q1, eq1, h⟩ := xbind_some h
  refine xcallV rfl xsh127 rfl rfl rfl (Nat.le_of_ble_eq_true rfl) (Nat.le_of_ble_eq_true rfl) (Nat.le_of_ble_eq_true rfl) rfl (g_Clues_knows (d := d + 3) _ eq1) ?_
  by_cases c2 : q1 = 0
  · rw [if_pos c2] at h
    refine xef_eq_t rfl c2 ?_
    refine xeb 1 (pc' := 23) (ls' := [.ref 0, .int a1]) (st' := [.int (-1)]) rfl ?_
    obtain rfl := Option.some.inj h
    exact xeiret rfl rfl
  · rw [if_neg c2] at h
    refine xef_eq_f rfl c2 ?_
    refine xeb 1 (pc' := 12) (ls' := [.ref 0, .int a1]) (st' := [.ref 0]) rfl ?_
    refine xegf2 rfl xsh0 (by decide) rfl ?_
    refine xeb 1 (pc' := 16) (ls' := [.ref 0, .int a1]) (st' := [.int a1, .ref 127]) rfl ?_
    obtain ⟨q3, eq3, h⟩ := xbind_some h
    refine xcallV rfl xsh127 rfl rfl rfl (Nat.le_of_ble_eq_true rfl) (Nat.le_of_ble_eq_true rfl) (Nat.le_of_ble_eq_true rfl) rfl (g_Clues_fitting (d := d + 0) _ eq3) ?_
    refine xeb 1 (pc' := 23) (ls' := [.ref 0, .int a1]) (st' := [.int q3]) rfl ?_
    obtain rfl := Option.some.inj h
    exact xeiret rfl rfl
noncomputable def f_M_isSo_2 (F : Nat) (I : XI) : Nat → Int32 → Int32 → Int32 → Option (Int32)
  | 0, _, _, _ => none
  | n + 1, v1, v2, v3 =>
    if v2 ≤ v3 then (some 1) else (xck (xin v3 20) ((f_M_turned I (v1 / 4) (v1 - v1 / 4 * 4) (I 170 (xN v3))).bind fun q3 => xck (xin v3 20) (if q3 = (I 171 (xN v3)) then (f_M_isSo_2 F I n v1 v2 (v3 + 1)) else (some 0))))
theorem g_M_isSo_2 {X : XX} {d : Nat} {L : XL} {F : Nat} {I : XI}  {r : Int32}  : ∀ (n : Nat) (v1 : Int32) (v2 : Int32) (v3 : Int32), f_M_isSo_2 F I n v1 v2 v3 = some r → xEv X (d + 1) 275 2 [.ref 131, .int v1, .int v2, .int v3] [] I L (some (.int r)) I L := by
  intro n
  induction n with
  | zero => intro v1 v2 v3 h; rw [f_M_isSo_2] at h; cases h
  | succ n ih =>
    intro v1 v2 v3 h 
    rw [f_M_isSo_2] at h
    refine xeb 2 (pc' := 4) (ls' := [.ref 131, .int v1, .int v2, .int v3]) (st' := [.int v2, .int v3]) rfl ?_
    by_cases c1 : v2 ≤ v3
    · rw [if_pos c1] at h
      refine xei_ge_t rfl c1 ?_
      refine xeb 1 (pc' := 41) (ls' := [.ref 131, .int v1, .int v2, .int v3]) (st' := [.int 1]) rfl ?_
      obtain rfl := Option.some.inj h
      exact xeiret rfl rfl
    · rw [if_neg c1] at h
      refine xei_ge_f rfl c1 ?_
      refine xeb 8 (pc' := 15) (ls' := [.ref 131, .int v1, .int v2, .int v3]) (st' := [.ref 131, .int (v1 - v1 / 4 * 4), .int (v1 / 4), .ref 131]) rfl ?_
      refine xegf2 rfl xsh131 (by decide) rfl ?_
      refine xeb 1 (pc' := 19) (ls' := [.ref 131, .int v1, .int v2, .int v3]) (st' := [.int v3, .ref 170, .int (v1 - v1 / 4 * 4), .int (v1 / 4), .ref 131]) rfl ?_
      obtain ⟨b2, h⟩ := xck_some h
      refine xeia rfl xsh170 b2 ?_
      obtain ⟨q3, eq3, h⟩ := xbind_some h
      refine xcallV rfl xsh131 rfl rfl rfl (Nat.le_of_ble_eq_true rfl) (Nat.le_of_ble_eq_true rfl) (Nat.le_of_ble_eq_true rfl) rfl (g_M_turned (d := d + 0) _ eq3) ?_
      refine xeb 1 (pc' := 24) (ls' := [.ref 131, .int v1, .int v2, .int v3]) (st' := [.ref 131, .int q3]) rfl ?_
      refine xegf2 rfl xsh131 (by decide) rfl ?_
      refine xeb 1 (pc' := 28) (ls' := [.ref 131, .int v1, .int v2, .int v3]) (st' := [.int v3, .ref 171, .int q3]) rfl ?_
      obtain ⟨b4, h⟩ := xck_some h
      refine xeia rfl xsh171 b4 ?_
      by_cases c5 : q3 = (I 171 (xN v3))
      · rw [if_pos c5] at h
        refine xei_eq_t rfl c5 ?_
        refine xeb 2 (pc' := 2) (ls' := [.ref 131, .int v1, .int v2, .int (v3 + 1)]) (st' := []) rfl ?_
        exact ih v1 v2 (v3 + 1) h
      · rw [if_neg c5] at h
        refine xei_eq_f rfl c5 ?_
        refine xeb 1 (pc' := 33) (ls' := [.ref 131, .int v1, .int v2, .int v3]) (st' := [.int 0]) rfl ?_
        obtain rfl := Option.some.inj h
        exact xeiret rfl rfl
noncomputable def f_M_isSo (F : Nat) (I : XI) (a1 : Int32) (a2 : Int32) : Option (Int32) :=
  f_M_isSo_2 F I F a1 a2 0
theorem g_M_isSo {X : XX} {d : Nat} {L : XL} {F : Nat} {I : XI} {a1 : Int32} {a2 : Int32}  (r : Int32) (h : f_M_isSo F I a1 a2 = some r) : xEv X (d + 1) 275 0 [.ref 131, .int a1, .int a2, .null] [] I L (some (.int r)) I L := by
  rw [f_M_isSo] at h
  refine xeb 2 (pc' := 2) (ls' := [.ref 131, .int a1, .int a2, .int 0]) (st' := []) rfl ?_
  exact g_M_isSo_2 F a1 a2 0 h
noncomputable def f_M_missing_18 (F : Nat) (I : XI) : Nat → Int32 → Int32 → Int32 → Option (Int32)
  | 0, _, _, _ => none
  | n + 1, v1, v2, v3 =>
    xck (xin (I 131 18) 2) (if (4 * (I 146 (xN (I 131 18)))) ≤ v3 then (some v2) else ((f_M_isSo F I v3 v1).bind fun q5 => f_M_missing_18 F I n v1 (if q5 = 0 then v2 else (v2 + 1)) (v3 + 1)))
theorem g_M_missing_18 {X : XX} {d : Nat} {L : XL} {F : Nat} {I : XI}  {r : Int32}  : ∀ (n : Nat) (v1 : Int32) (v2 : Int32) (v3 : Int32), f_M_missing_18 F I n v1 v2 v3 = some r → xEv X (d + 2) 276 18 [.ref 131, .int v1, .int v2, .int v3] [] I L (some (.int r)) I L := by
  intro n
  induction n with
  | zero => intro v1 v2 v3 h; rw [f_M_missing_18] at h; cases h
  | succ n ih =>
    intro v1 v2 v3 h 
    rw [f_M_missing_18] at h
    refine xeb 3 (pc' := 21) (ls' := [.ref 131, .int v1, .int v2, .int v3]) (st' := [.ref 131, .int 4, .int v3]) rfl ?_
    refine xegf2 rfl xsh131 (by decide) rfl ?_
    refine xeb 1 (pc' := 25) (ls' := [.ref 131, .int v1, .int v2, .int v3]) (st' := [.ref 131, .ref 146, .int 4, .int v3]) rfl ?_
    refine xegf0 rfl xsh131 (by decide) ?_
    obtain ⟨b3, h⟩ := xck_some h
    refine xeia rfl xsh146 b3 ?_
    refine xeb 1 (pc' := 30) (ls' := [.ref 131, .int v1, .int v2, .int v3]) (st' := [.int (4 * (I 146 (xN (I 131 18)))), .int v3]) rfl ?_
    by_cases c4 : (4 * (I 146 (xN (I 131 18)))) ≤ v3
    · rw [if_pos c4] at h
      refine xei_ge_t rfl c4 ?_
      refine xeb 1 (pc' := 52) (ls' := [.ref 131, .int v1, .int v2, .int v3]) (st' := [.int v2]) rfl ?_
      obtain rfl := Option.some.inj h
      exact xeiret rfl rfl
    · rw [if_neg c4] at h
      refine xei_ge_f rfl c4 ?_
      refine xeb 3 (pc' := 36) (ls' := [.ref 131, .int v1, .int v2, .int v3]) (st' := [.int v1, .int v3, .ref 131]) rfl ?_
      obtain ⟨q5, eq5, h⟩ := xbind_some h
      refine xcallV rfl xsh131 rfl rfl rfl (Nat.le_of_ble_eq_true rfl) (Nat.le_of_ble_eq_true rfl) (Nat.le_of_ble_eq_true rfl) rfl (g_M_isSo (d := d + 0) _ eq5) ?_
      have hj : xEv X (d + 2) 276 45 [.ref 131, .int v1, .int (if q5 = 0 then v2 else (v2 + 1)), .int v3] [] I L (some (.int r)) I L := by
        refine xeb 2 (pc' := 18) (ls' := [.ref 131, .int v1, .int (if q5 = 0 then v2 else (v2 + 1)), .int (v3 + 1)]) (st' := []) rfl ?_
        exact ih v1 (if q5 = 0 then v2 else (v2 + 1)) (v3 + 1) h
      by_cases c6 : q5 = 0
      · simp only [if_pos c6] at hj
        refine xef_eq_t rfl c6 ?_
        exact xeb 0 rfl hj
      · simp only [if_neg c6] at hj
        refine xef_eq_f rfl c6 ?_
        exact xeb 1 rfl hj
noncomputable def f_M_missing (F : Nat) (I : XI) (a1 : Int32) : Option (Int32) :=
  (f_M_in a1 0 (I 131 59)).bind fun q1 => if q1 = 0 then (some (-1)) else (f_M_missing_18 F I F a1 0 0)
theorem g_M_missing {X : XX} {d : Nat} {L : XL} {F : Nat} {I : XI} {a1 : Int32}  (r : Int32) (h : f_M_missing F I a1 = some r) : xEv X (d + 2) 276 0 [.ref 131, .int a1, .null, .null] [] I L (some (.int r)) I L := by
  rw [f_M_missing] at h
  refine xeb 3 (pc' := 3) (ls' := [.ref 131, .int a1, .null, .null]) (st' := [.ref 131, .int 0, .int a1]) rfl ?_
  refine xegf0 rfl xsh131 (by decide) ?_
  obtain ⟨q1, eq1, h⟩ := xbind_some h
  refine xcallS20 rfl rfl rfl (Nat.le_of_ble_eq_true rfl) (Nat.le_of_ble_eq_true rfl) (Nat.le_of_ble_eq_true rfl) rfl (g_M_in (d := d + 1) _ eq1) ?_
  by_cases c2 : q1 = 0
  · rw [if_pos c2] at h
    refine xef_ne_t rfl c2 ?_
    refine xeb 1 (pc' := 13) (ls' := [.ref 131, .int a1, .null, .null]) (st' := [.int (-1)]) rfl ?_
    obtain rfl := Option.some.inj h
    exact xeiret rfl rfl
  · rw [if_neg c2] at h
    refine xef_ne_f rfl c2 ?_
    refine xeb 4 (pc' := 18) (ls' := [.ref 131, .int a1, .int 0, .int 0]) (st' := []) rfl ?_
    exact g_M_missing_18 F a1 0 0 h
noncomputable def f_Clues_onlySpare_5 (F : Nat) (I : XI) : Nat → Int32 → Int32 → Int32 → Option (Int32)
  | 0, _, _, _ => none
  | n + 1, v1, v2, v3 =>
    if (I 17 2) ≤ v3 then (some v2) else ((f_Clues_turnsOf F I v3 v1).bind fun q2 => if q2 ≤ 0 then (f_Clues_onlySpare_5 F I n v1 v2 (v3 + 1)) else (if v2 = (-2) then (f_Clues_onlySpare_5 F I n v1 v3 (v3 + 1)) else (some (-2))))
theorem g_Clues_onlySpare_5 {X : XX} {d : Nat} {L : XL} {F : Nat} {I : XI}  {r : Int32}  : ∀ (n : Nat) (v1 : Int32) (v2 : Int32) (v3 : Int32), f_Clues_onlySpare_5 F I n v1 v2 v3 = some r → xEv X (d + 3) 277 5 [.ref 127, .int v1, .int v2, .int v3] [] I L (some (.int r)) I L := by
  intro n
  induction n with
  | zero => intro v1 v2 v3 h; rw [f_Clues_onlySpare_5] at h; cases h
  | succ n ih =>
    intro v1 v2 v3 h 
    rw [f_Clues_onlySpare_5] at h
    refine xeb 2 (pc' := 7) (ls' := [.ref 127, .int v1, .int v2, .int v3]) (st' := [.ref 127, .int v3]) rfl ?_
    refine xegf2 rfl xsh127 (by decide) rfl ?_
    refine xegf10 rfl xsh17 (by decide) ?_
    by_cases c1 : (I 17 2) ≤ v3
    · rw [if_pos c1] at h
      refine xei_ge_t rfl c1 ?_
      refine xeb 1 (pc' := 43) (ls' := [.ref 127, .int v1, .int v2, .int v3]) (st' := [.int v2]) rfl ?_
      obtain rfl := Option.some.inj h
      exact xeiret rfl rfl
    · rw [if_neg c1] at h
      refine xei_ge_f rfl c1 ?_
      refine xeb 3 (pc' := 19) (ls' := [.ref 127, .int v1, .int v2, .int v3]) (st' := [.int v1, .int v3, .ref 127]) rfl ?_
      obtain ⟨q2, eq2, h⟩ := xbind_some h
      refine xcallV rfl xsh127 rfl rfl rfl (Nat.le_of_ble_eq_true rfl) (Nat.le_of_ble_eq_true rfl) (Nat.le_of_ble_eq_true rfl) rfl (g_Clues_turnsOf (d := d + 0) _ eq2) ?_
      by_cases c3 : q2 ≤ 0
      · rw [if_pos c3] at h
        refine xef_le_t rfl c3 ?_
        refine xeb 2 (pc' := 5) (ls' := [.ref 127, .int v1, .int v2, .int (v3 + 1)]) (st' := []) rfl ?_
        exact ih v1 v2 (v3 + 1) h
      · rw [if_neg c3] at h
        refine xef_le_f rfl c3 ?_
        refine xeb 2 (pc' := 28) (ls' := [.ref 127, .int v1, .int v2, .int v3]) (st' := [.int (-2), .int v2]) rfl ?_
        by_cases c4 : v2 = (-2)
        · rw [if_pos c4] at h
          refine xei_eq_t rfl c4 ?_
          refine xeb 4 (pc' := 5) (ls' := [.ref 127, .int v1, .int v3, .int (v3 + 1)]) (st' := []) rfl ?_
          exact ih v1 v3 (v3 + 1) h
        · rw [if_neg c4] at h
          refine xei_eq_f rfl c4 ?_
          refine xeb 1 (pc' := 33) (ls' := [.ref 127, .int v1, .int v2, .int v3]) (st' := [.int (-2)]) rfl ?_
          obtain rfl := Option.some.inj h
          exact xeiret rfl rfl
noncomputable def f_Clues_onlySpare (F : Nat) (I : XI) (a1 : Int32) : Option (Int32) :=
  f_Clues_onlySpare_5 F I F a1 (-2) 0
theorem g_Clues_onlySpare {X : XX} {d : Nat} {L : XL} {F : Nat} {I : XI} {a1 : Int32}  (r : Int32) (h : f_Clues_onlySpare F I a1 = some r) : xEv X (d + 3) 277 0 [.ref 127, .int a1, .null, .null] [] I L (some (.int r)) I L := by
  rw [f_Clues_onlySpare] at h
  refine xeb 4 (pc' := 5) (ls' := [.ref 127, .int a1, .int (-2), .int 0]) (st' := []) rfl ?_
  exact g_Clues_onlySpare_5 F a1 (-2) 0 h
noncomputable def f_H_sure (F : Nat) (I : XI) (a1 : Int32) : Option (Int32) :=
  (f_Clues_knows I a1).bind fun q1 => if q1 = 0 then (some (-1)) else ((f_Clues_onlySpare F I a1).bind fun q3 => some q3)
theorem g_H_sure {X : XX} {d : Nat} {L : XL} {F : Nat} {I : XI} {a1 : Int32}  (r : Int32) (h : f_H_sure F I a1 = some r) : xEv X (d + 4) 278 0 [.ref 0, .int a1] [] I L (some (.int r)) I L := by
  rw [f_H_sure] at h
  refine xeb 1 (pc' := 1) (ls' := [.ref 0, .int a1]) (st' := [.ref 0]) rfl ?_
  refine xegf2 rfl xsh0 (by decide) rfl ?_
  refine xeb 1 (pc' := 5) (ls' := [.ref 0, .int a1]) (st' := [.int a1, .ref 127]) rfl ?_
  obtain ⟨q1, eq1, h⟩ := xbind_some h
  refine xcallV rfl xsh127 rfl rfl rfl (Nat.le_of_ble_eq_true rfl) (Nat.le_of_ble_eq_true rfl) (Nat.le_of_ble_eq_true rfl) rfl (g_Clues_knows (d := d + 3) _ eq1) ?_
  by_cases c2 : q1 = 0
  · rw [if_pos c2] at h
    refine xef_eq_t rfl c2 ?_
    refine xeb 1 (pc' := 23) (ls' := [.ref 0, .int a1]) (st' := [.int (-1)]) rfl ?_
    obtain rfl := Option.some.inj h
    exact xeiret rfl rfl
  · rw [if_neg c2] at h
    refine xef_eq_f rfl c2 ?_
    refine xeb 1 (pc' := 12) (ls' := [.ref 0, .int a1]) (st' := [.ref 0]) rfl ?_
    refine xegf2 rfl xsh0 (by decide) rfl ?_
    refine xeb 1 (pc' := 16) (ls' := [.ref 0, .int a1]) (st' := [.int a1, .ref 127]) rfl ?_
    obtain ⟨q3, eq3, h⟩ := xbind_some h
    refine xcallV rfl xsh127 rfl rfl rfl (Nat.le_of_ble_eq_true rfl) (Nat.le_of_ble_eq_true rfl) (Nat.le_of_ble_eq_true rfl) rfl (g_Clues_onlySpare (d := d + 0) _ eq3) ?_
    refine xeb 1 (pc' := 23) (ls' := [.ref 0, .int a1]) (st' := [.int q3]) rfl ?_
    obtain rfl := Option.some.inj h
    exact xeiret rfl rfl
noncomputable def f_M_sure_19 (F : Nat) (I : XI) : Nat → Int32 → Int32 → Int32 → Option (Int32)
  | 0, _, _, _ => none
  | n + 1, v1, v2, v3 =>
    xck (xin (I 131 18) 2) (if (4 * (I 146 (xN (I 131 18)))) ≤ v3 then (some v2) else ((f_M_isSo F I v3 v1).bind fun q5 => if q5 = 0 then (f_M_sure_19 F I n v1 v2 (v3 + 1)) else (if v2 < 0 then (f_M_sure_19 F I n v1 (v3 / 4) (v3 + 1)) else (if v2 = (v3 / 4) then (f_M_sure_19 F I n v1 (v3 / 4) (v3 + 1)) else (some (-2))))))
theorem g_M_sure_19 {X : XX} {d : Nat} {L : XL} {F : Nat} {I : XI}  {r : Int32}  : ∀ (n : Nat) (v1 : Int32) (v2 : Int32) (v3 : Int32), f_M_sure_19 F I n v1 v2 v3 = some r → xEv X (d + 2) 279 19 [.ref 131, .int v1, .int v2, .int v3] [] I L (some (.int r)) I L := by
  intro n
  induction n with
  | zero => intro v1 v2 v3 h; rw [f_M_sure_19] at h; cases h
  | succ n ih =>
    intro v1 v2 v3 h 
    rw [f_M_sure_19] at h
    refine xeb 3 (pc' := 22) (ls' := [.ref 131, .int v1, .int v2, .int v3]) (st' := [.ref 131, .int 4, .int v3]) rfl ?_
    refine xegf2 rfl xsh131 (by decide) rfl ?_
    refine xeb 1 (pc' := 26) (ls' := [.ref 131, .int v1, .int v2, .int v3]) (st' := [.ref 131, .ref 146, .int 4, .int v3]) rfl ?_
    refine xegf0 rfl xsh131 (by decide) ?_
    obtain ⟨b3, h⟩ := xck_some h
    refine xeia rfl xsh146 b3 ?_
    refine xeb 1 (pc' := 31) (ls' := [.ref 131, .int v1, .int v2, .int v3]) (st' := [.int (4 * (I 146 (xN (I 131 18)))), .int v3]) rfl ?_
    by_cases c4 : (4 * (I 146 (xN (I 131 18)))) ≤ v3
    · rw [if_pos c4] at h
      refine xei_ge_t rfl c4 ?_
      refine xeb 1 (pc' := 71) (ls' := [.ref 131, .int v1, .int v2, .int v3]) (st' := [.int v2]) rfl ?_
      obtain rfl := Option.some.inj h
      exact xeiret rfl rfl
    · rw [if_neg c4] at h
      refine xei_ge_f rfl c4 ?_
      refine xeb 3 (pc' := 37) (ls' := [.ref 131, .int v1, .int v2, .int v3]) (st' := [.int v1, .int v3, .ref 131]) rfl ?_
      obtain ⟨q5, eq5, h⟩ := xbind_some h
      refine xcallV rfl xsh131 rfl rfl rfl (Nat.le_of_ble_eq_true rfl) (Nat.le_of_ble_eq_true rfl) (Nat.le_of_ble_eq_true rfl) rfl (g_M_isSo (d := d + 0) _ eq5) ?_
      by_cases c6 : q5 = 0
      · rw [if_pos c6] at h
        refine xef_ne_t rfl c6 ?_
        refine xeb 3 (pc' := 19) (ls' := [.ref 131, .int v1, .int v2, .int (v3 + 1)]) (st' := []) rfl ?_
        exact ih v1 v2 (v3 + 1) h
      · rw [if_neg c6] at h
        refine xef_ne_f rfl c6 ?_
        refine xeb 1 (pc' := 47) (ls' := [.ref 131, .int v1, .int v2, .int v3]) (st' := [.int v2]) rfl ?_
        by_cases c7 : v2 < 0
        · rw [if_pos c7] at h
          refine xef_lt_t rfl c7 ?_
          refine xeb 6 (pc' := 19) (ls' := [.ref 131, .int v1, .int (v3 / 4), .int (v3 + 1)]) (st' := []) rfl ?_
          exact ih v1 (v3 / 4) (v3 + 1) h
        · rw [if_neg c7] at h
          refine xef_lt_f rfl c7 ?_
          refine xeb 4 (pc' := 54) (ls' := [.ref 131, .int v1, .int v2, .int v3]) (st' := [.int (v3 / 4), .int v2]) rfl ?_
          by_cases c8 : v2 = (v3 / 4)
          · rw [if_pos c8] at h
            refine xei_eq_t rfl c8 ?_
            refine xeb 6 (pc' := 19) (ls' := [.ref 131, .int v1, .int (v3 / 4), .int (v3 + 1)]) (st' := []) rfl ?_
            exact ih v1 (v3 / 4) (v3 + 1) h
          · rw [if_neg c8] at h
            refine xei_eq_f rfl c8 ?_
            refine xeb 1 (pc' := 59) (ls' := [.ref 131, .int v1, .int v2, .int v3]) (st' := [.int (-2)]) rfl ?_
            obtain rfl := Option.some.inj h
            exact xeiret rfl rfl
noncomputable def f_M_sure (F : Nat) (I : XI) (a1 : Int32) : Option (Int32) :=
  (f_M_in a1 0 (I 131 59)).bind fun q1 => if q1 = 0 then (some (-1)) else (f_M_sure_19 F I F a1 (-2) 0)
theorem g_M_sure {X : XX} {d : Nat} {L : XL} {F : Nat} {I : XI} {a1 : Int32}  (r : Int32) (h : f_M_sure F I a1 = some r) : xEv X (d + 2) 279 0 [.ref 131, .int a1, .null, .null] [] I L (some (.int r)) I L := by
  rw [f_M_sure] at h
  refine xeb 3 (pc' := 3) (ls' := [.ref 131, .int a1, .null, .null]) (st' := [.ref 131, .int 0, .int a1]) rfl ?_
  refine xegf0 rfl xsh131 (by decide) ?_
  obtain ⟨q1, eq1, h⟩ := xbind_some h
  refine xcallS20 rfl rfl rfl (Nat.le_of_ble_eq_true rfl) (Nat.le_of_ble_eq_true rfl) (Nat.le_of_ble_eq_true rfl) rfl (g_M_in (d := d + 1) _ eq1) ?_
  by_cases c2 : q1 = 0
  · rw [if_pos c2] at h
    refine xef_ne_t rfl c2 ?_
    refine xeb 1 (pc' := 13) (ls' := [.ref 131, .int a1, .null, .null]) (st' := [.int (-1)]) rfl ?_
    obtain rfl := Option.some.inj h
    exact xeiret rfl rfl
  · rw [if_neg c2] at h
    refine xef_ne_f rfl c2 ?_
    refine xeb 4 (pc' := 19) (ls' := [.ref 131, .int a1, .int (-2), .int 0]) (st' := []) rfl ?_
    exact g_M_sure_19 F a1 (-2) 0 h
noncomputable def f_Clues_worstOf_28 (F : Nat) (k13 : Int32 → Int32 → Int32 → Int32 → XI → Option (Int32 × XI)) : Nat → Int32 → Int32 → Int32 → Int32 → Int32 → XI → Option (Int32 × XI)
  | 0, _, _, _, _, _, _ => none
  | n + 1, v1, v2, v3, v4, v5, I =>
    if 4 ≤ v5 then (k13 v1 v2 v3 (v4 + 1) I) else ((f_Clues_isSo F I v4 v5 v2).bind fun q4 => if q4 = 0 then (f_Clues_worstOf_28 F k13 n v1 v2 v3 v4 (v5 + 1) I) else ((f_Table_spareKnob 17 I v4 v5 v1).bind fun q6 => xck (xin (3 + q6) 7) (xck (xin (3 + q6) 7) (xst (xput I 130 (xN (3 + q6)) ((I 130 (xN (3 + q6))) + 1)) fun I9 => xck (xin (3 + q6) 7) (f_Clues_worstOf_28 F k13 n v1 v2 (if v3 < (I9 130 (xN (3 + q6))) then (I9 130 (xN (3 + q6))) else v3) v4 (v5 + 1) I9)))))
theorem g_Clues_worstOf_28 {X : XX} {d : Nat} {L : XL} {F : Nat} {k13 : Int32 → Int32 → Int32 → Int32 → XI → Option (Int32 × XI)}  {r : Int32 × XI} (hk13 : ∀ (v1 : Int32) (v2 : Int32) (v3 : Int32) (v4 : Int32) (I : XI), k13 v1 v2 v3 v4 I = some r → ∀ (z5 : Value) (z6 : Value), xEv X (d + 2) 280 13 [.ref 127, .int v1, .int v2, .int v3, .int v4, z5, z6] [] I L (some (.int r.1)) r.2 L) : ∀ (n : Nat) (v1 : Int32) (v2 : Int32) (v3 : Int32) (v4 : Int32) (v5 : Int32) (I : XI), f_Clues_worstOf_28 F k13 n v1 v2 v3 v4 v5 I = some r → ∀ (z6 : Value), xEv X (d + 2) 280 28 [.ref 127, .int v1, .int v2, .int v3, .int v4, .int v5, z6] [] I L (some (.int r.1)) r.2 L := by
  intro n
  induction n with
  | zero => intro v1 v2 v3 v4 v5 I h; rw [f_Clues_worstOf_28] at h; cases h
  | succ n ih =>
    intro v1 v2 v3 v4 v5 I h z6
    rw [f_Clues_worstOf_28] at h
    refine xeb 2 (pc' := 31) (ls' := [.ref 127, .int v1, .int v2, .int v3, .int v4, .int v5, z6]) (st' := [.int 4, .int v5]) rfl ?_
    by_cases c3 : 4 ≤ v5
    · rw [if_pos c3] at h
      refine xei_ge_t rfl c3 ?_
      refine xeb 2 (pc' := 13) (ls' := [.ref 127, .int v1, .int v2, .int v3, .int (v4 + 1), .int v5, z6]) (st' := []) rfl ?_
      exact hk13 v1 v2 v3 (v4 + 1) I h _ _
    · rw [if_neg c3] at h
      refine xei_ge_f rfl c3 ?_
      refine xeb 4 (pc' := 40) (ls' := [.ref 127, .int v1, .int v2, .int v3, .int v4, .int v5, z6]) (st' := [.int v2, .int v5, .int v4, .ref 127]) rfl ?_
      obtain ⟨q4, eq4, h⟩ := xbind_some h
      refine xcallV rfl xsh127 rfl rfl rfl (Nat.le_of_ble_eq_true rfl) (Nat.le_of_ble_eq_true rfl) (Nat.le_of_ble_eq_true rfl) rfl (g_Clues_isSo (d := d + 0) _ eq4) ?_
      by_cases c5 : q4 = 0
      · rw [if_pos c5] at h
        refine xef_eq_t rfl c5 ?_
        refine xeb 2 (pc' := 28) (ls' := [.ref 127, .int v1, .int v2, .int v3, .int v4, .int (v5 + 1), z6]) (st' := []) rfl ?_
        exact ih v1 v2 v3 v4 (v5 + 1) I h _
      · rw [if_neg c5] at h
        refine xef_eq_f rfl c5 ?_
        refine xeb 2 (pc' := 48) (ls' := [.ref 127, .int v1, .int v2, .int v3, .int v4, .int v5, z6]) (st' := [.ref 127, .int 3]) rfl ?_
        refine xegf2 rfl xsh127 (by decide) rfl ?_
        refine xeb 3 (pc' := 56) (ls' := [.ref 127, .int v1, .int v2, .int v3, .int v4, .int v5, z6]) (st' := [.int v1, .int v5, .int v4, .ref 17, .int 3]) rfl ?_
        obtain ⟨q6, eq6, h⟩ := xbind_some h
        refine xcallV rfl xsh17 rfl rfl rfl (Nat.le_of_ble_eq_true rfl) (Nat.le_of_ble_eq_true rfl) (Nat.le_of_ble_eq_true rfl) rfl (g_Table_spareKnob (d := d + 1) xis17 _ eq6) ?_
        refine xeb 3 (pc' := 63) (ls' := [.ref 127, .int v1, .int v2, .int v3, .int v4, .int v5, .int (3 + q6)]) (st' := [.ref 127]) rfl ?_
        refine xegf2 rfl xsh127 (by decide) rfl ?_
        refine xeb 2 (pc' := 69) (ls' := [.ref 127, .int v1, .int v2, .int v3, .int v4, .int v5, .int (3 + q6)]) (st' := [.int (3 + q6), .ref 130, .int (3 + q6), .ref 130]) rfl ?_
        obtain ⟨b7, h⟩ := xck_some h
        refine xeia rfl xsh130 b7 ?_
        refine xeb 2 (pc' := 72) (ls' := [.ref 127, .int v1, .int v2, .int v3, .int v4, .int v5, .int (3 + q6)]) (st' := [.int ((I 130 (xN (3 + q6))) + 1), .int (3 + q6), .ref 130]) rfl ?_
        obtain ⟨b8, h⟩ := xck_some h
        refine xeis rfl xsh130 b8 ?_
        obtain ⟨I9, hI9, h⟩ := xst_some h
        rw [← hI9]
        refine xeb 2 (pc' := 75) (ls' := [.ref 127, .int v1, .int v2, .int v3, .int v4, .int v5, .int (3 + q6)]) (st' := [.ref 127, .int v3]) rfl ?_
        refine xegf2 rfl xsh127 (by decide) rfl ?_
        refine xeb 1 (pc' := 80) (ls' := [.ref 127, .int v1, .int v2, .int v3, .int v4, .int v5, .int (3 + q6)]) (st' := [.int (3 + q6), .ref 130, .int v3]) rfl ?_
        obtain ⟨b10, h⟩ := xck_some h
        refine xeia rfl xsh130 b10 ?_
        refine xemax rfl (Nat.le_of_ble_eq_true rfl) ?_
        refine xeb 3 (pc' := 28) (ls' := [.ref 127, .int v1, .int v2, .int (if v3 < (I9 130 (xN (3 + q6))) then (I9 130 (xN (3 + q6))) else v3), .int v4, .int (v5 + 1), .int (3 + q6)]) (st' := []) rfl ?_
        exact ih v1 v2 (if v3 < (I9 130 (xN (3 + q6))) then (I9 130 (xN (3 + q6))) else v3) v4 (v5 + 1) I9 h _
noncomputable def f_Clues_worstOf_13 (F : Nat) : Nat → Int32 → Int32 → Int32 → Int32 → XI → Option (Int32 × XI)
  | 0, _, _, _, _, _ => none
  | n + 1, v1, v2, v3, v4, I =>
    if (I 17 2) ≤ v4 then (some (v3, I)) else (f_Clues_worstOf_28 F (fun v1 v2 v3 v4 I => f_Clues_worstOf_13 F n v1 v2 v3 v4 I) F v1 v2 v3 v4 0 I)
theorem g_Clues_worstOf_13 {X : XX} {d : Nat} {L : XL} {F : Nat}  {r : Int32 × XI}  : ∀ (n : Nat) (v1 : Int32) (v2 : Int32) (v3 : Int32) (v4 : Int32) (I : XI), f_Clues_worstOf_13 F n v1 v2 v3 v4 I = some r → ∀ (z5 : Value) (z6 : Value), xEv X (d + 2) 280 13 [.ref 127, .int v1, .int v2, .int v3, .int v4, z5, z6] [] I L (some (.int r.1)) r.2 L := by
  intro n
  induction n with
  | zero => intro v1 v2 v3 v4 I h; rw [f_Clues_worstOf_13] at h; cases h
  | succ n ih =>
    intro v1 v2 v3 v4 I h z5 z6
    rw [f_Clues_worstOf_13] at h
    refine xeb 2 (pc' := 16) (ls' := [.ref 127, .int v1, .int v2, .int v3, .int v4, z5, z6]) (st' := [.ref 127, .int v4]) rfl ?_
    refine xegf2 rfl xsh127 (by decide) rfl ?_
    refine xegf10 rfl xsh17 (by decide) ?_
    by_cases c2 : (I 17 2) ≤ v4
    · rw [if_pos c2] at h
      refine xei_ge_t rfl c2 ?_
      refine xeb 1 (pc' := 98) (ls' := [.ref 127, .int v1, .int v2, .int v3, .int v4, z5, z6]) (st' := [.int v3]) rfl ?_
      obtain rfl := Option.some.inj h
      exact xeiret rfl rfl
    · rw [if_neg c2] at h
      refine xei_ge_f rfl c2 ?_
      refine xeb 2 (pc' := 28) (ls' := [.ref 127, .int v1, .int v2, .int v3, .int v4, .int 0, z6]) (st' := []) rfl ?_
      exact g_Clues_worstOf_28 (fun v1 v2 v3 v4 I h' z5 z6 => ih v1 v2 v3 v4 I h' z5 z6) F v1 v2 v3 v4 0 I h _
noncomputable def f_Clues_worstOf (F : Nat) (a1 : Int32) (a2 : Int32) (I : XI) : Option (Int32 × XI) :=
  (f_Arrays_fill F 130 7 0 I).bind fun q1 => f_Clues_worstOf_13 F F a1 a2 0 0 q1
theorem g_Clues_worstOf {X : XX} {d : Nat} {L : XL} {F : Nat} {a1 : Int32} {a2 : Int32} {I : XI}  (r : Int32 × XI) (h : f_Clues_worstOf F a1 a2 I = some r) : xEv X (d + 2) 280 0 [.ref 127, .int a1, .int a2, .null, .null, .null, .null] [] I L (some (.int r.1)) r.2 L := by
  rw [f_Clues_worstOf] at h
  refine xeb 1 (pc' := 1) (ls' := [.ref 127, .int a1, .int a2, .null, .null, .null, .null]) (st' := [.ref 127]) rfl ?_
  refine xegf2 rfl xsh127 (by decide) rfl ?_
  refine xeb 1 (pc' := 5) (ls' := [.ref 127, .int a1, .int a2, .null, .null, .null, .null]) (st' := [.int 0, .ref 130]) rfl ?_
  obtain ⟨q1, eq1, h⟩ := xbind_some h
  refine xcallS20 rfl rfl rfl (Nat.le_of_ble_eq_true rfl) (Nat.le_of_ble_eq_true rfl) (Nat.le_of_ble_eq_true rfl) rfl (g_Arrays_fill (d := d + 1) xsh130 _ eq1) ?_
  refine xeb 4 (pc' := 13) (ls' := [.ref 127, .int a1, .int a2, .int 0, .int 0, .null, .null]) (st' := []) rfl ?_
  exact g_Clues_worstOf_13 F a1 a2 0 0 q1 h _ _
noncomputable def f_Clues_bestSide_15 (F : Nat) : Nat → Int32 → Int32 → Int32 → XI → Option (Int32 × XI)
  | 0, _, _, _, _ => none
  | n + 1, v1, v2, v3, I =>
    if 4 ≤ v3 then (some (v2, I)) else ((f_Clues_worstOf F v3 v1 I).bind fun q4 => (f_Clues_worstOf F v2 v1 q4.2).bind fun q5 => f_Clues_bestSide_15 F n v1 (if q5.1 ≤ q4.1 then v2 else v3) (v3 + 1) q5.2)
theorem g_Clues_bestSide_15 {X : XX} {d : Nat} {L : XL} {F : Nat}  {r : Int32 × XI}  : ∀ (n : Nat) (v1 : Int32) (v2 : Int32) (v3 : Int32) (I : XI), f_Clues_bestSide_15 F n v1 v2 v3 I = some r → xEv X (d + 4) 281 15 [.ref 127, .int v1, .int v2, .int v3] [] I L (some (.int r.1)) r.2 L := by
  intro n
  induction n with
  | zero => intro v1 v2 v3 I h; rw [f_Clues_bestSide_15] at h; cases h
  | succ n ih =>
    intro v1 v2 v3 I h 
    rw [f_Clues_bestSide_15] at h
    refine xeb 2 (pc' := 17) (ls' := [.ref 127, .int v1, .int v2, .int v3]) (st' := [.int 4, .int v3]) rfl ?_
    by_cases c3 : 4 ≤ v3
    · rw [if_pos c3] at h
      refine xei_ge_t rfl c3 ?_
      refine xeb 1 (pc' := 44) (ls' := [.ref 127, .int v1, .int v2, .int v3]) (st' := [.int v2]) rfl ?_
      obtain rfl := Option.some.inj h
      exact xeiret rfl rfl
    · rw [if_neg c3] at h
      refine xei_ge_f rfl c3 ?_
      refine xeb 3 (pc' := 23) (ls' := [.ref 127, .int v1, .int v2, .int v3]) (st' := [.int v1, .int v3, .ref 127]) rfl ?_
      obtain ⟨q4, eq4, h⟩ := xbind_some h
      refine xcallV rfl xsh127 rfl rfl rfl (Nat.le_of_ble_eq_true rfl) (Nat.le_of_ble_eq_true rfl) (Nat.le_of_ble_eq_true rfl) rfl (g_Clues_worstOf (d := d + 1) _ eq4) ?_
      refine xeb 3 (pc' := 29) (ls' := [.ref 127, .int v1, .int v2, .int v3]) (st' := [.int v1, .int v2, .ref 127, .int q4.1]) rfl ?_
      obtain ⟨q5, eq5, h⟩ := xbind_some h
      refine xcallV rfl xsh127 rfl rfl rfl (Nat.le_of_ble_eq_true rfl) (Nat.le_of_ble_eq_true rfl) (Nat.le_of_ble_eq_true rfl) rfl (g_Clues_worstOf (d := d + 1) _ eq5) ?_
      have hj : xEv X (d + 4) 281 37 [.ref 127, .int v1, .int (if q5.1 ≤ q4.1 then v2 else v3), .int v3] [] q5.2 L (some (.int r.1)) r.2 L := by
        refine xeb 2 (pc' := 15) (ls' := [.ref 127, .int v1, .int (if q5.1 ≤ q4.1 then v2 else v3), .int (v3 + 1)]) (st' := []) rfl ?_
        exact ih v1 (if q5.1 ≤ q4.1 then v2 else v3) (v3 + 1) q5.2 h
      by_cases c6 : q5.1 ≤ q4.1
      · simp only [if_pos c6] at hj
        refine xei_ge_t rfl c6 ?_
        exact xeb 0 rfl hj
      · simp only [if_neg c6] at hj
        refine xei_ge_f rfl c6 ?_
        exact xeb 2 rfl hj
noncomputable def f_Clues_bestSide (F : Nat) (a1 : Int32) (I : XI) : Option (Int32 × XI) :=
  (f_Clues_fitting F I a1).bind fun q1 => if q1 = 0 then (some ((-2), I)) else (f_Clues_bestSide_15 F F a1 0 1 I)
theorem g_Clues_bestSide {X : XX} {d : Nat} {L : XL} {F : Nat} {a1 : Int32} {I : XI}  (r : Int32 × XI) (h : f_Clues_bestSide F a1 I = some r) : xEv X (d + 4) 281 0 [.ref 127, .int a1, .null, .null] [] I L (some (.int r.1)) r.2 L := by
  rw [f_Clues_bestSide] at h
  refine xeb 2 (pc' := 2) (ls' := [.ref 127, .int a1, .null, .null]) (st' := [.int a1, .ref 127]) rfl ?_
  obtain ⟨q1, eq1, h⟩ := xbind_some h
  refine xcallV rfl xsh127 rfl rfl rfl (Nat.le_of_ble_eq_true rfl) (Nat.le_of_ble_eq_true rfl) (Nat.le_of_ble_eq_true rfl) rfl (g_Clues_fitting (d := d + 0) _ eq1) ?_
  by_cases c2 : q1 = 0
  · rw [if_pos c2] at h
    refine xef_ne_t rfl c2 ?_
    refine xeb 1 (pc' := 10) (ls' := [.ref 127, .int a1, .null, .null]) (st' := [.int (-2)]) rfl ?_
    obtain rfl := Option.some.inj h
    exact xeiret rfl rfl
  · rw [if_neg c2] at h
    refine xef_ne_f rfl c2 ?_
    refine xeb 4 (pc' := 15) (ls' := [.ref 127, .int a1, .int 0, .int 1]) (st' := []) rfl ?_
    exact g_Clues_bestSide_15 F a1 0 1 I h
noncomputable def f_H_ask (F : Nat) (a1 : Int32) (I : XI) : Option (Int32 × XI) :=
  (f_Clues_knows I a1).bind fun q1 => if q1 = 0 then (some ((-1), I)) else ((f_Clues_bestSide F a1 I).bind fun q3 => some (q3.1, q3.2))
theorem g_H_ask {X : XX} {d : Nat} {L : XL} {F : Nat} {a1 : Int32} {I : XI}  (r : Int32 × XI) (h : f_H_ask F a1 I = some r) : xEv X (d + 5) 282 0 [.ref 0, .int a1] [] I L (some (.int r.1)) r.2 L := by
  rw [f_H_ask] at h
  refine xeb 1 (pc' := 1) (ls' := [.ref 0, .int a1]) (st' := [.ref 0]) rfl ?_
  refine xegf2 rfl xsh0 (by decide) rfl ?_
  refine xeb 1 (pc' := 5) (ls' := [.ref 0, .int a1]) (st' := [.int a1, .ref 127]) rfl ?_
  obtain ⟨q1, eq1, h⟩ := xbind_some h
  refine xcallV rfl xsh127 rfl rfl rfl (Nat.le_of_ble_eq_true rfl) (Nat.le_of_ble_eq_true rfl) (Nat.le_of_ble_eq_true rfl) rfl (g_Clues_knows (d := d + 4) _ eq1) ?_
  by_cases c2 : q1 = 0
  · rw [if_pos c2] at h
    refine xef_eq_t rfl c2 ?_
    refine xeb 1 (pc' := 23) (ls' := [.ref 0, .int a1]) (st' := [.int (-1)]) rfl ?_
    obtain rfl := Option.some.inj h
    exact xeiret rfl rfl
  · rw [if_neg c2] at h
    refine xef_eq_f rfl c2 ?_
    refine xeb 1 (pc' := 12) (ls' := [.ref 0, .int a1]) (st' := [.ref 0]) rfl ?_
    refine xegf2 rfl xsh0 (by decide) rfl ?_
    refine xeb 1 (pc' := 16) (ls' := [.ref 0, .int a1]) (st' := [.int a1, .ref 127]) rfl ?_
    obtain ⟨q3, eq3, h⟩ := xbind_some h
    refine xcallV rfl xsh127 rfl rfl rfl (Nat.le_of_ble_eq_true rfl) (Nat.le_of_ble_eq_true rfl) (Nat.le_of_ble_eq_true rfl) rfl (g_Clues_bestSide (d := d + 0) _ eq3) ?_
    refine xeb 1 (pc' := 23) (ls' := [.ref 0, .int a1]) (st' := [.int q3.1]) rfl ?_
    obtain rfl := Option.some.inj h
    exact xeiret rfl rfl
