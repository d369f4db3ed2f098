/-! the methods as functions, and that a run answers so (by gen6.py) -/
noncomputable def f_H_liesIn (F : Nat) (a1 : Int32) (I : XI) : Option (Int32 × XI) :=
  if a1 < 0 then (some ((-1), I)) else (if a1 ≤ 60 then ((f_State_copyFrom 28 26 I).bind fun q3 => (f_Calendar_pass F 28 a1 q3).bind fun q4 => (f_State_lying F 28 q4).bind fun q5 => some (q5, q4)) else (some ((-1), I)))
theorem g_H_liesIn {X : XX} {d : Nat} {L : XL} {F : Nat} {a1 : Int32} {I : XI}  (r : Int32 × XI) (h : f_H_liesIn F a1 I = some r) : xEv X (d + 7) 253 0 [.ref 0, .int a1] [] I L (some (.int r.1)) r.2 L := by
  rw [f_H_liesIn] at h
  refine xeb 1 (pc' := 1) (ls' := [.ref 0, .int a1]) (st' := [.int a1]) rfl ?_
  by_cases c1 : a1 < 0
  · rw [if_pos c1] at h
    refine xef_lt_t rfl c1 ?_
    refine xeb 1 (pc' := 11) (ls' := [.ref 0, .int a1]) (st' := [.int (-1)]) rfl ?_
    obtain rfl := Option.some.inj h
    exact xeiret rfl rfl
  · rw [if_neg c1] at h
    refine xef_lt_f rfl c1 ?_
    refine xeb 2 (pc' := 7) (ls' := [.ref 0, .int a1]) (st' := [.int 60, .int a1]) rfl ?_
    by_cases c2 : a1 ≤ 60
    · rw [if_pos c2] at h
      refine xei_le_t rfl c2 ?_
      refine xeb 1 (pc' := 13) (ls' := [.ref 0, .int a1]) (st' := [.ref 0]) rfl ?_
      refine xegf2 rfl xsh0 (by decide) rfl ?_
      refine xeb 1 (pc' := 17) (ls' := [.ref 0, .int a1]) (st' := [.ref 0, .ref 28]) rfl ?_
      refine xegf2 rfl xsh0 (by decide) rfl ?_
      obtain ⟨q3, eq3, h⟩ := xbind_some h
      refine xcallV rfl xsh28 rfl rfl rfl (Nat.le_of_ble_eq_true rfl) (Nat.le_of_ble_eq_true rfl) (Nat.le_of_ble_eq_true rfl) rfl (g_State_copyFrom (d := d + 6) xis28 xis26 _ eq3) ?_
      refine xeb 1 (pc' := 24) (ls' := [.ref 0, .int a1]) (st' := [.ref 0]) rfl ?_
      refine xegf2 rfl xsh0 (by decide) rfl ?_
      refine xeb 1 (pc' := 28) (ls' := [.ref 0, .int a1]) (st' := [.ref 0, .ref 37]) rfl ?_
      refine xegf2 rfl xsh0 (by decide) rfl ?_
      refine xeb 1 (pc' := 32) (ls' := [.ref 0, .int a1]) (st' := [.int a1, .ref 28, .ref 37]) rfl ?_
      obtain ⟨q4, eq4, h⟩ := xbind_some h
      refine xcallV rfl xsh37 rfl rfl rfl (Nat.le_of_ble_eq_true rfl) (Nat.le_of_ble_eq_true rfl) (Nat.le_of_ble_eq_true rfl) rfl (g_Calendar_pass (d := d + 0) xis28 _ eq4) ?_
      refine xeb 1 (pc' := 36) (ls' := [.ref 0, .int a1]) (st' := [.ref 0]) rfl ?_
      refine xegf2 rfl xsh0 (by decide) rfl ?_
      obtain ⟨q5, eq5, h⟩ := xbind_some h
      refine xcallV rfl xsh28 rfl rfl rfl (Nat.le_of_ble_eq_true rfl) (Nat.le_of_ble_eq_true rfl) (Nat.le_of_ble_eq_true rfl) rfl (g_State_lying (d := d + 5) xis28 _ eq5) ?_
      obtain rfl := Option.some.inj h
      exact xeiret rfl rfl
    · rw [if_neg c2] at h
      refine xei_le_f rfl c2 ?_
      refine xeb 1 (pc' := 11) (ls' := [.ref 0, .int a1]) (st' := [.int (-1)]) rfl ?_
      obtain rfl := Option.some.inj h
      exact xeiret rfl rfl
noncomputable def f_M_liesIn (F : Nat) (a1 : Int32) (I : XI) : Option (Int32 × XI) :=
  (f_M_isLong a1).bind fun q1 => if q1 = 0 then (some ((-1), I)) else ((f_M_copies F I).bind fun q3 => (f_M_goes F a1 q3).bind fun q4 => (f_M_liesOf F q4 (-1)).bind fun q5 => some (q5, q4))
theorem g_M_liesIn {X : XX} {d : Nat} {L : XL} {F : Nat} {a1 : Int32} {I : XI}  (r : Int32 × XI) (h : f_M_liesIn F a1 I = some r) : xEv X (d + 9) 254 0 [.ref 131, .int a1] [] I L (some (.int r.1)) r.2 L := by
  rw [f_M_liesIn] at h
  refine xeb 1 (pc' := 1) (ls' := [.ref 131, .int a1]) (st' := [.int a1]) rfl ?_
  obtain ⟨q1, eq1, h⟩ := xbind_some h
  refine xcallS20 rfl rfl rfl (Nat.le_of_ble_eq_true rfl) (Nat.le_of_ble_eq_true rfl) (Nat.le_of_ble_eq_true rfl) rfl (g_M_isLong (d := d + 7) _ eq1) ?_
  by_cases c2 : q1 = 0
  · rw [if_pos c2] at h
    refine xef_ne_t rfl c2 ?_
    refine xeb 1 (pc' := 8) (ls' := [.ref 131, .int a1]) (st' := [.int (-1)]) rfl ?_
    obtain rfl := Option.some.inj h
    exact xeiret rfl rfl
  · rw [if_neg c2] at h
    refine xef_ne_f rfl c2 ?_
    refine xeb 1 (pc' := 10) (ls' := [.ref 131, .int a1]) (st' := [.ref 131]) rfl ?_
    obtain ⟨q3, eq3, h⟩ := xbind_some h
    refine xcallV rfl xsh131 rfl rfl rfl (Nat.le_of_ble_eq_true rfl) (Nat.le_of_ble_eq_true rfl) (Nat.le_of_ble_eq_true rfl) rfl (g_M_copies (d := d + 8) _ eq3) ?_
    refine xeb 2 (pc' := 15) (ls' := [.ref 131, .int a1]) (st' := [.int a1, .ref 131]) rfl ?_
    obtain ⟨q4, eq4, h⟩ := xbind_some h
    refine xcallV rfl xsh131 rfl rfl rfl (Nat.le_of_ble_eq_true rfl) (Nat.le_of_ble_eq_true rfl) (Nat.le_of_ble_eq_true rfl) rfl (g_M_goes (d := d + 0) _ eq4) ?_
    refine xeb 2 (pc' := 20) (ls' := [.ref 131, .int a1]) (st' := [.int (-1), .ref 131]) rfl ?_
    obtain ⟨q5, eq5, h⟩ := xbind_some h
    refine xcallV rfl xsh131 rfl rfl rfl (Nat.le_of_ble_eq_true rfl) (Nat.le_of_ble_eq_true rfl) (Nat.le_of_ble_eq_true rfl) rfl (g_M_liesOf (d := d + 4) _ eq5) ?_
    obtain rfl := Option.some.inj h
    exact xeiret rfl rfl
noncomputable def f_H_taxIn (F : Nat) (a1 : Int32) (I : XI) : Option (Int32 × XI) :=
  if a1 < 0 then (some ((-1), I)) else (if a1 ≤ 60 then ((f_State_copyFrom 28 26 I).bind fun q3 => (f_Calendar_pass F 28 a1 q3).bind fun q4 => some (((q4 28 2) - (q4 26 2)), q4)) else (some ((-1), I)))
theorem g_H_taxIn {X : XX} {d : Nat} {L : XL} {F : Nat} {a1 : Int32} {I : XI}  (r : Int32 × XI) (h : f_H_taxIn F a1 I = some r) : xEv X (d + 7) 255 0 [.ref 0, .int a1] [] I L (some (.int r.1)) r.2 L := by
  rw [f_H_taxIn] at h
  refine xeb 1 (pc' := 1) (ls' := [.ref 0, .int a1]) (st' := [.int a1]) rfl ?_
  by_cases c1 : a1 < 0
  · rw [if_pos c1] at h
    refine xef_lt_t rfl c1 ?_
    refine xeb 1 (pc' := 11) (ls' := [.ref 0, .int a1]) (st' := [.int (-1)]) rfl ?_
    obtain rfl := Option.some.inj h
    exact xeiret rfl rfl
  · rw [if_neg c1] at h
    refine xef_lt_f rfl c1 ?_
    refine xeb 2 (pc' := 7) (ls' := [.ref 0, .int a1]) (st' := [.int 60, .int a1]) rfl ?_
    by_cases c2 : a1 ≤ 60
    · rw [if_pos c2] at h
      refine xei_le_t rfl c2 ?_
      refine xeb 1 (pc' := 13) (ls' := [.ref 0, .int a1]) (st' := [.ref 0]) rfl ?_
      refine xegf2 rfl xsh0 (by decide) rfl ?_
      refine xeb 1 (pc' := 17) (ls' := [.ref 0, .int a1]) (st' := [.ref 0, .ref 28]) rfl ?_
      refine xegf2 rfl xsh0 (by decide) rfl ?_
      obtain ⟨q3, eq3, h⟩ := xbind_some h
      refine xcallV rfl xsh28 rfl rfl rfl (Nat.le_of_ble_eq_true rfl) (Nat.le_of_ble_eq_true rfl) (Nat.le_of_ble_eq_true rfl) rfl (g_State_copyFrom (d := d + 6) xis28 xis26 _ eq3) ?_
      refine xeb 1 (pc' := 24) (ls' := [.ref 0, .int a1]) (st' := [.ref 0]) rfl ?_
      refine xegf2 rfl xsh0 (by decide) rfl ?_
      refine xeb 1 (pc' := 28) (ls' := [.ref 0, .int a1]) (st' := [.ref 0, .ref 37]) rfl ?_
      refine xegf2 rfl xsh0 (by decide) rfl ?_
      refine xeb 1 (pc' := 32) (ls' := [.ref 0, .int a1]) (st' := [.int a1, .ref 28, .ref 37]) rfl ?_
      obtain ⟨q4, eq4, h⟩ := xbind_some h
      refine xcallV rfl xsh37 rfl rfl rfl (Nat.le_of_ble_eq_true rfl) (Nat.le_of_ble_eq_true rfl) (Nat.le_of_ble_eq_true rfl) rfl (g_Calendar_pass (d := d + 0) xis28 _ eq4) ?_
      refine xeb 1 (pc' := 36) (ls' := [.ref 0, .int a1]) (st' := [.ref 0]) rfl ?_
      refine xegf2 rfl xsh0 (by decide) rfl ?_
      refine xegf10 rfl xsh28 (by decide) ?_
      refine xeb 1 (pc' := 43) (ls' := [.ref 0, .int a1]) (st' := [.ref 0, .int (q4 28 2)]) rfl ?_
      refine xegf2 rfl xsh0 (by decide) rfl ?_
      refine xegf10 rfl xsh26 (by decide) ?_
      refine xeb 1 (pc' := 50) (ls' := [.ref 0, .int a1]) (st' := [.int ((q4 28 2) - (q4 26 2))]) rfl ?_
      obtain rfl := Option.some.inj h
      exact xeiret rfl rfl
    · rw [if_neg c2] at h
      refine xei_le_f rfl c2 ?_
      refine xeb 1 (pc' := 11) (ls' := [.ref 0, .int a1]) (st' := [.int (-1)]) rfl ?_
      obtain rfl := Option.some.inj h
      exact xeiret rfl rfl
noncomputable def f_M_taxIn (F : Nat) (a1 : Int32) (I : XI) : Option (Int32 × XI) :=
  (f_M_isLong a1).bind fun q1 => if q1 = 0 then (some ((-1), I)) else ((f_M_copies F I).bind fun q3 => (f_M_goes F a1 q3).bind fun q4 => xck (xin 31 33) (xck (xin 31 33) (some (((q4 163 (xN 31)) - (q4 162 (xN 31))), q4))))
theorem g_M_taxIn {X : XX} {d : Nat} {L : XL} {F : Nat} {a1 : Int32} {I : XI}  (r : Int32 × XI) (h : f_M_taxIn F a1 I = some r) : xEv X (d + 9) 256 0 [.ref 131, .int a1] [] I L (some (.int r.1)) r.2 L := by
  rw [f_M_taxIn] at h
  refine xeb 1 (pc' := 1) (ls' := [.ref 131, .int a1]) (st' := [.int a1]) rfl ?_
  obtain ⟨q1, eq1, h⟩ := xbind_some h
  refine xcallS20 rfl rfl rfl (Nat.le_of_ble_eq_true rfl) (Nat.le_of_ble_eq_true rfl) (Nat.le_of_ble_eq_true rfl) rfl (g_M_isLong (d := d + 7) _ eq1) ?_
  by_cases c2 : q1 = 0
  · rw [if_pos c2] at h
    refine xef_ne_t rfl c2 ?_
    refine xeb 1 (pc' := 8) (ls' := [.ref 131, .int a1]) (st' := [.int (-1)]) rfl ?_
    obtain rfl := Option.some.inj h
    exact xeiret rfl rfl
  · rw [if_neg c2] at h
    refine xef_ne_f rfl c2 ?_
    refine xeb 1 (pc' := 10) (ls' := [.ref 131, .int a1]) (st' := [.ref 131]) rfl ?_
    obtain ⟨q3, eq3, h⟩ := xbind_some h
    refine xcallV rfl xsh131 rfl rfl rfl (Nat.le_of_ble_eq_true rfl) (Nat.le_of_ble_eq_true rfl) (Nat.le_of_ble_eq_true rfl) rfl (g_M_copies (d := d + 8) _ eq3) ?_
    refine xeb 2 (pc' := 15) (ls' := [.ref 131, .int a1]) (st' := [.int a1, .ref 131]) rfl ?_
    obtain ⟨q4, eq4, h⟩ := xbind_some h
    refine xcallV rfl xsh131 rfl rfl rfl (Nat.le_of_ble_eq_true rfl) (Nat.le_of_ble_eq_true rfl) (Nat.le_of_ble_eq_true rfl) rfl (g_M_goes (d := d + 0) _ eq4) ?_
    refine xeb 1 (pc' := 19) (ls' := [.ref 131, .int a1]) (st' := [.ref 131]) rfl ?_
    refine xegf2 rfl xsh131 (by decide) rfl ?_
    refine xeb 1 (pc' := 24) (ls' := [.ref 131, .int a1]) (st' := [.int 31, .ref 163]) rfl ?_
    obtain ⟨b5, h⟩ := xck_some h
    refine xeia rfl xsh163 b5 ?_
    refine xeb 1 (pc' := 26) (ls' := [.ref 131, .int a1]) (st' := [.ref 131, .int (q4 163 (xN 31))]) rfl ?_
    refine xegf2 rfl xsh131 (by decide) rfl ?_
    refine xeb 1 (pc' := 31) (ls' := [.ref 131, .int a1]) (st' := [.int 31, .ref 162, .int (q4 163 (xN 31))]) rfl ?_
    obtain ⟨b6, h⟩ := xck_some h
    refine xeia rfl xsh162 b6 ?_
    refine xeb 1 (pc' := 33) (ls' := [.ref 131, .int a1]) (st' := [.int ((q4 163 (xN 31)) - (q4 162 (xN 31)))]) rfl ?_
    obtain rfl := Option.some.inj h
    exact xeiret rfl rfl
noncomputable def f_Calendar_daysUntilTaken_2 (F : Nat) (S1 : Nat) : Nat → Int32 → Int32 → XI → Option (Int32 × XI)
  | 0, _, _, _ => none
  | n + 1, v2, v3, I =>
    if 200 < v3 then (some ((-2), I)) else ((f_Calendar_endDay F S1 (I 17 4) I).bind fun q2 => (f_State_lies S1 q2 v2).bind fun q3 => if q3 = 0 then (some (v3, q2)) else (f_Calendar_daysUntilTaken_2 F S1 n v2 (v3 + 1) q2))
theorem g_Calendar_daysUntilTaken_2 {X : XX} {d : Nat} {L : XL} {F : Nat} {S1 : Nat} (hS1 : xisSt S1) {r : Int32 × XI}  : ∀ (n : Nat) (v2 : Int32) (v3 : Int32) (I : XI), f_Calendar_daysUntilTaken_2 F S1 n v2 v3 I = some r → xEv X (d + 6) 257 2 [.ref 37, .ref S1, .int v2, .int v3] [] I L (some (.int r.1)) r.2 L := by
  intro n
  induction n with
  | zero => intro v2 v3 I h; rw [f_Calendar_daysUntilTaken_2] at h; cases h
  | succ n ih =>
    intro v2 v3 I h 
    rw [f_Calendar_daysUntilTaken_2] at h
    refine xeb 2 (pc' := 6) (ls' := [.ref 37, .ref S1, .int v2, .int v3]) (st' := [.int 200, .int v3]) rfl ?_
    by_cases c1 : 200 < v3
    · rw [if_pos c1] at h
      refine xei_gt_t rfl c1 ?_
      refine xeb 1 (pc' := 39) (ls' := [.ref 37, .ref S1, .int v2, .int v3]) (st' := [.int (-2)]) rfl ?_
      obtain rfl := Option.some.inj h
      exact xeiret rfl rfl
    · rw [if_neg c1] at h
      refine xei_gt_f rfl c1 ?_
      refine xeb 3 (pc' := 12) (ls' := [.ref 37, .ref S1, .int v2, .int v3]) (st' := [.ref 37, .ref S1, .ref 37]) rfl ?_
      refine xegf2 rfl xsh37 (by decide) rfl ?_
      refine xegf10 rfl xsh17 (by decide) ?_
      obtain ⟨q2, eq2, h⟩ := xbind_some h
      refine xcallV rfl xsh37 rfl rfl rfl (Nat.le_of_ble_eq_true rfl) (Nat.le_of_ble_eq_true rfl) (Nat.le_of_ble_eq_true rfl) rfl (g_Calendar_endDay (d := d + 0) hS1 _ eq2) ?_
      refine xeb 2 (pc' := 23) (ls' := [.ref 37, .ref S1, .int v2, .int v3]) (st' := [.int v2, .ref S1]) rfl ?_
      obtain ⟨q3, eq3, h⟩ := xbind_some h
      refine xcallV rfl hS1.1 rfl rfl rfl (Nat.le_of_ble_eq_true rfl) (Nat.le_of_ble_eq_true rfl) (Nat.le_of_ble_eq_true rfl) rfl (g_State_lies (d := d + 5) hS1 _ eq3) ?_
      by_cases c4 : q3 = 0
      · rw [if_pos c4] at h
        refine xef_ne_t rfl c4 ?_
        refine xeb 1 (pc' := 30) (ls' := [.ref 37, .ref S1, .int v2, .int v3]) (st' := [.int v3]) rfl ?_
        obtain rfl := Option.some.inj h
        exact xeiret rfl rfl
      · rw [if_neg c4] at h
        refine xef_ne_f rfl c4 ?_
        refine xeb 2 (pc' := 2) (ls' := [.ref 37, .ref S1, .int v2, .int (v3 + 1)]) (st' := []) rfl ?_
        exact ih v2 (v3 + 1) q2 h
noncomputable def f_Calendar_daysUntilTaken (F : Nat) (S1 : Nat) (a2 : Int32) (I : XI) : Option (Int32 × XI) :=
  f_Calendar_daysUntilTaken_2 F S1 F a2 1 I
theorem g_Calendar_daysUntilTaken {X : XX} {d : Nat} {L : XL} {F : Nat} {S1 : Nat} {a2 : Int32} {I : XI} (hS1 : xisSt S1) (r : Int32 × XI) (h : f_Calendar_daysUntilTaken F S1 a2 I = some r) : xEv X (d + 6) 257 0 [.ref 37, .ref S1, .int a2, .null] [] I L (some (.int r.1)) r.2 L := by
  rw [f_Calendar_daysUntilTaken] at h
  refine xeb 2 (pc' := 2) (ls' := [.ref 37, .ref S1, .int a2, .int 1]) (st' := []) rfl ?_
  exact g_Calendar_daysUntilTaken_2 hS1 F a2 1 I h
noncomputable def f_H_stays (F : Nat) (a1 : Int32) (a2 : Int32) (I : XI) : Option (Int32 × XI) :=
  (f_Table_cellAt 17 I a1 a2).bind fun q1 => if q1 = (-1) then (some ((-1), I)) else ((f_State_copyFrom 28 26 I).bind fun q3 => (f_State_lies 26 q3 q1).bind fun q4 => if q4 = 0 then (some ((-2), q3)) else ((f_Calendar_daysUntilTaken F 28 q1 q3).bind fun q6 => some (q6.1, q6.2)))
theorem g_H_stays {X : XX} {d : Nat} {L : XL} {F : Nat} {a1 : Int32} {a2 : Int32} {I : XI}  (r : Int32 × XI) (h : f_H_stays F a1 a2 I = some r) : xEv X (d + 7) 258 0 [.ref 0, .int a1, .int a2, .null] [] I L (some (.int r.1)) r.2 L := by
  rw [f_H_stays] at h
  refine xeb 1 (pc' := 1) (ls' := [.ref 0, .int a1, .int a2, .null]) (st' := [.ref 0]) rfl ?_
  refine xegf2 rfl xsh0 (by decide) rfl ?_
  refine xeb 2 (pc' := 6) (ls' := [.ref 0, .int a1, .int a2, .null]) (st' := [.int a2, .int a1, .ref 17]) rfl ?_
  obtain ⟨q1, eq1, h⟩ := xbind_some h
  refine xcallV rfl xsh17 rfl rfl rfl (Nat.le_of_ble_eq_true rfl) (Nat.le_of_ble_eq_true rfl) (Nat.le_of_ble_eq_true rfl) rfl (g_Table_cellAt (d := d + 6) xis17 _ eq1) ?_
  refine xeb 3 (pc' := 12) (ls' := [.ref 0, .int a1, .int a2, .int q1]) (st' := [.int (-1), .int q1]) rfl ?_
  by_cases c2 : q1 = (-1)
  · rw [if_pos c2] at h
    refine xei_ne_t rfl c2 ?_
    refine xeb 1 (pc' := 16) (ls' := [.ref 0, .int a1, .int a2, .int q1]) (st' := [.int (-1)]) rfl ?_
    obtain rfl := Option.some.inj h
    exact xeiret rfl rfl
  · rw [if_neg c2] at h
    refine xei_ne_f rfl c2 ?_
    refine xeb 1 (pc' := 18) (ls' := [.ref 0, .int a1, .int a2, .int q1]) (st' := [.ref 0]) rfl ?_
    refine xegf2 rfl xsh0 (by decide) rfl ?_
    refine xeb 1 (pc' := 22) (ls' := [.ref 0, .int a1, .int a2, .int q1]) (st' := [.ref 0, .ref 28]) rfl ?_
    refine xegf2 rfl xsh0 (by decide) rfl ?_
    obtain ⟨q3, eq3, h⟩ := xbind_some h
    refine xcallV rfl xsh28 rfl rfl rfl (Nat.le_of_ble_eq_true rfl) (Nat.le_of_ble_eq_true rfl) (Nat.le_of_ble_eq_true rfl) rfl (g_State_copyFrom (d := d + 6) xis28 xis26 _ eq3) ?_
    refine xeb 1 (pc' := 29) (ls' := [.ref 0, .int a1, .int a2, .int q1]) (st' := [.ref 0]) rfl ?_
    refine xegf2 rfl xsh0 (by decide) rfl ?_
    refine xeb 1 (pc' := 33) (ls' := [.ref 0, .int a1, .int a2, .int q1]) (st' := [.int q1, .ref 26]) rfl ?_
    obtain ⟨q4, eq4, h⟩ := xbind_some h
    refine xcallV rfl xsh26 rfl rfl rfl (Nat.le_of_ble_eq_true rfl) (Nat.le_of_ble_eq_true rfl) (Nat.le_of_ble_eq_true rfl) rfl (g_State_lies (d := d + 6) xis26 _ eq4) ?_
    by_cases c5 : q4 = 0
    · rw [if_pos c5] at h
      refine xef_eq_t rfl c5 ?_
      refine xeb 1 (pc' := 56) (ls' := [.ref 0, .int a1, .int a2, .int q1]) (st' := [.int (-2)]) rfl ?_
      obtain rfl := Option.some.inj h
      exact xeiret rfl rfl
    · rw [if_neg c5] at h
      refine xef_eq_f rfl c5 ?_
      refine xeb 1 (pc' := 40) (ls' := [.ref 0, .int a1, .int a2, .int q1]) (st' := [.ref 0]) rfl ?_
      refine xegf2 rfl xsh0 (by decide) rfl ?_
      refine xeb 1 (pc' := 44) (ls' := [.ref 0, .int a1, .int a2, .int q1]) (st' := [.ref 0, .ref 37]) rfl ?_
      refine xegf2 rfl xsh0 (by decide) rfl ?_
      refine xeb 1 (pc' := 48) (ls' := [.ref 0, .int a1, .int a2, .int q1]) (st' := [.int q1, .ref 28, .ref 37]) rfl ?_
      obtain ⟨q6, eq6, h⟩ := xbind_some h
      refine xcallV rfl xsh37 rfl rfl rfl (Nat.le_of_ble_eq_true rfl) (Nat.le_of_ble_eq_true rfl) (Nat.le_of_ble_eq_true rfl) rfl (g_Calendar_daysUntilTaken (d := d + 0) xis28 _ eq6) ?_
      refine xeb 1 (pc' := 56) (ls' := [.ref 0, .int a1, .int a2, .int q1]) (st' := [.int q6.1]) rfl ?_
      obtain rfl := Option.some.inj h
      exact xeiret rfl rfl
noncomputable def f_M_stays_17 (F : Nat) : Nat → Int32 → Int32 → Int32 → XI → Option (Int32 × XI)
  | 0, _, _, _, _ => none
  | n + 1, v1, v2, v3, I =>
    if 200 < v3 then (some ((-2), I)) else ((f_M_doesLie I ((6 * v2) + v1)).bind fun q5 => if q5 = 0 then (some ((-2), I)) else ((f_M_dayGoes F I).bind fun q7 => xck (xin ((6 * v2) + v1) 30) (if (q7 165 (xN ((6 * v2) + v1))) = 0 then (f_M_stays_17 F n v1 v2 (v3 + 1) q7) else (some (v3, q7)))))
theorem g_M_stays_17 {X : XX} {d : Nat} {L : XL} {F : Nat}  {r : Int32 × XI}  : ∀ (n : Nat) (v1 : Int32) (v2 : Int32) (v3 : Int32) (I : XI), f_M_stays_17 F n v1 v2 v3 I = some r → xEv X (d + 8) 259 17 [.ref 131, .int v1, .int v2, .int v3] [] I L (some (.int r.1)) r.2 L := by
  intro n
  induction n with
  | zero => intro v1 v2 v3 I h; rw [f_M_stays_17] at h; cases h
  | succ n ih =>
    intro v1 v2 v3 I h 
    rw [f_M_stays_17] at h
    refine xeb 2 (pc' := 21) (ls' := [.ref 131, .int v1, .int v2, .int v3]) (st' := [.int 200, .int v3]) rfl ?_
    by_cases c4 : 200 < v3
    · rw [if_pos c4] at h
      refine xei_gt_t rfl c4 ?_
      refine xeb 1 (pc' := 65) (ls' := [.ref 131, .int v1, .int v2, .int v3]) (st' := [.int (-2)]) rfl ?_
      obtain rfl := Option.some.inj h
      exact xeiret rfl rfl
    · rw [if_neg c4] at h
      refine xei_gt_f rfl c4 ?_
      refine xeb 6 (pc' := 31) (ls' := [.ref 131, .int v1, .int v2, .int v3]) (st' := [.int ((6 * v2) + v1), .ref 131]) rfl ?_
      obtain ⟨q5, eq5, h⟩ := xbind_some h
      refine xcallV rfl xsh131 rfl rfl rfl (Nat.le_of_ble_eq_true rfl) (Nat.le_of_ble_eq_true rfl) (Nat.le_of_ble_eq_true rfl) rfl (g_M_doesLie (d := d + 7) _ eq5) ?_
      by_cases c6 : q5 = 0
      · rw [if_pos c6] at h
        refine xef_eq_t rfl c6 ?_
        refine xeb 1 (pc' := 65) (ls' := [.ref 131, .int v1, .int v2, .int v3]) (st' := [.int (-2)]) rfl ?_
        obtain rfl := Option.some.inj h
        exact xeiret rfl rfl
      · rw [if_neg c6] at h
        refine xef_eq_f rfl c6 ?_
        refine xeb 1 (pc' := 38) (ls' := [.ref 131, .int v1, .int v2, .int v3]) (st' := [.ref 131]) rfl ?_
        obtain ⟨q7, eq7, h⟩ := xbind_some h
        refine xcallV rfl xsh131 rfl rfl rfl (Nat.le_of_ble_eq_true rfl) (Nat.le_of_ble_eq_true rfl) (Nat.le_of_ble_eq_true rfl) rfl (g_M_dayGoes (d := d + 0) _ eq7) ?_
        refine xeb 1 (pc' := 42) (ls' := [.ref 131, .int v1, .int v2, .int v3]) (st' := [.ref 131]) rfl ?_
        refine xegf2 rfl xsh131 (by decide) rfl ?_
        refine xeb 5 (pc' := 51) (ls' := [.ref 131, .int v1, .int v2, .int v3]) (st' := [.int ((6 * v2) + v1), .ref 165]) rfl ?_
        obtain ⟨b8, h⟩ := xck_some h
        refine xeza rfl xsh165 b8 ?_
        by_cases c9 : (q7 165 (xN ((6 * v2) + v1))) = 0
        · rw [if_pos c9] at h
          refine xef_eq_t rfl c9 ?_
          refine xeb 2 (pc' := 17) (ls' := [.ref 131, .int v1, .int v2, .int (v3 + 1)]) (st' := []) rfl ?_
          exact ih v1 v2 (v3 + 1) q7 h
        · rw [if_neg c9] at h
          refine xef_eq_f rfl c9 ?_
          refine xeb 1 (pc' := 56) (ls' := [.ref 131, .int v1, .int v2, .int v3]) (st' := [.int v3]) rfl ?_
          obtain rfl := Option.some.inj h
          exact xeiret rfl rfl
noncomputable def f_M_stays (F : Nat) (a1 : Int32) (a2 : Int32) (I : XI) : Option (Int32 × XI) :=
  (f_M_isCell I a1 a2).bind fun q1 => if q1 = 0 then (some ((-1), I)) else ((f_M_copies F I).bind fun q3 => f_M_stays_17 F F a1 a2 1 q3)
theorem g_M_stays {X : XX} {d : Nat} {L : XL} {F : Nat} {a1 : Int32} {a2 : Int32} {I : XI}  (r : Int32 × XI) (h : f_M_stays F a1 a2 I = some r) : xEv X (d + 8) 259 0 [.ref 131, .int a1, .int a2, .null] [] I L (some (.int r.1)) r.2 L := by
  rw [f_M_stays] at h
  refine xeb 3 (pc' := 3) (ls' := [.ref 131, .int a1, .int a2, .null]) (st' := [.int a2, .int a1, .ref 131]) rfl ?_
  obtain ⟨q1, eq1, h⟩ := xbind_some h
  refine xcallV rfl xsh131 rfl rfl rfl (Nat.le_of_ble_eq_true rfl) (Nat.le_of_ble_eq_true rfl) (Nat.le_of_ble_eq_true rfl) rfl (g_M_isCell (d := d + 6) _ eq1) ?_
  by_cases c2 : q1 = 0
  · rw [if_pos c2] at h
    refine xef_ne_t rfl c2 ?_
    refine xeb 1 (pc' := 10) (ls' := [.ref 131, .int a1, .int a2, .null]) (st' := [.int (-1)]) rfl ?_
    obtain rfl := Option.some.inj h
    exact xeiret rfl rfl
  · rw [if_neg c2] at h
    refine xef_ne_f rfl c2 ?_
    refine xeb 1 (pc' := 12) (ls' := [.ref 131, .int a1, .int a2, .null]) (st' := [.ref 131]) rfl ?_
    obtain ⟨q3, eq3, h⟩ := xbind_some h
    refine xcallV rfl xsh131 rfl rfl rfl (Nat.le_of_ble_eq_true rfl) (Nat.le_of_ble_eq_true rfl) (Nat.le_of_ble_eq_true rfl) rfl (g_M_copies (d := d + 7) _ eq3) ?_
    refine xeb 2 (pc' := 17) (ls' := [.ref 131, .int a1, .int a2, .int 1]) (st' := []) rfl ?_
    exact g_M_stays_17 F a1 a2 1 q3 h
noncomputable def f_H_wetter_2 (F : Nat) : Nat → Int32 → XI → Option (Int32 × XI)
  | 0, _, _ => none
  | n + 1, v1, I =>
    if 200 < v1 then (some ((-2), I)) else ((f_Rules_isWet F ((I 26 1) + v1) I).bind fun q2 => if q2.1 = 0 then (f_H_wetter_2 F n (v1 + 1) q2.2) else (some (v1, q2.2)))
theorem g_H_wetter_2 {X : XX} {d : Nat} {L : XL} {F : Nat}  {r : Int32 × XI}  : ∀ (n : Nat) (v1 : Int32) (I : XI), f_H_wetter_2 F n v1 I = some r → xEv X (d + 3) 260 2 [.ref 0, .int v1] [] I L (some (.int r.1)) r.2 L := by
  intro n
  induction n with
  | zero => intro v1 I h; rw [f_H_wetter_2] at h; cases h
  | succ n ih =>
    intro v1 I h 
    rw [f_H_wetter_2] at h
    refine xeb 2 (pc' := 6) (ls' := [.ref 0, .int v1]) (st' := [.int 200, .int v1]) rfl ?_
    by_cases c1 : 200 < v1
    · rw [if_pos c1] at h
      refine xei_gt_t rfl c1 ?_
      refine xeb 1 (pc' := 38) (ls' := [.ref 0, .int v1]) (st' := [.int (-2)]) rfl ?_
      obtain rfl := Option.some.inj h
      exact xeiret rfl rfl
    · rw [if_neg c1] at h
      refine xei_gt_f rfl c1 ?_
      refine xeb 1 (pc' := 10) (ls' := [.ref 0, .int v1]) (st' := [.ref 0]) rfl ?_
      refine xegf2 rfl xsh0 (by decide) rfl ?_
      refine xeb 1 (pc' := 14) (ls' := [.ref 0, .int v1]) (st' := [.ref 0, .ref 32]) rfl ?_
      refine xegf2 rfl xsh0 (by decide) rfl ?_
      refine xegf10 rfl xsh26 (by decide) ?_
      refine xeb 2 (pc' := 22) (ls' := [.ref 0, .int v1]) (st' := [.int ((I 26 1) + v1), .ref 32]) rfl ?_
      obtain ⟨q2, eq2, h⟩ := xbind_some h
      refine xcallV rfl xsh32 rfl rfl rfl (Nat.le_of_ble_eq_true rfl) (Nat.le_of_ble_eq_true rfl) (Nat.le_of_ble_eq_true rfl) rfl (g_Rules_isWet (d := d + 0) _ eq2) ?_
      by_cases c3 : q2.1 = 0
      · rw [if_pos c3] at h
        refine xef_eq_t rfl c3 ?_
        refine xeb 2 (pc' := 2) (ls' := [.ref 0, .int (v1 + 1)]) (st' := []) rfl ?_
        exact ih (v1 + 1) q2.2 h
      · rw [if_neg c3] at h
        refine xef_eq_f rfl c3 ?_
        refine xeb 1 (pc' := 29) (ls' := [.ref 0, .int v1]) (st' := [.int v1]) rfl ?_
        obtain rfl := Option.some.inj h
        exact xeiret rfl rfl
noncomputable def f_H_wetter (F : Nat) (I : XI) : Option (Int32 × XI) :=
  f_H_wetter_2 F F 0 I
theorem g_H_wetter {X : XX} {d : Nat} {L : XL} {F : Nat} {I : XI}  (r : Int32 × XI) (h : f_H_wetter F I = some r) : xEv X (d + 3) 260 0 [.ref 0, .null] [] I L (some (.int r.1)) r.2 L := by
  rw [f_H_wetter] at h
  refine xeb 2 (pc' := 2) (ls' := [.ref 0, .int 0]) (st' := []) rfl ?_
  exact g_H_wetter_2 F 0 I h
noncomputable def f_M_wetter_6 (F : Nat) : Nat → Int32 → XI → Option (Int32 × XI)
  | 0, _, _ => none
  | n + 1, v1, I =>
    if 200 < v1 then (some ((-2), I)) else ((f_M_isWet F I).bind fun q3 => if q3.1 = 0 then (xck (xin 30 33) (xck (xin 30 33) (xst (xput q3.2 163 (xN 30) ((q3.2 163 (xN 30)) + 1)) fun I7 => f_M_wetter_6 F n (v1 + 1) I7))) else (some (v1, q3.2)))
theorem g_M_wetter_6 {X : XX} {d : Nat} {L : XL} {F : Nat}  {r : Int32 × XI}  : ∀ (n : Nat) (v1 : Int32) (I : XI), f_M_wetter_6 F n v1 I = some r → xEv X (d + 3) 261 6 [.ref 131, .int v1] [] I L (some (.int r.1)) r.2 L := by
  intro n
  induction n with
  | zero => intro v1 I h; rw [f_M_wetter_6] at h; cases h
  | succ n ih =>
    intro v1 I h 
    rw [f_M_wetter_6] at h
    refine xeb 2 (pc' := 10) (ls' := [.ref 131, .int v1]) (st' := [.int 200, .int v1]) rfl ?_
    by_cases c2 : 200 < v1
    · rw [if_pos c2] at h
      refine xei_gt_t rfl c2 ?_
      refine xeb 1 (pc' := 41) (ls' := [.ref 131, .int v1]) (st' := [.int (-2)]) rfl ?_
      obtain rfl := Option.some.inj h
      exact xeiret rfl rfl
    · rw [if_neg c2] at h
      refine xei_gt_f rfl c2 ?_
      refine xeb 1 (pc' := 14) (ls' := [.ref 131, .int v1]) (st' := [.ref 131]) rfl ?_
      obtain ⟨q3, eq3, h⟩ := xbind_some h
      refine xcallV rfl xsh131 rfl rfl rfl (Nat.le_of_ble_eq_true rfl) (Nat.le_of_ble_eq_true rfl) (Nat.le_of_ble_eq_true rfl) rfl (g_M_isWet (d := d + 0) _ eq3) ?_
      by_cases c4 : q3.1 = 0
      · rw [if_pos c4] at h
        refine xef_eq_t rfl c4 ?_
        refine xeb 1 (pc' := 23) (ls' := [.ref 131, .int v1]) (st' := [.ref 131]) rfl ?_
        refine xegf2 rfl xsh131 (by decide) rfl ?_
        refine xeb 2 (pc' := 29) (ls' := [.ref 131, .int v1]) (st' := [.int 30, .ref 163, .int 30, .ref 163]) rfl ?_
        obtain ⟨b5, h⟩ := xck_some h
        refine xeia rfl xsh163 b5 ?_
        refine xeb 2 (pc' := 32) (ls' := [.ref 131, .int v1]) (st' := [.int ((q3.2 163 (xN 30)) + 1), .int 30, .ref 163]) rfl ?_
        obtain ⟨b6, h⟩ := xck_some h
        refine xeis rfl xsh163 b6 ?_
        obtain ⟨I7, hI7, h⟩ := xst_some h
        rw [← hI7]
        refine xeb 2 (pc' := 6) (ls' := [.ref 131, .int (v1 + 1)]) (st' := []) rfl ?_
        exact ih (v1 + 1) I7 h
      · rw [if_neg c4] at h
        refine xef_eq_f rfl c4 ?_
        refine xeb 1 (pc' := 21) (ls' := [.ref 131, .int v1]) (st' := [.int v1]) rfl ?_
        obtain rfl := Option.some.inj h
        exact xeiret rfl rfl
noncomputable def f_M_wetter (F : Nat) (I : XI) : Option (Int32 × XI) :=
  (f_M_copies F I).bind fun q1 => f_M_wetter_6 F F 0 q1
theorem g_M_wetter {X : XX} {d : Nat} {L : XL} {F : Nat} {I : XI}  (r : Int32 × XI) (h : f_M_wetter F I = some r) : xEv X (d + 3) 261 0 [.ref 131, .null] [] I L (some (.int r.1)) r.2 L := by
  rw [f_M_wetter] at h
  refine xeb 1 (pc' := 1) (ls' := [.ref 131, .null]) (st' := [.ref 131]) rfl ?_
  obtain ⟨q1, eq1, h⟩ := xbind_some h
  refine xcallV rfl xsh131 rfl rfl rfl (Nat.le_of_ble_eq_true rfl) (Nat.le_of_ble_eq_true rfl) (Nat.le_of_ble_eq_true rfl) rfl (g_M_copies (d := d + 2) _ eq1) ?_
  refine xeb 2 (pc' := 6) (ls' := [.ref 131, .int 0]) (st' := []) rfl ?_
  exact g_M_wetter_6 F 0 q1 h
noncomputable def f_Calendar_joinedAfter_39 (F : Nat) (S1 : Nat) (v2 : Int32) (v3 : Int32) (I : XI) : Option (Int32 × XI) :=
  (f_State_lies S1 I v2).bind fun q2 => if q2 = 0 then (some (0, I)) else ((f_State_lies S1 I v3).bind fun q4 => if q4 = 0 then (some (0, I)) else ((f_Board_group F S1 v2 (-1) I).bind fun q6 => xck (xnarz (if ((q6.1 >>> (v3 &&& 31)) &&& 1) = 1 then 1 else 0)) (some ((if ((q6.1 >>> (v3 &&& 31)) &&& 1) = 1 then 1 else 0), q6.2))))
theorem g_Calendar_joinedAfter_39 {X : XX} {d : Nat} {L : XL} {F : Nat} {S1 : Nat} (hS1 : xisSt S1) {r : Int32 × XI}  {v2 : Int32} {v3 : Int32} {I : XI} (h : f_Calendar_joinedAfter_39 F S1 v2 v3 I = some r) (z4 : Value) (z5 : Value) (z6 : Value) : xEv X (d + 6) 262 39 [.ref 37, .ref S1, .int v2, .int v3, z4, z5, z6] [] I L (some (.int r.1)) r.2 L := by
  rw [f_Calendar_joinedAfter_39] at h
  refine xeb 2 (pc' := 41) (ls' := [.ref 37, .ref S1, .int v2, .int v3, z4, z5, z6]) (st' := [.int v2, .ref S1]) rfl ?_
  obtain ⟨q2, eq2, h⟩ := xbind_some h
  refine xcallV rfl hS1.1 rfl rfl rfl (Nat.le_of_ble_eq_true rfl) (Nat.le_of_ble_eq_true rfl) (Nat.le_of_ble_eq_true rfl) rfl (g_State_lies (d := d + 5) hS1 _ eq2) ?_
  by_cases c3 : q2 = 0
  · rw [if_pos c3] at h
    refine xef_eq_t rfl c3 ?_
    refine xeb 1 (pc' := 78) (ls' := [.ref 37, .ref S1, .int v2, .int v3, z4, z5, z6]) (st' := [.int 0]) rfl ?_
    obtain rfl := Option.some.inj h
    exact xeiret rfl rfl
  · rw [if_neg c3] at h
    refine xef_eq_f rfl c3 ?_
    refine xeb 2 (pc' := 49) (ls' := [.ref 37, .ref S1, .int v2, .int v3, z4, z5, z6]) (st' := [.int v3, .ref S1]) rfl ?_
    obtain ⟨q4, eq4, h⟩ := xbind_some h
    refine xcallV rfl hS1.1 rfl rfl rfl (Nat.le_of_ble_eq_true rfl) (Nat.le_of_ble_eq_true rfl) (Nat.le_of_ble_eq_true rfl) rfl (g_State_lies (d := d + 5) hS1 _ eq4) ?_
    by_cases c5 : q4 = 0
    · rw [if_pos c5] at h
      refine xef_eq_t rfl c5 ?_
      refine xeb 1 (pc' := 78) (ls' := [.ref 37, .ref S1, .int v2, .int v3, z4, z5, z6]) (st' := [.int 0]) rfl ?_
      obtain rfl := Option.some.inj h
      exact xeiret rfl rfl
    · rw [if_neg c5] at h
      refine xef_eq_f rfl c5 ?_
      refine xeb 1 (pc' := 56) (ls' := [.ref 37, .ref S1, .int v2, .int v3, z4, z5, z6]) (st' := [.ref 37]) rfl ?_
      refine xegf2 rfl xsh37 (by decide) rfl ?_
      refine xeb 3 (pc' := 62) (ls' := [.ref 37, .ref S1, .int v2, .int v3, z4, z5, z6]) (st' := [.int (-1), .int v2, .ref S1, .ref 30]) rfl ?_
      obtain ⟨q6, eq6, h⟩ := xbind_some h
      refine xcallV rfl xsh30 rfl rfl rfl (Nat.le_of_ble_eq_true rfl) (Nat.le_of_ble_eq_true rfl) (Nat.le_of_ble_eq_true rfl) rfl (g_Board_group (d := d + 2) hS1 _ eq6) ?_
      refine xeb 5 (pc' := 70) (ls' := [.ref 37, .ref S1, .int v2, .int v3, z4, z5, z6]) (st' := [.int 1, .int ((q6.1 >>> (v3 &&& 31)) &&& 1)]) rfl ?_
      have hj : xEv X (d + 6) 262 78 [.ref 37, .ref S1, .int v2, .int v3, z4, z5, z6] [.int (if ((q6.1 >>> (v3 &&& 31)) &&& 1) = 1 then 1 else 0)] q6.2 L (some (.int r.1)) r.2 L := by
        obtain ⟨b8, h⟩ := xck_some h
        obtain rfl := Option.some.inj h
        exact xeiret rfl b8
      by_cases c7 : ((q6.1 >>> (v3 &&& 31)) &&& 1) = 1
      · simp only [if_pos c7] at hj
        refine xei_ne_t rfl c7 ?_
        exact xeb 2 rfl hj
      · simp only [if_neg c7] at hj
        refine xei_ne_f rfl c7 ?_
        exact xeb 1 rfl hj
noncomputable def f_Calendar_joinedAfter_3 (F : Nat) (S1 : Nat) : Nat → Int32 → Int32 → Int32 → Int32 → Int32 → XI → Option (Int32 × XI)
  | 0, _, _, _, _, _, _ => none
  | n + 1, v2, v3, v4, v5, v6, I =>
    if v4 ≤ v6 then (f_Calendar_joinedAfter_39 F S1 v2 v3 I) else ((f_State_lies S1 I v2).bind fun q9 => if q9 = 0 then (f_Calendar_joinedAfter_39 F S1 v2 v3 I) else ((f_State_lies S1 I v3).bind fun q11 => if q11 = 0 then (f_Calendar_joinedAfter_39 F S1 v2 v3 I) else ((f_Calendar_endDay F S1 v5 I).bind fun q13 => f_Calendar_joinedAfter_3 F S1 n v2 v3 v4 v5 (v6 + 1) q13)))
theorem g_Calendar_joinedAfter_3 {X : XX} {d : Nat} {L : XL} {F : Nat} {S1 : Nat} (hS1 : xisSt S1) {r : Int32 × XI}  : ∀ (n : Nat) (v2 : Int32) (v3 : Int32) (v4 : Int32) (v5 : Int32) (v6 : Int32) (I : XI), f_Calendar_joinedAfter_3 F S1 n v2 v3 v4 v5 v6 I = some r → xEv X (d + 6) 262 3 [.ref 37, .ref S1, .int v2, .int v3, .int v4, .int v5, .int v6] [] I L (some (.int r.1)) r.2 L := by
  intro n
  induction n with
  | zero => intro v2 v3 v4 v5 v6 I h; rw [f_Calendar_joinedAfter_3] at h; cases h
  | succ n ih =>
    intro v2 v3 v4 v5 v6 I h 
    rw [f_Calendar_joinedAfter_3] at h
    refine xeb 2 (pc' := 7) (ls' := [.ref 37, .ref S1, .int v2, .int v3, .int v4, .int v5, .int v6]) (st' := [.int v4, .int v6]) rfl ?_
    by_cases c1 : v4 ≤ v6
    · rw [if_pos c1] at h
      refine xei_ge_t rfl c1 ?_
      exact g_Calendar_joinedAfter_39 hS1 h _ _ _
    · rw [if_neg c1] at h
      refine xei_ge_f rfl c1 ?_
      refine xeb 2 (pc' := 12) (ls' := [.ref 37, .ref S1, .int v2, .int v3, .int v4, .int v5, .int v6]) (st' := [.int v2, .ref S1]) rfl ?_
      obtain ⟨q9, eq9, h⟩ := xbind_some h
      refine xcallV rfl hS1.1 rfl rfl rfl (Nat.le_of_ble_eq_true rfl) (Nat.le_of_ble_eq_true rfl) (Nat.le_of_ble_eq_true rfl) rfl (g_State_lies (d := d + 5) hS1 _ eq9) ?_
      by_cases c10 : q9 = 0
      · rw [if_pos c10] at h
        refine xef_eq_t rfl c10 ?_
        exact g_Calendar_joinedAfter_39 hS1 h _ _ _
      · rw [if_neg c10] at h
        refine xef_eq_f rfl c10 ?_
        refine xeb 2 (pc' := 20) (ls' := [.ref 37, .ref S1, .int v2, .int v3, .int v4, .int v5, .int v6]) (st' := [.int v3, .ref S1]) rfl ?_
        obtain ⟨q11, eq11, h⟩ := xbind_some h
        refine xcallV rfl hS1.1 rfl rfl rfl (Nat.le_of_ble_eq_true rfl) (Nat.le_of_ble_eq_true rfl) (Nat.le_of_ble_eq_true rfl) rfl (g_State_lies (d := d + 5) hS1 _ eq11) ?_
        by_cases c12 : q11 = 0
        · rw [if_pos c12] at h
          refine xef_eq_t rfl c12 ?_
          exact g_Calendar_joinedAfter_39 hS1 h _ _ _
        · rw [if_neg c12] at h
          refine xef_eq_f rfl c12 ?_
          refine xeb 3 (pc' := 30) (ls' := [.ref 37, .ref S1, .int v2, .int v3, .int v4, .int v5, .int v6]) (st' := [.int v5, .ref S1, .ref 37]) rfl ?_
          obtain ⟨q13, eq13, h⟩ := xbind_some h
          refine xcallV rfl xsh37 rfl rfl rfl (Nat.le_of_ble_eq_true rfl) (Nat.le_of_ble_eq_true rfl) (Nat.le_of_ble_eq_true rfl) rfl (g_Calendar_endDay (d := d + 0) hS1 _ eq13) ?_
          refine xeb 2 (pc' := 3) (ls' := [.ref 37, .ref S1, .int v2, .int v3, .int v4, .int v5, .int (v6 + 1)]) (st' := []) rfl ?_
          exact ih v2 v3 v4 v5 (v6 + 1) q13 h
noncomputable def f_Calendar_joinedAfter (F : Nat) (S1 : Nat) (a2 : Int32) (a3 : Int32) (a4 : Int32) (a5 : Int32) (I : XI) : Option (Int32 × XI) :=
  f_Calendar_joinedAfter_3 F S1 F a2 a3 a4 a5 0 I
theorem g_Calendar_joinedAfter {X : XX} {d : Nat} {L : XL} {F : Nat} {S1 : Nat} {a2 : Int32} {a3 : Int32} {a4 : Int32} {a5 : Int32} {I : XI} (hS1 : xisSt S1) (r : Int32 × XI) (h : f_Calendar_joinedAfter F S1 a2 a3 a4 a5 I = some r) : xEv X (d + 6) 262 0 [.ref 37, .ref S1, .int a2, .int a3, .int a4, .int a5, .null] [] I L (some (.int r.1)) r.2 L := by
  rw [f_Calendar_joinedAfter] at h
  refine xeb 2 (pc' := 3) (ls' := [.ref 37, .ref S1, .int a2, .int a3, .int a4, .int a5, .int 0]) (st' := []) rfl ?_
  exact g_Calendar_joinedAfter_3 hS1 F a2 a3 a4 a5 0 I h
noncomputable def f_H_year_68 (F : Nat) : Nat → Int32 → Int32 → Int32 → Int32 → Int32 → Int32 → XI → Option (Int32 × XI)
  | 0, _, _, _, _, _, _, _ => none
  | n + 1, v5, v6, v7, v8, v9, v10, I =>
    if v6 ≤ v10 then (some (v9, I)) else ((f_State_copyFrom 28 26 I).bind fun q10 => (f_Calendar_joinedAfter F 28 v7 v8 v5 ((q10 17 4) + v10) q10).bind fun q11 => f_H_year_68 F n v5 v6 v7 v8 (if q11.1 = 0 then v9 else (v9 + 1)) (v10 + 1) q11.2)
theorem g_H_year_68 {X : XX} {d : Nat} {L : XL} {F : Nat}  {r : Int32 × XI}  : ∀ (n : Nat) (v5 : Int32) (v6 : Int32) (v7 : Int32) (v8 : Int32) (v9 : Int32) (v10 : Int32) (I : XI), f_H_year_68 F n v5 v6 v7 v8 v9 v10 I = some r → ∀ (z1 : Value) (z2 : Value) (z3 : Value) (z4 : Value), xEv X (d + 7) 263 68 [.ref 0, z1, z2, z3, z4, .int v5, .int v6, .int v7, .int v8, .int v9, .int v10] [] I L (some (.int r.1)) r.2 L := by
  intro n
  induction n with
  | zero => intro v5 v6 v7 v8 v9 v10 I h; rw [f_H_year_68] at h; cases h
  | succ n ih =>
    intro v5 v6 v7 v8 v9 v10 I h z1 z2 z3 z4
    rw [f_H_year_68] at h
    refine xeb 2 (pc' := 72) (ls' := [.ref 0, z1, z2, z3, z4, .int v5, .int v6, .int v7, .int v8, .int v9, .int v10]) (st' := [.int v6, .int v10]) rfl ?_
    by_cases c9 : v6 ≤ v10
    · rw [if_pos c9] at h
      refine xei_ge_t rfl c9 ?_
      refine xeb 1 (pc' := 127) (ls' := [.ref 0, z1, z2, z3, z4, .int v5, .int v6, .int v7, .int v8, .int v9, .int v10]) (st' := [.int v9]) rfl ?_
      obtain rfl := Option.some.inj h
      exact xeiret rfl rfl
    · rw [if_neg c9] at h
      refine xei_ge_f rfl c9 ?_
      refine xeb 1 (pc' := 76) (ls' := [.ref 0, z1, z2, z3, z4, .int v5, .int v6, .int v7, .int v8, .int v9, .int v10]) (st' := [.ref 0]) rfl ?_
      refine xegf2 rfl xsh0 (by decide) rfl ?_
      refine xeb 1 (pc' := 80) (ls' := [.ref 0, z1, z2, z3, z4, .int v5, .int v6, .int v7, .int v8, .int v9, .int v10]) (st' := [.ref 0, .ref 28]) rfl ?_
      refine xegf2 rfl xsh0 (by decide) rfl ?_
      obtain ⟨q10, eq10, h⟩ := xbind_some h
      refine xcallV rfl xsh28 rfl rfl rfl (Nat.le_of_ble_eq_true rfl) (Nat.le_of_ble_eq_true rfl) (Nat.le_of_ble_eq_true rfl) rfl (g_State_copyFrom (d := d + 6) xis28 xis26 _ eq10) ?_
      refine xeb 1 (pc' := 87) (ls' := [.ref 0, z1, z2, z3, z4, .int v5, .int v6, .int v7, .int v8, .int v9, .int v10]) (st' := [.ref 0]) rfl ?_
      refine xegf2 rfl xsh0 (by decide) rfl ?_
      refine xeb 1 (pc' := 91) (ls' := [.ref 0, z1, z2, z3, z4, .int v5, .int v6, .int v7, .int v8, .int v9, .int v10]) (st' := [.ref 0, .ref 37]) rfl ?_
      refine xegf2 rfl xsh0 (by decide) rfl ?_
      refine xeb 4 (pc' := 101) (ls' := [.ref 0, z1, z2, z3, z4, .int v5, .int v6, .int v7, .int v8, .int v9, .int v10]) (st' := [.ref 0, .int v5, .int v8, .int v7, .ref 28, .ref 37]) rfl ?_
      refine xegf2 rfl xsh0 (by decide) rfl ?_
      refine xegf10 rfl xsh17 (by decide) ?_
      refine xeb 2 (pc' := 110) (ls' := [.ref 0, z1, z2, z3, z4, .int v5, .int v6, .int v7, .int v8, .int v9, .int v10]) (st' := [.int ((q10 17 4) + v10), .int v5, .int v8, .int v7, .ref 28, .ref 37]) rfl ?_
      obtain ⟨q11, eq11, h⟩ := xbind_some h
      refine xcallV rfl xsh37 rfl rfl rfl (Nat.le_of_ble_eq_true rfl) (Nat.le_of_ble_eq_true rfl) (Nat.le_of_ble_eq_true rfl) rfl (g_Calendar_joinedAfter (d := d + 0) xis28 _ eq11) ?_
      have hj : xEv X (d + 7) 263 119 [.ref 0, z1, z2, z3, z4, .int v5, .int v6, .int v7, .int v8, .int (if q11.1 = 0 then v9 else (v9 + 1)), .int v10] [] q11.2 L (some (.int r.1)) r.2 L := by
        refine xeb 2 (pc' := 68) (ls' := [.ref 0, z1, z2, z3, z4, .int v5, .int v6, .int v7, .int v8, .int (if q11.1 = 0 then v9 else (v9 + 1)), .int (v10 + 1)]) (st' := []) rfl ?_
        exact ih v5 v6 v7 v8 (if q11.1 = 0 then v9 else (v9 + 1)) (v10 + 1) q11.2 h _ _ _ _
      by_cases c12 : q11.1 = 0
      · simp only [if_pos c12] at hj
        refine xef_eq_t rfl c12 ?_
        exact xeb 0 rfl hj
      · simp only [if_neg c12] at hj
        refine xef_eq_f rfl c12 ?_
        exact xeb 1 rfl hj
noncomputable def f_H_year (F : Nat) (a1 : Int32) (a2 : Int32) (a3 : Int32) (a4 : Int32) (a5 : Int32) (a6 : Int32) (I : XI) : Option (Int32 × XI) :=
  (f_Table_cellAt 17 I a1 a2).bind fun q1 => (f_Table_cellAt 17 I a3 a4).bind fun q2 => if q1 = (-1) then (some ((-1), I)) else (if q2 = (-1) then (some ((-1), I)) else (if a5 < 0 then (some ((-1), I)) else (if 60 < a5 then (some ((-1), I)) else (if a6 < 1 then (some ((-1), I)) else (if a6 ≤ 20 then (f_H_year_68 F F a5 a6 q1 q2 0 0 I) else (some ((-1), I)))))))
theorem g_H_year {X : XX} {d : Nat} {L : XL} {F : Nat} {a1 : Int32} {a2 : Int32} {a3 : Int32} {a4 : Int32} {a5 : Int32} {a6 : Int32} {I : XI}  (r : Int32 × XI) (h : f_H_year F a1 a2 a3 a4 a5 a6 I = some r) : xEv X (d + 7) 263 0 [.ref 0, .int a1, .int a2, .int a3, .int a4, .int a5, .int a6, .null, .null, .null, .null] [] I L (some (.int r.1)) r.2 L := by
  rw [f_H_year] at h
  refine xeb 1 (pc' := 1) (ls' := [.ref 0, .int a1, .int a2, .int a3, .int a4, .int a5, .int a6, .null, .null, .null, .null]) (st' := [.ref 0]) rfl ?_
  refine xegf2 rfl xsh0 (by decide) rfl ?_
  refine xeb 2 (pc' := 6) (ls' := [.ref 0, .int a1, .int a2, .int a3, .int a4, .int a5, .int a6, .null, .null, .null, .null]) (st' := [.int a2, .int a1, .ref 17]) rfl ?_
  obtain ⟨q1, eq1, h⟩ := xbind_some h
  refine xcallV rfl xsh17 rfl rfl rfl (Nat.le_of_ble_eq_true rfl) (Nat.le_of_ble_eq_true rfl) (Nat.le_of_ble_eq_true rfl) rfl (g_Table_cellAt (d := d + 6) xis17 _ eq1) ?_
  refine xeb 2 (pc' := 12) (ls' := [.ref 0, .int a1, .int a2, .int a3, .int a4, .int a5, .int a6, .int q1, .null, .null, .null]) (st' := [.ref 0]) rfl ?_
  refine xegf2 rfl xsh0 (by decide) rfl ?_
  refine xeb 2 (pc' := 18) (ls' := [.ref 0, .int a1, .int a2, .int a3, .int a4, .int a5, .int a6, .int q1, .null, .null, .null]) (st' := [.int a4, .int a3, .ref 17]) rfl ?_
  obtain ⟨q2, eq2, h⟩ := xbind_some h
  refine xcallV rfl xsh17 rfl rfl rfl (Nat.le_of_ble_eq_true rfl) (Nat.le_of_ble_eq_true rfl) (Nat.le_of_ble_eq_true rfl) rfl (g_Table_cellAt (d := d + 6) xis17 _ eq2) ?_
  refine xeb 3 (pc' := 26) (ls' := [.ref 0, .int a1, .int a2, .int a3, .int a4, .int a5, .int a6, .int q1, .int q2, .null, .null]) (st' := [.int (-1), .int q1]) rfl ?_
  by_cases c3 : q1 = (-1)
  · rw [if_pos c3] at h
    refine xei_eq_t rfl c3 ?_
    refine xeb 1 (pc' := 61) (ls' := [.ref 0, .int a1, .int a2, .int a3, .int a4, .int a5, .int a6, .int q1, .int q2, .null, .null]) (st' := [.int (-1)]) rfl ?_
    obtain rfl := Option.some.inj h
    exact xeiret rfl rfl
  · rw [if_neg c3] at h
    refine xei_eq_f rfl c3 ?_
    refine xeb 2 (pc' := 32) (ls' := [.ref 0, .int a1, .int a2, .int a3, .int a4, .int a5, .int a6, .int q1, .int q2, .null, .null]) (st' := [.int (-1), .int q2]) rfl ?_
    by_cases c4 : q2 = (-1)
    · rw [if_pos c4] at h
      refine xei_eq_t rfl c4 ?_
      refine xeb 1 (pc' := 61) (ls' := [.ref 0, .int a1, .int a2, .int a3, .int a4, .int a5, .int a6, .int q1, .int q2, .null, .null]) (st' := [.int (-1)]) rfl ?_
      obtain rfl := Option.some.inj h
      exact xeiret rfl rfl
    · rw [if_neg c4] at h
      refine xei_eq_f rfl c4 ?_
      refine xeb 1 (pc' := 37) (ls' := [.ref 0, .int a1, .int a2, .int a3, .int a4, .int a5, .int a6, .int q1, .int q2, .null, .null]) (st' := [.int a5]) rfl ?_
      by_cases c5 : a5 < 0
      · rw [if_pos c5] at h
        refine xef_lt_t rfl c5 ?_
        refine xeb 1 (pc' := 61) (ls' := [.ref 0, .int a1, .int a2, .int a3, .int a4, .int a5, .int a6, .int q1, .int q2, .null, .null]) (st' := [.int (-1)]) rfl ?_
        obtain rfl := Option.some.inj h
        exact xeiret rfl rfl
      · rw [if_neg c5] at h
        refine xef_lt_f rfl c5 ?_
        refine xeb 2 (pc' := 44) (ls' := [.ref 0, .int a1, .int a2, .int a3, .int a4, .int a5, .int a6, .int q1, .int q2, .null, .null]) (st' := [.int 60, .int a5]) rfl ?_
        by_cases c6 : 60 < a5
        · rw [if_pos c6] at h
          refine xei_gt_t rfl c6 ?_
          refine xeb 1 (pc' := 61) (ls' := [.ref 0, .int a1, .int a2, .int a3, .int a4, .int a5, .int a6, .int q1, .int q2, .null, .null]) (st' := [.int (-1)]) rfl ?_
          obtain rfl := Option.some.inj h
          exact xeiret rfl rfl
        · rw [if_neg c6] at h
          refine xei_gt_f rfl c6 ?_
          refine xeb 2 (pc' := 50) (ls' := [.ref 0, .int a1, .int a2, .int a3, .int a4, .int a5, .int a6, .int q1, .int q2, .null, .null]) (st' := [.int 1, .int a6]) rfl ?_
          by_cases c7 : a6 < 1
          · rw [if_pos c7] at h
            refine xei_lt_t rfl c7 ?_
            refine xeb 1 (pc' := 61) (ls' := [.ref 0, .int a1, .int a2, .int a3, .int a4, .int a5, .int a6, .int q1, .int q2, .null, .null]) (st' := [.int (-1)]) rfl ?_
            obtain rfl := Option.some.inj h
            exact xeiret rfl rfl
          · rw [if_neg c7] at h
            refine xei_lt_f rfl c7 ?_
            refine xeb 2 (pc' := 57) (ls' := [.ref 0, .int a1, .int a2, .int a3, .int a4, .int a5, .int a6, .int q1, .int q2, .null, .null]) (st' := [.int 20, .int a6]) rfl ?_
            by_cases c8 : a6 ≤ 20
            · rw [if_pos c8] at h
              refine xei_le_t rfl c8 ?_
              refine xeb 4 (pc' := 68) (ls' := [.ref 0, .int a1, .int a2, .int a3, .int a4, .int a5, .int a6, .int q1, .int q2, .int 0, .int 0]) (st' := []) rfl ?_
              exact g_H_year_68 F a5 a6 q1 q2 0 0 I h _ _ _ _
            · rw [if_neg c8] at h
              refine xei_le_f rfl c8 ?_
              refine xeb 1 (pc' := 61) (ls' := [.ref 0, .int a1, .int a2, .int a3, .int a4, .int a5, .int a6, .int q1, .int q2, .null, .null]) (st' := [.int (-1)]) rfl ?_
              obtain rfl := Option.some.inj h
              exact xeiret rfl rfl
noncomputable def f_M_year_46 (F : Nat) : Nat → Int32 → Int32 → Int32 → Int32 → Int32 → Int32 → Int32 → Int32 → XI → Option (Int32 × XI)
  | 0, _, _, _, _, _, _, _, _, _ => none
  | n + 1, v1, v2, v3, v4, v5, v6, v7, v8, I =>
    if v6 ≤ v8 then (some (v7, I)) else ((f_M_copies F I).bind fun q10 => xst (xput q10 131 50 ((q10 131 50) + v8)) fun I11 => (f_M_goes F v5 I11).bind fun q12 => (f_M_fillsParts F (-1) q12).bind fun q13 => xck (xin ((6 * v2) + v1) 30) (if (q13 164 (xN ((6 * v2) + v1))) < 0 then (f_M_year_46 F n v1 v2 v3 v4 v5 v6 v7 (v8 + 1) q13) else (xck (xin ((6 * v2) + v1) 30) (xck (xin ((6 * v4) + v3) 30) (f_M_year_46 F n v1 v2 v3 v4 v5 v6 (if (q13 164 (xN ((6 * v2) + v1))) = (q13 164 (xN ((6 * v4) + v3))) then (v7 + 1) else v7) (v8 + 1) q13)))))
theorem g_M_year_46 {X : XX} {d : Nat} {L : XL} {F : Nat}  {r : Int32 × XI}  : ∀ (n : Nat) (v1 : Int32) (v2 : Int32) (v3 : Int32) (v4 : Int32) (v5 : Int32) (v6 : Int32) (v7 : Int32) (v8 : Int32) (I : XI), f_M_year_46 F n v1 v2 v3 v4 v5 v6 v7 v8 I = some r → xEv X (d + 9) 264 46 [.ref 131, .int v1, .int v2, .int v3, .int v4, .int v5, .int v6, .int v7, .int v8] [] I L (some (.int r.1)) r.2 L := by
  intro n
  induction n with
  | zero => intro v1 v2 v3 v4 v5 v6 v7 v8 I h; rw [f_M_year_46] at h; cases h
  | succ n ih =>
    intro v1 v2 v3 v4 v5 v6 v7 v8 I h 
    rw [f_M_year_46] at h
    refine xeb 2 (pc' := 50) (ls' := [.ref 131, .int v1, .int v2, .int v3, .int v4, .int v5, .int v6, .int v7, .int v8]) (st' := [.int v6, .int v8]) rfl ?_
    by_cases c9 : v6 ≤ v8
    · rw [if_pos c9] at h
      refine xei_ge_t rfl c9 ?_
      refine xeb 1 (pc' := 130) (ls' := [.ref 131, .int v1, .int v2, .int v3, .int v4, .int v5, .int v6, .int v7, .int v8]) (st' := [.int v7]) rfl ?_
      obtain rfl := Option.some.inj h
      exact xeiret rfl rfl
    · rw [if_neg c9] at h
      refine xei_ge_f rfl c9 ?_
      refine xeb 1 (pc' := 54) (ls' := [.ref 131, .int v1, .int v2, .int v3, .int v4, .int v5, .int v6, .int v7, .int v8]) (st' := [.ref 131]) rfl ?_
      obtain ⟨q10, eq10, h⟩ := xbind_some h
      refine xcallV rfl xsh131 rfl rfl rfl (Nat.le_of_ble_eq_true rfl) (Nat.le_of_ble_eq_true rfl) (Nat.le_of_ble_eq_true rfl) rfl (g_M_copies (d := d + 8) _ eq10) ?_
      refine xeb 2 (pc' := 59) (ls' := [.ref 131, .int v1, .int v2, .int v3, .int v4, .int v5, .int v6, .int v7, .int v8]) (st' := [.ref 131, .ref 131]) rfl ?_
      refine xegf0 rfl xsh131 (by decide) ?_
      refine xeb 2 (pc' := 65) (ls' := [.ref 131, .int v1, .int v2, .int v3, .int v4, .int v5, .int v6, .int v7, .int v8]) (st' := [.int ((q10 131 50) + v8), .ref 131]) rfl ?_
      refine xepf0 rfl xsh131 (by decide) ?_
      obtain ⟨I11, hI11, h⟩ := xst_some h
      rw [← hI11]
      refine xeb 2 (pc' := 71) (ls' := [.ref 131, .int v1, .int v2, .int v3, .int v4, .int v5, .int v6, .int v7, .int v8]) (st' := [.int v5, .ref 131]) rfl ?_
      obtain ⟨q12, eq12, h⟩ := xbind_some h
      refine xcallV rfl xsh131 rfl rfl rfl (Nat.le_of_ble_eq_true rfl) (Nat.le_of_ble_eq_true rfl) (Nat.le_of_ble_eq_true rfl) rfl (g_M_goes (d := d + 0) _ eq12) ?_
      refine xeb 2 (pc' := 76) (ls' := [.ref 131, .int v1, .int v2, .int v3, .int v4, .int v5, .int v6, .int v7, .int v8]) (st' := [.int (-1), .ref 131]) rfl ?_
      obtain ⟨q13, eq13, h⟩ := xbind_some h
      refine xcallV rfl xsh131 rfl rfl rfl (Nat.le_of_ble_eq_true rfl) (Nat.le_of_ble_eq_true rfl) (Nat.le_of_ble_eq_true rfl) rfl (g_M_fillsParts (d := d + 3) _ eq13) ?_
      refine xeb 1 (pc' := 80) (ls' := [.ref 131, .int v1, .int v2, .int v3, .int v4, .int v5, .int v6, .int v7, .int v8]) (st' := [.ref 131]) rfl ?_
      refine xegf2 rfl xsh131 (by decide) rfl ?_
      refine xeb 5 (pc' := 89) (ls' := [.ref 131, .int v1, .int v2, .int v3, .int v4, .int v5, .int v6, .int v7, .int v8]) (st' := [.int ((6 * v2) + v1), .ref 164]) rfl ?_
      obtain ⟨b14, h⟩ := xck_some h
      refine xeia rfl xsh164 b14 ?_
      by_cases c15 : (q13 164 (xN ((6 * v2) + v1))) < 0
      · rw [if_pos c15] at h
        refine xef_lt_t rfl c15 ?_
        refine xeb 2 (pc' := 46) (ls' := [.ref 131, .int v1, .int v2, .int v3, .int v4, .int v5, .int v6, .int v7, .int (v8 + 1)]) (st' := []) rfl ?_
        exact ih v1 v2 v3 v4 v5 v6 v7 (v8 + 1) q13 h
      · rw [if_neg c15] at h
        refine xef_lt_f rfl c15 ?_
        refine xeb 1 (pc' := 94) (ls' := [.ref 131, .int v1, .int v2, .int v3, .int v4, .int v5, .int v6, .int v7, .int v8]) (st' := [.ref 131]) rfl ?_
        refine xegf2 rfl xsh131 (by decide) rfl ?_
        refine xeb 5 (pc' := 103) (ls' := [.ref 131, .int v1, .int v2, .int v3, .int v4, .int v5, .int v6, .int v7, .int v8]) (st' := [.int ((6 * v2) + v1), .ref 164]) rfl ?_
        obtain ⟨b16, h⟩ := xck_some h
        refine xeia rfl xsh164 b16 ?_
        refine xeb 1 (pc' := 105) (ls' := [.ref 131, .int v1, .int v2, .int v3, .int v4, .int v5, .int v6, .int v7, .int v8]) (st' := [.ref 131, .int (q13 164 (xN ((6 * v2) + v1)))]) rfl ?_
        refine xegf2 rfl xsh131 (by decide) rfl ?_
        refine xeb 5 (pc' := 115) (ls' := [.ref 131, .int v1, .int v2, .int v3, .int v4, .int v5, .int v6, .int v7, .int v8]) (st' := [.int ((6 * v4) + v3), .ref 164, .int (q13 164 (xN ((6 * v2) + v1)))]) rfl ?_
        obtain ⟨b17, h⟩ := xck_some h
        refine xeia rfl xsh164 b17 ?_
        have hj : xEv X (d + 9) 264 122 [.ref 131, .int v1, .int v2, .int v3, .int v4, .int v5, .int v6, .int (if (q13 164 (xN ((6 * v2) + v1))) = (q13 164 (xN ((6 * v4) + v3))) then (v7 + 1) else v7), .int v8] [] q13 L (some (.int r.1)) r.2 L := by
          refine xeb 2 (pc' := 46) (ls' := [.ref 131, .int v1, .int v2, .int v3, .int v4, .int v5, .int v6, .int (if (q13 164 (xN ((6 * v2) + v1))) = (q13 164 (xN ((6 * v4) + v3))) then (v7 + 1) else v7), .int (v8 + 1)]) (st' := []) rfl ?_
          exact ih v1 v2 v3 v4 v5 v6 (if (q13 164 (xN ((6 * v2) + v1))) = (q13 164 (xN ((6 * v4) + v3))) then (v7 + 1) else v7) (v8 + 1) q13 h
        by_cases c18 : (q13 164 (xN ((6 * v2) + v1))) = (q13 164 (xN ((6 * v4) + v3)))
        · simp only [if_pos c18] at hj
          refine xei_ne_t rfl c18 ?_
          exact xeb 1 rfl hj
        · simp only [if_neg c18] at hj
          refine xei_ne_f rfl c18 ?_
          exact xeb 0 rfl hj
noncomputable def f_M_year (F : Nat) (a1 : Int32) (a2 : Int32) (a3 : Int32) (a4 : Int32) (a5 : Int32) (a6 : Int32) (I : XI) : Option (Int32 × XI) :=
  (f_M_isCell I a1 a2).bind fun q1 => if q1 = 0 then (some ((-1), I)) else ((f_M_isCell I a3 a4).bind fun q3 => if q3 = 0 then (some ((-1), I)) else ((f_M_isLong a5).bind fun q5 => if q5 = 0 then (some ((-1), I)) else ((f_M_in a6 1 20).bind fun q7 => if q7 = 0 then (some ((-1), I)) else (f_M_year_46 F F a1 a2 a3 a4 a5 a6 0 0 I))))
theorem g_M_year {X : XX} {d : Nat} {L : XL} {F : Nat} {a1 : Int32} {a2 : Int32} {a3 : Int32} {a4 : Int32} {a5 : Int32} {a6 : Int32} {I : XI}  (r : Int32 × XI) (h : f_M_year F a1 a2 a3 a4 a5 a6 I = some r) : xEv X (d + 9) 264 0 [.ref 131, .int a1, .int a2, .int a3, .int a4, .int a5, .int a6, .null, .null] [] I L (some (.int r.1)) r.2 L := by
  rw [f_M_year] at h
  refine xeb 3 (pc' := 3) (ls' := [.ref 131, .int a1, .int a2, .int a3, .int a4, .int a5, .int a6, .null, .null]) (st' := [.int a2, .int a1, .ref 131]) rfl ?_
  obtain ⟨q1, eq1, h⟩ := xbind_some h
  refine xcallV rfl xsh131 rfl rfl rfl (Nat.le_of_ble_eq_true rfl) (Nat.le_of_ble_eq_true rfl) (Nat.le_of_ble_eq_true rfl) rfl (g_M_isCell (d := d + 7) _ eq1) ?_
  by_cases c2 : q1 = 0
  · rw [if_pos c2] at h
    refine xef_eq_t rfl c2 ?_
    refine xeb 1 (pc' := 39) (ls' := [.ref 131, .int a1, .int a2, .int a3, .int a4, .int a5, .int a6, .null, .null]) (st' := [.int (-1)]) rfl ?_
    obtain rfl := Option.some.inj h
    exact xeiret rfl rfl
  · rw [if_neg c2] at h
    refine xef_eq_f rfl c2 ?_
    refine xeb 3 (pc' := 13) (ls' := [.ref 131, .int a1, .int a2, .int a3, .int a4, .int a5, .int a6, .null, .null]) (st' := [.int a4, .int a3, .ref 131]) rfl ?_
    obtain ⟨q3, eq3, h⟩ := xbind_some h
    refine xcallV rfl xsh131 rfl rfl rfl (Nat.le_of_ble_eq_true rfl) (Nat.le_of_ble_eq_true rfl) (Nat.le_of_ble_eq_true rfl) rfl (g_M_isCell (d := d + 7) _ eq3) ?_
    by_cases c4 : q3 = 0
    · rw [if_pos c4] at h
      refine xef_eq_t rfl c4 ?_
      refine xeb 1 (pc' := 39) (ls' := [.ref 131, .int a1, .int a2, .int a3, .int a4, .int a5, .int a6, .null, .null]) (st' := [.int (-1)]) rfl ?_
      obtain rfl := Option.some.inj h
      exact xeiret rfl rfl
    · rw [if_neg c4] at h
      refine xef_eq_f rfl c4 ?_
      refine xeb 1 (pc' := 21) (ls' := [.ref 131, .int a1, .int a2, .int a3, .int a4, .int a5, .int a6, .null, .null]) (st' := [.int a5]) rfl ?_
      obtain ⟨q5, eq5, h⟩ := xbind_some h
      refine xcallS20 rfl rfl rfl (Nat.le_of_ble_eq_true rfl) (Nat.le_of_ble_eq_true rfl) (Nat.le_of_ble_eq_true rfl) rfl (g_M_isLong (d := d + 7) _ eq5) ?_
      by_cases c6 : q5 = 0
      · rw [if_pos c6] at h
        refine xef_eq_t rfl c6 ?_
        refine xeb 1 (pc' := 39) (ls' := [.ref 131, .int a1, .int a2, .int a3, .int a4, .int a5, .int a6, .null, .null]) (st' := [.int (-1)]) rfl ?_
        obtain rfl := Option.some.inj h
        exact xeiret rfl rfl
      · rw [if_neg c6] at h
        refine xef_eq_f rfl c6 ?_
        refine xeb 3 (pc' := 32) (ls' := [.ref 131, .int a1, .int a2, .int a3, .int a4, .int a5, .int a6, .null, .null]) (st' := [.int 20, .int 1, .int a6]) rfl ?_
        obtain ⟨q7, eq7, h⟩ := xbind_some h
        refine xcallS20 rfl rfl rfl (Nat.le_of_ble_eq_true rfl) (Nat.le_of_ble_eq_true rfl) (Nat.le_of_ble_eq_true rfl) rfl (g_M_in (d := d + 8) _ eq7) ?_
        by_cases c8 : q7 = 0
        · rw [if_pos c8] at h
          refine xef_ne_t rfl c8 ?_
          refine xeb 1 (pc' := 39) (ls' := [.ref 131, .int a1, .int a2, .int a3, .int a4, .int a5, .int a6, .null, .null]) (st' := [.int (-1)]) rfl ?_
          obtain rfl := Option.some.inj h
          exact xeiret rfl rfl
        · rw [if_neg c8] at h
          refine xef_ne_f rfl c8 ?_
          refine xeb 4 (pc' := 46) (ls' := [.ref 131, .int a1, .int a2, .int a3, .int a4, .int a5, .int a6, .int 0, .int 0]) (st' := []) rfl ?_
          exact g_M_year_46 F a1 a2 a3 a4 a5 a6 0 0 I h
noncomputable def f_Clues_add (a1 : Int32) (a2 : Int32) (I : XI) : Option (Int32 × XI) :=
  if (I 127 3) < 20 then (xck (xin (I 127 3) 20) (xst (xput I 128 (xN (I 127 3)) a1) fun I3 => xck (xin (I3 127 3) 20) (xst (xput I3 129 (xN (I3 127 3)) a2) fun I5 => xst (xput I5 127 3 ((I5 127 3) + 1)) fun I6 => some (((I6 127 3) - 1), I6)))) else (some ((-1), I))
theorem g_Clues_add {X : XX} {d : Nat} {L : XL} {a1 : Int32} {a2 : Int32} {I : XI}  (r : Int32 × XI) (h : f_Clues_add a1 a2 I = some r) : xEv X (d + 0) 265 0 [.ref 127, .int a1, .int a2] [] I L (some (.int r.1)) r.2 L := by
  rw [f_Clues_add] at h
  refine xeb 1 (pc' := 1) (ls' := [.ref 127, .int a1, .int a2]) (st' := [.ref 127]) rfl ?_
  refine xegf0 rfl xsh127 (by decide) ?_
  refine xeb 1 (pc' := 6) (ls' := [.ref 127, .int a1, .int a2]) (st' := [.int 20, .int (I 127 3)]) rfl ?_
  by_cases c1 : (I 127 3) < 20
  · rw [if_pos c1] at h
    refine xei_lt_t rfl c1 ?_
    refine xeb 1 (pc' := 12) (ls' := [.ref 127, .int a1, .int a2]) (st' := [.ref 127]) rfl ?_
    refine xegf2 rfl xsh127 (by decide) rfl ?_
    refine xeb 1 (pc' := 16) (ls' := [.ref 127, .int a1, .int a2]) (st' := [.ref 127, .ref 128]) rfl ?_
    refine xegf0 rfl xsh127 (by decide) ?_
    refine xeb 1 (pc' := 20) (ls' := [.ref 127, .int a1, .int a2]) (st' := [.int a1, .int (I 127 3), .ref 128]) rfl ?_
    obtain ⟨b2, h⟩ := xck_some h
    refine xeis rfl xsh128 b2 ?_
    obtain ⟨I3, hI3, h⟩ := xst_some h
    rw [← hI3]
    refine xeb 1 (pc' := 22) (ls' := [.ref 127, .int a1, .int a2]) (st' := [.ref 127]) rfl ?_
    refine xegf2 rfl xsh127 (by decide) rfl ?_
    refine xeb 1 (pc' := 26) (ls' := [.ref 127, .int a1, .int a2]) (st' := [.ref 127, .ref 129]) rfl ?_
    refine xegf0 rfl xsh127 (by decide) ?_
    refine xeb 1 (pc' := 30) (ls' := [.ref 127, .int a1, .int a2]) (st' := [.int a2, .int (I3 127 3), .ref 129]) rfl ?_
    obtain ⟨b4, h⟩ := xck_some h
    refine xeis rfl xsh129 b4 ?_
    obtain ⟨I5, hI5, h⟩ := xst_some h
    rw [← hI5]
    refine xeb 2 (pc' := 33) (ls' := [.ref 127, .int a1, .int a2]) (st' := [.ref 127, .ref 127]) rfl ?_
    refine xegf0 rfl xsh127 (by decide) ?_
    refine xeb 2 (pc' := 38) (ls' := [.ref 127, .int a1, .int a2]) (st' := [.int ((I5 127 3) + 1), .ref 127]) rfl ?_
    refine xepf0 rfl xsh127 (by decide) ?_
    obtain ⟨I6, hI6, h⟩ := xst_some h
    rw [← hI6]
    refine xeb 1 (pc' := 42) (ls' := [.ref 127, .int a1, .int a2]) (st' := [.ref 127]) rfl ?_
    refine xegf0 rfl xsh127 (by decide) ?_
    refine xeb 2 (pc' := 47) (ls' := [.ref 127, .int a1, .int a2]) (st' := [.int ((I6 127 3) - 1)]) rfl ?_
    obtain rfl := Option.some.inj h
    exact xeiret rfl rfl
  · rw [if_neg c1] at h
    refine xei_lt_f rfl c1 ?_
    refine xeb 1 (pc' := 10) (ls' := [.ref 127, .int a1, .int a2]) (st' := [.int (-1)]) rfl ?_
    obtain rfl := Option.some.inj h
    exact xeiret rfl rfl
noncomputable def f_H_tell (a1 : Int32) (a2 : Int32) (I : XI) : Option (Int32 × XI) :=
  (f_H_isSide a1).bind fun q1 => if q1 = 0 then (some ((-1), I)) else (if a2 < (-3) then (some ((-1), I)) else (if a2 ≤ 3 then ((f_Clues_add a1 a2 I).bind fun q5 => some (q5.1, q5.2)) else (some ((-1), I))))
theorem g_H_tell {X : XX} {d : Nat} {L : XL} {a1 : Int32} {a2 : Int32} {I : XI}  (r : Int32 × XI) (h : f_H_tell a1 a2 I = some r) : xEv X (d + 1) 266 0 [.ref 0, .int a1, .int a2] [] I L (some (.int r.1)) r.2 L := by
  rw [f_H_tell] at h
  refine xeb 1 (pc' := 1) (ls' := [.ref 0, .int a1, .int a2]) (st' := [.int a1]) rfl ?_
  obtain ⟨q1, eq1, h⟩ := xbind_some h
  refine xcallS20 rfl rfl rfl (Nat.le_of_ble_eq_true rfl) (Nat.le_of_ble_eq_true rfl) (Nat.le_of_ble_eq_true rfl) rfl (g_H_isSide (d := d + 0) _ eq1) ?_
  by_cases c2 : q1 = 0
  · rw [if_pos c2] at h
    refine xef_eq_t rfl c2 ?_
    refine xeb 1 (pc' := 19) (ls' := [.ref 0, .int a1, .int a2]) (st' := [.int (-1)]) rfl ?_
    obtain rfl := Option.some.inj h
    exact xeiret rfl rfl
  · rw [if_neg c2] at h
    refine xef_eq_f rfl c2 ?_
    refine xeb 2 (pc' := 10) (ls' := [.ref 0, .int a1, .int a2]) (st' := [.int (-3), .int a2]) rfl ?_
    by_cases c3 : a2 < (-3)
    · rw [if_pos c3] at h
      refine xei_lt_t rfl c3 ?_
      refine xeb 1 (pc' := 19) (ls' := [.ref 0, .int a1, .int a2]) (st' := [.int (-1)]) rfl ?_
      obtain rfl := Option.some.inj h
      exact xeiret rfl rfl
    · rw [if_neg c3] at h
      refine xei_lt_f rfl c3 ?_
      refine xeb 2 (pc' := 15) (ls' := [.ref 0, .int a1, .int a2]) (st' := [.int 3, .int a2]) rfl ?_
      by_cases c4 : a2 ≤ 3
      · rw [if_pos c4] at h
        refine xei_le_t rfl c4 ?_
        refine xeb 1 (pc' := 21) (ls' := [.ref 0, .int a1, .int a2]) (st' := [.ref 0]) rfl ?_
        refine xegf2 rfl xsh0 (by decide) rfl ?_
        refine xeb 2 (pc' := 26) (ls' := [.ref 0, .int a1, .int a2]) (st' := [.int a2, .int a1, .ref 127]) rfl ?_
        obtain ⟨q5, eq5, h⟩ := xbind_some h
        refine xcallV rfl xsh127 rfl rfl rfl (Nat.le_of_ble_eq_true rfl) (Nat.le_of_ble_eq_true rfl) (Nat.le_of_ble_eq_true rfl) rfl (g_Clues_add (d := d + 0) _ eq5) ?_
        obtain rfl := Option.some.inj h
        exact xeiret rfl rfl
      · rw [if_neg c4] at h
        refine xei_le_f rfl c4 ?_
        refine xeb 1 (pc' := 19) (ls' := [.ref 0, .int a1, .int a2]) (st' := [.int (-1)]) rfl ?_
        obtain rfl := Option.some.inj h
        exact xeiret rfl rfl
