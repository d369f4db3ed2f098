/-! the methods as functions, and that a run answers so (by gen6.py) -/
noncomputable def f_M_clash (F : Nat) (a1 : Int32) (a2 : Int32) (I : XI) : Option (Int32 × XI) :=
  (f_M_isCell I a1 a2).bind fun q1 => if q1 = 0 then (some ((-1), I)) else ((f_M_copies F I).bind fun q3 => (f_M_hasKnobs q3 ((6 * a2) + a1)).bind fun q4 => if q4 = 0 then (some ((-1), q3)) else ((f_M_clashBits F q3 ((6 * a2) + a1)).bind fun q6 => some (q6, q3)))
theorem g_M_clash {X : XX} {d : Nat} {L : XL} {F : Nat} {a1 : Int32} {a2 : Int32} {I : XI}  (r : Int32 × XI) (h : f_M_clash F a1 a2 I = some r) : xEv X (d + 5) 202 0 [.ref 131, .int a1, .int a2] [] I L (some (.int r.1)) r.2 L := by
  rw [f_M_clash] at h
  refine xeb 3 (pc' := 3) (ls' := [.ref 131, .int a1, .int a2]) (st' := [.int a2, .int a1, .ref 131]) rfl ?_
  obtain ⟨q1, eq1, h⟩ := xbind_some h
  refine xcallV rfl xsh131 rfl rfl rfl (Nat.le_of_ble_eq_true rfl) (Nat.le_of_ble_eq_true rfl) (Nat.le_of_ble_eq_true rfl) rfl (g_M_isCell (d := d + 3) _ eq1) ?_
  by_cases c2 : q1 = 0
  · rw [if_pos c2] at h
    refine xef_ne_t rfl c2 ?_
    refine xeb 1 (pc' := 10) (ls' := [.ref 131, .int a1, .int a2]) (st' := [.int (-1)]) rfl ?_
    obtain rfl := Option.some.inj h
    exact xeiret rfl rfl
  · rw [if_neg c2] at h
    refine xef_ne_f rfl c2 ?_
    refine xeb 1 (pc' := 12) (ls' := [.ref 131, .int a1, .int a2]) (st' := [.ref 131]) rfl ?_
    obtain ⟨q3, eq3, h⟩ := xbind_some h
    refine xcallV rfl xsh131 rfl rfl rfl (Nat.le_of_ble_eq_true rfl) (Nat.le_of_ble_eq_true rfl) (Nat.le_of_ble_eq_true rfl) rfl (g_M_copies (d := d + 4) _ eq3) ?_
    refine xeb 6 (pc' := 22) (ls' := [.ref 131, .int a1, .int a2]) (st' := [.int ((6 * a2) + a1), .ref 131]) rfl ?_
    obtain ⟨q4, eq4, h⟩ := xbind_some h
    refine xcallV rfl xsh131 rfl rfl rfl (Nat.le_of_ble_eq_true rfl) (Nat.le_of_ble_eq_true rfl) (Nat.le_of_ble_eq_true rfl) rfl (g_M_hasKnobs (d := d + 2) _ eq4) ?_
    by_cases c5 : q4 = 0
    · rw [if_pos c5] at h
      refine xef_eq_t rfl c5 ?_
      refine xeb 1 (pc' := 42) (ls' := [.ref 131, .int a1, .int a2]) (st' := [.int (-1)]) rfl ?_
      obtain rfl := Option.some.inj h
      exact xeiret rfl rfl
    · rw [if_neg c5] at h
      refine xef_eq_f rfl c5 ?_
      refine xeb 6 (pc' := 35) (ls' := [.ref 131, .int a1, .int a2]) (st' := [.int ((6 * a2) + a1), .ref 131]) rfl ?_
      obtain ⟨q6, eq6, h⟩ := xbind_some h
      refine xcallV rfl xsh131 rfl rfl rfl (Nat.le_of_ble_eq_true rfl) (Nat.le_of_ble_eq_true rfl) (Nat.le_of_ble_eq_true rfl) rfl (g_M_clashBits (d := d + 0) _ eq6) ?_
      refine xeb 1 (pc' := 42) (ls' := [.ref 131, .int a1, .int a2]) (st' := [.int q6]) rfl ?_
      obtain rfl := Option.some.inj h
      exact xeiret rfl rfl
noncomputable def f_Table_calledOver (S0 : Nat) (I : XI) (a1 : Int32) (a2 : Int32) : Option (Int32) :=
  (f_Table_beside S0 I a1 a2).bind fun q1 => if q1 = (-1) then (some (-100)) else ((f_Table_isPiece S0 I q1).bind fun q3 => if q3 = 0 then (some (-100)) else ((f_H_opposite a2).bind fun q5 => xck (xin ((q1 * 4) + q5) 120) (some (-(I (S0 + 2) (xN ((q1 * 4) + q5)))))))
theorem g_Table_calledOver {X : XX} {d : Nat} {L : XL} {S0 : Nat} {I : XI} {a1 : Int32} {a2 : Int32} (hS0 : xisTb S0) (r : Int32) (h : f_Table_calledOver S0 I a1 a2 = some r) : xEv X (d + 1) 203 0 [.ref S0, .int a1, .int a2, .null] [] I L (some (.int r)) I L := by
  rw [f_Table_calledOver] at h
  refine xeb 3 (pc' := 3) (ls' := [.ref S0, .int a1, .int a2, .null]) (st' := [.int a2, .int a1, .ref S0]) rfl ?_
  obtain ⟨q1, eq1, h⟩ := xbind_some h
  refine xcallV rfl hS0.1 rfl rfl rfl (Nat.le_of_ble_eq_true rfl) (Nat.le_of_ble_eq_true rfl) (Nat.le_of_ble_eq_true rfl) rfl (g_Table_beside (d := d + 0) hS0 _ eq1) ?_
  refine xeb 3 (pc' := 9) (ls' := [.ref S0, .int a1, .int a2, .int q1]) (st' := [.int (-1), .int q1]) rfl ?_
  by_cases c2 : q1 = (-1)
  · rw [if_pos c2] at h
    refine xei_eq_t rfl c2 ?_
    refine xeb 2 (pc' := 39) (ls' := [.ref S0, .int a1, .int a2, .int q1]) (st' := [.int (-100)]) rfl ?_
    obtain rfl := Option.some.inj h
    exact xeiret rfl rfl
  · rw [if_neg c2] at h
    refine xei_eq_f rfl c2 ?_
    refine xeb 2 (pc' := 14) (ls' := [.ref S0, .int a1, .int a2, .int q1]) (st' := [.int q1, .ref S0]) rfl ?_
    obtain ⟨q3, eq3, h⟩ := xbind_some h
    refine xcallV rfl hS0.1 rfl rfl rfl (Nat.le_of_ble_eq_true rfl) (Nat.le_of_ble_eq_true rfl) (Nat.le_of_ble_eq_true rfl) rfl (g_Table_isPiece (d := d + 0) hS0 _ eq3) ?_
    by_cases c4 : q3 = 0
    · rw [if_pos c4] at h
      refine xef_ne_t rfl c4 ?_
      refine xeb 2 (pc' := 39) (ls' := [.ref S0, .int a1, .int a2, .int q1]) (st' := [.int (-100)]) rfl ?_
      obtain rfl := Option.some.inj h
      exact xeiret rfl rfl
    · rw [if_neg c4] at h
      refine xef_ne_f rfl c4 ?_
      refine xeb 1 (pc' := 26) (ls' := [.ref S0, .int a1, .int a2, .int q1]) (st' := [.ref S0]) rfl ?_
      refine xegf2 rfl hS0.1 (by decide) rfl ?_
      refine xeb 4 (pc' := 33) (ls' := [.ref S0, .int a1, .int a2, .int q1]) (st' := [.int a2, .int (q1 * 4), .ref (S0 + 2)]) rfl ?_
      obtain ⟨q5, eq5, h⟩ := xbind_some h
      refine xcallS30 rfl rfl rfl (Nat.le_of_ble_eq_true rfl) (Nat.le_of_ble_eq_true rfl) (Nat.le_of_ble_eq_true rfl) rfl (g_H_opposite (d := d + 0) _ eq5) ?_
      refine xeb 1 (pc' := 37) (ls' := [.ref S0, .int a1, .int a2, .int q1]) (st' := [.int ((q1 * 4) + q5), .ref (S0 + 2)]) rfl ?_
      obtain ⟨b6, h⟩ := xck_some h
      refine xeia rfl hS0.2.2.1 b6 ?_
      refine xeb 1 (pc' := 39) (ls' := [.ref S0, .int a1, .int a2, .int q1]) (st' := [.int (-(I (S0 + 2) (xN ((q1 * 4) + q5))))]) rfl ?_
      obtain rfl := Option.some.inj h
      exact xeiret rfl rfl
noncomputable def f_H_called (I : XI) (a1 : Int32) (a2 : Int32) (a3 : Int32) : Option (Int32) :=
  (f_Table_holeAt 17 I a1 a2).bind fun q1 => if q1 = (-1) then (some (-100)) else ((f_H_isSide a3).bind fun q3 => if q3 = 0 then (some (-100)) else ((f_Table_calledOver 17 I q1 a3).bind fun q5 => some q5))
theorem g_H_called {X : XX} {d : Nat} {L : XL} {I : XI} {a1 : Int32} {a2 : Int32} {a3 : Int32}  (r : Int32) (h : f_H_called I a1 a2 a3 = some r) : xEv X (d + 2) 204 0 [.ref 0, .int a1, .int a2, .int a3, .null] [] I L (some (.int r)) I L := by
  rw [f_H_called] at h
  refine xeb 1 (pc' := 1) (ls' := [.ref 0, .int a1, .int a2, .int a3, .null]) (st' := [.ref 0]) rfl ?_
  refine xegf2 rfl xsh0 (by decide) rfl ?_
  refine xeb 2 (pc' := 6) (ls' := [.ref 0, .int a1, .int a2, .int a3, .null]) (st' := [.int a2, .int a1, .ref 17]) rfl ?_
  obtain ⟨q1, eq1, h⟩ := xbind_some h
  refine xcallV rfl xsh17 rfl rfl rfl (Nat.le_of_ble_eq_true rfl) (Nat.le_of_ble_eq_true rfl) (Nat.le_of_ble_eq_true rfl) rfl (g_Table_holeAt (d := d + 0) xis17 _ eq1) ?_
  refine xeb 3 (pc' := 14) (ls' := [.ref 0, .int a1, .int a2, .int a3, .int q1]) (st' := [.int (-1), .int q1]) rfl ?_
  by_cases c2 : q1 = (-1)
  · rw [if_pos c2] at h
    refine xei_eq_t rfl c2 ?_
    refine xeb 2 (pc' := 39) (ls' := [.ref 0, .int a1, .int a2, .int a3, .int q1]) (st' := [.int (-100)]) rfl ?_
    obtain rfl := Option.some.inj h
    exact xeiret rfl rfl
  · rw [if_neg c2] at h
    refine xei_eq_f rfl c2 ?_
    refine xeb 1 (pc' := 18) (ls' := [.ref 0, .int a1, .int a2, .int a3, .int q1]) (st' := [.int a3]) rfl ?_
    obtain ⟨q3, eq3, h⟩ := xbind_some h
    refine xcallS20 rfl rfl rfl (Nat.le_of_ble_eq_true rfl) (Nat.le_of_ble_eq_true rfl) (Nat.le_of_ble_eq_true rfl) rfl (g_H_isSide (d := d + 1) _ eq3) ?_
    by_cases c4 : q3 = 0
    · rw [if_pos c4] at h
      refine xef_ne_t rfl c4 ?_
      refine xeb 2 (pc' := 39) (ls' := [.ref 0, .int a1, .int a2, .int a3, .int q1]) (st' := [.int (-100)]) rfl ?_
      obtain rfl := Option.some.inj h
      exact xeiret rfl rfl
    · rw [if_neg c4] at h
      refine xef_ne_f rfl c4 ?_
      refine xeb 1 (pc' := 30) (ls' := [.ref 0, .int a1, .int a2, .int a3, .int q1]) (st' := [.ref 0]) rfl ?_
      refine xegf2 rfl xsh0 (by decide) rfl ?_
      refine xeb 2 (pc' := 36) (ls' := [.ref 0, .int a1, .int a2, .int a3, .int q1]) (st' := [.int a3, .int q1, .ref 17]) rfl ?_
      obtain ⟨q5, eq5, h⟩ := xbind_some h
      refine xcallV rfl xsh17 rfl rfl rfl (Nat.le_of_ble_eq_true rfl) (Nat.le_of_ble_eq_true rfl) (Nat.le_of_ble_eq_true rfl) rfl (g_Table_calledOver (d := d + 0) xis17 _ eq5) ?_
      obtain rfl := Option.some.inj h
      exact xeiret rfl rfl
noncomputable def f_M_calledAt (I : XI) (a1 : Int32) (a2 : Int32) : Option (Int32) :=
  (f_M_overTo I a1 a2).bind fun q1 => if q1 < 0 then (some (-100)) else ((f_M_isHole I q1).bind fun q3 => if q3 = 0 then ((f_M_knobOf I q1 ((a2 + 2) - (a2 + 2) / 4 * 4)).bind fun q5 => some (-q5)) else (some (-100)))
theorem g_M_calledAt {X : XX} {d : Nat} {L : XL} {I : XI} {a1 : Int32} {a2 : Int32}  (r : Int32) (h : f_M_calledAt I a1 a2 = some r) : xEv X (d + 3) 205 0 [.ref 131, .int a1, .int a2, .null] [] I L (some (.int r)) I L := by
  rw [f_M_calledAt] at h
  refine xeb 3 (pc' := 3) (ls' := [.ref 131, .int a1, .int a2, .null]) (st' := [.int a2, .int a1, .ref 131]) rfl ?_
  obtain ⟨q1, eq1, h⟩ := xbind_some h
  refine xcallV rfl xsh131 rfl rfl rfl (Nat.le_of_ble_eq_true rfl) (Nat.le_of_ble_eq_true rfl) (Nat.le_of_ble_eq_true rfl) rfl (g_M_overTo (d := d + 0) _ eq1) ?_
  refine xeb 2 (pc' := 8) (ls' := [.ref 131, .int a1, .int a2, .int q1]) (st' := [.int q1]) rfl ?_
  by_cases c2 : q1 < 0
  · rw [if_pos c2] at h
    refine xef_lt_t rfl c2 ?_
    refine xeb 2 (pc' := 35) (ls' := [.ref 131, .int a1, .int a2, .int q1]) (st' := [.int (-100)]) rfl ?_
    obtain rfl := Option.some.inj h
    exact xeiret rfl rfl
  · rw [if_neg c2] at h
    refine xef_lt_f rfl c2 ?_
    refine xeb 2 (pc' := 13) (ls' := [.ref 131, .int a1, .int a2, .int q1]) (st' := [.int q1, .ref 131]) rfl ?_
    obtain ⟨q3, eq3, h⟩ := xbind_some h
    refine xcallV rfl xsh131 rfl rfl rfl (Nat.le_of_ble_eq_true rfl) (Nat.le_of_ble_eq_true rfl) (Nat.le_of_ble_eq_true rfl) rfl (g_M_isHole (d := d + 1) _ eq3) ?_
    by_cases c4 : q3 = 0
    · rw [if_pos c4] at h
      refine xef_eq_t rfl c4 ?_
      refine xeb 7 (pc' := 31) (ls' := [.ref 131, .int a1, .int a2, .int q1]) (st' := [.int ((a2 + 2) - (a2 + 2) / 4 * 4), .int q1, .ref 131]) rfl ?_
      obtain ⟨q5, eq5, h⟩ := xbind_some h
      refine xcallV rfl xsh131 rfl rfl rfl (Nat.le_of_ble_eq_true rfl) (Nat.le_of_ble_eq_true rfl) (Nat.le_of_ble_eq_true rfl) rfl (g_M_knobOf (d := d + 0) _ eq5) ?_
      refine xeb 1 (pc' := 35) (ls' := [.ref 131, .int a1, .int a2, .int q1]) (st' := [.int (-q5)]) rfl ?_
      obtain rfl := Option.some.inj h
      exact xeiret rfl rfl
    · rw [if_neg c4] at h
      refine xef_eq_f rfl c4 ?_
      refine xeb 2 (pc' := 35) (ls' := [.ref 131, .int a1, .int a2, .int q1]) (st' := [.int (-100)]) rfl ?_
      obtain rfl := Option.some.inj h
      exact xeiret rfl rfl
noncomputable def f_M_called (I : XI) (a1 : Int32) (a2 : Int32) (a3 : Int32) : Option (Int32) :=
  (f_M_isCell I a1 a2).bind fun q1 => if q1 = 0 then (some (-100)) else ((f_M_isSide a3).bind fun q3 => if q3 = 0 then (some (-100)) else ((f_M_isHole I ((6 * a2) + a1)).bind fun q5 => if q5 = 0 then (some (-100)) else ((f_M_calledAt I ((6 * a2) + a1) a3).bind fun q7 => some q7)))
theorem g_M_called {X : XX} {d : Nat} {L : XL} {I : XI} {a1 : Int32} {a2 : Int32} {a3 : Int32}  (r : Int32) (h : f_M_called I a1 a2 a3 = some r) : xEv X (d + 4) 206 0 [.ref 131, .int a1, .int a2, .int a3] [] I L (some (.int r)) I L := by
  rw [f_M_called] at h
  refine xeb 3 (pc' := 3) (ls' := [.ref 131, .int a1, .int a2, .int a3]) (st' := [.int a2, .int a1, .ref 131]) rfl ?_
  obtain ⟨q1, eq1, h⟩ := xbind_some h
  refine xcallV rfl xsh131 rfl rfl rfl (Nat.le_of_ble_eq_true rfl) (Nat.le_of_ble_eq_true rfl) (Nat.le_of_ble_eq_true rfl) rfl (g_M_isCell (d := d + 2) _ eq1) ?_
  by_cases c2 : q1 = 0
  · rw [if_pos c2] at h
    refine xef_eq_t rfl c2 ?_
    refine xeb 1 (pc' := 31) (ls' := [.ref 131, .int a1, .int a2, .int a3]) (st' := [.int (-100)]) rfl ?_
    obtain rfl := Option.some.inj h
    exact xeiret rfl rfl
  · rw [if_neg c2] at h
    refine xef_eq_f rfl c2 ?_
    refine xeb 1 (pc' := 10) (ls' := [.ref 131, .int a1, .int a2, .int a3]) (st' := [.int a3]) rfl ?_
    obtain ⟨q3, eq3, h⟩ := xbind_some h
    refine xcallS20 rfl rfl rfl (Nat.le_of_ble_eq_true rfl) (Nat.le_of_ble_eq_true rfl) (Nat.le_of_ble_eq_true rfl) rfl (g_M_isSide (d := d + 2) _ eq3) ?_
    by_cases c4 : q3 = 0
    · rw [if_pos c4] at h
      refine xef_eq_t rfl c4 ?_
      refine xeb 1 (pc' := 31) (ls' := [.ref 131, .int a1, .int a2, .int a3]) (st' := [.int (-100)]) rfl ?_
      obtain rfl := Option.some.inj h
      exact xeiret rfl rfl
    · rw [if_neg c4] at h
      refine xef_eq_f rfl c4 ?_
      refine xeb 6 (pc' := 23) (ls' := [.ref 131, .int a1, .int a2, .int a3]) (st' := [.int ((6 * a2) + a1), .ref 131]) rfl ?_
      obtain ⟨q5, eq5, h⟩ := xbind_some h
      refine xcallV rfl xsh131 rfl rfl rfl (Nat.le_of_ble_eq_true rfl) (Nat.le_of_ble_eq_true rfl) (Nat.le_of_ble_eq_true rfl) rfl (g_M_isHole (d := d + 2) _ eq5) ?_
      by_cases c6 : q5 = 0
      · rw [if_pos c6] at h
        refine xef_ne_t rfl c6 ?_
        refine xeb 1 (pc' := 31) (ls' := [.ref 131, .int a1, .int a2, .int a3]) (st' := [.int (-100)]) rfl ?_
        obtain rfl := Option.some.inj h
        exact xeiret rfl rfl
      · rw [if_neg c6] at h
        refine xef_ne_f rfl c6 ?_
        refine xeb 7 (pc' := 40) (ls' := [.ref 131, .int a1, .int a2, .int a3]) (st' := [.int a3, .int ((6 * a2) + a1), .ref 131]) rfl ?_
        obtain ⟨q7, eq7, h⟩ := xbind_some h
        refine xcallV rfl xsh131 rfl rfl rfl (Nat.le_of_ble_eq_true rfl) (Nat.le_of_ble_eq_true rfl) (Nat.le_of_ble_eq_true rfl) rfl (g_M_calledAt (d := d + 0) _ eq7) ?_
        obtain rfl := Option.some.inj h
        exact xeiret rfl rfl
noncomputable def f_Table_fitsHole_6 (F : Nat) (S0 : Nat) (I : XI) : Nat → Int32 → Int32 → Int32 → Int32 → Int32 → Option (Int32)
  | 0, _, _, _, _, _ => none
  | n + 1, v1, v2, v3, v4, v5 =>
    if 4 ≤ v5 then (xck (xnarz v4) (some v4)) else (if v4 = 0 then (xck (xnarz v4) (some v4)) else ((f_Table_calledOver S0 I v1 v5).bind fun q5 => if q5 = (-100) then (f_Table_fitsHole_6 F S0 I n v1 v2 v3 1 (v5 + 1)) else ((f_Table_spareKnob S0 I v2 v3 v5).bind fun q7 => f_Table_fitsHole_6 F S0 I n v1 v2 v3 (if q5 = q7 then 1 else 0) (v5 + 1))))
theorem g_Table_fitsHole_6 {X : XX} {d : Nat} {L : XL} {F : Nat} {S0 : Nat} {I : XI} (hS0 : xisTb S0) {r : Int32}  : ∀ (n : Nat) (v1 : Int32) (v2 : Int32) (v3 : Int32) (v4 : Int32) (v5 : Int32), f_Table_fitsHole_6 F S0 I n v1 v2 v3 v4 v5 = some r → ∀ (z6 : Value), xEv X (d + 2) 207 6 [.ref S0, .int v1, .int v2, .int v3, .int v4, .int v5, z6] [] I L (some (.int r)) I L := by
  intro n
  induction n with
  | zero => intro v1 v2 v3 v4 v5 h; rw [f_Table_fitsHole_6] at h; cases h
  | succ n ih =>
    intro v1 v2 v3 v4 v5 h z6
    rw [f_Table_fitsHole_6] at h
    refine xeb 2 (pc' := 9) (ls' := [.ref S0, .int v1, .int v2, .int v3, .int v4, .int v5, z6]) (st' := [.int 4, .int v5]) rfl ?_
    by_cases c1 : 4 ≤ v5
    · rw [if_pos c1] at h
      refine xei_ge_t rfl c1 ?_
      refine xeb 1 (pc' := 61) (ls' := [.ref S0, .int v1, .int v2, .int v3, .int v4, .int v5, z6]) (st' := [.int v4]) rfl ?_
      obtain ⟨b2, h⟩ := xck_some h
      obtain rfl := Option.some.inj h
      exact xeiret rfl b2
    · rw [if_neg c1] at h
      refine xei_ge_f rfl c1 ?_
      refine xeb 1 (pc' := 14) (ls' := [.ref S0, .int v1, .int v2, .int v3, .int v4, .int v5, z6]) (st' := [.int v4]) rfl ?_
      by_cases c3 : v4 = 0
      · rw [if_pos c3] at h
        refine xef_eq_t rfl c3 ?_
        refine xeb 1 (pc' := 61) (ls' := [.ref S0, .int v1, .int v2, .int v3, .int v4, .int v5, z6]) (st' := [.int v4]) rfl ?_
        obtain ⟨b4, h⟩ := xck_some h
        obtain rfl := Option.some.inj h
        exact xeiret rfl b4
      · rw [if_neg c3] at h
        refine xef_eq_f rfl c3 ?_
        refine xeb 3 (pc' := 21) (ls' := [.ref S0, .int v1, .int v2, .int v3, .int v4, .int v5, z6]) (st' := [.int v5, .int v1, .ref S0]) rfl ?_
        obtain ⟨q5, eq5, h⟩ := xbind_some h
        refine xcallV rfl hS0.1 rfl rfl rfl (Nat.le_of_ble_eq_true rfl) (Nat.le_of_ble_eq_true rfl) (Nat.le_of_ble_eq_true rfl) rfl (g_Table_calledOver (d := d + 0) hS0 _ eq5) ?_
        refine xeb 3 (pc' := 30) (ls' := [.ref S0, .int v1, .int v2, .int v3, .int v4, .int v5, .int q5]) (st' := [.int (-100), .int q5]) rfl ?_
        by_cases c6 : q5 = (-100)
        · rw [if_pos c6] at h
          refine xei_eq_t rfl c6 ?_
          refine xeb 5 (pc' := 6) (ls' := [.ref S0, .int v1, .int v2, .int v3, .int 1, .int (v5 + 1), .int q5]) (st' := []) rfl ?_
          exact ih v1 v2 v3 1 (v5 + 1) h _
        · rw [if_neg c6] at h
          refine xei_eq_f rfl c6 ?_
          refine xeb 5 (pc' := 40) (ls' := [.ref S0, .int v1, .int v2, .int v3, .int v4, .int v5, .int q5]) (st' := [.int v5, .int v3, .int v2, .ref S0, .int q5]) rfl ?_
          obtain ⟨q7, eq7, h⟩ := xbind_some h
          refine xcallV rfl hS0.1 rfl rfl rfl (Nat.le_of_ble_eq_true rfl) (Nat.le_of_ble_eq_true rfl) (Nat.le_of_ble_eq_true rfl) rfl (g_Table_spareKnob (d := d + 1) hS0 _ eq7) ?_
          have hj : xEv X (d + 2) 207 51 [.ref S0, .int v1, .int v2, .int v3, .int v4, .int v5, .int q5] [.int (if q5 = q7 then 1 else 0)] I L (some (.int r)) I L := by
            refine xeb 3 (pc' := 6) (ls' := [.ref S0, .int v1, .int v2, .int v3, .int (if q5 = q7 then 1 else 0), .int (v5 + 1), .int q5]) (st' := []) rfl ?_
            exact ih v1 v2 v3 (if q5 = q7 then 1 else 0) (v5 + 1) h _
          by_cases c8 : q5 = q7
          · simp only [if_pos c8] at hj
            refine xei_ne_t rfl c8 ?_
            exact xeb 2 rfl hj
          · simp only [if_neg c8] at hj
            refine xei_ne_f rfl c8 ?_
            exact xeb 1 rfl hj
noncomputable def f_Table_fitsHole (F : Nat) (S0 : Nat) (I : XI) (a1 : Int32) (a2 : Int32) (a3 : Int32) : Option (Int32) :=
  f_Table_fitsHole_6 F S0 I F a1 a2 a3 1 0
theorem g_Table_fitsHole {X : XX} {d : Nat} {L : XL} {F : Nat} {S0 : Nat} {I : XI} {a1 : Int32} {a2 : Int32} {a3 : Int32} (hS0 : xisTb S0) (r : Int32) (h : f_Table_fitsHole F S0 I a1 a2 a3 = some r) : xEv X (d + 2) 207 0 [.ref S0, .int a1, .int a2, .int a3, .null, .null, .null] [] I L (some (.int r)) I L := by
  rw [f_Table_fitsHole] at h
  refine xeb 4 (pc' := 6) (ls' := [.ref S0, .int a1, .int a2, .int a3, .int 1, .int 0, .null]) (st' := []) rfl ?_
  exact g_Table_fitsHole_6 hS0 F a1 a2 a3 1 0 h _
noncomputable def f_Table_sparesFor_15 (F : Nat) (S0 : Nat) (I : XI) (k4 : Int32 → Int32 → Int32 → Option (Int32)) : Nat → Int32 → Int32 → Int32 → Int32 → Option (Int32)
  | 0, _, _, _, _ => none
  | n + 1, v1, v2, v3, v4 =>
    if 4 ≤ v4 then (k4 v1 v2 (v3 + 1)) else ((f_Table_fitsHole F S0 I v1 v3 v4).bind fun q3 => f_Table_sparesFor_15 F S0 I k4 n v1 (if q3 = 0 then v2 else (v2 + 1)) v3 (v4 + 1))
theorem g_Table_sparesFor_15 {X : XX} {d : Nat} {L : XL} {F : Nat} {S0 : Nat} {I : XI} {k4 : Int32 → Int32 → Int32 → Option (Int32)} (hS0 : xisTb S0) {r : Int32} (hk4 : ∀ (v1 : Int32) (v2 : Int32) (v3 : Int32), k4 v1 v2 v3 = some r → ∀ (z4 : Value), xEv X (d + 3) 208 4 [.ref S0, .int v1, .int v2, .int v3, z4] [] I L (some (.int r)) I L) : ∀ (n : Nat) (v1 : Int32) (v2 : Int32) (v3 : Int32) (v4 : Int32), f_Table_sparesFor_15 F S0 I k4 n v1 v2 v3 v4 = some r → xEv X (d + 3) 208 15 [.ref S0, .int v1, .int v2, .int v3, .int v4] [] I L (some (.int r)) I L := by
  intro n
  induction n with
  | zero => intro v1 v2 v3 v4 h; rw [f_Table_sparesFor_15] at h; cases h
  | succ n ih =>
    intro v1 v2 v3 v4 h 
    rw [f_Table_sparesFor_15] at h
    refine xeb 2 (pc' := 18) (ls' := [.ref S0, .int v1, .int v2, .int v3, .int v4]) (st' := [.int 4, .int v4]) rfl ?_
    by_cases c2 : 4 ≤ v4
    · rw [if_pos c2] at h
      refine xei_ge_t rfl c2 ?_
      refine xeb 2 (pc' := 4) (ls' := [.ref S0, .int v1, .int v2, .int (v3 + 1), .int v4]) (st' := []) rfl ?_
      exact hk4 v1 v2 (v3 + 1) h _
    · rw [if_neg c2] at h
      refine xei_ge_f rfl c2 ?_
      refine xeb 4 (pc' := 26) (ls' := [.ref S0, .int v1, .int v2, .int v3, .int v4]) (st' := [.int v4, .int v3, .int v1, .ref S0]) rfl ?_
      obtain ⟨q3, eq3, h⟩ := xbind_some h
      refine xcallV rfl hS0.1 rfl rfl rfl (Nat.le_of_ble_eq_true rfl) (Nat.le_of_ble_eq_true rfl) (Nat.le_of_ble_eq_true rfl) rfl (g_Table_fitsHole (d := d + 0) hS0 _ eq3) ?_
      have hj : xEv X (d + 3) 208 35 [.ref S0, .int v1, .int (if q3 = 0 then v2 else (v2 + 1)), .int v3, .int v4] [] I L (some (.int r)) I L := by
        refine xeb 2 (pc' := 15) (ls' := [.ref S0, .int v1, .int (if q3 = 0 then v2 else (v2 + 1)), .int v3, .int (v4 + 1)]) (st' := []) rfl ?_
        exact ih v1 (if q3 = 0 then v2 else (v2 + 1)) v3 (v4 + 1) h
      by_cases c4 : q3 = 0
      · simp only [if_pos c4] at hj
        refine xef_eq_t rfl c4 ?_
        exact xeb 0 rfl hj
      · simp only [if_neg c4] at hj
        refine xef_eq_f rfl c4 ?_
        exact xeb 1 rfl hj
noncomputable def f_Table_sparesFor_4 (F : Nat) (S0 : Nat) (I : XI) : Nat → Int32 → Int32 → Int32 → Option (Int32)
  | 0, _, _, _ => none
  | n + 1, v1, v2, v3 =>
    if (I S0 2) ≤ v3 then (some v2) else (f_Table_sparesFor_15 F S0 I (fun v1 v2 v3 => f_Table_sparesFor_4 F S0 I n v1 v2 v3) F v1 v2 v3 0)
theorem g_Table_sparesFor_4 {X : XX} {d : Nat} {L : XL} {F : Nat} {S0 : Nat} {I : XI} (hS0 : xisTb S0) {r : Int32}  : ∀ (n : Nat) (v1 : Int32) (v2 : Int32) (v3 : Int32), f_Table_sparesFor_4 F S0 I n v1 v2 v3 = some r → ∀ (z4 : Value), xEv X (d + 3) 208 4 [.ref S0, .int v1, .int v2, .int v3, z4] [] I L (some (.int r)) I L := by
  intro n
  induction n with
  | zero => intro v1 v2 v3 h; rw [f_Table_sparesFor_4] at h; cases h
  | succ n ih =>
    intro v1 v2 v3 h z4
    rw [f_Table_sparesFor_4] at h
    refine xeb 2 (pc' := 6) (ls' := [.ref S0, .int v1, .int v2, .int v3, z4]) (st' := [.ref S0, .int v3]) rfl ?_
    refine xegf0 rfl hS0.1 (by decide) ?_
    by_cases c1 : (I S0 2) ≤ v3
    · rw [if_pos c1] at h
      refine xei_ge_t rfl c1 ?_
      refine xeb 1 (pc' := 48) (ls' := [.ref S0, .int v1, .int v2, .int v3, z4]) (st' := [.int v2]) rfl ?_
      obtain rfl := Option.some.inj h
      exact xeiret rfl rfl
    · rw [if_neg c1] at h
      refine xei_ge_f rfl c1 ?_
      refine xeb 2 (pc' := 15) (ls' := [.ref S0, .int v1, .int v2, .int v3, .int 0]) (st' := []) rfl ?_
      exact g_Table_sparesFor_15 hS0 (fun v1 v2 v3 h' z4 => ih v1 v2 v3 h' z4) F v1 v2 v3 0 h
noncomputable def f_Table_sparesFor (F : Nat) (S0 : Nat) (I : XI) (a1 : Int32) : Option (Int32) :=
  f_Table_sparesFor_4 F S0 I F a1 0 0
theorem g_Table_sparesFor {X : XX} {d : Nat} {L : XL} {F : Nat} {S0 : Nat} {I : XI} {a1 : Int32} (hS0 : xisTb S0) (r : Int32) (h : f_Table_sparesFor F S0 I a1 = some r) : xEv X (d + 3) 208 0 [.ref S0, .int a1, .null, .null, .null] [] I L (some (.int r)) I L := by
  rw [f_Table_sparesFor] at h
  refine xeb 4 (pc' := 4) (ls' := [.ref S0, .int a1, .int 0, .int 0, .null]) (st' := []) rfl ?_
  exact g_Table_sparesFor_4 hS0 F a1 0 0 h _
noncomputable def f_Table_firstSpareFor_12 (F : Nat) (S0 : Nat) (I : XI) (k2 : Int32 → Int32 → Option (Int32)) : Nat → Int32 → Int32 → Int32 → Option (Int32)
  | 0, _, _, _ => none
  | n + 1, v1, v2, v3 =>
    if 4 ≤ v3 then (k2 v1 (v2 + 1)) else ((f_Table_fitsHole F S0 I v1 v2 v3).bind fun q3 => if q3 = 0 then (f_Table_firstSpareFor_12 F S0 I k2 n v1 v2 (v3 + 1)) else (some ((10 * v2) + v3)))
theorem g_Table_firstSpareFor_12 {X : XX} {d : Nat} {L : XL} {F : Nat} {S0 : Nat} {I : XI} {k2 : Int32 → Int32 → Option (Int32)} (hS0 : xisTb S0) {r : Int32} (hk2 : ∀ (v1 : Int32) (v2 : Int32), k2 v1 v2 = some r → ∀ (z3 : Value), xEv X (d + 3) 209 2 [.ref S0, .int v1, .int v2, z3] [] I L (some (.int r)) I L) : ∀ (n : Nat) (v1 : Int32) (v2 : Int32) (v3 : Int32), f_Table_firstSpareFor_12 F S0 I k2 n v1 v2 v3 = some r → xEv X (d + 3) 209 12 [.ref S0, .int v1, .int v2, .int v3] [] I L (some (.int r)) I L := by
  intro n
  induction n with
  | zero => intro v1 v2 v3 h; rw [f_Table_firstSpareFor_12] at h; cases h
  | succ n ih =>
    intro v1 v2 v3 h 
    rw [f_Table_firstSpareFor_12] at h
    refine xeb 2 (pc' := 14) (ls' := [.ref S0, .int v1, .int v2, .int v3]) (st' := [.int 4, .int v3]) rfl ?_
    by_cases c2 : 4 ≤ v3
    · rw [if_pos c2] at h
      refine xei_ge_t rfl c2 ?_
      refine xeb 2 (pc' := 2) (ls' := [.ref S0, .int v1, .int (v2 + 1), .int v3]) (st' := []) rfl ?_
      exact hk2 v1 (v2 + 1) h _
    · rw [if_neg c2] at h
      refine xei_ge_f rfl c2 ?_
      refine xeb 4 (pc' := 21) (ls' := [.ref S0, .int v1, .int v2, .int v3]) (st' := [.int v3, .int v2, .int v1, .ref S0]) rfl ?_
      obtain ⟨q3, eq3, h⟩ := xbind_some h
      refine xcallV rfl hS0.1 rfl rfl rfl (Nat.le_of_ble_eq_true rfl) (Nat.le_of_ble_eq_true rfl) (Nat.le_of_ble_eq_true rfl) rfl (g_Table_fitsHole (d := d + 0) hS0 _ eq3) ?_
      by_cases c4 : q3 = 0
      · rw [if_pos c4] at h
        refine xef_eq_t rfl c4 ?_
        refine xeb 2 (pc' := 12) (ls' := [.ref S0, .int v1, .int v2, .int (v3 + 1)]) (st' := []) rfl ?_
        exact ih v1 v2 (v3 + 1) h
      · rw [if_neg c4] at h
        refine xef_eq_f rfl c4 ?_
        refine xeb 5 (pc' := 33) (ls' := [.ref S0, .int v1, .int v2, .int v3]) (st' := [.int ((10 * v2) + v3)]) rfl ?_
        obtain rfl := Option.some.inj h
        exact xeiret rfl rfl
noncomputable def f_Table_firstSpareFor_2 (F : Nat) (S0 : Nat) (I : XI) : Nat → Int32 → Int32 → Option (Int32)
  | 0, _, _ => none
  | n + 1, v1, v2 =>
    if (I S0 2) ≤ v2 then (some (-2)) else (f_Table_firstSpareFor_12 F S0 I (fun v1 v2 => f_Table_firstSpareFor_2 F S0 I n v1 v2) F v1 v2 0)
theorem g_Table_firstSpareFor_2 {X : XX} {d : Nat} {L : XL} {F : Nat} {S0 : Nat} {I : XI} (hS0 : xisTb S0) {r : Int32}  : ∀ (n : Nat) (v1 : Int32) (v2 : Int32), f_Table_firstSpareFor_2 F S0 I n v1 v2 = some r → ∀ (z3 : Value), xEv X (d + 3) 209 2 [.ref S0, .int v1, .int v2, z3] [] I L (some (.int r)) I L := by
  intro n
  induction n with
  | zero => intro v1 v2 h; rw [f_Table_firstSpareFor_2] at h; cases h
  | succ n ih =>
    intro v1 v2 h z3
    rw [f_Table_firstSpareFor_2] at h
    refine xeb 2 (pc' := 4) (ls' := [.ref S0, .int v1, .int v2, z3]) (st' := [.ref S0, .int v2]) rfl ?_
    refine xegf0 rfl hS0.1 (by decide) ?_
    by_cases c1 : (I S0 2) ≤ v2
    · rw [if_pos c1] at h
      refine xei_ge_t rfl c1 ?_
      refine xeb 1 (pc' := 48) (ls' := [.ref S0, .int v1, .int v2, z3]) (st' := [.int (-2)]) rfl ?_
      obtain rfl := Option.some.inj h
      exact xeiret rfl rfl
    · rw [if_neg c1] at h
      refine xei_ge_f rfl c1 ?_
      refine xeb 2 (pc' := 12) (ls' := [.ref S0, .int v1, .int v2, .int 0]) (st' := []) rfl ?_
      exact g_Table_firstSpareFor_12 hS0 (fun v1 v2 h' z3 => ih v1 v2 h' z3) F v1 v2 0 h
noncomputable def f_Table_firstSpareFor (F : Nat) (S0 : Nat) (I : XI) (a1 : Int32) : Option (Int32) :=
  f_Table_firstSpareFor_2 F S0 I F a1 0
theorem g_Table_firstSpareFor {X : XX} {d : Nat} {L : XL} {F : Nat} {S0 : Nat} {I : XI} {a1 : Int32} (hS0 : xisTb S0) (r : Int32) (h : f_Table_firstSpareFor F S0 I a1 = some r) : xEv X (d + 3) 209 0 [.ref S0, .int a1, .null, .null] [] I L (some (.int r)) I L := by
  rw [f_Table_firstSpareFor] at h
  refine xeb 2 (pc' := 2) (ls' := [.ref S0, .int a1, .int 0, .null]) (st' := []) rfl ?_
  exact g_Table_firstSpareFor_2 hS0 F a1 0 h _
noncomputable def f_H_spares (F : Nat) (I : XI) (a1 : Int32) (a2 : Int32) (a3 : Int32) : Option (Int32) :=
  (f_Table_holeAt 17 I a1 a2).bind fun q1 => if q1 = (-1) then (some (-1)) else (if a3 < 0 then (some (-1)) else (if a3 ≤ 1 then (if a3 = 0 then ((f_Table_sparesFor F 17 I q1).bind fun q6 => some q6) else ((f_Table_firstSpareFor F 17 I q1).bind fun q7 => some q7)) else (some (-1))))
theorem g_H_spares {X : XX} {d : Nat} {L : XL} {F : Nat} {I : XI} {a1 : Int32} {a2 : Int32} {a3 : Int32}  (r : Int32) (h : f_H_spares F I a1 a2 a3 = some r) : xEv X (d + 4) 210 0 [.ref 0, .int a1, .int a2, .int a3, .null] [] I L (some (.int r)) I L := by
  rw [f_H_spares] at h
  refine xeb 1 (pc' := 1) (ls' := [.ref 0, .int a1, .int a2, .int a3, .null]) (st' := [.ref 0]) rfl ?_
  refine xegf2 rfl xsh0 (by decide) rfl ?_
  refine xeb 2 (pc' := 6) (ls' := [.ref 0, .int a1, .int a2, .int a3, .null]) (st' := [.int a2, .int a1, .ref 17]) rfl ?_
  obtain ⟨q1, eq1, h⟩ := xbind_some h
  refine xcallV rfl xsh17 rfl rfl rfl (Nat.le_of_ble_eq_true rfl) (Nat.le_of_ble_eq_true rfl) (Nat.le_of_ble_eq_true rfl) rfl (g_Table_holeAt (d := d + 2) xis17 _ eq1) ?_
  refine xeb 3 (pc' := 14) (ls' := [.ref 0, .int a1, .int a2, .int a3, .int q1]) (st' := [.int (-1), .int q1]) rfl ?_
  by_cases c2 : q1 = (-1)
  · rw [if_pos c2] at h
    refine xei_eq_t rfl c2 ?_
    refine xeb 1 (pc' := 27) (ls' := [.ref 0, .int a1, .int a2, .int a3, .int q1]) (st' := [.int (-1)]) rfl ?_
    obtain rfl := Option.some.inj h
    exact xeiret rfl rfl
  · rw [if_neg c2] at h
    refine xei_eq_f rfl c2 ?_
    refine xeb 1 (pc' := 18) (ls' := [.ref 0, .int a1, .int a2, .int a3, .int q1]) (st' := [.int a3]) rfl ?_
    by_cases c3 : a3 < 0
    · rw [if_pos c3] at h
      refine xef_lt_t rfl c3 ?_
      refine xeb 1 (pc' := 27) (ls' := [.ref 0, .int a1, .int a2, .int a3, .int q1]) (st' := [.int (-1)]) rfl ?_
      obtain rfl := Option.some.inj h
      exact xeiret rfl rfl
    · rw [if_neg c3] at h
      refine xef_lt_f rfl c3 ?_
      refine xeb 2 (pc' := 23) (ls' := [.ref 0, .int a1, .int a2, .int a3, .int q1]) (st' := [.int 1, .int a3]) rfl ?_
      by_cases c4 : a3 ≤ 1
      · rw [if_pos c4] at h
        refine xei_le_t rfl c4 ?_
        refine xeb 1 (pc' := 29) (ls' := [.ref 0, .int a1, .int a2, .int a3, .int q1]) (st' := [.int a3]) rfl ?_
        by_cases c5 : a3 = 0
        · rw [if_pos c5] at h
          refine xef_ne_t rfl c5 ?_
          refine xeb 1 (pc' := 33) (ls' := [.ref 0, .int a1, .int a2, .int a3, .int q1]) (st' := [.ref 0]) rfl ?_
          refine xegf2 rfl xsh0 (by decide) rfl ?_
          refine xeb 1 (pc' := 38) (ls' := [.ref 0, .int a1, .int a2, .int a3, .int q1]) (st' := [.int q1, .ref 17]) rfl ?_
          obtain ⟨q6, eq6, h⟩ := xbind_some h
          refine xcallV rfl xsh17 rfl rfl rfl (Nat.le_of_ble_eq_true rfl) (Nat.le_of_ble_eq_true rfl) (Nat.le_of_ble_eq_true rfl) rfl (g_Table_sparesFor (d := d + 0) xis17 _ eq6) ?_
          refine xeb 1 (pc' := 53) (ls' := [.ref 0, .int a1, .int a2, .int a3, .int q1]) (st' := [.int q6]) rfl ?_
          obtain rfl := Option.some.inj h
          exact xeiret rfl rfl
        · rw [if_neg c5] at h
          refine xef_ne_f rfl c5 ?_
          refine xeb 1 (pc' := 45) (ls' := [.ref 0, .int a1, .int a2, .int a3, .int q1]) (st' := [.ref 0]) rfl ?_
          refine xegf2 rfl xsh0 (by decide) rfl ?_
          refine xeb 1 (pc' := 50) (ls' := [.ref 0, .int a1, .int a2, .int a3, .int q1]) (st' := [.int q1, .ref 17]) rfl ?_
          obtain ⟨q7, eq7, h⟩ := xbind_some h
          refine xcallV rfl xsh17 rfl rfl rfl (Nat.le_of_ble_eq_true rfl) (Nat.le_of_ble_eq_true rfl) (Nat.le_of_ble_eq_true rfl) rfl (g_Table_firstSpareFor (d := d + 0) xis17 _ eq7) ?_
          obtain rfl := Option.some.inj h
          exact xeiret rfl rfl
      · rw [if_neg c4] at h
        refine xei_le_f rfl c4 ?_
        refine xeb 1 (pc' := 27) (ls' := [.ref 0, .int a1, .int a2, .int a3, .int q1]) (st' := [.int (-1)]) rfl ?_
        obtain rfl := Option.some.inj h
        exact xeiret rfl rfl
noncomputable def f_M_wouldFit_3 (F : Nat) (I : XI) : Nat → Int32 → Int32 → Int32 → Int32 → Option (Int32)
  | 0, _, _, _, _ => none
  | n + 1, v1, v2, v3, v4 =>
    if 4 ≤ v4 then (some 1) else ((f_M_calledAt I v3 v4).bind fun q2 => if q2 = (-100) then (f_M_wouldFit_3 F I n v1 v2 v3 (v4 + 1)) else ((f_M_calledAt I v3 v4).bind fun q4 => (f_M_turned I v1 v2 v4).bind fun q5 => if q4 = q5 then (f_M_wouldFit_3 F I n v1 v2 v3 (v4 + 1)) else (some 0)))
theorem g_M_wouldFit_3 {X : XX} {d : Nat} {L : XL} {F : Nat} {I : XI}  {r : Int32}  : ∀ (n : Nat) (v1 : Int32) (v2 : Int32) (v3 : Int32) (v4 : Int32), f_M_wouldFit_3 F I n v1 v2 v3 v4 = some r → xEv X (d + 4) 211 3 [.ref 131, .int v1, .int v2, .int v3, .int v4] [] I L (some (.int r)) I L := by
  intro n
  induction n with
  | zero => intro v1 v2 v3 v4 h; rw [f_M_wouldFit_3] at h; cases h
  | succ n ih =>
    intro v1 v2 v3 v4 h 
    rw [f_M_wouldFit_3] at h
    refine xeb 2 (pc' := 6) (ls' := [.ref 131, .int v1, .int v2, .int v3, .int v4]) (st' := [.int 4, .int v4]) rfl ?_
    by_cases c1 : 4 ≤ v4
    · rw [if_pos c1] at h
      refine xei_ge_t rfl c1 ?_
      refine xeb 1 (pc' := 48) (ls' := [.ref 131, .int v1, .int v2, .int v3, .int v4]) (st' := [.int 1]) rfl ?_
      obtain rfl := Option.some.inj h
      exact xeiret rfl rfl
    · rw [if_neg c1] at h
      refine xei_ge_f rfl c1 ?_
      refine xeb 3 (pc' := 13) (ls' := [.ref 131, .int v1, .int v2, .int v3, .int v4]) (st' := [.int v4, .int v3, .ref 131]) rfl ?_
      obtain ⟨q2, eq2, h⟩ := xbind_some h
      refine xcallV rfl xsh131 rfl rfl rfl (Nat.le_of_ble_eq_true rfl) (Nat.le_of_ble_eq_true rfl) (Nat.le_of_ble_eq_true rfl) rfl (g_M_calledAt (d := d + 0) _ eq2) ?_
      refine xeb 1 (pc' := 18) (ls' := [.ref 131, .int v1, .int v2, .int v3, .int v4]) (st' := [.int (-100), .int q2]) rfl ?_
      by_cases c3 : q2 = (-100)
      · rw [if_pos c3] at h
        refine xei_eq_t rfl c3 ?_
        refine xeb 2 (pc' := 3) (ls' := [.ref 131, .int v1, .int v2, .int v3, .int (v4 + 1)]) (st' := []) rfl ?_
        exact ih v1 v2 v3 (v4 + 1) h
      · rw [if_neg c3] at h
        refine xei_eq_f rfl c3 ?_
        refine xeb 3 (pc' := 25) (ls' := [.ref 131, .int v1, .int v2, .int v3, .int v4]) (st' := [.int v4, .int v3, .ref 131]) rfl ?_
        obtain ⟨q4, eq4, h⟩ := xbind_some h
        refine xcallV rfl xsh131 rfl rfl rfl (Nat.le_of_ble_eq_true rfl) (Nat.le_of_ble_eq_true rfl) (Nat.le_of_ble_eq_true rfl) rfl (g_M_calledAt (d := d + 0) _ eq4) ?_
        refine xeb 4 (pc' := 33) (ls' := [.ref 131, .int v1, .int v2, .int v3, .int v4]) (st' := [.int v4, .int v2, .int v1, .ref 131, .int q4]) rfl ?_
        obtain ⟨q5, eq5, h⟩ := xbind_some h
        refine xcallV rfl xsh131 rfl rfl rfl (Nat.le_of_ble_eq_true rfl) (Nat.le_of_ble_eq_true rfl) (Nat.le_of_ble_eq_true rfl) rfl (g_M_turned (d := d + 3) _ eq5) ?_
        by_cases c6 : q4 = q5
        · rw [if_pos c6] at h
          refine xei_eq_t rfl c6 ?_
          refine xeb 2 (pc' := 3) (ls' := [.ref 131, .int v1, .int v2, .int v3, .int (v4 + 1)]) (st' := []) rfl ?_
          exact ih v1 v2 v3 (v4 + 1) h
        · rw [if_neg c6] at h
          refine xei_eq_f rfl c6 ?_
          refine xeb 1 (pc' := 40) (ls' := [.ref 131, .int v1, .int v2, .int v3, .int v4]) (st' := [.int 0]) rfl ?_
          obtain rfl := Option.some.inj h
          exact xeiret rfl rfl
noncomputable def f_M_wouldFit (F : Nat) (I : XI) (a1 : Int32) (a2 : Int32) (a3 : Int32) : Option (Int32) :=
  f_M_wouldFit_3 F I F a1 a2 a3 0
theorem g_M_wouldFit {X : XX} {d : Nat} {L : XL} {F : Nat} {I : XI} {a1 : Int32} {a2 : Int32} {a3 : Int32}  (r : Int32) (h : f_M_wouldFit F I a1 a2 a3 = some r) : xEv X (d + 4) 211 0 [.ref 131, .int a1, .int a2, .int a3, .null] [] I L (some (.int r)) I L := by
  rw [f_M_wouldFit] at h
  refine xeb 2 (pc' := 3) (ls' := [.ref 131, .int a1, .int a2, .int a3, .int 0]) (st' := []) rfl ?_
  exact g_M_wouldFit_3 F a1 a2 a3 0 h
noncomputable def f_M_spares_43 (F : Nat) (I : XI) : Nat → Int32 → Int32 → Int32 → Int32 → Int32 → Int32 → Option (Int32)
  | 0, _, _, _, _, _, _ => none
  | n + 1, v1, v2, v3, v4, v5, v6 =>
    xck (xin (I 131 18) 2) (if (4 * (I 146 (xN (I 131 18)))) ≤ v6 then (some (if v3 = 0 then v4 else v5)) else ((f_M_wouldFit F I (v6 / 4) (v6 - v6 / 4 * 4) ((6 * v2) + v1)).bind fun q10 => if q10 = 0 then (f_M_spares_43 F I n v1 v2 v3 v4 v5 (v6 + 1)) else (if 0 ≤ v5 then (f_M_spares_43 F I n v1 v2 v3 (v4 + 1) v5 (v6 + 1)) else (f_M_spares_43 F I n v1 v2 v3 (v4 + 1) ((10 * (v6 / 4)) + (v6 - v6 / 4 * 4)) (v6 + 1)))))
theorem g_M_spares_43 {X : XX} {d : Nat} {L : XL} {F : Nat} {I : XI}  {r : Int32}  : ∀ (n : Nat) (v1 : Int32) (v2 : Int32) (v3 : Int32) (v4 : Int32) (v5 : Int32) (v6 : Int32), f_M_spares_43 F I n v1 v2 v3 v4 v5 v6 = some r → xEv X (d + 5) 212 43 [.ref 131, .int v1, .int v2, .int v3, .int v4, .int v5, .int v6] [] I L (some (.int r)) I L := by
  intro n
  induction n with
  | zero => intro v1 v2 v3 v4 v5 v6 h; rw [f_M_spares_43] at h; cases h
  | succ n ih =>
    intro v1 v2 v3 v4 v5 v6 h 
    rw [f_M_spares_43] at h
    refine xeb 3 (pc' := 47) (ls' := [.ref 131, .int v1, .int v2, .int v3, .int v4, .int v5, .int v6]) (st' := [.ref 131, .int 4, .int v6]) rfl ?_
    refine xegf2 rfl xsh131 (by decide) rfl ?_
    refine xeb 1 (pc' := 51) (ls' := [.ref 131, .int v1, .int v2, .int v3, .int v4, .int v5, .int v6]) (st' := [.ref 131, .ref 146, .int 4, .int v6]) rfl ?_
    refine xegf0 rfl xsh131 (by decide) ?_
    obtain ⟨b7, h⟩ := xck_some h
    refine xeia rfl xsh146 b7 ?_
    refine xeb 1 (pc' := 56) (ls' := [.ref 131, .int v1, .int v2, .int v3, .int v4, .int v5, .int v6]) (st' := [.int (4 * (I 146 (xN (I 131 18)))), .int v6]) rfl ?_
    by_cases c8 : (4 * (I 146 (xN (I 131 18)))) ≤ v6
    · rw [if_pos c8] at h
      refine xei_ge_t rfl c8 ?_
      refine xeb 1 (pc' := 112) (ls' := [.ref 131, .int v1, .int v2, .int v3, .int v4, .int v5, .int v6]) (st' := [.int v3]) rfl ?_
      have hj : xEv X (d + 5) 212 122 [.ref 131, .int v1, .int v2, .int v3, .int v4, .int v5, .int v6] [.int (if v3 = 0 then v4 else v5)] I L (some (.int r)) I L := by
        obtain rfl := Option.some.inj h
        exact xeiret rfl rfl
      by_cases c9 : v3 = 0
      · simp only [if_pos c9] at hj
        refine xef_ne_t rfl c9 ?_
        exact xeb 2 rfl hj
      · simp only [if_neg c9] at hj
        refine xef_ne_f rfl c9 ?_
        exact xeb 1 rfl hj
    · rw [if_neg c8] at h
      refine xei_ge_f rfl c8 ?_
      refine xeb 12 (pc' := 74) (ls' := [.ref 131, .int v1, .int v2, .int v3, .int v4, .int v5, .int v6]) (st' := [.int ((6 * v2) + v1), .int (v6 - v6 / 4 * 4), .int (v6 / 4), .ref 131]) rfl ?_
      obtain ⟨q10, eq10, h⟩ := xbind_some h
      refine xcallV rfl xsh131 rfl rfl rfl (Nat.le_of_ble_eq_true rfl) (Nat.le_of_ble_eq_true rfl) (Nat.le_of_ble_eq_true rfl) rfl (g_M_wouldFit (d := d + 0) _ eq10) ?_
      by_cases c11 : q10 = 0
      · rw [if_pos c11] at h
        refine xef_ne_t rfl c11 ?_
        refine xeb 3 (pc' := 43) (ls' := [.ref 131, .int v1, .int v2, .int v3, .int v4, .int v5, .int (v6 + 1)]) (st' := []) rfl ?_
        exact ih v1 v2 v3 v4 v5 (v6 + 1) h
      · rw [if_neg c11] at h
        refine xef_ne_f rfl c11 ?_
        refine xeb 2 (pc' := 88) (ls' := [.ref 131, .int v1, .int v2, .int v3, .int (v4 + 1), .int v5, .int v6]) (st' := [.int v5]) rfl ?_
        by_cases c12 : 0 ≤ v5
        · rw [if_pos c12] at h
          refine xef_ge_t rfl c12 ?_
          refine xeb 2 (pc' := 43) (ls' := [.ref 131, .int v1, .int v2, .int v3, .int (v4 + 1), .int v5, .int (v6 + 1)]) (st' := []) rfl ?_
          exact ih v1 v2 v3 (v4 + 1) v5 (v6 + 1) h
        · rw [if_neg c12] at h
          refine xef_ge_f rfl c12 ?_
          refine xeb 12 (pc' := 43) (ls' := [.ref 131, .int v1, .int v2, .int v3, .int (v4 + 1), .int ((10 * (v6 / 4)) + (v6 - v6 / 4 * 4)), .int (v6 + 1)]) (st' := []) rfl ?_
          exact ih v1 v2 v3 (v4 + 1) ((10 * (v6 / 4)) + (v6 - v6 / 4 * 4)) (v6 + 1) h
noncomputable def f_M_spares (F : Nat) (I : XI) (a1 : Int32) (a2 : Int32) (a3 : Int32) : Option (Int32) :=
  (f_M_isCell I a1 a2).bind fun q1 => if q1 = 0 then (some (-1)) else ((f_M_isHole I ((6 * a2) + a1)).bind fun q3 => if q3 = 0 then (some (-1)) else ((f_M_in a3 0 1).bind fun q5 => if q5 = 0 then (some (-1)) else (f_M_spares_43 F I F a1 a2 a3 0 (-2) 0)))
theorem g_M_spares {X : XX} {d : Nat} {L : XL} {F : Nat} {I : XI} {a1 : Int32} {a2 : Int32} {a3 : Int32}  (r : Int32) (h : f_M_spares F I a1 a2 a3 = some r) : xEv X (d + 5) 212 0 [.ref 131, .int a1, .int a2, .int a3, .null, .null, .null] [] I L (some (.int r)) I L := by
  rw [f_M_spares] at h
  refine xeb 3 (pc' := 3) (ls' := [.ref 131, .int a1, .int a2, .int a3, .null, .null, .null]) (st' := [.int a2, .int a1, .ref 131]) rfl ?_
  obtain ⟨q1, eq1, h⟩ := xbind_some h
  refine xcallV rfl xsh131 rfl rfl rfl (Nat.le_of_ble_eq_true rfl) (Nat.le_of_ble_eq_true rfl) (Nat.le_of_ble_eq_true rfl) rfl (g_M_isCell (d := d + 3) _ eq1) ?_
  by_cases c2 : q1 = 0
  · rw [if_pos c2] at h
    refine xef_eq_t rfl c2 ?_
    refine xeb 1 (pc' := 32) (ls' := [.ref 131, .int a1, .int a2, .int a3, .null, .null, .null]) (st' := [.int (-1)]) rfl ?_
    obtain rfl := Option.some.inj h
    exact xeiret rfl rfl
  · rw [if_neg c2] at h
    refine xef_eq_f rfl c2 ?_
    refine xeb 6 (pc' := 16) (ls' := [.ref 131, .int a1, .int a2, .int a3, .null, .null, .null]) (st' := [.int ((6 * a2) + a1), .ref 131]) rfl ?_
    obtain ⟨q3, eq3, h⟩ := xbind_some h
    refine xcallV rfl xsh131 rfl rfl rfl (Nat.le_of_ble_eq_true rfl) (Nat.le_of_ble_eq_true rfl) (Nat.le_of_ble_eq_true rfl) rfl (g_M_isHole (d := d + 3) _ eq3) ?_
    by_cases c4 : q3 = 0
    · rw [if_pos c4] at h
      refine xef_eq_t rfl c4 ?_
      refine xeb 1 (pc' := 32) (ls' := [.ref 131, .int a1, .int a2, .int a3, .null, .null, .null]) (st' := [.int (-1)]) rfl ?_
      obtain rfl := Option.some.inj h
      exact xeiret rfl rfl
    · rw [if_neg c4] at h
      refine xef_eq_f rfl c4 ?_
      refine xeb 3 (pc' := 25) (ls' := [.ref 131, .int a1, .int a2, .int a3, .null, .null, .null]) (st' := [.int 1, .int 0, .int a3]) rfl ?_
      obtain ⟨q5, eq5, h⟩ := xbind_some h
      refine xcallS20 rfl rfl rfl (Nat.le_of_ble_eq_true rfl) (Nat.le_of_ble_eq_true rfl) (Nat.le_of_ble_eq_true rfl) rfl (g_M_in (d := d + 4) _ eq5) ?_
      by_cases c6 : q5 = 0
      · rw [if_pos c6] at h
        refine xef_ne_t rfl c6 ?_
        refine xeb 1 (pc' := 32) (ls' := [.ref 131, .int a1, .int a2, .int a3, .null, .null, .null]) (st' := [.int (-1)]) rfl ?_
        obtain rfl := Option.some.inj h
        exact xeiret rfl rfl
      · rw [if_neg c6] at h
        refine xef_ne_f rfl c6 ?_
        refine xeb 6 (pc' := 43) (ls' := [.ref 131, .int a1, .int a2, .int a3, .int 0, .int (-2), .int 0]) (st' := []) rfl ?_
        exact g_M_spares_43 F a1 a2 a3 0 (-2) 0 h
noncomputable def f_Table_isHole (S0 : Nat) (I : XI) (a1 : Int32) : Option (Int32) :=
  if (I S0 0) ≤ (a1 - a1 / 6 * 6) then (some 0) else (if (I S0 1) ≤ (a1 / 6) then (some 0) else (xck (xin a1 30) (xck (xnarz (if (I (S0 + 1) (xN a1)) = 9 then 1 else 0)) (some (if (I (S0 + 1) (xN a1)) = 9 then 1 else 0)))))
theorem g_Table_isHole {X : XX} {d : Nat} {L : XL} {S0 : Nat} {I : XI} {a1 : Int32} (hS0 : xisTb S0) (r : Int32) (h : f_Table_isHole S0 I a1 = some r) : xEv X (d + 0) 213 0 [.ref S0, .int a1] [] I L (some (.int r)) I L := by
  rw [f_Table_isHole] at h
  refine xeb 4 (pc' := 5) (ls' := [.ref S0, .int a1]) (st' := [.ref S0, .int (a1 - a1 / 6 * 6)]) rfl ?_
  refine xegf0 rfl hS0.1 (by decide) ?_
  by_cases c1 : (I S0 0) ≤ (a1 - a1 / 6 * 6)
  · rw [if_pos c1] at h
    refine xei_ge_t rfl c1 ?_
    refine xeb 1 (pc' := 38) (ls' := [.ref S0, .int a1]) (st' := [.int 0]) rfl ?_
    obtain rfl := Option.some.inj h
    exact xeiret rfl rfl
  · rw [if_neg c1] at h
    refine xei_ge_f rfl c1 ?_
    refine xeb 4 (pc' := 16) (ls' := [.ref S0, .int a1]) (st' := [.ref S0, .int (a1 / 6)]) rfl ?_
    refine xegf0 rfl hS0.1 (by decide) ?_
    by_cases c2 : (I S0 1) ≤ (a1 / 6)
    · rw [if_pos c2] at h
      refine xei_ge_t rfl c2 ?_
      refine xeb 1 (pc' := 38) (ls' := [.ref S0, .int a1]) (st' := [.int 0]) rfl ?_
      obtain rfl := Option.some.inj h
      exact xeiret rfl rfl
    · rw [if_neg c2] at h
      refine xei_ge_f rfl c2 ?_
      refine xeb 1 (pc' := 23) (ls' := [.ref S0, .int a1]) (st' := [.ref S0]) rfl ?_
      refine xegf2 rfl hS0.1 (by decide) rfl ?_
      refine xeb 1 (pc' := 27) (ls' := [.ref S0, .int a1]) (st' := [.int a1, .ref (S0 + 1)]) rfl ?_
      obtain ⟨b3, h⟩ := xck_some h
      refine xeia rfl hS0.2.1 b3 ?_
      refine xeb 1 (pc' := 30) (ls' := [.ref S0, .int a1]) (st' := [.int 9, .int (I (S0 + 1) (xN a1))]) rfl ?_
      have hj : xEv X (d + 0) 213 38 [.ref S0, .int a1] [.int (if (I (S0 + 1) (xN a1)) = 9 then 1 else 0)] I L (some (.int r)) I L := by
        obtain ⟨b5, h⟩ := xck_some h
        obtain rfl := Option.some.inj h
        exact xeiret rfl b5
      by_cases c4 : (I (S0 + 1) (xN a1)) = 9
      · simp only [if_pos c4] at hj
        refine xei_ne_t rfl c4 ?_
        exact xeb 2 rfl hj
      · simp only [if_neg c4] at hj
        refine xei_ne_f rfl c4 ?_
        exact xeb 1 rfl hj
noncomputable def f_Table_homesOf_59 (F : Nat) (S0 : Nat) (I : XI) (k4 : Int32 → Int32 → Int32 → Option (Int32)) (v1 : Int32) (v2 : Int32) (v3 : Int32) (v4 : Int32) : Option (Int32) :=
  k4 v1 (v2 + (if v4 = 0 then 0 else 1)) (v3 + 1)
theorem g_Table_homesOf_59 {X : XX} {d : Nat} {L : XL} {F : Nat} {S0 : Nat} {I : XI} {k4 : Int32 → Int32 → Int32 → Option (Int32)} (hS0 : xisTb S0) {r : Int32} (hk4 : ∀ (v1 : Int32) (v2 : Int32) (v3 : Int32), k4 v1 v2 v3 = some r → ∀ (z4 : Value) (z5 : Value), xEv X (d + 3) 214 4 [.ref S0, .int v1, .int v2, .int v3, z4, z5] [] I L (some (.int r)) I L) {v1 : Int32} {v2 : Int32} {v3 : Int32} {v4 : Int32} (h : f_Table_homesOf_59 F S0 I k4 v1 v2 v3 v4 = some r) (z5 : Value) : xEv X (d + 3) 214 59 [.ref S0, .int v1, .int v2, .int v3, .int v4, z5] [] I L (some (.int r)) I L := by
  rw [f_Table_homesOf_59] at h
  refine xeb 2 (pc' := 62) (ls' := [.ref S0, .int v1, .int v2, .int v3, .int v4, z5]) (st' := [.int v4, .int v2]) rfl ?_
  have hj : xEv X (d + 3) 214 70 [.ref S0, .int v1, .int v2, .int v3, .int v4, z5] [.int (if v4 = 0 then 0 else 1), .int v2] I L (some (.int r)) I L := by
    refine xeb 4 (pc' := 4) (ls' := [.ref S0, .int v1, .int (v2 + (if v4 = 0 then 0 else 1)), .int (v3 + 1), .int v4, z5]) (st' := []) rfl ?_
    exact hk4 v1 (v2 + (if v4 = 0 then 0 else 1)) (v3 + 1) h _ _
  by_cases c3 : v4 = 0
  · simp only [if_pos c3] at hj
    refine xef_eq_t rfl c3 ?_
    exact xeb 1 rfl hj
  · simp only [if_neg c3] at hj
    refine xef_eq_f rfl c3 ?_
    exact xeb 2 rfl hj
noncomputable def f_Table_homesOf_16 (F : Nat) (S0 : Nat) (I : XI) (k4 : Int32 → Int32 → Int32 → Option (Int32)) : Nat → Int32 → Int32 → Int32 → Int32 → Int32 → Option (Int32)
  | 0, _, _, _, _, _ => none
  | n + 1, v1, v2, v3, v4, v5 =>
    if 4 ≤ v5 then (f_Table_homesOf_59 F S0 I k4 v1 v2 v3 v4) else (if v4 = 0 then ((f_Table_isHole S0 I v3).bind fun q5 => if q5 = 0 then (f_Table_homesOf_16 F S0 I k4 n v1 v2 v3 0 (v5 + 1)) else ((f_Table_fitsHole F S0 I v3 v1 v5).bind fun q7 => f_Table_homesOf_16 F S0 I k4 n v1 v2 v3 (if q7 = 0 then 0 else 1) (v5 + 1))) else (f_Table_homesOf_59 F S0 I k4 v1 v2 v3 v4))
theorem g_Table_homesOf_16 {X : XX} {d : Nat} {L : XL} {F : Nat} {S0 : Nat} {I : XI} {k4 : Int32 → Int32 → Int32 → Option (Int32)} (hS0 : xisTb S0) {r : Int32} (hk4 : ∀ (v1 : Int32) (v2 : Int32) (v3 : Int32), k4 v1 v2 v3 = some r → ∀ (z4 : Value) (z5 : Value), xEv X (d + 3) 214 4 [.ref S0, .int v1, .int v2, .int v3, z4, z5] [] I L (some (.int r)) I L) : ∀ (n : Nat) (v1 : Int32) (v2 : Int32) (v3 : Int32) (v4 : Int32) (v5 : Int32), f_Table_homesOf_16 F S0 I k4 n v1 v2 v3 v4 v5 = some r → xEv X (d + 3) 214 16 [.ref S0, .int v1, .int v2, .int v3, .int v4, .int v5] [] I L (some (.int r)) I L := by
  intro n
  induction n with
  | zero => intro v1 v2 v3 v4 v5 h; rw [f_Table_homesOf_16] at h; cases h
  | succ n ih =>
    intro v1 v2 v3 v4 v5 h 
    rw [f_Table_homesOf_16] at h
    refine xeb 2 (pc' := 19) (ls' := [.ref S0, .int v1, .int v2, .int v3, .int v4, .int v5]) (st' := [.int 4, .int v5]) rfl ?_
    by_cases c2 : 4 ≤ v5
    · rw [if_pos c2] at h
      refine xei_ge_t rfl c2 ?_
      exact g_Table_homesOf_59 hS0 hk4 h _
    · rw [if_neg c2] at h
      refine xei_ge_f rfl c2 ?_
      refine xeb 1 (pc' := 24) (ls' := [.ref S0, .int v1, .int v2, .int v3, .int v4, .int v5]) (st' := [.int v4]) rfl ?_
      by_cases c4 : v4 = 0
      · rw [if_pos c4] at h
        refine xef_ne_t rfl c4 ?_
        refine xeb 2 (pc' := 29) (ls' := [.ref S0, .int v1, .int v2, .int v3, .int v4, .int v5]) (st' := [.int v3, .ref S0]) rfl ?_
        obtain ⟨q5, eq5, h⟩ := xbind_some h
        refine xcallV rfl hS0.1 rfl rfl rfl (Nat.le_of_ble_eq_true rfl) (Nat.le_of_ble_eq_true rfl) (Nat.le_of_ble_eq_true rfl) rfl (g_Table_isHole (d := d + 2) hS0 _ eq5) ?_
        by_cases c6 : q5 = 0
        · rw [if_pos c6] at h
          refine xef_eq_t rfl c6 ?_
          refine xeb 4 (pc' := 16) (ls' := [.ref S0, .int v1, .int v2, .int v3, .int 0, .int (v5 + 1)]) (st' := []) rfl ?_
          exact ih v1 v2 v3 0 (v5 + 1) h
        · rw [if_neg c6] at h
          refine xef_eq_f rfl c6 ?_
          refine xeb 4 (pc' := 40) (ls' := [.ref S0, .int v1, .int v2, .int v3, .int v4, .int v5]) (st' := [.int v5, .int v1, .int v3, .ref S0]) rfl ?_
          obtain ⟨q7, eq7, h⟩ := xbind_some h
          refine xcallV rfl hS0.1 rfl rfl rfl (Nat.le_of_ble_eq_true rfl) (Nat.le_of_ble_eq_true rfl) (Nat.le_of_ble_eq_true rfl) rfl (g_Table_fitsHole (d := d + 0) hS0 _ eq7) ?_
          have hj : xEv X (d + 3) 214 51 [.ref S0, .int v1, .int v2, .int v3, .int v4, .int v5] [.int (if q7 = 0 then 0 else 1)] I L (some (.int r)) I L := by
            refine xeb 3 (pc' := 16) (ls' := [.ref S0, .int v1, .int v2, .int v3, .int (if q7 = 0 then 0 else 1), .int (v5 + 1)]) (st' := []) rfl ?_
            exact ih v1 v2 v3 (if q7 = 0 then 0 else 1) (v5 + 1) h
          by_cases c8 : q7 = 0
          · simp only [if_pos c8] at hj
            refine xef_eq_t rfl c8 ?_
            exact xeb 1 rfl hj
          · simp only [if_neg c8] at hj
            refine xef_eq_f rfl c8 ?_
            exact xeb 2 rfl hj
      · rw [if_neg c4] at h
        refine xef_ne_f rfl c4 ?_
        exact g_Table_homesOf_59 hS0 hk4 h _
noncomputable def f_Table_homesOf_4 (F : Nat) (S0 : Nat) (I : XI) : Nat → Int32 → Int32 → Int32 → Option (Int32)
  | 0, _, _, _ => none
  | n + 1, v1, v2, v3 =>
    if 30 ≤ v3 then (some v2) else (f_Table_homesOf_16 F S0 I (fun v1 v2 v3 => f_Table_homesOf_4 F S0 I n v1 v2 v3) F v1 v2 v3 0 0)
theorem g_Table_homesOf_4 {X : XX} {d : Nat} {L : XL} {F : Nat} {S0 : Nat} {I : XI} (hS0 : xisTb S0) {r : Int32}  : ∀ (n : Nat) (v1 : Int32) (v2 : Int32) (v3 : Int32), f_Table_homesOf_4 F S0 I n v1 v2 v3 = some r → ∀ (z4 : Value) (z5 : Value), xEv X (d + 3) 214 4 [.ref S0, .int v1, .int v2, .int v3, z4, z5] [] I L (some (.int r)) I L := by
  intro n
  induction n with
  | zero => intro v1 v2 v3 h; rw [f_Table_homesOf_4] at h; cases h
  | succ n ih =>
    intro v1 v2 v3 h z4 z5
    rw [f_Table_homesOf_4] at h
    refine xeb 2 (pc' := 7) (ls' := [.ref S0, .int v1, .int v2, .int v3, z4, z5]) (st' := [.int 30, .int v3]) rfl ?_
    by_cases c1 : 30 ≤ v3
    · rw [if_pos c1] at h
      refine xei_ge_t rfl c1 ?_
      refine xeb 1 (pc' := 79) (ls' := [.ref S0, .int v1, .int v2, .int v3, z4, z5]) (st' := [.int v2]) rfl ?_
      obtain rfl := Option.some.inj h
      exact xeiret rfl rfl
    · rw [if_neg c1] at h
      refine xei_ge_f rfl c1 ?_
      refine xeb 4 (pc' := 16) (ls' := [.ref S0, .int v1, .int v2, .int v3, .int 0, .int 0]) (st' := []) rfl ?_
      exact g_Table_homesOf_16 hS0 (fun v1 v2 v3 h' z4 z5 => ih v1 v2 v3 h' z4 z5) F v1 v2 v3 0 0 h
noncomputable def f_Table_homesOf (F : Nat) (S0 : Nat) (I : XI) (a1 : Int32) : Option (Int32) :=
  f_Table_homesOf_4 F S0 I F a1 0 0
theorem g_Table_homesOf {X : XX} {d : Nat} {L : XL} {F : Nat} {S0 : Nat} {I : XI} {a1 : Int32} (hS0 : xisTb S0) (r : Int32) (h : f_Table_homesOf F S0 I a1 = some r) : xEv X (d + 3) 214 0 [.ref S0, .int a1, .null, .null, .null, .null] [] I L (some (.int r)) I L := by
  rw [f_Table_homesOf] at h
  refine xeb 4 (pc' := 4) (ls' := [.ref S0, .int a1, .int 0, .int 0, .null, .null]) (st' := []) rfl ?_
  exact g_Table_homesOf_4 hS0 F a1 0 0 h _ _
noncomputable def f_H_homes (F : Nat) (I : XI) (a1 : Int32) : Option (Int32) :=
  (f_Table_hasSpare 17 I a1).bind fun q1 => if q1 = 0 then (some (-1)) else ((f_Table_homesOf F 17 I a1).bind fun q3 => some q3)
theorem g_H_homes {X : XX} {d : Nat} {L : XL} {F : Nat} {I : XI} {a1 : Int32}  (r : Int32) (h : f_H_homes F I a1 = some r) : xEv X (d + 4) 215 0 [.ref 0, .int a1] [] I L (some (.int r)) I L := by
  rw [f_H_homes] at h
  refine xeb 1 (pc' := 1) (ls' := [.ref 0, .int a1]) (st' := [.ref 0]) rfl ?_
  refine xegf2 rfl xsh0 (by decide) rfl ?_
  refine xeb 1 (pc' := 5) (ls' := [.ref 0, .int a1]) (st' := [.int a1, .ref 17]) rfl ?_
  obtain ⟨q1, eq1, h⟩ := xbind_some h
  refine xcallV rfl xsh17 rfl rfl rfl (Nat.le_of_ble_eq_true rfl) (Nat.le_of_ble_eq_true rfl) (Nat.le_of_ble_eq_true rfl) rfl (g_Table_hasSpare (d := d + 3) xis17 _ eq1) ?_
  by_cases c2 : q1 = 0
  · rw [if_pos c2] at h
    refine xef_eq_t rfl c2 ?_
    refine xeb 1 (pc' := 23) (ls' := [.ref 0, .int a1]) (st' := [.int (-1)]) rfl ?_
    obtain rfl := Option.some.inj h
    exact xeiret rfl rfl
  · rw [if_neg c2] at h
    refine xef_eq_f rfl c2 ?_
    refine xeb 1 (pc' := 12) (ls' := [.ref 0, .int a1]) (st' := [.ref 0]) rfl ?_
    refine xegf2 rfl xsh0 (by decide) rfl ?_
    refine xeb 1 (pc' := 16) (ls' := [.ref 0, .int a1]) (st' := [.int a1, .ref 17]) rfl ?_
    obtain ⟨q3, eq3, h⟩ := xbind_some h
    refine xcallV rfl xsh17 rfl rfl rfl (Nat.le_of_ble_eq_true rfl) (Nat.le_of_ble_eq_true rfl) (Nat.le_of_ble_eq_true rfl) rfl (g_Table_homesOf (d := d + 0) xis17 _ eq3) ?_
    refine xeb 1 (pc' := 23) (ls' := [.ref 0, .int a1]) (st' := [.int q3]) rfl ?_
    obtain rfl := Option.some.inj h
    exact xeiret rfl rfl
