/-! the methods as functions, and that a run answers so (by gen6.py) -/
noncomputable def f_Board_linked (S1 : Nat) (I : XI) (a2 : Int32) (a3 : Int32) : Option (Int32) :=
  (f_Table_beside 17 I a2 a3).bind fun q1 => if q1 = (-1) then (some 0) else ((f_State_lies S1 I a2).bind fun q3 => if q3 = 0 then (some 0) else ((f_State_lies S1 I q1).bind fun q5 => if q5 = 0 then (some 0) else (xck (xin a2 30) ((f_Board_knobOf I (I (S1 + 1) (xN a2)) a2 a3).bind fun q8 => xck (xin q1 30) ((f_H_opposite a3).bind fun q10 => (f_Board_knobOf I (I (S1 + 1) (xN q1)) q1 q10).bind fun q11 => xck (xnarz (if (q8 + q11) = 0 then 1 else 0)) (some (if (q8 + q11) = 0 then 1 else 0)))))))
theorem g_Board_linked {X : XX} {d : Nat} {L : XL} {S1 : Nat} {I : XI} {a2 : Int32} {a3 : Int32} (hS1 : xisSt S1) (r : Int32) (h : f_Board_linked S1 I a2 a3 = some r) : xEv X (d + 2) 113 0 [.ref 30, .ref S1, .int a2, .int a3, .null] [] I L (some (.int r)) I L := by
  rw [f_Board_linked] at h
  refine xeb 1 (pc' := 1) (ls' := [.ref 30, .ref S1, .int a2, .int a3, .null]) (st' := [.ref 30]) rfl ?_
  refine xegf2 rfl xsh30 (by decide) rfl ?_
  refine xeb 2 (pc' := 6) (ls' := [.ref 30, .ref S1, .int a2, .int a3, .null]) (st' := [.int a3, .int a2, .ref 17]) rfl ?_
  obtain ⟨q1, eq1, h⟩ := xbind_some h
  refine xcallV rfl xsh17 rfl rfl rfl (Nat.le_of_ble_eq_true rfl) (Nat.le_of_ble_eq_true rfl) (Nat.le_of_ble_eq_true rfl) rfl (g_Table_beside (d := d + 1) xis17 _ eq1) ?_
  refine xeb 3 (pc' := 14) (ls' := [.ref 30, .ref S1, .int a2, .int a3, .int q1]) (st' := [.int (-1), .int q1]) rfl ?_
  by_cases c2 : q1 = (-1)
  · rw [if_pos c2] at h
    refine xei_eq_t rfl c2 ?_
    refine xeb 1 (pc' := 72) (ls' := [.ref 30, .ref S1, .int a2, .int a3, .int q1]) (st' := [.int 0]) rfl ?_
    obtain rfl := Option.some.inj h
    exact xeiret rfl rfl
  · rw [if_neg c2] at h
    refine xei_eq_f rfl c2 ?_
    refine xeb 2 (pc' := 19) (ls' := [.ref 30, .ref S1, .int a2, .int a3, .int q1]) (st' := [.int a2, .ref S1]) rfl ?_
    obtain ⟨q3, eq3, h⟩ := xbind_some h
    refine xcallV rfl hS1.1 rfl rfl rfl (Nat.le_of_ble_eq_true rfl) (Nat.le_of_ble_eq_true rfl) (Nat.le_of_ble_eq_true rfl) rfl (g_State_lies (d := d + 1) hS1 _ eq3) ?_
    by_cases c4 : q3 = 0
    · rw [if_pos c4] at h
      refine xef_eq_t rfl c4 ?_
      refine xeb 1 (pc' := 72) (ls' := [.ref 30, .ref S1, .int a2, .int a3, .int q1]) (st' := [.int 0]) rfl ?_
      obtain rfl := Option.some.inj h
      exact xeiret rfl rfl
    · rw [if_neg c4] at h
      refine xef_eq_f rfl c4 ?_
      refine xeb 2 (pc' := 28) (ls' := [.ref 30, .ref S1, .int a2, .int a3, .int q1]) (st' := [.int q1, .ref S1]) rfl ?_
      obtain ⟨q5, eq5, h⟩ := xbind_some h
      refine xcallV rfl hS1.1 rfl rfl rfl (Nat.le_of_ble_eq_true rfl) (Nat.le_of_ble_eq_true rfl) (Nat.le_of_ble_eq_true rfl) rfl (g_State_lies (d := d + 1) hS1 _ eq5) ?_
      by_cases c6 : q5 = 0
      · rw [if_pos c6] at h
        refine xef_eq_t rfl c6 ?_
        refine xeb 1 (pc' := 72) (ls' := [.ref 30, .ref S1, .int a2, .int a3, .int q1]) (st' := [.int 0]) rfl ?_
        obtain rfl := Option.some.inj h
        exact xeiret rfl rfl
      · rw [if_neg c6] at h
        refine xef_eq_f rfl c6 ?_
        refine xeb 2 (pc' := 36) (ls' := [.ref 30, .ref S1, .int a2, .int a3, .int q1]) (st' := [.ref S1, .ref 30]) rfl ?_
        refine xegf12 rfl hS1.1 (by decide) rfl ?_
        refine xeb 1 (pc' := 40) (ls' := [.ref 30, .ref S1, .int a2, .int a3, .int q1]) (st' := [.int a2, .ref (S1 + 1), .ref 30]) rfl ?_
        obtain ⟨b7, h⟩ := xck_some h
        refine xeia rfl hS1.2 b7 ?_
        refine xeb 2 (pc' := 43) (ls' := [.ref 30, .ref S1, .int a2, .int a3, .int q1]) (st' := [.int a3, .int a2, .int (I (S1 + 1) (xN a2)), .ref 30]) rfl ?_
        obtain ⟨q8, eq8, h⟩ := xbind_some h
        refine xcallV rfl xsh30 rfl rfl rfl (Nat.le_of_ble_eq_true rfl) (Nat.le_of_ble_eq_true rfl) (Nat.le_of_ble_eq_true rfl) rfl (g_Board_knobOf (d := d + 0) _ eq8) ?_
        refine xeb 2 (pc' := 48) (ls' := [.ref 30, .ref S1, .int a2, .int a3, .int q1]) (st' := [.ref S1, .ref 30, .int q8]) rfl ?_
        refine xegf12 rfl hS1.1 (by decide) rfl ?_
        refine xeb 1 (pc' := 53) (ls' := [.ref 30, .ref S1, .int a2, .int a3, .int q1]) (st' := [.int q1, .ref (S1 + 1), .ref 30, .int q8]) rfl ?_
        obtain ⟨b9, h⟩ := xck_some h
        refine xeia rfl hS1.2 b9 ?_
        refine xeb 2 (pc' := 57) (ls' := [.ref 30, .ref S1, .int a2, .int a3, .int q1]) (st' := [.int a3, .int q1, .int (I (S1 + 1) (xN q1)), .ref 30, .int q8]) rfl ?_
        obtain ⟨q10, eq10, h⟩ := xbind_some h
        refine xcallS30 rfl rfl rfl (Nat.le_of_ble_eq_true rfl) (Nat.le_of_ble_eq_true rfl) (Nat.le_of_ble_eq_true rfl) rfl (g_H_opposite (d := d + 1) _ eq10) ?_
        obtain ⟨q11, eq11, h⟩ := xbind_some h
        refine xcallV rfl xsh30 rfl rfl rfl (Nat.le_of_ble_eq_true rfl) (Nat.le_of_ble_eq_true rfl) (Nat.le_of_ble_eq_true rfl) rfl (g_Board_knobOf (d := d + 0) _ eq11) ?_
        refine xeb 1 (pc' := 64) (ls' := [.ref 30, .ref S1, .int a2, .int a3, .int q1]) (st' := [.int (q8 + q11)]) rfl ?_
        have hj : xEv X (d + 2) 113 72 [.ref 30, .ref S1, .int a2, .int a3, .int q1] [.int (if (q8 + q11) = 0 then 1 else 0)] I L (some (.int r)) I L := by
          obtain ⟨b13, h⟩ := xck_some h
          obtain rfl := Option.some.inj h
          exact xeiret rfl b13
        by_cases c12 : (q8 + q11) = 0
        · simp only [if_pos c12] at hj
          refine xef_ne_t rfl c12 ?_
          exact xeb 2 rfl hj
        · simp only [if_neg c12] at hj
          refine xef_ne_f rfl c12 ?_
          exact xeb 1 rfl hj
noncomputable def f_Board_friends_5 (F : Nat) (S1 : Nat) (I : XI) : Nat → Int32 → Int32 → Int32 → Option (Int32)
  | 0, _, _, _ => none
  | n + 1, v2, v3, v4 =>
    if 4 ≤ v4 then (some v3) else ((f_Board_linked S1 I v2 v4).bind fun q2 => f_Board_friends_5 F S1 I n v2 (v3 + (if q2 = 0 then 0 else 1)) (v4 + 1))
theorem g_Board_friends_5 {X : XX} {d : Nat} {L : XL} {F : Nat} {S1 : Nat} {I : XI} (hS1 : xisSt S1) {r : Int32}  : ∀ (n : Nat) (v2 : Int32) (v3 : Int32) (v4 : Int32), f_Board_friends_5 F S1 I n v2 v3 v4 = some r → xEv X (d + 3) 114 5 [.ref 30, .ref S1, .int v2, .int v3, .int v4] [] I L (some (.int r)) I L := by
  intro n
  induction n with
  | zero => intro v2 v3 v4 h; rw [f_Board_friends_5] at h; cases h
  | succ n ih =>
    intro v2 v3 v4 h 
    rw [f_Board_friends_5] at h
    refine xeb 2 (pc' := 8) (ls' := [.ref 30, .ref S1, .int v2, .int v3, .int v4]) (st' := [.int 4, .int v4]) rfl ?_
    by_cases c1 : 4 ≤ v4
    · rw [if_pos c1] at h
      refine xei_ge_t rfl c1 ?_
      refine xeb 1 (pc' := 37) (ls' := [.ref 30, .ref S1, .int v2, .int v3, .int v4]) (st' := [.int v3]) rfl ?_
      obtain rfl := Option.some.inj h
      exact xeiret rfl rfl
    · rw [if_neg c1] at h
      refine xei_ge_f rfl c1 ?_
      refine xeb 5 (pc' := 17) (ls' := [.ref 30, .ref S1, .int v2, .int v3, .int v4]) (st' := [.int v4, .int v2, .ref S1, .ref 30, .int v3]) rfl ?_
      obtain ⟨q2, eq2, h⟩ := xbind_some h
      refine xcallV rfl xsh30 rfl rfl rfl (Nat.le_of_ble_eq_true rfl) (Nat.le_of_ble_eq_true rfl) (Nat.le_of_ble_eq_true rfl) rfl (g_Board_linked (d := d + 0) hS1 _ eq2) ?_
      have hj : xEv X (d + 3) 114 28 [.ref 30, .ref S1, .int v2, .int v3, .int v4] [.int (if q2 = 0 then 0 else 1), .int v3] I L (some (.int r)) I L := by
        refine xeb 4 (pc' := 5) (ls' := [.ref 30, .ref S1, .int v2, .int (v3 + (if q2 = 0 then 0 else 1)), .int (v4 + 1)]) (st' := []) rfl ?_
        exact ih v2 (v3 + (if q2 = 0 then 0 else 1)) (v4 + 1) h
      by_cases c3 : q2 = 0
      · simp only [if_pos c3] at hj
        refine xef_eq_t rfl c3 ?_
        exact xeb 1 rfl hj
      · simp only [if_neg c3] at hj
        refine xef_eq_f rfl c3 ?_
        exact xeb 2 rfl hj
noncomputable def f_Board_friends (F : Nat) (S1 : Nat) (I : XI) (a2 : Int32) : Option (Int32) :=
  f_Board_friends_5 F S1 I F a2 0 0
theorem g_Board_friends {X : XX} {d : Nat} {L : XL} {F : Nat} {S1 : Nat} {I : XI} {a2 : Int32} (hS1 : xisSt S1) (r : Int32) (h : f_Board_friends F S1 I a2 = some r) : xEv X (d + 3) 114 0 [.ref 30, .ref S1, .int a2, .null, .null] [] I L (some (.int r)) I L := by
  rw [f_Board_friends] at h
  refine xeb 4 (pc' := 5) (ls' := [.ref 30, .ref S1, .int a2, .int 0, .int 0]) (st' := []) rfl ?_
  exact g_Board_friends_5 hS1 F a2 0 0 h
noncomputable def f_Laws_setDayAlone (F : Nat) (S0 : Nat) (a1 : Int32) (I : XI) : Option (XI) :=
  (f_Arrays_fill F (S0 + 3) 9 0 I).bind fun q1 => xck (xin 4 9) (xst (xput q1 (S0 + 3) (xN 4) a1) fun I3 => some I3)
theorem g_Laws_setDayAlone {X : XX} {d : Nat} {L : XL} {F : Nat} {S0 : Nat} {a1 : Int32} {I : XI} (hS0 : xisLw S0) (r : XI) (h : f_Laws_setDayAlone F S0 a1 I = some r) : xEv X (d + 1) 115 0 [.ref S0, .int a1] [] I L none r L := by
  rw [f_Laws_setDayAlone] at h
  refine xeb 1 (pc' := 1) (ls' := [.ref S0, .int a1]) (st' := [.ref S0]) rfl ?_
  refine xegf2 rfl hS0.1 (by decide) rfl ?_
  refine xeb 1 (pc' := 5) (ls' := [.ref S0, .int a1]) (st' := [.int 0, .ref (S0 + 3)]) rfl ?_
  obtain ⟨q1, eq1, h⟩ := xbind_some h
  refine xcallS20 rfl rfl rfl (Nat.le_of_ble_eq_true rfl) (Nat.le_of_ble_eq_true rfl) (Nat.le_of_ble_eq_true rfl) rfl (g_Arrays_fill (d := d + 0) hS0.2.2.2.1 _ eq1) ?_
  refine xeb 1 (pc' := 9) (ls' := [.ref S0, .int a1]) (st' := [.ref S0]) rfl ?_
  refine xegf2 rfl hS0.1 (by decide) rfl ?_
  refine xeb 2 (pc' := 14) (ls' := [.ref S0, .int a1]) (st' := [.int a1, .int 4, .ref (S0 + 3)]) rfl ?_
  obtain ⟨b2, h⟩ := xck_some h
  refine xeis rfl hS0.2.2.2.1 b2 ?_
  obtain ⟨I3, hI3, h⟩ := xst_some h
  rw [← hI3]
  obtain rfl := Option.some.inj h
  exact xevret rfl
noncomputable def f_Laws_reckon (a0 : Int32) (a1 : Int32) (a2 : Int32) : Option (Int32) :=
  if a1 < 42 ∨ 45 < a1 then (if a2 = 0 then (some 0) else (xck (!decide (a2 = 0)) (some (a0 / a2)))) else if a1 = 42 then (some (a0 * a2)) else if a1 = 43 then (some (a0 + a2)) else if a1 = 44 then (if a2 = 0 then (some 0) else (xck (!decide (a2 = 0)) (some (a0 / a2)))) else if a1 = 45 then (some (a0 - a2)) else none
theorem g_Laws_reckon {X : XX} {d : Nat} {I : XI} {L : XL} {a0 : Int32} {a1 : Int32} {a2 : Int32}  (r : Int32) (h : f_Laws_reckon a0 a1 a2 = some r) : xEv X (d + 0) 116 0 [.int a0, .int a1, .int a2] [] I L (some (.int r)) I L := by
  rw [f_Laws_reckon] at h
  refine xeb 1 (pc' := 1) (ls' := [.int a0, .int a1, .int a2]) (st' := [.int a1]) rfl ?_
  by_cases c3 : a1 < 42 ∨ 45 < a1
  · rw [if_pos c3] at h
    refine xetabO rfl rfl rfl c3 ?_
    refine xeb 1 (pc' := 45) (ls' := [.int a0, .int a1, .int a2]) (st' := [.int a2]) rfl ?_
    by_cases c1 : a2 = 0
    · rw [if_pos c1] at h
      refine xef_ne_t rfl c1 ?_
      refine xeb 2 (pc' := 55) (ls' := [.int a0, .int a1, .int a2]) (st' := [.int 0]) rfl ?_
      obtain rfl := Option.some.inj h
      exact xeiret rfl rfl
    · rw [if_neg c1] at h
      refine xef_ne_f rfl c1 ?_
      refine xeb 2 (pc' := 54) (ls' := [.int a0, .int a1, .int a2]) (st' := [.int a2, .int a0]) rfl ?_
      obtain ⟨b2, h⟩ := xck_some h
      refine xeidiv rfl b2 ?_
      obtain rfl := Option.some.inj h
      exact xeiret rfl rfl
  rw [if_neg c3] at h
  by_cases c4 : a1 = 42
  · rw [if_pos c4] at h
    refine xetabI rfl c4 rfl ?_
    refine xeb 3 (pc' := 43) (ls' := [.int a0, .int a1, .int a2]) (st' := [.int (a0 * a2)]) rfl ?_
    obtain rfl := Option.some.inj h
    exact xeiret rfl rfl
  rw [if_neg c4] at h
  by_cases c5 : a1 = 43
  · rw [if_pos c5] at h
    refine xetabI rfl c5 rfl ?_
    refine xeb 3 (pc' := 35) (ls' := [.int a0, .int a1, .int a2]) (st' := [.int (a0 + a2)]) rfl ?_
    obtain rfl := Option.some.inj h
    exact xeiret rfl rfl
  rw [if_neg c5] at h
  by_cases c8 : a1 = 44
  · rw [if_pos c8] at h
    refine xetabI rfl c8 rfl ?_
    refine xeb 1 (pc' := 45) (ls' := [.int a0, .int a1, .int a2]) (st' := [.int a2]) rfl ?_
    by_cases c6 : a2 = 0
    · rw [if_pos c6] at h
      refine xef_ne_t rfl c6 ?_
      refine xeb 2 (pc' := 55) (ls' := [.int a0, .int a1, .int a2]) (st' := [.int 0]) rfl ?_
      obtain rfl := Option.some.inj h
      exact xeiret rfl rfl
    · rw [if_neg c6] at h
      refine xef_ne_f rfl c6 ?_
      refine xeb 2 (pc' := 54) (ls' := [.int a0, .int a1, .int a2]) (st' := [.int a2, .int a0]) rfl ?_
      obtain ⟨b7, h⟩ := xck_some h
      refine xeidiv rfl b7 ?_
      obtain rfl := Option.some.inj h
      exact xeiret rfl rfl
  rw [if_neg c8] at h
  by_cases c9 : a1 = 45
  · rw [if_pos c9] at h
    refine xetabI rfl c9 rfl ?_
    refine xeb 3 (pc' := 39) (ls' := [.int a0, .int a1, .int a2]) (st' := [.int (a0 - a2)]) rfl ?_
    obtain rfl := Option.some.inj h
    exact xeiret rfl rfl
  rw [if_neg c9] at h
  cases h
noncomputable def f_Laws_value_191 (F : Nat) (S0 : Nat) (k12 : Int32 → Int32 → Int32 → XI → Option (Int32 × XI)) (v2 : Int32) (v3 : Int32) (v4 : Int32) (v5 : Int32) (v6 : Int32) (v7 : Int32) (I : XI) : Option (Int32 × XI) :=
  (f_Laws_reckon v6 (v5 - 20000) v7).bind fun q15 => xck (xin (v2 - 2) 32) (xst (xput I (S0 + 4) (xN (v2 - 2)) q15) fun I17 => k12 (v2 + (-1)) v3 (v4 + 1) I17)
theorem g_Laws_value_191 {X : XX} {d : Nat} {L : XL} {F : Nat} {S0 : Nat} {k12 : Int32 → Int32 → Int32 → XI → Option (Int32 × XI)} (hS0 : xisLw S0) {r : Int32 × XI} (hk12 : ∀ (v2 : Int32) (v3 : Int32) (v4 : Int32) (I : XI), k12 v2 v3 v4 I = some r → ∀ (z1 : Value) (z5 : Value) (z6 : Value) (z7 : Value), xEv X (d + 1) 117 12 [.ref S0, z1, .int v2, .int v3, .int v4, z5, z6, z7] [] I L (some (.int r.1)) r.2 L) {v2 : Int32} {v3 : Int32} {v4 : Int32} {v5 : Int32} {v6 : Int32} {v7 : Int32} {I : XI} (h : f_Laws_value_191 F S0 k12 v2 v3 v4 v5 v6 v7 I = some r) (z1 : Value) : xEv X (d + 1) 117 191 [.ref S0, z1, .int v2, .int v3, .int v4, .int v5, .int v6, .int v7] [] I L (some (.int r.1)) r.2 L := by
  rw [f_Laws_value_191] at h
  refine xeb 1 (pc' := 192) (ls' := [.ref S0, z1, .int v2, .int v3, .int v4, .int v5, .int v6, .int v7]) (st' := [.ref S0]) rfl ?_
  refine xegf2 rfl hS0.1 (by decide) rfl ?_
  refine xeb 8 (pc' := 208) (ls' := [.ref S0, z1, .int v2, .int v3, .int v4, .int v5, .int v6, .int v7]) (st' := [.int v7, .int (v5 - 20000), .int v6, .int (v2 - 2), .ref (S0 + 4)]) rfl ?_
  obtain ⟨q15, eq15, h⟩ := xbind_some h
  refine xcallS20 rfl rfl rfl (Nat.le_of_ble_eq_true rfl) (Nat.le_of_ble_eq_true rfl) (Nat.le_of_ble_eq_true rfl) rfl (g_Laws_reckon (d := d + 0) _ eq15) ?_
  obtain ⟨b16, h⟩ := xck_some h
  refine xeis rfl hS0.2.2.2.2 b16 ?_
  obtain ⟨I17, hI17, h⟩ := xst_some h
  rw [← hI17]
  refine xeb 3 (pc' := 12) (ls' := [.ref S0, (xkv z1), .int (v2 + (-1)), .int v3, .int (v4 + 1), .int v5, .int v6, .int v7]) (st' := []) rfl ?_
  exact hk12 (v2 + (-1)) v3 (v4 + 1) I17 h _ _ _ _
noncomputable def f_Laws_value_84 (F : Nat) (S0 : Nat) (k12 : Int32 → Int32 → Int32 → XI → Option (Int32 × XI)) (v2 : Int32) (v3 : Int32) (v4 : Int32) (s1 : Int32) (s2 : Int32) (I : XI) : Option (Int32 × XI) :=
  xck (xin s1 32) (xst (xput I (S0 + 4) (xN s1) s2) fun I23 => k12 (v2 + 1) v3 (v4 + 1) I23)
theorem g_Laws_value_84 {X : XX} {d : Nat} {L : XL} {F : Nat} {S0 : Nat} {k12 : Int32 → Int32 → Int32 → XI → Option (Int32 × XI)} (hS0 : xisLw S0) {r : Int32 × XI} (hk12 : ∀ (v2 : Int32) (v3 : Int32) (v4 : Int32) (I : XI), k12 v2 v3 v4 I = some r → ∀ (z1 : Value) (z5 : Value) (z6 : Value) (z7 : Value), xEv X (d + 1) 117 12 [.ref S0, z1, .int v2, .int v3, .int v4, z5, z6, z7] [] I L (some (.int r.1)) r.2 L) {v2 : Int32} {v3 : Int32} {v4 : Int32} {s1 : Int32} {s2 : Int32} {I : XI} (h : f_Laws_value_84 F S0 k12 v2 v3 v4 s1 s2 I = some r) (z1 : Value) (z5 : Value) (z6 : Value) (z7 : Value) : xEv X (d + 1) 117 84 [.ref S0, z1, .int v2, .int v3, .int v4, z5, z6, z7] [.int s2, .int s1, .ref (S0 + 4)] I L (some (.int r.1)) r.2 L := by
  rw [f_Laws_value_84] at h
  obtain ⟨b22, h⟩ := xck_some h
  refine xeis rfl hS0.2.2.2.2 b22 ?_
  obtain ⟨I23, hI23, h⟩ := xst_some h
  rw [← hI23]
  refine xeb 4 (pc' := 12) (ls' := [.ref S0, (xkv z1), .int (v2 + 1), .int v3, .int (v4 + 1), z5, z6, z7]) (st' := []) rfl ?_
  exact hk12 (v2 + 1) v3 (v4 + 1) I23 h _ _ _ _
noncomputable def f_Laws_value_12 (F : Nat) (S0 : Nat) : Nat → Int32 → Int32 → Int32 → XI → Option (Int32 × XI)
  | 0, _, _, _, _ => none
  | n + 1, v2, v3, v4, I =>
    if 420 ≤ v4 then (some (0, I)) else (if (I S0 1) ≤ v3 then (some (0, I)) else (xck (xin v3 420) (if 20000 ≤ (I (S0 + 1) (xN v3)) then (if (I (S0 + 1) (xN v3)) = 20000 then (if 1 ≤ v2 then (xck (xin (v2 - 1) 32) (some ((I (S0 + 4) (xN (v2 - 1))), I))) else (some (0, I))) else (if 2 ≤ v2 then (xck (xin (v2 - 2) 32) (xck (xin (v2 - 1) 32) (if (I (S0 + 1) (xN v3)) < 30000 then (if (I (S0 + 4) (xN (v2 - 1))) = 0 then (if (I (S0 + 1) (xN v3)) = 20047 then (some (0, I)) else (f_Laws_value_191 F S0 (fun v2 v3 v4 I => f_Laws_value_12 F S0 n v2 v3 v4 I) v2 (v3 + 1) v4 (I (S0 + 1) (xN v3)) (I (S0 + 4) (xN (v2 - 2))) (I (S0 + 4) (xN (v2 - 1))) I)) else (f_Laws_value_191 F S0 (fun v2 v3 v4 I => f_Laws_value_12 F S0 n v2 v3 v4 I) v2 (v3 + 1) v4 (I (S0 + 1) (xN v3)) (I (S0 + 4) (xN (v2 - 2))) (I (S0 + 4) (xN (v2 - 1))) I)) else (f_Laws_value_12 F S0 n (v2 + (-2)) (if (I (S0 + 4) (xN (v2 - 1))) ≤ (I (S0 + 4) (xN (v2 - 2))) then ((I (S0 + 1) (xN v3)) - 30000) else (v3 + 1)) (v4 + 1) I)))) else (some (0, I)))) else (if v2 < 32 then (if 10000 ≤ (I (S0 + 1) (xN v3)) then (xck (xin ((I (S0 + 1) (xN v3)) - 10000) 9) (f_Laws_value_84 F S0 (fun v2 v3 v4 I => f_Laws_value_12 F S0 n v2 v3 v4 I) v2 (v3 + 1) v4 v2 (I (S0 + 3) (xN ((I (S0 + 1) (xN v3)) - 10000))) I)) else (f_Laws_value_84 F S0 (fun v2 v3 v4 I => f_Laws_value_12 F S0 n v2 v3 v4 I) v2 (v3 + 1) v4 v2 (I (S0 + 1) (xN v3)) I)) else (some (0, I))))))
theorem g_Laws_value_12 {X : XX} {d : Nat} {L : XL} {F : Nat} {S0 : Nat} (hS0 : xisLw S0) {r : Int32 × XI}  : ∀ (n : Nat) (v2 : Int32) (v3 : Int32) (v4 : Int32) (I : XI), f_Laws_value_12 F S0 n v2 v3 v4 I = some r → ∀ (z1 : Value) (z5 : Value) (z6 : Value) (z7 : Value), xEv X (d + 1) 117 12 [.ref S0, z1, .int v2, .int v3, .int v4, z5, z6, z7] [] I L (some (.int r.1)) r.2 L := by
  intro n
  induction n with
  | zero => intro v2 v3 v4 I h; rw [f_Laws_value_12] at h; cases h
  | succ n ih =>
    intro v2 v3 v4 I h z1 z5 z6 z7
    rw [f_Laws_value_12] at h
    refine xeb 2 (pc' := 17) (ls' := [.ref S0, z1, .int v2, .int v3, .int v4, z5, z6, z7]) (st' := [.int 420, .int v4]) rfl ?_
    by_cases c2 : 420 ≤ v4
    · rw [if_pos c2] at h
      refine xei_ge_t rfl c2 ?_
      refine xeb 1 (pc' := 222) (ls' := [.ref S0, z1, .int v2, .int v3, .int v4, z5, z6, z7]) (st' := [.int 0]) rfl ?_
      obtain rfl := Option.some.inj h
      exact xeiret rfl rfl
    · rw [if_neg c2] at h
      refine xei_ge_f rfl c2 ?_
      refine xeb 2 (pc' := 22) (ls' := [.ref S0, z1, .int v2, .int v3, .int v4, z5, z6, z7]) (st' := [.ref S0, .int v3]) rfl ?_
      refine xegf0 rfl hS0.1 (by decide) ?_
      by_cases c3 : (I S0 1) ≤ v3
      · rw [if_pos c3] at h
        refine xei_ge_t rfl c3 ?_
        refine xeb 1 (pc' := 222) (ls' := [.ref S0, z1, .int v2, .int v3, .int v4, z5, z6, z7]) (st' := [.int 0]) rfl ?_
        obtain rfl := Option.some.inj h
        exact xeiret rfl rfl
      · rw [if_neg c3] at h
        refine xei_ge_f rfl c3 ?_
        refine xeb 1 (pc' := 29) (ls' := [.ref S0, z1, .int v2, .int v3, .int v4, z5, z6, z7]) (st' := [.ref S0]) rfl ?_
        refine xegf2 rfl hS0.1 (by decide) rfl ?_
        refine xeb 1 (pc' := 33) (ls' := [.ref S0, z1, .int v2, .int v3, .int v4, z5, z6, z7]) (st' := [.int v3, .ref (S0 + 1)]) rfl ?_
        obtain ⟨b4, h⟩ := xck_some h
        refine xeia rfl hS0.2.1 b4 ?_
        refine xeb 4 (pc' := 44) (ls' := [.ref S0, z1, .int v2, .int (v3 + 1), .int v4, .int (I (S0 + 1) (xN v3)), z6, z7]) (st' := [.int 20000, .int (I (S0 + 1) (xN v3))]) rfl ?_
        by_cases c5 : 20000 ≤ (I (S0 + 1) (xN v3))
        · rw [if_pos c5] at h
          refine xei_ge_t rfl c5 ?_
          refine xeb 2 (pc' := 96) (ls' := [.ref S0, z1, .int v2, .int (v3 + 1), .int v4, .int (I (S0 + 1) (xN v3)), z6, z7]) (st' := [.int 20000, .int (I (S0 + 1) (xN v3))]) rfl ?_
          by_cases c6 : (I (S0 + 1) (xN v3)) = 20000
          · rw [if_pos c6] at h
            refine xei_ne_t rfl c6 ?_
            refine xeb 2 (pc' := 101) (ls' := [.ref S0, z1, .int v2, .int (v3 + 1), .int v4, .int (I (S0 + 1) (xN v3)), z6, z7]) (st' := [.int 1, .int v2]) rfl ?_
            by_cases c7 : 1 ≤ v2
            · rw [if_pos c7] at h
              refine xei_ge_t rfl c7 ?_
              refine xeb 1 (pc' := 109) (ls' := [.ref S0, z1, .int v2, .int (v3 + 1), .int v4, .int (I (S0 + 1) (xN v3)), z6, z7]) (st' := [.ref S0]) rfl ?_
              refine xegf2 rfl hS0.1 (by decide) rfl ?_
              refine xeb 3 (pc' := 115) (ls' := [.ref S0, z1, .int v2, .int (v3 + 1), .int v4, .int (I (S0 + 1) (xN v3)), z6, z7]) (st' := [.int (v2 - 1), .ref (S0 + 4)]) rfl ?_
              obtain ⟨b8, h⟩ := xck_some h
              refine xeia rfl hS0.2.2.2.2 b8 ?_
              obtain rfl := Option.some.inj h
              exact xeiret rfl rfl
            · rw [if_neg c7] at h
              refine xei_ge_f rfl c7 ?_
              refine xeb 2 (pc' := 116) (ls' := [.ref S0, z1, .int v2, .int (v3 + 1), .int v4, .int (I (S0 + 1) (xN v3)), z6, z7]) (st' := [.int 0]) rfl ?_
              obtain rfl := Option.some.inj h
              exact xeiret rfl rfl
          · rw [if_neg c6] at h
            refine xei_ne_f rfl c6 ?_
            refine xeb 2 (pc' := 119) (ls' := [.ref S0, z1, .int v2, .int (v3 + 1), .int v4, .int (I (S0 + 1) (xN v3)), z6, z7]) (st' := [.int 2, .int v2]) rfl ?_
            by_cases c9 : 2 ≤ v2
            · rw [if_pos c9] at h
              refine xei_ge_t rfl c9 ?_
              refine xeb 1 (pc' := 125) (ls' := [.ref S0, z1, .int v2, .int (v3 + 1), .int v4, .int (I (S0 + 1) (xN v3)), z6, z7]) (st' := [.ref S0]) rfl ?_
              refine xegf2 rfl hS0.1 (by decide) rfl ?_
              refine xeb 3 (pc' := 131) (ls' := [.ref S0, z1, .int v2, .int (v3 + 1), .int v4, .int (I (S0 + 1) (xN v3)), z6, z7]) (st' := [.int (v2 - 2), .ref (S0 + 4)]) rfl ?_
              obtain ⟨b10, h⟩ := xck_some h
              refine xeia rfl hS0.2.2.2.2 b10 ?_
              refine xeb 2 (pc' := 135) (ls' := [.ref S0, z1, .int v2, .int (v3 + 1), .int v4, .int (I (S0 + 1) (xN v3)), .int (I (S0 + 4) (xN (v2 - 2))), z7]) (st' := [.ref S0]) rfl ?_
              refine xegf2 rfl hS0.1 (by decide) rfl ?_
              refine xeb 3 (pc' := 141) (ls' := [.ref S0, z1, .int v2, .int (v3 + 1), .int v4, .int (I (S0 + 1) (xN v3)), .int (I (S0 + 4) (xN (v2 - 2))), z7]) (st' := [.int (v2 - 1), .ref (S0 + 4)]) rfl ?_
              obtain ⟨b11, h⟩ := xck_some h
              refine xeia rfl hS0.2.2.2.2 b11 ?_
              refine xeb 3 (pc' := 149) (ls' := [.ref S0, z1, .int v2, .int (v3 + 1), .int v4, .int (I (S0 + 1) (xN v3)), .int (I (S0 + 4) (xN (v2 - 2))), .int (I (S0 + 4) (xN (v2 - 1)))]) (st' := [.int 30000, .int (I (S0 + 1) (xN v3))]) rfl ?_
              by_cases c12 : (I (S0 + 1) (xN v3)) < 30000
              · rw [if_pos c12] at h
                refine xei_lt_t rfl c12 ?_
                refine xeb 1 (pc' := 178) (ls' := [.ref S0, z1, .int v2, .int (v3 + 1), .int v4, .int (I (S0 + 1) (xN v3)), .int (I (S0 + 4) (xN (v2 - 2))), .int (I (S0 + 4) (xN (v2 - 1)))]) (st' := [.int (I (S0 + 4) (xN (v2 - 1)))]) rfl ?_
                by_cases c13 : (I (S0 + 4) (xN (v2 - 1))) = 0
                · rw [if_pos c13] at h
                  refine xef_ne_t rfl c13 ?_
                  refine xeb 2 (pc' := 186) (ls' := [.ref S0, z1, .int v2, .int (v3 + 1), .int v4, .int (I (S0 + 1) (xN v3)), .int (I (S0 + 4) (xN (v2 - 2))), .int (I (S0 + 4) (xN (v2 - 1)))]) (st' := [.int 20047, .int (I (S0 + 1) (xN v3))]) rfl ?_
                  by_cases c14 : (I (S0 + 1) (xN v3)) = 20047
                  · rw [if_pos c14] at h
                    refine xei_ne_t rfl c14 ?_
                    refine xeb 1 (pc' := 190) (ls' := [.ref S0, z1, .int v2, .int (v3 + 1), .int v4, .int (I (S0 + 1) (xN v3)), .int (I (S0 + 4) (xN (v2 - 2))), .int (I (S0 + 4) (xN (v2 - 1)))]) (st' := [.int 0]) rfl ?_
                    obtain rfl := Option.some.inj h
                    exact xeiret rfl rfl
                  · rw [if_neg c14] at h
                    refine xei_ne_f rfl c14 ?_
                    exact g_Laws_value_191 hS0 (fun v2 v3 v4 I h' z1 z5 z6 z7 => ih v2 v3 v4 I h' z1 z5 z6 z7) h _
                · rw [if_neg c13] at h
                  refine xef_ne_f rfl c13 ?_
                  exact g_Laws_value_191 hS0 (fun v2 v3 v4 I h' z1 z5 z6 z7 => ih v2 v3 v4 I h' z1 z5 z6 z7) h _
              · rw [if_neg c12] at h
                refine xei_lt_f rfl c12 ?_
                refine xeb 2 (pc' := 156) (ls' := [.ref S0, z1, .int v2, .int (v3 + 1), .int v4, .int (I (S0 + 1) (xN v3)), .int (I (S0 + 4) (xN (v2 - 2))), .int (I (S0 + 4) (xN (v2 - 1)))]) (st' := [.int (I (S0 + 4) (xN (v2 - 1))), .int (I (S0 + 4) (xN (v2 - 2)))]) rfl ?_
                have hj : xEv X (d + 1) 117 169 [.ref S0, z1, .int v2, .int (v3 + 1), .int v4, .int (I (S0 + 1) (xN v3)), .int (I (S0 + 4) (xN (v2 - 2))), .int (I (S0 + 4) (xN (v2 - 1)))] [.int (if (I (S0 + 4) (xN (v2 - 1))) ≤ (I (S0 + 4) (xN (v2 - 2))) then ((I (S0 + 1) (xN v3)) - 30000) else (v3 + 1))] I L (some (.int r.1)) r.2 L := by
                  refine xeb 5 (pc' := 12) (ls' := [.ref S0, (xkv z1), .int (v2 + (-2)), .int (if (I (S0 + 4) (xN (v2 - 1))) ≤ (I (S0 + 4) (xN (v2 - 2))) then ((I (S0 + 1) (xN v3)) - 30000) else (v3 + 1)), .int (v4 + 1), .int (I (S0 + 1) (xN v3)), .int (I (S0 + 4) (xN (v2 - 2))), .int (I (S0 + 4) (xN (v2 - 1)))]) (st' := []) rfl ?_
                  exact ih (v2 + (-2)) (if (I (S0 + 4) (xN (v2 - 1))) ≤ (I (S0 + 4) (xN (v2 - 2))) then ((I (S0 + 1) (xN v3)) - 30000) else (v3 + 1)) (v4 + 1) I h _ _ _ _
                by_cases c18 : (I (S0 + 4) (xN (v2 - 1))) ≤ (I (S0 + 4) (xN (v2 - 2)))
                · simp only [if_pos c18] at hj
                  refine xei_ge_t rfl c18 ?_
                  exact xeb 3 rfl hj
                · simp only [if_neg c18] at hj
                  refine xei_ge_f rfl c18 ?_
                  exact xeb 2 rfl hj
            · rw [if_neg c9] at h
              refine xei_ge_f rfl c9 ?_
              refine xeb 1 (pc' := 123) (ls' := [.ref S0, z1, .int v2, .int (v3 + 1), .int v4, .int (I (S0 + 1) (xN v3)), z6, z7]) (st' := [.int 0]) rfl ?_
              obtain rfl := Option.some.inj h
              exact xeiret rfl rfl
        · rw [if_neg c5] at h
          refine xei_ge_f rfl c5 ?_
          refine xeb 2 (pc' := 50) (ls' := [.ref S0, z1, .int v2, .int (v3 + 1), .int v4, .int (I (S0 + 1) (xN v3)), z6, z7]) (st' := [.int 32, .int v2]) rfl ?_
          by_cases c19 : v2 < 32
          · rw [if_pos c19] at h
            refine xei_lt_t rfl c19 ?_
            refine xeb 1 (pc' := 56) (ls' := [.ref S0, z1, .int v2, .int (v3 + 1), .int v4, .int (I (S0 + 1) (xN v3)), z6, z7]) (st' := [.ref S0]) rfl ?_
            refine xegf2 rfl hS0.1 (by decide) rfl ?_
            refine xeb 3 (pc' := 65) (ls' := [.ref S0, z1, .int v2, .int (v3 + 1), .int v4, .int (I (S0 + 1) (xN v3)), z6, z7]) (st' := [.int 10000, .int (I (S0 + 1) (xN v3)), .int v2, .ref (S0 + 4)]) rfl ?_
            by_cases c20 : 10000 ≤ (I (S0 + 1) (xN v3))
            · rw [if_pos c20] at h
              refine xei_ge_t rfl c20 ?_
              refine xeb 1 (pc' := 74) (ls' := [.ref S0, z1, .int v2, .int (v3 + 1), .int v4, .int (I (S0 + 1) (xN v3)), z6, z7]) (st' := [.ref S0, .int v2, .ref (S0 + 4)]) rfl ?_
              refine xegf2 rfl hS0.1 (by decide) rfl ?_
              refine xeb 3 (pc' := 83) (ls' := [.ref S0, z1, .int v2, .int (v3 + 1), .int v4, .int (I (S0 + 1) (xN v3)), z6, z7]) (st' := [.int ((I (S0 + 1) (xN v3)) - 10000), .ref (S0 + 3), .int v2, .ref (S0 + 4)]) rfl ?_
              obtain ⟨b21, h⟩ := xck_some h
              refine xeia rfl hS0.2.2.2.1 b21 ?_
              exact g_Laws_value_84 hS0 (fun v2 v3 v4 I h' z1 z5 z6 z7 => ih v2 v3 v4 I h' z1 z5 z6 z7) h _ _ _ _
            · rw [if_neg c20] at h
              refine xei_ge_f rfl c20 ?_
              refine xeb 2 (pc' := 84) (ls' := [.ref S0, z1, .int v2, .int (v3 + 1), .int v4, .int (I (S0 + 1) (xN v3)), z6, z7]) (st' := [.int (I (S0 + 1) (xN v3)), .int v2, .ref (S0 + 4)]) rfl ?_
              exact g_Laws_value_84 hS0 (fun v2 v3 v4 I h' z1 z5 z6 z7 => ih v2 v3 v4 I h' z1 z5 z6 z7) h _ _ _ _
          · rw [if_neg c19] at h
            refine xei_lt_f rfl c19 ?_
            refine xeb 1 (pc' := 54) (ls' := [.ref S0, z1, .int v2, .int (v3 + 1), .int v4, .int (I (S0 + 1) (xN v3)), z6, z7]) (st' := [.int 0]) rfl ?_
            obtain rfl := Option.some.inj h
            exact xeiret rfl rfl
noncomputable def f_Laws_value (F : Nat) (S0 : Nat) (a1 : Int32) (I : XI) : Option (Int32 × XI) :=
  xck (xin a1 4) (f_Laws_value_12 F S0 F 0 (I (S0 + 2) (xN a1)) 0 I)
theorem g_Laws_value {X : XX} {d : Nat} {L : XL} {F : Nat} {S0 : Nat} {a1 : Int32} {I : XI} (hS0 : xisLw S0) (r : Int32 × XI) (h : f_Laws_value F S0 a1 I = some r) : xEv X (d + 1) 117 0 [.ref S0, .int a1, .null, .null, .null, .null, .null, .null] [] I L (some (.int r.1)) r.2 L := by
  rw [f_Laws_value] at h
  refine xeb 3 (pc' := 3) (ls' := [.ref S0, .int a1, .int 0, .null, .null, .null, .null, .null]) (st' := [.ref S0]) rfl ?_
  refine xegf2 rfl hS0.1 (by decide) rfl ?_
  refine xeb 1 (pc' := 7) (ls' := [.ref S0, .int a1, .int 0, .null, .null, .null, .null, .null]) (st' := [.int a1, .ref (S0 + 2)]) rfl ?_
  obtain ⟨b1, h⟩ := xck_some h
  refine xeia rfl hS0.2.2.1 b1 ?_
  refine xeb 3 (pc' := 12) (ls' := [.ref S0, .int a1, .int 0, .int (I (S0 + 2) (xN a1)), .int 0, .null, .null, .null]) (st' := []) rfl ?_
  exact g_Laws_value_12 hS0 F 0 (I (S0 + 2) (xN a1)) 0 I h _ _ _ _
noncomputable def f_Rules_held (a0 : Int32) (a1 : Int32) (a2 : Int32) : Option (Int32) :=
  some (if a1 < (if a0 < a2 then a0 else a2) then (if a0 < a2 then a0 else a2) else a1)
theorem g_Rules_held {X : XX} {d : Nat} {I : XI} {L : XL} {a0 : Int32} {a1 : Int32} {a2 : Int32}  (r : Int32) (h : f_Rules_held a0 a1 a2 = some r) : xEv X (d + 0) 118 0 [.int a0, .int a1, .int a2] [] I L (some (.int r)) I L := by
  rw [f_Rules_held] at h
  refine xeb 3 (pc' := 3) (ls' := [.int a0, .int a1, .int a2]) (st' := [.int a0, .int a2, .int a1]) rfl ?_
  refine xemin rfl (Nat.le_of_ble_eq_true rfl) ?_
  refine xemax rfl (Nat.le_of_ble_eq_true rfl) ?_
  obtain rfl := Option.some.inj h
  exact xeiret rfl rfl
noncomputable def f_Rules_falls (F : Nat) (S1 : Nat) (a2 : Int32) (I : XI) : Option (Int32 × XI) :=
  (f_Laws_setDayAlone F 21 (I S1 1) I).bind fun q1 => xck (xin 0 9) (xst (xput q1 24 (xN 0) (a2 - a2 / 6 * 6)) fun I3 => xck (xin 1 9) (xst (xput I3 24 (xN 1) (a2 / 6)) fun I5 => xck (xin a2 30) (xck (xin 2 9) (xst (xput I5 24 (xN 2) (I5 18 (xN a2))) fun I8 => (f_Board_friends F S1 I8 a2).bind fun q9 => xck (xin 3 9) (xst (xput I8 24 (xN 3) q9) fun I11 => (f_Laws_value F 21 3 I11).bind fun q12 => (f_Rules_held q12.1 0 100).bind fun q13 => some (q13, q12.2))))))
theorem g_Rules_falls {X : XX} {d : Nat} {L : XL} {F : Nat} {S1 : Nat} {a2 : Int32} {I : XI} (hS1 : xisSt S1) (r : Int32 × XI) (h : f_Rules_falls F S1 a2 I = some r) : xEv X (d + 4) 119 0 [.ref 32, .ref S1, .int a2] [] I L (some (.int r.1)) r.2 L := by
  rw [f_Rules_falls] at h
  refine xeb 1 (pc' := 1) (ls' := [.ref 32, .ref S1, .int a2]) (st' := [.ref 32]) rfl ?_
  refine xegf2 rfl xsh32 (by decide) rfl ?_
  refine xeb 1 (pc' := 5) (ls' := [.ref 32, .ref S1, .int a2]) (st' := [.ref S1, .ref 21]) rfl ?_
  refine xegf10 rfl hS1.1 (by decide) ?_
  obtain ⟨q1, eq1, h⟩ := xbind_some h
  refine xcallV rfl xsh21 rfl rfl rfl (Nat.le_of_ble_eq_true rfl) (Nat.le_of_ble_eq_true rfl) (Nat.le_of_ble_eq_true rfl) rfl (g_Laws_setDayAlone (d := d + 2) xis21 _ eq1) ?_
  refine xeb 1 (pc' := 12) (ls' := [.ref 32, .ref S1, .int a2]) (st' := [.ref 32]) rfl ?_
  refine xegf2 rfl xsh32 (by decide) rfl ?_
  refine xegf12 rfl xsh21 (by decide) rfl ?_
  refine xeb 4 (pc' := 23) (ls' := [.ref 32, .ref S1, .int a2]) (st' := [.int (a2 - a2 / 6 * 6), .int 0, .ref 24]) rfl ?_
  obtain ⟨b2, h⟩ := xck_some h
  refine xeis rfl xsh24 b2 ?_
  obtain ⟨I3, hI3, h⟩ := xst_some h
  rw [← hI3]
  refine xeb 1 (pc' := 25) (ls' := [.ref 32, .ref S1, .int a2]) (st' := [.ref 32]) rfl ?_
  refine xegf2 rfl xsh32 (by decide) rfl ?_
  refine xegf12 rfl xsh21 (by decide) rfl ?_
  refine xeb 4 (pc' := 36) (ls' := [.ref 32, .ref S1, .int a2]) (st' := [.int (a2 / 6), .int 1, .ref 24]) rfl ?_
  obtain ⟨b4, h⟩ := xck_some h
  refine xeis rfl xsh24 b4 ?_
  obtain ⟨I5, hI5, h⟩ := xst_some h
  rw [← hI5]
  refine xeb 1 (pc' := 38) (ls' := [.ref 32, .ref S1, .int a2]) (st' := [.ref 32]) rfl ?_
  refine xegf2 rfl xsh32 (by decide) rfl ?_
  refine xegf12 rfl xsh21 (by decide) rfl ?_
  refine xeb 2 (pc' := 46) (ls' := [.ref 32, .ref S1, .int a2]) (st' := [.ref 32, .int 2, .ref 24]) rfl ?_
  refine xegf2 rfl xsh32 (by decide) rfl ?_
  refine xegf12 rfl xsh17 (by decide) rfl ?_
  refine xeb 1 (pc' := 53) (ls' := [.ref 32, .ref S1, .int a2]) (st' := [.int a2, .ref 18, .int 2, .ref 24]) rfl ?_
  obtain ⟨b6, h⟩ := xck_some h
  refine xeia rfl xsh18 b6 ?_
  obtain ⟨b7, h⟩ := xck_some h
  refine xeis rfl xsh24 b7 ?_
  obtain ⟨I8, hI8, h⟩ := xst_some h
  rw [← hI8]
  refine xeb 1 (pc' := 56) (ls' := [.ref 32, .ref S1, .int a2]) (st' := [.ref 32]) rfl ?_
  refine xegf2 rfl xsh32 (by decide) rfl ?_
  refine xegf12 rfl xsh21 (by decide) rfl ?_
  refine xeb 2 (pc' := 64) (ls' := [.ref 32, .ref S1, .int a2]) (st' := [.ref 32, .int 3, .ref 24]) rfl ?_
  refine xegf2 rfl xsh32 (by decide) rfl ?_
  refine xeb 2 (pc' := 69) (ls' := [.ref 32, .ref S1, .int a2]) (st' := [.int a2, .ref S1, .ref 30, .int 3, .ref 24]) rfl ?_
  obtain ⟨q9, eq9, h⟩ := xbind_some h
  refine xcallV rfl xsh30 rfl rfl rfl (Nat.le_of_ble_eq_true rfl) (Nat.le_of_ble_eq_true rfl) (Nat.le_of_ble_eq_true rfl) rfl (g_Board_friends (d := d + 0) hS1 _ eq9) ?_
  obtain ⟨b10, h⟩ := xck_some h
  refine xeis rfl xsh24 b10 ?_
  obtain ⟨I11, hI11, h⟩ := xst_some h
  rw [← hI11]
  refine xeb 1 (pc' := 74) (ls' := [.ref 32, .ref S1, .int a2]) (st' := [.ref 32]) rfl ?_
  refine xegf2 rfl xsh32 (by decide) rfl ?_
  refine xeb 1 (pc' := 78) (ls' := [.ref 32, .ref S1, .int a2]) (st' := [.int 3, .ref 21]) rfl ?_
  obtain ⟨q12, eq12, h⟩ := xbind_some h
  refine xcallV rfl xsh21 rfl rfl rfl (Nat.le_of_ble_eq_true rfl) (Nat.le_of_ble_eq_true rfl) (Nat.le_of_ble_eq_true rfl) rfl (g_Laws_value (d := d + 2) xis21 _ eq12) ?_
  refine xeb 2 (pc' := 84) (ls' := [.ref 32, .ref S1, .int a2]) (st' := [.int 100, .int 0, .int q12.1]) rfl ?_
  obtain ⟨q13, eq13, h⟩ := xbind_some h
  refine xcallS20 rfl rfl rfl (Nat.le_of_ble_eq_true rfl) (Nat.le_of_ble_eq_true rfl) (Nat.le_of_ble_eq_true rfl) rfl (g_Rules_held (d := d + 3) _ eq13) ?_
  obtain rfl := Option.some.inj h
  exact xeiret rfl rfl
noncomputable def f_H_cell (F : Nat) (a1 : Int32) (a2 : Int32) (a3 : Int32) (I : XI) : Option (Int32 × XI) :=
  (f_Table_cellAt 17 I a1 a2).bind fun q1 => if q1 = (-1) then (some ((-1), I)) else (if a3 < 0 ∨ 4 < a3 then (some ((-1), I)) else if a3 = 0 then (xck (xin q1 30) (some ((I 18 (xN q1)), I))) else if a3 = 1 then ((f_State_lies 26 I q1).bind fun q6 => some ((if q6 = 0 then 0 else 1), I)) else if a3 = 2 then ((f_Board_friends F 26 I q1).bind fun q9 => some (q9, I)) else if a3 = 3 then ((f_State_lies 26 I q1).bind fun q11 => if q11 = 0 then (some (0, I)) else ((f_Rules_falls F 26 q1 I).bind fun q13 => some (q13.1, q13.2))) else if a3 = 4 then (xck (xin q1 30) (if (I 27 (xN q1)) < 0 then (some ((-2), I)) else (xck (xin q1 30) (some ((I 27 (xN q1)), I))))) else none)
theorem g_H_cell {X : XX} {d : Nat} {L : XL} {F : Nat} {a1 : Int32} {a2 : Int32} {a3 : Int32} {I : XI}  (r : Int32 × XI) (h : f_H_cell F a1 a2 a3 I = some r) : xEv X (d + 5) 120 0 [.ref 0, .int a1, .int a2, .int a3, .null] [] I L (some (.int r.1)) r.2 L := by
  rw [f_H_cell] at h
  refine xeb 1 (pc' := 1) (ls' := [.ref 0, .int a1, .int a2, .int a3, .null]) (st' := [.ref 0]) rfl ?_
  refine xegf2 rfl xsh0 (by decide) rfl ?_
  refine xeb 2 (pc' := 6) (ls' := [.ref 0, .int a1, .int a2, .int a3, .null]) (st' := [.int a2, .int a1, .ref 17]) rfl ?_
  obtain ⟨q1, eq1, h⟩ := xbind_some h
  refine xcallV rfl xsh17 rfl rfl rfl (Nat.le_of_ble_eq_true rfl) (Nat.le_of_ble_eq_true rfl) (Nat.le_of_ble_eq_true rfl) rfl (g_Table_cellAt (d := d + 4) xis17 _ eq1) ?_
  refine xeb 3 (pc' := 14) (ls' := [.ref 0, .int a1, .int a2, .int a3, .int q1]) (st' := [.int (-1), .int q1]) rfl ?_
  by_cases c2 : q1 = (-1)
  · rw [if_pos c2] at h
    refine xei_ne_t rfl c2 ?_
    refine xeb 1 (pc' := 18) (ls' := [.ref 0, .int a1, .int a2, .int a3, .int q1]) (st' := [.int (-1)]) rfl ?_
    obtain rfl := Option.some.inj h
    exact xeiret rfl rfl
  · rw [if_neg c2] at h
    refine xei_ne_f rfl c2 ?_
    refine xeb 1 (pc' := 20) (ls' := [.ref 0, .int a1, .int a2, .int a3, .int q1]) (st' := [.int a3]) rfl ?_
    by_cases c3 : a3 < 0 ∨ 4 < a3
    · rw [if_pos c3] at h
      refine xetabO rfl rfl rfl c3 ?_
      refine xeb 1 (pc' := 159) (ls' := [.ref 0, .int a1, .int a2, .int a3, .int q1]) (st' := [.int (-1)]) rfl ?_
      obtain rfl := Option.some.inj h
      exact xeiret rfl rfl
    rw [if_neg c3] at h
    by_cases c5 : a3 = 0
    · rw [if_pos c5] at h
      refine xetabI rfl c5 rfl ?_
      refine xeb 1 (pc' := 57) (ls' := [.ref 0, .int a1, .int a2, .int a3, .int q1]) (st' := [.ref 0]) rfl ?_
      refine xegf2 rfl xsh0 (by decide) rfl ?_
      refine xegf12 rfl xsh17 (by decide) rfl ?_
      refine xeb 1 (pc' := 65) (ls' := [.ref 0, .int a1, .int a2, .int a3, .int q1]) (st' := [.int q1, .ref 18]) rfl ?_
      obtain ⟨b4, h⟩ := xck_some h
      refine xeia rfl xsh18 b4 ?_
      obtain rfl := Option.some.inj h
      exact xeiret rfl rfl
    rw [if_neg c5] at h
    by_cases c8 : a3 = 1
    · rw [if_pos c8] at h
      refine xetabI rfl c8 rfl ?_
      refine xeb 1 (pc' := 68) (ls' := [.ref 0, .int a1, .int a2, .int a3, .int q1]) (st' := [.ref 0]) rfl ?_
      refine xegf2 rfl xsh0 (by decide) rfl ?_
      refine xeb 1 (pc' := 73) (ls' := [.ref 0, .int a1, .int a2, .int a3, .int q1]) (st' := [.int q1, .ref 26]) rfl ?_
      obtain ⟨q6, eq6, h⟩ := xbind_some h
      refine xcallV rfl xsh26 rfl rfl rfl (Nat.le_of_ble_eq_true rfl) (Nat.le_of_ble_eq_true rfl) (Nat.le_of_ble_eq_true rfl) rfl (g_State_lies (d := d + 4) xis26 _ eq6) ?_
      have hj : xEv X (d + 5) 120 84 [.ref 0, .int a1, .int a2, .int a3, .int q1] [.int (if q6 = 0 then 0 else 1)] I L (some (.int r.1)) r.2 L := by
        obtain rfl := Option.some.inj h
        exact xeiret rfl rfl
      by_cases c7 : q6 = 0
      · simp only [if_pos c7] at hj
        refine xef_eq_t rfl c7 ?_
        exact xeb 1 rfl hj
      · simp only [if_neg c7] at hj
        refine xef_eq_f rfl c7 ?_
        exact xeb 2 rfl hj
    rw [if_neg c8] at h
    by_cases c10 : a3 = 2
    · rw [if_pos c10] at h
      refine xetabI rfl c10 rfl ?_
      refine xeb 1 (pc' := 86) (ls' := [.ref 0, .int a1, .int a2, .int a3, .int q1]) (st' := [.ref 0]) rfl ?_
      refine xegf2 rfl xsh0 (by decide) rfl ?_
      refine xeb 1 (pc' := 90) (ls' := [.ref 0, .int a1, .int a2, .int a3, .int q1]) (st' := [.ref 0, .ref 30]) rfl ?_
      refine xegf2 rfl xsh0 (by decide) rfl ?_
      refine xeb 1 (pc' := 95) (ls' := [.ref 0, .int a1, .int a2, .int a3, .int q1]) (st' := [.int q1, .ref 26, .ref 30]) rfl ?_
      obtain ⟨q9, eq9, h⟩ := xbind_some h
      refine xcallV rfl xsh30 rfl rfl rfl (Nat.le_of_ble_eq_true rfl) (Nat.le_of_ble_eq_true rfl) (Nat.le_of_ble_eq_true rfl) rfl (g_Board_friends (d := d + 1) xis26 _ eq9) ?_
      obtain rfl := Option.some.inj h
      exact xeiret rfl rfl
    rw [if_neg c10] at h
    by_cases c14 : a3 = 3
    · rw [if_pos c14] at h
      refine xetabI rfl c14 rfl ?_
      refine xeb 1 (pc' := 100) (ls' := [.ref 0, .int a1, .int a2, .int a3, .int q1]) (st' := [.ref 0]) rfl ?_
      refine xegf2 rfl xsh0 (by decide) rfl ?_
      refine xeb 1 (pc' := 105) (ls' := [.ref 0, .int a1, .int a2, .int a3, .int q1]) (st' := [.int q1, .ref 26]) rfl ?_
      obtain ⟨q11, eq11, h⟩ := xbind_some h
      refine xcallV rfl xsh26 rfl rfl rfl (Nat.le_of_ble_eq_true rfl) (Nat.le_of_ble_eq_true rfl) (Nat.le_of_ble_eq_true rfl) rfl (g_State_lies (d := d + 4) xis26 _ eq11) ?_
      by_cases c12 : q11 = 0
      · rw [if_pos c12] at h
        refine xef_eq_t rfl c12 ?_
        refine xeb 1 (pc' := 128) (ls' := [.ref 0, .int a1, .int a2, .int a3, .int q1]) (st' := [.int 0]) rfl ?_
        obtain rfl := Option.some.inj h
        exact xeiret rfl rfl
      · rw [if_neg c12] at h
        refine xef_eq_f rfl c12 ?_
        refine xeb 1 (pc' := 112) (ls' := [.ref 0, .int a1, .int a2, .int a3, .int q1]) (st' := [.ref 0]) rfl ?_
        refine xegf2 rfl xsh0 (by decide) rfl ?_
        refine xeb 1 (pc' := 116) (ls' := [.ref 0, .int a1, .int a2, .int a3, .int q1]) (st' := [.ref 0, .ref 32]) rfl ?_
        refine xegf2 rfl xsh0 (by decide) rfl ?_
        refine xeb 1 (pc' := 121) (ls' := [.ref 0, .int a1, .int a2, .int a3, .int q1]) (st' := [.int q1, .ref 26, .ref 32]) rfl ?_
        obtain ⟨q13, eq13, h⟩ := xbind_some h
        refine xcallV rfl xsh32 rfl rfl rfl (Nat.le_of_ble_eq_true rfl) (Nat.le_of_ble_eq_true rfl) (Nat.le_of_ble_eq_true rfl) rfl (g_Rules_falls (d := d + 0) xis26 _ eq13) ?_
        refine xeb 1 (pc' := 128) (ls' := [.ref 0, .int a1, .int a2, .int a3, .int q1]) (st' := [.int q13.1]) rfl ?_
        obtain rfl := Option.some.inj h
        exact xeiret rfl rfl
    rw [if_neg c14] at h
    by_cases c18 : a3 = 4
    · rw [if_pos c18] at h
      refine xetabI rfl c18 rfl ?_
      refine xeb 1 (pc' := 130) (ls' := [.ref 0, .int a1, .int a2, .int a3, .int q1]) (st' := [.ref 0]) rfl ?_
      refine xegf2 rfl xsh0 (by decide) rfl ?_
      refine xegf12 rfl xsh26 (by decide) rfl ?_
      refine xeb 1 (pc' := 138) (ls' := [.ref 0, .int a1, .int a2, .int a3, .int q1]) (st' := [.int q1, .ref 27]) rfl ?_
      obtain ⟨b15, h⟩ := xck_some h
      refine xeia rfl xsh27 b15 ?_
      by_cases c16 : (I 27 (xN q1)) < 0
      · rw [if_pos c16] at h
        refine xef_lt_t rfl c16 ?_
        refine xeb 1 (pc' := 157) (ls' := [.ref 0, .int a1, .int a2, .int a3, .int q1]) (st' := [.int (-2)]) rfl ?_
        obtain rfl := Option.some.inj h
        exact xeiret rfl rfl
      · rw [if_neg c16] at h
        refine xef_lt_f rfl c16 ?_
        refine xeb 1 (pc' := 143) (ls' := [.ref 0, .int a1, .int a2, .int a3, .int q1]) (st' := [.ref 0]) rfl ?_
        refine xegf2 rfl xsh0 (by decide) rfl ?_
        refine xegf12 rfl xsh26 (by decide) rfl ?_
        refine xeb 1 (pc' := 151) (ls' := [.ref 0, .int a1, .int a2, .int a3, .int q1]) (st' := [.int q1, .ref 27]) rfl ?_
        obtain ⟨b17, h⟩ := xck_some h
        refine xeia rfl xsh27 b17 ?_
        refine xeb 1 (pc' := 157) (ls' := [.ref 0, .int a1, .int a2, .int a3, .int q1]) (st' := [.int (I 27 (xN q1))]) rfl ?_
        obtain rfl := Option.some.inj h
        exact xeiret rfl rfl
    rw [if_neg c18] at h
    cases h
noncomputable def f_M_in (a0 : Int32) (a1 : Int32) (a2 : Int32) : Option (Int32) :=
  if a0 < a1 then (some 0) else (xck (xnarz (if a2 < a0 then 0 else 1)) (some (if a2 < a0 then 0 else 1)))
theorem g_M_in {X : XX} {d : Nat} {I : XI} {L : XL} {a0 : Int32} {a1 : Int32} {a2 : Int32}  (r : Int32) (h : f_M_in a0 a1 a2 = some r) : xEv X (d + 0) 121 0 [.int a0, .int a1, .int a2] [] I L (some (.int r)) I L := by
  rw [f_M_in] at h
  refine xeb 2 (pc' := 2) (ls' := [.int a0, .int a1, .int a2]) (st' := [.int a1, .int a0]) rfl ?_
  by_cases c1 : a0 < a1
  · rw [if_pos c1] at h
    refine xei_lt_t rfl c1 ?_
    refine xeb 1 (pc' := 15) (ls' := [.int a0, .int a1, .int a2]) (st' := [.int 0]) rfl ?_
    obtain rfl := Option.some.inj h
    exact xeiret rfl rfl
  · rw [if_neg c1] at h
    refine xei_lt_f rfl c1 ?_
    refine xeb 2 (pc' := 7) (ls' := [.int a0, .int a1, .int a2]) (st' := [.int a2, .int a0]) rfl ?_
    have hj : xEv X (d + 0) 121 15 [.int a0, .int a1, .int a2] [.int (if a2 < a0 then 0 else 1)] I L (some (.int r)) I L := by
      obtain ⟨b3, h⟩ := xck_some h
      obtain rfl := Option.some.inj h
      exact xeiret rfl b3
    by_cases c2 : a2 < a0
    · simp only [if_pos c2] at hj
      refine xei_gt_t rfl c2 ?_
      exact xeb 1 rfl hj
    · simp only [if_neg c2] at hj
      refine xei_gt_f rfl c2 ?_
      exact xeb 2 rfl hj
noncomputable def f_M_isCell (I : XI) (a1 : Int32) (a2 : Int32) : Option (Int32) :=
  xck (xin (I 131 18) 2) ((f_M_in a1 0 ((I 140 (xN (I 131 18))) - 1)).bind fun q2 => if q2 = 0 then (some 0) else (xck (xin (I 131 18) 2) ((f_M_in a2 0 ((I 141 (xN (I 131 18))) - 1)).bind fun q5 => xck (xnarz (if q5 = 0 then 0 else 1)) (some (if q5 = 0 then 0 else 1)))))
theorem g_M_isCell {X : XX} {d : Nat} {L : XL} {I : XI} {a1 : Int32} {a2 : Int32}  (r : Int32) (h : f_M_isCell I a1 a2 = some r) : xEv X (d + 1) 122 0 [.ref 131, .int a1, .int a2] [] I L (some (.int r)) I L := by
  rw [f_M_isCell] at h
  refine xeb 3 (pc' := 3) (ls' := [.ref 131, .int a1, .int a2]) (st' := [.ref 131, .int 0, .int a1]) rfl ?_
  refine xegf2 rfl xsh131 (by decide) rfl ?_
  refine xeb 1 (pc' := 7) (ls' := [.ref 131, .int a1, .int a2]) (st' := [.ref 131, .ref 140, .int 0, .int a1]) rfl ?_
  refine xegf0 rfl xsh131 (by decide) ?_
  obtain ⟨b1, h⟩ := xck_some h
  refine xeia rfl xsh140 b1 ?_
  refine xeb 2 (pc' := 13) (ls' := [.ref 131, .int a1, .int a2]) (st' := [.int ((I 140 (xN (I 131 18))) - 1), .int 0, .int a1]) rfl ?_
  obtain ⟨q2, eq2, h⟩ := xbind_some h
  refine xcallS20 rfl rfl rfl (Nat.le_of_ble_eq_true rfl) (Nat.le_of_ble_eq_true rfl) (Nat.le_of_ble_eq_true rfl) rfl (g_M_in (d := d + 0) _ eq2) ?_
  by_cases c3 : q2 = 0
  · rw [if_pos c3] at h
    refine xef_eq_t rfl c3 ?_
    refine xeb 1 (pc' := 43) (ls' := [.ref 131, .int a1, .int a2]) (st' := [.int 0]) rfl ?_
    obtain rfl := Option.some.inj h
    exact xeiret rfl rfl
  · rw [if_neg c3] at h
    refine xef_eq_f rfl c3 ?_
    refine xeb 3 (pc' := 22) (ls' := [.ref 131, .int a1, .int a2]) (st' := [.ref 131, .int 0, .int a2]) rfl ?_
    refine xegf2 rfl xsh131 (by decide) rfl ?_
    refine xeb 1 (pc' := 26) (ls' := [.ref 131, .int a1, .int a2]) (st' := [.ref 131, .ref 141, .int 0, .int a2]) rfl ?_
    refine xegf0 rfl xsh131 (by decide) ?_
    obtain ⟨b4, h⟩ := xck_some h
    refine xeia rfl xsh141 b4 ?_
    refine xeb 2 (pc' := 32) (ls' := [.ref 131, .int a1, .int a2]) (st' := [.int ((I 141 (xN (I 131 18))) - 1), .int 0, .int a2]) rfl ?_
    obtain ⟨q5, eq5, h⟩ := xbind_some h
    refine xcallS20 rfl rfl rfl (Nat.le_of_ble_eq_true rfl) (Nat.le_of_ble_eq_true rfl) (Nat.le_of_ble_eq_true rfl) rfl (g_M_in (d := d + 0) _ eq5) ?_
    have hj : xEv X (d + 1) 122 43 [.ref 131, .int a1, .int a2] [.int (if q5 = 0 then 0 else 1)] I L (some (.int r)) I L := by
      obtain ⟨b7, h⟩ := xck_some h
      obtain rfl := Option.some.inj h
      exact xeiret rfl b7
    by_cases c6 : q5 = 0
    · simp only [if_pos c6] at hj
      refine xef_eq_t rfl c6 ?_
      exact xeb 1 rfl hj
    · simp only [if_neg c6] at hj
      refine xef_eq_f rfl c6 ?_
      exact xeb 2 rfl hj
noncomputable def f_M_copies_2 (F : Nat) : Nat → Int32 → XI → Option (XI)
  | 0, _, _ => none
  | n + 1, v1, I =>
    if 33 ≤ v1 then (xck (xin (I 131 18) 2) (xst (xput I 131 50 (I 149 (xN (I 131 18)))) fun I3 => some I3)) else (xck (xin v1 33) (xck (xin v1 33) (xst (xput I 163 (xN v1) (I 162 (xN v1))) fun I6 => f_M_copies_2 F n (v1 + 1) I6)))
theorem g_M_copies_2 {X : XX} {d : Nat} {L : XL} {F : Nat}  {r : XI}  : ∀ (n : Nat) (v1 : Int32) (I : XI), f_M_copies_2 F n v1 I = some r → xEv X (d + 0) 123 2 [.ref 131, .int v1] [] I L none r L := by
  intro n
  induction n with
  | zero => intro v1 I h; rw [f_M_copies_2] at h; cases h
  | succ n ih =>
    intro v1 I h 
    rw [f_M_copies_2] at h
    refine xeb 2 (pc' := 5) (ls' := [.ref 131, .int v1]) (st' := [.int 33, .int v1]) rfl ?_
    by_cases c1 : 33 ≤ v1
    · rw [if_pos c1] at h
      refine xei_ge_t rfl c1 ?_
      refine xeb 2 (pc' := 28) (ls' := [.ref 131, .int v1]) (st' := [.ref 131, .ref 131]) rfl ?_
      refine xegf2 rfl xsh131 (by decide) rfl ?_
      refine xeb 1 (pc' := 32) (ls' := [.ref 131, .int v1]) (st' := [.ref 131, .ref 149, .ref 131]) rfl ?_
      refine xegf0 rfl xsh131 (by decide) ?_
      obtain ⟨b2, h⟩ := xck_some h
      refine xeia rfl xsh149 b2 ?_
      refine xepf0 rfl xsh131 (by decide) ?_
      obtain ⟨I3, hI3, h⟩ := xst_some h
      rw [← hI3]
      obtain rfl := Option.some.inj h
      exact xevret rfl
    · rw [if_neg c1] at h
      refine xei_ge_f rfl c1 ?_
      refine xeb 1 (pc' := 9) (ls' := [.ref 131, .int v1]) (st' := [.ref 131]) rfl ?_
      refine xegf2 rfl xsh131 (by decide) rfl ?_
      refine xeb 2 (pc' := 14) (ls' := [.ref 131, .int v1]) (st' := [.ref 131, .int v1, .ref 163]) rfl ?_
      refine xegf2 rfl xsh131 (by decide) rfl ?_
      refine xeb 1 (pc' := 18) (ls' := [.ref 131, .int v1]) (st' := [.int v1, .ref 162, .int v1, .ref 163]) rfl ?_
      obtain ⟨b4, h⟩ := xck_some h
      refine xeia rfl xsh162 b4 ?_
      obtain ⟨b5, h⟩ := xck_some h
      refine xeis rfl xsh163 b5 ?_
      obtain ⟨I6, hI6, h⟩ := xst_some h
      rw [← hI6]
      refine xeb 2 (pc' := 2) (ls' := [.ref 131, .int (v1 + 1)]) (st' := []) rfl ?_
      exact ih (v1 + 1) I6 h
noncomputable def f_M_copies (F : Nat) (I : XI) : Option (XI) :=
  f_M_copies_2 F F 0 I
theorem g_M_copies {X : XX} {d : Nat} {L : XL} {F : Nat} {I : XI}  (r : XI) (h : f_M_copies F I = some r) : xEv X (d + 0) 123 0 [.ref 131, .null] [] I L none r L := by
  rw [f_M_copies] at h
  refine xeb 2 (pc' := 2) (ls' := [.ref 131, .int 0]) (st' := []) rfl ?_
  exact g_M_copies_2 F 0 I h
noncomputable def f_M_landAt (I : XI) (a1 : Int32) : Option (Int32) :=
  xck (xin ((30 * (I 131 18)) + a1) 60) (some (I 142 (xN ((30 * (I 131 18)) + a1))))
theorem g_M_landAt {X : XX} {d : Nat} {L : XL} {I : XI} {a1 : Int32}  (r : Int32) (h : f_M_landAt I a1 = some r) : xEv X (d + 0) 124 0 [.ref 131, .int a1] [] I L (some (.int r)) I L := by
  rw [f_M_landAt] at h
  refine xeb 1 (pc' := 1) (ls' := [.ref 131, .int a1]) (st' := [.ref 131]) rfl ?_
  refine xegf2 rfl xsh131 (by decide) rfl ?_
  refine xeb 2 (pc' := 7) (ls' := [.ref 131, .int a1]) (st' := [.ref 131, .int 30, .ref 142]) rfl ?_
  refine xegf0 rfl xsh131 (by decide) ?_
  refine xeb 3 (pc' := 13) (ls' := [.ref 131, .int a1]) (st' := [.int ((30 * (I 131 18)) + a1), .ref 142]) rfl ?_
  obtain ⟨b1, h⟩ := xck_some h
  refine xeia rfl xsh142 b1 ?_
  obtain rfl := Option.some.inj h
  exact xeiret rfl rfl
noncomputable def f_M_doesLie (I : XI) (a1 : Int32) : Option (Int32) :=
  xck (xin a1 33) (xck (xnarz (if (I 163 (xN a1)) ≤ 0 then 0 else 1)) (some (if (I 163 (xN a1)) ≤ 0 then 0 else 1)))
theorem g_M_doesLie {X : XX} {d : Nat} {L : XL} {I : XI} {a1 : Int32}  (r : Int32) (h : f_M_doesLie I a1 = some r) : xEv X (d + 0) 125 0 [.ref 131, .int a1] [] I L (some (.int r)) I L := by
  rw [f_M_doesLie] at h
  refine xeb 1 (pc' := 1) (ls' := [.ref 131, .int a1]) (st' := [.ref 131]) rfl ?_
  refine xegf2 rfl xsh131 (by decide) rfl ?_
  refine xeb 1 (pc' := 5) (ls' := [.ref 131, .int a1]) (st' := [.int a1, .ref 163]) rfl ?_
  obtain ⟨b1, h⟩ := xck_some h
  refine xeia rfl xsh163 b1 ?_
  have hj : xEv X (d + 0) 125 14 [.ref 131, .int a1] [.int (if (I 163 (xN a1)) ≤ 0 then 0 else 1)] I L (some (.int r)) I L := by
    obtain ⟨b3, h⟩ := xck_some h
    obtain rfl := Option.some.inj h
    exact xeiret rfl b3
  by_cases c2 : (I 163 (xN a1)) ≤ 0
  · simp only [if_pos c2] at hj
    refine xef_le_t rfl c2 ?_
    exact xeb 1 rfl hj
  · simp only [if_neg c2] at hj
    refine xef_le_f rfl c2 ?_
    exact xeb 2 rfl hj
noncomputable def f_M_overTo_47 (I : XI) (v3 : Int32) (s0 : Int32) (s1 : Int32) : Option (Int32) :=
  (f_M_isCell I v3 (s0 + s1)).bind fun q3 => some (if q3 = 0 then (-1) else ((6 * (s0 + s1)) + v3))
theorem g_M_overTo_47 {X : XX} {d : Nat} {L : XL} {I : XI}  {r : Int32}  {v3 : Int32} {s0 : Int32} {s1 : Int32} (h : f_M_overTo_47 I v3 s0 s1 = some r) (z1 : Value) (z2 : Value) (z4 : Value) : xEv X (d + 2) 126 47 [.ref 131, z1, z2, .int v3, z4] [.int s1, .int s0] I L (some (.int r)) I L := by
  rw [f_M_overTo_47] at h
  refine xeb 5 (pc' := 54) (ls' := [.ref 131, z1, z2, .int v3, .int (s0 + s1)]) (st' := [.int (s0 + s1), .int v3, .ref 131]) rfl ?_
  obtain ⟨q3, eq3, h⟩ := xbind_some h
  refine xcallV rfl xsh131 rfl rfl rfl (Nat.le_of_ble_eq_true rfl) (Nat.le_of_ble_eq_true rfl) (Nat.le_of_ble_eq_true rfl) rfl (g_M_isCell (d := d + 0) _ eq3) ?_
  have hj : xEv X (d + 2) 126 71 [.ref 131, z1, z2, .int v3, .int (s0 + s1)] [.int (if q3 = 0 then (-1) else ((6 * (s0 + s1)) + v3))] I L (some (.int r)) I L := by
    obtain rfl := Option.some.inj h
    exact xeiret rfl rfl
  by_cases c4 : q3 = 0
  · simp only [if_pos c4] at hj
    refine xef_eq_t rfl c4 ?_
    exact xeb 1 rfl hj
  · simp only [if_neg c4] at hj
    refine xef_eq_f rfl c4 ?_
    exact xeb 6 rfl hj
noncomputable def f_M_overTo_23 (I : XI) (v1 : Int32) (v2 : Int32) (s0 : Int32) (s1 : Int32) : Option (Int32) :=
  if v2 = 2 then (f_M_overTo_47 I (s0 + s1) (v1 / 6) 1) else (f_M_overTo_47 I (s0 + s1) (v1 / 6) (if v2 = 0 then (-1) else 0))
theorem g_M_overTo_23 {X : XX} {d : Nat} {L : XL} {I : XI}  {r : Int32}  {v1 : Int32} {v2 : Int32} {s0 : Int32} {s1 : Int32} (h : f_M_overTo_23 I v1 v2 s0 s1 = some r) (z3 : Value) (z4 : Value) : xEv X (d + 2) 126 23 [.ref 131, .int v1, .int v2, z3, z4] [.int s1, .int s0] I L (some (.int r)) I L := by
  rw [f_M_overTo_23] at h
  refine xeb 7 (pc' := 31) (ls' := [.ref 131, .int v1, .int v2, .int (s0 + s1), z4]) (st' := [.int 2, .int v2, .int (v1 / 6)]) rfl ?_
  by_cases c2 : v2 = 2
  · rw [if_pos c2] at h
    refine xei_ne_t rfl c2 ?_
    refine xeb 2 (pc' := 47) (ls' := [.ref 131, .int v1, .int v2, .int (s0 + s1), z4]) (st' := [.int 1, .int (v1 / 6)]) rfl ?_
    exact g_M_overTo_47 h _ _ _
  · rw [if_neg c2] at h
    refine xei_ne_f rfl c2 ?_
    refine xeb 1 (pc' := 39) (ls' := [.ref 131, .int v1, .int v2, .int (s0 + s1), z4]) (st' := [.int v2, .int (v1 / 6)]) rfl ?_
    have hj : xEv X (d + 2) 126 47 [.ref 131, .int v1, .int v2, .int (s0 + s1), z4] [.int (if v2 = 0 then (-1) else 0), .int (v1 / 6)] I L (some (.int r)) I L := by
      exact g_M_overTo_47 h _ _ _
    by_cases c5 : v2 = 0
    · simp only [if_pos c5] at hj
      refine xef_ne_t rfl c5 ?_
      exact xeb 2 rfl hj
    · simp only [if_neg c5] at hj
      refine xef_ne_f rfl c5 ?_
      exact xeb 1 rfl hj
noncomputable def f_M_overTo (I : XI) (a1 : Int32) (a2 : Int32) : Option (Int32) :=
  if a2 = 1 then (f_M_overTo_23 I a1 a2 (a1 - a1 / 6 * 6) 1) else (f_M_overTo_23 I a1 a2 (a1 - a1 / 6 * 6) (if a2 = 3 then (-1) else 0))
theorem g_M_overTo {X : XX} {d : Nat} {L : XL} {I : XI} {a1 : Int32} {a2 : Int32}  (r : Int32) (h : f_M_overTo I a1 a2 = some r) : xEv X (d + 2) 126 0 [.ref 131, .int a1, .int a2, .null, .null] [] I L (some (.int r)) I L := by
  rw [f_M_overTo] at h
  refine xeb 5 (pc' := 6) (ls' := [.ref 131, .int a1, .int a2, .null, .null]) (st' := [.int 1, .int a2, .int (a1 - a1 / 6 * 6)]) rfl ?_
  by_cases c1 : a2 = 1
  · rw [if_pos c1] at h
    refine xei_ne_t rfl c1 ?_
    refine xeb 2 (pc' := 23) (ls' := [.ref 131, .int a1, .int a2, .null, .null]) (st' := [.int 1, .int (a1 - a1 / 6 * 6)]) rfl ?_
    exact g_M_overTo_23 h _ _
  · rw [if_neg c1] at h
    refine xei_ne_f rfl c1 ?_
    refine xeb 2 (pc' := 15) (ls' := [.ref 131, .int a1, .int a2, .null, .null]) (st' := [.int 3, .int a2, .int (a1 - a1 / 6 * 6)]) rfl ?_
    have hj : xEv X (d + 2) 126 23 [.ref 131, .int a1, .int a2, .null, .null] [.int (if a2 = 3 then (-1) else 0), .int (a1 - a1 / 6 * 6)] I L (some (.int r)) I L := by
      exact g_M_overTo_23 h _ _
    by_cases c6 : a2 = 3
    · simp only [if_pos c6] at hj
      refine xei_ne_t rfl c6 ?_
      exact xeb 2 rfl hj
    · simp only [if_neg c6] at hj
      refine xei_ne_f rfl c6 ?_
      exact xeb 1 rfl hj
noncomputable def f_M_isHole (I : XI) (a1 : Int32) : Option (Int32) :=
  (f_M_landAt I a1).bind fun q1 => xck (xnarz (if q1 = 9 then 1 else 0)) (some (if q1 = 9 then 1 else 0))
theorem g_M_isHole {X : XX} {d : Nat} {L : XL} {I : XI} {a1 : Int32}  (r : Int32) (h : f_M_isHole I a1 = some r) : xEv X (d + 1) 127 0 [.ref 131, .int a1] [] I L (some (.int r)) I L := by
  rw [f_M_isHole] at h
  refine xeb 2 (pc' := 2) (ls' := [.ref 131, .int a1]) (st' := [.int a1, .ref 131]) rfl ?_
  obtain ⟨q1, eq1, h⟩ := xbind_some h
  refine xcallV rfl xsh131 rfl rfl rfl (Nat.le_of_ble_eq_true rfl) (Nat.le_of_ble_eq_true rfl) (Nat.le_of_ble_eq_true rfl) rfl (g_M_landAt (d := d + 0) _ eq1) ?_
  refine xeb 1 (pc' := 7) (ls' := [.ref 131, .int a1]) (st' := [.int 9, .int q1]) rfl ?_
  have hj : xEv X (d + 1) 127 15 [.ref 131, .int a1] [.int (if q1 = 9 then 1 else 0)] I L (some (.int r)) I L := by
    obtain ⟨b3, h⟩ := xck_some h
    obtain rfl := Option.some.inj h
    exact xeiret rfl b3
  by_cases c2 : q1 = 9
  · simp only [if_pos c2] at hj
    refine xei_ne_t rfl c2 ?_
    exact xeb 2 rfl hj
  · simp only [if_neg c2] at hj
    refine xei_ne_f rfl c2 ?_
    exact xeb 1 rfl hj
noncomputable def f_M_turned (I : XI) (a1 : Int32) (a2 : Int32) (a3 : Int32) : Option (Int32) :=
  xck (xin ((4 * ((5 * (I 131 18)) + a1)) + (((a3 + 4) - a2) - ((a3 + 4) - a2) / 4 * 4)) 40) (some (I 147 (xN ((4 * ((5 * (I 131 18)) + a1)) + (((a3 + 4) - a2) - ((a3 + 4) - a2) / 4 * 4)))))
theorem g_M_turned {X : XX} {d : Nat} {L : XL} {I : XI} {a1 : Int32} {a2 : Int32} {a3 : Int32}  (r : Int32) (h : f_M_turned I a1 a2 a3 = some r) : xEv X (d + 0) 128 0 [.ref 131, .int a1, .int a2, .int a3] [] I L (some (.int r)) I L := by
  rw [f_M_turned] at h
  refine xeb 1 (pc' := 1) (ls' := [.ref 131, .int a1, .int a2, .int a3]) (st' := [.ref 131]) rfl ?_
  refine xegf2 rfl xsh131 (by decide) rfl ?_
  refine xeb 3 (pc' := 7) (ls' := [.ref 131, .int a1, .int a2, .int a3]) (st' := [.ref 131, .int 5, .int 4, .ref 147]) rfl ?_
  refine xegf0 rfl xsh131 (by decide) ?_
  refine xeb 12 (pc' := 22) (ls' := [.ref 131, .int a1, .int a2, .int a3]) (st' := [.int ((4 * ((5 * (I 131 18)) + a1)) + (((a3 + 4) - a2) - ((a3 + 4) - a2) / 4 * 4)), .ref 147]) rfl ?_
  obtain ⟨b1, h⟩ := xck_some h
  refine xeia rfl xsh147 b1 ?_
  obtain rfl := Option.some.inj h
  exact xeiret rfl rfl
