/-! the methods as functions, and that a run answers so (by gen6.py) -/
noncomputable def f_M_canLay (F : Nat) (I : XI) (a1 : Int32) : Option (Int32) :=
  (f_M_isHole I a1).bind fun q1 => if q1 = 0 then ((f_M_doesLie I a1).bind fun q3 => if q3 = 0 then ((f_M_clashBits F I a1).bind fun q5 => xck (xnarz (if q5 = 0 then 1 else 0)) (some (if q5 = 0 then 1 else 0))) else (some 0)) else (some 0)
theorem g_M_canLay {X : XX} {d : Nat} {L : XL} {F : Nat} {I : XI} {a1 : Int32}  (r : Int32) (h : f_M_canLay F I a1 = some r) : xEv X (d + 5) 173 0 [.ref 131, .int a1] [] I L (some (.int r)) I L := by
  rw [f_M_canLay] at h
  refine xeb 2 (pc' := 2) (ls' := [.ref 131, .int a1]) (st' := [.int a1, .ref 131]) rfl ?_
  obtain ⟨q1, eq1, h⟩ := xbind_some h
  refine xcallV rfl xsh131 rfl rfl rfl (Nat.le_of_ble_eq_true rfl) (Nat.le_of_ble_eq_true rfl) (Nat.le_of_ble_eq_true rfl) rfl (g_M_isHole (d := d + 3) _ eq1) ?_
  by_cases c2 : q1 = 0
  · rw [if_pos c2] at h
    refine xef_ne_t rfl c2 ?_
    refine xeb 2 (pc' := 10) (ls' := [.ref 131, .int a1]) (st' := [.int a1, .ref 131]) rfl ?_
    obtain ⟨q3, eq3, h⟩ := xbind_some h
    refine xcallV rfl xsh131 rfl rfl rfl (Nat.le_of_ble_eq_true rfl) (Nat.le_of_ble_eq_true rfl) (Nat.le_of_ble_eq_true rfl) rfl (g_M_doesLie (d := d + 4) _ eq3) ?_
    by_cases c4 : q3 = 0
    · rw [if_pos c4] at h
      refine xef_ne_t rfl c4 ?_
      refine xeb 2 (pc' := 18) (ls' := [.ref 131, .int a1]) (st' := [.int a1, .ref 131]) rfl ?_
      obtain ⟨q5, eq5, h⟩ := xbind_some h
      refine xcallV rfl xsh131 rfl rfl rfl (Nat.le_of_ble_eq_true rfl) (Nat.le_of_ble_eq_true rfl) (Nat.le_of_ble_eq_true rfl) rfl (g_M_clashBits (d := d + 0) _ eq5) ?_
      have hj : xEv X (d + 5) 173 29 [.ref 131, .int a1] [.int (if q5 = 0 then 1 else 0)] I L (some (.int r)) I L := by
        obtain ⟨b7, h⟩ := xck_some h
        obtain rfl := Option.some.inj h
        exact xeiret rfl b7
      by_cases c6 : q5 = 0
      · simp only [if_pos c6] at hj
        refine xef_ne_t rfl c6 ?_
        exact xeb 2 rfl hj
      · simp only [if_neg c6] at hj
        refine xef_ne_f rfl c6 ?_
        exact xeb 1 rfl hj
    · rw [if_neg c4] at h
      refine xef_ne_f rfl c4 ?_
      refine xeb 1 (pc' := 29) (ls' := [.ref 131, .int a1]) (st' := [.int 0]) rfl ?_
      obtain rfl := Option.some.inj h
      exact xeiret rfl rfl
  · rw [if_neg c2] at h
    refine xef_ne_f rfl c2 ?_
    refine xeb 1 (pc' := 29) (ls' := [.ref 131, .int a1]) (st' := [.int 0]) rfl ?_
    obtain rfl := Option.some.inj h
    exact xeiret rfl rfl
noncomputable def f_M_records_11 (F : Nat) (k51 : Int32 → XI → Option (XI)) : Nat → Int32 → XI → Option (XI)
  | 0, _, _ => none
  | n + 1, v1, I =>
    if 1287 ≤ v1 then (xst (xput I 131 54 ((I 131 54) - 1)) fun I3 => k51 0 I3) else (xck (xin (v1 + 33) 1320) (xck (xin v1 1320) (xst (xput I 166 (xN v1) (I 166 (xN (v1 + 33)))) fun I6 => f_M_records_11 F k51 n (v1 + 1) I6)))
theorem g_M_records_11 {X : XX} {d : Nat} {L : XL} {F : Nat} {k51 : Int32 → XI → Option (XI)}  {r : XI} (hk51 : ∀ (v1 : Int32) (I : XI), k51 v1 I = some r → xEv X (d + 1) 174 51 [.ref 131, .int v1] [] I L none r L) : ∀ (n : Nat) (v1 : Int32) (I : XI), f_M_records_11 F k51 n v1 I = some r → xEv X (d + 1) 174 11 [.ref 131, .int v1] [] I L none r L := by
  intro n
  induction n with
  | zero => intro v1 I h; rw [f_M_records_11] at h; cases h
  | succ n ih =>
    intro v1 I h 
    rw [f_M_records_11] at h
    refine xeb 2 (pc' := 15) (ls' := [.ref 131, .int v1]) (st' := [.int 1287, .int v1]) rfl ?_
    by_cases c2 : 1287 ≤ v1
    · rw [if_pos c2] at h
      refine xei_ge_t rfl c2 ?_
      refine xeb 2 (pc' := 41) (ls' := [.ref 131, .int v1]) (st' := [.ref 131, .ref 131]) rfl ?_
      refine xegf0 rfl xsh131 (by decide) ?_
      refine xeb 2 (pc' := 46) (ls' := [.ref 131, .int v1]) (st' := [.int ((I 131 54) - 1), .ref 131]) rfl ?_
      refine xepf0 rfl xsh131 (by decide) ?_
      obtain ⟨I3, hI3, h⟩ := xst_some h
      rw [← hI3]
      refine xeb 2 (pc' := 51) (ls' := [.ref 131, .int 0]) (st' := []) rfl ?_
      exact hk51 0 I3 h
    · rw [if_neg c2] at h
      refine xei_ge_f rfl c2 ?_
      refine xeb 1 (pc' := 19) (ls' := [.ref 131, .int v1]) (st' := [.ref 131]) rfl ?_
      refine xegf2 rfl xsh131 (by decide) rfl ?_
      refine xeb 2 (pc' := 24) (ls' := [.ref 131, .int v1]) (st' := [.ref 131, .int v1, .ref 166]) rfl ?_
      refine xegf2 rfl xsh131 (by decide) rfl ?_
      refine xeb 3 (pc' := 31) (ls' := [.ref 131, .int v1]) (st' := [.int (v1 + 33), .ref 166, .int v1, .ref 166]) rfl ?_
      obtain ⟨b4, h⟩ := xck_some h
      refine xeia rfl xsh166 b4 ?_
      obtain ⟨b5, h⟩ := xck_some h
      refine xeis rfl xsh166 b5 ?_
      obtain ⟨I6, hI6, h⟩ := xst_some h
      rw [← hI6]
      refine xeb 2 (pc' := 11) (ls' := [.ref 131, .int (v1 + 1)]) (st' := []) rfl ?_
      exact ih (v1 + 1) I6 h
noncomputable def f_M_records_51 (F : Nat) : Nat → Int32 → XI → Option (XI)
  | 0, _, _ => none
  | n + 1, v1, I =>
    if 33 ≤ v1 then (xst (xput I 131 54 ((I 131 54) + 1)) fun I8 => (f_M_keepsRow F I8).bind fun q9 => some q9) else (xck (xin v1 33) (xck (xin ((33 * (I 131 54)) + v1) 1320) (xst (xput I 166 (xN ((33 * (I 131 54)) + v1)) (I 162 (xN v1))) fun I12 => f_M_records_51 F n (v1 + 1) I12)))
theorem g_M_records_51 {X : XX} {d : Nat} {L : XL} {F : Nat}  {r : XI}  : ∀ (n : Nat) (v1 : Int32) (I : XI), f_M_records_51 F n v1 I = some r → xEv X (d + 1) 174 51 [.ref 131, .int v1] [] I L none r L := by
  intro n
  induction n with
  | zero => intro v1 I h; rw [f_M_records_51] at h; cases h
  | succ n ih =>
    intro v1 I h 
    rw [f_M_records_51] at h
    refine xeb 2 (pc' := 54) (ls' := [.ref 131, .int v1]) (st' := [.int 33, .int v1]) rfl ?_
    by_cases c7 : 33 ≤ v1
    · rw [if_pos c7] at h
      refine xei_ge_t rfl c7 ?_
      refine xeb 2 (pc' := 85) (ls' := [.ref 131, .int v1]) (st' := [.ref 131, .ref 131]) rfl ?_
      refine xegf0 rfl xsh131 (by decide) ?_
      refine xeb 2 (pc' := 90) (ls' := [.ref 131, .int v1]) (st' := [.int ((I 131 54) + 1), .ref 131]) rfl ?_
      refine xepf0 rfl xsh131 (by decide) ?_
      obtain ⟨I8, hI8, h⟩ := xst_some h
      rw [← hI8]
      refine xeb 1 (pc' := 94) (ls' := [.ref 131, .int v1]) (st' := [.ref 131]) rfl ?_
      obtain ⟨q9, eq9, h⟩ := xbind_some h
      refine xcallV rfl xsh131 rfl rfl rfl (Nat.le_of_ble_eq_true rfl) (Nat.le_of_ble_eq_true rfl) (Nat.le_of_ble_eq_true rfl) rfl (g_M_keepsRow (d := d + 0) _ eq9) ?_
      obtain rfl := Option.some.inj h
      exact xevret rfl
    · rw [if_neg c7] at h
      refine xei_ge_f rfl c7 ?_
      refine xeb 1 (pc' := 58) (ls' := [.ref 131, .int v1]) (st' := [.ref 131]) rfl ?_
      refine xegf2 rfl xsh131 (by decide) rfl ?_
      refine xeb 2 (pc' := 64) (ls' := [.ref 131, .int v1]) (st' := [.ref 131, .int 33, .ref 166]) rfl ?_
      refine xegf0 rfl xsh131 (by decide) ?_
      refine xeb 4 (pc' := 71) (ls' := [.ref 131, .int v1]) (st' := [.ref 131, .int ((33 * (I 131 54)) + v1), .ref 166]) rfl ?_
      refine xegf2 rfl xsh131 (by decide) rfl ?_
      refine xeb 1 (pc' := 75) (ls' := [.ref 131, .int v1]) (st' := [.int v1, .ref 162, .int ((33 * (I 131 54)) + v1), .ref 166]) rfl ?_
      obtain ⟨b10, h⟩ := xck_some h
      refine xeia rfl xsh162 b10 ?_
      obtain ⟨b11, h⟩ := xck_some h
      refine xeis rfl xsh166 b11 ?_
      obtain ⟨I12, hI12, h⟩ := xst_some h
      rw [← hI12]
      refine xeb 2 (pc' := 51) (ls' := [.ref 131, .int (v1 + 1)]) (st' := []) rfl ?_
      exact ih (v1 + 1) I12 h
noncomputable def f_M_records (F : Nat) (I : XI) : Option (XI) :=
  if (I 131 54) = 40 then (f_M_records_11 F (fun v1 I => f_M_records_51 F F v1 I) F 0 I) else (f_M_records_51 F F 0 I)
theorem g_M_records {X : XX} {d : Nat} {L : XL} {F : Nat} {I : XI}  (r : XI) (h : f_M_records F I = some r) : xEv X (d + 1) 174 0 [.ref 131, .null] [] I L none r L := by
  rw [f_M_records] at h
  refine xeb 1 (pc' := 1) (ls' := [.ref 131, .null]) (st' := [.ref 131]) rfl ?_
  refine xegf0 rfl xsh131 (by decide) ?_
  refine xeb 1 (pc' := 6) (ls' := [.ref 131, .null]) (st' := [.int 40, .int (I 131 54)]) rfl ?_
  by_cases c1 : (I 131 54) = 40
  · rw [if_pos c1] at h
    refine xei_ne_t rfl c1 ?_
    refine xeb 2 (pc' := 11) (ls' := [.ref 131, .int 0]) (st' := []) rfl ?_
    exact g_M_records_11 (fun v1 I h' => g_M_records_51 F v1 I h') F 0 I h
  · rw [if_neg c1] at h
    refine xei_ne_f rfl c1 ?_
    refine xeb 2 (pc' := 51) (ls' := [.ref 131, .int 0]) (st' := []) rfl ?_
    exact g_M_records_51 F 0 I h
noncomputable def f_M_lay (F : Nat) (a1 : Int32) (a2 : Int32) (I : XI) : Option (Int32 × XI) :=
  (f_M_isCell I a1 a2).bind fun q1 => if q1 = 0 then (some (0, I)) else ((f_M_copies F I).bind fun q3 => (f_M_isWet F q3).bind fun q4 => if q4.1 = 0 then (some (0, q4.2)) else ((f_M_canLay F q4.2 ((6 * a2) + a1)).bind fun q6 => if q6 = 0 then (some (0, q4.2)) else (xck (xin ((6 * a2) + a1) 33) (xst (xput q4.2 163 (xN ((6 * a2) + a1)) 1) fun I9 => (f_M_records F I9).bind fun q10 => some (1, q10)))))
theorem g_M_lay {X : XX} {d : Nat} {L : XL} {F : Nat} {a1 : Int32} {a2 : Int32} {I : XI}  (r : Int32 × XI) (h : f_M_lay F a1 a2 I = some r) : xEv X (d + 6) 175 0 [.ref 131, .int a1, .int a2] [] I L (some (.int r.1)) r.2 L := by
  rw [f_M_lay] at h
  refine xeb 3 (pc' := 3) (ls' := [.ref 131, .int a1, .int a2]) (st' := [.int a2, .int a1, .ref 131]) rfl ?_
  obtain ⟨q1, eq1, h⟩ := xbind_some h
  refine xcallV rfl xsh131 rfl rfl rfl (Nat.le_of_ble_eq_true rfl) (Nat.le_of_ble_eq_true rfl) (Nat.le_of_ble_eq_true rfl) rfl (g_M_isCell (d := d + 4) _ eq1) ?_
  by_cases c2 : q1 = 0
  · rw [if_pos c2] at h
    refine xef_ne_t rfl c2 ?_
    refine xeb 1 (pc' := 10) (ls' := [.ref 131, .int a1, .int a2]) (st' := [.int 0]) rfl ?_
    obtain rfl := Option.some.inj h
    exact xeiret rfl rfl
  · rw [if_neg c2] at h
    refine xef_ne_f rfl c2 ?_
    refine xeb 1 (pc' := 12) (ls' := [.ref 131, .int a1, .int a2]) (st' := [.ref 131]) rfl ?_
    obtain ⟨q3, eq3, h⟩ := xbind_some h
    refine xcallV rfl xsh131 rfl rfl rfl (Nat.le_of_ble_eq_true rfl) (Nat.le_of_ble_eq_true rfl) (Nat.le_of_ble_eq_true rfl) rfl (g_M_copies (d := d + 5) _ eq3) ?_
    refine xeb 1 (pc' := 16) (ls' := [.ref 131, .int a1, .int a2]) (st' := [.ref 131]) rfl ?_
    obtain ⟨q4, eq4, h⟩ := xbind_some h
    refine xcallV rfl xsh131 rfl rfl rfl (Nat.le_of_ble_eq_true rfl) (Nat.le_of_ble_eq_true rfl) (Nat.le_of_ble_eq_true rfl) rfl (g_M_isWet (d := d + 3) _ eq4) ?_
    by_cases c5 : q4.1 = 0
    · rw [if_pos c5] at h
      refine xef_eq_t rfl c5 ?_
      refine xeb 1 (pc' := 36) (ls' := [.ref 131, .int a1, .int a2]) (st' := [.int 0]) rfl ?_
      obtain rfl := Option.some.inj h
      exact xeiret rfl rfl
    · rw [if_neg c5] at h
      refine xef_eq_f rfl c5 ?_
      refine xeb 6 (pc' := 29) (ls' := [.ref 131, .int a1, .int a2]) (st' := [.int ((6 * a2) + a1), .ref 131]) rfl ?_
      obtain ⟨q6, eq6, h⟩ := xbind_some h
      refine xcallV rfl xsh131 rfl rfl rfl (Nat.le_of_ble_eq_true rfl) (Nat.le_of_ble_eq_true rfl) (Nat.le_of_ble_eq_true rfl) rfl (g_M_canLay (d := d + 0) _ eq6) ?_
      by_cases c7 : q6 = 0
      · rw [if_pos c7] at h
        refine xef_ne_t rfl c7 ?_
        refine xeb 1 (pc' := 36) (ls' := [.ref 131, .int a1, .int a2]) (st' := [.int 0]) rfl ?_
        obtain rfl := Option.some.inj h
        exact xeiret rfl rfl
      · rw [if_neg c7] at h
        refine xef_ne_f rfl c7 ?_
        refine xeb 1 (pc' := 38) (ls' := [.ref 131, .int a1, .int a2]) (st' := [.ref 131]) rfl ?_
        refine xegf2 rfl xsh131 (by decide) rfl ?_
        refine xeb 6 (pc' := 48) (ls' := [.ref 131, .int a1, .int a2]) (st' := [.int 1, .int ((6 * a2) + a1), .ref 163]) rfl ?_
        obtain ⟨b8, h⟩ := xck_some h
        refine xeis rfl xsh163 b8 ?_
        obtain ⟨I9, hI9, h⟩ := xst_some h
        rw [← hI9]
        refine xeb 1 (pc' := 50) (ls' := [.ref 131, .int a1, .int a2]) (st' := [.ref 131]) rfl ?_
        obtain ⟨q10, eq10, h⟩ := xbind_some h
        refine xcallV rfl xsh131 rfl rfl rfl (Nat.le_of_ble_eq_true rfl) (Nat.le_of_ble_eq_true rfl) (Nat.le_of_ble_eq_true rfl) rfl (g_M_records (d := d + 4) _ eq10) ?_
        refine xeb 1 (pc' := 54) (ls' := [.ref 131, .int a1, .int a2]) (st' := [.int 1]) rfl ?_
        obtain rfl := Option.some.inj h
        exact xeiret rfl rfl
noncomputable def f_H_take (F : Nat) (a1 : Int32) (a2 : Int32) (I : XI) : Option (Int32 × XI) :=
  (f_Table_cellAt 17 I a1 a2).bind fun q1 => if q1 = (-1) then (some (0, I)) else ((f_State_lies 26 I q1).bind fun q3 => if q3 = 0 then (some (0, I)) else ((f_Rules_isWet F (I 26 1) I).bind fun q5 => if q5.1 = 0 then (some (0, q5.2)) else ((f_Past_keep 26 q5.2).bind fun q7 => xck (xin q1 30) (xst (xput q7 27 (xN q1) (-2)) fun I9 => some (1, I9)))))
theorem g_H_take {X : XX} {d : Nat} {L : XL} {F : Nat} {a1 : Int32} {a2 : Int32} {I : XI}  (r : Int32 × XI) (h : f_H_take F a1 a2 I = some r) : xEv X (d + 3) 176 0 [.ref 0, .int a1, .int a2, .null] [] I L (some (.int r.1)) r.2 L := by
  rw [f_H_take] at h
  refine xeb 1 (pc' := 1) (ls' := [.ref 0, .int a1, .int a2, .null]) (st' := [.ref 0]) rfl ?_
  refine xegf2 rfl xsh0 (by decide) rfl ?_
  refine xeb 2 (pc' := 6) (ls' := [.ref 0, .int a1, .int a2, .null]) (st' := [.int a2, .int a1, .ref 17]) rfl ?_
  obtain ⟨q1, eq1, h⟩ := xbind_some h
  refine xcallV rfl xsh17 rfl rfl rfl (Nat.le_of_ble_eq_true rfl) (Nat.le_of_ble_eq_true rfl) (Nat.le_of_ble_eq_true rfl) rfl (g_Table_cellAt (d := d + 2) xis17 _ eq1) ?_
  refine xeb 3 (pc' := 12) (ls' := [.ref 0, .int a1, .int a2, .int q1]) (st' := [.int (-1), .int q1]) rfl ?_
  by_cases c2 : q1 = (-1)
  · rw [if_pos c2] at h
    refine xei_eq_t rfl c2 ?_
    refine xeb 1 (pc' := 44) (ls' := [.ref 0, .int a1, .int a2, .int q1]) (st' := [.int 0]) rfl ?_
    obtain rfl := Option.some.inj h
    exact xeiret rfl rfl
  · rw [if_neg c2] at h
    refine xei_eq_f rfl c2 ?_
    refine xeb 1 (pc' := 16) (ls' := [.ref 0, .int a1, .int a2, .int q1]) (st' := [.ref 0]) rfl ?_
    refine xegf2 rfl xsh0 (by decide) rfl ?_
    refine xeb 1 (pc' := 20) (ls' := [.ref 0, .int a1, .int a2, .int q1]) (st' := [.int q1, .ref 26]) rfl ?_
    obtain ⟨q3, eq3, h⟩ := xbind_some h
    refine xcallV rfl xsh26 rfl rfl rfl (Nat.le_of_ble_eq_true rfl) (Nat.le_of_ble_eq_true rfl) (Nat.le_of_ble_eq_true rfl) rfl (g_State_lies (d := d + 2) xis26 _ eq3) ?_
    by_cases c4 : q3 = 0
    · rw [if_pos c4] at h
      refine xef_eq_t rfl c4 ?_
      refine xeb 1 (pc' := 44) (ls' := [.ref 0, .int a1, .int a2, .int q1]) (st' := [.int 0]) rfl ?_
      obtain rfl := Option.some.inj h
      exact xeiret rfl rfl
    · rw [if_neg c4] at h
      refine xef_eq_f rfl c4 ?_
      refine xeb 1 (pc' := 27) (ls' := [.ref 0, .int a1, .int a2, .int q1]) (st' := [.ref 0]) rfl ?_
      refine xegf2 rfl xsh0 (by decide) rfl ?_
      refine xeb 1 (pc' := 31) (ls' := [.ref 0, .int a1, .int a2, .int q1]) (st' := [.ref 0, .ref 32]) rfl ?_
      refine xegf2 rfl xsh0 (by decide) rfl ?_
      refine xegf10 rfl xsh26 (by decide) ?_
      obtain ⟨q5, eq5, h⟩ := xbind_some h
      refine xcallV rfl xsh32 rfl rfl rfl (Nat.le_of_ble_eq_true rfl) (Nat.le_of_ble_eq_true rfl) (Nat.le_of_ble_eq_true rfl) rfl (g_Rules_isWet (d := d + 0) _ eq5) ?_
      by_cases c6 : q5.1 = 0
      · rw [if_pos c6] at h
        refine xef_ne_t rfl c6 ?_
        refine xeb 1 (pc' := 44) (ls' := [.ref 0, .int a1, .int a2, .int q1]) (st' := [.int 0]) rfl ?_
        obtain rfl := Option.some.inj h
        exact xeiret rfl rfl
      · rw [if_neg c6] at h
        refine xef_ne_f rfl c6 ?_
        refine xeb 1 (pc' := 46) (ls' := [.ref 0, .int a1, .int a2, .int q1]) (st' := [.ref 0]) rfl ?_
        refine xegf2 rfl xsh0 (by decide) rfl ?_
        refine xeb 1 (pc' := 50) (ls' := [.ref 0, .int a1, .int a2, .int q1]) (st' := [.ref 0, .ref 38]) rfl ?_
        refine xegf2 rfl xsh0 (by decide) rfl ?_
        obtain ⟨q7, eq7, h⟩ := xbind_some h
        refine xcallV rfl xsh38 rfl rfl rfl (Nat.le_of_ble_eq_true rfl) (Nat.le_of_ble_eq_true rfl) (Nat.le_of_ble_eq_true rfl) rfl (g_Past_keep (d := d + 1) xis26 _ eq7) ?_
        refine xeb 1 (pc' := 57) (ls' := [.ref 0, .int a1, .int a2, .int q1]) (st' := [.ref 0]) rfl ?_
        refine xegf2 rfl xsh0 (by decide) rfl ?_
        refine xegf12 rfl xsh26 (by decide) rfl ?_
        refine xeb 2 (pc' := 66) (ls' := [.ref 0, .int a1, .int a2, .int q1]) (st' := [.int (-2), .int q1, .ref 27]) rfl ?_
        obtain ⟨b8, h⟩ := xck_some h
        refine xeis rfl xsh27 b8 ?_
        obtain ⟨I9, hI9, h⟩ := xst_some h
        rw [← hI9]
        refine xeb 1 (pc' := 68) (ls' := [.ref 0, .int a1, .int a2, .int q1]) (st' := [.int 1]) rfl ?_
        obtain rfl := Option.some.inj h
        exact xeiret rfl rfl
noncomputable def f_M_take (F : Nat) (a1 : Int32) (a2 : Int32) (I : XI) : Option (Int32 × XI) :=
  (f_M_isCell I a1 a2).bind fun q1 => if q1 = 0 then (some (0, I)) else ((f_M_copies F I).bind fun q3 => (f_M_isWet F q3).bind fun q4 => if q4.1 = 0 then (some (0, q4.2)) else ((f_M_doesLie q4.2 ((6 * a2) + a1)).bind fun q6 => if q6 = 0 then (some (0, q4.2)) else (xck (xin ((6 * a2) + a1) 33) (xst (xput q4.2 163 (xN ((6 * a2) + a1)) 0) fun I9 => (f_M_records F I9).bind fun q10 => some (1, q10)))))
theorem g_M_take {X : XX} {d : Nat} {L : XL} {F : Nat} {a1 : Int32} {a2 : Int32} {I : XI}  (r : Int32 × XI) (h : f_M_take F a1 a2 I = some r) : xEv X (d + 3) 177 0 [.ref 131, .int a1, .int a2] [] I L (some (.int r.1)) r.2 L := by
  rw [f_M_take] at h
  refine xeb 3 (pc' := 3) (ls' := [.ref 131, .int a1, .int a2]) (st' := [.int a2, .int a1, .ref 131]) rfl ?_
  obtain ⟨q1, eq1, h⟩ := xbind_some h
  refine xcallV rfl xsh131 rfl rfl rfl (Nat.le_of_ble_eq_true rfl) (Nat.le_of_ble_eq_true rfl) (Nat.le_of_ble_eq_true rfl) rfl (g_M_isCell (d := d + 1) _ eq1) ?_
  by_cases c2 : q1 = 0
  · rw [if_pos c2] at h
    refine xef_ne_t rfl c2 ?_
    refine xeb 1 (pc' := 10) (ls' := [.ref 131, .int a1, .int a2]) (st' := [.int 0]) rfl ?_
    obtain rfl := Option.some.inj h
    exact xeiret rfl rfl
  · rw [if_neg c2] at h
    refine xef_ne_f rfl c2 ?_
    refine xeb 1 (pc' := 12) (ls' := [.ref 131, .int a1, .int a2]) (st' := [.ref 131]) rfl ?_
    obtain ⟨q3, eq3, h⟩ := xbind_some h
    refine xcallV rfl xsh131 rfl rfl rfl (Nat.le_of_ble_eq_true rfl) (Nat.le_of_ble_eq_true rfl) (Nat.le_of_ble_eq_true rfl) rfl (g_M_copies (d := d + 2) _ eq3) ?_
    refine xeb 1 (pc' := 16) (ls' := [.ref 131, .int a1, .int a2]) (st' := [.ref 131]) rfl ?_
    obtain ⟨q4, eq4, h⟩ := xbind_some h
    refine xcallV rfl xsh131 rfl rfl rfl (Nat.le_of_ble_eq_true rfl) (Nat.le_of_ble_eq_true rfl) (Nat.le_of_ble_eq_true rfl) rfl (g_M_isWet (d := d + 0) _ eq4) ?_
    by_cases c5 : q4.1 = 0
    · rw [if_pos c5] at h
      refine xef_eq_t rfl c5 ?_
      refine xeb 1 (pc' := 36) (ls' := [.ref 131, .int a1, .int a2]) (st' := [.int 0]) rfl ?_
      obtain rfl := Option.some.inj h
      exact xeiret rfl rfl
    · rw [if_neg c5] at h
      refine xef_eq_f rfl c5 ?_
      refine xeb 6 (pc' := 29) (ls' := [.ref 131, .int a1, .int a2]) (st' := [.int ((6 * a2) + a1), .ref 131]) rfl ?_
      obtain ⟨q6, eq6, h⟩ := xbind_some h
      refine xcallV rfl xsh131 rfl rfl rfl (Nat.le_of_ble_eq_true rfl) (Nat.le_of_ble_eq_true rfl) (Nat.le_of_ble_eq_true rfl) rfl (g_M_doesLie (d := d + 2) _ eq6) ?_
      by_cases c7 : q6 = 0
      · rw [if_pos c7] at h
        refine xef_ne_t rfl c7 ?_
        refine xeb 1 (pc' := 36) (ls' := [.ref 131, .int a1, .int a2]) (st' := [.int 0]) rfl ?_
        obtain rfl := Option.some.inj h
        exact xeiret rfl rfl
      · rw [if_neg c7] at h
        refine xef_ne_f rfl c7 ?_
        refine xeb 1 (pc' := 38) (ls' := [.ref 131, .int a1, .int a2]) (st' := [.ref 131]) rfl ?_
        refine xegf2 rfl xsh131 (by decide) rfl ?_
        refine xeb 6 (pc' := 48) (ls' := [.ref 131, .int a1, .int a2]) (st' := [.int 0, .int ((6 * a2) + a1), .ref 163]) rfl ?_
        obtain ⟨b8, h⟩ := xck_some h
        refine xeis rfl xsh163 b8 ?_
        obtain ⟨I9, hI9, h⟩ := xst_some h
        rw [← hI9]
        refine xeb 1 (pc' := 50) (ls' := [.ref 131, .int a1, .int a2]) (st' := [.ref 131]) rfl ?_
        obtain ⟨q10, eq10, h⟩ := xbind_some h
        refine xcallV rfl xsh131 rfl rfl rfl (Nat.le_of_ble_eq_true rfl) (Nat.le_of_ble_eq_true rfl) (Nat.le_of_ble_eq_true rfl) rfl (g_M_records (d := d + 1) _ eq10) ?_
        refine xeb 1 (pc' := 54) (ls' := [.ref 131, .int a1, .int a2]) (st' := [.int 1]) rfl ?_
        obtain rfl := Option.some.inj h
        exact xeiret rfl rfl
noncomputable def f_Table_holeAt (S0 : Nat) (I : XI) (a1 : Int32) (a2 : Int32) : Option (Int32) :=
  (f_Table_cellAt S0 I a1 a2).bind fun q1 => if q1 = (-1) then (some (-1)) else (xck (xin q1 30) (some (if (I (S0 + 1) (xN q1)) = 9 then q1 else (-1))))
theorem g_Table_holeAt {X : XX} {d : Nat} {L : XL} {S0 : Nat} {I : XI} {a1 : Int32} {a2 : Int32} (hS0 : xisTb S0) (r : Int32) (h : f_Table_holeAt S0 I a1 a2 = some r) : xEv X (d + 1) 178 0 [.ref S0, .int a1, .int a2, .null] [] I L (some (.int r)) I L := by
  rw [f_Table_holeAt] at h
  refine xeb 3 (pc' := 3) (ls' := [.ref S0, .int a1, .int a2, .null]) (st' := [.int a2, .int a1, .ref S0]) rfl ?_
  obtain ⟨q1, eq1, h⟩ := xbind_some h
  refine xcallV rfl hS0.1 rfl rfl rfl (Nat.le_of_ble_eq_true rfl) (Nat.le_of_ble_eq_true rfl) (Nat.le_of_ble_eq_true rfl) rfl (g_Table_cellAt (d := d + 0) hS0 _ eq1) ?_
  refine xeb 3 (pc' := 9) (ls' := [.ref S0, .int a1, .int a2, .int q1]) (st' := [.int (-1), .int q1]) rfl ?_
  by_cases c2 : q1 = (-1)
  · rw [if_pos c2] at h
    refine xei_eq_t rfl c2 ?_
    refine xeb 1 (pc' := 28) (ls' := [.ref S0, .int a1, .int a2, .int q1]) (st' := [.int (-1)]) rfl ?_
    obtain rfl := Option.some.inj h
    exact xeiret rfl rfl
  · rw [if_neg c2] at h
    refine xei_eq_f rfl c2 ?_
    refine xeb 1 (pc' := 13) (ls' := [.ref S0, .int a1, .int a2, .int q1]) (st' := [.ref S0]) rfl ?_
    refine xegf2 rfl hS0.1 (by decide) rfl ?_
    refine xeb 1 (pc' := 17) (ls' := [.ref S0, .int a1, .int a2, .int q1]) (st' := [.int q1, .ref (S0 + 1)]) rfl ?_
    obtain ⟨b3, h⟩ := xck_some h
    refine xeia rfl hS0.2.1 b3 ?_
    refine xeb 1 (pc' := 20) (ls' := [.ref S0, .int a1, .int a2, .int q1]) (st' := [.int 9, .int (I (S0 + 1) (xN q1))]) rfl ?_
    have hj : xEv X (d + 1) 178 28 [.ref S0, .int a1, .int a2, .int q1] [.int (if (I (S0 + 1) (xN q1)) = 9 then q1 else (-1))] I L (some (.int r)) I L := by
      obtain rfl := Option.some.inj h
      exact xeiret rfl rfl
    by_cases c4 : (I (S0 + 1) (xN q1)) = 9
    · simp only [if_pos c4] at hj
      refine xei_ne_t rfl c4 ?_
      exact xeb 2 rfl hj
    · simp only [if_neg c4] at hj
      refine xei_ne_f rfl c4 ?_
      exact xeb 1 rfl hj
noncomputable def f_State_pressedSpares_4 (F : Nat) (S0 : Nat) (I : XI) : Nat → Int32 → Int32 → Option (Int32)
  | 0, _, _ => none
  | n + 1, v1, v2 =>
    if 30 ≤ v2 then (some v1) else (xck (xin v2 30) (if (I (S0 + 1) (xN v2)) < 0 then (f_State_pressedSpares_4 F S0 I n (v1 ||| 0) (v2 + 1)) else (xck (xin v2 30) (f_State_pressedSpares_4 F S0 I n (v1 ||| (1 <<< (((I (S0 + 1) (xN v2)) / 10) &&& 31))) (v2 + 1)))))
theorem g_State_pressedSpares_4 {X : XX} {d : Nat} {L : XL} {F : Nat} {S0 : Nat} {I : XI} (hS0 : xisSt S0) {r : Int32}  : ∀ (n : Nat) (v1 : Int32) (v2 : Int32), f_State_pressedSpares_4 F S0 I n v1 v2 = some r → xEv X (d + 0) 179 4 [.ref S0, .int v1, .int v2] [] I L (some (.int r)) I L := by
  intro n
  induction n with
  | zero => intro v1 v2 h; rw [f_State_pressedSpares_4] at h; cases h
  | succ n ih =>
    intro v1 v2 h 
    rw [f_State_pressedSpares_4] at h
    refine xeb 2 (pc' := 7) (ls' := [.ref S0, .int v1, .int v2]) (st' := [.int 30, .int v2]) rfl ?_
    by_cases c1 : 30 ≤ v2
    · rw [if_pos c1] at h
      refine xei_ge_t rfl c1 ?_
      refine xeb 1 (pc' := 44) (ls' := [.ref S0, .int v1, .int v2]) (st' := [.int v1]) rfl ?_
      obtain rfl := Option.some.inj h
      exact xeiret rfl rfl
    · rw [if_neg c1] at h
      refine xei_ge_f rfl c1 ?_
      refine xeb 2 (pc' := 12) (ls' := [.ref S0, .int v1, .int v2]) (st' := [.ref S0, .int v1]) rfl ?_
      refine xegf2 rfl hS0.1 (by decide) rfl ?_
      refine xeb 1 (pc' := 16) (ls' := [.ref S0, .int v1, .int v2]) (st' := [.int v2, .ref (S0 + 1), .int v1]) rfl ?_
      obtain ⟨b2, h⟩ := xck_some h
      refine xeia rfl hS0.2 b2 ?_
      by_cases c3 : (I (S0 + 1) (xN v2)) < 0
      · rw [if_pos c3] at h
        refine xef_lt_t rfl c3 ?_
        refine xeb 5 (pc' := 4) (ls' := [.ref S0, .int (v1 ||| 0), .int (v2 + 1)]) (st' := []) rfl ?_
        exact ih (v1 ||| 0) (v2 + 1) h
      · rw [if_neg c3] at h
        refine xef_lt_f rfl c3 ?_
        refine xeb 2 (pc' := 22) (ls' := [.ref S0, .int v1, .int v2]) (st' := [.ref S0, .int 1, .int v1]) rfl ?_
        refine xegf2 rfl hS0.1 (by decide) rfl ?_
        refine xeb 1 (pc' := 26) (ls' := [.ref S0, .int v1, .int v2]) (st' := [.int v2, .ref (S0 + 1), .int 1, .int v1]) rfl ?_
        obtain ⟨b4, h⟩ := xck_some h
        refine xeia rfl hS0.2 b4 ?_
        refine xeb 8 (pc' := 4) (ls' := [.ref S0, .int (v1 ||| (1 <<< (((I (S0 + 1) (xN v2)) / 10) &&& 31))), .int (v2 + 1)]) (st' := []) rfl ?_
        exact ih (v1 ||| (1 <<< (((I (S0 + 1) (xN v2)) / 10) &&& 31))) (v2 + 1) h
noncomputable def f_State_pressedSpares (F : Nat) (S0 : Nat) (I : XI) : Option (Int32) :=
  f_State_pressedSpares_4 F S0 I F 0 0
theorem g_State_pressedSpares {X : XX} {d : Nat} {L : XL} {F : Nat} {S0 : Nat} {I : XI} (hS0 : xisSt S0) (r : Int32) (h : f_State_pressedSpares F S0 I = some r) : xEv X (d + 0) 179 0 [.ref S0, .null, .null] [] I L (some (.int r)) I L := by
  rw [f_State_pressedSpares] at h
  refine xeb 4 (pc' := 4) (ls' := [.ref S0, .int 0, .int 0]) (st' := []) rfl ?_
  exact g_State_pressedSpares_4 hS0 F 0 0 h
noncomputable def f_State_isPressed (F : Nat) (S0 : Nat) (I : XI) (a1 : Int32) : Option (Int32) :=
  (f_State_pressedSpares F S0 I).bind fun q1 => xck (xnarz (if ((q1 >>> (a1 &&& 31)) &&& 1) = 1 then 1 else 0)) (some (if ((q1 >>> (a1 &&& 31)) &&& 1) = 1 then 1 else 0))
theorem g_State_isPressed {X : XX} {d : Nat} {L : XL} {F : Nat} {S0 : Nat} {I : XI} {a1 : Int32} (hS0 : xisSt S0) (r : Int32) (h : f_State_isPressed F S0 I a1 = some r) : xEv X (d + 1) 180 0 [.ref S0, .int a1] [] I L (some (.int r)) I L := by
  rw [f_State_isPressed] at h
  refine xeb 1 (pc' := 1) (ls' := [.ref S0, .int a1]) (st' := [.ref S0]) rfl ?_
  obtain ⟨q1, eq1, h⟩ := xbind_some h
  refine xcallV rfl hS0.1 rfl rfl rfl (Nat.le_of_ble_eq_true rfl) (Nat.le_of_ble_eq_true rfl) (Nat.le_of_ble_eq_true rfl) rfl (g_State_pressedSpares (d := d + 0) hS0 _ eq1) ?_
  refine xeb 5 (pc' := 9) (ls' := [.ref S0, .int a1]) (st' := [.int 1, .int ((q1 >>> (a1 &&& 31)) &&& 1)]) rfl ?_
  have hj : xEv X (d + 1) 180 17 [.ref S0, .int a1] [.int (if ((q1 >>> (a1 &&& 31)) &&& 1) = 1 then 1 else 0)] I L (some (.int r)) I L := by
    obtain ⟨b3, h⟩ := xck_some h
    obtain rfl := Option.some.inj h
    exact xeiret rfl b3
  by_cases c2 : ((q1 >>> (a1 &&& 31)) &&& 1) = 1
  · simp only [if_pos c2] at hj
    refine xei_ne_t rfl c2 ?_
    exact xeb 2 rfl hj
  · simp only [if_neg c2] at hj
    refine xei_ne_f rfl c2 ?_
    exact xeb 1 rfl hj
noncomputable def f_H_press (F : Nat) (a1 : Int32) (a2 : Int32) (a3 : Int32) (a4 : Int32) (I : XI) : Option (Int32 × XI) :=
  (f_Table_holeAt 17 I a2 a3).bind fun q1 => if q1 = (-1) then (some (0, I)) else ((f_Table_hasSpare 17 I a1).bind fun q3 => if q3 = 0 then (some (0, I)) else ((f_H_isTurn a4).bind fun q5 => if q5 = 0 then (some (0, I)) else ((f_State_lies 26 I q1).bind fun q7 => if q7 = 0 then ((f_State_isPressed F 26 I a1).bind fun q9 => if q9 = 0 then ((f_Rules_isWet F (I 26 1) I).bind fun q11 => if q11.1 = 0 then (some (0, q11.2)) else ((f_Board_clashes F 26 q11.2 q1 ((10 * a1) + a4)).bind fun q13 => if q13 = 0 then ((f_Past_keep 26 q11.2).bind fun q15 => xck (xin q1 30) (xst (xput q15 27 (xN q1) ((10 * a1) + a4)) fun I17 => some (1, I17))) else (some (0, q11.2)))) else (some (0, I))) else (some (0, I)))))
theorem g_H_press {X : XX} {d : Nat} {L : XL} {F : Nat} {a1 : Int32} {a2 : Int32} {a3 : Int32} {a4 : Int32} {I : XI}  (r : Int32 × XI) (h : f_H_press F a1 a2 a3 a4 I = some r) : xEv X (d + 3) 181 0 [.ref 0, .int a1, .int a2, .int a3, .int a4, .null, .null] [] I L (some (.int r.1)) r.2 L := by
  rw [f_H_press] at h
  refine xeb 1 (pc' := 1) (ls' := [.ref 0, .int a1, .int a2, .int a3, .int a4, .null, .null]) (st' := [.ref 0]) rfl ?_
  refine xegf2 rfl xsh0 (by decide) rfl ?_
  refine xeb 2 (pc' := 6) (ls' := [.ref 0, .int a1, .int a2, .int a3, .int a4, .null, .null]) (st' := [.int a3, .int a2, .ref 17]) rfl ?_
  obtain ⟨q1, eq1, h⟩ := xbind_some h
  refine xcallV rfl xsh17 rfl rfl rfl (Nat.le_of_ble_eq_true rfl) (Nat.le_of_ble_eq_true rfl) (Nat.le_of_ble_eq_true rfl) rfl (g_Table_holeAt (d := d + 1) xis17 _ eq1) ?_
  refine xeb 3 (pc' := 14) (ls' := [.ref 0, .int a1, .int a2, .int a3, .int a4, .int q1, .null]) (st' := [.int (-1), .int q1]) rfl ?_
  by_cases c2 : q1 = (-1)
  · rw [if_pos c2] at h
    refine xei_eq_t rfl c2 ?_
    refine xeb 1 (pc' := 37) (ls' := [.ref 0, .int a1, .int a2, .int a3, .int a4, .int q1, .null]) (st' := [.int 0]) rfl ?_
    obtain rfl := Option.some.inj h
    exact xeiret rfl rfl
  · rw [if_neg c2] at h
    refine xei_eq_f rfl c2 ?_
    refine xeb 1 (pc' := 18) (ls' := [.ref 0, .int a1, .int a2, .int a3, .int a4, .int q1, .null]) (st' := [.ref 0]) rfl ?_
    refine xegf2 rfl xsh0 (by decide) rfl ?_
    refine xeb 1 (pc' := 22) (ls' := [.ref 0, .int a1, .int a2, .int a3, .int a4, .int q1, .null]) (st' := [.int a1, .ref 17]) rfl ?_
    obtain ⟨q3, eq3, h⟩ := xbind_some h
    refine xcallV rfl xsh17 rfl rfl rfl (Nat.le_of_ble_eq_true rfl) (Nat.le_of_ble_eq_true rfl) (Nat.le_of_ble_eq_true rfl) rfl (g_Table_hasSpare (d := d + 2) xis17 _ eq3) ?_
    by_cases c4 : q3 = 0
    · rw [if_pos c4] at h
      refine xef_eq_t rfl c4 ?_
      refine xeb 1 (pc' := 37) (ls' := [.ref 0, .int a1, .int a2, .int a3, .int a4, .int q1, .null]) (st' := [.int 0]) rfl ?_
      obtain rfl := Option.some.inj h
      exact xeiret rfl rfl
    · rw [if_neg c4] at h
      refine xef_eq_f rfl c4 ?_
      refine xeb 1 (pc' := 30) (ls' := [.ref 0, .int a1, .int a2, .int a3, .int a4, .int q1, .null]) (st' := [.int a4]) rfl ?_
      obtain ⟨q5, eq5, h⟩ := xbind_some h
      refine xcallS20 rfl rfl rfl (Nat.le_of_ble_eq_true rfl) (Nat.le_of_ble_eq_true rfl) (Nat.le_of_ble_eq_true rfl) rfl (g_H_isTurn (d := d + 2) _ eq5) ?_
      by_cases c6 : q5 = 0
      · rw [if_pos c6] at h
        refine xef_ne_t rfl c6 ?_
        refine xeb 1 (pc' := 37) (ls' := [.ref 0, .int a1, .int a2, .int a3, .int a4, .int q1, .null]) (st' := [.int 0]) rfl ?_
        obtain rfl := Option.some.inj h
        exact xeiret rfl rfl
      · rw [if_neg c6] at h
        refine xef_ne_f rfl c6 ?_
        refine xeb 7 (pc' := 48) (ls' := [.ref 0, .int a1, .int a2, .int a3, .int a4, .int q1, .int ((10 * a1) + a4)]) (st' := [.ref 0]) rfl ?_
        refine xegf2 rfl xsh0 (by decide) rfl ?_
        refine xeb 1 (pc' := 53) (ls' := [.ref 0, .int a1, .int a2, .int a3, .int a4, .int q1, .int ((10 * a1) + a4)]) (st' := [.int q1, .ref 26]) rfl ?_
        obtain ⟨q7, eq7, h⟩ := xbind_some h
        refine xcallV rfl xsh26 rfl rfl rfl (Nat.le_of_ble_eq_true rfl) (Nat.le_of_ble_eq_true rfl) (Nat.le_of_ble_eq_true rfl) rfl (g_State_lies (d := d + 2) xis26 _ eq7) ?_
        by_cases c8 : q7 = 0
        · rw [if_pos c8] at h
          refine xef_ne_t rfl c8 ?_
          refine xeb 1 (pc' := 60) (ls' := [.ref 0, .int a1, .int a2, .int a3, .int a4, .int q1, .int ((10 * a1) + a4)]) (st' := [.ref 0]) rfl ?_
          refine xegf2 rfl xsh0 (by decide) rfl ?_
          refine xeb 1 (pc' := 64) (ls' := [.ref 0, .int a1, .int a2, .int a3, .int a4, .int q1, .int ((10 * a1) + a4)]) (st' := [.int a1, .ref 26]) rfl ?_
          obtain ⟨q9, eq9, h⟩ := xbind_some h
          refine xcallV rfl xsh26 rfl rfl rfl (Nat.le_of_ble_eq_true rfl) (Nat.le_of_ble_eq_true rfl) (Nat.le_of_ble_eq_true rfl) rfl (g_State_isPressed (d := d + 1) xis26 _ eq9) ?_
          by_cases c10 : q9 = 0
          · rw [if_pos c10] at h
            refine xef_ne_t rfl c10 ?_
            refine xeb 1 (pc' := 71) (ls' := [.ref 0, .int a1, .int a2, .int a3, .int a4, .int q1, .int ((10 * a1) + a4)]) (st' := [.ref 0]) rfl ?_
            refine xegf2 rfl xsh0 (by decide) rfl ?_
            refine xeb 1 (pc' := 75) (ls' := [.ref 0, .int a1, .int a2, .int a3, .int a4, .int q1, .int ((10 * a1) + a4)]) (st' := [.ref 0, .ref 32]) rfl ?_
            refine xegf2 rfl xsh0 (by decide) rfl ?_
            refine xegf10 rfl xsh26 (by decide) ?_
            obtain ⟨q11, eq11, h⟩ := xbind_some h
            refine xcallV rfl xsh32 rfl rfl rfl (Nat.le_of_ble_eq_true rfl) (Nat.le_of_ble_eq_true rfl) (Nat.le_of_ble_eq_true rfl) rfl (g_Rules_isWet (d := d + 0) _ eq11) ?_
            by_cases c12 : q11.1 = 0
            · rw [if_pos c12] at h
              refine xef_eq_t rfl c12 ?_
              refine xeb 1 (pc' := 106) (ls' := [.ref 0, .int a1, .int a2, .int a3, .int a4, .int q1, .int ((10 * a1) + a4)]) (st' := [.int 0]) rfl ?_
              obtain rfl := Option.some.inj h
              exact xeiret rfl rfl
            · rw [if_neg c12] at h
              refine xef_eq_f rfl c12 ?_
              refine xeb 1 (pc' := 88) (ls' := [.ref 0, .int a1, .int a2, .int a3, .int a4, .int q1, .int ((10 * a1) + a4)]) (st' := [.ref 0]) rfl ?_
              refine xegf2 rfl xsh0 (by decide) rfl ?_
              refine xeb 1 (pc' := 92) (ls' := [.ref 0, .int a1, .int a2, .int a3, .int a4, .int q1, .int ((10 * a1) + a4)]) (st' := [.ref 0, .ref 30]) rfl ?_
              refine xegf2 rfl xsh0 (by decide) rfl ?_
              refine xeb 2 (pc' := 99) (ls' := [.ref 0, .int a1, .int a2, .int a3, .int a4, .int q1, .int ((10 * a1) + a4)]) (st' := [.int ((10 * a1) + a4), .int q1, .ref 26, .ref 30]) rfl ?_
              obtain ⟨q13, eq13, h⟩ := xbind_some h
              refine xcallV rfl xsh30 rfl rfl rfl (Nat.le_of_ble_eq_true rfl) (Nat.le_of_ble_eq_true rfl) (Nat.le_of_ble_eq_true rfl) rfl (g_Board_clashes (d := d + 0) xis26 _ eq13) ?_
              by_cases c14 : q13 = 0
              · rw [if_pos c14] at h
                refine xef_eq_t rfl c14 ?_
                refine xeb 1 (pc' := 108) (ls' := [.ref 0, .int a1, .int a2, .int a3, .int a4, .int q1, .int ((10 * a1) + a4)]) (st' := [.ref 0]) rfl ?_
                refine xegf2 rfl xsh0 (by decide) rfl ?_
                refine xeb 1 (pc' := 112) (ls' := [.ref 0, .int a1, .int a2, .int a3, .int a4, .int q1, .int ((10 * a1) + a4)]) (st' := [.ref 0, .ref 38]) rfl ?_
                refine xegf2 rfl xsh0 (by decide) rfl ?_
                obtain ⟨q15, eq15, h⟩ := xbind_some h
                refine xcallV rfl xsh38 rfl rfl rfl (Nat.le_of_ble_eq_true rfl) (Nat.le_of_ble_eq_true rfl) (Nat.le_of_ble_eq_true rfl) rfl (g_Past_keep (d := d + 1) xis26 _ eq15) ?_
                refine xeb 1 (pc' := 119) (ls' := [.ref 0, .int a1, .int a2, .int a3, .int a4, .int q1, .int ((10 * a1) + a4)]) (st' := [.ref 0]) rfl ?_
                refine xegf2 rfl xsh0 (by decide) rfl ?_
                refine xegf12 rfl xsh26 (by decide) rfl ?_
                refine xeb 2 (pc' := 129) (ls' := [.ref 0, .int a1, .int a2, .int a3, .int a4, .int q1, .int ((10 * a1) + a4)]) (st' := [.int ((10 * a1) + a4), .int q1, .ref 27]) rfl ?_
                obtain ⟨b16, h⟩ := xck_some h
                refine xeis rfl xsh27 b16 ?_
                obtain ⟨I17, hI17, h⟩ := xst_some h
                rw [← hI17]
                refine xeb 1 (pc' := 131) (ls' := [.ref 0, .int a1, .int a2, .int a3, .int a4, .int q1, .int ((10 * a1) + a4)]) (st' := [.int 1]) rfl ?_
                obtain rfl := Option.some.inj h
                exact xeiret rfl rfl
              · rw [if_neg c14] at h
                refine xef_eq_f rfl c14 ?_
                refine xeb 1 (pc' := 106) (ls' := [.ref 0, .int a1, .int a2, .int a3, .int a4, .int q1, .int ((10 * a1) + a4)]) (st' := [.int 0]) rfl ?_
                obtain rfl := Option.some.inj h
                exact xeiret rfl rfl
          · rw [if_neg c10] at h
            refine xef_ne_f rfl c10 ?_
            refine xeb 1 (pc' := 106) (ls' := [.ref 0, .int a1, .int a2, .int a3, .int a4, .int q1, .int ((10 * a1) + a4)]) (st' := [.int 0]) rfl ?_
            obtain rfl := Option.some.inj h
            exact xeiret rfl rfl
        · rw [if_neg c8] at h
          refine xef_ne_f rfl c8 ?_
          refine xeb 1 (pc' := 106) (ls' := [.ref 0, .int a1, .int a2, .int a3, .int a4, .int q1, .int ((10 * a1) + a4)]) (st' := [.int 0]) rfl ?_
          obtain rfl := Option.some.inj h
          exact xeiret rfl rfl
noncomputable def f_M_isPressed_2 (F : Nat) (I : XI) : Nat → Int32 → Int32 → Option (Int32)
  | 0, _, _ => none
  | n + 1, v1, v2 =>
    if 30 ≤ v2 then (some 0) else ((f_M_isThere I v2).bind fun q2 => if q2 = 0 then (f_M_isPressed_2 F I n v1 (v2 + 1)) else ((f_M_isHole I v2).bind fun q4 => if q4 = 0 then (f_M_isPressed_2 F I n v1 (v2 + 1)) else (xck (xin v2 33) (if (I 163 (xN v2)) ≤ 0 then (f_M_isPressed_2 F I n v1 (v2 + 1)) else (xck (xin v2 33) (if (((I 163 (xN v2)) - 1) / 10) = v1 then (some 1) else (f_M_isPressed_2 F I n v1 (v2 + 1))))))))
theorem g_M_isPressed_2 {X : XX} {d : Nat} {L : XL} {F : Nat} {I : XI}  {r : Int32}  : ∀ (n : Nat) (v1 : Int32) (v2 : Int32), f_M_isPressed_2 F I n v1 v2 = some r → xEv X (d + 3) 182 2 [.ref 131, .int v1, .int v2] [] I L (some (.int r)) I L := by
  intro n
  induction n with
  | zero => intro v1 v2 h; rw [f_M_isPressed_2] at h; cases h
  | succ n ih =>
    intro v1 v2 h 
    rw [f_M_isPressed_2] at h
    refine xeb 2 (pc' := 5) (ls' := [.ref 131, .int v1, .int v2]) (st' := [.int 30, .int v2]) rfl ?_
    by_cases c1 : 30 ≤ v2
    · rw [if_pos c1] at h
      refine xei_ge_t rfl c1 ?_
      refine xeb 1 (pc' := 57) (ls' := [.ref 131, .int v1, .int v2]) (st' := [.int 0]) rfl ?_
      obtain rfl := Option.some.inj h
      exact xeiret rfl rfl
    · rw [if_neg c1] at h
      refine xei_ge_f rfl c1 ?_
      refine xeb 2 (pc' := 10) (ls' := [.ref 131, .int v1, .int v2]) (st' := [.int v2, .ref 131]) rfl ?_
      obtain ⟨q2, eq2, h⟩ := xbind_some h
      refine xcallV rfl xsh131 rfl rfl rfl (Nat.le_of_ble_eq_true rfl) (Nat.le_of_ble_eq_true rfl) (Nat.le_of_ble_eq_true rfl) rfl (g_M_isThere (d := d + 0) _ eq2) ?_
      by_cases c3 : q2 = 0
      · rw [if_pos c3] at h
        refine xef_eq_t rfl c3 ?_
        refine xeb 2 (pc' := 2) (ls' := [.ref 131, .int v1, .int (v2 + 1)]) (st' := []) rfl ?_
        exact ih v1 (v2 + 1) h
      · rw [if_neg c3] at h
        refine xef_eq_f rfl c3 ?_
        refine xeb 2 (pc' := 18) (ls' := [.ref 131, .int v1, .int v2]) (st' := [.int v2, .ref 131]) rfl ?_
        obtain ⟨q4, eq4, h⟩ := xbind_some h
        refine xcallV rfl xsh131 rfl rfl rfl (Nat.le_of_ble_eq_true rfl) (Nat.le_of_ble_eq_true rfl) (Nat.le_of_ble_eq_true rfl) rfl (g_M_isHole (d := d + 1) _ eq4) ?_
        by_cases c5 : q4 = 0
        · rw [if_pos c5] at h
          refine xef_eq_t rfl c5 ?_
          refine xeb 2 (pc' := 2) (ls' := [.ref 131, .int v1, .int (v2 + 1)]) (st' := []) rfl ?_
          exact ih v1 (v2 + 1) h
        · rw [if_neg c5] at h
          refine xef_eq_f rfl c5 ?_
          refine xeb 1 (pc' := 25) (ls' := [.ref 131, .int v1, .int v2]) (st' := [.ref 131]) rfl ?_
          refine xegf2 rfl xsh131 (by decide) rfl ?_
          refine xeb 1 (pc' := 29) (ls' := [.ref 131, .int v1, .int v2]) (st' := [.int v2, .ref 163]) rfl ?_
          obtain ⟨b6, h⟩ := xck_some h
          refine xeia rfl xsh163 b6 ?_
          by_cases c7 : (I 163 (xN v2)) ≤ 0
          · rw [if_pos c7] at h
            refine xef_le_t rfl c7 ?_
            refine xeb 2 (pc' := 2) (ls' := [.ref 131, .int v1, .int (v2 + 1)]) (st' := []) rfl ?_
            exact ih v1 (v2 + 1) h
          · rw [if_neg c7] at h
            refine xef_le_f rfl c7 ?_
            refine xeb 1 (pc' := 34) (ls' := [.ref 131, .int v1, .int v2]) (st' := [.ref 131]) rfl ?_
            refine xegf2 rfl xsh131 (by decide) rfl ?_
            refine xeb 1 (pc' := 38) (ls' := [.ref 131, .int v1, .int v2]) (st' := [.int v2, .ref 163]) rfl ?_
            obtain ⟨b8, h⟩ := xck_some h
            refine xeia rfl xsh163 b8 ?_
            refine xeb 5 (pc' := 45) (ls' := [.ref 131, .int v1, .int v2]) (st' := [.int v1, .int (((I 163 (xN v2)) - 1) / 10)]) rfl ?_
            by_cases c9 : (((I 163 (xN v2)) - 1) / 10) = v1
            · rw [if_pos c9] at h
              refine xei_ne_t rfl c9 ?_
              refine xeb 1 (pc' := 49) (ls' := [.ref 131, .int v1, .int v2]) (st' := [.int 1]) rfl ?_
              obtain rfl := Option.some.inj h
              exact xeiret rfl rfl
            · rw [if_neg c9] at h
              refine xei_ne_f rfl c9 ?_
              refine xeb 2 (pc' := 2) (ls' := [.ref 131, .int v1, .int (v2 + 1)]) (st' := []) rfl ?_
              exact ih v1 (v2 + 1) h
noncomputable def f_M_isPressed (F : Nat) (I : XI) (a1 : Int32) : Option (Int32) :=
  f_M_isPressed_2 F I F a1 0
theorem g_M_isPressed {X : XX} {d : Nat} {L : XL} {F : Nat} {I : XI} {a1 : Int32}  (r : Int32) (h : f_M_isPressed F I a1 = some r) : xEv X (d + 3) 182 0 [.ref 131, .int a1, .null] [] I L (some (.int r)) I L := by
  rw [f_M_isPressed] at h
  refine xeb 2 (pc' := 2) (ls' := [.ref 131, .int a1, .int 0]) (st' := []) rfl ?_
  exact g_M_isPressed_2 F a1 0 h
noncomputable def f_M_press (F : Nat) (a1 : Int32) (a2 : Int32) (a3 : Int32) (a4 : Int32) (I : XI) : Option (Int32 × XI) :=
  (f_M_isSpare I a1).bind fun q1 => if q1 = 0 then (some (0, I)) else ((f_M_isCell I a2 a3).bind fun q3 => if q3 = 0 then (some (0, I)) else ((f_M_isSide a4).bind fun q5 => if q5 = 0 then (some (0, I)) else ((f_M_copies F I).bind fun q7 => (f_M_isWet F q7).bind fun q8 => if q8.1 = 0 then (some (0, q8.2)) else ((f_M_isPressed F q8.2 a1).bind fun q10 => if q10 = 0 then ((f_M_isHole q8.2 ((6 * a3) + a2)).bind fun q12 => if q12 = 0 then (some (0, q8.2)) else ((f_M_doesLie q8.2 ((6 * a3) + a2)).bind fun q14 => if q14 = 0 then (xck (xin ((6 * a3) + a2) 33) (xst (xput q8.2 163 (xN ((6 * a3) + a2)) ((1 + (10 * a1)) + a4)) fun I17 => (f_M_clashBits F I17 ((6 * a3) + a2)).bind fun q18 => if q18 = 0 then ((f_M_records F I17).bind fun q20 => some (1, q20)) else (some (0, I17)))) else (some (0, q8.2)))) else (some (0, q8.2))))))
theorem g_M_press {X : XX} {d : Nat} {L : XL} {F : Nat} {a1 : Int32} {a2 : Int32} {a3 : Int32} {a4 : Int32} {I : XI}  (r : Int32 × XI) (h : f_M_press F a1 a2 a3 a4 I = some r) : xEv X (d + 5) 183 0 [.ref 131, .int a1, .int a2, .int a3, .int a4, .null] [] I L (some (.int r.1)) r.2 L := by
  rw [f_M_press] at h
  refine xeb 2 (pc' := 2) (ls' := [.ref 131, .int a1, .int a2, .int a3, .int a4, .null]) (st' := [.int a1, .ref 131]) rfl ?_
  obtain ⟨q1, eq1, h⟩ := xbind_some h
  refine xcallV rfl xsh131 rfl rfl rfl (Nat.le_of_ble_eq_true rfl) (Nat.le_of_ble_eq_true rfl) (Nat.le_of_ble_eq_true rfl) rfl (g_M_isSpare (d := d + 3) _ eq1) ?_
  by_cases c2 : q1 = 0
  · rw [if_pos c2] at h
    refine xef_eq_t rfl c2 ?_
    refine xeb 1 (pc' := 26) (ls' := [.ref 131, .int a1, .int a2, .int a3, .int a4, .null]) (st' := [.int 0]) rfl ?_
    obtain rfl := Option.some.inj h
    exact xeiret rfl rfl
  · rw [if_neg c2] at h
    refine xef_eq_f rfl c2 ?_
    refine xeb 3 (pc' := 11) (ls' := [.ref 131, .int a1, .int a2, .int a3, .int a4, .null]) (st' := [.int a3, .int a2, .ref 131]) rfl ?_
    obtain ⟨q3, eq3, h⟩ := xbind_some h
    refine xcallV rfl xsh131 rfl rfl rfl (Nat.le_of_ble_eq_true rfl) (Nat.le_of_ble_eq_true rfl) (Nat.le_of_ble_eq_true rfl) rfl (g_M_isCell (d := d + 3) _ eq3) ?_
    by_cases c4 : q3 = 0
    · rw [if_pos c4] at h
      refine xef_eq_t rfl c4 ?_
      refine xeb 1 (pc' := 26) (ls' := [.ref 131, .int a1, .int a2, .int a3, .int a4, .null]) (st' := [.int 0]) rfl ?_
      obtain rfl := Option.some.inj h
      exact xeiret rfl rfl
    · rw [if_neg c4] at h
      refine xef_eq_f rfl c4 ?_
      refine xeb 1 (pc' := 19) (ls' := [.ref 131, .int a1, .int a2, .int a3, .int a4, .null]) (st' := [.int a4]) rfl ?_
      obtain ⟨q5, eq5, h⟩ := xbind_some h
      refine xcallS20 rfl rfl rfl (Nat.le_of_ble_eq_true rfl) (Nat.le_of_ble_eq_true rfl) (Nat.le_of_ble_eq_true rfl) rfl (g_M_isSide (d := d + 3) _ eq5) ?_
      by_cases c6 : q5 = 0
      · rw [if_pos c6] at h
        refine xef_ne_t rfl c6 ?_
        refine xeb 1 (pc' := 26) (ls' := [.ref 131, .int a1, .int a2, .int a3, .int a4, .null]) (st' := [.int 0]) rfl ?_
        obtain rfl := Option.some.inj h
        exact xeiret rfl rfl
      · rw [if_neg c6] at h
        refine xef_ne_f rfl c6 ?_
        refine xeb 1 (pc' := 28) (ls' := [.ref 131, .int a1, .int a2, .int a3, .int a4, .null]) (st' := [.ref 131]) rfl ?_
        obtain ⟨q7, eq7, h⟩ := xbind_some h
        refine xcallV rfl xsh131 rfl rfl rfl (Nat.le_of_ble_eq_true rfl) (Nat.le_of_ble_eq_true rfl) (Nat.le_of_ble_eq_true rfl) rfl (g_M_copies (d := d + 4) _ eq7) ?_
        refine xeb 7 (pc' := 40) (ls' := [.ref 131, .int a1, .int a2, .int a3, .int a4, .int ((6 * a3) + a2)]) (st' := [.ref 131]) rfl ?_
        obtain ⟨q8, eq8, h⟩ := xbind_some h
        refine xcallV rfl xsh131 rfl rfl rfl (Nat.le_of_ble_eq_true rfl) (Nat.le_of_ble_eq_true rfl) (Nat.le_of_ble_eq_true rfl) rfl (g_M_isWet (d := d + 2) _ eq8) ?_
        by_cases c9 : q8.1 = 0
        · rw [if_pos c9] at h
          refine xef_eq_t rfl c9 ?_
          refine xeb 1 (pc' := 73) (ls' := [.ref 131, .int a1, .int a2, .int a3, .int a4, .int ((6 * a3) + a2)]) (st' := [.int 0]) rfl ?_
          obtain rfl := Option.some.inj h
          exact xeiret rfl rfl
        · rw [if_neg c9] at h
          refine xef_eq_f rfl c9 ?_
          refine xeb 2 (pc' := 48) (ls' := [.ref 131, .int a1, .int a2, .int a3, .int a4, .int ((6 * a3) + a2)]) (st' := [.int a1, .ref 131]) rfl ?_
          obtain ⟨q10, eq10, h⟩ := xbind_some h
          refine xcallV rfl xsh131 rfl rfl rfl (Nat.le_of_ble_eq_true rfl) (Nat.le_of_ble_eq_true rfl) (Nat.le_of_ble_eq_true rfl) rfl (g_M_isPressed (d := d + 1) _ eq10) ?_
          by_cases c11 : q10 = 0
          · rw [if_pos c11] at h
            refine xef_ne_t rfl c11 ?_
            refine xeb 2 (pc' := 57) (ls' := [.ref 131, .int a1, .int a2, .int a3, .int a4, .int ((6 * a3) + a2)]) (st' := [.int ((6 * a3) + a2), .ref 131]) rfl ?_
            obtain ⟨q12, eq12, h⟩ := xbind_some h
            refine xcallV rfl xsh131 rfl rfl rfl (Nat.le_of_ble_eq_true rfl) (Nat.le_of_ble_eq_true rfl) (Nat.le_of_ble_eq_true rfl) rfl (g_M_isHole (d := d + 3) _ eq12) ?_
            by_cases c13 : q12 = 0
            · rw [if_pos c13] at h
              refine xef_eq_t rfl c13 ?_
              refine xeb 1 (pc' := 73) (ls' := [.ref 131, .int a1, .int a2, .int a3, .int a4, .int ((6 * a3) + a2)]) (st' := [.int 0]) rfl ?_
              obtain rfl := Option.some.inj h
              exact xeiret rfl rfl
            · rw [if_neg c13] at h
              refine xef_eq_f rfl c13 ?_
              refine xeb 2 (pc' := 66) (ls' := [.ref 131, .int a1, .int a2, .int a3, .int a4, .int ((6 * a3) + a2)]) (st' := [.int ((6 * a3) + a2), .ref 131]) rfl ?_
              obtain ⟨q14, eq14, h⟩ := xbind_some h
              refine xcallV rfl xsh131 rfl rfl rfl (Nat.le_of_ble_eq_true rfl) (Nat.le_of_ble_eq_true rfl) (Nat.le_of_ble_eq_true rfl) rfl (g_M_doesLie (d := d + 4) _ eq14) ?_
              by_cases c15 : q14 = 0
              · rw [if_pos c15] at h
                refine xef_eq_t rfl c15 ?_
                refine xeb 1 (pc' := 75) (ls' := [.ref 131, .int a1, .int a2, .int a3, .int a4, .int ((6 * a3) + a2)]) (st' := [.ref 131]) rfl ?_
                refine xegf2 rfl xsh131 (by decide) rfl ?_
                refine xeb 8 (pc' := 89) (ls' := [.ref 131, .int a1, .int a2, .int a3, .int a4, .int ((6 * a3) + a2)]) (st' := [.int ((1 + (10 * a1)) + a4), .int ((6 * a3) + a2), .ref 163]) rfl ?_
                obtain ⟨b16, h⟩ := xck_some h
                refine xeis rfl xsh163 b16 ?_
                obtain ⟨I17, hI17, h⟩ := xst_some h
                rw [← hI17]
                refine xeb 2 (pc' := 93) (ls' := [.ref 131, .int a1, .int a2, .int a3, .int a4, .int ((6 * a3) + a2)]) (st' := [.int ((6 * a3) + a2), .ref 131]) rfl ?_
                obtain ⟨q18, eq18, h⟩ := xbind_some h
                refine xcallV rfl xsh131 rfl rfl rfl (Nat.le_of_ble_eq_true rfl) (Nat.le_of_ble_eq_true rfl) (Nat.le_of_ble_eq_true rfl) rfl (g_M_clashBits (d := d + 0) _ eq18) ?_
                by_cases c19 : q18 = 0
                · rw [if_pos c19] at h
                  refine xef_eq_t rfl c19 ?_
                  refine xeb 1 (pc' := 102) (ls' := [.ref 131, .int a1, .int a2, .int a3, .int a4, .int ((6 * a3) + a2)]) (st' := [.ref 131]) rfl ?_
                  obtain ⟨q20, eq20, h⟩ := xbind_some h
                  refine xcallV rfl xsh131 rfl rfl rfl (Nat.le_of_ble_eq_true rfl) (Nat.le_of_ble_eq_true rfl) (Nat.le_of_ble_eq_true rfl) rfl (g_M_records (d := d + 3) _ eq20) ?_
                  refine xeb 1 (pc' := 106) (ls' := [.ref 131, .int a1, .int a2, .int a3, .int a4, .int ((6 * a3) + a2)]) (st' := [.int 1]) rfl ?_
                  obtain rfl := Option.some.inj h
                  exact xeiret rfl rfl
                · rw [if_neg c19] at h
                  refine xef_eq_f rfl c19 ?_
                  refine xeb 1 (pc' := 100) (ls' := [.ref 131, .int a1, .int a2, .int a3, .int a4, .int ((6 * a3) + a2)]) (st' := [.int 0]) rfl ?_
                  obtain rfl := Option.some.inj h
                  exact xeiret rfl rfl
              · rw [if_neg c15] at h
                refine xef_eq_f rfl c15 ?_
                refine xeb 1 (pc' := 73) (ls' := [.ref 131, .int a1, .int a2, .int a3, .int a4, .int ((6 * a3) + a2)]) (st' := [.int 0]) rfl ?_
                obtain rfl := Option.some.inj h
                exact xeiret rfl rfl
          · rw [if_neg c11] at h
            refine xef_ne_f rfl c11 ?_
            refine xeb 1 (pc' := 73) (ls' := [.ref 131, .int a1, .int a2, .int a3, .int a4, .int ((6 * a3) + a2)]) (st' := [.int 0]) rfl ?_
            obtain rfl := Option.some.inj h
            exact xeiret rfl rfl
noncomputable def f_Calendar_stir (a0 : Int32) (a1 : Int32) : Option (Int32) :=
  some ((((a0 ^^^ a1) * 1103515245) + 12345) ^^^ (Int32.toUInt32 (((a0 ^^^ a1) * 1103515245) + 12345) >>> (Int32.toUInt32 15 &&& Int32.toUInt32 31)).toInt32)
theorem g_Calendar_stir {X : XX} {d : Nat} {I : XI} {L : XL} {a0 : Int32} {a1 : Int32}  (r : Int32) (h : f_Calendar_stir a0 a1 = some r) : xEv X (d + 0) 184 0 [.int a0, .int a1, .null] [] I L (some (.int r)) I L := by
  rw [f_Calendar_stir] at h
  refine xeb 13 (pc' := 17) (ls' := [.int a0, .int a1, .int (((a0 ^^^ a1) * 1103515245) + 12345)]) (st' := [.int ((((a0 ^^^ a1) * 1103515245) + 12345) ^^^ (Int32.toUInt32 (((a0 ^^^ a1) * 1103515245) + 12345) >>> (Int32.toUInt32 15 &&& Int32.toUInt32 31)).toInt32)]) rfl ?_
  obtain rfl := Option.some.inj h
  exact xeiret rfl rfl
noncomputable def f_Calendar_lot (a0 : Int32) (a1 : Int32) : Option (Int32) :=
  (f_Calendar_stir a0 123).bind fun q1 => (f_Calendar_stir q1 a1).bind fun q2 => some ((Int32.toUInt32 q2 >>> (Int32.toUInt32 1 &&& Int32.toUInt32 31)).toInt32 - (Int32.toUInt32 q2 >>> (Int32.toUInt32 1 &&& Int32.toUInt32 31)).toInt32 / 100 * 100)
theorem g_Calendar_lot {X : XX} {d : Nat} {I : XI} {L : XL} {a0 : Int32} {a1 : Int32}  (r : Int32) (h : f_Calendar_lot a0 a1 = some r) : xEv X (d + 1) 185 0 [.int a0, .int a1, .null] [] I L (some (.int r)) I L := by
  rw [f_Calendar_lot] at h
  refine xeb 2 (pc' := 3) (ls' := [.int a0, .int a1, .null]) (st' := [.int 123, .int a0]) rfl ?_
  obtain ⟨q1, eq1, h⟩ := xbind_some h
  refine xcallS20 rfl rfl rfl (Nat.le_of_ble_eq_true rfl) (Nat.le_of_ble_eq_true rfl) (Nat.le_of_ble_eq_true rfl) rfl (g_Calendar_stir (d := d + 0) _ eq1) ?_
  refine xeb 1 (pc' := 7) (ls' := [.int a0, .int a1, .null]) (st' := [.int a1, .int q1]) rfl ?_
  obtain ⟨q2, eq2, h⟩ := xbind_some h
  refine xcallS20 rfl rfl rfl (Nat.le_of_ble_eq_true rfl) (Nat.le_of_ble_eq_true rfl) (Nat.le_of_ble_eq_true rfl) rfl (g_Calendar_stir (d := d + 0) _ eq2) ?_
  refine xeb 6 (pc' := 17) (ls' := [.int a0, .int a1, .int q2]) (st' := [.int ((Int32.toUInt32 q2 >>> (Int32.toUInt32 1 &&& Int32.toUInt32 31)).toInt32 - (Int32.toUInt32 q2 >>> (Int32.toUInt32 1 &&& Int32.toUInt32 31)).toInt32 / 100 * 100)]) rfl ?_
  obtain rfl := Option.some.inj h
  exact xeiret rfl rfl
noncomputable def f_Calendar_isKnock (I : XI) (a1 : Int32) (a2 : Int32) : Option (Int32) :=
  (f_Calendar_lot a1 (64 * a2)).bind fun q1 => xck (xnarz (if (I 17 3) ≤ q1 then 0 else 1)) (some (if (I 17 3) ≤ q1 then 0 else 1))
theorem g_Calendar_isKnock {X : XX} {d : Nat} {L : XL} {I : XI} {a1 : Int32} {a2 : Int32}  (r : Int32) (h : f_Calendar_isKnock I a1 a2 = some r) : xEv X (d + 2) 186 0 [.ref 37, .int a1, .int a2] [] I L (some (.int r)) I L := by
  rw [f_Calendar_isKnock] at h
  refine xeb 4 (pc' := 5) (ls' := [.ref 37, .int a1, .int a2]) (st' := [.int (64 * a2), .int a1]) rfl ?_
  obtain ⟨q1, eq1, h⟩ := xbind_some h
  refine xcallS20 rfl rfl rfl (Nat.le_of_ble_eq_true rfl) (Nat.le_of_ble_eq_true rfl) (Nat.le_of_ble_eq_true rfl) rfl (g_Calendar_lot (d := d + 0) _ eq1) ?_
  refine xeb 1 (pc' := 9) (ls' := [.ref 37, .int a1, .int a2]) (st' := [.ref 37, .int q1]) rfl ?_
  refine xegf2 rfl xsh37 (by decide) rfl ?_
  refine xegf10 rfl xsh17 (by decide) ?_
  have hj : xEv X (d + 2) 186 23 [.ref 37, .int a1, .int a2] [.int (if (I 17 3) ≤ q1 then 0 else 1)] I L (some (.int r)) I L := by
    obtain ⟨b3, h⟩ := xck_some h
    obtain rfl := Option.some.inj h
    exact xeiret rfl b3
  by_cases c2 : (I 17 3) ≤ q1
  · simp only [if_pos c2] at hj
    refine xei_ge_t rfl c2 ?_
    exact xeb 1 rfl hj
  · simp only [if_neg c2] at hj
    refine xei_ge_f rfl c2 ?_
    exact xeb 2 rfl hj
