/-! the methods as functions, and that a run answers so (by gen6.py) -/
noncomputable def f_M_homes_45 (F : Nat) (I : XI) (k14 : Int32 → Int32 → Int32 → Option (Int32)) : Nat → Int32 → Int32 → Int32 → Int32 → Int32 → Option (Int32)
  | 0, _, _, _, _, _ => none
  | n + 1, v1, v2, v3, v4, v5 =>
    if 4 ≤ v5 then (k14 v1 (if v4 = 0 then v2 else (v2 + 1)) (v3 + 1)) else ((f_M_wouldFit F I v1 v5 v3).bind fun q10 => f_M_homes_45 F I k14 n v1 v2 v3 (if q10 = 0 then v4 else 1) (v5 + 1))
theorem g_M_homes_45 {X : XX} {d : Nat} {L : XL} {F : Nat} {I : XI} {k14 : Int32 → Int32 → Int32 → Option (Int32)}  {r : Int32} (hk14 : ∀ (v1 : Int32) (v2 : Int32) (v3 : Int32), k14 v1 v2 v3 = some r → ∀ (z4 : Value) (z5 : Value), xEv X (d + 5) 216 14 [.ref 131, .int v1, .int v2, .int v3, z4, z5] [] I L (some (.int r)) I L) : ∀ (n : Nat) (v1 : Int32) (v2 : Int32) (v3 : Int32) (v4 : Int32) (v5 : Int32), f_M_homes_45 F I k14 n v1 v2 v3 v4 v5 = some r → xEv X (d + 5) 216 45 [.ref 131, .int v1, .int v2, .int v3, .int v4, .int v5] [] I L (some (.int r)) I L := by
  intro n
  induction n with
  | zero => intro v1 v2 v3 v4 v5 h; rw [f_M_homes_45] at h; cases h
  | succ n ih =>
    intro v1 v2 v3 v4 v5 h 
    rw [f_M_homes_45] at h
    refine xeb 2 (pc' := 48) (ls' := [.ref 131, .int v1, .int v2, .int v3, .int v4, .int v5]) (st' := [.int 4, .int v5]) rfl ?_
    by_cases c8 : 4 ≤ v5
    · rw [if_pos c8] at h
      refine xei_ge_t rfl c8 ?_
      refine xeb 1 (pc' := 73) (ls' := [.ref 131, .int v1, .int v2, .int v3, .int v4, .int v5]) (st' := [.int v4]) rfl ?_
      have hj : xEv X (d + 5) 216 79 [.ref 131, .int v1, .int (if v4 = 0 then v2 else (v2 + 1)), .int v3, .int v4, .int v5] [] I L (some (.int r)) I L := by
        refine xeb 2 (pc' := 14) (ls' := [.ref 131, .int v1, .int (if v4 = 0 then v2 else (v2 + 1)), .int (v3 + 1), .int v4, .int v5]) (st' := []) rfl ?_
        exact hk14 v1 (if v4 = 0 then v2 else (v2 + 1)) (v3 + 1) h _ _
      by_cases c9 : v4 = 0
      · simp only [if_pos c9] at hj
        refine xef_eq_t rfl c9 ?_
        exact xeb 0 rfl hj
      · simp only [if_neg c9] at hj
        refine xef_eq_f rfl c9 ?_
        exact xeb 1 rfl hj
    · rw [if_neg c8] at h
      refine xei_ge_f rfl c8 ?_
      refine xeb 4 (pc' := 56) (ls' := [.ref 131, .int v1, .int v2, .int v3, .int v4, .int v5]) (st' := [.int v3, .int v5, .int v1, .ref 131]) rfl ?_
      obtain ⟨q10, eq10, h⟩ := xbind_some h
      refine xcallV rfl xsh131 rfl rfl rfl (Nat.le_of_ble_eq_true rfl) (Nat.le_of_ble_eq_true rfl) (Nat.le_of_ble_eq_true rfl) rfl (g_M_wouldFit (d := d + 0) _ eq10) ?_
      have hj : xEv X (d + 5) 216 65 [.ref 131, .int v1, .int v2, .int v3, .int (if q10 = 0 then v4 else 1), .int v5] [] I L (some (.int r)) I L := by
        refine xeb 2 (pc' := 45) (ls' := [.ref 131, .int v1, .int v2, .int v3, .int (if q10 = 0 then v4 else 1), .int (v5 + 1)]) (st' := []) rfl ?_
        exact ih v1 v2 v3 (if q10 = 0 then v4 else 1) (v5 + 1) h
      by_cases c11 : q10 = 0
      · simp only [if_pos c11] at hj
        refine xef_eq_t rfl c11 ?_
        exact xeb 0 rfl hj
      · simp only [if_neg c11] at hj
        refine xef_eq_f rfl c11 ?_
        exact xeb 2 rfl hj
noncomputable def f_M_homes_14 (F : Nat) (I : XI) : Nat → Int32 → Int32 → Int32 → Option (Int32)
  | 0, _, _, _ => none
  | n + 1, v1, v2, v3 =>
    if 30 ≤ v3 then (some v2) else ((f_M_isThere I v3).bind fun q4 => if q4 = 0 then (f_M_homes_14 F I n v1 v2 (v3 + 1)) else ((f_M_isHole I v3).bind fun q6 => if q6 = 0 then (f_M_homes_14 F I n v1 v2 (v3 + 1)) else (f_M_homes_45 F I (fun v1 v2 v3 => f_M_homes_14 F I n v1 v2 v3) F v1 v2 v3 0 0)))
theorem g_M_homes_14 {X : XX} {d : Nat} {L : XL} {F : Nat} {I : XI}  {r : Int32}  : ∀ (n : Nat) (v1 : Int32) (v2 : Int32) (v3 : Int32), f_M_homes_14 F I n v1 v2 v3 = some r → ∀ (z4 : Value) (z5 : Value), xEv X (d + 5) 216 14 [.ref 131, .int v1, .int v2, .int v3, z4, z5] [] I L (some (.int r)) I L := by
  intro n
  induction n with
  | zero => intro v1 v2 v3 h; rw [f_M_homes_14] at h; cases h
  | succ n ih =>
    intro v1 v2 v3 h z4 z5
    rw [f_M_homes_14] at h
    refine xeb 2 (pc' := 17) (ls' := [.ref 131, .int v1, .int v2, .int v3, z4, z5]) (st' := [.int 30, .int v3]) rfl ?_
    by_cases c3 : 30 ≤ v3
    · rw [if_pos c3] at h
      refine xei_ge_t rfl c3 ?_
      refine xeb 1 (pc' := 86) (ls' := [.ref 131, .int v1, .int v2, .int v3, z4, z5]) (st' := [.int v2]) rfl ?_
      obtain rfl := Option.some.inj h
      exact xeiret rfl rfl
    · rw [if_neg c3] at h
      refine xei_ge_f rfl c3 ?_
      refine xeb 2 (pc' := 22) (ls' := [.ref 131, .int v1, .int v2, .int v3, z4, z5]) (st' := [.int v3, .ref 131]) rfl ?_
      obtain ⟨q4, eq4, h⟩ := xbind_some h
      refine xcallV rfl xsh131 rfl rfl rfl (Nat.le_of_ble_eq_true rfl) (Nat.le_of_ble_eq_true rfl) (Nat.le_of_ble_eq_true rfl) rfl (g_M_isThere (d := d + 2) _ eq4) ?_
      by_cases c5 : q4 = 0
      · rw [if_pos c5] at h
        refine xef_eq_t rfl c5 ?_
        refine xeb 2 (pc' := 14) (ls' := [.ref 131, .int v1, .int v2, .int (v3 + 1), z4, z5]) (st' := []) rfl ?_
        exact ih v1 v2 (v3 + 1) h _ _
      · rw [if_neg c5] at h
        refine xef_eq_f rfl c5 ?_
        refine xeb 2 (pc' := 30) (ls' := [.ref 131, .int v1, .int v2, .int v3, z4, z5]) (st' := [.int v3, .ref 131]) rfl ?_
        obtain ⟨q6, eq6, h⟩ := xbind_some h
        refine xcallV rfl xsh131 rfl rfl rfl (Nat.le_of_ble_eq_true rfl) (Nat.le_of_ble_eq_true rfl) (Nat.le_of_ble_eq_true rfl) rfl (g_M_isHole (d := d + 3) _ eq6) ?_
        by_cases c7 : q6 = 0
        · rw [if_pos c7] at h
          refine xef_ne_t rfl c7 ?_
          refine xeb 3 (pc' := 14) (ls' := [.ref 131, .int v1, .int v2, .int (v3 + 1), z4, z5]) (st' := []) rfl ?_
          exact ih v1 v2 (v3 + 1) h _ _
        · rw [if_neg c7] at h
          refine xef_ne_f rfl c7 ?_
          refine xeb 4 (pc' := 45) (ls' := [.ref 131, .int v1, .int v2, .int v3, .int 0, .int 0]) (st' := []) rfl ?_
          exact g_M_homes_45 (fun v1 v2 v3 h' z4 z5 => ih v1 v2 v3 h' z4 z5) F v1 v2 v3 0 0 h
noncomputable def f_M_homes (F : Nat) (I : XI) (a1 : Int32) : Option (Int32) :=
  (f_M_isSpare I a1).bind fun q1 => if q1 = 0 then (some (-1)) else (f_M_homes_14 F I F a1 0 0)
theorem g_M_homes {X : XX} {d : Nat} {L : XL} {F : Nat} {I : XI} {a1 : Int32}  (r : Int32) (h : f_M_homes F I a1 = some r) : xEv X (d + 5) 216 0 [.ref 131, .int a1, .null, .null, .null, .null] [] I L (some (.int r)) I L := by
  rw [f_M_homes] at h
  refine xeb 2 (pc' := 2) (ls' := [.ref 131, .int a1, .null, .null, .null, .null]) (st' := [.int a1, .ref 131]) rfl ?_
  obtain ⟨q1, eq1, h⟩ := xbind_some h
  refine xcallV rfl xsh131 rfl rfl rfl (Nat.le_of_ble_eq_true rfl) (Nat.le_of_ble_eq_true rfl) (Nat.le_of_ble_eq_true rfl) rfl (g_M_isSpare (d := d + 3) _ eq1) ?_
  by_cases c2 : q1 = 0
  · rw [if_pos c2] at h
    refine xef_ne_t rfl c2 ?_
    refine xeb 1 (pc' := 9) (ls' := [.ref 131, .int a1, .null, .null, .null, .null]) (st' := [.int (-1)]) rfl ?_
    obtain rfl := Option.some.inj h
    exact xeiret rfl rfl
  · rw [if_neg c2] at h
    refine xef_ne_f rfl c2 ?_
    refine xeb 4 (pc' := 14) (ls' := [.ref 131, .int a1, .int 0, .int 0, .null, .null]) (st' := []) rfl ?_
    exact g_M_homes_14 F a1 0 0 h _ _
noncomputable def f_H_free_4 (F : Nat) (I : XI) : Nat → Int32 → Int32 → Option (Int32)
  | 0, _, _ => none
  | n + 1, v1, v2 =>
    if 30 ≤ v2 then (some v1) else ((f_Table_isPiece 17 I v2).bind fun q2 => if q2 = 0 then (f_H_free_4 F I n v1 (v2 + 1)) else ((f_State_lies 26 I v2).bind fun q4 => if q4 = 0 then ((f_Board_clashes F 26 I v2 (-1)).bind fun q6 => f_H_free_4 F I n (if q6 = 0 then (v1 + 1) else v1) (v2 + 1)) else (f_H_free_4 F I n v1 (v2 + 1))))
theorem g_H_free_4 {X : XX} {d : Nat} {L : XL} {F : Nat} {I : XI}  {r : Int32}  : ∀ (n : Nat) (v1 : Int32) (v2 : Int32), f_H_free_4 F I n v1 v2 = some r → xEv X (d + 3) 217 4 [.ref 0, .int v1, .int v2] [] I L (some (.int r)) I L := by
  intro n
  induction n with
  | zero => intro v1 v2 h; rw [f_H_free_4] at h; cases h
  | succ n ih =>
    intro v1 v2 h 
    rw [f_H_free_4] at h
    refine xeb 2 (pc' := 7) (ls' := [.ref 0, .int v1, .int v2]) (st' := [.int 30, .int v2]) rfl ?_
    by_cases c1 : 30 ≤ v2
    · rw [if_pos c1] at h
      refine xei_ge_t rfl c1 ?_
      refine xeb 1 (pc' := 58) (ls' := [.ref 0, .int v1, .int v2]) (st' := [.int v1]) rfl ?_
      obtain rfl := Option.some.inj h
      exact xeiret rfl rfl
    · rw [if_neg c1] at h
      refine xei_ge_f rfl c1 ?_
      refine xeb 1 (pc' := 11) (ls' := [.ref 0, .int v1, .int v2]) (st' := [.ref 0]) rfl ?_
      refine xegf2 rfl xsh0 (by decide) rfl ?_
      refine xeb 1 (pc' := 15) (ls' := [.ref 0, .int v1, .int v2]) (st' := [.int v2, .ref 17]) rfl ?_
      obtain ⟨q2, eq2, h⟩ := xbind_some h
      refine xcallV rfl xsh17 rfl rfl rfl (Nat.le_of_ble_eq_true rfl) (Nat.le_of_ble_eq_true rfl) (Nat.le_of_ble_eq_true rfl) rfl (g_Table_isPiece (d := d + 2) xis17 _ eq2) ?_
      by_cases c3 : q2 = 0
      · rw [if_pos c3] at h
        refine xef_eq_t rfl c3 ?_
        refine xeb 2 (pc' := 4) (ls' := [.ref 0, .int v1, .int (v2 + 1)]) (st' := []) rfl ?_
        exact ih v1 (v2 + 1) h
      · rw [if_neg c3] at h
        refine xef_eq_f rfl c3 ?_
        refine xeb 1 (pc' := 22) (ls' := [.ref 0, .int v1, .int v2]) (st' := [.ref 0]) rfl ?_
        refine xegf2 rfl xsh0 (by decide) rfl ?_
        refine xeb 1 (pc' := 26) (ls' := [.ref 0, .int v1, .int v2]) (st' := [.int v2, .ref 26]) rfl ?_
        obtain ⟨q4, eq4, h⟩ := xbind_some h
        refine xcallV rfl xsh26 rfl rfl rfl (Nat.le_of_ble_eq_true rfl) (Nat.le_of_ble_eq_true rfl) (Nat.le_of_ble_eq_true rfl) rfl (g_State_lies (d := d + 2) xis26 _ eq4) ?_
        by_cases c5 : q4 = 0
        · rw [if_pos c5] at h
          refine xef_ne_t rfl c5 ?_
          refine xeb 1 (pc' := 33) (ls' := [.ref 0, .int v1, .int v2]) (st' := [.ref 0]) rfl ?_
          refine xegf2 rfl xsh0 (by decide) rfl ?_
          refine xeb 1 (pc' := 37) (ls' := [.ref 0, .int v1, .int v2]) (st' := [.ref 0, .ref 30]) rfl ?_
          refine xegf2 rfl xsh0 (by decide) rfl ?_
          refine xeb 2 (pc' := 42) (ls' := [.ref 0, .int v1, .int v2]) (st' := [.int (-1), .int v2, .ref 26, .ref 30]) rfl ?_
          obtain ⟨q6, eq6, h⟩ := xbind_some h
          refine xcallV rfl xsh30 rfl rfl rfl (Nat.le_of_ble_eq_true rfl) (Nat.le_of_ble_eq_true rfl) (Nat.le_of_ble_eq_true rfl) rfl (g_Board_clashes (d := d + 0) xis26 _ eq6) ?_
          have hj : xEv X (d + 3) 217 51 [.ref 0, .int (if q6 = 0 then (v1 + 1) else v1), .int v2] [] I L (some (.int r)) I L := by
            refine xeb 2 (pc' := 4) (ls' := [.ref 0, .int (if q6 = 0 then (v1 + 1) else v1), .int (v2 + 1)]) (st' := []) rfl ?_
            exact ih (if q6 = 0 then (v1 + 1) else v1) (v2 + 1) h
          by_cases c7 : q6 = 0
          · simp only [if_pos c7] at hj
            refine xef_ne_t rfl c7 ?_
            exact xeb 1 rfl hj
          · simp only [if_neg c7] at hj
            refine xef_ne_f rfl c7 ?_
            exact xeb 0 rfl hj
        · rw [if_neg c5] at h
          refine xef_ne_f rfl c5 ?_
          refine xeb 2 (pc' := 4) (ls' := [.ref 0, .int v1, .int (v2 + 1)]) (st' := []) rfl ?_
          exact ih v1 (v2 + 1) h
noncomputable def f_H_free (F : Nat) (I : XI) : Option (Int32) :=
  f_H_free_4 F I F 0 0
theorem g_H_free {X : XX} {d : Nat} {L : XL} {F : Nat} {I : XI}  (r : Int32) (h : f_H_free F I = some r) : xEv X (d + 3) 217 0 [.ref 0, .null, .null] [] I L (some (.int r)) I L := by
  rw [f_H_free] at h
  refine xeb 4 (pc' := 4) (ls' := [.ref 0, .int 0, .int 0]) (st' := []) rfl ?_
  exact g_H_free_4 F 0 0 h
noncomputable def f_M_free_8 (F : Nat) : Nat → Int32 → Int32 → XI → Option (Int32 × XI)
  | 0, _, _, _ => none
  | n + 1, v1, v2, I =>
    if 30 ≤ v2 then (some (v1, I)) else ((f_M_isThere I v2).bind fun q3 => if q3 = 0 then (f_M_free_8 F n v1 (v2 + 1) I) else ((f_M_canLay F I v2).bind fun q5 => f_M_free_8 F n (if q5 = 0 then v1 else (v1 + 1)) (v2 + 1) I))
theorem g_M_free_8 {X : XX} {d : Nat} {L : XL} {F : Nat}  {r : Int32 × XI}  : ∀ (n : Nat) (v1 : Int32) (v2 : Int32) (I : XI), f_M_free_8 F n v1 v2 I = some r → xEv X (d + 6) 218 8 [.ref 131, .int v1, .int v2] [] I L (some (.int r.1)) r.2 L := by
  intro n
  induction n with
  | zero => intro v1 v2 I h; rw [f_M_free_8] at h; cases h
  | succ n ih =>
    intro v1 v2 I h 
    rw [f_M_free_8] at h
    refine xeb 2 (pc' := 11) (ls' := [.ref 131, .int v1, .int v2]) (st' := [.int 30, .int v2]) rfl ?_
    by_cases c2 : 30 ≤ v2
    · rw [if_pos c2] at h
      refine xei_ge_t rfl c2 ?_
      refine xeb 1 (pc' := 40) (ls' := [.ref 131, .int v1, .int v2]) (st' := [.int v1]) rfl ?_
      obtain rfl := Option.some.inj h
      exact xeiret rfl rfl
    · rw [if_neg c2] at h
      refine xei_ge_f rfl c2 ?_
      refine xeb 2 (pc' := 16) (ls' := [.ref 131, .int v1, .int v2]) (st' := [.int v2, .ref 131]) rfl ?_
      obtain ⟨q3, eq3, h⟩ := xbind_some h
      refine xcallV rfl xsh131 rfl rfl rfl (Nat.le_of_ble_eq_true rfl) (Nat.le_of_ble_eq_true rfl) (Nat.le_of_ble_eq_true rfl) rfl (g_M_isThere (d := d + 3) _ eq3) ?_
      by_cases c4 : q3 = 0
      · rw [if_pos c4] at h
        refine xef_eq_t rfl c4 ?_
        refine xeb 2 (pc' := 8) (ls' := [.ref 131, .int v1, .int (v2 + 1)]) (st' := []) rfl ?_
        exact ih v1 (v2 + 1) I h
      · rw [if_neg c4] at h
        refine xef_eq_f rfl c4 ?_
        refine xeb 2 (pc' := 24) (ls' := [.ref 131, .int v1, .int v2]) (st' := [.int v2, .ref 131]) rfl ?_
        obtain ⟨q5, eq5, h⟩ := xbind_some h
        refine xcallV rfl xsh131 rfl rfl rfl (Nat.le_of_ble_eq_true rfl) (Nat.le_of_ble_eq_true rfl) (Nat.le_of_ble_eq_true rfl) rfl (g_M_canLay (d := d + 0) _ eq5) ?_
        have hj : xEv X (d + 6) 218 33 [.ref 131, .int (if q5 = 0 then v1 else (v1 + 1)), .int v2] [] I L (some (.int r.1)) r.2 L := by
          refine xeb 2 (pc' := 8) (ls' := [.ref 131, .int (if q5 = 0 then v1 else (v1 + 1)), .int (v2 + 1)]) (st' := []) rfl ?_
          exact ih (if q5 = 0 then v1 else (v1 + 1)) (v2 + 1) I h
        by_cases c6 : q5 = 0
        · simp only [if_pos c6] at hj
          refine xef_eq_t rfl c6 ?_
          exact xeb 0 rfl hj
        · simp only [if_neg c6] at hj
          refine xef_eq_f rfl c6 ?_
          exact xeb 1 rfl hj
noncomputable def f_M_free (F : Nat) (I : XI) : Option (Int32 × XI) :=
  (f_M_copies F I).bind fun q1 => f_M_free_8 F F 0 0 q1
theorem g_M_free {X : XX} {d : Nat} {L : XL} {F : Nat} {I : XI}  (r : Int32 × XI) (h : f_M_free F I = some r) : xEv X (d + 6) 218 0 [.ref 131, .null, .null] [] I L (some (.int r.1)) r.2 L := by
  rw [f_M_free] at h
  refine xeb 1 (pc' := 1) (ls' := [.ref 131, .null, .null]) (st' := [.ref 131]) rfl ?_
  obtain ⟨q1, eq1, h⟩ := xbind_some h
  refine xcallV rfl xsh131 rfl rfl rfl (Nat.le_of_ble_eq_true rfl) (Nat.le_of_ble_eq_true rfl) (Nat.le_of_ble_eq_true rfl) rfl (g_M_copies (d := d + 5) _ eq1) ?_
  refine xeb 4 (pc' := 8) (ls' := [.ref 131, .int 0, .int 0]) (st' := []) rfl ?_
  exact g_M_free_8 F 0 0 q1 h
noncomputable def f_Board_borderOf_16 (F : Nat) (S1 : Nat) (I : XI) (k6 : Int32 → Int32 → Int32 → Int32 → Option (Int32)) : Nat → Int32 → Int32 → Int32 → Int32 → Int32 → Option (Int32)
  | 0, _, _, _, _, _ => none
  | n + 1, v2, v3, v4, v5, v6 =>
    if 4 ≤ v6 then (k6 v2 v3 v4 (v5 + 1)) else ((f_Board_liesOf S1 I v5 v2).bind fun q3 => if q3 = 0 then (k6 v2 v3 v4 (v5 + 1)) else ((f_Board_linked S1 I v5 v6).bind fun q5 => if q5 = 0 then (f_Board_borderOf_16 F S1 I k6 n v2 v3 v4 v5 (v6 + 1)) else ((f_Table_beside 17 I v5 v6).bind fun q7 => xck (xin q7 30) (f_Board_borderOf_16 F S1 I k6 n v2 v3 (if (I 18 (xN q7)) = v3 then (v4 + 1) else v4) v5 (v6 + 1)))))
theorem g_Board_borderOf_16 {X : XX} {d : Nat} {L : XL} {F : Nat} {S1 : Nat} {I : XI} {k6 : Int32 → Int32 → Int32 → Int32 → Option (Int32)} (hS1 : xisSt S1) {r : Int32} (hk6 : ∀ (v2 : Int32) (v3 : Int32) (v4 : Int32) (v5 : Int32), k6 v2 v3 v4 v5 = some r → ∀ (z6 : Value), xEv X (d + 3) 219 6 [.ref 30, .ref S1, .int v2, .int v3, .int v4, .int v5, z6] [] I L (some (.int r)) I L) : ∀ (n : Nat) (v2 : Int32) (v3 : Int32) (v4 : Int32) (v5 : Int32) (v6 : Int32), f_Board_borderOf_16 F S1 I k6 n v2 v3 v4 v5 v6 = some r → xEv X (d + 3) 219 16 [.ref 30, .ref S1, .int v2, .int v3, .int v4, .int v5, .int v6] [] I L (some (.int r)) I L := by
  intro n
  induction n with
  | zero => intro v2 v3 v4 v5 v6 h; rw [f_Board_borderOf_16] at h; cases h
  | succ n ih =>
    intro v2 v3 v4 v5 v6 h 
    rw [f_Board_borderOf_16] at h
    refine xeb 2 (pc' := 19) (ls' := [.ref 30, .ref S1, .int v2, .int v3, .int v4, .int v5, .int v6]) (st' := [.int 4, .int v6]) rfl ?_
    by_cases c2 : 4 ≤ v6
    · rw [if_pos c2] at h
      refine xei_ge_t rfl c2 ?_
      refine xeb 2 (pc' := 6) (ls' := [.ref 30, .ref S1, .int v2, .int v3, .int v4, .int (v5 + 1), .int v6]) (st' := []) rfl ?_
      exact hk6 v2 v3 v4 (v5 + 1) h _
    · rw [if_neg c2] at h
      refine xei_ge_f rfl c2 ?_
      refine xeb 4 (pc' := 27) (ls' := [.ref 30, .ref S1, .int v2, .int v3, .int v4, .int v5, .int v6]) (st' := [.int v2, .int v5, .ref S1, .ref 30]) rfl ?_
      obtain ⟨q3, eq3, h⟩ := xbind_some h
      refine xcallV rfl xsh30 rfl rfl rfl (Nat.le_of_ble_eq_true rfl) (Nat.le_of_ble_eq_true rfl) (Nat.le_of_ble_eq_true rfl) rfl (g_Board_liesOf (d := d + 1) hS1 _ eq3) ?_
      by_cases c4 : q3 = 0
      · rw [if_pos c4] at h
        refine xef_eq_t rfl c4 ?_
        refine xeb 2 (pc' := 6) (ls' := [.ref 30, .ref S1, .int v2, .int v3, .int v4, .int (v5 + 1), .int v6]) (st' := []) rfl ?_
        exact hk6 v2 v3 v4 (v5 + 1) h _
      · rw [if_neg c4] at h
        refine xef_eq_f rfl c4 ?_
        refine xeb 4 (pc' := 39) (ls' := [.ref 30, .ref S1, .int v2, .int v3, .int v4, .int v5, .int v6]) (st' := [.int v6, .int v5, .ref S1, .ref 30]) rfl ?_
        obtain ⟨q5, eq5, h⟩ := xbind_some h
        refine xcallV rfl xsh30 rfl rfl rfl (Nat.le_of_ble_eq_true rfl) (Nat.le_of_ble_eq_true rfl) (Nat.le_of_ble_eq_true rfl) rfl (g_Board_linked (d := d + 0) hS1 _ eq5) ?_
        by_cases c6 : q5 = 0
        · rw [if_pos c6] at h
          refine xef_eq_t rfl c6 ?_
          refine xeb 2 (pc' := 16) (ls' := [.ref 30, .ref S1, .int v2, .int v3, .int v4, .int v5, .int (v6 + 1)]) (st' := []) rfl ?_
          exact ih v2 v3 v4 v5 (v6 + 1) h
        · rw [if_neg c6] at h
          refine xef_eq_f rfl c6 ?_
          refine xeb 1 (pc' := 46) (ls' := [.ref 30, .ref S1, .int v2, .int v3, .int v4, .int v5, .int v6]) (st' := [.ref 30]) rfl ?_
          refine xegf2 rfl xsh30 (by decide) rfl ?_
          refine xegf12 rfl xsh17 (by decide) rfl ?_
          refine xeb 1 (pc' := 53) (ls' := [.ref 30, .ref S1, .int v2, .int v3, .int v4, .int v5, .int v6]) (st' := [.ref 30, .ref 18]) rfl ?_
          refine xegf2 rfl xsh30 (by decide) rfl ?_
          refine xeb 2 (pc' := 60) (ls' := [.ref 30, .ref S1, .int v2, .int v3, .int v4, .int v5, .int v6]) (st' := [.int v6, .int v5, .ref 17, .ref 18]) rfl ?_
          obtain ⟨q7, eq7, h⟩ := xbind_some h
          refine xcallV rfl xsh17 rfl rfl rfl (Nat.le_of_ble_eq_true rfl) (Nat.le_of_ble_eq_true rfl) (Nat.le_of_ble_eq_true rfl) rfl (g_Table_beside (d := d + 2) xis17 _ eq7) ?_
          obtain ⟨b8, h⟩ := xck_some h
          refine xeia rfl xsh18 b8 ?_
          refine xeb 1 (pc' := 65) (ls' := [.ref 30, .ref S1, .int v2, .int v3, .int v4, .int v5, .int v6]) (st' := [.int v3, .int (I 18 (xN q7))]) rfl ?_
          have hj : xEv X (d + 3) 219 71 [.ref 30, .ref S1, .int v2, .int v3, .int (if (I 18 (xN q7)) = v3 then (v4 + 1) else v4), .int v5, .int v6] [] I L (some (.int r)) I L := by
            refine xeb 2 (pc' := 16) (ls' := [.ref 30, .ref S1, .int v2, .int v3, .int (if (I 18 (xN q7)) = v3 then (v4 + 1) else v4), .int v5, .int (v6 + 1)]) (st' := []) rfl ?_
            exact ih v2 v3 (if (I 18 (xN q7)) = v3 then (v4 + 1) else v4) v5 (v6 + 1) h
          by_cases c9 : (I 18 (xN q7)) = v3
          · simp only [if_pos c9] at hj
            refine xei_ne_t rfl c9 ?_
            exact xeb 1 rfl hj
          · simp only [if_neg c9] at hj
            refine xei_ne_f rfl c9 ?_
            exact xeb 0 rfl hj
noncomputable def f_Board_borderOf_6 (F : Nat) (S1 : Nat) (I : XI) : Nat → Int32 → Int32 → Int32 → Int32 → Option (Int32)
  | 0, _, _, _, _ => none
  | n + 1, v2, v3, v4, v5 =>
    if 30 ≤ v5 then (some v4) else (f_Board_borderOf_16 F S1 I (fun v2 v3 v4 v5 => f_Board_borderOf_6 F S1 I n v2 v3 v4 v5) F v2 v3 v4 v5 0)
theorem g_Board_borderOf_6 {X : XX} {d : Nat} {L : XL} {F : Nat} {S1 : Nat} {I : XI} (hS1 : xisSt S1) {r : Int32}  : ∀ (n : Nat) (v2 : Int32) (v3 : Int32) (v4 : Int32) (v5 : Int32), f_Board_borderOf_6 F S1 I n v2 v3 v4 v5 = some r → ∀ (z6 : Value), xEv X (d + 3) 219 6 [.ref 30, .ref S1, .int v2, .int v3, .int v4, .int v5, z6] [] I L (some (.int r)) I L := by
  intro n
  induction n with
  | zero => intro v2 v3 v4 v5 h; rw [f_Board_borderOf_6] at h; cases h
  | succ n ih =>
    intro v2 v3 v4 v5 h z6
    rw [f_Board_borderOf_6] at h
    refine xeb 2 (pc' := 10) (ls' := [.ref 30, .ref S1, .int v2, .int v3, .int v4, .int v5, z6]) (st' := [.int 30, .int v5]) rfl ?_
    by_cases c1 : 30 ≤ v5
    · rw [if_pos c1] at h
      refine xei_ge_t rfl c1 ?_
      refine xeb 1 (pc' := 85) (ls' := [.ref 30, .ref S1, .int v2, .int v3, .int v4, .int v5, z6]) (st' := [.int v4]) rfl ?_
      obtain rfl := Option.some.inj h
      exact xeiret rfl rfl
    · rw [if_neg c1] at h
      refine xei_ge_f rfl c1 ?_
      refine xeb 2 (pc' := 16) (ls' := [.ref 30, .ref S1, .int v2, .int v3, .int v4, .int v5, .int 0]) (st' := []) rfl ?_
      exact g_Board_borderOf_16 hS1 (fun v2 v3 v4 v5 h' z6 => ih v2 v3 v4 v5 h' z6) F v2 v3 v4 v5 0 h
noncomputable def f_Board_borderOf (F : Nat) (S1 : Nat) (I : XI) (a2 : Int32) (a3 : Int32) : Option (Int32) :=
  f_Board_borderOf_6 F S1 I F a2 a3 0 0
theorem g_Board_borderOf {X : XX} {d : Nat} {L : XL} {F : Nat} {S1 : Nat} {I : XI} {a2 : Int32} {a3 : Int32} (hS1 : xisSt S1) (r : Int32) (h : f_Board_borderOf F S1 I a2 a3 = some r) : xEv X (d + 3) 219 0 [.ref 30, .ref S1, .int a2, .int a3, .null, .null, .null] [] I L (some (.int r)) I L := by
  rw [f_Board_borderOf] at h
  refine xeb 4 (pc' := 6) (ls' := [.ref 30, .ref S1, .int a2, .int a3, .int 0, .int 0, .null]) (st' := []) rfl ?_
  exact g_Board_borderOf_6 hS1 F a2 a3 0 0 h _
noncomputable def f_H_border (F : Nat) (I : XI) (a1 : Int32) (a2 : Int32) : Option (Int32) :=
  (f_H_isLand a1).bind fun q1 => if q1 = 0 then (some (-1)) else ((f_H_isLand a2).bind fun q3 => if q3 = 0 then (some (-1)) else (if a1 = a2 then (some (-1)) else ((f_Board_borderOf F 26 I a1 a2).bind fun q6 => some q6)))
theorem g_H_border {X : XX} {d : Nat} {L : XL} {F : Nat} {I : XI} {a1 : Int32} {a2 : Int32}  (r : Int32) (h : f_H_border F I a1 a2 = some r) : xEv X (d + 4) 220 0 [.ref 0, .int a1, .int a2] [] I L (some (.int r)) I L := by
  rw [f_H_border] at h
  refine xeb 1 (pc' := 1) (ls' := [.ref 0, .int a1, .int a2]) (st' := [.int a1]) rfl ?_
  obtain ⟨q1, eq1, h⟩ := xbind_some h
  refine xcallS20 rfl rfl rfl (Nat.le_of_ble_eq_true rfl) (Nat.le_of_ble_eq_true rfl) (Nat.le_of_ble_eq_true rfl) rfl (g_H_isLand (d := d + 3) _ eq1) ?_
  by_cases c2 : q1 = 0
  · rw [if_pos c2] at h
    refine xef_eq_t rfl c2 ?_
    refine xeb 1 (pc' := 36) (ls' := [.ref 0, .int a1, .int a2]) (st' := [.int (-1)]) rfl ?_
    obtain rfl := Option.some.inj h
    exact xeiret rfl rfl
  · rw [if_neg c2] at h
    refine xef_eq_f rfl c2 ?_
    refine xeb 1 (pc' := 8) (ls' := [.ref 0, .int a1, .int a2]) (st' := [.int a2]) rfl ?_
    obtain ⟨q3, eq3, h⟩ := xbind_some h
    refine xcallS20 rfl rfl rfl (Nat.le_of_ble_eq_true rfl) (Nat.le_of_ble_eq_true rfl) (Nat.le_of_ble_eq_true rfl) rfl (g_H_isLand (d := d + 3) _ eq3) ?_
    by_cases c4 : q3 = 0
    · rw [if_pos c4] at h
      refine xef_eq_t rfl c4 ?_
      refine xeb 1 (pc' := 36) (ls' := [.ref 0, .int a1, .int a2]) (st' := [.int (-1)]) rfl ?_
      obtain rfl := Option.some.inj h
      exact xeiret rfl rfl
    · rw [if_neg c4] at h
      refine xef_eq_f rfl c4 ?_
      refine xeb 2 (pc' := 16) (ls' := [.ref 0, .int a1, .int a2]) (st' := [.int a2, .int a1]) rfl ?_
      by_cases c5 : a1 = a2
      · rw [if_pos c5] at h
        refine xei_eq_t rfl c5 ?_
        refine xeb 1 (pc' := 36) (ls' := [.ref 0, .int a1, .int a2]) (st' := [.int (-1)]) rfl ?_
        obtain rfl := Option.some.inj h
        exact xeiret rfl rfl
      · rw [if_neg c5] at h
        refine xei_eq_f rfl c5 ?_
        refine xeb 1 (pc' := 20) (ls' := [.ref 0, .int a1, .int a2]) (st' := [.ref 0]) rfl ?_
        refine xegf2 rfl xsh0 (by decide) rfl ?_
        refine xeb 1 (pc' := 24) (ls' := [.ref 0, .int a1, .int a2]) (st' := [.ref 0, .ref 30]) rfl ?_
        refine xegf2 rfl xsh0 (by decide) rfl ?_
        refine xeb 2 (pc' := 29) (ls' := [.ref 0, .int a1, .int a2]) (st' := [.int a2, .int a1, .ref 26, .ref 30]) rfl ?_
        obtain ⟨q6, eq6, h⟩ := xbind_some h
        refine xcallV rfl xsh30 rfl rfl rfl (Nat.le_of_ble_eq_true rfl) (Nat.le_of_ble_eq_true rfl) (Nat.le_of_ble_eq_true rfl) rfl (g_Board_borderOf (d := d + 0) xis26 _ eq6) ?_
        refine xeb 1 (pc' := 36) (ls' := [.ref 0, .int a1, .int a2]) (st' := [.int q6]) rfl ?_
        obtain rfl := Option.some.inj h
        exact xeiret rfl rfl
noncomputable def f_M_border_44 (F : Nat) (k34 : Int32 → Int32 → Int32 → Int32 → XI → Option (Int32 × XI)) : Nat → Int32 → Int32 → Int32 → Int32 → Int32 → XI → Option (Int32 × XI)
  | 0, _, _, _, _, _, _ => none
  | n + 1, v1, v2, v3, v4, v5, I =>
    if 4 ≤ v5 then (k34 v1 v2 v3 (v4 + 1) I) else ((f_M_isOf I v4 v1).bind fun q9 => if q9 = 0 then (f_M_border_44 F k34 n v1 v2 v3 v4 (v5 + 1) I) else ((f_M_areJoinedOver I v4 v5).bind fun q11 => if q11 = 0 then (f_M_border_44 F k34 n v1 v2 v3 v4 (v5 + 1) I) else ((f_M_overTo I v4 v5).bind fun q13 => (f_M_landAt I q13).bind fun q14 => f_M_border_44 F k34 n v1 v2 (if q14 = v2 then (v3 + 1) else v3) v4 (v5 + 1) I)))
theorem g_M_border_44 {X : XX} {d : Nat} {L : XL} {F : Nat} {k34 : Int32 → Int32 → Int32 → Int32 → XI → Option (Int32 × XI)}  {r : Int32 × XI} (hk34 : ∀ (v1 : Int32) (v2 : Int32) (v3 : Int32) (v4 : Int32) (I : XI), k34 v1 v2 v3 v4 I = some r → ∀ (z5 : Value), xEv X (d + 5) 221 34 [.ref 131, .int v1, .int v2, .int v3, .int v4, z5] [] I L (some (.int r.1)) r.2 L) : ∀ (n : Nat) (v1 : Int32) (v2 : Int32) (v3 : Int32) (v4 : Int32) (v5 : Int32) (I : XI), f_M_border_44 F k34 n v1 v2 v3 v4 v5 I = some r → xEv X (d + 5) 221 44 [.ref 131, .int v1, .int v2, .int v3, .int v4, .int v5] [] I L (some (.int r.1)) r.2 L := by
  intro n
  induction n with
  | zero => intro v1 v2 v3 v4 v5 I h; rw [f_M_border_44] at h; cases h
  | succ n ih =>
    intro v1 v2 v3 v4 v5 I h 
    rw [f_M_border_44] at h
    refine xeb 2 (pc' := 47) (ls' := [.ref 131, .int v1, .int v2, .int v3, .int v4, .int v5]) (st' := [.int 4, .int v5]) rfl ?_
    by_cases c8 : 4 ≤ v5
    · rw [if_pos c8] at h
      refine xei_ge_t rfl c8 ?_
      refine xeb 2 (pc' := 34) (ls' := [.ref 131, .int v1, .int v2, .int v3, .int (v4 + 1), .int v5]) (st' := []) rfl ?_
      exact hk34 v1 v2 v3 (v4 + 1) I h _
    · rw [if_neg c8] at h
      refine xei_ge_f rfl c8 ?_
      refine xeb 3 (pc' := 54) (ls' := [.ref 131, .int v1, .int v2, .int v3, .int v4, .int v5]) (st' := [.int v1, .int v4, .ref 131]) rfl ?_
      obtain ⟨q9, eq9, h⟩ := xbind_some h
      refine xcallV rfl xsh131 rfl rfl rfl (Nat.le_of_ble_eq_true rfl) (Nat.le_of_ble_eq_true rfl) (Nat.le_of_ble_eq_true rfl) rfl (g_M_isOf (d := d + 1) _ eq9) ?_
      by_cases c10 : q9 = 0
      · rw [if_pos c10] at h
        refine xef_eq_t rfl c10 ?_
        refine xeb 2 (pc' := 44) (ls' := [.ref 131, .int v1, .int v2, .int v3, .int v4, .int (v5 + 1)]) (st' := []) rfl ?_
        exact ih v1 v2 v3 v4 (v5 + 1) I h
      · rw [if_neg c10] at h
        refine xef_eq_f rfl c10 ?_
        refine xeb 3 (pc' := 65) (ls' := [.ref 131, .int v1, .int v2, .int v3, .int v4, .int v5]) (st' := [.int v5, .int v4, .ref 131]) rfl ?_
        obtain ⟨q11, eq11, h⟩ := xbind_some h
        refine xcallV rfl xsh131 rfl rfl rfl (Nat.le_of_ble_eq_true rfl) (Nat.le_of_ble_eq_true rfl) (Nat.le_of_ble_eq_true rfl) rfl (g_M_areJoinedOver (d := d + 0) _ eq11) ?_
        by_cases c12 : q11 = 0
        · rw [if_pos c12] at h
          refine xef_eq_t rfl c12 ?_
          refine xeb 2 (pc' := 44) (ls' := [.ref 131, .int v1, .int v2, .int v3, .int v4, .int (v5 + 1)]) (st' := []) rfl ?_
          exact ih v1 v2 v3 v4 (v5 + 1) I h
        · rw [if_neg c12] at h
          refine xef_eq_f rfl c12 ?_
          refine xeb 4 (pc' := 77) (ls' := [.ref 131, .int v1, .int v2, .int v3, .int v4, .int v5]) (st' := [.int v5, .int v4, .ref 131, .ref 131]) rfl ?_
          obtain ⟨q13, eq13, h⟩ := xbind_some h
          refine xcallV rfl xsh131 rfl rfl rfl (Nat.le_of_ble_eq_true rfl) (Nat.le_of_ble_eq_true rfl) (Nat.le_of_ble_eq_true rfl) rfl (g_M_overTo (d := d + 2) _ eq13) ?_
          obtain ⟨q14, eq14, h⟩ := xbind_some h
          refine xcallV rfl xsh131 rfl rfl rfl (Nat.le_of_ble_eq_true rfl) (Nat.le_of_ble_eq_true rfl) (Nat.le_of_ble_eq_true rfl) rfl (g_M_landAt (d := d + 4) _ eq14) ?_
          refine xeb 1 (pc' := 84) (ls' := [.ref 131, .int v1, .int v2, .int v3, .int v4, .int v5]) (st' := [.int v2, .int q14]) rfl ?_
          have hj : xEv X (d + 5) 221 90 [.ref 131, .int v1, .int v2, .int (if q14 = v2 then (v3 + 1) else v3), .int v4, .int v5] [] I L (some (.int r.1)) r.2 L := by
            refine xeb 2 (pc' := 44) (ls' := [.ref 131, .int v1, .int v2, .int (if q14 = v2 then (v3 + 1) else v3), .int v4, .int (v5 + 1)]) (st' := []) rfl ?_
            exact ih v1 v2 (if q14 = v2 then (v3 + 1) else v3) v4 (v5 + 1) I h
          by_cases c15 : q14 = v2
          · simp only [if_pos c15] at hj
            refine xei_ne_t rfl c15 ?_
            exact xeb 1 rfl hj
          · simp only [if_neg c15] at hj
            refine xei_ne_f rfl c15 ?_
            exact xeb 0 rfl hj
noncomputable def f_M_border_34 (F : Nat) : Nat → Int32 → Int32 → Int32 → Int32 → XI → Option (Int32 × XI)
  | 0, _, _, _, _, _ => none
  | n + 1, v1, v2, v3, v4, I =>
    if 30 ≤ v4 then (some (v3, I)) else (f_M_border_44 F (fun v1 v2 v3 v4 I => f_M_border_34 F n v1 v2 v3 v4 I) F v1 v2 v3 v4 0 I)
theorem g_M_border_34 {X : XX} {d : Nat} {L : XL} {F : Nat}  {r : Int32 × XI}  : ∀ (n : Nat) (v1 : Int32) (v2 : Int32) (v3 : Int32) (v4 : Int32) (I : XI), f_M_border_34 F n v1 v2 v3 v4 I = some r → ∀ (z5 : Value), xEv X (d + 5) 221 34 [.ref 131, .int v1, .int v2, .int v3, .int v4, z5] [] I L (some (.int r.1)) r.2 L := by
  intro n
  induction n with
  | zero => intro v1 v2 v3 v4 I h; rw [f_M_border_34] at h; cases h
  | succ n ih =>
    intro v1 v2 v3 v4 I h z5
    rw [f_M_border_34] at h
    refine xeb 2 (pc' := 38) (ls' := [.ref 131, .int v1, .int v2, .int v3, .int v4, z5]) (st' := [.int 30, .int v4]) rfl ?_
    by_cases c7 : 30 ≤ v4
    · rw [if_pos c7] at h
      refine xei_ge_t rfl c7 ?_
      refine xeb 1 (pc' := 103) (ls' := [.ref 131, .int v1, .int v2, .int v3, .int v4, z5]) (st' := [.int v3]) rfl ?_
      obtain rfl := Option.some.inj h
      exact xeiret rfl rfl
    · rw [if_neg c7] at h
      refine xei_ge_f rfl c7 ?_
      refine xeb 2 (pc' := 44) (ls' := [.ref 131, .int v1, .int v2, .int v3, .int v4, .int 0]) (st' := []) rfl ?_
      exact g_M_border_44 (fun v1 v2 v3 v4 I h' z5 => ih v1 v2 v3 v4 I h' z5) F v1 v2 v3 v4 0 I h
noncomputable def f_M_border (F : Nat) (a1 : Int32) (a2 : Int32) (I : XI) : Option (Int32 × XI) :=
  (f_M_in a1 0 4).bind fun q1 => if q1 = 0 then (some ((-1), I)) else ((f_M_in a2 0 4).bind fun q3 => if q3 = 0 then (some ((-1), I)) else (if a1 = a2 then (some ((-1), I)) else ((f_M_copies F I).bind fun q6 => f_M_border_34 F F a1 a2 0 0 q6)))
theorem g_M_border {X : XX} {d : Nat} {L : XL} {F : Nat} {a1 : Int32} {a2 : Int32} {I : XI}  (r : Int32 × XI) (h : f_M_border F a1 a2 I = some r) : xEv X (d + 5) 221 0 [.ref 131, .int a1, .int a2, .null, .null, .null] [] I L (some (.int r.1)) r.2 L := by
  rw [f_M_border] at h
  refine xeb 3 (pc' := 3) (ls' := [.ref 131, .int a1, .int a2, .null, .null, .null]) (st' := [.int 4, .int 0, .int a1]) rfl ?_
  obtain ⟨q1, eq1, h⟩ := xbind_some h
  refine xcallS20 rfl rfl rfl (Nat.le_of_ble_eq_true rfl) (Nat.le_of_ble_eq_true rfl) (Nat.le_of_ble_eq_true rfl) rfl (g_M_in (d := d + 4) _ eq1) ?_
  by_cases c2 : q1 = 0
  · rw [if_pos c2] at h
    refine xef_eq_t rfl c2 ?_
    refine xeb 1 (pc' := 24) (ls' := [.ref 131, .int a1, .int a2, .null, .null, .null]) (st' := [.int (-1)]) rfl ?_
    obtain rfl := Option.some.inj h
    exact xeiret rfl rfl
  · rw [if_neg c2] at h
    refine xef_eq_f rfl c2 ?_
    refine xeb 3 (pc' := 12) (ls' := [.ref 131, .int a1, .int a2, .null, .null, .null]) (st' := [.int 4, .int 0, .int a2]) rfl ?_
    obtain ⟨q3, eq3, h⟩ := xbind_some h
    refine xcallS20 rfl rfl rfl (Nat.le_of_ble_eq_true rfl) (Nat.le_of_ble_eq_true rfl) (Nat.le_of_ble_eq_true rfl) rfl (g_M_in (d := d + 4) _ eq3) ?_
    by_cases c4 : q3 = 0
    · rw [if_pos c4] at h
      refine xef_eq_t rfl c4 ?_
      refine xeb 1 (pc' := 24) (ls' := [.ref 131, .int a1, .int a2, .null, .null, .null]) (st' := [.int (-1)]) rfl ?_
      obtain rfl := Option.some.inj h
      exact xeiret rfl rfl
    · rw [if_neg c4] at h
      refine xef_eq_f rfl c4 ?_
      refine xeb 2 (pc' := 20) (ls' := [.ref 131, .int a1, .int a2, .null, .null, .null]) (st' := [.int a2, .int a1]) rfl ?_
      by_cases c5 : a1 = a2
      · rw [if_pos c5] at h
        refine xei_ne_t rfl c5 ?_
        refine xeb 1 (pc' := 24) (ls' := [.ref 131, .int a1, .int a2, .null, .null, .null]) (st' := [.int (-1)]) rfl ?_
        obtain rfl := Option.some.inj h
        exact xeiret rfl rfl
      · rw [if_neg c5] at h
        refine xei_ne_f rfl c5 ?_
        refine xeb 1 (pc' := 26) (ls' := [.ref 131, .int a1, .int a2, .null, .null, .null]) (st' := [.ref 131]) rfl ?_
        obtain ⟨q6, eq6, h⟩ := xbind_some h
        refine xcallV rfl xsh131 rfl rfl rfl (Nat.le_of_ble_eq_true rfl) (Nat.le_of_ble_eq_true rfl) (Nat.le_of_ble_eq_true rfl) rfl (g_M_copies (d := d + 4) _ eq6) ?_
        refine xeb 4 (pc' := 34) (ls' := [.ref 131, .int a1, .int a2, .int 0, .int 0, .null]) (st' := []) rfl ?_
        exact g_M_border_34 F a1 a2 0 0 q6 h _
noncomputable def f_H_richest_18 (F : Nat) : Nat → Int32 → Int32 → Int32 → Int32 → XI → Option (Int32 × XI)
  | 0, _, _, _, _, _ => none
  | n + 1, v1, v2, v3, v4, I =>
    if 5 ≤ v4 then (some ((if v1 = 0 then v2 else v3), I)) else ((f_Rules_taxes F 26 v4 I).bind fun q5 => f_H_richest_18 F n v1 (if q5.1 ≤ v3 then v2 else v4) (if q5.1 ≤ v3 then v3 else q5.1) (v4 + 1) q5.2)
theorem g_H_richest_18 {X : XX} {d : Nat} {L : XL} {F : Nat}  {r : Int32 × XI}  : ∀ (n : Nat) (v1 : Int32) (v2 : Int32) (v3 : Int32) (v4 : Int32) (I : XI), f_H_richest_18 F n v1 v2 v3 v4 I = some r → ∀ (z5 : Value), xEv X (d + 6) 222 18 [.ref 0, .int v1, .int v2, .int v3, .int v4, z5] [] I L (some (.int r.1)) r.2 L := by
  intro n
  induction n with
  | zero => intro v1 v2 v3 v4 I h; rw [f_H_richest_18] at h; cases h
  | succ n ih =>
    intro v1 v2 v3 v4 I h z5
    rw [f_H_richest_18] at h
    refine xeb 2 (pc' := 21) (ls' := [.ref 0, .int v1, .int v2, .int v3, .int v4, z5]) (st' := [.int 5, .int v4]) rfl ?_
    by_cases c3 : 5 ≤ v4
    · rw [if_pos c3] at h
      refine xei_ge_t rfl c3 ?_
      refine xeb 1 (pc' := 58) (ls' := [.ref 0, .int v1, .int v2, .int v3, .int v4, z5]) (st' := [.int v1]) rfl ?_
      have hj : xEv X (d + 6) 222 66 [.ref 0, .int v1, .int v2, .int v3, .int v4, z5] [.int (if v1 = 0 then v2 else v3)] I L (some (.int r.1)) r.2 L := by
        obtain rfl := Option.some.inj h
        exact xeiret rfl rfl
      by_cases c4 : v1 = 0
      · simp only [if_pos c4] at hj
        refine xef_ne_t rfl c4 ?_
        exact xeb 2 rfl hj
      · simp only [if_neg c4] at hj
        refine xef_ne_f rfl c4 ?_
        exact xeb 1 rfl hj
    · rw [if_neg c3] at h
      refine xei_ge_f rfl c3 ?_
      refine xeb 1 (pc' := 25) (ls' := [.ref 0, .int v1, .int v2, .int v3, .int v4, z5]) (st' := [.ref 0]) rfl ?_
      refine xegf2 rfl xsh0 (by decide) rfl ?_
      refine xeb 1 (pc' := 29) (ls' := [.ref 0, .int v1, .int v2, .int v3, .int v4, z5]) (st' := [.ref 0, .ref 32]) rfl ?_
      refine xegf2 rfl xsh0 (by decide) rfl ?_
      refine xeb 1 (pc' := 34) (ls' := [.ref 0, .int v1, .int v2, .int v3, .int v4, z5]) (st' := [.int v4, .ref 26, .ref 32]) rfl ?_
      obtain ⟨q5, eq5, h⟩ := xbind_some h
      refine xcallV rfl xsh32 rfl rfl rfl (Nat.le_of_ble_eq_true rfl) (Nat.le_of_ble_eq_true rfl) (Nat.le_of_ble_eq_true rfl) rfl (g_Rules_taxes (d := d + 0) xis26 _ eq5) ?_
      refine xeb 3 (pc' := 42) (ls' := [.ref 0, .int v1, .int v2, .int v3, .int v4, .int q5.1]) (st' := [.int v3, .int q5.1]) rfl ?_
      have hj : xEv X (d + 6) 222 51 [.ref 0, .int v1, .int (if q5.1 ≤ v3 then v2 else v4), .int (if q5.1 ≤ v3 then v3 else q5.1), .int v4, .int q5.1] [] q5.2 L (some (.int r.1)) r.2 L := by
        refine xeb 2 (pc' := 18) (ls' := [.ref 0, .int v1, .int (if q5.1 ≤ v3 then v2 else v4), .int (if q5.1 ≤ v3 then v3 else q5.1), .int (v4 + 1), .int q5.1]) (st' := []) rfl ?_
        exact ih v1 (if q5.1 ≤ v3 then v2 else v4) (if q5.1 ≤ v3 then v3 else q5.1) (v4 + 1) q5.2 h _
      by_cases c6 : q5.1 ≤ v3
      · simp only [if_pos c6] at hj
        refine xei_le_t rfl c6 ?_
        exact xeb 0 rfl hj
      · simp only [if_neg c6] at hj
        refine xei_le_f rfl c6 ?_
        exact xeb 4 rfl hj
noncomputable def f_H_richest (F : Nat) (a1 : Int32) (I : XI) : Option (Int32 × XI) :=
  if a1 < 0 then (some ((-1), I)) else (if a1 ≤ 1 then (f_H_richest_18 F F a1 0 0 0 I) else (some ((-1), I)))
theorem g_H_richest {X : XX} {d : Nat} {L : XL} {F : Nat} {a1 : Int32} {I : XI}  (r : Int32 × XI) (h : f_H_richest F a1 I = some r) : xEv X (d + 6) 222 0 [.ref 0, .int a1, .null, .null, .null, .null] [] I L (some (.int r.1)) r.2 L := by
  rw [f_H_richest] at h
  refine xeb 1 (pc' := 1) (ls' := [.ref 0, .int a1, .null, .null, .null, .null]) (st' := [.int a1]) rfl ?_
  by_cases c1 : a1 < 0
  · rw [if_pos c1] at h
    refine xef_lt_t rfl c1 ?_
    refine xeb 1 (pc' := 10) (ls' := [.ref 0, .int a1, .null, .null, .null, .null]) (st' := [.int (-1)]) rfl ?_
    obtain rfl := Option.some.inj h
    exact xeiret rfl rfl
  · rw [if_neg c1] at h
    refine xef_lt_f rfl c1 ?_
    refine xeb 2 (pc' := 6) (ls' := [.ref 0, .int a1, .null, .null, .null, .null]) (st' := [.int 1, .int a1]) rfl ?_
    by_cases c2 : a1 ≤ 1
    · rw [if_pos c2] at h
      refine xei_le_t rfl c2 ?_
      refine xeb 6 (pc' := 18) (ls' := [.ref 0, .int a1, .int 0, .int 0, .int 0, .null]) (st' := []) rfl ?_
      exact g_H_richest_18 F a1 0 0 0 I h _
    · rw [if_neg c2] at h
      refine xei_le_f rfl c2 ?_
      refine xeb 1 (pc' := 10) (ls' := [.ref 0, .int a1, .null, .null, .null, .null]) (st' := [.int (-1)]) rfl ?_
      obtain rfl := Option.some.inj h
      exact xeiret rfl rfl
noncomputable def f_M_richest_22 (F : Nat) : Nat → Int32 → Int32 → Int32 → Int32 → XI → Option (Int32 × XI)
  | 0, _, _, _, _, _ => none
  | n + 1, v1, v2, v3, v4, I =>
    if 5 ≤ v4 then (some ((if v1 = 0 then v2 else v3), I)) else ((f_M_taxOf F v4 I).bind fun q6 => f_M_richest_22 F n v1 (if v3 < q6.1 then v4 else v2) (if v3 < q6.1 then q6.1 else v3) (v4 + 1) q6.2)
theorem g_M_richest_22 {X : XX} {d : Nat} {L : XL} {F : Nat}  {r : Int32 × XI}  : ∀ (n : Nat) (v1 : Int32) (v2 : Int32) (v3 : Int32) (v4 : Int32) (I : XI), f_M_richest_22 F n v1 v2 v3 v4 I = some r → ∀ (z5 : Value), xEv X (d + 7) 223 22 [.ref 131, .int v1, .int v2, .int v3, .int v4, z5] [] I L (some (.int r.1)) r.2 L := by
  intro n
  induction n with
  | zero => intro v1 v2 v3 v4 I h; rw [f_M_richest_22] at h; cases h
  | succ n ih =>
    intro v1 v2 v3 v4 I h z5
    rw [f_M_richest_22] at h
    refine xeb 2 (pc' := 25) (ls' := [.ref 131, .int v1, .int v2, .int v3, .int v4, z5]) (st' := [.int 5, .int v4]) rfl ?_
    by_cases c4 : 5 ≤ v4
    · rw [if_pos c4] at h
      refine xei_ge_t rfl c4 ?_
      refine xeb 1 (pc' := 58) (ls' := [.ref 131, .int v1, .int v2, .int v3, .int v4, z5]) (st' := [.int v1]) rfl ?_
      have hj : xEv X (d + 7) 223 66 [.ref 131, .int v1, .int v2, .int v3, .int v4, z5] [.int (if v1 = 0 then v2 else v3)] I L (some (.int r.1)) r.2 L := by
        obtain rfl := Option.some.inj h
        exact xeiret rfl rfl
      by_cases c5 : v1 = 0
      · simp only [if_pos c5] at hj
        refine xef_ne_t rfl c5 ?_
        exact xeb 2 rfl hj
      · simp only [if_neg c5] at hj
        refine xef_ne_f rfl c5 ?_
        exact xeb 1 rfl hj
    · rw [if_neg c4] at h
      refine xei_ge_f rfl c4 ?_
      refine xeb 2 (pc' := 31) (ls' := [.ref 131, .int v1, .int v2, .int v3, .int v4, z5]) (st' := [.int v4, .ref 131]) rfl ?_
      obtain ⟨q6, eq6, h⟩ := xbind_some h
      refine xcallV rfl xsh131 rfl rfl rfl (Nat.le_of_ble_eq_true rfl) (Nat.le_of_ble_eq_true rfl) (Nat.le_of_ble_eq_true rfl) rfl (g_M_taxOf (d := d + 0) _ eq6) ?_
      refine xeb 3 (pc' := 39) (ls' := [.ref 131, .int v1, .int v2, .int v3, .int v4, .int q6.1]) (st' := [.int v3, .int q6.1]) rfl ?_
      have hj : xEv X (d + 7) 223 51 [.ref 131, .int v1, .int (if v3 < q6.1 then v4 else v2), .int (if v3 < q6.1 then q6.1 else v3), .int v4, .int q6.1] [] q6.2 L (some (.int r.1)) r.2 L := by
        refine xeb 2 (pc' := 22) (ls' := [.ref 131, .int v1, .int (if v3 < q6.1 then v4 else v2), .int (if v3 < q6.1 then q6.1 else v3), .int (v4 + 1), .int q6.1]) (st' := []) rfl ?_
        exact ih v1 (if v3 < q6.1 then v4 else v2) (if v3 < q6.1 then q6.1 else v3) (v4 + 1) q6.2 h _
      by_cases c7 : v3 < q6.1
      · simp only [if_pos c7] at hj
        refine xei_gt_t rfl c7 ?_
        exact xeb 4 rfl hj
      · simp only [if_neg c7] at hj
        refine xei_gt_f rfl c7 ?_
        exact xeb 1 rfl hj
noncomputable def f_M_richest (F : Nat) (a1 : Int32) (I : XI) : Option (Int32 × XI) :=
  (f_M_in a1 0 1).bind fun q1 => if q1 = 0 then (some ((-1), I)) else ((f_M_copies F I).bind fun q3 => f_M_richest_22 F F a1 0 0 0 q3)
theorem g_M_richest {X : XX} {d : Nat} {L : XL} {F : Nat} {a1 : Int32} {I : XI}  (r : Int32 × XI) (h : f_M_richest F a1 I = some r) : xEv X (d + 7) 223 0 [.ref 131, .int a1, .null, .null, .null, .null] [] I L (some (.int r.1)) r.2 L := by
  rw [f_M_richest] at h
  refine xeb 3 (pc' := 3) (ls' := [.ref 131, .int a1, .null, .null, .null, .null]) (st' := [.int 1, .int 0, .int a1]) rfl ?_
  obtain ⟨q1, eq1, h⟩ := xbind_some h
  refine xcallS20 rfl rfl rfl (Nat.le_of_ble_eq_true rfl) (Nat.le_of_ble_eq_true rfl) (Nat.le_of_ble_eq_true rfl) rfl (g_M_in (d := d + 6) _ eq1) ?_
  by_cases c2 : q1 = 0
  · rw [if_pos c2] at h
    refine xef_ne_t rfl c2 ?_
    refine xeb 1 (pc' := 10) (ls' := [.ref 131, .int a1, .null, .null, .null, .null]) (st' := [.int (-1)]) rfl ?_
    obtain rfl := Option.some.inj h
    exact xeiret rfl rfl
  · rw [if_neg c2] at h
    refine xef_ne_f rfl c2 ?_
    refine xeb 1 (pc' := 12) (ls' := [.ref 131, .int a1, .null, .null, .null, .null]) (st' := [.ref 131]) rfl ?_
    obtain ⟨q3, eq3, h⟩ := xbind_some h
    refine xcallV rfl xsh131 rfl rfl rfl (Nat.le_of_ble_eq_true rfl) (Nat.le_of_ble_eq_true rfl) (Nat.le_of_ble_eq_true rfl) rfl (g_M_copies (d := d + 6) _ eq3) ?_
    refine xeb 6 (pc' := 22) (ls' := [.ref 131, .int a1, .int 0, .int 0, .int 0, .null]) (st' := []) rfl ?_
    exact g_M_richest_22 F a1 0 0 0 q3 h _
noncomputable def f_Rules_ways_97 (F : Nat) (v4 : Int32) (s1 : Int32) (s2 : Int32) (I : XI) : Option (Int32 × XI) :=
  xck (xin s1 9) (xst (xput I 24 (xN s1) s2) fun I12 => xck (xin 8 9) (xst (xput I12 24 (xN 8) v4) fun I14 => (f_Laws_value F 21 0 I14).bind fun q15 => (f_Rules_held q15.1 1 99).bind fun q16 => some (q16, q15.2)))
theorem g_Rules_ways_97 {X : XX} {d : Nat} {L : XL} {F : Nat}  {r : Int32 × XI}  {v4 : Int32} {s1 : Int32} {s2 : Int32} {I : XI} (h : f_Rules_ways_97 F v4 s1 s2 I = some r) (z1 : Value) (z2 : Value) (z3 : Value) : xEv X (d + 2) 224 97 [.ref 32, z1, z2, z3, .int v4] [.int s2, .int s1, .ref 24] I L (some (.int r.1)) r.2 L := by
  rw [f_Rules_ways_97] at h
  obtain ⟨b11, h⟩ := xck_some h
  refine xeis rfl xsh24 b11 ?_
  obtain ⟨I12, hI12, h⟩ := xst_some h
  rw [← hI12]
  refine xeb 1 (pc' := 99) (ls' := [.ref 32, z1, z2, z3, .int v4]) (st' := [.ref 32]) rfl ?_
  refine xegf2 rfl xsh32 (by decide) rfl ?_
  refine xegf12 rfl xsh21 (by decide) rfl ?_
  refine xeb 2 (pc' := 109) (ls' := [.ref 32, z1, z2, z3, .int v4]) (st' := [.int v4, .int 8, .ref 24]) rfl ?_
  obtain ⟨b13, h⟩ := xck_some h
  refine xeis rfl xsh24 b13 ?_
  obtain ⟨I14, hI14, h⟩ := xst_some h
  rw [← hI14]
  refine xeb 1 (pc' := 111) (ls' := [.ref 32, z1, z2, z3, .int v4]) (st' := [.ref 32]) rfl ?_
  refine xegf2 rfl xsh32 (by decide) rfl ?_
  refine xeb 1 (pc' := 115) (ls' := [.ref 32, z1, z2, z3, .int v4]) (st' := [.int 0, .ref 21]) rfl ?_
  obtain ⟨q15, eq15, h⟩ := xbind_some h
  refine xcallV rfl xsh21 rfl rfl rfl (Nat.le_of_ble_eq_true rfl) (Nat.le_of_ble_eq_true rfl) (Nat.le_of_ble_eq_true rfl) rfl (g_Laws_value (d := d + 0) xis21 _ eq15) ?_
  refine xeb 2 (pc' := 121) (ls' := [.ref 32, z1, z2, z3, .int v4]) (st' := [.int 99, .int 1, .int q15.1]) rfl ?_
  obtain ⟨q16, eq16, h⟩ := xbind_some h
  refine xcallS20 rfl rfl rfl (Nat.le_of_ble_eq_true rfl) (Nat.le_of_ble_eq_true rfl) (Nat.le_of_ble_eq_true rfl) rfl (g_Rules_held (d := d + 1) _ eq16) ?_
  obtain rfl := Option.some.inj h
  exact xeiret rfl rfl
noncomputable def f_Rules_ways (F : Nat) (a1 : Int32) (a2 : Int32) (a3 : Int32) (a4 : Int32) (I : XI) : Option (Int32 × XI) :=
  (f_Laws_setDayAlone F 21 a1 I).bind fun q1 => xck (xin 0 9) (xst (xput q1 24 (xN 0) (a2 - a2 / 6 * 6)) fun I3 => xck (xin 1 9) (xst (xput I3 24 (xN 1) (a2 / 6)) fun I5 => xck (xin a2 30) (xck (xin 2 9) (xst (xput I5 24 (xN 2) (I5 18 (xN a2))) fun I8 => (f_Table_isPiece 17 I8 a2).bind fun q9 => if q9 = 0 then (f_Rules_ways_97 F a4 5 0 I8) else (xck (xin a2 30) (xck (xin a3 30) (f_Rules_ways_97 F a4 5 (if (I8 18 (xN a2)) = (I8 18 (xN a3)) then 1 else 0) I8)))))))
theorem g_Rules_ways {X : XX} {d : Nat} {L : XL} {F : Nat} {a1 : Int32} {a2 : Int32} {a3 : Int32} {a4 : Int32} {I : XI}  (r : Int32 × XI) (h : f_Rules_ways F a1 a2 a3 a4 I = some r) : xEv X (d + 2) 224 0 [.ref 32, .int a1, .int a2, .int a3, .int a4] [] I L (some (.int r.1)) r.2 L := by
  rw [f_Rules_ways] at h
  refine xeb 1 (pc' := 1) (ls' := [.ref 32, .int a1, .int a2, .int a3, .int a4]) (st' := [.ref 32]) rfl ?_
  refine xegf2 rfl xsh32 (by decide) rfl ?_
  refine xeb 1 (pc' := 5) (ls' := [.ref 32, .int a1, .int a2, .int a3, .int a4]) (st' := [.int a1, .ref 21]) rfl ?_
  obtain ⟨q1, eq1, h⟩ := xbind_some h
  refine xcallV rfl xsh21 rfl rfl rfl (Nat.le_of_ble_eq_true rfl) (Nat.le_of_ble_eq_true rfl) (Nat.le_of_ble_eq_true rfl) rfl (g_Laws_setDayAlone (d := d + 0) xis21 _ eq1) ?_
  refine xeb 1 (pc' := 9) (ls' := [.ref 32, .int a1, .int a2, .int a3, .int a4]) (st' := [.ref 32]) rfl ?_
  refine xegf2 rfl xsh32 (by decide) rfl ?_
  refine xegf12 rfl xsh21 (by decide) rfl ?_
  refine xeb 4 (pc' := 20) (ls' := [.ref 32, .int a1, .int a2, .int a3, .int a4]) (st' := [.int (a2 - a2 / 6 * 6), .int 0, .ref 24]) rfl ?_
  obtain ⟨b2, h⟩ := xck_some h
  refine xeis rfl xsh24 b2 ?_
  obtain ⟨I3, hI3, h⟩ := xst_some h
  rw [← hI3]
  refine xeb 1 (pc' := 22) (ls' := [.ref 32, .int a1, .int a2, .int a3, .int a4]) (st' := [.ref 32]) rfl ?_
  refine xegf2 rfl xsh32 (by decide) rfl ?_
  refine xegf12 rfl xsh21 (by decide) rfl ?_
  refine xeb 4 (pc' := 33) (ls' := [.ref 32, .int a1, .int a2, .int a3, .int a4]) (st' := [.int (a2 / 6), .int 1, .ref 24]) rfl ?_
  obtain ⟨b4, h⟩ := xck_some h
  refine xeis rfl xsh24 b4 ?_
  obtain ⟨I5, hI5, h⟩ := xst_some h
  rw [← hI5]
  refine xeb 1 (pc' := 35) (ls' := [.ref 32, .int a1, .int a2, .int a3, .int a4]) (st' := [.ref 32]) rfl ?_
  refine xegf2 rfl xsh32 (by decide) rfl ?_
  refine xegf12 rfl xsh21 (by decide) rfl ?_
  refine xeb 2 (pc' := 43) (ls' := [.ref 32, .int a1, .int a2, .int a3, .int a4]) (st' := [.ref 32, .int 2, .ref 24]) rfl ?_
  refine xegf2 rfl xsh32 (by decide) rfl ?_
  refine xegf12 rfl xsh17 (by decide) rfl ?_
  refine xeb 1 (pc' := 50) (ls' := [.ref 32, .int a1, .int a2, .int a3, .int a4]) (st' := [.int a2, .ref 18, .int 2, .ref 24]) rfl ?_
  obtain ⟨b6, h⟩ := xck_some h
  refine xeia rfl xsh18 b6 ?_
  obtain ⟨b7, h⟩ := xck_some h
  refine xeis rfl xsh24 b7 ?_
  obtain ⟨I8, hI8, h⟩ := xst_some h
  rw [← hI8]
  refine xeb 1 (pc' := 53) (ls' := [.ref 32, .int a1, .int a2, .int a3, .int a4]) (st' := [.ref 32]) rfl ?_
  refine xegf2 rfl xsh32 (by decide) rfl ?_
  refine xegf12 rfl xsh21 (by decide) rfl ?_
  refine xeb 2 (pc' := 61) (ls' := [.ref 32, .int a1, .int a2, .int a3, .int a4]) (st' := [.ref 32, .int 5, .ref 24]) rfl ?_
  refine xegf2 rfl xsh32 (by decide) rfl ?_
  refine xeb 1 (pc' := 65) (ls' := [.ref 32, .int a1, .int a2, .int a3, .int a4]) (st' := [.int a2, .ref 17, .int 5, .ref 24]) rfl ?_
  obtain ⟨q9, eq9, h⟩ := xbind_some h
  refine xcallV rfl xsh17 rfl rfl rfl (Nat.le_of_ble_eq_true rfl) (Nat.le_of_ble_eq_true rfl) (Nat.le_of_ble_eq_true rfl) rfl (g_Table_isPiece (d := d + 1) xis17 _ eq9) ?_
  by_cases c10 : q9 = 0
  · rw [if_pos c10] at h
    refine xef_eq_t rfl c10 ?_
    refine xeb 1 (pc' := 97) (ls' := [.ref 32, .int a1, .int a2, .int a3, .int a4]) (st' := [.int 0, .int 5, .ref 24]) rfl ?_
    exact g_Rules_ways_97 h _ _ _
  · rw [if_neg c10] at h
    refine xef_eq_f rfl c10 ?_
    refine xeb 1 (pc' := 72) (ls' := [.ref 32, .int a1, .int a2, .int a3, .int a4]) (st' := [.ref 32, .int 5, .ref 24]) rfl ?_
    refine xegf2 rfl xsh32 (by decide) rfl ?_
    refine xegf12 rfl xsh17 (by decide) rfl ?_
    refine xeb 1 (pc' := 79) (ls' := [.ref 32, .int a1, .int a2, .int a3, .int a4]) (st' := [.int a2, .ref 18, .int 5, .ref 24]) rfl ?_
    obtain ⟨b17, h⟩ := xck_some h
    refine xeia rfl xsh18 b17 ?_
    refine xeb 1 (pc' := 81) (ls' := [.ref 32, .int a1, .int a2, .int a3, .int a4]) (st' := [.ref 32, .int (I8 18 (xN a2)), .int 5, .ref 24]) rfl ?_
    refine xegf2 rfl xsh32 (by decide) rfl ?_
    refine xegf12 rfl xsh17 (by decide) rfl ?_
    refine xeb 1 (pc' := 88) (ls' := [.ref 32, .int a1, .int a2, .int a3, .int a4]) (st' := [.int a3, .ref 18, .int (I8 18 (xN a2)), .int 5, .ref 24]) rfl ?_
    obtain ⟨b18, h⟩ := xck_some h
    refine xeia rfl xsh18 b18 ?_
    have hj : xEv X (d + 2) 224 97 [.ref 32, .int a1, .int a2, .int a3, .int a4] [.int (if (I8 18 (xN a2)) = (I8 18 (xN a3)) then 1 else 0), .int 5, .ref 24] I8 L (some (.int r.1)) r.2 L := by
      exact g_Rules_ways_97 h _ _ _
    by_cases c19 : (I8 18 (xN a2)) = (I8 18 (xN a3))
    · simp only [if_pos c19] at hj
      refine xei_ne_t rfl c19 ?_
      exact xeb 2 rfl hj
    · simp only [if_neg c19] at hj
      refine xei_ne_f rfl c19 ?_
      exact xeb 1 rfl hj
noncomputable def f_H_step (F : Nat) (a1 : Int32) (a2 : Int32) (a3 : Int32) (I : XI) : Option (Int32 × XI) :=
  (f_Table_cellAt 17 I a1 a2).bind fun q1 => if q1 = (-1) then (some ((-1), I)) else ((f_H_isSide a3).bind fun q3 => if q3 = 0 then (some ((-1), I)) else ((f_Table_beside 17 I q1 a3).bind fun q5 => if q5 = (-1) then (some ((-1), I)) else ((f_Rules_ways F (I 26 1) q1 q5 a3 I).bind fun q7 => some (q7.1, q7.2))))
theorem g_H_step {X : XX} {d : Nat} {L : XL} {F : Nat} {a1 : Int32} {a2 : Int32} {a3 : Int32} {I : XI}  (r : Int32 × XI) (h : f_H_step F a1 a2 a3 I = some r) : xEv X (d + 3) 225 0 [.ref 0, .int a1, .int a2, .int a3, .null, .null] [] I L (some (.int r.1)) r.2 L := by
  rw [f_H_step] at h
  refine xeb 1 (pc' := 1) (ls' := [.ref 0, .int a1, .int a2, .int a3, .null, .null]) (st' := [.ref 0]) rfl ?_
  refine xegf2 rfl xsh0 (by decide) rfl ?_
  refine xeb 2 (pc' := 6) (ls' := [.ref 0, .int a1, .int a2, .int a3, .null, .null]) (st' := [.int a2, .int a1, .ref 17]) rfl ?_
  obtain ⟨q1, eq1, h⟩ := xbind_some h
  refine xcallV rfl xsh17 rfl rfl rfl (Nat.le_of_ble_eq_true rfl) (Nat.le_of_ble_eq_true rfl) (Nat.le_of_ble_eq_true rfl) rfl (g_Table_cellAt (d := d + 2) xis17 _ eq1) ?_
  refine xeb 3 (pc' := 14) (ls' := [.ref 0, .int a1, .int a2, .int a3, .int q1, .null]) (st' := [.int (-1), .int q1]) rfl ?_
  by_cases c2 : q1 = (-1)
  · rw [if_pos c2] at h
    refine xei_eq_t rfl c2 ?_
    refine xeb 1 (pc' := 25) (ls' := [.ref 0, .int a1, .int a2, .int a3, .int q1, .null]) (st' := [.int (-1)]) rfl ?_
    obtain rfl := Option.some.inj h
    exact xeiret rfl rfl
  · rw [if_neg c2] at h
    refine xei_eq_f rfl c2 ?_
    refine xeb 1 (pc' := 18) (ls' := [.ref 0, .int a1, .int a2, .int a3, .int q1, .null]) (st' := [.int a3]) rfl ?_
    obtain ⟨q3, eq3, h⟩ := xbind_some h
    refine xcallS20 rfl rfl rfl (Nat.le_of_ble_eq_true rfl) (Nat.le_of_ble_eq_true rfl) (Nat.le_of_ble_eq_true rfl) rfl (g_H_isSide (d := d + 2) _ eq3) ?_
    by_cases c4 : q3 = 0
    · rw [if_pos c4] at h
      refine xef_ne_t rfl c4 ?_
      refine xeb 1 (pc' := 25) (ls' := [.ref 0, .int a1, .int a2, .int a3, .int q1, .null]) (st' := [.int (-1)]) rfl ?_
      obtain rfl := Option.some.inj h
      exact xeiret rfl rfl
    · rw [if_neg c4] at h
      refine xef_ne_f rfl c4 ?_
      refine xeb 1 (pc' := 27) (ls' := [.ref 0, .int a1, .int a2, .int a3, .int q1, .null]) (st' := [.ref 0]) rfl ?_
      refine xegf2 rfl xsh0 (by decide) rfl ?_
      refine xeb 2 (pc' := 33) (ls' := [.ref 0, .int a1, .int a2, .int a3, .int q1, .null]) (st' := [.int a3, .int q1, .ref 17]) rfl ?_
      obtain ⟨q5, eq5, h⟩ := xbind_some h
      refine xcallV rfl xsh17 rfl rfl rfl (Nat.le_of_ble_eq_true rfl) (Nat.le_of_ble_eq_true rfl) (Nat.le_of_ble_eq_true rfl) rfl (g_Table_beside (d := d + 2) xis17 _ eq5) ?_
      refine xeb 3 (pc' := 41) (ls' := [.ref 0, .int a1, .int a2, .int a3, .int q1, .int q5]) (st' := [.int (-1), .int q5]) rfl ?_
      by_cases c6 : q5 = (-1)
      · rw [if_pos c6] at h
        refine xei_ne_t rfl c6 ?_
        refine xeb 2 (pc' := 67) (ls' := [.ref 0, .int a1, .int a2, .int a3, .int q1, .int q5]) (st' := [.int (-1)]) rfl ?_
        obtain rfl := Option.some.inj h
        exact xeiret rfl rfl
      · rw [if_neg c6] at h
        refine xei_ne_f rfl c6 ?_
        refine xeb 1 (pc' := 49) (ls' := [.ref 0, .int a1, .int a2, .int a3, .int q1, .int q5]) (st' := [.ref 0]) rfl ?_
        refine xegf2 rfl xsh0 (by decide) rfl ?_
        refine xeb 1 (pc' := 53) (ls' := [.ref 0, .int a1, .int a2, .int a3, .int q1, .int q5]) (st' := [.ref 0, .ref 32]) rfl ?_
        refine xegf2 rfl xsh0 (by decide) rfl ?_
        refine xegf10 rfl xsh26 (by decide) ?_
        refine xeb 3 (pc' := 64) (ls' := [.ref 0, .int a1, .int a2, .int a3, .int q1, .int q5]) (st' := [.int a3, .int q5, .int q1, .int (I 26 1), .ref 32]) rfl ?_
        obtain ⟨q7, eq7, h⟩ := xbind_some h
        refine xcallV rfl xsh32 rfl rfl rfl (Nat.le_of_ble_eq_true rfl) (Nat.le_of_ble_eq_true rfl) (Nat.le_of_ble_eq_true rfl) rfl (g_Rules_ways (d := d + 0) _ eq7) ?_
        obtain rfl := Option.some.inj h
        exact xeiret rfl rfl
noncomputable def f_M_wayOver_43 (F : Nat) (v2 : Int32) (s1 : Int32) (s2 : Int32) (I : XI) : Option (Int32 × XI) :=
  xck (xin s1 9) (xst (xput I 160 (xN s1) s2) fun I9 => xck (xin 8 9) (xst (xput I9 160 (xN 8) v2) fun I11 => (f_M_lawTells F 0 1 I11).bind fun q12 => (f_M_held q12.1 1 99).bind fun q13 => some (q13, q12.2)))
theorem g_M_wayOver_43 {X : XX} {d : Nat} {L : XL} {F : Nat}  {r : Int32 × XI}  {v2 : Int32} {s1 : Int32} {s2 : Int32} {I : XI} (h : f_M_wayOver_43 F v2 s1 s2 I = some r) (z1 : Value) (z3 : Value) : xEv X (d + 3) 226 43 [.ref 131, z1, .int v2, z3] [.int s2, .int s1, .ref 160] I L (some (.int r.1)) r.2 L := by
  rw [f_M_wayOver_43] at h
  obtain ⟨b8, h⟩ := xck_some h
  refine xeis rfl xsh160 b8 ?_
  obtain ⟨I9, hI9, h⟩ := xst_some h
  rw [← hI9]
  refine xeb 1 (pc' := 45) (ls' := [.ref 131, z1, .int v2, z3]) (st' := [.ref 131]) rfl ?_
  refine xegf2 rfl xsh131 (by decide) rfl ?_
  refine xeb 2 (pc' := 51) (ls' := [.ref 131, z1, .int v2, z3]) (st' := [.int v2, .int 8, .ref 160]) rfl ?_
  obtain ⟨b10, h⟩ := xck_some h
  refine xeis rfl xsh160 b10 ?_
  obtain ⟨I11, hI11, h⟩ := xst_some h
  rw [← hI11]
  refine xeb 3 (pc' := 55) (ls' := [.ref 131, z1, .int v2, z3]) (st' := [.int 1, .int 0, .ref 131]) rfl ?_
  obtain ⟨q12, eq12, h⟩ := xbind_some h
  refine xcallV rfl xsh131 rfl rfl rfl (Nat.le_of_ble_eq_true rfl) (Nat.le_of_ble_eq_true rfl) (Nat.le_of_ble_eq_true rfl) rfl (g_M_lawTells (d := d + 1) _ eq12) ?_
  refine xeb 2 (pc' := 61) (ls' := [.ref 131, z1, .int v2, z3]) (st' := [.int 99, .int 1, .int q12.1]) rfl ?_
  obtain ⟨q13, eq13, h⟩ := xbind_some h
  refine xcallS20 rfl rfl rfl (Nat.le_of_ble_eq_true rfl) (Nat.le_of_ble_eq_true rfl) (Nat.le_of_ble_eq_true rfl) rfl (g_M_held (d := d + 2) _ eq13) ?_
  obtain rfl := Option.some.inj h
  exact xeiret rfl rfl
noncomputable def f_M_wayOver (F : Nat) (a1 : Int32) (a2 : Int32) (I : XI) : Option (Int32 × XI) :=
  (f_M_overTo I a1 a2).bind fun q1 => (f_M_looksAt F a1 I).bind fun q2 => (f_M_isHole q2 a1).bind fun q3 => if q3 = 0 then ((f_M_landAt q2 a1).bind fun q5 => (f_M_landAt q2 q1).bind fun q6 => f_M_wayOver_43 F a2 5 (if q5 = q6 then 1 else 0) q2) else (f_M_wayOver_43 F a2 5 0 q2)
theorem g_M_wayOver {X : XX} {d : Nat} {L : XL} {F : Nat} {a1 : Int32} {a2 : Int32} {I : XI}  (r : Int32 × XI) (h : f_M_wayOver F a1 a2 I = some r) : xEv X (d + 3) 226 0 [.ref 131, .int a1, .int a2, .null] [] I L (some (.int r.1)) r.2 L := by
  rw [f_M_wayOver] at h
  refine xeb 3 (pc' := 3) (ls' := [.ref 131, .int a1, .int a2, .null]) (st' := [.int a2, .int a1, .ref 131]) rfl ?_
  obtain ⟨q1, eq1, h⟩ := xbind_some h
  refine xcallV rfl xsh131 rfl rfl rfl (Nat.le_of_ble_eq_true rfl) (Nat.le_of_ble_eq_true rfl) (Nat.le_of_ble_eq_true rfl) rfl (g_M_overTo (d := d + 0) _ eq1) ?_
  refine xeb 3 (pc' := 9) (ls' := [.ref 131, .int a1, .int a2, .int q1]) (st' := [.int a1, .ref 131]) rfl ?_
  obtain ⟨q2, eq2, h⟩ := xbind_some h
  refine xcallV rfl xsh131 rfl rfl rfl (Nat.le_of_ble_eq_true rfl) (Nat.le_of_ble_eq_true rfl) (Nat.le_of_ble_eq_true rfl) rfl (g_M_looksAt (d := d + 1) _ eq2) ?_
  refine xeb 1 (pc' := 13) (ls' := [.ref 131, .int a1, .int a2, .int q1]) (st' := [.ref 131]) rfl ?_
  refine xegf2 rfl xsh131 (by decide) rfl ?_
  refine xeb 3 (pc' := 19) (ls' := [.ref 131, .int a1, .int a2, .int q1]) (st' := [.int a1, .ref 131, .int 5, .ref 160]) rfl ?_
  obtain ⟨q3, eq3, h⟩ := xbind_some h
  refine xcallV rfl xsh131 rfl rfl rfl (Nat.le_of_ble_eq_true rfl) (Nat.le_of_ble_eq_true rfl) (Nat.le_of_ble_eq_true rfl) rfl (g_M_isHole (d := d + 1) _ eq3) ?_
  by_cases c4 : q3 = 0
  · rw [if_pos c4] at h
    refine xef_ne_t rfl c4 ?_
    refine xeb 2 (pc' := 27) (ls' := [.ref 131, .int a1, .int a2, .int q1]) (st' := [.int a1, .ref 131, .int 5, .ref 160]) rfl ?_
    obtain ⟨q5, eq5, h⟩ := xbind_some h
    refine xcallV rfl xsh131 rfl rfl rfl (Nat.le_of_ble_eq_true rfl) (Nat.le_of_ble_eq_true rfl) (Nat.le_of_ble_eq_true rfl) rfl (g_M_landAt (d := d + 2) _ eq5) ?_
    refine xeb 2 (pc' := 32) (ls' := [.ref 131, .int a1, .int a2, .int q1]) (st' := [.int q1, .ref 131, .int q5, .int 5, .ref 160]) rfl ?_
    obtain ⟨q6, eq6, h⟩ := xbind_some h
    refine xcallV rfl xsh131 rfl rfl rfl (Nat.le_of_ble_eq_true rfl) (Nat.le_of_ble_eq_true rfl) (Nat.le_of_ble_eq_true rfl) rfl (g_M_landAt (d := d + 2) _ eq6) ?_
    have hj : xEv X (d + 3) 226 43 [.ref 131, .int a1, .int a2, .int q1] [.int (if q5 = q6 then 1 else 0), .int 5, .ref 160] q2 L (some (.int r.1)) r.2 L := by
      exact g_M_wayOver_43 h _ _
    by_cases c7 : q5 = q6
    · simp only [if_pos c7] at hj
      refine xei_ne_t rfl c7 ?_
      exact xeb 2 rfl hj
    · simp only [if_neg c7] at hj
      refine xei_ne_f rfl c7 ?_
      exact xeb 1 rfl hj
  · rw [if_neg c4] at h
    refine xef_ne_f rfl c4 ?_
    refine xeb 1 (pc' := 43) (ls' := [.ref 131, .int a1, .int a2, .int q1]) (st' := [.int 0, .int 5, .ref 160]) rfl ?_
    exact g_M_wayOver_43 h _ _
